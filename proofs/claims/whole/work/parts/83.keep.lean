/-! what solve() leaves as it is, and that it goes through: the class's network -/
def kpt (n : Nat) : Bool := decide (n = 1) || (decide (8 ≤ n) && decide (n ≤ 12)) || (decide (14 ≤ n) && decide (n ≤ 21)) || (decide (62 ≤ n) && decide (n ≤ 67))
def zKp (S T : ZS) : Prop := (∀ n, kpt n = true → T.1 n = S.1 n) ∧ T.1 61 1 = S.1 61 1 ∧ T.1 61 2 = S.1 61 2
theorem zKp.rf (S : ZS) : zKp S S := ⟨fun _ _ => rfl, rfl, rfl⟩
theorem zKp.tr {S T U : ZS} (h : zKp S T) (g : zKp T U) : zKp S U := ⟨fun n hn => (g.1 n hn).trans (h.1 n hn), g.2.1.trans h.2.1, g.2.2.trans h.2.2⟩
theorem zKp.of {S T : ZS} (h : ∀ n, kpt n = true → T.1 n = S.1 n) (h1 : T.1 61 = S.1 61) : zKp S T := ⟨h, by rw [h1], by rw [h1]⟩
theorem zKp.u {S T : ZS} (h : zKp S T) {n j : Nat} {v : Int32} (hn : kpt n = false) (h61 : n ≠ 61) : zKp S (zu T n j v) := ⟨fun m hm => by rw [zu_ne (fun e => by rw [e, hn] at hm; cases hm)]; exact h.1 m hm, by rw [zu_ne (Ne.symm h61)]; exact h.2.1, by rw [zu_ne (Ne.symm h61)]; exact h.2.2⟩
theorem zKp.ur {S T : ZS} (h : zKp S T) {n : Nat} {f : Nat → Int32} (hn : kpt n = false) (h61 : n ≠ 61) : zKp S (zur T n f) := ⟨fun m hm => by unfold zur; dsimp only; rw [if_neg (fun e => by rw [e, hn] at hm; cases hm)]; exact h.1 m hm, by unfold zur; dsimp only; rw [if_neg (Ne.symm h61)]; exact h.2.1, by unfold zur; dsimp only; rw [if_neg (Ne.symm h61)]; exact h.2.2⟩
theorem zKp.u61 {S T : ZS} (h : zKp S T) {j : Nat} {v : Int32} (h1 : j ≠ 1) (h2 : j ≠ 2) : zKp S (zu T 61 j v) := ⟨fun m hm => by rw [zu_ne (fun e => by subst e; cases hm)]; exact h.1 m hm, by rw [zu_at, if_neg (fun w => h1 w.2.symm)]; exact h.2.1, by rw [zu_at, if_neg (fun w => h2 w.2.symm)]; exact h.2.2⟩
theorem zKp.w {S T : ZS} (h : zKp S T) {n j : Nat} {v : Int64} : zKp S (zw T n j v) := h
theorem zper_kp {n : Nat} (h : kpt n = true) : zper n = true := by
  unfold kpt at h
  unfold zper
  simp only [Bool.or_eq_true, Bool.and_eq_true, decide_eq_true_eq] at h ⊢
  omega
theorem zPer.kp {S T : ZS} (h : zPer S T) : zKp S T := ⟨fun n hn => (h.1 n (zper_kp hn)).1, h.2 1 (by decide) (by decide), h.2 2 (by decide) (by decide)⟩
theorem kpt_row {r : Nat} (h : r < 8) : kpt (14 + r) = true := by
  unfold kpt
  simp only [Bool.or_eq_true, Bool.and_eq_true, decide_eq_true_eq]
  omega
theorem zC.kp {S T : ZS} {nc nr : Nat} (h : zC S nc nr) (hp : zKp S T) : zC T nc nr := by
  obtain ⟨h1, h2, h3, h4, h5, h6, h7, h8, h9, h10, h11⟩ := h
  have p := hp.1
  refine ⟨h1, h2, by rw [p 1 rfl]; exact h3, by rw [p 1 rfl]; exact h4, by rw [hp.2.1]; exact h5, by rw [hp.2.2]; exact h6, fun c hc => ?_, fun r hr => ?_, fun r c hr hc => ?_, fun r c hr hc => ?_, fun r c hr hc hh => ?_⟩
  · rw [p 62 rfl, p 63 rfl, p 64 rfl, p 8 rfl, p 9 rfl, p 10 rfl]; exact h7 c hc
  · rw [p 65 rfl, p 66 rfl, p 11 rfl, p 12 rfl]; exact h8 r hr
  · rw [p 67 rfl, p (14 + r) (kpt_row (by omega))]; exact h9 r c hr hc
  · rw [p (14 + r) (kpt_row hr)]; exact h10 r c hr hc
  · rw [p (14 + r) (kpt_row hr)]; exact h11 r c hr hc hh
theorem v8 : vp_in (8 : Int32) 9 := by
  show vp_in (nI 8) 9
  exact vp_in_nI (by omega) (by omega)
theorem v0 : vp_in (0 : Int32) 8 := by
  show vp_in (nI 0) 8
  exact vp_in_nI (by omega) (by omega)
/-- a node's number -/
def nod (x : Int32) : Prop := ∃ u, u ≤ 8 ∧ x = nI u
theorem nod.v {x : Int32} (h : nod x) : vp_in x 9 := by
  obtain ⟨u, hu, rfl⟩ := h
  exact vp_in_nI (by omega) (by omega)
theorem nod8 : nod (8 : Int32) := ⟨8, by omega, rfl⟩
theorem nod_nI {u : Nat} (h : u ≤ 8) : nod (nI u) := ⟨u, h, rfl⟩
/-- arcs laid -/
def nOK (T : ZS) (m : Nat) : Prop := m ≤ 18 ∧ T.1 3 0 = nI m ∧ ∀ a, a < m → nod (T.1 26 a) ∧ nod (T.1 27 a)
theorem nOK.u {T : ZS} {m n j : Nat} {v : Int32} (h : nOK T m) (h3 : n ≠ 3) (h26 : n ≠ 26) (h27 : n ≠ 27) : nOK (zu T n j v) m := by
  refine ⟨h.1, by rw [zu_ne (Ne.symm h3)]; exact h.2.1, fun a ha => ?_⟩
  rw [zu_ne (Ne.symm h26), zu_ne (Ne.symm h27)]
  exact h.2.2 a ha
theorem s_addArc {m : Nat} {y1 y2 : Int32} {S T : ZS} {Q : Int32 → ZS → Prop} (hk : zKp S T) (hm : nOK T m) (h18 : m < 18) (hu : nod y1) (hl : nod y2) (q : ∀ U, zKp S U → nOK U (m + 1) → Q (nI m) U) : X1_addArc y1 y2 T Q := by
  unfold X1_addArc
  intro x ex
  rw [hm.2.1] at ex
  subst ex
  have hv : vp_in (nI m) 18 := vp_in_nI (by omega) (by omega)
  refine ⟨hv, fun U1 e1 => ⟨hv, fun U2 e2 U3 e3 => ?_⟩⟩
  rw [nI_clamp (by omega)] at e1 e2
  rw [nI_1] at e3
  subst e1
  subst e2
  subst e3
  refine q _ (((hk.u rfl (by decide)).u rfl (by decide)).u rfl (by decide)) ⟨by omega, by rw [zu_at, if_pos ⟨rfl, rfl⟩], fun a ha => ?_⟩
  rw [zu_ne (by decide : (26 : Nat) ≠ 3), zu_ne (by decide : (27 : Nat) ≠ 3), zu_ne (by decide : (26 : Nat) ≠ 27), zu_at, zu_at, zu_ne (by decide : (27 : Nat) ≠ 26)]
  by_cases e : a = m
  · rw [if_pos ⟨rfl, e⟩, if_pos ⟨rfl, e⟩]; exact ⟨hu, hl⟩
  · rw [if_neg (fun w => e w.2), if_neg (fun w => e w.2)]; exact hm.2.2 a (by omega)
theorem s_layColumn {c nc nr m : Nat} {S T : ZS} {Q : ZS → Prop} (hC : zC S nc nr) (hk : zKp S T) (hm : nOK T m) (h18 : m < 18) (hc : c < nc) (q : ∀ U, zKp S U → nOK U (m + 1) → Q U) : X1_layColumn (nI c) T Q := by
  have hT := hC.kp hk
  have h1 := hT.1
  have h2 := hT.2.1
  have h4 := hT.2.2.2.1
  have hvc : vp_in (nI c) 10 := vp_in_nI (by omega) (by omega)
  unfold X1_layColumn
  refine zl_up3 nr (fun i x y U => U = T ∧ nod x ∧ nod y) (by omega) (fun i x y U k hi hJ hk2 => ?_) 8 8 T ⟨rfl, nod8, nod8⟩
  obtain ⟨rfl, hx, hy⟩ := hJ
  show X1_layColumn_B11 (nI c) x y (nI i) U Q k
  unfold X1_layColumn_B11
  rw [h4]
  refine ⟨fun z => ?_, fun z => ?_⟩
  · unfold X1_layColumn_b70
    refine s_addArc hk hm h18 hx hy (fun V hV hm2 => ?_)
    have hva : vp_in (nI m) 18 := vp_in_nI (by omega) (by omega)
    have fin : ∀ (t : Int32) (W : ZS), zKp S W → nOK W (m + 1) → X1_layColumn_b178 x y (nI m) t (nI m) W Q := by
      intro t W hW hm3
      unfold X1_layColumn_b178
      refine ⟨hva, fun W1 e1 => ⟨hx.v, hva, hx.v, fun W2 e2 => ⟨hy.v, hva, hy.v, fun W3 e3 => ?_⟩⟩⟩
      subst e1
      subst e2
      subst e3
      exact q _ (((hW.u rfl (by decide)).u rfl (by decide)).u rfl (by decide)) (((hm3.u (by decide) (by decide) (by decide)).u (by decide) (by decide) (by decide)).u (by decide) (by decide) (by decide))
    refine ⟨hvc, hva, fun V1 e1 => ⟨hvc, hva, fun V2 e2 => ⟨hvc, hva, fun V3 e3 => ⟨hva, hva, fun V4 e4 => ?_⟩⟩⟩⟩
    have hW : zKp S V4 := by
      rw [e4, e3, e2, e1]
      exact (((hV.u rfl (by decide)).u rfl (by decide)).u rfl (by decide)).u rfl (by decide)
    have hN : nOK V4 (m + 1) := by
      rw [e4, e3, e2, e1]
      exact (((hm2.u (by decide) (by decide) (by decide)).u (by decide) (by decide) (by decide)).u (by decide) (by decide) (by decide)).u (by decide) (by decide) (by decide)
    exact ⟨hva, fun _ => ⟨hva, fin _ _ hW hN⟩, fun _ => ⟨hva, fin _ _ hW hN⟩⟩
  · have hlt := up_on (by omega) hi z
    have hvr : vp_in (nI i) 8 := vp_in_nI (by omega) (by omega)
    have go : ∀ x' y' w : Int32, nod x' → nod y' → w = nI i + 1 → k (x', y', w, U) := by
      intro x' y' w a b ew
      rw [nI_1] at ew
      subst ew
      exact hk2 hlt _ _ _ ⟨rfl, a, b⟩
    have ni : nod (nI i) := nod_nI (by omega)
    refine ⟨hvr, hvc, hvr, fun v _ => ?_⟩
    unfold X1_layColumn_b48 X1_layColumn_b62
    exact ⟨fun _ => ⟨fun _ w ew => go _ _ w hx hy ew, fun _ w ew => go _ _ w hx ni ew⟩, fun _ => ⟨fun _ w ew => go _ _ w ni hy ew, fun _ w ew => go _ _ w ni ni ew⟩⟩
theorem s_layFree {r m : Nat} {y2 : Int32} {S T : ZS} {Q : ZS → Prop} (hk : zKp S T) (hm : nOK T m) (h18 : m < 18) (hr : r < 8) (q : ∀ U, zKp S U → nOK U (m + 1) → Q U) : X1_layFree (nI r) y2 T Q := by
  have hva : vp_in (nI m) 18 := vp_in_nI (by omega) (by omega)
  have fin : ∀ W, zKp S W → nOK W (m + 1) → X1_layFree_b21 (nI m) W Q := by
    intro W hW hN
    unfold X1_layFree_b21
    refine ⟨hva, fun V1 e1 => ⟨hva, fun V2 e2 => ⟨hva, fun V3 e3 => ⟨hva, fun V4 e4 => ⟨hva, fun V5 e5 => ?_⟩⟩⟩⟩⟩
    subst e1
    subst e2
    subst e3
    subst e4
    subst e5
    exact q _ (((((hW.u rfl (by decide)).u rfl (by decide)).u rfl (by decide)).u rfl (by decide)).u rfl (by decide)) (((((hN.u (by decide) (by decide) (by decide)).u (by decide) (by decide) (by decide)).u (by decide) (by decide) (by decide)).u (by decide) (by decide) (by decide)).u (by decide) (by decide) (by decide))
  unfold X1_layFree
  exact ⟨fun _ => s_addArc hk hm h18 nod8 (nod_nI (by omega)) fin, fun _ => s_addArc hk hm h18 (nod_nI (by omega)) nod8 fin⟩
theorem s_lay {nc nr : Nat} {S : ZS} {Q : ZS → Prop} (hC : zC S nc nr) (q : ∀ T m, zKp S T → nOK T m → Q T) : X1_lay S Q := by
  have h1 := hC.1
  have h2 := hC.2.1
  unfold X1_lay
  refine m_fill (by omega) (fun S1 _ hS1 _ => ?_)
  have k1 : zKp S S1 := zKp.of (fun n hn => hS1 n (fun e => by subst e; cases hn)) (hS1 61 (by decide))
  refine zl_up nr (fun i T => zKp S T) (by omega) (fun i T k hi hJ hk => ?_) S1 k1
  have e4 := (hC.kp hJ).2.2.2.1
  show X1_lay_B10 (nI i) T Q k
  unfold X1_lay_B10
  rw [e4]
  refine ⟨fun z => ?_, fun z => ?_⟩
  · unfold X1_lay_b56
    intro T1 eT1
    subst eT1
    refine zl_up nc (fun j U => zKp S U ∧ nOK U j) (by omega) (fun j U k2 hj hJ2 hk2 => ?_) _ ⟨hJ.u rfl (by decide), by omega, by rw [zu_at, if_pos ⟨rfl, rfl⟩]; rfl, fun a ha => by omega⟩
    obtain ⟨kU, mU⟩ := hJ2
    have e3 := (hC.kp kU).2.2.1
    show X1_lay_B63 (nI j) U Q k2
    unfold X1_lay_B63
    rw [e3]
    refine ⟨fun z2 => ?_, fun z2 => ?_⟩
    · have := up_end (by omega) hj z2
      subst this
      unfold X1_lay_b84
      refine zl_up nr (fun r V => zKp S V ∧ ∃ m, m ≤ j + r ∧ nOK V m) (by omega) (fun r V k3 hr hJ3 hk3 => ?_) U ⟨kU, j, by omega, mU⟩
      obtain ⟨kV, m, hm, mV⟩ := hJ3
      have e4' := (hC.kp kV).2.2.2.1
      show X1_lay_B86 (nI r) V Q k3
      unfold X1_lay_B86 X1_lay_b117 X1_lay_b111
      rw [e4']
      refine ⟨fun z3 => q V m kV mV, fun z3 => ?_⟩
      have hlt := up_on (by omega) hr z3
      have hvr : vp_in (nI r) 8 := vp_in_nI (by omega) (by omega)
      refine ⟨hvr, fun _ => ⟨hvr, s_layFree kV mV (by omega) (by omega) (fun W kW mW w ew => ?_)⟩, fun _ w ew => ?_⟩
      · rw [nI_1] at ew
        subst ew
        exact hk3 hlt W ⟨kW, m + 1, by omega, mW⟩
      · rw [nI_1] at ew
        subst ew
        exact hk3 hlt V ⟨kV, m, by omega, mV⟩
    · have hlt := up_on (by omega) hj z2
      refine s_layColumn hC kU mU (by omega) hlt (fun W kW mW w ew => ?_)
      rw [nI_1] at ew
      subst ew
      exact hk2 hlt W ⟨kW, mW⟩
  · have hlt := up_on (by omega) hi z
    have hvr : vp_in (nI i) 8 := vp_in_nI (by omega) (by omega)
    have hvn : vp_in (nI i) 9 := vp_in_nI (by omega) (by omega)
    refine ⟨hvr, hvr, hvn, fun T1 e1 => ⟨v8, hvn, v8, fun T2 e2 w ew => ?_⟩⟩
    rw [nI_1] at ew
    subst ew
    subst e1
    subst e2
    exact hk hlt _ ((hJ.u rfl (by decide)).u rfl (by decide))
/-- arcs by which the nodes were reached -/
def bOK (T : ZS) (m : Nat) : Prop := ∀ v, v ≤ 8 → T.1 35 v = -1 ∨ ∃ a, a < m ∧ T.1 35 v = nI a
theorem bOK.u {T : ZS} {m n j : Nat} {v : Int32} (h : bOK T m) (h35 : n ≠ 35) : bOK (zu T n j v) m := fun w hw => by
  rw [zu_ne (Ne.symm h35)]
  exact h w hw
theorem bOK.s {T : ZS} {m j a : Nat} (h : bOK T m) (ha : a < m) : bOK (zu T 35 j (nI a)) m := fun w hw => by
  rw [zu_at]
  by_cases e : w = j
  · rw [if_pos ⟨rfl, e⟩]; exact Or.inr ⟨a, ha, rfl⟩
  · rw [if_neg (fun z => e z.2)]; exact h w hw
theorem s_comesNearer {a m : Nat} {y2 : Int32} {S T : ZS} {Q : Int32 → ZS → Prop} (hk : zKp S T) (hm : nOK T m) (hb : bOK T m) (ha : a < m) (hz : zbit y2) (q : ∀ v U, zbit v → zKp S U → nOK U m → bOK U m → Q v U) : X1_comesNearer (nI a) y2 T Q := by
  have h18 := hm.1
  have hva : vp_in (nI a) 18 := vp_in_nI (by omega) (by omega)
  have nn := hm.2.2 a ha
  have last : ∀ x4 t0 t1 : Int32, nod x4 → X1_comesNearer_b80 (nI a) y2 x4 t0 t1 T Q := by
    intro x4 t0 t1 h4
    unfold X1_comesNearer_b80
    intro x5 _
    refine ⟨h4.v, fun _ => ⟨h4.v, fun T1 e1 => ⟨h4.v, fun T2 e2 => ⟨hz, h4.v, fun T3 e3 => ⟨Or.inr rfl, ?_⟩⟩⟩⟩, fun _ => ⟨Or.inl rfl, q 0 T (Or.inl rfl) hk hm hb⟩⟩
    subst e1
    subst e2
    subst e3
    exact q 1 _ (Or.inr rfl) (((hk.u rfl (by decide)).u rfl (by decide)).u rfl (by decide)) (((hm.u (by decide) (by decide) (by decide)).u (by decide) (by decide) (by decide)).u (by decide) (by decide) (by decide)) (((hb.u (by decide)).s ha).u (by decide))
  have mid : ∀ x3 t0 : Int32, nod x3 → nod t0 → X1_comesNearer_b39 (nI a) y2 x3 t0 T Q := by
    intro x3 t0 h3 h0
    unfold X1_comesNearer_b39
    exact ⟨h3.v, fun _ => ⟨Or.inl rfl, q 0 T (Or.inl rfl) hk hm hb⟩, fun _ => ⟨h3.v, fun _ => ⟨hva, last _ _ _ h0⟩, fun _ => ⟨hva, last _ _ _ h0⟩⟩⟩
  unfold X1_comesNearer X1_comesNearer_b19
  rw [nI_clamp (by omega)]
  exact ⟨fun _ => ⟨hva, fun _ => ⟨hva, mid _ _ nn.1 nn.2⟩, fun _ => ⟨hva, mid _ _ nn.1 nn.1⟩⟩, fun _ => ⟨hva, fun _ => ⟨hva, mid _ _ nn.2 nn.2⟩, fun _ => ⟨hva, mid _ _ nn.2 nn.1⟩⟩⟩
theorem s_measure {m : Nat} {S T : ZS} {Q : ZS → Prop} (hk : zKp S T) (hm : nOK T m) (q : ∀ U, zKp S U → nOK U m → bOK U m → Q U) : X1_measure T Q := by
  have h18 := hm.1
  unfold X1_measure
  refine zl_up 9 (fun i U => zKp S U ∧ nOK U m ∧ ∀ v, v < i → U.1 35 v = -1) (by omega) (fun i U k hi hJ hk2 => ?_) T ⟨hk, hm, fun v hv => by omega⟩
  obtain ⟨kU, mU, bU⟩ := hJ
  show X1_measure_B2 (nI i) U Q k
  unfold X1_measure_B2
  refine ⟨fun z => ?_, fun z => ?_⟩
  · have := up_end (n := 9) (by omega) hi z
    subst this
    have bU2 : bOK U m := fun v hv => Or.inl (bU v (by omega))
    unfold X1_measure_b42
    refine zl_up2 9 (fun j x V => zKp S V ∧ nOK V m ∧ bOK V m) (by omega) (fun j x V k3 hj hJ hk3 => ?_) 1 U ⟨kU, mU, bU2⟩
    obtain ⟨kV, mV, bV⟩ := hJ
    show X1_measure_B46 x (nI j) V Q k3
    unfold X1_measure_B46 X1_measure_b144
    refine ⟨fun _ => q V kV mV bV, fun _ => ⟨fun _ => q V kV mV bV, fun z2 => ?_⟩⟩
    have hjl := up_on (n := 9) (by omega) hj z2
    refine zl_up2 m (fun a x V => zKp S V ∧ nOK V m ∧ bOK V m) (by omega) (fun a x W k4 ha hJ hk4 => ?_) 0 V ⟨kV, mV, bV⟩
    obtain ⟨kW, mW, bW⟩ := hJ
    show X1_measure_B60 (nI j) x (nI a) W Q k3 k4
    unfold X1_measure_B60 X1_measure_b138
    rw [mW.2.1]
    refine ⟨fun z3 w ew => ?_, fun z3 => ?_⟩
    · rw [nI_1] at ew
      subst ew
      exact hk3 hjl _ _ ⟨kW, mW, bW⟩
    · have hal := up_onG (n := m) (by omega) ha z3
      have hva : vp_in (nI a) 18 := vp_in_nI (by omega) (by omega)
      have fin : ∀ (t0 t1 : Int32) (Y : ZS), zKp S Y → nOK Y m → bOK Y m → X1_measure_b130 (nI j) (nI a) t0 t1 Y Q k3 k4 := by
        intro t0 t1 Y kY mY bY
        unfold X1_measure_b130
        intro x1 _ w ew
        rw [nI_1] at ew
        subst ew
        exact hk4 hal _ _ ⟨kY, mY, bY⟩
      have mid : ∀ (t0 t1 : Int32) (Y : ZS), zKp S Y → nOK Y m → bOK Y m → X1_measure_b98 (nI j) (nI a) t0 t1 Y Q k3 k4 := by
        intro t0 t1 Y kY mY bY
        unfold X1_measure_b98
        intro x1 _
        refine ⟨hva, hva, fun _ => fin _ _ Y kY mY bY, fun _ => ?_⟩
        exact s_comesNearer kY mY bY hal (Or.inl rfl) (fun v Y2 _ kY2 mY2 bY2 => ⟨fun _ => fin _ _ Y2 kY2 mY2 bY2, fun _ => fin _ _ Y2 kY2 mY2 bY2⟩)
      refine ⟨hva, hva, fun _ => mid _ _ W kW mW bW, fun _ => ?_⟩
      exact s_comesNearer kW mW bW hal (Or.inr rfl) (fun v Y2 _ kY2 mY2 bY2 => ⟨fun _ => mid _ _ Y2 kY2 mY2 bY2, fun _ => mid _ _ Y2 kY2 mY2 bY2⟩)
  · have hlt := up_on (n := 9) (by omega) hi z
    have hvi : vp_in (nI i) 9 := vp_in_nI (by omega) (by omega)
    have fin : ∀ t0 : Int32, X1_measure_b28 (nI i) t0 (nI i) U Q k := by
      intro t0
      unfold X1_measure_b28
      refine ⟨hvi, fun U1 e1 => ⟨hvi, fun U2 e2 w ew => ?_⟩⟩
      rw [nI_1] at ew
      rw [nI_clamp (by omega)] at e2
      subst ew
      subst e1
      subst e2
      refine hk2 hlt _ ⟨(kU.u rfl (by decide)).u rfl (by decide), (mU.u (by decide) (by decide) (by decide)).u (by decide) (by decide) (by decide), fun v hv => ?_⟩
      rw [zu_at]
      by_cases e : v = i
      · rw [if_pos ⟨rfl, e⟩]
      · rw [if_neg (fun w => e w.2), zu_ne (by decide)]
        exact bU v (by omega)
    exact ⟨hvi, fun _ => fin _, fun _ => fin _⟩
theorem s_nearestNeed {S : ZS} {Q : Int32 → ZS → Prop} (q : ∀ v, (v = -1 ∨ nod v) → Q v S) : X1_nearestNeed S Q := by
  unfold X1_nearestNeed
  refine zl_up3 9 (fun i x y T => T = S ∧ (x = -1 ∨ nod x)) (by omega) (fun i x y T k hi hJ hk => ?_) (-1) 1000000000 S ⟨rfl, Or.inl rfl⟩
  obtain ⟨rfl, hx⟩ := hJ
  show X1_nearestNeed_B7 x y (nI i) T Q k
  unfold X1_nearestNeed_B7 X1_nearestNeed_b47 X1_nearestNeed_b41
  refine ⟨fun _ => q x hx, fun z => ?_⟩
  have hlt := up_on (n := 9) (by omega) hi z
  have hvi : vp_in (nI i) 9 := vp_in_nI (by omega) (by omega)
  have go : ∀ x' y' w : Int32, (x' = -1 ∨ nod x') → w = nI i + 1 → k (x', y', w, T) := by
    intro x' y' w a ew
    rw [nI_1] at ew
    subst ew
    exact hk hlt _ _ _ ⟨rfl, a⟩
  exact ⟨hvi, fun _ w ew => go _ _ w hx ew, fun _ => ⟨hvi, fun _ w ew => go _ _ w hx ew, fun _ => ⟨hvi, fun y' _ w ew => go _ _ w (Or.inr (nod_nI (by omega))) ew⟩⟩⟩
theorem s_nodeBefore {m : Nat} {x : Int32} {T : ZS} {Q : Int32 → ZS → Prop} (hm : nOK T m) (hb : bOK T m) (hx : nod x) (hne : ¬ T.1 35 x.toNatClampNeg = -1) (q : ∀ v, nod v → Q v T) : X1_nodeBefore x T Q := by
  have h18 := hm.1
  obtain ⟨u, hu, rfl⟩ := hx
  have hvu : vp_in (nI u) 9 := vp_in_nI (by omega) (by omega)
  rw [nI_clamp (by omega)] at hne
  rcases hb u hu with e | ⟨a, ha, e⟩
  · exact absurd e hne
  · unfold X1_nodeBefore X1_nodeBefore_b31
    refine ⟨hvu, fun w ew => ?_⟩
    rw [nI_clamp (by omega), e] at ew
    subst ew
    have hva : vp_in (nI a) 18 := vp_in_nI (by omega) (by omega)
    refine ⟨hvu, fun _ => ⟨hva, ?_⟩, fun _ => ⟨hva, ?_⟩⟩
    · rw [nI_clamp (by omega)]; exact q _ (hm.2.2 a ha).1
    · rw [nI_clamp (by omega)]; exact q _ (hm.2.2 a ha).2
theorem s_pushTo {m : Nat} {x : Int32} {S T : ZS} {Q : ZS → Prop} (hk : zKp S T) (hm : nOK T m) (hb : bOK T m) (hx : nod x) (q : ∀ U, zKp S U → nOK U m → Q U) : X1_pushTo x T Q := by
  have h18 := hm.1
  have arc : ∀ (y : Int32) (U : ZS), bOK U m → nod y → ¬ U.1 35 y.toNatClampNeg = -1 → vp_in (U.1 35 y.toNatClampNeg) 18 := by
    intro y U bU hy hne
    obtain ⟨u, hu, rfl⟩ := hy
    rw [nI_clamp (by omega)] at hne ⊢
    rcases bU u hu with e | ⟨a, ha, e⟩
    · exact absurd e hne
    · rw [e]; exact vp_in_nI (by omega) (by omega)
  unfold X1_pushTo
  refine ⟨hx.v, fun x2 _ => ?_⟩
  refine zl_up3 9 (fun i y x3 U => U = T ∧ nod x3) (by omega) (fun i y x3 U k hi hJ hk2 => ?_) x2 x T ⟨rfl, hx⟩
  obtain ⟨rfl, h3⟩ := hJ
  show X1_pushTo_B12 x y x3 (nI i) U Q k
  unfold X1_pushTo_B12
  have out : X1_pushTo_b100 x y x3 U Q := by
    unfold X1_pushTo_b100
    refine ⟨h3.v, fun y2 _ => ⟨h3.v, h3.v, fun U1 e1 => ⟨hx.v, hx.v, fun U2 e2 => ?_⟩⟩⟩
    subst e1
    subst e2
    refine zl_up2 9 (fun j x4 V => zKp S V ∧ nOK V m ∧ bOK V m ∧ nod x4) (by omega) (fun j x4 V k3 hj hJ hk3 => ?_) x _ ⟨(hk.u rfl (by decide)).u rfl (by decide), (hm.u (by decide) (by decide) (by decide)).u (by decide) (by decide) (by decide), (hb.u (by decide)).u (by decide), hx⟩
    obtain ⟨kV, mV, bV, h4⟩ := hJ
    show X1_pushTo_B137 y2 x4 (nI j) V Q k3
    unfold X1_pushTo_B137 X1_pushTo_b195
    refine ⟨fun _ => q V kV mV, fun z => ⟨h4.v, fun _ => q V kV mV, fun hne => ?_⟩⟩
    have hjl := up_on (n := 9) (by omega) hj z
    have fin : ∀ t0 t1 : Int32, X1_pushTo_b181 y2 x4 (nI j) t0 t1 (V.1 35 x4.toNatClampNeg) V Q k3 := by
      intro t0 t1
      unfold X1_pushTo_b181
      refine ⟨arc x4 V bV h4 hne, fun V1 e1 => ?_⟩
      subst e1
      have b1 : bOK (zu V 31 (V.1 35 x4.toNatClampNeg).toNatClampNeg (t1 + t0)) m := bV.u (by decide)
      refine s_nodeBefore (mV.u (by decide) (by decide) (by decide)) b1 h4 (by rw [zu_ne (by decide)]; exact hne) (fun v hv w ew => ?_)
      rw [nI_1] at ew
      subst ew
      exact hk3 hjl _ _ ⟨kV.u rfl (by decide), mV.u (by decide) (by decide) (by decide), b1, hv⟩
    exact ⟨h4.v, arc x4 V bV h4 hne, h4.v, fun _ => fin _ _, fun _ => fin _ _⟩
  refine ⟨fun _ => out, fun z => ⟨h3.v, fun _ => out, fun hne => ⟨h3.v, fun a ea => ?_⟩⟩⟩
  have hil := up_on (n := 9) (by omega) hi z
  have hva : vp_in a 18 := by rw [ea]; exact arc x3 U hb h3 hne
  have fin : ∀ t0 : Int32, X1_pushTo_b79 x y x3 (nI i) t0 U Q k := by
    intro t0
    unfold X1_pushTo_b79
    intro y2 _
    refine s_nodeBefore hm hb h3 hne (fun v hv w ew => ?_)
    rw [nI_1] at ew
    subst ew
    exact hk2 hil _ _ _ ⟨rfl, hv⟩
  exact ⟨h3.v, fun _ => ⟨hva, hva, fin _⟩, fun _ => ⟨hva, hva, fin _⟩⟩
theorem s_hasNeed {S : ZS} {Q : Int32 → ZS → Prop} (q : ∀ v, Q v S) : X1_hasNeed S Q := by
  unfold X1_hasNeed
  refine zl_up 9 (fun i T => T = S) (by omega) (fun i T k hi hJ hk => ?_) S rfl
  subst hJ
  show X1_hasNeed_B2 (nI i) T Q k
  unfold X1_hasNeed_B2 X1_hasNeed_b25 X1_hasNeed_b17
  refine ⟨fun _ => ⟨Or.inl rfl, q 0⟩, fun z => ?_⟩
  have hlt := up_on (n := 9) (by omega) hi z
  refine ⟨vp_in_nI (by omega) (by omega), fun _ w ew => ?_, fun _ => ⟨Or.inr rfl, q 1⟩⟩
  rw [nI_1] at ew
  subst ew
  exact hk hlt _ rfl
theorem s_balance {m : Nat} {S T : ZS} {Q : Int32 → ZS → Prop} (hk : zKp S T) (hm : nOK T m) (q : ∀ v U, zKp S U → nOK U m → Q v U) : X1_balance T Q := by
  unfold X1_balance
  refine zl_up 1000000 (fun i U => zKp S U ∧ nOK U m) (by omega) (fun i U k hi hJ hk2 => ?_) T ⟨hk, hm⟩
  obtain ⟨kU, mU⟩ := hJ
  show X1_balance_B2 (nI i) U Q k
  unfold X1_balance_B2 X1_balance_b44 X1_balance_b31 X1_balance_b15
  refine ⟨fun _ => ⟨Or.inl rfl, q 0 U kU mU⟩, fun z => ?_⟩
  have hlt := up_onG (n := 1000000) (by omega) hi z
  refine s_hasNeed (fun v => ⟨fun _ => ⟨Or.inr rfl, q 1 U kU mU⟩, fun _ => ?_⟩)
  refine s_measure kU mU (fun V kV mV bV => s_nearestNeed (fun w hw => ⟨fun _ => ⟨Or.inl rfl, q 0 V kV mV⟩, fun g => ?_⟩))
  refine s_pushTo kV mV bV (hw.elim (fun e => absurd e g) id) (fun W kW mW y ey => ?_)
  rw [nI_1] at ey
  subst ey
  exact hk2 hlt W ⟨kW, mW⟩
