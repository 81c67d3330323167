/-! the class's knapsack -/
def tC (T : ZS) (c w : Nat) : Int := (T.1 (50 + c) w).toInt
def zRw (T U : ZS) (c : Nat) : Prop := (∀ n, n ≠ 50 + c → U.1 n = T.1 n) ∧ U.2 = T.2
theorem zRw.kp {T U : ZS} {c : Nat} (h : zRw T U c) (hc : c ≤ 10) : zKp T U := zKp.of (fun n hn => h.1 n (fun e => by rw [e, kpt_50 hc] at hn; cases hn)) (h.1 61 (by omega))
theorem x0_mostOf {nc l c w : Nat} {al hi : Nat → Nat} {T : ZS} {Q : Int32 → ZS → Prop} (h : kz T nc l al hi) (hc : c < nc) (hw : w ≤ 300) (q : Q (nI (min (hi c) (w / al c))) T) : X0_mostOf (nI c) (nI w) T Q := by
  obtain ⟨h1, h2, h3, h4⟩ := h
  obtain ⟨a1, a2, a3, a4, a5⟩ := h4 c hc
  have hvc : vp_in (nI c) 10 := vp_in_nI (by omega) (by omega)
  have z0 : (0 : Int32).toNatClampNeg = 0 := by decide
  unfold X0_mostOf X0_mostOf_b32
  refine ⟨v0, hvc, fun x ex => ?_⟩
  rw [z0, nI_clamp (by omega), Nat.add_zero, a1] at ex
  subst ex
  have hne : ¬ nI (al c) = 0 := nI_ne0 (by omega) (by omega)
  have hd2 : w / al c ≤ w := Nat.div_le_self _ _
  rw [nI_clamp (by omega), a4, nI_div (by omega) (by omega)]
  refine ⟨fun g => ?_, fun _ => ⟨hvc, hne, ?_⟩⟩
  · have c0 : (0 : Int32).toInt = 0 := by decide
    rw [i_le, c0, nI_toInt (by omega)] at g
    omega
  · rw [nI_min (by omega) (by omega)]
    exact q
theorem x0_putPack {c z l : Nat} {y3 : Int32} {T : ZS} {Q : ZS → Prop} (hc : c ≤ 10) (hl : l ≤ 300) (hz : 1 ≤ z) (hzl : z ≤ 300) (hy : -300000 ≤ y3.toInt ∧ y3.toInt ≤ 300000) (hb : ∀ w, w ≤ l → -100000000 ≤ tC T c w ∧ tC T c w ≤ 100000000)
    (q : ∀ U, zRw T U c → (∀ w, w ≤ l → tC U c w = if z ≤ w then (if tC T c (w - z) + y3.toInt < tC T c w then tC T c (w - z) + y3.toInt else tC T c w) else tC T c w) → Q U) : X0_putPack (50 + c) 301 (nI z) y3 (nI l) T Q := by
  unfold X0_putPack
  refine zl_dn l (fun i U => zRw T U c ∧ ∀ w, w ≤ l → tC U c w = if i < w ∧ z ≤ w then (if tC T c (w - z) + y3.toInt < tC T c w then tC T c (w - z) + y3.toInt else tC T c w) else tC T c w) (by omega) (fun i U k hi hJ hk2 => ?_) T ⟨⟨fun _ _ => rfl, rfl⟩, fun w hw => by rw [if_neg (by omega)]⟩
  obtain ⟨fU, vU⟩ := hJ
  show X0_putPack_B4 (50 + c) 301 (nI z) y3 (nI i) U Q k
  unfold X0_putPack_B4 X0_putPack_b35
  rw [nI_ltI (by omega) (by omega)]
  refine ⟨fun g => q U fU (fun w hw => ?_), fun g => ?_⟩
  · rw [vU w hw]
    by_cases e : z ≤ w
    · rw [if_pos ⟨by omega, e⟩, if_pos e]
    · rw [if_neg (fun w => e w.2), if_neg e]
  · have hvi : vp_in (nI i) 301 := vp_in_nI (by omega) (by omega)
    obtain ⟨i', rfl⟩ : ∃ i', i = i' + 1 := ⟨i - 1, by omega⟩
    rw [nI_subN (by omega), nI_clamp (by omega), nI_clamp (by omega)]
    refine ⟨hvi, vp_in_nI (by omega) (by omega), hvi, fun V eV y ey => ?_⟩
    rw [nI_add_m1] at ey
    subst ey
    have e1 : (U.1 (50 + c) (i' + 1)).toInt = tC T c (i' + 1) := by
      have := vU (i' + 1) hi
      rw [if_neg (by omega)] at this
      exact this
    have e2 : (U.1 (50 + c) (i' + 1 - z)).toInt = tC T c (i' + 1 - z) := by
      have := vU (i' + 1 - z) (by omega)
      rw [if_neg (by omega)] at this
      exact this
    have b1 := hb (i' + 1) hi
    have b2 := hb (i' + 1 - z) (by omega)
    have e3 : (U.1 (50 + c) (i' + 1 - z) + y3).toInt = tC T c (i' + 1 - z) + y3.toInt := by
      rw [i_add (by rw [e2]; omega) (by rw [e2]; omega), e2]
    have cV : ∀ w, tC V c w = if w = i' + 1 then (if tC T c (i' + 1 - z) + y3.toInt < tC T c (i' + 1) then tC T c (i' + 1 - z) + y3.toInt else tC T c (i' + 1)) else tC U c w := fun w => by
      show (V.1 (50 + c) w).toInt = _
      rw [eV, zu_at]
      by_cases e : w = i' + 1
      · rw [if_pos (⟨rfl, e⟩ : 50 + c = 50 + c ∧ w = i' + 1), if_pos e]
        by_cases g3 : U.1 (50 + c) (i' + 1 - z) + y3 < U.1 (50 + c) (i' + 1)
        · have g4 := i_lt.mp g3
          rw [e3, e1] at g4
          rw [if_pos g3, if_pos g4, e3]
        · have g4 : ¬ tC T c (i' + 1 - z) + y3.toInt < tC T c (i' + 1) := fun w => g3 (i_lt.mpr (by rw [e3, e1]; exact w))
          rw [if_neg g3, if_neg g4, e1]
      · rw [if_neg (fun z => e z.2), if_neg e]
        rfl
    refine hk2 i' rfl V ⟨⟨fun n hn => by rw [eV, zu_ne hn]; exact fU.1 n hn, by rw [eV]; exact fU.2⟩, fun w hw => ?_⟩
    rw [cV]
    by_cases e : w = i' + 1
    · rw [if_pos e, if_pos (show i' < w ∧ z ≤ w by omega), e]
    · rw [if_neg e, vU w hw]
      by_cases e4 : i' + 1 < w ∧ z ≤ w
      · rw [if_pos e4, if_pos (show i' < w ∧ z ≤ w by omega)]
      · rw [if_neg e4, if_neg (show ¬ (i' < w ∧ z ≤ w) by omega)]
theorem x0_putInPacks {nc l c : Nat} {al hi : Nat → Nat} {co : Nat → Int} {t : Nat → Int} {S T : ZS} {Q : ZS → Prop} (h : kz S nc l al hi) (hco : ∀ c, c < nc → (S.1 10 c).toInt = co c ∧ -1000 ≤ co c ∧ co c ≤ 1000) (hk : zKp S T) (hc : c < nc) (ht : ∀ w, w ≤ l → tC T c w = t w) (hb : ∀ w, w ≤ l → -3000000 ≤ t w ∧ t w ≤ 3000000)
    (q : ∀ U, zRw T U c → (∀ w, w ≤ l → klt t (al c) (hi c) (co c) w (tC U c w)) → Q U) : X0_putInPacks (nI c) (nI l) T Q := by
  have hl := h.2.1
  have h1 := h.1
  have ha := h.2.2.2 c hc
  have z0 : (0 : Int32).toNatClampNeg = 0 := by decide
  have hvc : vp_in (nI c) 10 := vp_in_nI (by omega) (by omega)
  have hvc1 : vp_in (nI c) 11 := vp_in_nI (by omega) (by omega)
  obtain ⟨cc1, cc2, cc3⟩ := hco c hc
  unfold X0_putInPacks
  refine x0_mostOf (h.kp hk) hc hl ?_
  generalize hm : min (hi c) (l / al c) = m
  have hmd : m ≤ l / al c := by rw [← hm]; exact Nat.min_le_right _ _
  have hma : m * al c ≤ l := Nat.le_trans (Nat.mul_le_mul_right _ hmd) (Nat.div_mul_le_self _ _)
  have hm3 : m ≤ 300 := Nat.le_trans (Nat.le_trans (Nat.le_mul_of_pos_right m (by omega)) hma) hl
  have mh : ∀ w, w ≤ l → ∀ n, n * al c ≤ w → (n ≤ m ↔ n ≤ hi c) := fun w hw n hn => by
    have : n ≤ l / al c := (Nat.le_div_iff_mul_le (by omega)).mpr (by omega)
    rw [← hm]
    omega
  refine zl_of (fun y => ∃ r p, y.1 = nI r ∧ y.2.1 = nI p ∧ r ≤ m ∧ 1 ≤ p ∧ p ≤ 700 ∧ (0 < r → m - r + 1 = p) ∧ zRw T y.2.2 c ∧ ∀ w, w ≤ l → klt t (al c) (m - r) (co c) w (tC y.2.2 c w)) (fun y => y.1.toNatClampNeg) (fun y k hy hk2 => ?_) _ ⟨m, 1, rfl, rfl, by omega, by omega, by omega, fun _ => by omega, ⟨fun _ _ => rfl, rfl⟩, fun w hw => by rw [Nat.sub_self, ht w hw]; exact klt_0⟩
  obtain ⟨x4, x5, U⟩ := y
  obtain ⟨r, p, e1, e2, b2, b3, b4, b5, fU, lU⟩ := hy
  dsimp only at e1 e2 fU lU
  subst e1
  subst e2
  have kU : zKp S U := hk.tr (fU.kp (by omega))
  show X0_putInPacks_B12 (nI c) (nI l) (nI r) (nI p) U Q k
  unfold X0_putInPacks_B12 X0_putInPacks_b81
  refine ⟨fun g => ?_, fun z => ?_⟩
  · have c0 : (0 : Int32).toInt = 0 := by decide
    rw [i_le, c0, nI_toInt (by omega)] at g
    have r0 : r = 0 := by omega
    subst r0
    refine q U fU (fun w hw => klt_h (mh w hw) (lU w hw))
  have hr : 0 < r := by
    refine Nat.pos_of_ne_zero (fun e => z ?_)
    rw [e]; decide
  have b6 := b5 hr
  refine ⟨fun g => ?_, fun _ => ?_⟩
  · have c3 : (300 : Int32).toInt = 300 := by decide
    rw [i_lt, c3, nI_toInt (by omega)] at g
    exact absurd g (by omega)
  intro x6 e6
  have em : (if nI r < nI p then nI r else nI p) = nI (min p r) := nI_min (by omega) (by omega)
  rw [em] at e6
  subst e6
  generalize hq : min p r = s
  have sv : (s = p ∧ p ≤ r) ∨ (s = r ∧ r < p) := by omega
  have a14 : U.1 (14 + (0 : Int32).toNatClampNeg) (nI c).toNatClampNeg = nI (al c) := by
    rw [z0, nI_clamp (by omega), Nat.add_zero]
    exact ((h.kp kU).2.2.2 c hc).1
  rw [a14, nI_mul]
  have w1 : s * al c ≤ l := Nat.le_trans (Nat.mul_le_mul_right _ (by omega)) hma
  have w2 : 1 ≤ s * al c := Nat.mul_pos (by omega) (by omega)
  have s3 : s ≤ 300 := by omega
  have c10 : (U.1 10 c).toInt = co c := by rw [kU.1 10 rfl]; exact cc1
  have mb := mul_bd s3 cc2 cc3
  have ym : (nI s * U.1 10 c).toInt = (s : Int) * co c := by
    have : (nI s).toInt = s := nI_toInt (by omega)
    rw [i_mul (by rw [this, c10]; omega) (by rw [this, c10]; omega), this, c10]
  rw [nI_clamp (by omega)]
  have tb : ∀ w, w ≤ l → -100000000 ≤ tC U c w ∧ tC U c w ≤ 100000000 := fun w hw => by
    obtain ⟨⟨n, n1, n2, n3⟩, _⟩ := lU w hw
    have n300 : n ≤ 300 := by omega
    have := mul_bd n300 cc2 cc3
    have := hb (w - n * al c) (by omega)
    rw [n3]; omega
  refine ⟨hvc1, v0, hvc, hvc, x0_putPack (by omega) hl w2 (by omega) (by rw [ym]; exact mb) tb (fun V fV vV x e x' e' => ?_)⟩
  rw [nI_subN (by omega)] at e
  have e2 : nI p * (2 : Int32) = nI (p * 2) := nI_mul p 2
  rw [e2] at e'
  subst e
  subst e'
  refine hk2 _ ⟨r - s, p * 2, rfl, rfl, by omega, by omega, by omega, fun h0 => by omega, ⟨fun n hn => (fV.1 n hn).trans (fU.1 n hn), fV.2.trans fU.2⟩, fun w hw => ?_⟩ ?_
  · show klt t (al c) (m - (r - s)) (co c) w (tC V c w)
    rw [show m - (r - s) = m - r + s by omega, vV w hw, ym]
    exact klt_pack (by omega) (fun i hi => lU i (by omega))
  · show (nI (r - s)).toNatClampNeg < (nI r).toNatClampNeg
    rw [nI_clamp (by omega), nI_clamp (by omega)]
    omega
theorem x0_fewest {nc l c w : Nat} {al hi : Nat → Nat} {co : Int} {T : ZS} {Q : Int32 → ZS → Prop} (h : kz T nc l al hi) (hc : c < nc) (hw : w ≤ l) (hco : (T.1 10 c).toInt = co ∧ -1000 ≤ co ∧ co ≤ 1000) (hb : ∀ v, v ≤ l → -100000000 ≤ tC T (c + 1) v ∧ tC T (c + 1) v ≤ 100000000) (hL : klt (tC T (c + 1)) (al c) (hi c) co w (tC T c w))
    (q : ∀ n, fstN (tC T (c + 1)) (al c) (hi c) co w (tC T c w) n → Q (nI n) T) : X0_fewest (nI c) (nI w) T Q := by
  have h1 := h.1
  have hl := h.2.1
  have ha := h.2.2.2 c hc
  have z0 : (0 : Int32).toNatClampNeg = 0 := by decide
  have hvc : vp_in (nI c) 10 := vp_in_nI (by omega) (by omega)
  have hvc1 : vp_in (nI c) 11 := vp_in_nI (by omega) (by omega)
  have hvw : vp_in (nI w) 301 := vp_in_nI (by omega) (by omega)
  unfold X0_fewest
  refine x0_mostOf h hc (by omega) ?_
  generalize hm : min (hi c) (w / al c) = m
  have hmd : m ≤ w / al c := by rw [← hm]; exact Nat.min_le_right _ _
  have hma : m * al c ≤ w := Nat.le_trans (Nat.mul_le_mul_right _ hmd) (Nat.div_mul_le_self _ _)
  have hm3 : m ≤ 300 := Nat.le_trans (Nat.le_trans (Nat.le_mul_of_pos_right m (by omega)) hma) (by omega)
  have mh : ∀ n, n ≤ hi c → n * al c ≤ w → n ≤ m := fun n hn hn2 => by
    have : n ≤ w / al c := (Nat.le_div_iff_mul_le (by omega)).mpr hn2
    rw [← hm]
    omega
  have mhi : m ≤ hi c := by rw [← hm]; exact Nat.min_le_left _ _
  refine zl_up2 m (fun i x U => U = T ∧ x = nI (w - i * al c) ∧ ∀ j : Nat, j < i → tC T c w ≠ (j : Int) * co + tC T (c + 1) (w - j * al c)) (by omega) (fun i x U k hi' hJ hk => ?_) _ T ⟨rfl, by rw [Nat.zero_mul, Nat.sub_zero], fun j hj => by omega⟩
  obtain ⟨rfl, rfl, hno⟩ := hJ
  show X0_fewest_B15 (nI c) (nI w) (nI m) _ (nI i) U Q k
  unfold X0_fewest_B15 X0_fewest_b76 X0_fewest_b54
  have him : i * al c ≤ w := Nat.le_trans (Nat.mul_le_mul_right _ hi') hma
  refine ⟨fun z => ?_, fun z => ?_⟩
  · have := up_endG (n := m) (by omega) hi' z
    subst this
    obtain ⟨⟨n, n1, n2, n3⟩, _⟩ := hL
    have nm := mh n n1 n2
    have ni : n = i := by
      refine Classical.byContradiction (fun e => hno n (by omega) n3)
    subst ni
    exact q n ⟨n1, n2, n3, hno⟩
  have hlt := up_onG (n := m) (by omega) hi' z
  have e14 : U.1 (14 + (0 : Int32).toNatClampNeg) (nI c).toNatClampNeg = nI (al c) := by
    rw [z0, nI_clamp (by omega), Nat.add_zero]
    exact ha.1
  have mb := mul_bd (n := i) (by omega) hco.2.1 hco.2.2
  have ii : (nI i).toInt = i := nI_toInt (by omega)
  have bb := hb (w - i * al c) (by omega)
  have em : (nI i * U.1 10 c).toInt = (i : Int) * co := by
    rw [i_mul (by rw [ii, hco.1]; omega) (by rw [ii, hco.1]; omega), ii, hco.1]
  have es : (nI i * U.1 10 c + U.1 (50 + (c + 1)) (w - i * al c)).toInt = (i : Int) * co + tC U (c + 1) (w - i * al c) := by
    rw [i_add (by rw [em]; show _ ≤ _ + tC U (c + 1) (w - i * al c); omega) (by rw [em]; show _ + tC U (c + 1) (w - i * al c) ≤ _; omega), em]
    rfl
  rw [e14, nI_1, nI_clamp (by omega : c < 2 ^ 31), nI_clamp (by omega : c + 1 < 2 ^ 31), nI_clamp (by omega : w - i * al c < 2 ^ 31), nI_clamp (by omega : w < 2 ^ 31), i_eq, es]
  refine ⟨hvc, vp_in_nI (by omega) (by omega), vp_in_nI (by omega) (by omega), hvc1, hvw, fun g => q i ⟨by omega, him, g.symm, hno⟩, fun g => ⟨v0, hvc, fun x' e' y ey => ?_⟩⟩
  have hi1 : (i + 1) * al c ≤ w := Nat.le_trans (Nat.mul_le_mul_right _ hlt) hma
  rw [Nat.add_mul, Nat.one_mul] at hi1
  rw [nI_1] at ey
  rw [nI_subN (by omega)] at e'
  subst ey
  refine hk hlt _ _ ⟨rfl, ?_, fun j hj => ?_⟩
  · rw [e', Nat.add_mul, Nat.one_mul, Nat.sub_sub]
  · by_cases e : j = i
    · rw [e]; exact fun w => g w.symm
    · exact hno j (by omega)
def zFl (T U : ZS) : Prop := (∀ n, n ≠ 7 → n < 50 ∨ 60 < n → U.1 n = T.1 n) ∧ U.2 = T.2
set_option maxHeartbeats 1000000 in
theorem x0_fill {nc l : Nat} {al hi : Nat → Nat} {co : Nat → Int} {S T : ZS} {Q : ZS → Prop} (h : kz S nc l al hi) (hco : ∀ c, c < nc → (S.1 10 c).toInt = co c ∧ -1000 ≤ co c ∧ co c ≤ 1000) (h3 : S.1 1 0 = nI nc) (hk : zKp S T) (q : ∀ U b, zKp S U → ksol nc l al hi co b → (∀ c, c < nc → U.1 7 c = nI (b c)) → Q U) : X0_fill T Q := by
  have h1 := h.1
  have hl := h.2.1
  have z0 : (0 : Int32).toNatClampNeg = 0 := by decide
  have c0 : (0 : Int32).toInt = 0 := by decide
  have col : ∀ {U : ZS}, zKp S U → U.1 1 0 = nI nc := fun k => by rw [k.1 1 rfl]; exact h3
  have ha1 : ∀ c, c < nc → 1 ≤ al c := fun c hc => (h.2.2.2 c hc).2.1
  have hc1 : ∀ c, c < nc → -1000 ≤ co c ∧ co c ≤ 1000 := fun c hc => (hco c hc).2
  have bnd : ∀ {U : ZS} {i : Nat}, tbl (tC U) nc l al hi co i → ∀ c, i ≤ c → c ≤ nc → ∀ w, w ≤ l → -3000000 ≤ tC U c w ∧ tC U c w ≤ 3000000 := fun {U i} ht c a b w hw => by
    have := ht.bd hl ha1 hc1 (nc - c) (by omega) w hw
    rw [show nc - (nc - c) = c by omega] at this
    omega
  unfold X0_fill
  rw [z0, col hk, nI_clamp (by omega)]
  refine ⟨v0, fun x3 e3 => ⟨vp_in_nI (by omega) (by omega), m_fill (by omega) (fun T1 _ hT1 hf x4 e4 => ?_)⟩⟩
  rw [(h.kp hk).2.2.1] at e3
  subst e3
  have k1 : zKp S T1 := hk.tr (zKp.of (fun n hn => hT1 n (fun e => by rw [e, kpt_50 (by omega)] at hn; cases hn)) (hT1 61 (by omega)))
  rw [col k1] at e4
  subst e4
  have t0 : tbl (tC T1) nc l al hi co nc := by
    refine ⟨fun w hw => ?_, fun c a b => by omega⟩
    unfold tC
    rw [hf, if_pos (by omega)]
    exact c0
  refine zl_dm nc (fun i U => zKp S U ∧ tbl (tC U) nc l al hi co i) (by omega) (fun i U k hi' hJ hk2 => ?_) T1 ⟨k1, t0⟩
  obtain ⟨kU, tU⟩ := hJ
  show X0_fill_B28 (nI l) (nI i - 1) U Q k
  unfold X0_fill_B28
  refine ⟨fun z => ?_, fun z => ?_⟩
  · have i0 : i = 0 := by
      refine Classical.byContradiction (fun w => ?_)
      obtain ⟨j', rfl⟩ : ∃ j', i = j' + 1 := ⟨i - 1, by omega⟩
      rw [nI_pred] at z
      exact absurd z (nI_pos (by omega))
    subst i0
    unfold X0_fill_b81
    refine zl_up2 nc (fun j x V => zKp S V ∧ (∀ n, n ≠ 7 → V.1 n = U.1 n) ∧ ∃ (ro b : Nat → Nat), ro 0 = l ∧ x = nI (ro j) ∧ ro j ≤ l ∧ (∀ c, c < j → ro c ≤ l ∧ fstN (tC U (c + 1)) (al c) (hi c) (co c) (ro c) (tC U c (ro c)) (b c) ∧ ro (c + 1) = ro c - b c * al c) ∧ ∀ c, c < j → V.1 7 c = nI (b c)) (by omega) (fun j x V k3 hj hJ3 hk3 => ?_) (nI l) U ⟨kU, fun _ _ => rfl, fun _ => l, fun _ => 0, rfl, rfl, Nat.le_refl _, fun c hc => by omega, fun c hc => by omega⟩
    obtain ⟨kV, fV, ro, b, r0, rx, rl, rc, bV⟩ := hJ3
    subst rx
    show X0_fill_B84 (nI (ro j)) (nI j) V Q k3
    unfold X0_fill_B84 X0_fill_b128
    rw [col kV]
    have tV : ∀ c, tC V c = tC U c := fun c => funext fun w => by unfold tC; rw [fV (50 + c) (by omega)]
    refine ⟨fun z => ?_, fun z => ?_⟩
    · have := up_end (by omega) hj z
      subst this
      exact q V b kV ⟨tC U, ro, tU, r0, rc⟩ bV
    have hjl := up_on (by omega) hj z
    have hvj : vp_in (nI j) 10 := vp_in_nI (by omega) (by omega)
    refine x0_fewest (co := co j) (h.kp kV) hjl rl ⟨by rw [kV.1 10 rfl]; exact (hco j hjl).1, (hco j hjl).2⟩ (fun v hv => ?_) ?_ (fun m hm => ⟨hvj, fun W eW => ⟨hvj, v0, hvj, fun x' ex y ey => ?_⟩⟩)
    · rw [tV]
      have := bnd tU (j + 1) (by omega) (by omega) v hv
      omega
    · rw [tV, tV]; exact tU.2 j (by omega) hjl _ rl
    rw [tV, tV] at hm
    have kW : zKp S W := by rw [eW]; exact kV.u rfl (by decide)
    rw [nI_clamp (by omega)] at eW
    have e7 : W.1 7 (nI j).toNatClampNeg = nI m := by rw [nI_clamp (by omega), eW, zu_at, if_pos ⟨rfl, rfl⟩]
    have e14 : W.1 (14 + (0 : Int32).toNatClampNeg) (nI j).toNatClampNeg = nI (al j) := by
      rw [z0, nI_clamp (by omega), Nat.add_zero]
      exact ((h.kp kW).2.2.2 j hjl).1
    rw [e7, e14, nI_mul, nI_subN hm.2.1] at ex
    rw [nI_1] at ey
    subst ex
    subst ey
    have rn1 : nup ro (j + 1) (ro j - m * al j) (j + 1) = ro j - m * al j := nup_e _ _ _
    refine hk3 hjl _ _ ⟨kW, fun n hn => by rw [eW, zu_ne hn]; exact fV n hn, nup ro (j + 1) (ro j - m * al j), nup b j m, by rw [nup_n _ _ (by omega)]; exact r0, by rw [rn1], by rw [rn1]; omega, fun c hc => ?_, fun c hc => ?_⟩
    · by_cases e : c = j
      · subst e
        rw [rn1, nup_n _ _ (by omega), nup_e]
        exact ⟨rl, hm, rfl⟩
      · have := rc c (by omega)
        rw [nup_n ro _ (by omega), nup_n b _ e, nup_n ro _ (by omega)]
        exact this
    · rw [eW, zu_at]
      by_cases e : c = j
      · rw [if_pos ⟨rfl, e⟩, e, nup_e]
      · rw [if_neg (fun z => e z.2), nup_n _ _ e]; exact bV c (by omega)
  · have i0 : i ≠ 0 := fun e => by
      subst e
      exact z (by decide)
    obtain ⟨j, rfl⟩ : ∃ j, i = j + 1 := ⟨i - 1, by omega⟩
    rw [nI_pred, nI_1, nI_1]
    have hvj : vp_in (nI j) 10 := vp_in_nI (by omega) (by omega)
    -- a row is done
    have nx : ∀ V : ZS, zRw U V j → (∀ w, w ≤ l → klt (tC U (j + 1)) (al j) (hi j) (co j) w (tC V j w)) → X0_fill_b75 (nI l) (nI j) V Q k := by
      intro V fV lV
      unfold X0_fill_b75
      intro w ew
      rw [← Int32.sub_eq_add_neg] at ew
      subst ew
      have tV : ∀ c, c ≠ j → tC V c = tC U c := fun c hc => funext fun w => by unfold tC; rw [fV.1 (50 + c) (by omega)]
      refine hk2 j rfl V ⟨kU.tr (fV.kp (by omega)), fun w hw => by rw [tV nc (by omega)]; exact tU.1 w hw, fun c a b w hw => ?_⟩
      by_cases e : c = j
      · subst e
        rw [tV (c + 1) (by omega)]; exact lV w hw
      · rw [tV c e, tV (c + 1) (by omega)]; exact tU.2 c (by omega) b w hw
    refine ⟨vp_in_nI (by omega) (by omega), vp_in_nI (by omega) (by omega), ⟨by decide, by decide, nI_pos (by omega), ?_, ?_⟩, fun V eV => ?_⟩
    · show 0 + (nI (l + 1)).toNatClampNeg ≤ 301
      rw [nI_clamp (by omega)]; omega
    · show 0 + (nI (l + 1)).toNatClampNeg ≤ 301
      rw [nI_clamp (by omega)]; omega
    · rw [nI_clamp (by omega : j < 2 ^ 31), nI_clamp (by omega : j + 1 < 2 ^ 31), nI_clamp (by omega : l + 1 < 2 ^ 31), z0] at eV
      have fV : zRw U V j := ⟨fun n hn => by rw [eV]; unfold zur; dsimp only; rw [if_neg hn], by rw [eV]; rfl⟩
      have rV : ∀ w, w ≤ l → tC V j w = tC U (j + 1) w := fun w hw => by
        unfold tC
        rw [eV]
        unfold zur va_cpy
        dsimp only
        rw [if_pos rfl, if_pos (by omega), show 0 + (w - 0) = w by omega]
      have kV : zKp S V := kU.tr (fV.kp (by omega))
      have c10 : (V.1 10 j).toInt = co j := by rw [kV.1 10 rfl]; exact (hco j (by omega)).1
      rw [nI_clamp (by omega : j < 2 ^ 31), i_le, c0, c10]
      refine ⟨hvj, fun g => nx V fV (fun w hw => ?_), fun g => ?_⟩
      · rw [rV w hw]
        refine klt_pos g (fun v hv => ?_)
        have := tU.mono (nc - (j + 1)) (by omega) w v hv hw
        rw [show nc - (nc - (j + 1)) = j + 1 by omega] at this
        exact this
      · refine x0_putInPacks (t := tC U (j + 1)) h hco kV (by omega) rV (fun w hw => bnd tU (j + 1) (by omega) (by omega) w hw) (fun W fW lW => nx W ⟨fun n hn => (fW.1 n hn).trans (fV.1 n hn), fW.2.trans fV.2⟩ lW)
