/-! the class's choice of prices -/
def lv (T : ZS) (f : Nat) : Int := (T.1 38 f).toInt
def fxd (r f : Nat) : Prop := f = 8 ∨ f < r
theorem x2_leastBeside {r f : Nat} {T : ZS} {Q : Int32 → ZS → Prop} (hr : r ≤ 8) (hf : f ≤ 8) (hm : mo T r f = 1000000000 ∨ (-1000000 ≤ mo T r f ∧ mo T r f ≤ 1000000)) (hl : -10000000 ≤ lv T f ∧ lv T f ≤ 10000000) (q : ∀ v : Int32, v.toInt = (if mo T r f < 1000000000 then lv T f - mo T r f else -1000000000) → Q v T) : X2_leastBeside (nI r) (nI f) T Q := by
  have vr : vp_in (nI r) 9 := vp_in_nI (by omega) (by omega)
  have vf : vp_in (nI f) 9 := vp_in_nI (by omega) (by omega)
  have cF : (1000000000 : Int32).toInt = 1000000000 := by decide
  have cm : (-1000000000 : Int32).toInt = -1000000000 := by decide
  have e1 : (T.1 (40 + r) f).toInt = mo T r f := rfl
  have e2 : (T.1 38 f).toInt = lv T f := rfl
  unfold X2_leastBeside X2_leastBeside_b33
  rw [nI_clamp (by omega), nI_clamp (by omega), i_le, cF, e1]
  refine ⟨vr, vf, fun g => q _ ?_, fun g => ⟨vf, vr, vf, q _ ?_⟩⟩
  · rw [if_neg (by omega)]; exact cm
  · rw [if_pos (by omega), i_sub (by rw [e1, e2]; omega) (by rw [e1, e2]; omega), e1, e2]
theorem x2_greatestBeside {r f : Nat} {T : ZS} {Q : Int32 → ZS → Prop} (hr : r ≤ 8) (hf : f ≤ 8) (hm : mo T f r = 1000000000 ∨ (-1000000 ≤ mo T f r ∧ mo T f r ≤ 1000000)) (hl : -10000000 ≤ lv T f ∧ lv T f ≤ 10000000) (q : ∀ v : Int32, v.toInt = (if mo T f r < 1000000000 then lv T f + mo T f r else 1000000000) → Q v T) : X2_greatestBeside (nI r) (nI f) T Q := by
  have vr : vp_in (nI r) 9 := vp_in_nI (by omega) (by omega)
  have vf : vp_in (nI f) 9 := vp_in_nI (by omega) (by omega)
  have cF : (1000000000 : Int32).toInt = 1000000000 := by decide
  have e1 : (T.1 (40 + f) r).toInt = mo T f r := rfl
  have e2 : (T.1 38 f).toInt = lv T f := rfl
  unfold X2_greatestBeside X2_greatestBeside_b33
  rw [nI_clamp (by omega), nI_clamp (by omega), i_le, cF, e1]
  refine ⟨vf, vr, fun g => q _ ?_, fun g => ⟨vf, vf, vr, q _ ?_⟩⟩
  · rw [if_neg (by omega)]; exact cF
  · rw [if_pos (by omega), i_add (by rw [e1, e2]; omega) (by rw [e1, e2]; omega), e1, e2]
/-- the least and the greatest level beside the nodes that p names -/
def lsB (T : ZS) (r : Nat) (p : Nat → Prop) (L : Int) : Prop := (∀ f, p f → mo T r f < 1000000000 → lv T f - mo T r f ≤ L) ∧ (L = -1000000000 ∨ ∃ f, p f ∧ mo T r f < 1000000000 ∧ L = lv T f - mo T r f) ∧ -1000000000 ≤ L
def gsB (T : ZS) (r : Nat) (p : Nat → Prop) (G : Int) : Prop := (∀ f, p f → mo T f r < 1000000000 → G ≤ lv T f + mo T f r) ∧ (G = 1000000000 ∨ ∃ f, p f ∧ mo T f r < 1000000000 ∧ G = lv T f + mo T f r) ∧ G ≤ 1000000000
theorem x2_nearest {r : Nat} {T : ZS} {Q : Int32 → ZS → Prop} (hr : r < 8) (hm : ∀ i j, i ≤ 8 → j ≤ 8 → mo T i j = 1000000000 ∨ (-1000000 ≤ mo T i j ∧ mo T i j ≤ 1000000)) (hl : ∀ f, fxd r f → -10000000 ≤ lv T f ∧ lv T f ≤ 10000000)
    (q : ∀ (v : Int32) (L G : Int), lsB T r (fxd r) L → gsB T r (fxd r) G → v.toInt = (if L ≤ 0 then (if 0 < G then 0 else G) else L) → Q v T) : X2_nearestToZero (nI r) T Q := by
  have c0 : (0 : Int32).toInt = 0 := by decide
  have n8 : (8 : Int32) = nI 8 := rfl
  have l8 := hl 8 (Or.inl rfl)
  unfold X2_nearestToZero
  rw [n8]
  refine x2_leastBeside (by omega) (by omega) (hm r 8 (by omega) (by omega)) l8 (fun a ea => x2_greatestBeside (by omega) (by omega) (hm 8 r (by omega) (by omega)) l8 (fun b eb => ?_))
  have m1 := hm r 8 (by omega) (by omega)
  have m2 := hm 8 r (by omega) (by omega)
  refine zl_up3 r (fun i x y U => U = T ∧ lsB T r (fun f => f = 8 ∨ f < i) x.toInt ∧ gsB T r (fun f => f = 8 ∨ f < i) y.toInt) (by omega) (fun i x y U k hi hJ hk => ?_) a b T ⟨rfl, ?_, ?_⟩
  · obtain ⟨rfl, hx, hy⟩ := hJ
    show X2_nearestToZero_B19 (nI r) x y (nI i) U Q k
    unfold X2_nearestToZero_B19 X2_nearestToZero_b55 X2_nearestToZero_b68
    refine ⟨fun z => ?_, fun z => ?_⟩
    · have := up_end (n := r) (by omega) hi z
      subst this
      rw [i_le, c0]
      refine ⟨fun g => q _ _ _ hx hy ?_, fun g => q _ _ _ hx hy ?_⟩
      · rw [if_pos g]
        by_cases g2 : (0 : Int32) < y
        · have g3 := i_lt.mp g2
          rw [c0] at g3
          rw [if_pos g2, if_pos g3]; exact c0
        · have g3 : ¬ 0 < y.toInt := fun w => g2 (i_lt.mpr (by rw [c0]; exact w))
          rw [if_neg g2, if_neg g3]
      · rw [if_neg g]
    · have hlt := up_on (n := r) (by omega) hi z
      have li := hl i (Or.inr hlt)
      have m3 := hm r i (by omega) (by omega)
      have m4 := hm i r (by omega) (by omega)
      refine x2_leastBeside (by omega) (by omega) m3 li (fun c ec x' ex => x2_greatestBeside (by omega) (by omega) m4 li (fun d ed y' ey w ew => ?_))
      rw [nI_1] at ew
      subst ew
      have x'e : x'.toInt = if x.toInt < c.toInt then c.toInt else x.toInt := by
        rw [ex]
        by_cases g : x < c
        · rw [if_pos g, if_pos (i_lt.mp g)]
        · rw [if_neg g, if_neg (fun w => g (i_lt.mpr w))]
      have y'e : y'.toInt = if d.toInt < y.toInt then d.toInt else y.toInt := by
        rw [ey]
        by_cases g : d < y
        · rw [if_pos g, if_pos (i_lt.mp g)]
        · rw [if_neg g, if_neg (fun w => g (i_lt.mpr w))]
      refine hk hlt _ _ _ ⟨rfl, ?_, ?_⟩
      · obtain ⟨x1, x2, x3⟩ := hx
        rw [x'e, ec]
        refine ⟨fun f hf g => ?_, ?_, ?_⟩
        · by_cases e : f = i
          · subst e
            rw [if_pos g]
            split <;> omega
          · have := x1 f (by omega) g
            split <;> omega
        · by_cases g : mo U r i < 1000000000
          · rw [if_pos g]
            split
            · exact Or.inr ⟨i, Or.inr (by omega), g, rfl⟩
            · rcases x2 with e | ⟨f, e1, e2⟩
              · exact Or.inl e
              · exact Or.inr ⟨f, by omega, e2⟩
          · rw [if_neg g, if_neg (by omega)]
            rcases x2 with e | ⟨f, e1, e2⟩
            · exact Or.inl e
            · exact Or.inr ⟨f, by omega, e2⟩
        · split <;> omega
      · obtain ⟨y1, y2, y3⟩ := hy
        rw [y'e, ed]
        refine ⟨fun f hf g => ?_, ?_, ?_⟩
        · by_cases e : f = i
          · subst e
            rw [if_pos g]
            split <;> omega
          · have := y1 f (by omega) g
            split <;> omega
        · by_cases g : mo U i r < 1000000000
          · rw [if_pos g]
            split
            · exact Or.inr ⟨i, Or.inr (by omega), g, rfl⟩
            · rcases y2 with e | ⟨f, e1, e2⟩
              · exact Or.inl e
              · exact Or.inr ⟨f, by omega, e2⟩
          · rw [if_neg g, if_neg (by omega)]
            rcases y2 with e | ⟨f, e1, e2⟩
            · exact Or.inl e
            · exact Or.inr ⟨f, by omega, e2⟩
        · split <;> omega
  · rw [ea]
    refine ⟨fun f hf g => ?_, ?_, ?_⟩
    · have : f = 8 := by omega
      subst this
      rw [if_pos g]; exact Int.le_refl _
    · by_cases g : mo T r 8 < 1000000000
      · rw [if_pos g]; exact Or.inr ⟨8, Or.inl rfl, g, rfl⟩
      · rw [if_neg g]; exact Or.inl rfl
    · split <;> omega
  · rw [eb]
    refine ⟨fun f hf g => ?_, ?_, ?_⟩
    · have : f = 8 := by omega
      subst this
      rw [if_pos g]; exact Int.le_refl _
    · by_cases g : mo T 8 r < 1000000000
      · rw [if_pos g]; exact Or.inr ⟨8, Or.inl rfl, g, rfl⟩
      · rw [if_neg g]; exact Or.inl rfl
    · split <;> omega
/-- the higher of a price and a label -/
def gM (π d : Nat → Int) (C F : Int) (v : Nat) : Int := if d v < F then (if π v ≤ C - d v then C - d v else π v) else π v
theorem gM_cl {π d : Nat → Int} {C F w : Int} {t h : Nat} (hp : π h ≤ π t + w) (hd : d h < F → d t ≤ d h + w ∧ d t < F) : gM π d C F h ≤ gM π d C F t + w := by
  unfold gM
  by_cases a : d h < F
  · obtain ⟨b, c⟩ := hd a
    rw [if_pos a, if_pos c]
    split <;> split <;> omega
  · rw [if_neg a]
    split
    · split <;> omega
    · exact hp
theorem gm_v {π d : Nat → Int} {C F D : Int} {v : Nat} (h : d v = D) : gm π d C F v = if D < F then (if π v ≤ C + D then π v else C + D) else π v := by subst h; rfl
theorem gM_v {π d : Nat → Int} {C F D : Int} {v : Nat} (h : d v = D) : gM π d C F v = if D < F then (if π v ≤ C - D then C - D else π v) else π v := by subst h; rfl
theorem cn_rn {nr v : Nat} (h2 : nr ≤ 8) (h : v < nr ∨ v = 8) : cn nr (rn nr v) = v := by
  rcases h with h | h
  · have e : rn nr v = v := by unfold rn; rw [if_pos h]
    rw [e]; unfold cn; rw [if_pos h]
  · subst h
    have e : rn nr 8 = nr := by unfold rn; rw [if_neg (by omega)]
    rw [e]; unfold cn; rw [if_neg (by omega)]
theorem cn_le {nr v : Nat} (h2 : nr ≤ 8) : cn nr v ≤ 8 := by unfold cn; split <;> omega
/-- the closed limits, against what may change -/
def mxE (S : ZS) (s x : Nat → Int) (nc nr : Nat) (M : Nat → Nat → Int) : Prop := ∀ t h w o, eK S s x nc nr nc nr t h w o → M (cn nr t) (cn nr h) ≤ w
theorem cstep_ex {S : ZS} {s x y π ρ : Nat → Int} {nc nr r : Nat} {M : Nat → Nat → Int} {v : Int} (hC : zC S nc nr) (hρ : rhO S s x nc nr ρ) (hM : mxB S s x nc nr M 512000) (hT : tri M 9) (hE : mxE S s x nc nr M) (hr : r < nr) (hp : PiS S s x nc nr π) (hq : ∀ q, q < r → π q = y q)
    (u1 : ∀ q, q < r → M r q < 1000000000 → y q - M r q ≤ v) (u2 : ∀ q, q < r → M q r < 1000000000 → v ≤ y q + M q r) (g1 : M r 8 < 1000000000 → -M r 8 ≤ v) (g2 : M 8 r < 1000000000 → v ≤ M 8 r) : prA S s x nc nr y r v := by
  have h2 := hC.2.1
  have bd : ∀ a b, a ≤ 8 → b ≤ 8 → M a b < 1000000000 → -800000 ≤ M a b ∧ M a b ≤ 512000 := fun a b ha hb g => by
    rcases hM.lo hρ ha hb with w | w <;> omega
  have cr : cn nr r = r := by unfold cn; rw [if_pos hr]
  have cg : cn nr nr = 8 := by unfold cn; rw [if_neg (by omega)]
  by_cases g : v ≤ π r
  · have cl : clP S s x nc nr (gm π (fun u => M r (cn nr u)) v 1000000000) := fun t h w o k => by
      have nd := eK_nd hC k
      have e := hE t h w o k
      refine gm_cl (hp.2 t h w o k) (fun gt => ?_)
      have gt' : M r (cn nr t) < 1000000000 := gt
      have b1 := bd r (cn nr t) (by omega) (cn_le h2) gt'
      have t1 := hT (cn nr t) (by have := cn_le (nr := nr) (v := t) h2; omega) r (cn nr h) (by omega) (cn_le h2) gt' (by omega)
      show M r (cn nr h) ≤ M r (cn nr t) + w ∧ M r (cn nr h) < 1000000000
      exact ⟨by omega, by omega⟩
    refine ⟨_, ⟨?_, cl⟩, fun q hqr => ?_, ?_⟩
    · have := hp.1
      rw [gm_v (d := fun u => M r (cn nr u)) (v := nr) (D := M r 8) (show M r (cn nr nr) = M r 8 by rw [cg])]
      split
      · have := g1 (by assumption)
        split <;> omega
      · exact this
    · have := hq q hqr
      have cq : cn nr q = q := by unfold cn; rw [if_pos (by omega)]
      rw [gm_v (d := fun u => M r (cn nr u)) (v := q) (D := M r q) (show M r (cn nr q) = M r q by rw [cq])]
      split
      · have := u1 q hqr (by assumption)
        split <;> omega
      · exact this
    · rw [gm_v (d := fun u => M r (cn nr u)) (v := r) (D := 0) (show M r (cn nr r) = 0 by rw [cr, hM.2 r (by omega)]), if_pos (by omega)]
      split <;> omega
  · have cl : clP S s x nc nr (gM π (fun u => M (cn nr u) r) v 1000000000) := fun t h w o k => by
      have nd := eK_nd hC k
      have e := hE t h w o k
      refine gM_cl (hp.2 t h w o k) (fun gt => ?_)
      have gt' : M (cn nr h) r < 1000000000 := gt
      have b1 := bd (cn nr h) r (cn_le h2) (by omega) gt'
      have t1 := hT (cn nr h) (by have := cn_le (nr := nr) (v := h) h2; omega) (cn nr t) r (cn_le h2) (by omega) (by omega) gt'
      show M (cn nr t) r ≤ M (cn nr h) r + w ∧ M (cn nr t) r < 1000000000
      exact ⟨by omega, by omega⟩
    refine ⟨_, ⟨?_, cl⟩, fun q hqr => ?_, ?_⟩
    · have := hp.1
      rw [gM_v (d := fun u => M (cn nr u) r) (v := nr) (D := M 8 r) (show M (cn nr nr) r = M 8 r by rw [cg])]
      split
      · have := g2 (by assumption)
        split <;> omega
      · exact this
    · have := hq q hqr
      have cq : cn nr q = q := by unfold cn; rw [if_pos (by omega)]
      rw [gM_v (d := fun u => M (cn nr u) r) (v := q) (D := M q r) (show M (cn nr q) r = M q r by rw [cq])]
      split
      · have := u2 q hqr (by assumption)
        split <;> omega
      · exact this
    · rw [gM_v (d := fun u => M (cn nr u) r) (v := r) (D := 0) (show M (cn nr r) r = 0 by rw [cr, hM.2 r (by omega)]), if_pos (by omega)]
      split <;> omega
set_option maxHeartbeats 1000000 in
theorem x2_choose {nc nr m : Nat} {s x ρ : Nat → Int} {S T : ZS} {Q : ZS → Prop} (hC : zC S nc nr) (hs : sgn nr s) (hρ : rhO S s x nc nr ρ) (hAr : arP S T s x nc nr m) (h23 : ∀ r, r < nr → (T.1 23 r).toInt = s r) (hE : ∀ M : Nat → Nat → Int, (∀ a, a < m → aLm T M a) → mxE S s x nc nr M)
    (q : ∀ U y, (∀ n, n ≠ 37 → n ≠ 38 → n < 40 ∨ 48 < n → U.1 n = T.1 n) → U.2 = T.2 → canI S s x nc nr nr y → (∀ r, r < nr → (U.1 37 r).toInt = y r * s r) → Q U) : X2_choose (nI nr) T Q := by
  have h2 := hC.2.1
  have c0 : (0 : Int32).toInt = 0 := by decide
  have c8 : (8 : Int32).toNatClampNeg = 8 := rfl
  unfold X2_choose
  refine x2_setLimits hρ hAr (fun U fU mU lU => x2_tighten hρ mU (fun a ha => ⟨(hAr.2.2 a ha).1, (hAr.2.2 a ha).2.1⟩) lU (fun V fV mV tV lV => ⟨v8, fun W eW => ?_⟩))
  rw [c8] at eW
  have hEV := hE _ lV
  have fV' := fU.tr fV
  have moW : ∀ Y : ZS, (∀ n, n ≠ 37 → n ≠ 38 → Y.1 n = V.1 n) → ∀ i j, i ≤ 8 → mo Y i j = mo V i j := fun Y fY i j hi => by unfold mo; rw [fY (40 + i) (by omega) (by omega)]
  have mB : ∀ i j, i ≤ 8 → j ≤ 8 → mo V i j = 1000000000 ∨ (-1000000 ≤ mo V i j ∧ mo V i j ≤ 1000000) := fun i j hi hj => by
    rcases mV.lo hρ hi hj with w | w
    · exact Or.inl w
    · exact Or.inr (by omega)
  refine zl_up nr (fun i Y => (∀ n, n ≠ 37 → n ≠ 38 → Y.1 n = V.1 n) ∧ Y.2 = T.2 ∧ lv Y 8 = 0 ∧ ∃ y, canI S s x nc nr i y ∧ ∀ r, r < i → lv Y r = y r ∧ (Y.1 37 r).toInt = y r * s r) (by omega) (fun i Y k hi hJ hk2 => ?_) W ⟨fun n _ b => by rw [eW, zu_ne b], by rw [eW]; exact fV'.2, by unfold lv; rw [eW, zu_at, if_pos ⟨rfl, rfl⟩]; exact c0, fun _ => 0, ⟨⟨fun v => ρ v - ρ nr, ⟨Int.sub_self _, fun t h w o k => by have := hρ.1 t h w o k; show ρ h - ρ nr ≤ ρ t - ρ nr + w; omega⟩, fun q hq => by omega⟩, fun r hr => by omega⟩, fun r hr => by omega⟩
  obtain ⟨fY, y2, y8, y, cY, lY⟩ := hJ
  show X2_choose_B20 (nI nr) (nI i) Y Q k
  unfold X2_choose_B20 X2_choose_b64
  refine ⟨fun z => ?_, fun z => ?_⟩
  · have := up_end (n := nr) (by omega) hi z
    subst this
    exact q Y y (fun n a b c => by rw [fY n a b]; exact fV'.1 n c) y2 cY (fun r hr => (lY r hr).2)
  · have hlt := up_on (n := nr) (by omega) hi z
    have hvi : vp_in (nI i) 9 := vp_in_nI (by omega) (by omega)
    have hvr : vp_in (nI i) 8 := vp_in_nI (by omega) (by omega)
    have yb : ∀ q, q < i → -6400000 ≤ y q ∧ y q ≤ 6400000 := fun q hq => by
      have := canI_bd (K := 400000) (by omega) hi hρ.1 hρ.2 cY q hq
      omega
    refine x2_nearest (by omega) (fun a b ha hb => by rw [moW Y fY a b ha]; exact mB a b ha hb) (fun f hf => ?_) (fun v L G hL hG ev => ?_)
    · rcases hf with e | e
      · rw [e, y8]; omega
      · rw [(lY f e).1]; have := yb f e; omega
    have cY2 := cY
    obtain ⟨⟨π, hp, hq⟩, _⟩ := cY2
    have ri : rn nr i = i := by unfold rn; rw [if_pos hlt]
    have r8 : rn nr 8 = nr := by unfold rn; rw [if_neg (by omega)]
    -- every price lies between what stands beside it
    have btw : ∀ π', PiS S s x nc nr π' → (∀ q, q < i → π' q = y q) → ∀ f, fxd i f → (mo Y i f < 1000000000 → lv Y f - mo Y i f ≤ π' i) ∧ (mo Y f i < 1000000000 → π' i ≤ lv Y f + mo Y f i) := fun π' p1 p2 f hf => by
      have fx : f ≤ 8 ∧ lv Y f = π' (rn nr f) := by
        rcases hf with e | e
        · rw [e, y8, r8, p1.1]; exact ⟨by omega, rfl⟩
        · have : rn nr f = f := by unfold rn; rw [if_pos (by omega)]
          rw [this, p2 f e, (lY f e).1]; exact ⟨by omega, rfl⟩
      have mw : ∀ a b, a ≤ 8 → b ≤ 8 → mo V a b < 1000000000 → π' (rn nr b) - π' (rn nr a) ≤ mo V a b := fun a b ha hb g => by
        rcases mV.1 a b ha hb with e | e
        · omega
        · exact e.2 π' p1.2
      rw [moW Y fY i f (by omega), moW Y fY f i fx.1]
      refine ⟨fun g => ?_, fun g => ?_⟩
      · have := mw i f (by omega) fx.1 g
        rw [ri] at this
        omega
      · have := mw f i fx.1 (by omega) g
        rw [ri] at this
        omega
    have U1 : ∀ f, fxd i f → mo Y i f < 1000000000 → lv Y f - mo Y i f ≤ v.toInt := fun f hf g => by
      have a := hL.1 f hf g
      have b := (btw π hp hq f hf).1 g
      rw [ev]
      by_cases g1 : L ≤ 0
      · rw [if_pos g1]
        by_cases g2 : 0 < G
        · rw [if_pos g2]; omega
        · rw [if_neg g2]
          rcases hG.2.1 with e | ⟨f', e1, e2, e3⟩
          · omega
          · have := (btw π hp hq f' e1).2 e2; omega
      · rw [if_neg g1]; exact a
    have U2 : ∀ f, fxd i f → mo Y f i < 1000000000 → v.toInt ≤ lv Y f + mo Y f i := fun f hf g => by
      have a := hG.1 f hf g
      have b := (btw π hp hq f hf).2 g
      rw [ev]
      by_cases g1 : L ≤ 0
      · rw [if_pos g1]
        by_cases g2 : 0 < G
        · rw [if_pos g2]; omega
        · rw [if_neg g2]; exact a
      · rw [if_neg g1]
        rcases hL.2.1 with e | ⟨f', e1, e2, e3⟩
        · omega
        · have := (btw π hp hq f' e1).1 e2; omega
    have ex : prA S s x nc nr y i v.toInt := by
      refine cstep_ex hC hρ mV tV hEV hlt hp hq (fun q hqi g => ?_) (fun q hqi g => ?_) (fun g => ?_) (fun g => ?_)
      · have := U1 q (Or.inr hqi)
        rw [moW Y fY i q (by omega), (lY q hqi).1] at this
        exact this g
      · have := U2 q (Or.inr hqi)
        rw [moW Y fY q i (by omega), (lY q hqi).1] at this
        exact this g
      · have := U1 8 (Or.inl rfl)
        rw [moW Y fY i 8 (by omega), y8] at this
        have := this g
        omega
      · have := U2 8 (Or.inl rfl)
        rw [moW Y fY 8 i (by omega), y8] at this
        have := this g
        omega
    have hnz : nz (prA S s x nc nr y i) v.toInt := by
      refine ⟨ex, fun g w ⟨π', p1, p2, p3⟩ => ?_, fun g w ⟨π', p1, p2, p3⟩ => ?_⟩
      · rw [ev] at g ⊢
        by_cases g1 : L ≤ 0
        · rw [if_pos g1] at g
          by_cases g2 : 0 < G
          · rw [if_pos g2] at g; omega
          · rw [if_neg g2] at g; omega
        · rw [if_neg g1]
          rcases hL.2.1 with e | ⟨f', e1, e2, e3⟩
          · omega
          · have := (btw π' p1 p2 f' e1).1 e2; omega
      · rw [ev] at g ⊢
        by_cases g1 : L ≤ 0
        · rw [if_pos g1] at g ⊢
          by_cases g2 : 0 < G
          · rw [if_pos g2] at g; omega
          · rw [if_neg g2]
            rcases hG.2.1 with e | ⟨f', e1, e2, e3⟩
            · omega
            · have := (btw π' p1 p2 f' e1).2 e2; omega
        · rw [if_neg g1] at g; omega
    have cN := canI_step cY hnz
    have tb := canI_bd (K := 400000) (by omega) (by omega) hρ.1 hρ.2 cN i (by omega)
    rw [fup_e] at tb
    rw [nI_clamp (by omega)]
    refine ⟨hvi, fun Y1 e1 => ⟨hvi, hvr, hvr, fun Y2 e2 w ew => ?_⟩⟩
    rw [nI_1] at ew
    subst ew
    have y123 : (Y1.1 23 i).toInt = s i := by rw [e1, zu_ne (by decide), fY 23 (by decide) (by decide), fV'.1 23 (by omega)]; exact h23 i hlt
    have y138 : (Y1.1 38 i).toInt = v.toInt := by rw [e1, zu_at, if_pos ⟨rfl, rfl⟩]
    have l2 : ∀ f, lv Y2 f = if f = i then v.toInt else lv Y f := fun f => by
      unfold lv
      rw [e2, zu_ne (by decide), e1, zu_at]
      by_cases e : f = i
      · rw [if_pos ⟨rfl, e⟩, if_pos e]
      · rw [if_neg (fun z => e z.2), if_neg e]
    refine hk2 hlt Y2 ⟨fun n a b => by rw [e2, zu_ne a, e1, zu_ne b]; exact fY n a b, by rw [e2, e1]; exact y2, by rw [l2, if_neg (by omega)]; exact y8, fup y i v.toInt, cN, fun r hr => ?_⟩
    rw [l2]
    by_cases e : r = i
    · rw [if_pos e, e, fup_e, e2, zu_at, if_pos ⟨rfl, rfl⟩]
      refine ⟨rfl, ?_⟩
      have sb := hs i hlt
      have m1 : -6400000 ≤ v.toInt * s i ∧ v.toInt * s i ≤ 6400000 := by rcases sb with g | g <;> rw [g] <;> omega
      rw [i_mul (by rw [y138, y123]; omega) (by rw [y138, y123]; omega), y138, y123]
    · rw [if_neg e, fup_n _ _ e, e2, zu_at, if_neg (fun z => e z.2), e1, zu_ne (by decide)]
      exact lY r (by omega)
