/-! nature() -/
theorem zl_cf {σ : Type} {b : σ → (σ → Prop) → Prop} (ctr : σ → Int32) (n i0 : Nat) (J : Nat → σ → Prop) (hn : n < 2 ^ 31) (hs : ∀ (i : Nat) (s : σ) (k : σ → Prop), i0 ≤ i → i ≤ n → ctr s = nI i → J i s → (i < n → ∀ s', ctr s' = nI (i + 1) → J (i + 1) s' → k s') → b s k) (s0 : σ) (hi0 : i0 ≤ n) (h0 : ctr s0 = nI i0) (j0 : J i0 s0) : zl b s0 := by
  refine zl_of (fun y => ∃ i, i0 ≤ i ∧ i ≤ n ∧ ctr y = nI i ∧ J i y) (fun y => n - (ctr y).toNatClampNeg) (fun y k hy hk => ?_) _ ⟨i0, Nat.le_refl _, hi0, h0, j0⟩
  obtain ⟨i, hi1, hi, e, hJ⟩ := hy
  refine hs i y k hi1 hi e hJ (fun hlt s' e' hs' => hk _ ⟨i + 1, by omega, hlt, e', hs'⟩ ?_)
  show n - (ctr s').toNatClampNeg < n - (ctr y).toNatClampNeg
  rw [e, e', nI_clamp (by omega), nI_clamp (by omega)]
  omega
theorem zl_dmc {σ : Type} {b : σ → (σ → Prop) → Prop} (ctr : σ → Int32) (n : Nat) (J : Nat → σ → Prop) (hn : n < 2 ^ 31) (hs : ∀ (i : Nat) (s : σ) (k : σ → Prop), i ≤ n → ctr s = nI i - 1 → J i s → (∀ j, i = j + 1 → ∀ s', ctr s' = nI j - 1 → J j s' → k s') → b s k) (s0 : σ) (h0 : ctr s0 = nI n - 1) (j0 : J n s0) : zl b s0 := by
  refine zl_of (fun y => ∃ i, i ≤ n ∧ ctr y = nI i - 1 ∧ J i y) (fun y => (ctr y + 1).toNatClampNeg) (fun y k hy hk => ?_) _ ⟨n, Nat.le_refl _, h0, j0⟩
  obtain ⟨i, hi, e, hJ⟩ := hy
  refine hs i y k hi e hJ (fun j ej s' e' hs' => hk _ ⟨j, by omega, e', hs'⟩ ?_)
  show (ctr s' + 1).toNatClampNeg < (ctr y + 1).toNatClampNeg
  rw [e, e', Int32.sub_add_cancel, Int32.sub_add_cancel, nI_clamp (by omega), nI_clamp (by omega)]
  omega
theorem x7_isEven {s t nc nr : Nat} {S : ZS} {Q : Int32 → ZS → Prop} (h1 : nc ≤ 10) (h2 : nr ≤ 8) (h5 : S.1 61 1 = nI nc) (h6 : S.1 61 2 = nI nr) (hs : s < 256) (ht : t < 256) (hb : ∀ r c, r < nr → c < nc → -100 ≤ aR S r c ∧ aR S r c ≤ 100) (q1 : evn (aR S) nr nc s t → Q 1 S) (q0 : ¬ evn (aR S) nr nc s t → Q 0 S) : X7_isEven (nI s) (nI t) S Q := by
  have c0 : (0 : Int32).toInt = 0 := by decide
  have b1 : (1 : Int64).toInt = 1 := by decide
  have bm : (-1 : Int64).toInt = -1 := by decide
  unfold X7_isEven
  refine zl_up2 nc (fun i x T => T = S ∧ zbit x ∧ (x = 1 ↔ ∀ c, c < i → -1 ≤ sI (pS (aR S) c s t) nr ∧ sI (pS (aR S) c s t) nr ≤ 1)) (by omega) (fun i x T k hi hJ hk => ?_) 1 S ⟨rfl, Or.inr rfl, bit_yes (fun d hd => by omega)⟩
  obtain ⟨rfl, hz, hx⟩ := hJ
  show X7_isEven_B5 (nI s) (nI t) x (nI i) T Q k
  unfold X7_isEven_B5 X7_isEven_b102
  rw [h5]
  refine ⟨fun z => ⟨hz, ?_⟩, fun z => ⟨fun g => ⟨hz, ?_⟩, fun g => ?_⟩⟩
  · have := up_end (by omega) hi z
    subst this
    rcases hz with e | e
    · rw [e]; exact q0 (bit_0 e hx)
    · rw [e]; exact q1 (hx.mp e)
  · rw [g]
    exact q0 (fun h => bit_0 g hx (fun c hc => h c (by omega)))
  · have hlt := up_on (by omega) hi z
    refine zl_up2 nr (fun r u U => U = T ∧ u.toInt = sI (pS (aR T) i s t) r) (by omega) (fun r u U k2 hr hJ hk2 => ?_) 0 T ⟨rfl, c0⟩
    obtain ⟨rfl, hu⟩ := hJ
    show X7_isEven_B24 (nI s) (nI t) (nI i) u (nI r) U Q k k2
    unfold X7_isEven_B24
    rw [h6]
    refine ⟨fun z => ?_, fun z => ?_⟩
    · have := up_end (by omega) hr z
      subst this
      unfold X7_isEven_b85
      refine m_within (fun w ew => ?_)
      rw [nI_1] at ew
      subst ew
      refine hk hlt _ _ ⟨rfl, zb_bit _, ?_⟩
      rw [b1, bm, l_i, hu]
      have hx1 := hx.mp (bit_1 hz g)
      by_cases e : -1 ≤ sI (pS (aR U) i s t) r ∧ sI (pS (aR U) i s t) r ≤ 1
      · rw [zb_t e]
        refine bit_yes (fun c hc => ?_)
        by_cases e2 : c = i
        · rw [e2]; exact e
        · exact hx1 c (by omega)
      · rw [zb_f e]
        exact bit_no (fun h => e (h i (by omega)))
    · have hrl := up_on (by omega) hr z
      have hbr := hb r i hrl (by omega)
      have hpb : ∀ q, q < nr → -100 ≤ pS (aR U) i s t q ∧ pS (aR U) i s t q ≤ 100 := fun q hq => by
        have h := hb q i hq (by omega)
        unfold pS
        split
        · split <;> omega
        · omega
      have hbd := sI_le (g := pS (aR U) i s t) (n := r) (b := 100) (fun q hq => hpb q (by omega))
      have hp2 := hpb r hrl
      have fin : ∀ v : Int32, v.toInt = pS (aR U) i s t r → X7_isEven_b76 (nI s) (nI t) (nI i) (nI r) v u U Q k k2 := by
        intro v hv
        unfold X7_isEven_b76
        intro w ew y ey
        rw [nI_1] at ey
        subst ey
        refine hk2 hrl _ _ ⟨rfl, ?_⟩
        rw [ew, i_add (by rw [hu, hv]; omega) (by rw [hu, hv]; omega), hu, hv]
        rfl
      have b54 : ∀ v : Int32, v.toInt = (if s.testBit r = true then aR U r i else 0) → X7_isEven_b54 (nI s) (nI t) (nI i) u (nI r) v U Q k k2 := by
        intro v hv
        have hv2 : -100 ≤ v.toInt ∧ v.toInt ≤ 100 := by rw [hv]; split <;> omega
        unfold X7_isEven_b54
        rw [(bit_at t ht r (by omega)).1]
        refine ⟨fun g2 => fin _ ?_, fun g2 => fin _ ?_⟩
        · rw [i_neg (by omega), hv]
          unfold pS
          rw [if_pos g2]
          split <;> rfl
        · rw [hv]
          unfold pS
          rw [if_neg g2]
      rw [(bit_at s hs r (by omega)).2]
      refine ⟨fun g2 => b54 _ ?_, fun g2 => x7_coef (by omega) (by omega) (b54 _ ?_)⟩
      · rw [g2]; exact c0
      · have : s.testBit r = true := by
          cases e : s.testBit r
          · exact absurd e g2
          · rfl
        rw [this]; rfl
theorem x7_nature {nc nr : Nat} {S : ZS} {Q : Int32 → ZS → Prop} (h1 : nc ≤ 10) (h2 : nr ≤ 8) (h5 : S.1 61 1 = nI nc) (h6 : S.1 61 2 = nI nr) (hb : ∀ r c, r < nr → c < nc → -100 ≤ aR S r c ∧ aR S r c ≤ 100) (q : ∀ x, fS (aR S) nr nc x → Q x S) : zl (X7_nature_L7 Q) ((1 : Int32), S) := by
  have hp := pow_le h2
  have hp0 : 0 < 2 ^ nr := Nat.two_pow_pos nr
  refine zl_cf (fun s => s.1) (2 ^ nr) 1 (fun i s => s.2 = S ∧ ∀ t, 0 < t → t < i → okS (aR S) nr nc t) (by omega) (fun i s k hi1 hi ec hJ hk => ?_) _ (by omega) rfl ⟨rfl, fun t a b => by omega⟩
  obtain ⟨x, T⟩ := s
  dsimp only at ec hJ
  obtain ⟨rfl, hj⟩ := hJ
  subst ec
  show X7_nature_B7 (nI i) T Q k
  unfold X7_nature_B7 X7_nature_b70
  rw [h6, two_pow nr h2]
  refine ⟨fun z => ?_, fun z => ?_⟩
  · have := up_endG (by omega) hi z
    rw [this] at hj
    exact q _ (Or.inr ⟨hj, rfl⟩)
  · have hlt := up_onG (by omega) hi z
    have out : ∀ x2 : Int32, zbit x2 → (x2 = 1 ↔ okS (aR T) nr nc i) → X7_nature_b58 (nI i) x2 T Q k := by
      intro x2 hz hx
      unfold X7_nature_b58 X7_nature_b62
      refine ⟨fun g => q _ (Or.inl ⟨i, by omega, hlt, bit_0 g hx, hj, rfl⟩), fun g w ew => ?_⟩
      rw [nI_1] at ew
      subst ew
      refine hk hlt _ rfl ⟨rfl, fun t a b => ?_⟩
      by_cases e : t = i
      · rw [e]; exact hx.mp (bit_1 hz g)
      · exact hj t a (by omega)
    refine zl_dmc (fun y => y.2.1) (i + 1) (fun j y => y.2.2 = T ∧ zbit y.1 ∧ (y.1 = 0 → ∀ t, j ≤ t → sb t i → ¬ evn (aR T) nr nc i t) ∧ (y.1 = 1 → okS (aR T) nr nc i)) (by omega) (fun j y k2 hjj ec hJ hk2 => ?_) _ (nI_pred i).symm ⟨rfl, Or.inl rfl, fun _ t a b => by have := sb_le t i b; omega, fun e => absurd (show (0 : Int32) = 1 from e) (by decide)⟩
    obtain ⟨x2, x3, U⟩ := y
    dsimp only at ec hJ
    obtain ⟨rfl, hz, hx0, hx1⟩ := hJ
    subst ec
    show X7_nature_B21 (nI i) x2 (nI j - 1) U Q k k2
    unfold X7_nature_B21
    have done : ¬ x2 = 0 → X7_nature_b58 (nI i) x2 U Q k := fun g => out x2 hz ⟨fun e => hx1 e, fun _ => bit_1 hz g⟩
    refine ⟨fun z2 => ?_, fun z2 => ⟨fun g => ?_, fun g => done g⟩⟩
    · have j0 : j = 0 := by
        refine Classical.byContradiction (fun w => ?_)
        obtain ⟨j', rfl⟩ : ∃ j', j = j' + 1 := ⟨j - 1, by omega⟩
        rw [nI_pred] at z2
        exact absurd z2 (nI_pos (by omega))
      subst j0
      by_cases g : x2 = 0
      · exact out x2 hz ⟨fun e => hx1 e, fun ⟨t, t1, t2⟩ => absurd t2 (hx0 g t (by omega) t1)⟩
      · exact done g
    · have j0 : j ≠ 0 := fun e => by
        subst e
        exact z2 (by decide)
      obtain ⟨j', rfl⟩ : ∃ j', j = j' + 1 := ⟨j - 1, by omega⟩
      rw [nI_pred]
      have step : ∀ v : Int32, zbit v → (v = 0 → sb j' i → ¬ evn (aR U) nr nc i j') → (v = 1 → okS (aR U) nr nc i) → X7_nature_b51 (nI i) (nI j') v U Q k k2 := by
        intro v hv hv0 hv1
        unfold X7_nature_b51
        intro w ew
        rw [← Int32.sub_eq_add_neg] at ew
        subst ew
        refine hk2 j' rfl _ rfl ⟨rfl, hv, fun e t a b => ?_, hv1⟩
        by_cases e2 : t = j'
        · rw [e2] at b ⊢; exact hv0 e b
        · exact hx0 g t (by omega) b
      unfold X7_nature_b50
      rw [sub_at (by omega) (by omega)]
      refine ⟨fun g2 => ?_, fun g2 => step 0 (Or.inl rfl) (fun _ w => absurd w g2) (fun e => absurd e (by decide))⟩
      refine x7_isEven h1 h2 h5 h6 (by omega) (by omega) hb (fun w => ⟨fun e => absurd e (by decide), fun _ => step 1 (Or.inr rfl) (fun e => absurd e (by decide)) (fun _ => ⟨j', g2, w⟩)⟩) (fun w => ⟨fun _ => step 0 (Or.inl rfl) (fun _ _ => w) (fun e => absurd e (by decide)), fun e => absurd rfl e⟩)
/-- the class -/
theorem or_two : ∀ i, i < 8 → ∀ a, a < 2 ^ i → nI a ||| ((1 : Int32) <<< (nI i &&& 31)) = nI (2 ^ i + a) := by decide +kernel
def bc32 (y0 : Int32) : Int32 :=
  let x9 := y0 - ((y0.toUInt32 >>> ((1 : Int32).toUInt32 &&& Int32.toUInt32 31)).toInt32 &&& (1431655765 : Int32))
  let x23 := (x9 &&& (858993459 : Int32)) + ((x9.toUInt32 >>> ((2 : Int32).toUInt32 &&& Int32.toUInt32 31)).toInt32 &&& (858993459 : Int32))
  let x33 := (x23 + (x23.toUInt32 >>> ((4 : Int32).toUInt32 &&& Int32.toUInt32 31)).toInt32) &&& (252645135 : Int32)
  let x40 := x33 + (x33.toUInt32 >>> ((8 : Int32).toUInt32 &&& Int32.toUInt32 31)).toInt32
  let x47 := x40 + (x40.toUInt32 >>> ((16 : Int32).toUInt32 &&& Int32.toUInt32 31)).toInt32
  x47 &&& (63 : Int32)
theorem bc_at : ∀ m, m < 256 → bc32 (nI m) = nI (cnt (fun r => m.testBit r) 8) := by decide +kernel
theorem x_bitCount {m : Nat} {S : ZS} {Q : Int32 → ZS → Prop} (hm : m < 256) (q : Q (nI (cnt (fun r => m.testBit r) 8)) S) : J6_bitCount_0f7a4 (nI m) S Q := by
  rw [← bc_at m hm] at q
  unfold J6_bitCount_0f7a4
  intro a ea b eb c ec d ed e ee
  subst ee ed ec eb ea
  exact q
theorem cnt_ext {p : Nat → Bool} {n m : Nat} (h : ∀ r, n ≤ r → p r = false) (hm : n ≤ m) : cnt p m = cnt p n := by
  induction m with
  | zero => have : n = 0 := by omega
            rw [this]
  | succ m ih =>
    by_cases e : n = m + 1
    · rw [e]
    · rw [cnt_s, ih (by omega), if_neg (by rw [h m (by omega)]; decide)]; rfl
theorem cnt_sI (p : Nat → Bool) (n : Nat) : (cnt p n : Int) = sI (fun r => if p r = true then 1 else 0) n := by
  induction n with
  | zero => rfl
  | succ n ih =>
    rw [cnt_s, sI_s, ← ih]
    split <;> omega
/-- the numbers that noteSides keeps -/
def abv (S : ZS) (nr c : Nat) : Nat := mkset (fun r => decide (0 < aC S r c)) nr
def blw (S : ZS) (nr c : Nat) : Nat := mkset (fun r => decide (aC S r c < 0)) nr
theorem mkset_s (f : Nat → Bool) (n : Nat) : mkset f (n + 1) = if f n = true then 2 ^ n + mkset f n else mkset f n := rfl
theorem or_set {f : Nat → Bool} {i : Nat} (hi : i < 8) : (f i = true → nI (mkset f i) ||| ((1 : Int32) <<< (nI i &&& 31)) = nI (mkset f (i + 1))) ∧ (¬ f i = true → nI (mkset f i) ||| (0 : Int32) = nI (mkset f (i + 1))) := by
  refine ⟨fun h => ?_, fun h => ?_⟩
  · rw [or_two i hi _ (mkset_lt f i), mkset_s, if_pos h]
  · rw [Int32.or_zero, mkset_s, if_neg h]
theorem x4_noteSides {nc nr : Nat} {S : ZS} {Q : ZS → Prop} (h1 : nc ≤ 10) (h2 : nr ≤ 8) (h3 : S.1 1 0 = nI nc) (h4 : S.1 1 1 = nI nr) (q : ∀ T, zQ2 24 25 S T → (∀ c, c < nc → T.1 24 c = nI (abv S nr c) ∧ T.1 25 c = nI (blw S nr c)) → Q T) : X4_noteSides S Q := by
  have c0 : (0 : Int32).toInt = 0 := by decide
  unfold X4_noteSides
  refine zl_up nc (fun i T => zQ2 24 25 S T ∧ ∀ c, c < i → T.1 24 c = nI (abv S nr c) ∧ T.1 25 c = nI (blw S nr c)) (by omega) (fun i T k hi hJ hk => ?_) S ⟨zQ2.rf S, fun c hc => by omega⟩
  obtain ⟨hT, hj⟩ := hJ
  have e1 : T.1 1 = S.1 1 := hT.2 1 (by decide) (by decide)
  show X4_noteSides_B2 (nI i) T Q k
  unfold X4_noteSides_B2 X4_noteSides_b104
  rw [e1, h3]
  refine ⟨fun z => ?_, fun z => ?_⟩
  · have := up_end (by omega) hi z
    subst this
    exact q T hT hj
  · have hlt := up_on (by omega) hi z
    refine zl_up3 nr (fun r x y U => U = T ∧ x = nI (mkset (fun r => decide (0 < aC S r i)) r) ∧ y = nI (mkset (fun r => decide (aC S r i < 0)) r)) (by omega) (fun r x y U k2 hr hJ hk2 => ?_) 0 0 T ⟨rfl, rfl, rfl⟩
    obtain ⟨rfl, rfl, rfl⟩ := hJ
    show X4_noteSides_B20 (nI i) _ _ (nI r) U Q k k2
    unfold X4_noteSides_B20
    rw [e1, h4]
    refine ⟨fun z2 => ?_, fun z2 => ?_⟩
    · have := up_end (by omega) hr z2
      subst this
      unfold X4_noteSides_b84
      have hv : vp_in (nI i) 10 := vp_in_nI (by omega) (by omega)
      refine ⟨hv, fun V eV => ⟨hv, fun W eW w ew => ?_⟩⟩
      rw [nI_clamp (by omega)] at eV eW
      rw [nI_1] at ew
      subst ew
      refine hk hlt W ⟨by rw [eW, eV]; exact hT.ua.ub, fun c hc => ?_⟩
      rw [eW, zu_ne (by decide : (24 : Nat) ≠ 25), zu_at, eV, zu_at]
      have e25 : (zu U 24 i (nI (mkset (fun r => decide (0 < aC S r i)) r))).1 25 c = U.1 25 c := by rw [zu_ne (by decide)]
      rw [e25]
      by_cases e : c = i
      · rw [if_pos ⟨rfl, e⟩, if_pos ⟨rfl, e⟩, e]
        exact ⟨rfl, rfl⟩
      · rw [if_neg (fun w => e w.2), if_neg (fun w => e w.2)]
        exact hj c (by omega)
    · have hrl := up_on (by omega) hr z2
      have eA : (U.1 (14 + r) i).toInt = aC S r i := by
        unfold aC
        rw [hT.2 (14 + r) (by omega) (by omega)]
      refine ⟨vp_in_nI (by omega) (by omega), vp_in_nI (by omega) (by omega), fun v ev => ?_⟩
      rw [nI_clamp (by omega), nI_clamp (by omega)] at ev
      have hv : v.toInt = aC S r i := by rw [ev]; exact eA
      rw [i_le, c0, hv]
      have last : ∀ x : Int32, x = nI (mkset (fun r => decide (0 < aC S r i)) (r + 1)) → ∀ t : Int32, nI (mkset (fun r => decide (aC S r i < 0)) r) ||| t = nI (mkset (fun r => decide (aC S r i < 0)) (r + 1)) → X4_noteSides_b76 (nI i) x (nI r) t (nI (mkset (fun r => decide (aC S r i < 0)) r)) U Q k k2 := by
        intro x ex t et
        unfold X4_noteSides_b76
        intro y ey w ew
        rw [nI_1] at ew
        subst ew
        exact hk2 hrl _ _ _ ⟨rfl, ex, ey.trans et⟩
      have mid : ∀ t : Int32, nI (mkset (fun r => decide (0 < aC S r i)) r) ||| t = nI (mkset (fun r => decide (0 < aC S r i)) (r + 1)) → X4_noteSides_b60 (nI i) (nI (mkset (fun r => decide (aC S r i < 0)) r)) (nI r) v t (nI (mkset (fun r => decide (0 < aC S r i)) r)) U Q k k2 := by
        intro t et
        unfold X4_noteSides_b60
        intro x ex
        rw [i_le, c0, hv]
        exact ⟨fun g => last x (ex.trans et) _ ((or_set (by omega)).2 (by rw [decide_eq_true_eq]; omega)), fun g => last x (ex.trans et) _ ((or_set (f := fun r => decide (aC S r i < 0)) (by omega)).1 (by rw [decide_eq_true_eq]; omega))⟩
      exact ⟨fun g => mid _ ((or_set (by omega)).2 (by rw [decide_eq_true_eq]; omega)), fun g => mid _ ((or_set (f := fun r => decide (0 < aC S r i)) (by omega)).1 (by rw [decide_eq_true_eq]; omega))⟩
/-- what is noted, at a set parted in two -/
theorem cnt_prt {S : ZS} {nr c o p : Nat} (h2 : nr ≤ 8) (hd : ∀ r, o.testBit r = true → p.testBit r = true → False) (hu : ∀ r, r < nr → (o.testBit r = true ∨ p.testBit r = true) → -1 ≤ aC S r c ∧ aC S r c ≤ 1) :
    (cnt (fun r => ((abv S nr c &&& o) ||| (blw S nr c &&& p)).testBit r) 8 : Int) - cnt (fun r => ((abv S nr c &&& p) ||| (blw S nr c &&& o)).testBit r) 8 = sI (pT (aC S) c o p) nr := by
  have hb : ∀ a b r, nr ≤ r → ((abv S nr c &&& a) ||| (blw S nr c &&& b)).testBit r = false := fun a b r hr => by
    rw [Nat.testBit_or, Nat.testBit_and, Nat.testBit_and]
    unfold abv blw
    rw [mkset_tb, mkset_tb, decide_eq_false (show ¬ r < nr by omega)]
    simp
  rw [cnt_ext (hb o p) h2, cnt_ext (hb p o) h2, cnt_sI, cnt_sI]
  have e : ∀ x y : Int, x - y = x + -y := fun x y => Int.sub_eq_add_neg
  rw [e, ← sI_neg, ← sI_add]
  refine sI_congr (fun r hr => ?_)
  have h1 := hd r
  have h3 := hu r hr
  rw [Nat.testBit_or, Nat.testBit_and, Nat.testBit_and, Nat.testBit_or, Nat.testBit_and, Nat.testBit_and]
  unfold abv blw pT
  rw [mkset_tb, mkset_tb, decide_eq_true hr, Bool.and_true, Bool.and_true]
  cases eo : o.testBit r <;> cases ep : p.testBit r
  · simp
  · have h4 := h3 (Or.inr ep)
    by_cases g1 : 0 < aC S r c
    · have g2 : ¬ aC S r c < 0 := by omega
      simp [g1, g2]; omega
    · by_cases g2 : aC S r c < 0
      · simp [g1, g2]; omega
      · simp [g1, g2]; omega
  · have h4 := h3 (Or.inl eo)
    by_cases g1 : 0 < aC S r c
    · have g2 : ¬ aC S r c < 0 := by omega
      simp [g1, g2]; omega
    · by_cases g2 : aC S r c < 0
      · simp [g1, g2]; omega
      · simp [g1, g2]; omega
  · exact absurd (h1 eo ep) id
theorem abv_lt {S : ZS} {nr c : Nat} (h2 : nr ≤ 8) : abv S nr c < 256 ∧ blw S nr c < 256 := by
  have := pow_le h2
  have h3 := mkset_lt (fun r => decide (0 < aC S r c)) nr
  have h4 := mkset_lt (fun r => decide (aC S r c < 0)) nr
  unfold abv blw
  omega
theorem x4_isParting {nc nr o p : Nat} {S T : ZS} {Q : Int32 → ZS → Prop} (h1 : nc ≤ 10) (h2 : nr ≤ 8) (h3 : T.1 1 0 = nI nc) (hn : ∀ c, c < nc → T.1 24 c = nI (abv S nr c) ∧ T.1 25 c = nI (blw S nr c)) (ho : o < 256) (hp : p < 256) (hd : ∀ r, o.testBit r = true → p.testBit r = true → False) (hu : ∀ r c, r < nr → c < nc → (o.testBit r = true ∨ p.testBit r = true) → -1 ≤ aC S r c ∧ aC S r c ≤ 1) (q1 : prt (aC S) nr nc o p → Q 1 T) (q0 : ¬ prt (aC S) nr nc o p → Q 0 T) : X4_isParting (nI o) (nI p) T Q := by
  have c1 : (1 : Int32).toInt = 1 := by decide
  unfold X4_isParting
  refine zl_up nc (fun i U => U = T ∧ ∀ c, c < i → -1 ≤ sI (pT (aC S) c o p) nr ∧ sI (pT (aC S) c o p) nr ≤ 1) (by omega) (fun i U k hi hJ hk => ?_) T ⟨rfl, fun c hc => by omega⟩
  obtain ⟨rfl, hj⟩ := hJ
  show X4_isParting_B2 (nI o) (nI p) (nI i) U Q k
  unfold X4_isParting_B2 X4_isParting_b77 X4_isParting_b69
  rw [h3]
  refine ⟨fun z => ?_, fun z => ?_⟩
  · have := up_end (by omega) hi z
    subst this
    exact ⟨Or.inr rfl, q1 hj⟩
  · have hlt := up_on (by omega) hi z
    have hv : vp_in (nI i) 10 := vp_in_nI (by omega) (by omega)
    have hl := abv_lt (S := S) (c := i) h2
    refine ⟨hv, fun a ea => ⟨hv, fun b eb => ?_⟩⟩
    rw [nI_clamp (by omega), (hn i hlt).1] at ea
    rw [nI_clamp (by omega), (hn i hlt).2] at eb
    subst ea eb
    rw [← nI_and, ← nI_and, ← nI_or, ← nI_and, ← nI_and, ← nI_or]
    have lt1 : ∀ x y, x < 256 → y < 256 → ((abv S nr i &&& x) ||| (blw S nr i &&& y)) < 256 := fun x y hx hy => Nat.or_lt_two_pow (n := 8) (Nat.and_lt_two_pow _ hx) (Nat.and_lt_two_pow _ hy)
    refine x_bitCount (lt1 o p ho hp) (x_bitCount (lt1 p o hp ho) (m_isWithin (by decide) ?_))
    have hc := cnt_prt (S := S) (c := i) h2 hd (fun r hr => hu r i hr hlt)
    have l1 := cnt_le (fun r => ((abv S nr i &&& o) ||| (blw S nr i &&& p)).testBit r) 8
    have l2 := cnt_le (fun r => ((abv S nr i &&& p) ||| (blw S nr i &&& o)).testBit r) 8
    rw [zb_0, c1, i_sub (by rw [nI_toInt (by omega), nI_toInt (by omega)]; omega) (by rw [nI_toInt (by omega), nI_toInt (by omega)]; omega), nI_toInt (by omega), nI_toInt (by omega), hc]
    refine ⟨fun g => ⟨Or.inl rfl, q0 (fun h => g (h i hlt))⟩, fun g w ew => ?_⟩
    rw [nI_1] at ew
    subst ew
    refine hk hlt _ ⟨rfl, fun c hc => ?_⟩
    by_cases e : c = i
    · rw [e]; exact Classical.not_not.mp g
    · exact hj c (by omega)
theorem x4_canBeParted {nc nr o i : Nat} {S T : ZS} {Q : Int32 → ZS → Prop} (h1 : nc ≤ 10) (h2 : nr ≤ 8) (h3 : T.1 1 0 = nI nc) (hn : ∀ c, c < nc → T.1 24 c = nI (abv S nr c) ∧ T.1 25 c = nI (blw S nr c)) (hi : i < nr) (ho : o < 2 ^ i) (hu : ∀ r c, r ≤ i → c < nc → -1 ≤ aC S r c ∧ aC S r c ≤ 1) (q1 : okS (aC S) nr nc (o + 2 ^ i) → Q 1 T) (q0 : ¬ okS (aC S) nr nc (o + 2 ^ i) → Q 0 T) : X4_canBeParted (nI o) (nI (2 ^ i)) T Q := by
  have hpi : 2 ^ i ≤ 128 := Nat.pow_le_pow_right (n := 2) (by omega) (by omega : i ≤ 7)
  have bits : ∀ a, sb a o → ∀ r, ((o - a) + 2 ^ i).testBit r = ((o.testBit r && !a.testBit r) || decide (r = i)) := fun a ha r => by rw [add_bit (by omega), sub_bit r a o ha]
  have try1 : ∀ a, sb a o → ∀ R : Int32 → ZS → Prop, (∀ v, zbit v → (v = 1 ↔ prt (aC S) nr nc a ((o - a) + 2 ^ i)) → R v T) → X4_isParting (nI a) (nI ((o - a) + 2 ^ i)) T R := by
    intro a ha R hR
    have la := sb_le a o ha
    have hbr : ∀ r, o.testBit r = true → r < i := fun r h => tb_lt ho h
    refine x4_isParting h1 h2 h3 hn (by omega) (by omega) (fun r a1 a2 => ?_) (fun r c hr hc hor => ?_) (fun w => hR 1 (Or.inr rfl) (bit_yes w)) (fun w => hR 0 (Or.inl rfl) (bit_no w))
    · rw [bits a ha r, a1] at a2
      have := hbr r (ha r a1)
      rw [decide_eq_false (by omega)] at a2
      simp at a2
    · refine hu r c ?_ hc
      rcases hor with w | w
      · have := hbr r (ha r w); omega
      · rw [bits a ha r] at w
        by_cases e : r = i
        · omega
        · rw [decide_eq_false e, Bool.or_false] at w
          have : o.testBit r = true := by
            cases e2 : o.testBit r
            · rw [e2] at w; simp at w
            · rfl
          have := hbr r this
          omega
  have sbo : sb o o := fun r h => h
  have eo : ∀ a, sb a o → (nI o - nI a) + nI (2 ^ i) = nI ((o - a) + 2 ^ i) := fun a ha => by
    have la := sb_le a o ha
    rw [← nI_add]
    congr 1
    rw [i_eq, i_sub (by rw [nI_toInt (by omega), nI_toInt (by omega)]; omega) (by rw [nI_toInt (by omega), nI_toInt (by omega)]; omega), nI_toInt (by omega), nI_toInt (by omega), nI_toInt (by omega)]
    omega
  have e00 : nI ((o - 0) + 2 ^ i) = nI o + nI (2 ^ i) := by rw [Nat.sub_zero, nI_add]
  unfold X4_canBeParted
  refine zl_of (fun y => ∃ a, sb a o ∧ y.1 = nI a ∧ y.2 = T ∧ ∀ t, sb t o → a < t → ¬ prt (aC S) nr nc t ((o - t) + 2 ^ i)) (fun y => y.1.toNatClampNeg) (fun y k hy hk => ?_) _ ⟨o, sbo, rfl, rfl, fun t a b => by have := sb_le t o a; omega⟩
  obtain ⟨x3, U⟩ := y
  obtain ⟨a, ha, ea, eU, hall⟩ := hy
  dsimp only at ea eU
  subst ea eU
  have la := sb_le a o ha
  show X4_canBeParted_B2 (nI o) (nI (2 ^ i)) (nI a) U Q k
  unfold X4_canBeParted_B2 X4_canBeParted_b30 X4_canBeParted_b19
  refine ⟨fun g2 => ?_, fun g2 => ?_⟩
  · have a0 : a = 0 := by
      have h0 : nI a ≤ nI 0 := g2
      rw [nI_leI (by omega) (by omega)] at h0
      omega
    subst a0
    have h0 := try1 0 ha (fun r_35 S_35 => zbit r_35 ∧ Q r_35 S_35) (fun v hv ev => ⟨hv, ?_⟩)
    · rw [e00] at h0
      exact h0
    · by_cases e1 : v = 1
      · rw [e1]
        exact q1 ((okS_iff ho).mpr ⟨0, ha, ev.mp e1⟩)
      · have e0 : v = 0 := hv.resolve_right e1
        rw [e0]
        refine q0 (fun h => ?_)
        obtain ⟨t, t1, t2⟩ := (okS_iff ho).mp h
        by_cases e : t = 0
        · subst e; exact bit_0 e0 ev t2
        · exact hall t t1 (by omega) t2
  · rw [eo a ha]
    refine try1 a ha _ (fun v hv ev => ⟨fun g w ew => ?_, fun g => ?_⟩)
    · have a0 : a ≠ 0 := fun e => by
        subst e
        exact g2 (by decide)
      obtain ⟨b, rfl⟩ : ∃ b, a = b + 1 := ⟨a - 1, by omega⟩
      rw [nI_pred, ← nI_and] at ew
      subst ew
      have hs : sb (b &&& o) o := sb_and b o
      have hlb : (b &&& o) ≤ b := Nat.and_le_left
      have hle := sb_le _ o hs
      refine hk _ ⟨_, hs, rfl, rfl, fun t t1 t2 t3 => ?_⟩ ?_
      · have := nxt_sub (b + 1) o t ha t1
        by_cases e : t = b + 1
        · subst e; exact bit_0 g ev t3
        · by_cases e2 : b + 1 < t
          · exact hall t t1 e2 t3
          · have := this (by omega)
            rw [Nat.add_sub_cancel] at this
            omega
      · show (nI (b &&& o)).toNatClampNeg < (nI (b + 1)).toNatClampNeg
        rw [nI_clamp (by omega), nI_clamp (by omega)]
        omega
    · have e1 := bit_1 hv g
      exact ⟨Or.inr rfl, q1 ((okS_iff ho).mpr ⟨a, ha, ev.mp e1⟩)⟩
theorem x4_hasUnitTerms {r nc : Nat} {S : ZS} {Q : Int32 → ZS → Prop} (h3 : S.1 1 0 = nI nc) (h1 : nc ≤ 10) (hr : r < 8) (q1 : (∀ c, c < nc → -1 ≤ aC S r c ∧ aC S r c ≤ 1) → Q 1 S) (q0 : ¬ (∀ c, c < nc → -1 ≤ aC S r c ∧ aC S r c ≤ 1) → Q 0 S) : X4_hasUnitTerms (nI r) S Q := by
  have c1 : (1 : Int32).toInt = 1 := by decide
  unfold X4_hasUnitTerms
  refine zl_up nc (fun i T => T = S ∧ ∀ c, c < i → -1 ≤ aC S r c ∧ aC S r c ≤ 1) (by omega) (fun i T k hi hJ hk => ?_) S ⟨rfl, fun c hc => by omega⟩
  obtain ⟨rfl, hj⟩ := hJ
  show X4_hasUnitTerms_B2 (nI r) (nI i) T Q k
  unfold X4_hasUnitTerms_B2 X4_hasUnitTerms_b39 X4_hasUnitTerms_b31
  rw [h3]
  refine ⟨fun z => ?_, fun z => ?_⟩
  · have := up_end (by omega) hi z
    subst this
    exact ⟨Or.inr rfl, q1 hj⟩
  · have hlt := up_on (by omega) hi z
    rw [nI_clamp (by omega), nI_clamp (by omega)]
    refine ⟨vp_in_nI (by omega) (by omega), vp_in_nI (by omega) (by omega), m_isWithin (by decide) ?_⟩
    rw [zb_0, c1]
    have eA : (T.1 (14 + r) i).toInt = aC T r i := rfl
    rw [eA]
    refine ⟨fun g => ⟨Or.inl rfl, q0 (fun h => g (h i hlt))⟩, fun g w ew => ?_⟩
    rw [nI_1] at ew
    subst ew
    refine hk hlt _ ⟨rfl, fun c hc => ?_⟩
    by_cases e : c = i
    · rw [e]; exact Classical.not_not.mp g
    · exact hj c (by omega)
theorem x4_firstSet {nc nr : Nat} {S : ZS} {Q : Int32 → ZS → Prop} (h1 : nc ≤ 10) (h2 : nr ≤ 8) (h3 : S.1 1 0 = nI nc) (h4 : S.1 1 1 = nI nr) (q : ∀ x T, zQ2 24 25 S T → fS (aC S) nr nc x → Q x T) : X4_firstSetNotParted S Q := by
  unfold X4_firstSetNotParted
  refine x4_noteSides h1 h2 h3 h4 (fun T hT hn => ?_)
  have e1 : T.1 1 = S.1 1 := hT.2 1 (by decide) (by decide)
  have eA : ∀ r c, r < 8 → aC T r c = aC S r c := fun r c hr => by
    unfold aC
    rw [hT.2 (14 + r) (by omega) (by omega)]
  refine zl_up nr (fun i U => U = T ∧ (∀ s, 0 < s → s < 2 ^ i → okS (aC S) nr nc s) ∧ ∀ r c, r < i → c < nc → -1 ≤ aC S r c ∧ aC S r c ≤ 1) (by omega) (fun i U k hi hJ hk => ?_) T ⟨rfl, fun s a b => by rw [Nat.pow_zero] at b; omega, fun r c hr => by omega⟩
  obtain ⟨rfl, hok, hun⟩ := hJ
  show X4_firstSetNotParted_B6 (nI i) U Q k
  unfold X4_firstSetNotParted_B6 X4_firstSetNotParted_b67 X4_firstSetNotParted_b25
  rw [e1, h4]
  refine ⟨fun z => ?_, fun z => ?_⟩
  · have := up_end (by omega) hi z
    subst this
    exact q _ U hT (Or.inr ⟨hok, rfl⟩)
  · have hlt := up_on (by omega) hi z
    have hpi : 2 ^ i ≤ 128 := Nat.pow_le_pow_right (n := 2) (by omega) (by omega : i ≤ 7)
    have hp0 : 0 < 2 ^ i := Nat.two_pow_pos i
    have hpn : 2 ^ (i + 1) ≤ 2 ^ nr := Nat.pow_le_pow_right (by omega) (by omega)
    rw [Nat.pow_succ] at hpn
    have tp := two_pow i (by omega)
    refine x4_hasUnitTerms (by rw [e1]; exact h3) h1 (by omega) (fun g => ⟨fun e => absurd e (by decide), fun _ => ?_⟩) (fun g => ⟨fun _ => ?_, fun e => absurd rfl e⟩)
    · have hun2 : ∀ r c, r ≤ i → c < nc → -1 ≤ aC S r c ∧ aC S r c ≤ 1 := fun r c hr hc => by
        by_cases e : r = i
        · rw [← eA r c (by omega), e]; exact g c hc
        · exact hun r c (by omega) hc
      refine zl_up (2 ^ i) (fun o V => V = U ∧ ∀ p, p < o → okS (aC S) nr nc (p + 2 ^ i)) (by omega) (fun o V k2 ho hJ hk2 => ?_) U ⟨rfl, fun p hp => by omega⟩
      obtain ⟨rfl, hj⟩ := hJ
      show X4_firstSetNotParted_B31 (nI i) (nI o) V Q k k2
      unfold X4_firstSetNotParted_B31 X4_firstSetNotParted_b61 X4_firstSetNotParted_b49
      rw [tp]
      refine ⟨fun z2 w ew => ?_, fun z2 => ?_⟩
      · have := up_endG (by omega) ho z2
        subst this
        rw [nI_1] at ew
        subst ew
        refine hk hlt _ ⟨rfl, fun s a b => ?_, fun r c hr hc => hun2 r c (by omega) hc⟩
        rw [Nat.pow_succ] at b
        by_cases e : s < 2 ^ i
        · exact hok s a e
        · have h := hj (s - 2 ^ i) (by omega)
          rw [Nat.sub_add_cancel (by omega)] at h
          exact h
      · have hol := up_onG (by omega) ho z2
        refine x4_canBeParted h1 h2 (by rw [e1]; exact h3) hn hlt hol hun2 (fun w => ⟨fun e => absurd e (by decide), fun _ y ey => ?_⟩) (fun w => ⟨fun _ => ?_, fun e => absurd rfl e⟩)
        · rw [nI_1] at ey
          subst ey
          refine hk2 hol _ ⟨rfl, fun p hp => ?_⟩
          by_cases e : p = o
          · rw [e]; exact w
          · exact hj p (by omega)
        · rw [nI_add]
          refine q _ V hT (Or.inl ⟨o + 2 ^ i, by omega, by omega, w, fun t a b => ?_, rfl⟩)
          by_cases e : t < 2 ^ i
          · exact hok t a e
          · have h := hj (t - 2 ^ i) (by omega)
            rw [Nat.sub_add_cancel (by omega)] at h
            exact h
    · rw [tp]
      refine q _ U hT (Or.inl ⟨2 ^ i, hp0, by omega, fun h => g (fun c hc => ?_), hok, rfl⟩)
      rw [eA i c (by omega)]
      exact okS_one hlt h c hc
theorem pS_cA {A B : Nat → Nat → Int} {nr nc : Nat} (h : ∀ r c, r < nr → c < nc → A r c = B r c) {c s t : Nat} (hc : c < nc) : sI (pS A c s t) nr = sI (pS B c s t) nr := sI_congr (fun r hr => by unfold pS; rw [h r c hr hc])
theorem okS_cA {A B : Nat → Nat → Int} {nr nc s : Nat} (h : ∀ r c, r < nr → c < nc → A r c = B r c) : okS A nr nc s ↔ okS B nr nc s := by
  have e : ∀ t, evn A nr nc s t ↔ evn B nr nc s t := fun t => ⟨fun g c hc => by rw [← pS_cA h hc]; exact g c hc, fun g c hc => by rw [pS_cA h hc]; exact g c hc⟩
  exact ⟨fun ⟨t, a, b⟩ => ⟨t, a, (e t).mp b⟩, fun ⟨t, a, b⟩ => ⟨t, a, (e t).mpr b⟩⟩
theorem fS_cA {A B : Nat → Nat → Int} {nr nc : Nat} {x : Int32} (h : ∀ r c, r < nr → c < nc → A r c = B r c) (g : fS A nr nc x) : fS B nr nc x := by
  rcases g with ⟨s, s1, s2, s3, s4, s5⟩ | ⟨s4, s5⟩
  · exact Or.inl ⟨s, s1, s2, fun w => s3 ((okS_cA h).mpr w), fun t a b => (okS_cA h).mp (s4 t a b), s5⟩
  · exact Or.inr ⟨fun t a b => (okS_cA h).mp (s4 t a b), s5⟩
theorem k_12 {y1 y2 y3 : Int32} {S : ZS} {N : ZS → Prop} (h : Inv S) (hN : ∀ T, Inv T → N T) : lawc_12 y1 y2 y3 S N := by
  have hI := h
  obtain ⟨nc, nr, hC, hSol⟩ := h
  unfold lawc_12 X6_nature X7_nature
  refine x4_firstSet hC.1 hC.2.1 hC.2.2.1 hC.2.2.2.1 (fun x T hT hx U eU => ?_)
  have hp : zPer S T := hT.per rfl rfl (by decide) (by decide)
  have hp2 : zPer S U := by rw [eU]; exact hp.u61 (Or.inl rfl)
  have hU := hC.per hp2
  have hb := hU.bd
  refine x7_nature hU.1 hU.2.1 hU.2.2.2.2.1 hU.2.2.2.2.2.1 (fun r c hr hc => (hb r c hr hc).2) (fun y hy => ?_)
  have hy2 : fS (aC S) nr nc y := fS_cA (fun r c hr hc => by rw [(hb r c hr hc).1, aC_per hp2 (by have := hC.2.1; omega)]) hy
  exact ⟨fun _ => hN U (hI.per hp2), fun g => absurd (hx.uniq hy2) g⟩
