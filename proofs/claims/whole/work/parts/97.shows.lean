/-! the reference's sets that show it -/
def kaT (T : ZS) (r : Nat) : Prop := T.1 74 r = 0
def loT (T : ZS) (c : Nat) : Int := (T.1 72 c).toInt
def hiT (T : ZS) (c : Nat) : Int := (T.1 73 c).toInt
/-- what the reference works on -/
def rOK (S T : ZS) (s : Nat → Int) (nc nr : Nat) : Prop := zKp S T ∧ (∀ r, r < nr → (T.1 71 r).toInt = s r) ∧ ∀ c, c < nc → -1000 ≤ loT T c ∧ loT T c ≤ 1000 ∧ -1000 ≤ hiT T c ∧ hiT T c ≤ 1000
def sumV (g : Nat → Nat → Int) (nr nc : Nat) (lo hi : Nat → Int) (k : Nat) (v : Int) : Int := sI (fun c => if 0 < aS g nr k c * v then aS g nr k c * v * lo c else aS g nr k c * v * hi c) nc
theorem sumV_1 {g : Nat → Nat → Int} {nr nc k : Nat} {lo hi : Nat → Int} : sumV g nr nc lo hi k 1 = lstS g nr nc lo hi k := sI_congr (fun c _ => by rw [Int.mul_one])
theorem sumV_m {g : Nat → Nat → Int} {nr nc k : Nat} {lo hi : Nat → Int} : sumV g nr nc lo hi k (-1) = -grtS g nr nc lo hi k := by
  unfold grtS
  rw [← sI_neg]
  refine sI_congr (fun c _ => ?_)
  have e : ∀ x y : Int, x * -1 * y = -(x * y) := fun x y => by rw [Int.mul_neg, Int.mul_one, Int.neg_mul]
  rw [e, e]
  by_cases w : 0 < aS g nr k c
  · rw [if_neg (by omega), if_pos w]
  · by_cases w2 : aS g nr k c = 0
    · rw [w2]; simp
    · rw [if_pos (by omega), if_neg w]
def shV (g : Nat → Nat → Int) (b s : Nat → Int) (κ : Nat → Prop) (nr nc : Nat) (lo hi : Nat → Int) (k : Nat) (v : Int) : Prop := rgtS b nr k * v < sumV g nr nc lo hi k v ∧ mayS κ s nr v k
theorem shV_1 {g : Nat → Nat → Int} {b s : Nat → Int} {κ : Nat → Prop} {nr nc k : Nat} {lo hi : Nat → Int} : shV g b s κ nr nc lo hi k 1 ↔ sh1 g b s κ nr nc lo hi k := by
  unfold shV sh1
  rw [sumV_1, Int.mul_one]
theorem shV_m {g : Nat → Nat → Int} {b s : Nat → Int} {κ : Nat → Prop} {nr nc k : Nat} {lo hi : Nat → Int} : shV g b s κ nr nc lo hi k (-1) ↔ sh2 g b s κ nr nc lo hi k := by
  unfold shV sh2
  rw [sumV_m]
  exact and_congr (by omega) Iff.rfl
theorem x7_shows {nc nr k : Nat} {y2 : Int32} {s : Nat → Int} {S T : ZS} {Q : Int32 → ZS → Prop} (hC : zC S nc nr) (hfl : flw S nc nr s) (hT : rOK S T s nc nr) (hk8 : k < 256) (hy : y2.toInt = 1 ∨ y2.toInt = -1) (q1 : shV (gg S s) (bR S s) s (kaT T) nr nc (loT T) (hiT T) k y2.toInt → Q 1 T) (q0 : ¬ shV (gg S s) (bR S s) s (kaT T) nr nc (loT T) (hiT T) k y2.toInt → Q 0 T) : X7_shows (nI k) y2 T Q := by
  obtain ⟨hk, h71, hlh⟩ := hT
  have hT := hC.kp hk
  have h1 := hT.1
  have h2 := hT.2.1
  have h5 := hT.2.2.2.2.1
  have h6 := hT.2.2.2.2.2.1
  have hb := hT.bd
  have c0 : (0 : Int32).toInt = 0 := by decide
  have c1 : (1 : Int32).toInt = 1 := by decide
  have d0 : (0 : Int64).toInt = 0 := by decide
  have hs := hfl.2.1
  have he := ends_c hfl h2
  have a3 : ∀ c, c < nc → -1 ≤ aS (gg S s) nr k c ∧ aS (gg S s) nr k c ≤ 1 := fun c hc => by
    rw [aS_ends he hc]
    split <;> split <;> omega
  have rb : ∀ i, i ≤ nr → -800000 ≤ sI (fun r => if k.testBit r = true then bR S s r else 0) i ∧ sI (fun r => if k.testBit r = true then bR S s r else 0) i ≤ 800000 := fun i hi => by
    have := sI_le (g := fun r => if k.testBit r = true then bR S s r else 0) (n := i) (b := 100000) (fun r hr => by
      have := bR_bd hC hs (r := r) (by omega)
      split <;> omega)
    omega
  have sv : ∀ r, r < nr → ((T.1 71 r * y2) = (1 : Int32) ↔ s r = y2.toInt) := fun r hr => by
    have e := h71 r hr
    rw [i_eq, i_mul (by rw [e]; rcases hs r hr with g | g <;> rcases hy with g2 | g2 <;> rw [g, g2] <;> omega) (by rw [e]; rcases hs r hr with g | g <;> rcases hy with g2 | g2 <;> rw [g, g2] <;> omega), e, c1]
    rcases hs r hr with g | g <;> rcases hy with g2 | g2 <;> rw [g, g2] <;> decide
  unfold X7_shows
  refine zl_up2 nr (fun i x U => U = T ∧ x.toInt = sI (fun r => if k.testBit r = true then bR S s r else 0) i * y2.toInt ∧ ∀ r, r < i → kaT T r → k.testBit r = true → s r = y2.toInt) (by omega) (fun i x U k2 hi hJ hk2 => ?_) 0 T ⟨rfl, by rw [d0]; show (0 : Int) = 0 * _; rw [Int.zero_mul], fun r hr => by omega⟩
  obtain ⟨rfl, hx, hm⟩ := hJ
  show X7_shows_B5 (nI k) y2 x (nI i) U Q k2
  unfold X7_shows_B5
  rw [h6]
  refine ⟨fun z => ?_, fun z => ?_⟩
  · have := up_end (by omega) hi z
    subst this
    unfold X7_shows_b78
    have yb : ∀ c, c < nc → aS (gg S s) i k c * y2.toInt = -1 ∨ aS (gg S s) i k c * y2.toInt = 0 ∨ aS (gg S s) i k c * y2.toInt = 1 := fun c hc => by
      have := a3 c hc
      rcases hy with g | g <;> rw [g] <;> omega
    have mb : ∀ c, c < nc → ∀ t : Int, -1000 ≤ t → t ≤ 1000 → -1000 ≤ aS (gg S s) i k c * y2.toInt * t ∧ aS (gg S s) i k c * y2.toInt * t ≤ 1000 := fun c hc t t1 t2 => by
      rcases yb c hc with e | e | e <;> rw [e] <;> omega
    have sb' : ∀ j, j ≤ nc → -10000 ≤ sI (fun c => if 0 < aS (gg S s) i k c * y2.toInt then aS (gg S s) i k c * y2.toInt * loT U c else aS (gg S s) i k c * y2.toInt * hiT U c) j ∧ sI (fun c => if 0 < aS (gg S s) i k c * y2.toInt then aS (gg S s) i k c * y2.toInt * loT U c else aS (gg S s) i k c * y2.toInt * hiT U c) j ≤ 10000 := fun j hj => by
      have := sI_le (g := fun c => if 0 < aS (gg S s) i k c * y2.toInt then aS (gg S s) i k c * y2.toInt * loT U c else aS (gg S s) i k c * y2.toInt * hiT U c) (n := j) (b := 1000) (fun c hc => by
        have l := hlh c (by omega)
        have m1 := mb c (by omega) _ l.1 l.2.1
        have m2 := mb c (by omega) _ l.2.2.1 l.2.2.2
        split <;> omega)
      omega
    refine zl_up2 nc (fun j u V => V = U ∧ u.toInt = sI (fun c => if 0 < aS (gg S s) i k c * y2.toInt then aS (gg S s) i k c * y2.toInt * loT U c else aS (gg S s) i k c * y2.toInt * hiT U c) j) (by omega) (fun j u V k3 hj hJ hk3 => ?_) 0 U ⟨rfl, d0⟩
    obtain ⟨rfl, hu⟩ := hJ
    show X7_shows_B84 (nI k) y2 x u (nI j) V Q k3
    unfold X7_shows_B84
    rw [h5]
    refine ⟨fun z2 => ?_, fun z2 => ?_⟩
    · have := up_end (by omega) hj z2
      subst this
      unfold X7_shows_b189 X7_shows_b201
      have hle : lg_cmp u x ≤ 0 ↔ ¬ x.toInt < u.toInt := by
        rw [← lg_gt, i_le, i_lt, c0]
        omega
      rw [hle, hx, hu]
      have iff : shV (gg S s) (bR S s) s (kaT V) i j (loT V) (hiT V) k y2.toInt ↔ sI (fun r => if k.testBit r = true then bR S s r else 0) i * y2.toInt < sI (fun c => if 0 < aS (gg S s) i k c * y2.toInt then aS (gg S s) i k c * y2.toInt * loT V c else aS (gg S s) i k c * y2.toInt * hiT V c) j := ⟨fun h => h.1, fun h => ⟨h, hm⟩⟩
      exact ⟨fun g => ⟨Or.inl rfl, q0 (fun w => g (iff.mp w))⟩, fun g => ⟨Or.inr rfl, q1 (iff.mpr (Classical.not_not.mp g))⟩⟩
    · have hjl := up_on (by omega) hj z2
      have hvj : vp_in (nI j) 10 := vp_in_nI (by omega) (by omega)
      refine zl_up2 i (fun r t W => W = V ∧ t.toInt = sI (fun r => if k.testBit r = true then gg S s r j else 0) r * y2.toInt) (by omega) (fun r t W k4 hr hJ hk4 => ?_) 0 V ⟨rfl, by rw [c0]; show (0 : Int) = 0 * _; rw [Int.zero_mul]⟩
      obtain ⟨rfl, ht⟩ := hJ
      show X7_shows_B99 (nI k) y2 x u (nI j) t (nI r) W Q k3 k4
      unfold X7_shows_B99
      rw [h6]
      refine ⟨fun z3 => ?_, fun z3 => ?_⟩
      · have := up_end (by omega) hr z3
        subst this
        have ht2 : t.toInt = aS (gg S s) r k j * y2.toInt := ht
        have fin : ∀ (t0 : Int32), t.toInt * t0.toInt = (if 0 < aS (gg S s) r k j * y2.toInt then aS (gg S s) r k j * y2.toInt * loT W j else aS (gg S s) r k j * y2.toInt * hiT W j) → X7_shows_b178 (nI k) y2 x (nI j) t0 (Int32.toInt64 t) u W Q k3 := by
          intro t0 h0
          have l := hlh j hjl
          have m1 := mb j hjl _ l.1 l.2.1
          have m2 := mb j hjl _ l.2.2.1 l.2.2.2
          have tb : -1000 ≤ t.toInt * t0.toInt ∧ t.toInt * t0.toInt ≤ 1000 := by rw [h0]; split <;> omega
          have sb1 := sb' j (by omega)
          have e1 : (Int32.toInt64 t * Int32.toInt64 t0).toInt = t.toInt * t0.toInt := by rw [l_mul (by rw [l_i, l_i]; omega) (by rw [l_i, l_i]; omega), l_i, l_i]
          unfold X7_shows_b178
          intro u' eu w ew
          rw [nI_1] at ew
          subst ew
          exact hk3 hjl _ _ ⟨rfl, by rw [eu, l_add (by rw [hu, e1]; omega) (by rw [hu, e1]; omega), hu, e1, h0]; rfl⟩
        unfold X7_shows_b151
        rw [i_le, ht2, c0, nI_clamp (by omega)]
        refine ⟨fun g => ⟨hvj, fin _ ?_⟩, fun g => ⟨hvj, fin _ ?_⟩⟩
        · rw [ht2, if_neg (by omega)]; rfl
        · rw [ht2, if_pos (by omega)]; rfl
      · have hrl := up_on (by omega) hr z3
        have gb := sI_le (g := fun r => if k.testBit r = true then gg S s r j else 0) (n := r) (b := 1) (fun q hq => by
          have := gg_3 hfl (r := q) (by omega) hjl
          split <;> omega)
        have tbd : -8 ≤ t.toInt ∧ t.toInt ≤ 8 := by
          rw [ht]
          rcases hy with g | g <;> rw [g] <;> omega
        have go : ∀ t0 : Int32, t0.toInt = (if k.testBit r = true then gg S s r j else 0) * y2.toInt → -1 ≤ t0.toInt → t0.toInt ≤ 1 → X7_shows_b142 (nI k) y2 x u (nI j) (nI r) t0 t W Q k3 k4 := by
          intro t0 h0 b1 b2
          unfold X7_shows_b142
          intro t' et w ew
          rw [nI_1] at ew
          subst ew
          exact hk4 hrl _ _ ⟨rfl, by rw [et, i_add (by omega) (by omega), ht, h0, sI_s, Int.add_mul]⟩
        rw [(bit_at k hk8 r (by omega)).1]
        refine ⟨fun g => x7_coef (by omega) (by omega) ⟨vp_in_nI (by omega) (by omega), go _ ?_ ?_ ?_⟩, fun g => go 0 (by rw [if_neg g, Int.zero_mul]; exact c0) (by rw [c0]; omega) (by rw [c0]; omega)⟩
        · have eA : (W.1 67 (10 * r + j)).toInt = aC S r j := by
            have := (hb r j hrl hjl).1
            unfold aR at this
            rw [this]
            unfold aC
            rw [hk.1 (14 + r) (kpt_row (by omega))]
          have e71 := h71 r hrl
          have pl := (hfl.1 j hjl).1 r hrl
          rw [nI_clamp (by omega), if_pos g]
          have m1 : (W.1 67 (10 * r + j) * W.1 71 r).toInt = gg S s r j := by
            rw [i_mul (by rw [eA, e71]; rcases hs r hrl with e | e <;> rw [e] <;> omega) (by rw [eA, e71]; rcases hs r hrl with e | e <;> rw [e] <;> omega), eA, e71]; rfl
          have g3 := gg_3 hfl hrl hjl
          rw [i_mul (by rw [m1]; rcases hy with e | e <;> rw [e] <;> omega) (by rw [m1]; rcases hy with e | e <;> rw [e] <;> omega), m1]
        all_goals
          have eA : (W.1 67 (10 * r + j)).toInt = aC S r j := by
            have := (hb r j hrl hjl).1
            unfold aR at this
            rw [this]
            unfold aC
            rw [hk.1 (14 + r) (kpt_row (by omega))]
          have e71 := h71 r hrl
          have pl := (hfl.1 j hjl).1 r hrl
          rw [nI_clamp (by omega)]
          have m1 : (W.1 67 (10 * r + j) * W.1 71 r).toInt = gg S s r j := by
            rw [i_mul (by rw [eA, e71]; rcases hs r hrl with e | e <;> rw [e] <;> omega) (by rw [eA, e71]; rcases hs r hrl with e | e <;> rw [e] <;> omega), eA, e71]; rfl
          have g3 := gg_3 hfl hrl hjl
          rw [i_mul (by rw [m1]; rcases hy with e | e <;> rw [e] <;> omega) (by rw [m1]; rcases hy with e | e <;> rw [e] <;> omega), m1]
          rcases hy with e | e <;> rw [e] <;> omega
  · have hlt := up_on (by omega) hi z
    have hvi : vp_in (nI i) 8 := vp_in_nI (by omega) (by omega)
    have b72 : ∀ u : Int64, u.toInt = sI (fun r => if k.testBit r = true then bR S s r else 0) (i + 1) * y2.toInt → (kaT U i → k.testBit i = true → s i = y2.toInt) → X7_shows_b72 (nI k) y2 u (nI i) U Q k2 := by
      intro u hu hc
      unfold X7_shows_b72
      intro w ew
      rw [nI_1] at ew
      subst ew
      refine hk2 hlt _ _ ⟨rfl, hu, fun r hr a b => ?_⟩
      by_cases e : r = i
      · rw [e] at a b ⊢; exact hc a b
      · exact hm r (by omega) a b
    have b49 : k.testBit i = true → (kaT U i → s i = y2.toInt) → X7_shows_b49 (nI k) y2 x (nI i) U Q k2 := by
      intro t hc
      unfold X7_shows_b49
      rw [nI_clamp (by omega)]
      refine ⟨hvi, hvi, fun u eu => b72 u ?_ (fun a _ => hc a)⟩
      have e66 : (U.1 66 i).toInt = (S.1 12 i).toInt := by
        rw [(hT.2.2.2.2.2.2.2.1 i hlt).2.1, hk.1 12 rfl]
      have e71 := h71 i hlt
      have bb := bR_bd hC hs hlt
      have hl := (hC.2.2.2.2.2.2.2.1 i hlt).2.2.2
      unfold zlim at hl
      have p1 : (Int32.toInt64 (U.1 66 i) * Int32.toInt64 (U.1 71 i)).toInt = bR S s i := by
        rw [l_mul (by rw [l_i, l_i, e66, e71]; rcases hs i hlt with e | e <;> rw [e] <;> omega) (by rw [l_i, l_i, e66, e71]; rcases hs i hlt with e | e <;> rw [e] <;> omega), l_i, l_i, e66, e71]; rfl
      have p2 : (Int32.toInt64 (U.1 66 i) * Int32.toInt64 (U.1 71 i) * Int32.toInt64 y2).toInt = bR S s i * y2.toInt := by
        rw [l_mul (by rw [p1, l_i]; rcases hy with e | e <;> rw [e] <;> omega) (by rw [p1, l_i]; rcases hy with e | e <;> rw [e] <;> omega), p1, l_i]
      have r1 := rb i hi
      rw [eu, l_add (by rw [hx, p2]; rcases hy with e | e <;> rw [e] <;> omega) (by rw [hx, p2]; rcases hy with e | e <;> rw [e] <;> omega), hx, p2, sI_s, if_pos t, Int.add_mul]
    unfold X7_shows_b47
    rw [(bit_at k hk8 i (by omega)).1, nI_clamp (by omega), sv i hlt]
    refine ⟨fun t => ⟨hvi, fun g => ⟨hvi, fun g2 => b49 t (fun _ => g2), fun g2 => ⟨Or.inl rfl, q0 (fun h => g2 (h.2 i hlt g t))⟩⟩, fun g => b49 t (fun w => absurd w g)⟩, fun t => b72 x (by rw [hx, sI_s, if_neg t, Int.add_zero]) (fun _ w => absurd w t)⟩
def fstR (g : Nat → Nat → Int) (b s : Nat → Int) (κ : Nat → Prop) (nr nc : Nat) (lo hi : Nat → Int) (x : Int32) : Prop := (x = -1 ∧ noSh g b s κ nr nc lo hi) ∨ ∃ k, (fstP g b s κ nr nc lo hi k 1 ∧ x = nI (2 * k)) ∨ (fstP g b s κ nr nc lo hi k (-1) ∧ x = nI (2 * k + 1))
theorem x7_firstProof {nc nr : Nat} {s : Nat → Int} {S T : ZS} {Q : Int32 → ZS → Prop} (hC : zC S nc nr) (hfl : flw S nc nr s) (hT : rOK S T s nc nr) (q : ∀ x, fstR (gg S s) (bR S s) s (kaT T) nr nc (loT T) (hiT T) x → Q x T) : X7_firstProof T Q := by
  have h2 := hC.2.1
  have hp := pow_le h2
  have hp0 : 0 < 2 ^ nr := Nat.two_pow_pos nr
  have c1 : (1 : Int32).toInt = 1 := by decide
  have cm : (-1 : Int32).toInt = -1 := by decide
  unfold X7_firstProof
  refine zl_cf (fun s => s.1) (2 ^ nr) 1 (fun i y => y.2 = T ∧ ∀ j, 0 < j → j < i → ¬ sh1 (gg S s) (bR S s) s (kaT T) nr nc (loT T) (hiT T) j ∧ ¬ sh2 (gg S s) (bR S s) s (kaT T) nr nc (loT T) (hiT T) j) (by omega) (fun i y k hi1 hi ec hJ hk2 => ?_) _ (by omega) rfl ⟨rfl, fun j a b => by omega⟩
  obtain ⟨x, U⟩ := y
  dsimp only at ec hJ
  obtain ⟨rfl, hno⟩ := hJ
  subst ec
  show X7_firstProof_B2 (nI i) U Q k
  unfold X7_firstProof_B2 X7_firstProof_b46 X7_firstProof_b34 X7_firstProof_b21
  rw [(hC.kp hT.1).2.2.2.2.2.1, two_pow nr h2]
  refine ⟨fun z => ?_, fun z => ?_⟩
  · have := up_endG (by omega) hi z
    rw [this] at hno
    exact q _ (Or.inl ⟨rfl, hno⟩)
  · have hlt := up_onG (by omega) hi z
    have e2 : (2 : Int32) * nI i = nI (2 * i) := nI_mul 2 i
    rw [e2]
    refine x7_shows hC hfl hT (by omega) (Or.inl c1) (fun w => ⟨fun h => absurd h (by decide), fun _ => ?_⟩) (fun w => ⟨fun _ => ?_, fun h => absurd rfl h⟩)
    · rw [c1, shV_1] at w
      exact q _ (Or.inr ⟨i, Or.inl ⟨⟨by omega, hlt, Or.inl ⟨rfl, w⟩, hno⟩, rfl⟩⟩)
    · rw [c1, shV_1] at w
      refine x7_shows hC hfl hT (by omega) (Or.inr cm) (fun w2 => ⟨fun h => absurd h (by decide), fun _ => ?_⟩) (fun w2 => ⟨fun _ y ey => ?_, fun h => absurd rfl h⟩)
      · rw [cm, shV_m] at w2
        exact q _ (Or.inr ⟨i, Or.inr ⟨⟨by omega, hlt, Or.inr ⟨rfl, w, w2⟩, hno⟩, nI_1 (2 * i)⟩⟩)
      · rw [cm, shV_m] at w2
        rw [nI_1] at ey
        subst ey
        refine hk2 hlt _ rfl ⟨rfl, fun j a b => ?_⟩
        by_cases e : j = i
        · rw [e]; exact ⟨w, w2⟩
        · exact hno j a (by omega)
