/-! the reference's first point -/
def bsT (T : ZS) (c : Nat) : Int := (T.1 68 c).toInt
def lxm (P : (Nat → Int) → Prop) (nc : Nat) (x : Nat → Int) : Prop := P x ∧ ∀ y, P y → ¬ lexlt y x nc
theorem ev_congr {g : Nat → Nat → Int} {b x y : Nat → Int} {nc r : Nat} (h : ∀ c, c < nc → x c = y c) : ev g b nc x r = ev g b nc y r := by
  unfold ev
  rw [sI_congr (fun c hc => by rw [h c hc])]
theorem pt_congr {g : Nat → Nat → Int} {b s lo hi lo' hi' x y : Nat → Int} {κ κ' : Nat → Prop} {nr nc : Nat} (h : ∀ c, c < nc → x c = y c) (hk : ∀ r, r < nr → (κ r ↔ κ' r)) (hb : ∀ c, c < nc → lo' c ≤ y c ∧ y c ≤ hi' c) (hp : pt g b s κ nr nc lo hi x) : pt g b s κ' nr nc lo' hi' y := by
  refine ⟨hb, fun r hr => ?_⟩
  have := hp.2 r hr
  rw [ev_congr h] at this
  exact ⟨fun k => this.1 ((hk r hr).mpr k), fun k => this.2 (fun z => k ((hk r hr).mp z))⟩
theorem fstR_m1 {g : Nat → Nat → Int} {b s lo hi : Nat → Int} {κ : Nat → Prop} {nr nc : Nat} {x : Int32} (h2 : nr ≤ 8) (h : fstR g b s κ nr nc lo hi x) : x = -1 ↔ noSh g b s κ nr nc lo hi := by
  rcases h with ⟨e, h⟩ | ⟨k, ⟨h, e⟩ | ⟨h, e⟩⟩
  · exact ⟨fun _ => h, fun _ => e⟩
  · have hk : k < 256 := by have := pow_le h2; have := h.2.1; omega
    refine ⟨fun w => absurd (e.symm.trans w) (nI_m1 (by omega)), fun w => ?_⟩
    have := w k h.1 h.2.1
    rcases h.2.2.1 with ⟨_, q⟩ | ⟨_, _, q⟩
    · exact absurd q this.1
    · exact absurd q this.2
  · have hk : k < 256 := by have := pow_le h2; have := h.2.1; omega
    refine ⟨fun w => absurd (e.symm.trans w) (nI_m1 (by omega)), fun w => ?_⟩
    have := w k h.1 h.2.1
    rcases h.2.2.1 with ⟨_, q⟩ | ⟨_, _, q⟩
    · exact absurd q this.1
    · exact absurd q this.2
theorem half_at {x y z : Int32} (h1 : -1000 ≤ x.toInt) (h2 : x.toInt ≤ y.toInt) (h3 : y.toInt ≤ 1000) (e : z = x + ((y - x) / (2 : Int32))) : z.toInt = x.toInt + (y.toInt - x.toInt) / 2 := by
  have d := i_sub (x := y) (y := x) (by omega) (by omega)
  have b := nI_back (x := y - x) (by omega)
  have e2 : (y - x) / (2 : Int32) = nI ((y - x).toInt.toNat / 2) := by
    rw [show (2 : Int32) = nI 2 from rfl, b, nI_div (by omega) (by omega), ← b]
  have t : (nI ((y - x).toInt.toNat / 2)).toInt = (y.toInt - x.toInt) / 2 := by
    rw [nI_toInt (by omega)]
    omega
  rw [e, e2, i_add (by omega) (by omega), t]
set_option maxHeartbeats 4000000 in
theorem x7_findLeast {nc nr : Nat} {s : Nat → Int} {S T : ZS} {Q : ZS → Prop} (hC : zC S nc nr) (hfl : flw S nc nr s) (hr : rOK S T s nc nr) (hlh : ∀ c, c < nc → loT T c ≤ hiT T c) (hok : ∃ y, pt (gg S s) (bR S s) s (kaT T) nr nc (loT T) (hiT T) y)
    (q : ∀ U, (∀ n, n ≠ 72 → n ≠ 73 → n ≠ 68 → U.1 n = T.1 n) → U.2 = T.2 → lxm (pt (gg S s) (bR S s) s (kaT T) nr nc (loT T) (hiT T)) nc (bsT U) → Q U) : X7_findLeast T Q := by
  have h1 := hC.1
  have h2 := hC.2.1
  have hs := hfl.2.1
  have he := ends_c hfl h2
  have hu : eds nr nc (upc S s nr) (dnc S s nr) := fun c _ => ends_8
  generalize hP : pt (gg S s) (bR S s) s (kaT T) nr nc (loT T) (hiT T) = P
  have P_in : ∀ y, P y → inB (loT T) (hiT T) nc y := fun y h => by rw [← hP] at h; exact h.1
  rw [hP] at hok
  unfold X7_findLeast
  refine zl_up nc (fun i U => (∀ n, n ≠ 72 → n ≠ 73 → n ≠ 68 → U.1 n = T.1 n) ∧ U.2 = T.2 ∧ (∀ c, c < i → U.1 72 c = U.1 68 c ∧ U.1 73 c = U.1 68 c) ∧ (∀ c, i ≤ c → U.1 72 c = T.1 72 c ∧ U.1 73 c = T.1 73 c) ∧ (∃ y, P y ∧ ∀ c, c < i → y c = bsT U c) ∧ ∀ y, P y → ∀ k, k < i → (∀ j, j < k → y j = bsT U j) → bsT U k ≤ y k) (by omega) (fun i U k hi hJ hk2 => ?_) T ⟨fun _ _ _ _ => rfl, rfl, fun c hc => by omega, fun _ _ => ⟨rfl, rfl⟩, by obtain ⟨y, hy⟩ := hok; exact ⟨y, hy, fun c hc => by omega⟩, fun _ _ k hk => by omega⟩
  obtain ⟨fU, u2, dU, rU, ⟨y0, hy0, ey0⟩, mU⟩ := hJ
  have kU : zKp S U := hr.1.tr (zKp.of (fun n hn => fU n (fun e => by subst e; cases hn) (fun e => by subst e; cases hn) (fun e => by subst e; cases hn)) (fU 61 (by decide) (by decide) (by decide)))
  show X7_findLeast_B2 (nI i) U Q k
  unfold X7_findLeast_B2 X7_findLeast_b130
  rw [(hC.kp kU).2.2.2.2.1]
  refine ⟨fun z => ?_, fun z => ?_⟩
  · have := up_end (by omega) hi z
    subst this
    refine q U fU u2 ?_
    rw [hP]
    refine ⟨?_, fun y hy ⟨k, k1, k2, k3⟩ => ?_⟩
    · rw [← hP] at hy0 ⊢
      exact pt_congr ey0 (fun _ _ => Iff.rfl) (fun c hc => by rw [← ey0 c hc]; exact hy0.1 c hc) hy0
    · have := mU y hy k k1 k3
      omega
  · have hlt := up_on (by omega) hi z
    have hvi : vp_in (nI i) 10 := vp_in_nI (by omega) (by omega)
    rw [nI_clamp (by omega)]
    refine ⟨hvi, fun x2 ex2 => ⟨hvi, fun x3 ex3 => ?_⟩⟩
    have bT := hr.2.2 i hlt
    have l0 : x2.toInt = loT T i := by rw [ex2, (rU i (Nat.le_refl _)).1]; rfl
    have h0 : x3.toInt = hiT T i := by rw [ex3, (rU i (Nat.le_refl _)).2]; rfl
    have lh := hlh i hlt
    have y0i := P_in y0 hy0 i hlt
    refine zl_up3 12 (fun j x y V => (∀ n, n ≠ 73 → V.1 n = U.1 n) ∧ V.2 = U.2 ∧ (∀ c, c ≠ i → V.1 73 c = U.1 73 c) ∧ loT T i ≤ x.toInt ∧ x.toInt ≤ y.toInt ∧ y.toInt ≤ hiT T i ∧ (y.toInt - x.toInt) * 2 ^ j ≤ 2000 ∧ (∃ w, P w ∧ (∀ c, c < i → w c = bsT U c) ∧ w i ≤ y.toInt) ∧ ∀ w, P w → (∀ c, c < i → w c = bsT U c) → x.toInt ≤ w i) (by omega) (fun j x y V k3 hj hJ3 hk3 => ?_) x2 x3 U ⟨fun _ _ => rfl, rfl, fun _ _ => rfl, by omega, by omega, by omega, by rw [Int.pow_zero]; omega, ⟨y0, hy0, ey0, by omega⟩, fun w hw _ => by have := P_in w hw i hlt; omega⟩
    obtain ⟨fV, v2, cV, g1, g2, g3, g4, ⟨w0, hw0, ew0, lw0⟩, mn⟩ := hJ3
    show X7_findLeast_B27 (nI i) x y (nI j) V Q k k3
    have out : x.toInt = y.toInt → X7_findLeast_b103 (nI i) y V Q k := by
      intro exy
      unfold X7_findLeast_b103
      rw [nI_clamp (by omega)]
      refine ⟨hvi, fun W1 e1 => ⟨hvi, fun W2 e2 => ⟨hvi, fun W3 e3 w ew => ?_⟩⟩⟩
      rw [nI_1] at ew
      subst ew
      have c68 : ∀ c, W3.1 68 c = if c = i then y else U.1 68 c := fun c => by
        rw [e3, zu_at, e2, zu_ne (by decide), e1, zu_ne (by decide), fV 68 (by decide)]
        by_cases e : c = i <;> simp [e]
      have c72 : ∀ c, W3.1 72 c = if c = i then y else U.1 72 c := fun c => by
        rw [e3, zu_ne (by decide), e2, zu_ne (by decide), e1, zu_at, fV 72 (by decide)]
        by_cases e : c = i <;> simp [e]
      have c73 : ∀ c, W3.1 73 c = if c = i then y else U.1 73 c := fun c => by
        rw [e3, zu_ne (by decide), e2, zu_at, e1, zu_ne (by decide)]
        by_cases e : c = i
        · simp [e]
        · rw [if_neg (fun z => e z.2), if_neg e]; exact cV c e
      have bo : ∀ c, c < i → bsT W3 c = bsT U c := fun c hc => by unfold bsT; rw [c68, if_neg (by omega)]
      have bi : bsT W3 i = y.toInt := by unfold bsT; rw [c68, if_pos rfl]
      have w0i : w0 i = y.toInt := by have := mn w0 hw0 ew0; omega
      refine hk2 hlt W3 ⟨fun n a b c => by rw [e3, zu_ne c, e2, zu_ne b, e1, zu_ne a, fV n b]; exact fU n a b c, by rw [e3, e2, e1]; exact v2.trans u2, fun c hc => ?_, fun c hc => ?_, ⟨w0, hw0, fun c hc => ?_⟩, fun w hw kk hkk pre => ?_⟩
      · rw [c72, c73, c68]
        by_cases e : c = i
        · simp [e]
        · rw [if_neg e, if_neg e, if_neg e]; exact dU c (by omega)
      · rw [c72, c73, if_neg (by omega), if_neg (by omega)]; exact rU c (by omega)
      · by_cases e : c = i
        · rw [e, bi, w0i]
        · rw [bo c (by omega)]; exact ew0 c (by omega)
      · by_cases e : kk = i
        · subst e
          rw [bi]
          have := mn w hw (fun c hc => by rw [pre c hc, bo c hc])
          omega
        · rw [bo kk (by omega)]
          exact mU w hw kk (by omega) (fun c hc => by rw [pre c hc, bo c (by omega)])
    unfold X7_findLeast_B27
    refine ⟨fun z2 => out ?_, fun z2 => ⟨fun z3 => out ?_, fun z3 => ⟨by decide, fun x5 e5 => ⟨hvi, fun W eW => ?_⟩⟩⟩⟩
    · have : j = 12 := by
        rw [show (12 : Int32) = nI 12 from rfl, nI_leI (by omega) (by omega)] at z2
        omega
      subst this
      have : (2 : Int) ^ 12 = 4096 := by decide
      rw [this] at g4
      omega
    · rw [i_le] at z3; omega
    · have hjl := up_onG (n := 12) (by omega) hj z2
      rw [i_le] at z3
      have eh := half_at (by omega) g2 (by omega) e5
      rw [nI_clamp (by omega)] at eW
      have fW : ∀ n, n ≠ 73 → W.1 n = U.1 n := fun n hn => by rw [eW, zu_ne hn]; exact fV n hn
      have kW : zKp S W := kU.tr (zKp.of (fun n hn => fW n (fun e => by subst e; cases hn)) (fW 61 (by decide)))
      have w73 : ∀ c, W.1 73 c = if c = i then x5 else U.1 73 c := fun c => by
        rw [eW, zu_at]
        by_cases e : c = i
        · simp [e]
        · rw [if_neg (fun z => e z.2), if_neg e]; exact cV c e
      have lW : ∀ c, c < nc → loT W c = if c < i then bsT U c else loT T c := fun c hc => by
        unfold loT bsT
        rw [fW 72 (by decide)]
        by_cases e : c < i
        · rw [if_pos e, (dU c e).1]
        · rw [if_neg e, (rU c (by omega)).1]
      have hW : ∀ c, c < nc → hiT W c = if c < i then bsT U c else if c = i then x5.toInt else hiT T c := fun c hc => by
        unfold hiT bsT
        rw [w73]
        by_cases e : c < i
        · rw [if_pos e, if_neg (by omega), (dU c e).2]
        · rw [if_neg e]
          by_cases e2 : c = i
          · rw [if_pos e2, if_pos e2]
          · rw [if_neg e2, if_neg e2, (rU c (by omega)).2]
      have bB : ∀ c, c < i → loT T c ≤ bsT U c ∧ bsT U c ≤ hiT T c := fun c hc => by
        have := P_in y0 hy0 c (by omega)
        rw [ey0 c hc] at this
        exact this
      have rW : rOK S W s nc nr := by
        refine ⟨kW, fun r hrr => by rw [fW 71 (by decide), fU 71 (by decide) (by decide) (by decide)]; exact hr.2.1 r hrr, fun c hc => ?_⟩
        have := hr.2.2 c hc
        have bb := bB c
        have := hlh c hc
        rw [lW c hc, hW c hc]
        by_cases e : c < i
        · rw [if_pos e, if_pos e]; have := bb e; omega
        · rw [if_neg e, if_neg e]
          by_cases e2 : c = i
          · subst e2; rw [if_pos rfl]; omega
          · rw [if_neg e2]; omega
      have lhW : ∀ c, c < nc → loT W c ≤ hiT W c := fun c hc => by
        rw [lW c hc, hW c hc]
        by_cases e : c < i
        · rw [if_pos e, if_pos e]; omega
        · rw [if_neg e, if_neg e]
          by_cases e2 : c = i
          · subst e2; rw [if_pos rfl]; omega
          · rw [if_neg e2]; exact hlh c hc
      have kaW : ∀ r, kaT W r ↔ kaT T r := fun r => by unfold kaT; rw [fW 74 (by decide), fU 74 (by decide) (by decide) (by decide)]
      have ptW : ∀ w, pt (gg S s) (bR S s) s (kaT W) nr nc (loT W) (hiT W) w ↔ (P w ∧ (∀ c, c < i → w c = bsT U c) ∧ w i ≤ x5.toInt) := fun w => by
        rw [← hP]
        refine ⟨fun h => ⟨pt_congr (fun _ _ => rfl) (fun r _ => kaW r) (fun c hc => ?_) h, fun c hc => ?_, ?_⟩, fun ⟨h, a, b⟩ => pt_congr (fun _ _ => rfl) (fun r _ => (kaW r).symm) (fun c hc => ?_) h⟩
        · have := h.1 c hc
          rw [lW c hc, hW c hc] at this
          by_cases e : c < i
          · rw [if_pos e, if_pos e] at this; have := bB c e; omega
          · rw [if_neg e, if_neg e] at this
            by_cases e2 : c = i
            · subst e2; rw [if_pos rfl] at this; omega
            · rw [if_neg e2] at this; exact this
        · have := h.1 c (by omega)
          rw [lW c (by omega), hW c (by omega), if_pos hc, if_pos hc] at this
          omega
        · have := h.1 i hlt
          rw [lW i hlt, hW i hlt, if_neg (by omega), if_neg (by omega), if_pos rfl] at this
          exact this.2
        · have hb := h.1 c hc
          rw [lW c hc, hW c hc]
          by_cases e : c < i
          · rw [if_pos e, if_pos e]; have := a c e; omega
          · rw [if_neg e, if_neg e]
            by_cases e2 : c = i
            · subst e2; rw [if_pos rfl]; omega
            · rw [if_neg e2]; exact hb
      have pw : (2 : Int) ^ (j + 1) = 2 ^ j * 2 := Int.pow_succ _ _
      have pp : (0 : Int) < 2 ^ j := Int.pow_pos (by decide)
      have sz : ∀ a b : Int, 0 ≤ b - a → 2 * (b - a) ≤ y.toInt - x.toInt → (b - a) * 2 ^ (j + 1) ≤ 2000 := fun a b _ hab => by
        have := Int.mul_le_mul_of_nonneg_right hab (show 0 ≤ (2 : Int) ^ j by omega)
        have e : (b - a) * 2 ^ (j + 1) = 2 * (b - a) * 2 ^ j := by rw [pw, Int.mul_comm 2 (b - a), Int.mul_assoc, Int.mul_comm ((2 : Int) ^ j) 2]
        rw [e]; omega
      have o1 : (1 : Int32).toInt = 1 := rfl
      have e51 : (x5 + (1 : Int32)).toInt = x5.toInt + 1 := by
        rw [i_add (by omega) (by omega), o1]
      refine x7_firstProof hC hfl rW (fun r hrr => ?_)
      have ff := (fstR_m1 h2 hrr).trans (noSh_pt hs h2 he hu lhW)
      refine ⟨fun g => ?_, fun g => ?_⟩
      · obtain ⟨w, hw⟩ := ff.mp g
        obtain ⟨a1, a2, a3⟩ := (ptW w).mp hw
        unfold X7_findLeast_b69 X7_findLeast_b84 X7_findLeast_b96
        refine ⟨fun g => absurd g (by decide), fun _ => ⟨fun g => absurd g (by decide), fun _ w' ew' => ?_⟩⟩
        rw [nI_1] at ew'
        subst ew'
        refine hk3 hjl _ _ _ ⟨fW, by rw [eW]; exact v2, fun c hc => by rw [w73, if_neg hc], g1, by omega, by omega, sz _ _ (by omega) (by omega), ⟨w, a1, a2, a3⟩, mn⟩
      · have no : ∀ w, P w → (∀ c, c < i → w c = bsT U c) → x5.toInt + 1 ≤ w i := fun w hw ew => by
          refine Classical.byContradiction (fun z => g (ff.mpr ⟨w, (ptW w).mpr ⟨hw, ew, by omega⟩⟩))
        unfold X7_findLeast_b69 X7_findLeast_b84 X7_findLeast_b96
        refine ⟨fun _ => ⟨fun _ w' ew' => ?_, fun g => absurd rfl g⟩, fun g => absurd rfl g⟩
        rw [nI_1] at ew'
        subst ew'
        have := no w0 hw0 ew0
        refine hk3 hjl _ _ _ ⟨fW, by rw [eW]; exact v2, fun c hc => by rw [w73, if_neg hc], by omega, by omega, g3, sz _ _ (by omega) (by omega), ⟨w0, hw0, ew0, lw0⟩, fun w hw ew => by have := no w hw ew; omega⟩
