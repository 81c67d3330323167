/-! solve(): both sides, all that they show -/
theorem zRf.kr {T U : ZS} (h : zRf T U) : zKr T U := ⟨fun n hn => by
  unfold kpr at hn
  simp only [Bool.or_eq_true, Bool.and_eq_true, decide_eq_true_eq] at hn
  exact h.1 n (by omega) (by omega) (by omega) (by omega) (by omega) (by omega) (by omega) (by omega) (by omega), h.2 1 (by decide), h.2 2 (by decide)⟩
def sol4 (nc nr : Nat) (v : Int32) (U : ZS) : Prop := (v = 0 ∧ U.1 0 7 = 3 ∧ U.1 61 9 = 0 ∧ U.1 61 13 = U.1 5 0 ∧ U.1 61 14 = U.1 5 1) ∨ (v = 1 ∧ U.1 0 7 = 1 ∧ U.1 61 9 = 1 ∧ U.1 61 10 = 1 ∧ (∀ c, c < nc → U.1 68 c = U.1 7 c) ∧ ∀ r, r < nr → (U.2 69 r).toInt = (U.1 37 r).toInt) ∨ (v = 1 ∧ U.1 0 7 = 2 ∧ U.1 61 9 = 1 ∧ U.1 61 10 = 0 ∧ ∀ c, c < nc → U.1 68 c = U.1 7 c) ∨ (v = -1 ∧ U.1 0 7 = 0 ∧ U.1 61 9 = -1)
set_option maxHeartbeats 1000000 in
theorem s_16c {S : ZS} {nc nr : Nat} {Q : Int32 → Int32 → ZS → Prop} (hTB : TB) (hC : zC S nc nr) (q : ∀ v U, zKp S U → sol4 nc nr v U → Q v v U) : X6_solve S (fun v T => X7_solve T (fun w U => Q v w U)) := by
  have h2 := hC.2.1
  unfold X6_solve
  refine i4_findSigns hC (fun x T hp hx hf => ?_)
  have hT := hC.per hp
  have eA : ∀ r c, r < nr → c < nc → aC S r c = aC T r c := fun r c hr _ => (aC_per hp (by omega)).symm
  have hxT : fR (aC T) nr nc x := fR_cA eA hx
  refine ⟨fun ex => ?_, fun ex => ?_⟩
  · obtain ⟨L, s, f22, f23, hP, hG⟩ := hf ex
    have hPT : zP nr (cJ (tr (aC T)) nr nc) L := hP.congr (fun f => cJ_cA eA f)
    have hGT : sG (aC T) nr nc L s := sG_cA eA hG
    rw [ex] at hxT
    have hfl : flw T nc nr s := ⟨(hxT.flow hT.1).1, hGT.1, hGT.2.2.1⟩
    have ref : ∀ (V : ZS) (R : Int32 → ZS → Prop), zKp T V → (okF T s nc nr → ∀ W, zKr V W → W.1 61 9 = 1 → W.1 61 10 = 1 → solX T s nc nr (fun c => (W.1 68 c).toInt) (fun r => (W.2 69 r).toInt) → R 1 W) → (∀ k v W, prF T s nc nr k v → zKr V W → W.1 61 9 = 0 → W.1 61 13 = nI k → W.1 61 14 = v → R 0 W) → X7_solve V R := by
      intro V R kV r1 r0
      unfold X7_solve
      intro V1 e1 V2 e2
      have kr2 : zKr V V2 := by rw [e2, e1]; exact ((zKr.rf V).u61 (by decide) (by decide)).u61 (by decide) (by decide)
      have k2 : zKp T V2 := kV.tr kr2.kp
      unfold X7_solve_b24 X7_solve_b61
      refine i7k_flowReason hT k2 hxT ⟨fun _ => ⟨Or.inr rfl, fun V3 e3 => ?_⟩, fun h => absurd rfl h⟩
      have kr3 : zKr V V3 := by rw [e3]; exact kr2.u61 (by decide) (by decide)
      have k3 : zKp T V3 := kV.tr kr3.kp
      have e10 : V3.1 61 10 = 1 := by rw [e3, zu_at, if_pos ⟨rfl, rfl⟩]
      rw [e10]
      refine ⟨fun h => absurd h (by decide), fun _ => ?_⟩
      refine x7_byFlows hT hfl k3 hPT hGT (fun U fU u2 hr c1 rr hok => ?_) (fun U k v kU fU hpr u13 u14 f61 W eW => ?_)
      · have krU : zKr V3 U := zKr.of (fun n hn => by
          unfold kpr at hn
          simp only [Bool.or_eq_true, Bool.and_eq_true, decide_eq_true_eq] at hn
          exact fU n (by omega) (by omega) (by omega) (by omega) (by omega)) (fU 61 (by decide) (by decide) (by decide) (by decide) (by decide))
        refine x7_flow hTB hT hfl hr c1 rr hok (fun F zF hsol W eW => ?_)
        have w9 : W.1 61 9 = 1 := by rw [eW, zu_at, if_pos ⟨rfl, rfl⟩]
        have w10 : W.1 61 10 = 1 := by rw [eW, zu_at, if_neg (by decide), zF.2 10 (by decide), fU 61 (by decide) (by decide) (by decide) (by decide) (by decide)]; exact e10
        rw [w9]
        refine r1 hok W ?_ w9 w10 ?_
        · rw [eW]
          exact ((kr3.tr krU).tr zF.kr).u61 (by decide) (by decide)
        · have a : W.1 68 = F.1 68 := by rw [eW, zu_ne (by decide)]
          have b : W.2 = F.2 := by rw [eW]; rfl
          rw [a, b]; exact hsol
      · have krU : zKr V3 U := by
          refine ⟨fun n hn => ?_, ?_, ?_⟩
          · unfold kpr at hn
            simp only [Bool.or_eq_true, Bool.and_eq_true, decide_eq_true_eq] at hn
            exact fU n (by omega) (by omega) (by omega) (by omega) (by omega) (by omega)
          · exact f61 1 (by decide) (by decide)
          · exact f61 2 (by decide) (by decide)
        have w9 : W.1 61 9 = 0 := by rw [eW, zu_at, if_pos ⟨rfl, rfl⟩]
        rw [w9]
        refine r0 k v W hpr (by rw [eW]; exact (kr3.tr krU).u61 (by decide) (by decide)) w9 ?_ ?_
        · rw [eW, zu_at, if_neg (by decide)]; exact u13
        · rw [eW, zu_at, if_neg (by decide)]; exact u14
    refine x6_flow hT hfl f23 (fun Y kY sY hok Z eZ => ?_) (fun U k v kU hpr u0 u1 V eV => ?_)
    · have kZ : zKp T Z := by rw [eZ]; exact kY.u rfl (by decide)
      have z7 : Z.1 0 7 = 1 := by rw [eZ, zu_at, if_pos ⟨rfl, rfl⟩]
      unfold X6_solve_b62 X6_solve_b75
      rw [z7]
      refine ⟨fun h => absurd h (by decide), fun _ => ref Z _ kZ (fun _ W' kW' w9 w10 sW => ?_) (fun k v W' hpr _ _ _ _ => absurd hpr (fun h => okF_pr hok h))⟩
      have e7 : W'.1 7 = Y.1 7 := by rw [kW'.1 7 rfl, eZ, zu_ne (by decide)]
      have e37 : W'.1 37 = Y.1 37 := by rw [kW'.1 37 rfl, eZ, zu_ne (by decide)]
      obtain ⟨u1, u2⟩ := sW.uniq sY
      refine q 1 W' (hp.kp.tr (kZ.tr kW'.kp)) (Or.inr (Or.inl ⟨rfl, by rw [kW'.1 0 rfl]; exact z7, w9, w10, fun c hc => ?_, fun r hr => ?_⟩))
      · rw [i_eq, e7]; exact u1 c hc
      · rw [e37]; exact u2 r hr
    · have kV : zKp T V := by rw [eV]; exact kU.u rfl (by decide)
      have v7 : V.1 0 7 = 3 := by rw [eV, zu_at, if_pos ⟨rfl, rfl⟩]
      have v50 : V.1 5 0 = nI k := by rw [eV, zu_ne (by decide)]; exact u0
      have v51 : V.1 5 1 = v := by rw [eV, zu_ne (by decide)]; exact u1
      unfold X6_solve_b62 X6_solve_b75
      rw [v7]
      refine ⟨fun _ => ref V _ kV (fun hok _ _ _ _ _ => absurd hpr (fun h => okF_pr hok h)) (fun k' v' W' hpr' kW' w9 w13 w14 => ?_), fun h => absurd rfl h⟩
      obtain ⟨ek, ev⟩ := hpr.uniq hpr'
      exact q 0 W' (hp.kp.tr (kV.tr kW'.kp)) (Or.inl ⟨rfl, by rw [kW'.1 0 rfl]; exact v7, w9, by rw [w13, kW'.1 5 rfl, v50, ek], by rw [w14, kW'.1 5 rfl, v51, ev]⟩)
  · -- no flow
    have hcoT : ∀ c, c < nc → (T.1 10 c).toInt = cst T c ∧ -1000 ≤ cst T c ∧ cst T c ≤ 1000 := fun c hc => by
      have := (hT.2.2.2.2.2.2.1 c hc).2.2.2.2
      unfold zlim at this
      exact ⟨rfl, this⟩
    have ref : ∀ (V : ZS) (R : Int32 → ZS → Prop), zKp T V → (kn T nc nr → ∀ W b, zKr V W → W.1 61 9 = 1 → W.1 61 10 = 0 → ksol nc (T.1 12 0).toInt.toNat (fun c => (T.1 14 c).toInt.toNat) (fun c => (T.1 9 c).toInt.toNat) (cst T) b → (∀ c, c < nc → W.1 68 c = nI (b c)) → R 1 W) → (¬ kn T nc nr → ∀ W, zKr V W → W.1 61 9 = -1 → R (-1) W) → X7_solve V R := by
      intro V R kV r1 r0
      unfold X7_solve
      intro V1 e1 V2 e2
      have kr2 : zKr V V2 := by rw [e2, e1]; exact ((zKr.rf V).u61 (by decide) (by decide)).u61 (by decide) (by decide)
      have k2 : zKp T V2 := kV.tr kr2.kp
      have e9 : V2.1 61 9 = -1 := by rw [e2, zu_at, if_pos ⟨rfl, rfl⟩]
      unfold X7_solve_b24 X7_solve_b61
      refine i7k_flowReason hT k2 hxT ⟨fun h => absurd h ex, fun _ => ⟨Or.inl rfl, fun V3 e3 => ?_⟩⟩
      have kr3 : zKr V V3 := by rw [e3]; exact kr2.u61 (by decide) (by decide)
      have k3 : zKp T V3 := kV.tr kr3.kp
      have e10 : V3.1 61 10 = 0 := by rw [e3, zu_at, if_pos ⟨rfl, rfl⟩]
      have e39 : V3.1 61 9 = -1 := by rw [e3, zu_at, if_neg (by decide)]; exact e9
      have knT : kn V3 nc nr ↔ kn T nc nr := by
        unfold kn knh
        rw [k3.1 11 rfl, k3.1 12 rfl, k3.1 14 rfl, k3.1 8 rfl]
      have hV3 := hT.kp k3
      rw [e10]
      refine ⟨fun _ => x7_isKnapsack hV3 (fun v hv ev => ⟨fun g => ?_, fun g => ?_⟩), fun h => absurd rfl h⟩
      · rw [e39]
        exact r0 (fun w => bit_0 g ev (knT.mpr w)) V3 kr3 e39
      · have hkn := ev.mp (bit_1 hv g)
        have hknT := knT.mp hkn
        refine x7_byRoom (co := cst T) hV3 hkn.1.1 ((hknT.z hT).kp k3) (fun c hc => by rw [k3.1 10 rfl]; exact hcoT c hc) (zKr.rf V3) (fun W b kW hb wb Y eY => ?_)
        have y9 : Y.1 61 9 = 1 := by rw [eY, zu_at, if_pos ⟨rfl, rfl⟩]
        have y10 : Y.1 61 10 = 0 := by rw [eY, zu_at, if_neg (by decide), kW.2]; exact e10
        rw [y9]
        refine r1 hknT Y b (by rw [eY]; exact (kr3.tr kW.1).u61 (by decide) (by decide)) y9 y10 hb (fun c hc => ?_)
        rw [eY, zu_ne (by decide)]; exact wb c hc
    refine x4_isKnapsack hT (fun v hv ev => ⟨fun g U eU => ?_, fun g => ?_⟩)
    · have kU : zKp T U := by rw [eU]; exact (zKp.rf T).u rfl (by decide)
      have u7 : U.1 0 7 = 0 := by rw [eU, zu_at, if_pos ⟨rfl, rfl⟩]
      refine ref U _ kU (fun w _ _ _ _ _ _ _ => absurd w (bit_0 g ev)) (fun _ W kW w9 => ?_)
      exact q (-1) W (hp.kp.tr (kU.tr kW.kp)) (Or.inr (Or.inr (Or.inr ⟨rfl, by rw [kW.1 0 rfl]; exact u7, w9⟩)))
    · have hkn := ev.mp (bit_1 hv g)
      refine x0_fill (co := cst T) (hkn.z hT) hcoT hT.2.2.1 (zKp.rf T) (fun U b kU hb ub V eV => ?_)
      have kV : zKp T V := by rw [eV]; exact kU.u rfl (by decide)
      have v7 : V.1 0 7 = 2 := by rw [eV, zu_at, if_pos ⟨rfl, rfl⟩]
      unfold X6_solve_b62 X6_solve_b75
      rw [v7]
      refine ⟨fun h => absurd h (by decide), fun _ => ref V _ kV (fun _ W b' kW w9 w10 hb' wb => ?_) (fun w _ _ _ => absurd hkn w)⟩
      refine q 1 W (hp.kp.tr (kV.tr kW.kp)) (Or.inr (Or.inr (Or.inl ⟨rfl, by rw [kW.1 0 rfl]; exact v7, w9, w10, fun c hc => ?_⟩)))
      rw [wb c hc, kW.1 7 rfl, eV, zu_ne (by decide), ub c hc, hb'.uniq hb c hc]
theorem k_16 {y1 y2 y3 : Int32} {S : ZS} {N : ZS → Prop} (hTB : TB) (h : Inv S) (hN : ∀ T, Inv T → N T) : lawc_16 y1 y2 y3 S N := by
  obtain ⟨nc, nr, hC, hSol⟩ := h
  unfold lawc_16
  refine s_16c (Q := fun v w U => (v = w → N U) ∧ (¬ v = w → False)) hTB hC (fun v U kU hv => ⟨fun _ => hN U ⟨nc, nr, hC.kp kU, ?_⟩, fun z => z rfl⟩)
  rcases hv with ⟨_, a⟩ | ⟨_, a⟩ | ⟨_, a⟩ | ⟨_, a, b⟩
  · exact Or.inr (Or.inr (Or.inr a))
  · exact Or.inr (Or.inl a)
  · exact Or.inr (Or.inr (Or.inl a))
  · exact Or.inl ⟨a, b⟩
theorem k_all {y1 y2 y3 : Int32} {S : ZS} {N : ZS → Prop} (hTB : TB) (h : Inv S) (hN : ∀ T, Inv T → N T) : ∀ j, lw_case y1 y2 y3 S N j
  | 0 => k_0 (y1 := y1) (y2 := y2) (y3 := y3) h hN
  | 1 => k_1 (y1 := y1) (y2 := y2) (y3 := y3) h hN
  | 2 => k_2 (y1 := y1) (y2 := y2) (y3 := y3) h hN
  | 3 => k_3 (y1 := y1) (y2 := y2) (y3 := y3) h hN
  | 4 => k_4 (y1 := y1) (y2 := y2) (y3 := y3) h hN
  | 5 => k_5 (y1 := y1) (y2 := y2) (y3 := y3) h hN
  | 6 => k_6 (y1 := y1) (y2 := y2) (y3 := y3) h hN
  | 7 => k_7 (y1 := y1) (y2 := y2) (y3 := y3) h hN
  | 8 => k_8 (y1 := y1) (y2 := y2) (y3 := y3) h hN
  | 9 => k_9 (y1 := y1) (y2 := y2) (y3 := y3) h hN
  | 10 => k_10 (y1 := y1) (y2 := y2) (y3 := y3) h hN
  | 11 => k_11 (y1 := y1) (y2 := y2) (y3 := y3) h hN
  | 12 => k_12 (y1 := y1) (y2 := y2) (y3 := y3) h hN
  | 13 => k_13 (y1 := y1) (y2 := y2) (y3 := y3) h hN
  | 14 => k_14 (y1 := y1) (y2 := y2) (y3 := y3) h hN
  | 15 => k_15 (y1 := y1) (y2 := y2) (y3 := y3) h hN
  | 16 => k_16 (y1 := y1) (y2 := y2) (y3 := y3) hTB h hN
  | 17 => k_17 (y1 := y1) (y2 := y2) (y3 := y3) h hN
  | 18 => k_18 (y1 := y1) (y2 := y2) (y3 := y3) h hN
  | 19 => k_19 (y1 := y1) (y2 := y2) (y3 := y3) h hN
  | 20 => k_20 (y1 := y1) (y2 := y2) (y3 := y3) h hN
  | 21 => k_21 (y1 := y1) (y2 := y2) (y3 := y3) h hN
  | 22 => k_22 (y1 := y1) (y2 := y2) (y3 := y3) h hN
  | 23 => k_23 (y1 := y1) (y2 := y2) (y3 := y3) h hN
  | _ + 24 => hN S h
theorem k_run (hTB : TB) (xs : Nat → Int32) : ∀ (n i : Nat) (S : ZS), Inv S → lw_run xs n i S
  | 0, _, _, _ => trivial
  | n + 1, i, _, h => fun j _ _ => k_all hTB h (fun T hT => k_run hTB xs n (i + 4) T hT) j
/-- whole, but for the bound on improve()'s turns -/
theorem i_vc_tb (hTB : TB) : Claimed_1_1 ∧ Claimed_1_2 := i_vc_of (fun xs n _ => k_run hTB xs n 0 zS0 Inv_0)
