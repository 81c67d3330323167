/-! solve(): both answer alike, and show the same set -/
def sol3 (v : Int32) (U : ZS) : Prop := (v = 0 ∧ U.1 0 7 = 3 ∧ U.1 61 9 = 0 ∧ U.1 61 13 = U.1 5 0 ∧ U.1 61 14 = U.1 5 1) ∨ (v = 1 ∧ (U.1 0 7 = 1 ∨ U.1 0 7 = 2) ∧ U.1 61 9 = 1) ∨ (v = -1 ∧ U.1 0 7 = 0 ∧ U.1 61 9 = -1)
theorem s_16b {S : ZS} {nc nr : Nat} {Q : Int32 → Int32 → ZS → Prop} (hC : zC S nc nr) (q : ∀ v U, zKp S U → sol3 v U → Q v v U) : X6_solve S (fun v T => X7_solve T (fun w U => Q v w U)) := by
  have h2 := hC.2.1
  unfold X6_solve
  refine i4_findSigns hC (fun x T hp hx hf => ?_)
  have hT := hC.per hp
  have eA : ∀ r c, r < nr → c < nc → aC S r c = aC T r c := fun r c hr _ => (aC_per hp (by omega)).symm
  have hxT : fR (aC T) nr nc x := fR_cA eA hx
  refine ⟨fun ex => ?_, fun ex => ?_⟩
  · obtain ⟨L, s, f22, f23, hP, hG⟩ := hf ex
    have hPT : zP nr (cJ (tr (aC T)) nr nc) L := hP.congr (fun f => cJ_cA eA f)
    have hGT : sG (aC T) nr nc L s := sG_cA eA hG
    rw [ex] at hxT
    have hfl : flw T nc nr s := ⟨(hxT.flow hT.1).1, hGT.1, hGT.2.2.1⟩
    -- the reference, from a state that has kept what was told
    have ref : ∀ (V : ZS) (R : Int32 → ZS → Prop), zKp T V → (okF T s nc nr → ∀ W, zKr V W → W.1 61 9 = 1 → R 1 W) → (∀ k v W, prF T s nc nr k v → zKr V W → W.1 61 9 = 0 → W.1 61 13 = nI k → W.1 61 14 = v → R 0 W) → X7_solve V R := by
      intro V R kV r1 r0
      unfold X7_solve
      intro V1 e1 V2 e2
      have kr2 : zKr V V2 := by rw [e2, e1]; exact ((zKr.rf V).u61 (by decide) (by decide)).u61 (by decide) (by decide)
      have k2 : zKp T V2 := kV.tr kr2.kp
      unfold X7_solve_b24 X7_solve_b61
      refine i7k_flowReason hT k2 hxT ⟨fun _ => ⟨Or.inr rfl, fun V3 e3 => ?_⟩, fun h => absurd rfl h⟩
      have kr3 : zKr V V3 := by rw [e3]; exact kr2.u61 (by decide) (by decide)
      have k3 : zKp T V3 := kV.tr kr3.kp
      have e10 : V3.1 61 10 = 1 := by rw [e3, zu_at, if_pos ⟨rfl, rfl⟩]
      rw [e10]
      refine ⟨fun h => absurd h (by decide), fun _ => ?_⟩
      refine x7_byFlows hT hfl k3 hPT hGT (fun U fU u2 hr c1 rr hok => ?_) (fun U k v kU fU hpr u13 u14 f61 W eW => ?_)
      · have krU : zKr V3 U := zKr.of (fun n hn => by
          unfold kpr at hn
          simp only [Bool.or_eq_true, Bool.and_eq_true, decide_eq_true_eq] at hn
          exact fU n (by omega) (by omega) (by omega) (by omega) (by omega)) (fU 61 (by decide) (by decide) (by decide) (by decide) (by decide))
        have hU := hT.kp hr.1
        refine s_findLeast hU (zKr.rf U) (fun A kA => s_improve hU kA (fun B kB => s_keepBest hU kB (fun D kD => s_findLeast hU kD (fun E kE => s_findPrices hU kE (fun F kF W eW => ?_)))))
        have w9 : W.1 61 9 = 1 := by rw [eW, zu_at, if_pos ⟨rfl, rfl⟩]
        rw [w9]
        refine r1 hok W ?_ w9
        rw [eW]
        exact ((kr3.tr krU).tr kF).u61 (by decide) (by decide)
      · have krU : zKr V3 U := by
          refine ⟨fun n hn => ?_, ?_, ?_⟩
          · unfold kpr at hn
            simp only [Bool.or_eq_true, Bool.and_eq_true, decide_eq_true_eq] at hn
            exact fU n (by omega) (by omega) (by omega) (by omega) (by omega) (by omega)
          · exact f61 1 (by decide) (by decide)
          · exact f61 2 (by decide) (by decide)
        have w9 : W.1 61 9 = 0 := by rw [eW, zu_at, if_pos ⟨rfl, rfl⟩]
        rw [w9]
        refine r0 k v W hpr (by rw [eW]; exact (kr3.tr krU).u61 (by decide) (by decide)) w9 ?_ ?_
        · rw [eW, zu_at, if_neg (by decide)]; exact u13
        · rw [eW, zu_at, if_neg (by decide)]; exact u14
    refine x6_solveFlow hT hfl f23 (fun V m kV v23 hl hpo hz hok => ?_) (fun U k v kU hpr u0 u1 V eV => ?_)
    · have hV := hT.kp kV
      rw [hV.2.2.1]
      refine ⟨⟨by decide, by decide, nI_pos (by have := hV.1; omega), ?_, ?_⟩, fun W eW => ?_⟩
      · show 0 + (nI nc).toNatClampNeg ≤ 18
        have := hV.1
        rw [nI_clamp (by omega)]; omega
      · show 0 + (nI nc).toNatClampNeg ≤ 10
        have := hV.1
        rw [nI_clamp (by omega)]; omega
      · have kW : zKp T W := by rw [eW]; exact kV.ur rfl (by decide)
        have mW : nOK W m := by
          have mV := hl.1.ok
          rw [eW]
          refine ⟨mV.1, ?_, fun a ha => ?_⟩
          · unfold zur; dsimp only; rw [if_neg (by decide)]; exact mV.2.1
          · unfold zur; dsimp only; rw [if_neg (by decide), if_neg (by decide)]; exact mV.2.2 a ha
        rw [(hT.kp kW).2.2.2.1]
        refine s_choose h2 kW mW (fun Y kY Z eZ => ?_)
        have kZ : zKp T Z := by rw [eZ]; exact kY.u rfl (by decide)
        have z7 : Z.1 0 7 = 1 := by rw [eZ, zu_at, if_pos ⟨rfl, rfl⟩]
        unfold X6_solve_b62 X6_solve_b75
        rw [z7]
        refine ⟨fun h => absurd h (by decide), fun _ => ref Z _ kZ (fun _ W' kW' w9 => ?_) (fun k v W' hpr _ _ _ _ => absurd hpr (fun h => okF_pr hok h))⟩
        exact q 1 W' (hp.kp.tr (kZ.tr kW'.kp)) (Or.inr (Or.inl ⟨rfl, Or.inl (by rw [kW'.1 0 rfl]; exact z7), w9⟩))
    · have kV : zKp T V := by rw [eV]; exact kU.u rfl (by decide)
      have v7 : V.1 0 7 = 3 := by rw [eV, zu_at, if_pos ⟨rfl, rfl⟩]
      have v50 : V.1 5 0 = nI k := by rw [eV, zu_ne (by decide)]; exact u0
      have v51 : V.1 5 1 = v := by rw [eV, zu_ne (by decide)]; exact u1
      unfold X6_solve_b62 X6_solve_b75
      rw [v7]
      refine ⟨fun _ => ref V _ kV (fun hok _ _ _ => absurd hpr (fun h => okF_pr hok h)) (fun k' v' W' hpr' kW' w9 w13 w14 => ?_), fun h => absurd rfl h⟩
      obtain ⟨ek, ev⟩ := hpr.uniq hpr'
      exact q 0 W' (hp.kp.tr (kV.tr kW'.kp)) (Or.inl ⟨rfl, by rw [kW'.1 0 rfl]; exact v7, w9, by rw [w13, kW'.1 5 rfl, v50, ek], by rw [w14, kW'.1 5 rfl, v51, ev]⟩)
  · -- no flow
    have ref : ∀ (V : ZS) (R : Int32 → ZS → Prop), zKp T V → (kn T nc nr → ∀ W, zKr V W → W.1 61 9 = 1 → R 1 W) → (¬ kn T nc nr → ∀ W, zKr V W → W.1 61 9 = -1 → R (-1) W) → X7_solve V R := by
      intro V R kV r1 r0
      unfold X7_solve
      intro V1 e1 V2 e2
      have kr2 : zKr V V2 := by rw [e2, e1]; exact ((zKr.rf V).u61 (by decide) (by decide)).u61 (by decide) (by decide)
      have k2 : zKp T V2 := kV.tr kr2.kp
      have e9 : V2.1 61 9 = -1 := by rw [e2, zu_at, if_pos ⟨rfl, rfl⟩]
      unfold X7_solve_b24 X7_solve_b61
      refine i7k_flowReason hT k2 hxT ⟨fun h => absurd h ex, fun _ => ⟨Or.inl rfl, fun V3 e3 => ?_⟩⟩
      have kr3 : zKr V V3 := by rw [e3]; exact kr2.u61 (by decide) (by decide)
      have k3 : zKp T V3 := kV.tr kr3.kp
      have e10 : V3.1 61 10 = 0 := by rw [e3, zu_at, if_pos ⟨rfl, rfl⟩]
      have e39 : V3.1 61 9 = -1 := by rw [e3, zu_at, if_neg (by decide)]; exact e9
      have knT : kn V3 nc nr ↔ kn T nc nr := by
        unfold kn knh
        rw [k3.1 11 rfl, k3.1 12 rfl, k3.1 14 rfl, k3.1 8 rfl]
      have hV3 := hT.kp k3
      rw [e10]
      refine ⟨fun _ => x7_isKnapsack hV3 (fun v hv ev => ⟨fun g => ?_, fun g => ?_⟩), fun h => absurd rfl h⟩
      · rw [e39]
        exact r0 (fun w => bit_0 g ev (knT.mpr w)) V3 kr3 e39
      · have hkn := ev.mp (bit_1 hv g)
        refine s_byRoom hV3 hkn.1.1 (hkn.z hV3) (zKr.rf V3) (fun W kW Y eY => ?_)
        have y9 : Y.1 61 9 = 1 := by rw [eY, zu_at, if_pos ⟨rfl, rfl⟩]
        rw [y9]
        exact r1 (knT.mp hkn) Y (by rw [eY]; exact (kr3.tr kW).u61 (by decide) (by decide)) y9
    refine x4_isKnapsack hT (fun v hv ev => ⟨fun g U eU => ?_, fun g => ?_⟩)
    · have kU : zKp T U := by rw [eU]; exact (zKp.rf T).u rfl (by decide)
      have u7 : U.1 0 7 = 0 := by rw [eU, zu_at, if_pos ⟨rfl, rfl⟩]
      refine ref U _ kU (fun w _ _ _ => absurd w (bit_0 g ev)) (fun _ W kW w9 => ?_)
      exact q (-1) W (hp.kp.tr (kU.tr kW.kp)) (Or.inr (Or.inr ⟨rfl, by rw [kW.1 0 rfl]; exact u7, w9⟩))
    · have hkn := ev.mp (bit_1 hv g)
      refine s_fill (hkn.z hT) hT.2.2.1 (zKp.rf T) (fun U kU V eV => ?_)
      have kV : zKp T V := by rw [eV]; exact kU.u rfl (by decide)
      have v7 : V.1 0 7 = 2 := by rw [eV, zu_at, if_pos ⟨rfl, rfl⟩]
      unfold X6_solve_b62 X6_solve_b75
      rw [v7]
      refine ⟨fun h => absurd h (by decide), fun _ => ref V _ kV (fun _ W kW w9 => ?_) (fun w _ _ _ => absurd hkn w)⟩
      exact q 1 W (hp.kp.tr (kV.tr kW.kp)) (Or.inr (Or.inl ⟨rfl, Or.inr (by rw [kW.1 0 rfl]; exact v7), w9⟩))
