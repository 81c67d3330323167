/-! what solve() answers, and the set that shows that no point fits -/
theorem sh_congr {g : Nat → Nat → Int} {b s : Nat → Int} {κ κ' : Nat → Prop} {nr nc k : Nat} {lo hi lo' hi' : Nat → Int} (hκ : ∀ r, r < nr → (κ r ↔ κ' r)) (hl : ∀ c, c < nc → lo c = lo' c ∧ hi c = hi' c) : (sh1 g b s κ nr nc lo hi k ↔ sh1 g b s κ' nr nc lo' hi' k) ∧ (sh2 g b s κ nr nc lo hi k ↔ sh2 g b s κ' nr nc lo' hi' k) := by
  have e1 : lstS g nr nc lo hi k = lstS g nr nc lo' hi' k := sI_congr (fun c hc => by rw [(hl c hc).1, (hl c hc).2])
  have e2 : grtS g nr nc lo hi k = grtS g nr nc lo' hi' k := sI_congr (fun c hc => by rw [(hl c hc).1, (hl c hc).2])
  have e3 : ∀ v, mayS κ s nr v k ↔ mayS κ' s nr v k := fun v => ⟨fun h r hr a b => h r hr ((hκ r hr).mpr a) b, fun h r hr a b => h r hr ((hκ r hr).mp a) b⟩
  unfold sh1 sh2
  rw [e1, e2, e3, e3]
  exact ⟨Iff.rfl, Iff.rfl⟩
theorem fstR_congr {g : Nat → Nat → Int} {b s : Nat → Int} {κ κ' : Nat → Prop} {nr nc : Nat} {lo hi lo' hi' : Nat → Int} {x : Int32} (hκ : ∀ r, r < nr → (κ r ↔ κ' r)) (hl : ∀ c, c < nc → lo c = lo' c ∧ hi c = hi' c) (h : fstR g b s κ nr nc lo hi x) : fstR g b s κ' nr nc lo' hi' x := by
  have c := fun k => sh_congr (g := g) (b := b) (s := s) (k := k) hκ hl
  have no : ∀ j, (¬ sh1 g b s κ nr nc lo hi j ∧ ¬ sh2 g b s κ nr nc lo hi j) ↔ (¬ sh1 g b s κ' nr nc lo' hi' j ∧ ¬ sh2 g b s κ' nr nc lo' hi' j) := fun j => by rw [(c j).1, (c j).2]
  have fp : ∀ k v, fstP g b s κ nr nc lo hi k v → fstP g b s κ' nr nc lo' hi' k v := fun k v ⟨h1, h2, h3, h4⟩ => ⟨h1, h2, by rw [← (c k).1, ← (c k).2]; exact h3, fun j a b => (no j).mp (h4 j a b)⟩
  rcases h with ⟨e, h⟩ | ⟨k, ⟨h, e⟩ | ⟨h, e⟩⟩
  · exact Or.inl ⟨e, fun k a b => (no k).mp (h k a b)⟩
  · exact Or.inr ⟨k, Or.inl ⟨fp k 1 h, e⟩⟩
  · exact Or.inr ⟨k, Or.inr ⟨fp k (-1) h, e⟩⟩
/-- no set shows anything in what was told -/
def okF (S : ZS) (s : Nat → Int) (nc nr : Nat) : Prop := noSh (gg S s) (bR S s) s (kap S) nr nc (loc S) (hic S)
def prF (S : ZS) (s : Nat → Int) (nc nr k : Nat) (v : Int32) : Prop := fstP (gg S s) (bR S s) s (kap S) nr nc (loc S) (hic S) k v
theorem okF_pr {S : ZS} {s : Nat → Int} {nc nr k : Nat} {v : Int32} (h : okF S s nc nr) (g : prF S s nc nr k v) : False := by
  obtain ⟨g1, g2, g3, g4⟩ := g
  have := h k g1 g2
  rcases g3 with ⟨_, q⟩ | ⟨_, _, q⟩
  · exact this.1 q
  · exact this.2 q
theorem net.ok {T : ZS} {m : Nat} {b : Nat → Int} (h : net T m b) : nOK T m := ⟨h.1, h.2.1, fun a ha => by
  have ok := h.2.2.1 a ha
  exact ⟨⟨uA T a, ok.1, ok.2.2.1⟩, ⟨dA T a, ok.2.1, ok.2.2.2.1⟩⟩⟩
theorem zXc.kp {T U : ZS} (h : zXc T U) : zKp T U := zKp.of (fun n hn => h.2 n (fun e => by subst e; cases hn) (fun e => by subst e; cases hn) (fun e => by subst e; cases hn) (fun e => by subst e; cases hn) (fun e => by subst e; cases hn)) (h.2 61 (by decide) (by decide) (by decide) (by decide) (by decide))
theorem x6_solveFlow {nc nr : Nat} {s : Nat → Int} {T : ZS} {Q : Int32 → ZS → Prop} (hC : zC T nc nr) (hfl : flw T nc nr s) (h23 : ∀ r, r < nr → (T.1 23 r).toInt = s r)
    (qB : ∀ V m, zKp T V → V.1 23 = T.1 23 → laid T V s nc nr m → pot V m → (∀ v, v < 9 → nA V v = 0) → okF T s nc nr → (zcpy (0 : Int32) (0 : Int32) (V.1 1 0) 18 10 ∧ ∀ S_68 : ZS, S_68 = zur V 7 (va_cpy (V.1 31) (V.1 7) ((0 : Int32)).toNatClampNeg ((0 : Int32)).toNatClampNeg ((V.1 1 0)).toNatClampNeg) → X2_choose (S_68.1 1 1) S_68 (fun S_93 => Q (1 : Int32) S_93)))
    (q3 : ∀ U k v, zKp T U → prF T s nc nr k v → U.1 5 0 = nI k → U.1 5 1 = v → Q 3 U) : X6_solveFlow T Q := by
  have h2 := hC.2.1
  have he := ends_c hfl h2
  unfold X6_solveFlow
  refine x1_lay hC hfl h23 (fun V m kV v23 hl hp => ?_)
  obtain ⟨ns, ps⟩ := laid_0 hC hfl.2.1 hl (fun a a1 a2 => (hp a a2).2 a1)
  refine x1_balance hl.1 (pot_0 (fun a ha => (hp a ha).1)) ns ps (fun W xW nW pW zW => ⟨fun h => absurd h (by decide), fun _ => ?_⟩) (fun W Z xW hg => ⟨fun _ => ?_, fun h => absurd rfl h⟩)
  · have lW := hl.x xW nW
    have hok : okF T s nc nr := (noSh_iff hfl.2.1 h2 he (fun c _ => ends_8)).mpr (cut_1 lW zW)
    exact qB W m (kV.tr xW.kp) (by rw [xW.2 23 (by decide) (by decide) (by decide) (by decide) (by decide)]; exact v23) lW pW zW hok
  · have kW := kV.tr xW.kp
    have w23 : W.1 23 = T.1 23 := by rw [xW.2 23 (by decide) (by decide) (by decide) (by decide) (by decide)]; exact v23
    obtain ⟨Z', z1, z2⟩ := cut_0 hC hfl.2.1 hl hg
    refine x3_search hC hfl kW (fun r hr => by rw [w23]; exact h23 r hr) (fun w => ?_) (fun U k v qU u0 u1 hf => q3 U k v (kW.tr (zKp.of (fun n hn => qU.2 n (fun e => by subst e; cases hn)) (qU.2 61 (by decide)))) hf u0 u1)
    have := (noSh_iff hfl.2.1 h2 he (fun c _ => ends_8)).mp w Z' z1
    omega
/-- the reference -/
theorem x7_begin {nc nr : Nat} {S T : ZS} {Q : ZS → Prop} (hC : zC S nc nr) (hk : zKp S T) (q : ∀ U, zKp S U → (∀ n, n ≠ 72 → n ≠ 73 → n ≠ 74 → U.1 n = T.1 n) → U.2 = T.2 → (∀ c, c < nc → U.1 72 c = S.1 8 c ∧ U.1 73 c = S.1 9 c) → (∀ r, r < nr → U.1 74 r = S.1 11 r) → Q U) : X7_begin T Q := by
  have h1 := hC.1
  have h2 := hC.2.1
  unfold X7_begin
  refine zl_up nc (fun i U => zKp S U ∧ (∀ n, n ≠ 72 → n ≠ 73 → n ≠ 74 → U.1 n = T.1 n) ∧ U.2 = T.2 ∧ ∀ c, c < i → U.1 72 c = S.1 8 c ∧ U.1 73 c = S.1 9 c) (by omega) (fun i U k hi hJ hk2 => ?_) T ⟨hk, fun _ _ _ _ => rfl, rfl, fun c hc => by omega⟩
  obtain ⟨kU, fU, u2, cU⟩ := hJ
  have hU := hC.kp kU
  show X7_begin_B2 (nI i) U Q k
  unfold X7_begin_B2
  rw [hU.2.2.2.2.1]
  refine ⟨fun z => ?_, fun z => ?_⟩
  · have := up_end (by omega) hi z
    subst this
    unfold X7_begin_b40
    refine zl_up nr (fun j V => zKp S V ∧ (∀ n, n ≠ 72 → n ≠ 73 → n ≠ 74 → V.1 n = T.1 n) ∧ V.2 = T.2 ∧ (∀ c, c < i → V.1 72 c = S.1 8 c ∧ V.1 73 c = S.1 9 c) ∧ ∀ r, r < j → V.1 74 r = S.1 11 r) (by omega) (fun j V k3 hj hJ3 hk3 => ?_) U ⟨kU, fU, u2, cU, fun r hr => by omega⟩
    obtain ⟨kV, fV, v2, cV, rV⟩ := hJ3
    have hV := hC.kp kV
    show X7_begin_B42 (nI j) V Q k3
    unfold X7_begin_B42 X7_begin_b68
    rw [hV.2.2.2.2.2.1]
    refine ⟨fun z => ?_, fun z => ?_⟩
    · have := up_end (by omega) hj z
      subst this
      exact q V kV fV v2 cV rV
    · have hlt := up_on (by omega) hj z
      have hv : vp_in (nI j) 8 := vp_in_nI (by omega) (by omega)
      rw [nI_clamp (by omega)]
      refine ⟨hv, hv, fun W eW w ew => ?_⟩
      rw [nI_1] at ew
      subst ew
      have e65 : V.1 65 j = S.1 11 j := by rw [(hV.2.2.2.2.2.2.2.1 j hlt).1, kV.1 11 rfl]
      refine hk3 hlt W ⟨by rw [eW]; exact kV.u rfl (by decide), fun n a b c => by rw [eW, zu_ne c]; exact fV n a b c, by rw [eW]; exact v2, fun c hc => by rw [eW, zu_ne (by decide), zu_ne (by decide)]; exact cV c hc, fun r hr => ?_⟩
      rw [eW, zu_at]
      by_cases e : r = j
      · rw [if_pos ⟨rfl, e⟩, e65, e]
      · rw [if_neg (fun z => e z.2)]; exact rV r (by omega)
  · have hlt := up_on (by omega) hi z
    have hv : vp_in (nI i) 10 := vp_in_nI (by omega) (by omega)
    have h7 := hU.2.2.2.2.2.2.1 i hlt
    have e62 : U.1 62 i = S.1 8 i := by rw [h7.1, kU.1 8 rfl]
    have e63 : U.1 63 i = S.1 9 i := by rw [h7.2.1, kU.1 9 rfl]
    rw [nI_clamp (by omega)]
    refine ⟨hv, hv, fun V eV => ⟨hv, hv, fun W eW w ew => ?_⟩⟩
    rw [nI_1] at ew
    subst ew
    have e63' : V.1 63 i = S.1 9 i := by rw [eV, zu_ne (by decide)]; exact e63
    refine hk2 hlt W ⟨by rw [eW, eV]; exact (kU.u rfl (by decide)).u rfl (by decide), fun n a b c => by rw [eW, zu_ne b, eV, zu_ne a]; exact fU n a b c, by rw [eW, eV]; exact u2, fun c hc => ?_⟩
    have c72 : W.1 72 c = if c = i then U.1 62 i else U.1 72 c := by
      rw [eW, zu_ne (by decide), eV, zu_at]
      by_cases e : c = i <;> simp [e]
    have c73 : W.1 73 c = if c = i then V.1 63 i else U.1 73 c := by
      rw [eW, zu_at, eV, zu_ne (by decide : (73 : Nat) ≠ 72)]
      by_cases e : c = i <;> simp [e]
    rw [c72, c73]
    by_cases e : c = i
    · rw [if_pos e, if_pos e, e62, e63', e]; exact ⟨rfl, rfl⟩
    · rw [if_neg e, if_neg e]; exact cU c (by omega)
theorem nI_half {k : Nat} (hk : k < 256) : (nI (2 * k) / (2 : Int32) = nI k ∧ (nI (2 * k) - nI (2 * k) / (2 : Int32) * (2 : Int32)) = 0) ∧ nI (2 * k + 1) / (2 : Int32) = nI k ∧ ¬ (nI (2 * k + 1) - nI (2 * k + 1) / (2 : Int32) * (2 : Int32)) = 0 := by
  have e2 : (2 : Int32) = nI 2 := rfl
  have a1 : nI (2 * k) / (2 : Int32) = nI k := by rw [e2, nI_div (by omega) (by omega)]; congr 1; omega
  have a2 : nI (2 * k + 1) / (2 : Int32) = nI k := by rw [e2, nI_div (by omega) (by omega)]; congr 1; omega
  rw [a1, a2]
  refine ⟨⟨rfl, ?_⟩, rfl, ?_⟩
  · rw [e2, nI_mul, nI_subN (by omega), show 2 * k - k * 2 = 0 by omega]; rfl
  · rw [e2, nI_mul, nI_subN (by omega), show 2 * k + 1 - k * 2 = 1 by omega]; decide
theorem x7_byFlows {nc nr : Nat} {s : Nat → Int} {M : Nat → Nat} {S T : ZS} {Q : Int32 → ZS → Prop} (hC : zC S nc nr) (hfl : flw S nc nr s) (hk : zKp S T) (hP : zP nr (cJ (tr (aC S)) nr nc) M) (hG : sG (aC S) nr nc M s)
    (qB : ∀ U, (∀ n, n ≠ 70 → n ≠ 71 → n ≠ 72 → n ≠ 73 → n ≠ 74 → U.1 n = T.1 n) → U.2 = T.2 → rOK S U s nc nr → (∀ c, c < nc → U.1 72 c = S.1 8 c ∧ U.1 73 c = S.1 9 c) → (∀ r, r < nr → U.1 74 r = S.1 11 r) → okF S s nc nr → X7_findLeast U (fun S_43 => X7_improve S_43 (fun S_47 => X7_keepBest S_47 (fun S_51 => X7_findLeast S_51 (fun S_55 => X7_findPrices S_55 (fun S_59 => Q (1 : Int32) S_59))))))
    (q0 : ∀ U k v, zKp S U → (∀ n, n ≠ 70 → n ≠ 71 → n ≠ 72 → n ≠ 73 → n ≠ 74 → n ≠ 61 → U.1 n = T.1 n) → prF S s nc nr k v → U.1 61 13 = nI k → U.1 61 14 = v → (∀ j, j ≠ 13 → j ≠ 14 → U.1 61 j = T.1 61 j) → Q 0 U) : X7_byFlows T Q := by
  have h2 := hC.2.1
  unfold X7_byFlows
  refine x7_begin hC hk (fun T1 k1 f1 t12 c1 r1 => i7k_findSigns hC k1 hP hG (fun T2 q2 _ v71 => ?_))
  have k2 : zKp S T2 := k1.tr (zKp.of (fun n hn => q2.2 n (fun e => by subst e; cases hn) (fun e => by subst e; cases hn)) (q2.2 61 (by decide) (by decide)))
  have e72 : T2.1 72 = T1.1 72 := q2.2 72 (by decide) (by decide)
  have e73 : T2.1 73 = T1.1 73 := q2.2 73 (by decide) (by decide)
  have e74 : T2.1 74 = T1.1 74 := q2.2 74 (by decide) (by decide)
  have hr : rOK S T2 s nc nr := by
    refine ⟨k2, v71, fun c hc => ?_⟩
    have hz := (hC.2.2.2.2.2.2.1 c hc).2.2.2.1
    unfold zok at hz
    unfold loT hiT
    rw [e72, e73, (c1 c hc).1, (c1 c hc).2]
    omega
  have fT : ∀ n, n ≠ 70 → n ≠ 71 → n ≠ 72 → n ≠ 73 → n ≠ 74 → T2.1 n = T.1 n := fun n a b c d e => by rw [q2.2 n a b, f1 n c d e]
  refine x7_firstProof hC hfl hr (fun x hx => ?_)
  have hx2 : fstR (gg S s) (bR S s) s (kap S) nr nc (loc S) (hic S) x := fstR_congr (fun r hr => by unfold kaT kap; rw [e74, r1 r hr]) (fun c hc => by unfold loT hiT loc hic; rw [e72, e73, (c1 c hc).1, (c1 c hc).2]; exact ⟨rfl, rfl⟩) hx
  have fin : ∀ k v, prF S s nc nr k v → ∀ U : ZS, U = zu T2 61 13 (nI k) → X7_byFlows_b37 v U Q := by
    intro k v hpr U eU
    unfold X7_byFlows_b37
    intro V eV
    refine q0 V k v (by rw [eV, eU]; exact (k2.u61 (by decide) (by decide)).u61 (by decide) (by decide)) (fun n a b c d e f => by rw [eV, zu_ne f, eU, zu_ne f]; exact fT n a b c d e) hpr (by rw [eV, zu_at, if_neg (by decide), eU, zu_at, if_pos ⟨rfl, rfl⟩]) (by rw [eV, zu_at, if_pos ⟨rfl, rfl⟩]) (fun j a b => ?_)
    rw [eV, zu_at, if_neg (fun z => b z.2), eU, zu_at, if_neg (fun z => a z.2), fT 61 (by decide) (by decide) (by decide) (by decide) (by decide)]
  rcases hx2 with ⟨e, hno⟩ | ⟨k, ⟨hf, e⟩ | ⟨hf, e⟩⟩
  · rw [e]
    refine ⟨fun _ => qB T2 fT (by rw [q2.1, t12]) hr (fun c hc => by rw [e72, e73]; exact c1 c hc) (fun r hr => by rw [e74]; exact r1 r hr) hno, fun h => absurd rfl h⟩
  · have hk : k < 256 := by have := pow_le h2; have := hf.2.1; omega
    have nh := nI_half hk
    rw [e]
    refine ⟨fun h => absurd h (nI_m1 (by omega)), fun _ => ⟨by decide, fun U eU => ⟨by decide, fun _ => fin k 1 hf U ?_, fun h => absurd nh.1.2 h⟩⟩⟩
    rw [eU, nh.1.1]
  · have hk : k < 256 := by have := pow_le h2; have := hf.2.1; omega
    have nh := nI_half hk
    rw [e]
    refine ⟨fun h => absurd h (nI_m1 (by omega)), fun _ => ⟨by decide, fun U eU => ⟨by decide, fun h => absurd h nh.2.2, fun _ => fin k (-1) hf U ?_⟩⟩⟩
    rw [eU, nh.2.1]
