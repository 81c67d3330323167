/-! that the reference's solve() goes through: flows -/
theorem i7k_flowReason {S T : ZS} {nc nr : Nat} {Q : Int32 → ZS → Prop} {x : Int32} (hC : zC S nc nr) (hp : zKp S T) (hx : fR (aC S) nr nc x) (q : Q x T) : X7_flowReason T Q := by
  have hT := hC.kp hp
  have e67 : T.1 67 = S.1 67 := hp.1 67 rfl
  have eA : aR T = aR S := by unfold aR; rw [e67]
  have hb := hC.bd
  refine x7_flowReason hT.1 hT.2.1 hT.2.2.2.2.1 hT.2.2.2.2.2.1 (fun r c hr hc => by rw [eA]; exact (hb r c hr hc).2) (fun y hy => ?_)
  rw [eA] at hy
  rw [(fR_cA (fun r c hr hc => (hb r c hr hc).1) hy).uniq hx]
  exact q
theorem i7k_findSigns {S T : ZS} {nc nr : Nat} {Q : ZS → Prop} {M : Nat → Nat} {s : Nat → Int} (hC : zC S nc nr) (hp : zKp S T) (hP : zP nr (cJ (tr (aC S)) nr nc) M) (hG : sG (aC S) nr nc M s) (q : ∀ U, zQ2 70 71 T U → (∀ r, r < nr → U.1 70 r = nI (M r)) → (∀ r, r < nr → (U.1 71 r).toInt = s r) → Q U) : X7_findSigns T Q := by
  have hT := hC.kp hp
  have e67 : T.1 67 = S.1 67 := hp.1 67 rfl
  have eA : aR T = aR S := by unfold aR; rw [e67]
  have hb := hC.bd
  have hE : ∀ r c, r < nr → c < nc → aC S r c = aR T r c := fun r c hr hc => by rw [eA]; exact (hb r c hr hc).1.symm
  exact x7_findSigns hT.1 hT.2.1 hT.2.2.2.2.1 hT.2.2.2.2.2.1 (fun r c hr hc => by rw [eA]; exact (hb r c hr hc).2) (hP.congr (fun f => cJ_cA hE f)) (sG_cA hE hG) q
/-- what the reference leaves as it is: all of the class's cells too -/
def kpr (n : Nat) : Bool := decide (n < 61) || (decide (62 ≤ n) && decide (n ≤ 67))
def zKr (S T : ZS) : Prop := (∀ n, kpr n = true → T.1 n = S.1 n) ∧ T.1 61 1 = S.1 61 1 ∧ T.1 61 2 = S.1 61 2
theorem zKr.rf (S : ZS) : zKr S S := ⟨fun _ _ => rfl, rfl, rfl⟩
theorem zKr.tr {S T U : ZS} (h : zKr S T) (g : zKr T U) : zKr S U := ⟨fun n hn => (g.1 n hn).trans (h.1 n hn), g.2.1.trans h.2.1, g.2.2.trans h.2.2⟩
theorem zKr.of {S T : ZS} (h : ∀ n, kpr n = true → T.1 n = S.1 n) (h1 : T.1 61 = S.1 61) : zKr S T := ⟨h, by rw [h1], by rw [h1]⟩
theorem zKr.u {S T : ZS} (h : zKr S T) {n j : Nat} {v : Int32} (hn : kpr n = false) (h61 : n ≠ 61) : zKr S (zu T n j v) := ⟨fun m hm => by rw [zu_ne (fun e => by rw [e, hn] at hm; cases hm)]; exact h.1 m hm, by rw [zu_ne (Ne.symm h61)]; exact h.2.1, by rw [zu_ne (Ne.symm h61)]; exact h.2.2⟩
theorem zKr.u61 {S T : ZS} (h : zKr S T) {j : Nat} {v : Int32} (h1 : j ≠ 1) (h2 : j ≠ 2) : zKr S (zu T 61 j v) := ⟨fun m hm => by rw [zu_ne (fun e => by subst e; cases hm)]; exact h.1 m hm, by rw [zu_at, if_neg (fun w => h1 w.2.symm)]; exact h.2.1, by rw [zu_at, if_neg (fun w => h2 w.2.symm)]; exact h.2.2⟩
theorem zKr.w {S T : ZS} (h : zKr S T) {n j : Nat} {v : Int64} : zKr S (zw T n j v) := h
theorem kpr_kp {n : Nat} (h : kpt n = true) : kpr n = true := by
  unfold kpt at h
  unfold kpr
  simp only [Bool.or_eq_true, Bool.and_eq_true, decide_eq_true_eq] at h ⊢
  omega
theorem zKr.kp {S T : ZS} (h : zKr S T) : zKp S T := ⟨fun n hn => h.1 n (kpr_kp hn), h.2.1, h.2.2⟩
theorem zC.kr {S T : ZS} {nc nr : Nat} (h : zC S nc nr) (hp : zKr S T) : zC T nc nr := h.kp hp.kp
theorem s_begin {nc nr : Nat} {S T : ZS} {Q : ZS → Prop} (hC : zC S nc nr) (hk : zKr S T) (q : ∀ U, zKr S U → Q U) : X7_begin T Q := by
  have h1 := hC.1
  have h2 := hC.2.1
  unfold X7_begin
  refine zl_up nc (fun i U => zKr S U) (by omega) (fun i U k hi hJ hk2 => ?_) T hk
  show X7_begin_B2 (nI i) U Q k
  unfold X7_begin_B2
  rw [(hC.kr hJ).2.2.2.2.1]
  refine ⟨fun _ => ?_, fun z => ?_⟩
  · unfold X7_begin_b40
    refine zl_up nr (fun j V => zKr S V) (by omega) (fun j V k3 hj hJ3 hk3 => ?_) U hJ
    show X7_begin_B42 (nI j) V Q k3
    unfold X7_begin_B42 X7_begin_b68
    rw [(hC.kr hJ3).2.2.2.2.2.1]
    refine ⟨fun _ => q V hJ3, fun z => ?_⟩
    have hlt := up_on (by omega) hj z
    have hv : vp_in (nI j) 8 := vp_in_nI (by omega) (by omega)
    refine ⟨hv, hv, fun W eW w ew => ?_⟩
    rw [nI_1] at ew
    subst ew
    subst eW
    exact hk3 hlt _ (hJ3.u rfl (by decide))
  · have hlt := up_on (by omega) hi z
    have hv : vp_in (nI i) 10 := vp_in_nI (by omega) (by omega)
    refine ⟨hv, hv, fun V eV => ⟨hv, hv, fun W eW w ew => ?_⟩⟩
    rw [nI_1] at ew
    subst ew
    subst eV
    subst eW
    exact hk2 hlt _ ((hJ.u rfl (by decide)).u rfl (by decide))
theorem s_shows {nc nr : Nat} {y1 y2 : Int32} {S : ZS} {Q : Int32 → ZS → Prop} (hC : zC S nc nr) (q : ∀ v, Q v S) : X7_shows y1 y2 S Q := by
  have h1 := hC.1
  have h2 := hC.2.1
  have h5 := hC.2.2.2.2.1
  have h6 := hC.2.2.2.2.2.1
  unfold X7_shows
  refine zl_up2 nr (fun i x T => T = S) (by omega) (fun i x T k hi hJ hk => ?_) 0 S rfl
  subst hJ
  show X7_shows_B5 y1 y2 x (nI i) T Q k
  unfold X7_shows_B5
  rw [h6]
  refine ⟨fun _ => ?_, fun z => ?_⟩
  · unfold X7_shows_b78
    refine zl_up2 nc (fun j u U => U = T) (by omega) (fun j u U k3 hj hJ hk3 => ?_) 0 T rfl
    subst hJ
    show X7_shows_B84 y1 y2 x u (nI j) U Q k3
    unfold X7_shows_B84 X7_shows_b189 X7_shows_b201
    rw [h5]
    refine ⟨fun _ => ⟨fun _ => ⟨Or.inl rfl, q 0⟩, fun _ => ⟨Or.inr rfl, q 1⟩⟩, fun z => ?_⟩
    have hjl := up_on (by omega) hj z
    have hvj : vp_in (nI j) 10 := vp_in_nI (by omega) (by omega)
    refine zl_up2 nr (fun r u2 V => V = U) (by omega) (fun r u2 V k4 hr hJ hk4 => ?_) 0 U rfl
    subst hJ
    show X7_shows_B99 y1 y2 x u (nI j) u2 (nI r) V Q k3 k4
    unfold X7_shows_B99
    rw [h6]
    refine ⟨fun _ => ?_, fun z2 => ?_⟩
    · have b178 : ∀ (t0 : Int32) (t1 t2 : Int64), X7_shows_b178 y1 y2 x (nI j) t0 t1 t2 V Q k3 := by
        intro t0 t1 t2
        unfold X7_shows_b178
        intro u' _ w ew
        rw [nI_1] at ew
        subst ew
        exact hk3 hjl _ _ rfl
      unfold X7_shows_b151
      exact ⟨fun _ => ⟨hvj, b178 _ _ _⟩, fun _ => ⟨hvj, b178 _ _ _⟩⟩
    · have hrl := up_on (by omega) hr z2
      have b142 : ∀ t0 t1 : Int32, X7_shows_b142 y1 y2 x u (nI j) (nI r) t0 t1 V Q k3 k4 := by
        intro t0 t1
        unfold X7_shows_b142
        intro u' _ w ew
        rw [nI_1] at ew
        subst ew
        exact hk4 hrl _ _ rfl
      exact ⟨fun _ => x7_coef (by omega) (by omega) ⟨vp_in_nI (by omega) (by omega), b142 _ _⟩, fun _ => b142 _ _⟩
  · have hlt := up_on (by omega) hi z
    have hvi : vp_in (nI i) 8 := vp_in_nI (by omega) (by omega)
    have b72 : ∀ u : Int64, X7_shows_b72 y1 y2 u (nI i) T Q k := by
      intro u
      unfold X7_shows_b72
      intro w ew
      rw [nI_1] at ew
      subst ew
      exact hk hlt _ _ rfl
    have b49 : X7_shows_b49 y1 y2 x (nI i) T Q k := by
      unfold X7_shows_b49
      exact ⟨hvi, hvi, fun u _ => b72 u⟩
    unfold X7_shows_b47
    exact ⟨fun _ => ⟨hvi, fun _ => ⟨hvi, fun _ => b49, fun _ => ⟨Or.inl rfl, q 0⟩⟩, fun _ => b49⟩, fun _ => b72 _⟩
theorem s_firstProof {nc nr : Nat} {S : ZS} {Q : Int32 → ZS → Prop} (hC : zC S nc nr) (q : ∀ v, Q v S) : X7_firstProof S Q := by
  have h2 := hC.2.1
  have hp := pow_le h2
  have hp0 : 0 < 2 ^ nr := Nat.two_pow_pos nr
  unfold X7_firstProof
  refine zl_cf (fun s => s.1) (2 ^ nr) 1 (fun i s => s.2 = S) (by omega) (fun i s k hi1 hi ec hJ hk2 => ?_) _ (by omega) rfl rfl
  obtain ⟨x, U⟩ := s
  dsimp only at ec hJ
  subst ec
  subst hJ
  show X7_firstProof_B2 (nI i) U Q k
  unfold X7_firstProof_B2 X7_firstProof_b46 X7_firstProof_b34 X7_firstProof_b21
  rw [hC.2.2.2.2.2.1, two_pow nr h2]
  refine ⟨fun _ => q _, fun z => ?_⟩
  have hlt := up_onG (by omega) hi z
  refine s_shows hC (fun v => ⟨fun _ => s_shows hC (fun w => ⟨fun _ y ey => ?_, fun _ => q _⟩), fun _ => q _⟩)
  rw [nI_1] at ey
  subst ey
  exact hk2 hlt _ rfl rfl
theorem s_findLeast {nc nr : Nat} {S T : ZS} {Q : ZS → Prop} (hC : zC S nc nr) (hk : zKr S T) (q : ∀ U, zKr S U → Q U) : X7_findLeast T Q := by
  have h1 := hC.1
  unfold X7_findLeast
  refine zl_up nc (fun i U => zKr S U) (by omega) (fun i U k hi hJ hk2 => ?_) T hk
  show X7_findLeast_B2 (nI i) U Q k
  unfold X7_findLeast_B2 X7_findLeast_b130
  rw [(hC.kr hJ).2.2.2.2.1]
  refine ⟨fun _ => q U hJ, fun z => ?_⟩
  have hlt := up_on (by omega) hi z
  have hvi : vp_in (nI i) 10 := vp_in_nI (by omega) (by omega)
  refine ⟨hvi, fun x2 _ => ⟨hvi, fun x3 _ => ?_⟩⟩
  refine zl_up3 12 (fun j x y V => zKr S V) (by omega) (fun j x y V k3 hj hJ3 hk3 => ?_) x2 x3 U hJ
  show X7_findLeast_B27 (nI i) x y (nI j) V Q k k3
  have out : X7_findLeast_b103 (nI i) y V Q k := by
    unfold X7_findLeast_b103
    refine ⟨hvi, fun W1 e1 => ⟨hvi, fun W2 e2 => ⟨hvi, fun W3 e3 w ew => ?_⟩⟩⟩
    rw [nI_1] at ew
    subst ew
    subst e1
    subst e2
    subst e3
    exact hk2 hlt _ (((hJ3.u rfl (by decide)).u rfl (by decide)).u rfl (by decide))
  unfold X7_findLeast_B27
  refine ⟨fun _ => out, fun z2 => ⟨fun _ => out, fun _ => ⟨by decide, fun x5 _ => ⟨hvi, fun W eW => ?_⟩⟩⟩⟩
  have hjl := up_onG (n := 12) (by omega) hj z2
  subst eW
  have kW : zKr S (zu V 73 (nI i).toNatClampNeg x5) := hJ3.u rfl (by decide)
  have nx : ∀ a b w : Int32, w = nI j + 1 → k3 (a, b, w, zu V 73 (nI i).toNatClampNeg x5) := by
    intro a b w ew
    rw [nI_1] at ew
    subst ew
    exact hk3 hjl _ _ _ kW
  have b69 : ∀ t : Int32, X7_findLeast_b69 (nI i) x y (nI j) x5 t (zu V 73 (nI i).toNatClampNeg x5) Q k k3 := by
    intro t
    unfold X7_findLeast_b69 X7_findLeast_b84 X7_findLeast_b96
    exact ⟨fun _ => ⟨fun _ w ew => nx _ _ w ew, fun _ w ew => nx _ _ w ew⟩, fun _ => ⟨fun _ w ew => nx _ _ w ew, fun _ w ew => nx _ _ w ew⟩⟩
  exact s_firstProof (hC.kr kW) (fun v => ⟨fun _ => b69 1, fun _ => b69 0⟩)
/-- edges -/
def eE (T : ZS) (n : Nat) (P : Int32 → Prop) : Prop := T.1 61 20 = nI n ∧ ∀ e, e < n → nod (T.1 75 e) ∧ nod (T.1 76 e) ∧ P (T.1 78 e)
theorem eE.u {T : ZS} {n a j : Nat} {v : Int32} {P : Int32 → Prop} (h : eE T n P) (h1 : a ≠ 61) (h5 : a ≠ 75) (h6 : a ≠ 76) (h8 : a ≠ 78) : eE (zu T a j v) n P := by
  refine ⟨by rw [zu_ne (Ne.symm h1)]; exact h.1, fun e he => ?_⟩
  rw [zu_ne (Ne.symm h5), zu_ne (Ne.symm h6), zu_ne (Ne.symm h8)]
  exact h.2 e he
theorem eE.w {T : ZS} {n a j : Nat} {v : Int64} {P : Int32 → Prop} (h : eE T n P) : eE (zw T a j v) n P := h
theorem s_edge {n : Nat} {y1 y2 y5 : Int32} {y3 : Int64} {S T : ZS} {Q : ZS → Prop} {P : Int32 → Prop} (hk : zKr S T) (hE : eE T n P) (hn : n < 60) (n1 : nod y1) (n2 : nod y2) (p5 : P y5) (q : ∀ U, zKr S U → eE U (n + 1) P → Q U) : X7_edge y1 y2 y3 y5 T Q := by
  have hv : vp_in (nI n) 60 := vp_in_nI (by omega) (by omega)
  unfold X7_edge
  rw [hE.1]
  refine ⟨hv, fun T1 e1 => ?_⟩
  rw [nI_clamp (by omega)] at e1
  have a1 : T1.1 61 20 = nI n := by rw [e1, zu_ne (by decide)]; exact hE.1
  rw [a1]
  refine ⟨hv, fun T2 e2 => ?_⟩
  rw [nI_clamp (by omega)] at e2
  have a2 : T2.1 61 20 = nI n := by rw [e2, zu_ne (by decide)]; exact a1
  rw [a2]
  refine ⟨hv, fun T3 e3 => ?_⟩
  have a3 : T3.1 = T2.1 := by rw [e3]; rfl
  have a3' : T3.1 61 20 = nI n := by rw [a3]; exact a2
  rw [a3']
  refine ⟨hv, fun T4 e4 T5 e5 => ?_⟩
  rw [nI_clamp (by omega)] at e4
  have a4 : T4.1 61 20 = nI n := by rw [e4, zu_ne (by decide)]; exact a3'
  rw [a4, nI_1] at e5
  have k3 : zKr S T3 := by rw [e3]; rw [e2, e1]; exact ((hk.u rfl (by decide)).u rfl (by decide)).w
  refine q T5 (by rw [e5, e4]; exact (k3.u rfl (by decide)).u61 (by decide) (by decide)) ⟨by rw [e5, zu_at, if_pos ⟨rfl, rfl⟩], fun e he => ?_⟩
  have c75 : T5.1 75 e = if e = n then y1 else T.1 75 e := by
    rw [e5, zu_ne (by decide), e4, zu_ne (by decide), a3, e2, zu_ne (by decide), e1, zu_at]
    by_cases w : e = n <;> simp [w]
  have c76 : T5.1 76 e = if e = n then y2 else T.1 76 e := by
    rw [e5, zu_ne (by decide), e4, zu_ne (by decide), a3, e2, zu_at, e1, zu_ne (by decide)]
    by_cases w : e = n <;> simp [w]
  have c78 : T5.1 78 e = if e = n then y5 else T.1 78 e := by
    rw [e5, zu_ne (by decide), e4, zu_at, a3, e2, zu_ne (by decide), e1, zu_ne (by decide)]
    by_cases w : e = n <;> simp [w]
  rw [c75, c76, c78]
  by_cases w : e = n
  · rw [if_pos w, if_pos w, if_pos w]; exact ⟨n1, n2, p5⟩
  · rw [if_neg w, if_neg w, if_neg w]; exact hE.2 e (by omega)
theorem s_endOf {nc nr c : Nat} {y2 : Int32} {S : ZS} {Q : Int32 → ZS → Prop} (hC : zC S nc nr) (hc : c < nc) (q : ∀ v, nod v → Q v S) : X7_endOf (nI c) y2 S Q := by
  have h1 := hC.1
  have h2 := hC.2.1
  have h6 := hC.2.2.2.2.2.1
  unfold X7_endOf
  intro x3 e3
  refine zl_up2 nr (fun i x T => T = S ∧ nod x) (by omega) (fun i x T k hi hJ hk => ?_) x3 S ⟨rfl, by rw [e3, h6]; exact nod_nI (by omega)⟩
  obtain ⟨rfl, hx⟩ := hJ
  show X7_endOf_B8 (nI c) y2 x (nI i) T Q k
  unfold X7_endOf_B8 X7_endOf_b49 X7_endOf_b42
  rw [h6]
  refine ⟨fun _ => q x hx, fun z => ?_⟩
  have hlt := up_on (by omega) hi z
  have nx : ∀ v w : Int32, nod v → w = nI i + 1 → k (v, w, T) := by
    intro v w hv ew
    rw [nI_1] at ew
    subst ew
    exact hk hlt _ _ ⟨rfl, hv⟩
  exact x7_coef (by omega) (by omega) ⟨vp_in_nI (by omega) (by omega), fun _ w ew => nx _ w (nod_nI (by omega)) ew, fun _ w ew => nx _ w hx ew⟩
theorem s_sumOf {nc nr r : Nat} {S : ZS} {Q : Int64 → ZS → Prop} (hC : zC S nc nr) (hr : r < 8) (q : ∀ v, Q v S) : X7_sumOf (nI r) S Q := by
  have h1 := hC.1
  have h5 := hC.2.2.2.2.1
  unfold X7_sumOf
  refine zl_up2 nc (fun i x T => T = S) (by omega) (fun i x T k hi hJ hk => ?_) 0 S rfl
  subst hJ
  show X7_sumOf_B5 (nI r) x (nI i) T Q k
  unfold X7_sumOf_B5 X7_sumOf_b40
  rw [h5]
  refine ⟨fun _ => q x, fun z => ?_⟩
  have hlt := up_on (by omega) hi z
  refine x7_coef (by omega) (by omega) ⟨vp_in_nI (by omega) (by omega), fun u _ w ew => ?_⟩
  rw [nI_1] at ew
  subst ew
  exact hk hlt _ _ rfl
/-- what an edge is of -/
def eo (x : Int32) : Prop := (∃ r : Nat, r < 8 ∧ x.toInt = 100 + (r : Int)) ∨ (∃ r : Nat, r < 8 ∧ x.toInt = -100 - (r : Int)) ∨ (∃ c : Nat, c < 10 ∧ x.toInt = (c : Int) + 1) ∨ ∃ c : Nat, c < 10 ∧ x.toInt = -(c : Int) - 1
theorem s_findEdges {nc nr : Nat} {S T : ZS} {Q : ZS → Prop} (hC : zC S nc nr) (hk : zKr S T) (q : ∀ U n, n ≤ 36 → zKr S U → eE U n eo → Q U) : X7_findEdges T Q := by
  have h1 := hC.1
  have h2 := hC.2.1
  have c1 : (1 : Int32).toInt = 1 := by decide
  have c100 : (100 : Int32).toInt = 100 := by decide
  have cm100 : (-100 : Int32).toInt = -100 := by decide
  unfold X7_findEdges
  intro T1 e1
  subst e1
  refine zl_up nc (fun i U => zKr S U ∧ ∃ n, n ≤ 2 * i ∧ eE U n eo) (by omega) (fun i U k hi hJ hk2 => ?_) _ ⟨hk.u61 (by decide) (by decide), 0, by omega, by rw [zu_at, if_pos ⟨rfl, rfl⟩]; rfl, fun e he => by omega⟩
  obtain ⟨kU, n, hn, eU⟩ := hJ
  have hU := hC.kr kU
  show X7_findEdges_B7 (nI i) U Q k
  unfold X7_findEdges_B7
  rw [hU.2.2.2.2.1]
  refine ⟨fun _ => ?_, fun z => ?_⟩
  · unfold X7_findEdges_b99
    refine zl_up nr (fun r V => zKr S V ∧ ∃ n, n ≤ 20 + 2 * r ∧ eE V n eo) (by omega) (fun r V k3 hr hJ3 hk3 => ?_) U ⟨kU, n, by omega, eU⟩
    obtain ⟨kV, n2, hn2, eV⟩ := hJ3
    have hV := hC.kr kV
    show X7_findEdges_B101 (nI r) V Q k3
    unfold X7_findEdges_B101 X7_findEdges_b200
    rw [hV.2.2.2.2.2.1]
    refine ⟨fun _ => q V n2 (by omega) kV eV, fun z2 => ?_⟩
    have hrl := up_on (by omega) hr z2
    have hvr : vp_in (nI r) 8 := vp_in_nI (by omega) (by omega)
    have er : (nI r).toInt = r := nI_toInt (by omega)
    have nx : ∀ W m, m ≤ n2 + 2 → zKr S W → eE W m eo → X7_findEdges_b194 (nI r) W Q k3 := by
      intro W m hm kW eW
      unfold X7_findEdges_b194
      intro w ew
      rw [nI_1] at ew
      subst ew
      exact hk3 hrl W ⟨kW, m, by omega, eW⟩
    have b155 : ∀ x2 t0 : Int32, nod x2 → nod t0 → X7_findEdges_b155 (nI r) x2 t0 V Q k3 := by
      intro x2 t0 m2 m0
      unfold X7_findEdges_b155
      refine s_edge kV eV (by omega) m0 m2 (Or.inl ⟨r, by omega, by rw [i_add (by rw [c100, er]; omega) (by rw [c100, er]; omega), c100, er]⟩) (fun W kW eW => ?_)
      refine s_sumOf (hC.kr kW) (by omega) (fun v => ⟨hvr, fun _ => nx W _ (by omega) kW eW, fun _ => ?_⟩)
      exact s_edge kW eW (by omega) m2 m0 (Or.inr (Or.inl ⟨r, by omega, by rw [i_sub (by rw [cm100, er]; omega) (by rw [cm100, er]; omega), cm100, er]⟩)) (fun Y kY eY => nx Y _ (by omega) kY eY)
    have nr0 : nod (nI r) := nod_nI (by omega)
    have nn : nod (nI nr) := nod_nI (by omega)
    have b136 : ∀ t0 : Int32, nod t0 → X7_findEdges_b136 (nI r) t0 V Q k3 := by
      intro t0 m0
      unfold X7_findEdges_b136
      rw [hV.2.2.2.2.2.1]
      exact ⟨hvr, fun _ => b155 _ _ m0 nn, fun _ => b155 _ _ m0 nr0⟩
    exact ⟨hvr, fun _ => ⟨hvr, fun _ => b136 _ nr0, fun _ => b136 _ nn⟩, fun _ => nx V n2 (by omega) kV eV⟩
  · have hlt := up_on (by omega) hi z
    have hvi : vp_in (nI i) 10 := vp_in_nI (by omega) (by omega)
    have ei : (nI i).toInt = i := nI_toInt (by omega)
    refine s_endOf hU hlt (fun a ha => s_endOf hU hlt (fun b hb => ?_))
    have nx : ∀ W m, m ≤ n + 2 → zKr S W → eE W m eo → X7_findEdges_b93 (nI i) W Q k := by
      intro W m hm kW eW
      unfold X7_findEdges_b93
      intro w ew
      rw [nI_1] at ew
      subst ew
      exact hk2 hlt W ⟨kW, m, by omega, eW⟩
    have en : (-(nI i)).toInt = -(i : Int) := by rw [i_neg (by rw [ei]; omega), ei]
    have b60 : ∀ W m, m ≤ n + 1 → zKr S W → eE W m eo → X7_findEdges_b60 (nI i) a b W Q k := by
      intro W m hm kW eW
      unfold X7_findEdges_b60
      refine ⟨hvi, hvi, fun _ => nx W m (by omega) kW eW, fun _ => ⟨hvi, ?_⟩⟩
      exact s_edge kW eW (by omega) ha hb (Or.inr (Or.inr (Or.inr ⟨i, by omega, by rw [i_sub (by rw [en, c1]; omega) (by rw [en, c1]; omega), en, c1]⟩))) (fun Y kY eY => nx Y _ (by omega) kY eY)
    refine ⟨hvi, hvi, fun _ => b60 U n (by omega) kU eU, fun _ => ⟨hvi, ?_⟩⟩
    exact s_edge kU eU (by omega) hb ha (Or.inr (Or.inr (Or.inl ⟨i, by omega, by rw [i_add (by rw [ei, c1]; omega) (by rw [ei, c1]; omega), ei, c1]⟩))) (fun Y kY eY => b60 Y _ (by omega) kY eY)
def bY (T : ZS) (n : Nat) : Prop := ∀ v, v ≤ 8 → ∃ e, e < n ∧ T.1 80 v = nI e
theorem s_spread {nc nr n : Nat} {S T : ZS} {Q : Int32 → ZS → Prop} {P : Int32 → Prop} (hC : zC S nc nr) (hk : zKr S T) (hn : n ≤ 60) (hE : eE T n P) (q : ∀ v U, (v = -1 ∨ ∃ e, e < n ∧ v = nI e) → zKr S U → eE U n P → (bY T n → bY U n) → Q v U) : X7_spread T Q := by
  have h2 := hC.2.1
  unfold X7_spread
  refine zl_up2 (nr + 2) (fun i x U => (x = -1 ∨ ∃ e, e < n ∧ x = nI e) ∧ zKr S U ∧ eE U n P ∧ (bY T n → bY U n)) (by omega) (fun i x U k hi hJ hk2 => ?_) (-1) T ⟨Or.inl rfl, hk, hE, id⟩
  obtain ⟨hx, kU, eU, bU⟩ := hJ
  show X7_spread_B4 x (nI i) U Q k
  unfold X7_spread_B4 X7_spread_b120
  rw [(hC.kr kU).2.2.2.2.2.1, nI_1, nI_ltI (by omega) (by omega)]
  refine ⟨fun _ => q x U hx kU eU bU, fun z => ?_⟩
  refine zl_up2 n (fun e y V => (y = -1 ∨ ∃ e, e < n ∧ y = nI e) ∧ zKr S V ∧ eE V n P ∧ (bY T n → bY V n)) (by omega) (fun e y V k3 he hJ3 hk3 => ?_) (-1) U ⟨Or.inl rfl, kU, eU, bU⟩
  obtain ⟨hy, kV, eV, bV⟩ := hJ3
  show X7_spread_B18 (nI i) y (nI e) V Q k k3
  unfold X7_spread_B18 X7_spread_b114
  rw [eV.1]
  refine ⟨fun _ w ew => ?_, fun z2 => ?_⟩
  · rw [nI_1] at ew
    subst ew
    exact hk2 (by omega) _ _ ⟨hy, kV, eV, bV⟩
  · have hel := up_onG (by omega) he z2
    have hve : vp_in (nI e) 60 := vp_in_nI (by omega) (by omega)
    have nn := eV.2 e hel
    have nx : ∀ (x' : Int32) (W : ZS), (x' = -1 ∨ ∃ e, e < n ∧ x' = nI e) → zKr S W → eE W n P → (bY T n → bY W n) → X7_spread_b108 x' (nI i) (nI e) W Q k k3 := by
      intro x' W hx' kW eW bW
      unfold X7_spread_b108
      intro w ew
      rw [nI_1] at ew
      subst ew
      exact hk3 hel _ _ ⟨hx', kW, eW, bW⟩
    rw [nI_clamp (by omega)]
    refine ⟨hve, nn.1.v, hve, fun x4 _ => ⟨hve, nn.1.v, fun _ => nx y V hy kV eV bV, fun _ => ⟨hve, nn.2.1.v, fun _ => nx y V hy kV eV bV, fun _ => ⟨hve, nn.2.1.v, fun W eW => ?_⟩⟩⟩⟩
    have w1 : W.1 = V.1 := by rw [eW]; rfl
    rw [w1]
    refine ⟨hve, nn.2.1.v, fun Y eY => ?_⟩
    subst eY
    have kW : zKr S W := by rw [eW]; exact kV.w
    have eW2 : eE W n P := by rw [eW]; exact eV.w
    refine nx (nI e) _ (Or.inr ⟨e, hel, rfl⟩) (kW.u rfl (by decide)) (eW2.u (by decide) (by decide) (by decide) (by decide)) (fun hb v hv => ?_)
    rw [zu_at]
    by_cases w : v = (V.1 76 e).toNatClampNeg
    · rw [if_pos ⟨rfl, w⟩]; exact ⟨e, hel, rfl⟩
    · rw [if_neg (fun z => w z.2), w1]; exact bV hb v hv
theorem s_nothingFar {S T : ZS} {Q : ZS → Prop} {n : Nat} {P : Int32 → Prop} (hk : zKr S T) (hE : eE T n P) (q : ∀ U, zKr S U → eE U n P → (∀ v, v ≤ 8 → U.1 80 v = 0) → Q U) : X7_nothingFar T Q := by
  unfold X7_nothingFar
  refine zl_up 9 (fun i U => zKr S U ∧ eE U n P ∧ ∀ v, v < i → U.1 80 v = 0) (by omega) (fun i U k hi hJ hk2 => ?_) T ⟨hk, hE, fun v hv => by omega⟩
  obtain ⟨kU, eU, bU⟩ := hJ
  show X7_nothingFar_B2 (nI i) U Q k
  unfold X7_nothingFar_B2 X7_nothingFar_b28
  refine ⟨fun z => ?_, fun z => ?_⟩
  · have := up_end (n := 9) (by omega) hi z
    exact q U kU eU (fun v hv => bU v (by omega))
  · have hlt := up_on (n := 9) (by omega) hi z
    have hvi : vp_in (nI i) 9 := vp_in_nI (by omega) (by omega)
    refine ⟨hvi, fun V eV => ⟨hvi, fun W eW w ew => ?_⟩⟩
    rw [nI_1] at ew
    rw [nI_clamp (by omega)] at eW
    subst ew
    have kV : zKr S V := by rw [eV]; exact kU.w
    have eV2 : eE V n P := by rw [eV]; exact eU.w
    have v1 : V.1 = U.1 := by rw [eV]; rfl
    subst eW
    refine hk2 hlt _ ⟨kV.u rfl (by decide), eV2.u (by decide) (by decide) (by decide) (by decide), fun v hv => ?_⟩
    rw [zu_at]
    by_cases e : v = i
    · rw [if_pos ⟨rfl, e⟩]
    · rw [if_neg (fun w => e w.2), v1]; exact bU v (by omega)
theorem v_of {x : Int32} {n k : Nat} (h : x.toInt = k) (hk : k < n) (hn : n < 2 ^ 31) : vp_in x n ∧ x = nI k := by
  have e : x = nI k := by rw [i_eq, nI_toInt (by omega)]; exact h
  exact ⟨by rw [e]; exact vp_in_nI (by omega) (by omega), e⟩
theorem s_roomOf {nc nr n e : Nat} {S : ZS} {Q : Int64 → ZS → Prop} (hC : zC S nc nr) (hn : n ≤ 60) (hE : eE S n eo) (he : e < n) (q : ∀ v, Q v S) : X7_roomOf (nI e) S Q := by
  have c1 : (1 : Int32).toInt = 1 := by decide
  have c0 : (0 : Int32).toInt = 0 := by decide
  have c100 : (100 : Int32).toInt = 100 := by decide
  have cm100 : (-100 : Int32).toInt = -100 := by decide
  unfold X7_roomOf X7_roomOf_b90
  refine ⟨vp_in_nI (by omega) (by omega), fun x ex => ?_⟩
  have hx : eo x := by rw [ex, nI_clamp (by omega)]; exact (hE.2 e he).2.2
  have hr : -110 < x.toInt ∧ x.toInt < 110 := by
    rcases hx with ⟨r, h1, h2⟩ | ⟨r, h1, h2⟩ | ⟨r, h1, h2⟩ | ⟨r, h1, h2⟩ <;> omega
  have en : (-x).toInt = -x.toInt := i_neg (by omega)
  rw [i_lt, i_lt, i_le, c100, cm100, c0]
  refine ⟨fun g => ⟨fun g2 => ⟨fun g3 => ?_, fun g3 => ?_⟩, fun g2 => ?_⟩, fun _ => q _⟩
  · have hv : vp_in ((-x) - (1 : Int32)) 10 := by
      rcases hx with ⟨r, h1, h2⟩ | ⟨r, h1, h2⟩ | ⟨r, h1, h2⟩ | ⟨r, h1, h2⟩
      · omega
      · omega
      · omega
      · exact (v_of (k := r) (by rw [i_sub (by rw [en, c1]; omega) (by rw [en, c1]; omega), en, c1]; omega) h1 (by omega)).1
    exact ⟨hv, hv, q _⟩
  · have hv : vp_in (x - (1 : Int32)) 10 := by
      rcases hx with ⟨r, h1, h2⟩ | ⟨r, h1, h2⟩ | ⟨r, h1, h2⟩ | ⟨r, h1, h2⟩
      · omega
      · omega
      · exact (v_of (k := r) (by rw [i_sub (by rw [c1]; omega) (by rw [c1]; omega), c1]; omega) h1 (by omega)).1
      · omega
    exact ⟨hv, hv, q _⟩
  · have hv : ∃ r, r < 8 ∧ ((-x) - (100 : Int32)) = nI r := by
      rcases hx with ⟨r, h1, h2⟩ | ⟨r, h1, h2⟩ | ⟨r, h1, h2⟩ | ⟨r, h1, h2⟩
      · omega
      · exact ⟨r, h1, (v_of (n := 8) (k := r) (by rw [i_sub (by rw [en, c100]; omega) (by rw [en, c100]; omega), en, c100]; omega) h1 (by omega)).2⟩
      · omega
      · omega
    obtain ⟨r, h1, h2⟩ := hv
    rw [h2]
    exact ⟨vp_in_nI (by omega) (by omega), s_sumOf hC h1 (fun v => q _)⟩
theorem s_turn {nc nr n e : Nat} {S T : ZS} {Q : ZS → Prop} (hC : zC S nc nr) (hk : zKr S T) (hn : n ≤ 60) (hE : eE T n eo) (hB : bY T n) (he : e < n) (q : ∀ U, zKr S U → Q U) : X7_turn (nI e) T Q := by
  have h2 := hC.2.1
  have c1 : (1 : Int32).toInt = 1 := by decide
  have c0 : (0 : Int32).toInt = 0 := by decide
  have c100 : (100 : Int32).toInt = 100 := by decide
  have cm100 : (-100 : Int32).toInt = -100 := by decide
  -- a step back
  have back : ∀ (x : Int32) (U : ZS), U.1 75 = T.1 75 → U.1 80 = T.1 80 → nod x → vp_in x 9 ∧ (∃ e', e' < n ∧ U.1 80 x.toNatClampNeg = nI e') ∧ nod (U.1 75 (U.1 80 x.toNatClampNeg).toNatClampNeg) := by
    intro x U a b hx
    refine ⟨hx.v, ?_⟩
    obtain ⟨u, hu, rfl⟩ := hx
    rw [nI_clamp (by omega), a, b]
    obtain ⟨e', h1, h3⟩ := hB u hu
    refine ⟨⟨e', h1, h3⟩, ?_⟩
    rw [h3, nI_clamp (by omega)]
    exact (hE.2 e' h1).1
  have v60 : ∀ x : Int32, (∃ e', e' < n ∧ x = nI e') → vp_in x 60 := fun x ⟨e', h1, h3⟩ => by rw [h3]; exact vp_in_nI (by omega) (by omega)
  unfold X7_turn
  refine ⟨vp_in_nI (by omega) (by omega), fun x ex => ?_⟩
  have nx : nod x := by rw [ex, nI_clamp (by omega)]; exact (hE.2 e he).2.1
  refine zl_up2 (nr + 2) (fun i y U => U = T ∧ nod y) (by omega) (fun i y U k hi hJ hk2 => ?_) x T ⟨rfl, nx⟩
  obtain ⟨rfl, hy⟩ := hJ
  show X7_turn_B9 y (nI i) U Q k
  unfold X7_turn_B9
  have h6 := (hC.kr hk).2.2.2.2.2.1
  rw [h6, nI_1, nI_ltI (by omega) (by omega)]
  refine ⟨fun _ => ?_, fun z => ?_⟩
  · unfold X7_turn_b37
    refine zl_up3 (nr + 1) (fun j y2 r V => V = U ∧ nod y2) (by omega) (fun j y2 r V k3 hj hJ3 hk3 => ?_) y 1000000000000 U ⟨rfl, hy⟩
    obtain ⟨rfl, hy2⟩ := hJ3
    show X7_turn_B47 y y2 r (nI j) V Q k3
    unfold X7_turn_B47
    rw [h6, nI_ltI (by omega) (by omega)]
    have fin : X7_turn_b111 r y V Q := by
      unfold X7_turn_b111
      refine zl_up2 (nr + 1) (fun t y3 W => zKr S W ∧ nod y3 ∧ W.1 75 = V.1 75 ∧ W.1 80 = V.1 80 ∧ W.1 78 = V.1 78) (by omega) (fun t y3 W k4 ht hJ4 hk4 => ?_) y V ⟨hk, hy, rfl, rfl, rfl⟩
      obtain ⟨kW, hy3, w75, w80, w78⟩ := hJ4
      show X7_turn_B117 r y y3 (nI t) W Q k4
      unfold X7_turn_B117 X7_turn_b224
      rw [(hC.kr kW).2.2.2.2.2.1, nI_ltI (by omega) (by omega)]
      have go : ¬ nr < t → X7_turn_b137 y3 r y (nI t) W Q k4 := by
        intro z3
        obtain ⟨b1, b2, b3⟩ := back y3 W w75 w80 hy3
        have b206 : ∀ Y, zKr S Y → Y.1 75 = V.1 75 → Y.1 80 = V.1 80 → Y.1 78 = V.1 78 → X7_turn_b206 y3 r y (nI t) Y Q k4 := by
          intro Y kY y75 y80 y78
          obtain ⟨d1, d2, d3⟩ := back y3 Y y75 y80 hy3
          unfold X7_turn_b206
          refine ⟨d1, v60 _ d2, fun v ev w ew => ?_⟩
          rw [nI_1] at ew
          subst ew
          exact hk4 (by omega) _ _ ⟨kY, by rw [ev]; exact d3, y75, y80, y78⟩
        have keep : ∀ (j : Nat) (v : Int32), X7_turn_b206 y3 r y (nI t) (zu W 68 j v) Q k4 := fun j v => b206 _ (kW.u rfl (by decide)) (by rw [zu_ne (by decide)]; exact w75) (by rw [zu_ne (by decide)]; exact w80) (by rw [zu_ne (by decide)]; exact w78)
        unfold X7_turn_b137
        refine ⟨b1, v60 _ b2, fun v ev => ?_⟩
        have hv : eo v := by
          obtain ⟨e', g1, g2⟩ := b2
          rw [ev, g2, nI_clamp (by omega), w78]
          exact (hE.2 e' g1).2.2
        have hr : -110 < v.toInt ∧ v.toInt < 110 := by
          rcases hv with ⟨r, h1, h2⟩ | ⟨r, h1, h2⟩ | ⟨r, h1, h2⟩ | ⟨r, h1, h2⟩ <;> omega
        have en : (-v).toInt = -v.toInt := i_neg (by omega)
        have b179 : X7_turn_b179 y3 r y (nI t) v W Q k4 := by
          unfold X7_turn_b179
          rw [i_le, i_le, c0, cm100]
          refine ⟨fun _ => b206 W kW w75 w80 w78, fun g => ⟨fun _ => b206 W kW w75 w80 w78, fun g2 => ?_⟩⟩
          have hvv : vp_in ((-v) - (1 : Int32)) 10 := by
            rcases hv with ⟨r, h1, h2⟩ | ⟨r, h1, h2⟩ | ⟨r, h1, h2⟩ | ⟨r, h1, h2⟩
            · omega
            · omega
            · omega
            · exact (v_of (k := r) (by rw [i_sub (by rw [en, c1]; omega) (by rw [en, c1]; omega), en, c1]; omega) h1 (by omega)).1
          refine ⟨hvv, hvv, fun Y eY => ?_⟩
          subst eY
          exact keep _ _
        rw [i_le, i_le, c0, c100]
        refine ⟨fun _ => b179, fun g => ⟨fun _ => b179, fun g2 => ?_⟩⟩
        have hvv : vp_in (v - (1 : Int32)) 10 := by
          rcases hv with ⟨r, h1, h2⟩ | ⟨r, h1, h2⟩ | ⟨r, h1, h2⟩ | ⟨r, h1, h2⟩
          · omega
          · omega
          · exact (v_of (k := r) (by rw [i_sub (by rw [c1]; omega) (by rw [c1]; omega), c1]; omega) h1 (by omega)).1
          · omega
        refine ⟨hvv, hvv, fun Y eY => ?_⟩
        subst eY
        exact keep _ _
      exact ⟨fun _ => q W kW, fun z3 => ⟨fun _ => go z3, fun _ => ⟨fun _ => q W kW, fun _ => go z3⟩⟩⟩
    have go : ¬ nr < j → X7_turn_b67 y2 r y (nI j) V Q k3 := by
      intro z3
      obtain ⟨b1, b2, b3⟩ := back y2 V rfl rfl hy2
      have b92 : ∀ t0 : Int64, X7_turn_b92 y2 y (nI j) t0 V Q k3 := by
        intro t0
        unfold X7_turn_b92
        refine ⟨b1, v60 _ b2, fun v ev w ew => ?_⟩
        rw [nI_1] at ew
        subst ew
        exact hk3 (by omega) _ _ _ ⟨rfl, by rw [ev]; exact b3⟩
      unfold X7_turn_b67
      obtain ⟨e', g1, g2⟩ := b2
      rw [g2]
      exact ⟨b1, s_roomOf (hC.kr hk) hn hE g1 (fun v => ⟨fun _ => b92 _, fun _ => b92 _⟩)⟩
    exact ⟨fun _ => fin, fun z3 => ⟨fun _ => go z3, fun _ => ⟨fun _ => fin, fun _ => go z3⟩⟩⟩
  · obtain ⟨b1, b2, b3⟩ := back y U rfl rfl hy
    refine ⟨b1, v60 _ b2, fun v ev w ew => ?_⟩
    rw [nI_1] at ew
    subst ew
    exact hk2 (by omega) _ _ ⟨rfl, by rw [ev]; exact b3⟩
theorem s_improve {nc nr : Nat} {S T : ZS} {Q : ZS → Prop} (hC : zC S nc nr) (hk : zKr S T) (q : ∀ U, zKr S U → Q U) : X7_improve T Q := by
  unfold X7_improve
  refine zl_up2 10000000 (fun i x U => zKr S U) (by omega) (fun i x U k hi hJ hk2 => ?_) 1 T hk
  show X7_improve_B4 x (nI i) U Q k
  unfold X7_improve_B4 X7_improve_b53
  refine ⟨fun _ => q U hJ, fun z => ⟨fun _ => q U hJ, fun _ => ?_⟩⟩
  have hlt := up_onG (n := 10000000) (by omega) hi z
  refine s_findEdges hC hJ (fun V n hn kV eV => s_nothingFar kV eV (fun W kW eW w80 => ?_))
  refine s_spread hC kW (by omega) eW (fun v Y hv kY eY bY1 => ?_)
  have nx : ∀ (t : Int32) (Z : ZS), zKr S Z → X7_improve_b47 t (nI i) Z Q k := by
    intro t Z kZ
    unfold X7_improve_b47
    intro w ew
    rw [nI_1] at ew
    subst ew
    exact hk2 hlt _ _ kZ
  unfold X7_improve_b37
  refine ⟨fun _ => ⟨fun _ => nx _ Y kY, fun g => absurd rfl g⟩, fun g => ⟨fun _ => nx _ Y kY, fun _ => ?_⟩⟩
  rcases hv with e | ⟨e, he, rfl⟩
  · exact absurd e g
  · exact s_turn hC kY (by omega) eY (bY1 (fun u hu => ⟨0, by omega, w80 u hu⟩)) he (fun Z kZ => nx _ Z kZ)
theorem s_keepBest {nc nr : Nat} {S T : ZS} {Q : ZS → Prop} (hC : zC S nc nr) (hk : zKr S T) (q : ∀ U, zKr S U → Q U) : X7_keepBest T Q := by
  have h1 := hC.1
  have h2 := hC.2.1
  unfold X7_keepBest
  refine s_begin hC hk (fun T1 k1 => ?_)
  refine zl_up nc (fun i U => zKr S U) (by omega) (fun i U k hi hJ hk2 => ?_) T1 k1
  have hU := hC.kr hJ
  show X7_keepBest_B6 (nI i) U Q k
  unfold X7_keepBest_B6
  rw [hU.2.2.2.2.1]
  refine ⟨fun _ => ?_, fun z => ?_⟩
  · unfold X7_keepBest_b91
    refine zl_up nr (fun j V => zKr S V) (by omega) (fun j V k3 hj hJ3 hk3 => ?_) U hJ
    show X7_keepBest_B93 (nI j) V Q k3
    unfold X7_keepBest_B93 X7_keepBest_b142
    rw [(hC.kr hJ3).2.2.2.2.2.1]
    refine ⟨fun _ => q V hJ3, fun z => ?_⟩
    have hlt := up_on (by omega) hj z
    have hv : vp_in (nI j) 8 := vp_in_nI (by omega) (by omega)
    have b135 : ∀ t0 : Int32, X7_keepBest_b135 (nI j) t0 (nI j) V Q k3 := by
      intro t0
      unfold X7_keepBest_b135
      refine ⟨hv, fun W eW w ew => ?_⟩
      rw [nI_1] at ew
      subst ew
      subst eW
      exact hk3 hlt _ (hJ3.u rfl (by decide))
    exact ⟨vp_in_nI (by omega) (by omega), vp_in_nI (by omega) (by omega), fun _ => ⟨hv, b135 _⟩, fun _ => b135 _⟩
  · have hlt := up_on (by omega) hi z
    have hv : vp_in (nI i) 10 := vp_in_nI (by omega) (by omega)
    have nx : ∀ V, zKr S V → X7_keepBest_b85 (nI i) V Q k := by
      intro V kV
      unfold X7_keepBest_b85
      intro w ew
      rw [nI_1] at ew
      subst ew
      exact hk2 hlt _ kV
    refine ⟨hv, s_endOf hU hlt (fun a ha => ⟨ha.v, s_endOf hU hlt (fun b hb => ⟨hb.v, fun x _ => ⟨fun _ => ⟨fun _ => nx U hJ, fun _ => ⟨hv, hv, fun V eV => ?_⟩⟩, fun _ => ⟨hv, hv, fun V eV => ?_⟩⟩⟩)⟩)⟩
    · subst eV
      exact nx _ (hJ.u rfl (by decide))
    · subst eV
      exact nx _ (hJ.u rfl (by decide))
theorem s_way {nc nr n : Nat} {y1 y2 : Int32} {S T : ZS} {Q : Int64 → ZS → Prop} {P : Int32 → Prop} (hC : zC S nc nr) (hk : zKr S T) (hn : n ≤ 60) (hE : eE T n P) (n1 : nod y1) (n2 : nod y2) (q : ∀ v U, zKr S U → eE U n P → Q v U) : X7_way_ y1 y2 T Q := by
  unfold X7_way_
  refine zl_up 9 (fun i U => zKr S U ∧ eE U n P) (by omega) (fun i U k hi hJ hk2 => ?_) T ⟨hk, hE⟩
  obtain ⟨kU, eU⟩ := hJ
  show X7_way__B2 y1 y2 (nI i) U Q k
  unfold X7_way__B2
  refine ⟨fun _ => ?_, fun z => ?_⟩
  · unfold X7_way__b23
    refine ⟨n1.v, fun V eV => ?_⟩
    subst eV
    exact s_spread hC kU.w hn eU.w (fun v W _ kW eW _ => ⟨n2.v, q _ W kW eW⟩)
  · have hlt := up_on (n := 9) (by omega) hi z
    refine ⟨vp_in_nI (by omega) (by omega), fun V eV w ew => ?_⟩
    rw [nI_1] at ew
    subst ew
    subst eV
    exact hk2 hlt _ ⟨kU.w, eU.w⟩
theorem eE.mono {T : ZS} {n : Nat} {P R : Int32 → Prop} (h : eE T n P) (g : ∀ x, P x → R x) : eE T n R := ⟨h.1, fun e he => ⟨(h.2 e he).1, (h.2 e he).2.1, g _ (h.2 e he).2.2⟩⟩
theorem s_findPrices {nc nr : Nat} {S T : ZS} {Q : ZS → Prop} (hC : zC S nc nr) (hk : zKr S T) (q : ∀ U, zKr S U → Q U) : X7_findPrices T Q := by
  have h2 := hC.2.1
  have nn : nod (nI nr) := nod_nI (by omega)
  unfold X7_findPrices
  refine s_findEdges hC hk (fun T1 n hn k1 e1 => ?_)
  refine zl_up nr (fun i U => zKr S U ∧ ∃ n, n ≤ 36 + 2 * i ∧ eE U n (fun _ => True)) (by omega) (fun i U k hi hJ hk2 => ?_) T1 ⟨k1, n, by omega, e1.mono (fun _ _ => trivial)⟩
  obtain ⟨kU, m, hm, eU⟩ := hJ
  show X7_findPrices_B6 (nI i) U Q k
  unfold X7_findPrices_B6 X7_findPrices_b122
  rw [(hC.kr kU).2.2.2.2.2.1]
  refine ⟨fun _ => q U kU, fun z => ?_⟩
  have hlt := up_on (by omega) hi z
  have ni : nod (nI i) := nod_nI (by omega)
  have hvi : vp_in (nI i) 8 := vp_in_nI (by omega) (by omega)
  refine s_way hC kU (by omega) eU nn ni (fun a V kV eV => ?_)
  rw [(hC.kr kV).2.2.2.2.2.1]
  refine s_way hC kV (by omega) eV ni nn (fun b W kW eW => ?_)
  have b73 : ∀ t : Int64, X7_findPrices_b73 (nI i) t W Q k := by
    intro t
    unfold X7_findPrices_b73
    refine ⟨hvi, hvi, fun Y eY => ?_⟩
    subst eY
    have kY : zKr S (zw W 69 (nI i).toNatClampNeg (t * Int32.toInt64 (W.1 71 (nI i).toNatClampNeg))) := kW.w
    rw [(hC.kr kY).2.2.2.2.2.1]
    refine s_edge kY eW.w (by omega) nn ni trivial (fun Z kZ eZ => ?_)
    rw [(hC.kr kZ).2.2.2.2.2.1]
    refine s_edge kZ eZ (by omega) ni nn trivial (fun Z2 kZ2 eZ2 w ew => ?_)
    rw [nI_1] at ew
    subst ew
    exact hk2 hlt _ ⟨kZ2, _, by omega, eZ2⟩
  have b46 : ∀ t : Int64, X7_findPrices_b46 (nI i) b t W Q k := by
    intro t
    unfold X7_findPrices_b46 X7_findPrices_b71
    exact ⟨fun _ => b73 _, fun _ => ⟨fun _ => b73 _, fun _ => b73 _⟩⟩
  exact ⟨fun _ => b46 _, fun _ => b46 _⟩
theorem s_byFlows {nc nr : Nat} {S T : ZS} {Q : Int32 → ZS → Prop} {M : Nat → Nat} {s : Nat → Int} (hC : zC S nc nr) (hk : zKr S T) (hP : zP nr (cJ (tr (aC S)) nr nc) M) (hG : sG (aC S) nr nc M s) (q : ∀ v U, zKr S U → Q v U) : X7_byFlows T Q := by
  unfold X7_byFlows
  refine s_begin hC hk (fun T1 k1 => i7k_findSigns hC k1.kp hP hG (fun T2 h2 _ _ => ?_))
  have k2 : zKr S T2 := k1.tr (zKr.of (fun n hn => h2.2 n (fun e => by subst e; cases hn) (fun e => by subst e; cases hn)) (h2.2 61 (by decide) (by decide)))
  refine s_firstProof (hC.kr k2) (fun v => ⟨fun _ => ?_, fun _ => ⟨by decide, fun U eU => ⟨by decide, fun _ => ?_, fun _ => ?_⟩⟩⟩)
  · exact s_findLeast hC k2 (fun U kU => s_improve hC kU (fun V kV => s_keepBest hC kV (fun W kW => s_findLeast hC kW (fun Y kY => s_findPrices hC kY (fun Z kZ => q _ Z kZ)))))
  · unfold X7_byFlows_b37
    intro V eV
    subst eU
    subst eV
    exact q _ _ ((k2.u61 (by decide) (by decide)).u61 (by decide) (by decide))
  · unfold X7_byFlows_b37
    intro V eV
    subst eU
    subst eV
    exact q _ _ ((k2.u61 (by decide) (by decide)).u61 (by decide) (by decide))
