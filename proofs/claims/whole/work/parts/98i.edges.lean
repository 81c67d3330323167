/-! the reference's edges -/
theorem zw_ne {S : ZS} {n j : Nat} {v : Int64} {m : Nat} (h : m ≠ n) : (zw S n j v).2 m = S.2 m := by
  funext i
  rw [zw_at, if_neg (fun w => h w.1)]
theorem lg_ge {x y : Int64} : 0 ≤ lg_cmp x y ↔ y.toInt ≤ x.toInt := by
  rcases Int.lt_trichotomy x.toInt y.toInt with h | h | h
  · rw [lg_m h]; exact ⟨fun g => absurd g (by decide), fun g => by omega⟩
  · rw [Int64.toInt_inj.mp h, lg_0]; exact ⟨fun _ => Int.le_refl _, fun _ => by decide⟩
  · rw [lg_1 h]; exact ⟨fun _ => by omega, fun _ => by decide⟩
def rSg (S T : ZS) (s : Nat → Int) (nr : Nat) : Prop := zKp S T ∧ ∀ r, r < nr → (T.1 71 r).toInt = s r
theorem co_gg {S T : ZS} {nc nr r c : Nat} {s : Nat → Int} (hC : zC S nc nr) (hfl : flw S nc nr s) (hT : rSg S T s nr) (hr : r < nr) (hc : c < nc) : (T.1 67 (10 * r + c) * T.1 71 r).toInt = gg S s r c ∧ (T.1 67 (10 * r + c)).toInt = aC S r c := by
  have h2 := hC.2.1
  have eA : (T.1 67 (10 * r + c)).toInt = aC S r c := by
    rw [(hC.kp hT.1).2.2.2.2.2.2.2.2.1 r c hr hc]
    unfold aC
    rw [hT.1.1 (14 + r) (kpt_row (by omega))]
  have e71 := hT.2 r hr
  have pl := (hfl.1 c hc).1 r hr
  refine ⟨?_, eA⟩
  rw [i_mul (by rw [eA, e71]; rcases hfl.2.1 r hr with e | e <;> rw [e] <;> omega) (by rw [eA, e71]; rcases hfl.2.1 r hr with e | e <;> rw [e] <;> omega), eA, e71]
  rfl
/-- the reference's ground is the node behind its rows -/
def rn (nr v : Nat) : Nat := if v < nr then v else nr
def lpD (p : Nat → Bool) (D : Nat) : Nat → Nat
  | 0 => D
  | n + 1 => if p n = true then n else lpD p D n
theorem lpD_or (p : Nat → Bool) (D n : Nat) : (lpD p D n < n ∧ lpD p D n = lastp p n) ∨ (lpD p D n = D ∧ lastp p n = 8) := by
  induction n with
  | zero => exact Or.inr ⟨rfl, rfl⟩
  | succ n ih =>
    rw [lastp_s]
    unfold lpD
    by_cases h : p n = true
    · rw [if_pos h, if_pos h]; exact Or.inl ⟨by omega, rfl⟩
    · rw [if_neg h, if_neg h]
      rcases ih with ⟨a, b⟩ | ⟨a, b⟩
      · exact Or.inl ⟨by omega, b⟩
      · exact Or.inr ⟨a, b⟩
theorem lpD_rn {p : Nat → Bool} {nr : Nat} (h2 : nr ≤ 8) : lpD p nr nr = rn nr (lastp p nr) := by
  unfold rn
  rcases lpD_or p nr nr with ⟨a, b⟩ | ⟨a, b⟩
  · rw [if_pos (by omega), b]
  · rw [if_neg (by omega), a]
theorem x7_endOf {nc nr c : Nat} {y2 : Int32} {s : Nat → Int} {p : Nat → Bool} {S T : ZS} {Q : Int32 → ZS → Prop} (hC : zC S nc nr) (hfl : flw S nc nr s) (hT : rSg S T s nr) (hc : c < nc) (hp : ∀ r, r < nr → (p r = true ↔ gg S s r c = y2.toInt)) (q : Q (nI (rn nr (lastp p nr))) T) : X7_endOf (nI c) y2 T Q := by
  have h1 := hC.1
  have h2 := hC.2.1
  have h6 := (hC.kp hT.1).2.2.2.2.2.1
  unfold X7_endOf
  intro x3 e3
  refine zl_up2 nr (fun i x U => U = T ∧ x = nI (lpD p nr i)) (by omega) (fun i x U k hi hJ hk => ?_) x3 T ⟨rfl, by rw [e3, h6]; rfl⟩
  obtain ⟨rfl, hx⟩ := hJ
  show X7_endOf_B8 (nI c) y2 x (nI i) U Q k
  unfold X7_endOf_B8 X7_endOf_b49 X7_endOf_b42
  rw [h6]
  refine ⟨fun z => ?_, fun z => ?_⟩
  · have := up_end (by omega) hi z
    subst this
    rw [hx, lpD_rn h2]
    exact q
  · have hlt := up_on (by omega) hi z
    have g := (co_gg hC hfl hT hlt hc).1
    refine x7_coef (by omega) (by omega) ?_
    rw [nI_clamp (by omega), i_eq, g]
    refine ⟨vp_in_nI (by omega) (by omega), fun w v ev => ?_, fun w v ev => ?_⟩
    · rw [nI_1] at ev
      subst ev
      exact hk hlt _ _ ⟨rfl, by unfold lpD; rw [if_pos ((hp i hlt).mpr w)]⟩
    · rw [nI_1] at ev
      subst ev
      exact hk hlt _ _ ⟨rfl, by unfold lpD; rw [if_neg (fun z => w ((hp i hlt).mp z))]; exact hx⟩
theorem x7_endUp {nc nr c : Nat} {s : Nat → Int} {S T : ZS} {Q : Int32 → ZS → Prop} (hC : zC S nc nr) (hfl : flw S nc nr s) (hT : rSg S T s nr) (hc : c < nc) (q : Q (nI (rn nr (upc S s nr c))) T) : X7_endOf (nI c) 1 T Q := by
  refine x7_endOf hC hfl hT hc (p := fun r => decide (0 < gg S s r c)) (fun r hr => ?_) q
  have c1 : (1 : Int32).toInt = 1 := by decide
  rw [decide_eq_true_eq, c1]
  have := gg_3 hfl hr hc
  omega
theorem x7_endDn {nc nr c : Nat} {s : Nat → Int} {S T : ZS} {Q : Int32 → ZS → Prop} (hC : zC S nc nr) (hfl : flw S nc nr s) (hT : rSg S T s nr) (hc : c < nc) (q : Q (nI (rn nr (dnc S s nr c))) T) : X7_endOf (nI c) (-1) T Q := by
  refine x7_endOf hC hfl hT hc (p := fun r => decide (gg S s r c < 0)) (fun r hr => ?_) q
  have c1 : (-1 : Int32).toInt = -1 := by decide
  rw [decide_eq_true_eq, c1]
  have := gg_3 hfl hr hc
  omega
theorem x7_sumI {nc nr r : Nat} {s : Nat → Int} {S T : ZS} {Q : Int64 → ZS → Prop} (hC : zC S nc nr) (hfl : flw S nc nr s) (hT : rSg S T s nr) (hr : r < nr) (hb : ∀ c, c < nc → -1000 ≤ bsT T c ∧ bsT T c ≤ 1000) (q : ∀ v : Int64, v.toInt = sI (fun c => aC S r c * bsT T c) nc → Q v T) : X7_sumOf (nI r) T Q := by
  have h1 := hC.1
  have h2 := hC.2.1
  have h5 := (hC.kp hT.1).2.2.2.2.1
  have d0 : (0 : Int64).toInt = 0 := by decide
  have tb : ∀ c, c < nc → -1000 ≤ aC S r c * bsT T c ∧ aC S r c * bsT T c ≤ 1000 := fun c hc => by
    have := (hfl.1 c hc).1 r hr
    have b := hb c hc
    have : aC S r c = -1 ∨ aC S r c = 0 ∨ aC S r c = 1 := by omega
    rcases this with e | e | e <;> rw [e] <;> omega
  unfold X7_sumOf
  refine zl_up2 nc (fun i x U => U = T ∧ x.toInt = sI (fun c => aC S r c * bsT T c) i) (by omega) (fun i x U k hi hJ hk => ?_) 0 T ⟨rfl, d0⟩
  obtain ⟨rfl, hx⟩ := hJ
  show X7_sumOf_B5 (nI r) x (nI i) U Q k
  unfold X7_sumOf_B5 X7_sumOf_b40
  rw [h5]
  refine ⟨fun z => ?_, fun z => ?_⟩
  · have := up_end (by omega) hi z
    subst this
    exact q x hx
  · have hlt := up_on (by omega) hi z
    have a := (co_gg hC hfl hT hr hlt).2
    refine x7_coef (by omega) (by omega) ⟨vp_in_nI (by omega) (by omega), fun u eu w ew => ?_⟩
    rw [nI_1] at ew
    subst ew
    refine hk hlt _ _ ⟨rfl, ?_⟩
    have t := tb i hlt
    have bb := sI_bd (f := fun c => aC S r c * bsT U c) (n := i) (K := 1000) (fun c hc => tb c (by omega))
    have m : (Int32.toInt64 (U.1 67 (10 * r + i)) * Int32.toInt64 (U.1 68 i)).toInt = aC S r i * bsT U i := by
      rw [l_mul (by rw [l_i, l_i, a]; show _ ≤ aC S r i * bsT U i; omega) (by rw [l_i, l_i, a]; show aC S r i * bsT U i ≤ _; omega), l_i, l_i, a]
      rfl
    rw [eu, nI_clamp (by omega), l_add (by rw [m, hx]; omega) (by rw [m, hx]; omega), m, hx, sI_s]
/-- a list of edges: tail, head, cost and what it is of -/
def edL (T : ZS) (n : Nat) (K : Nat → Nat → Int → Int → Prop) : Prop := T.1 61 20 = nI n ∧ (∀ e, e < n → ∃ t h, t ≤ 8 ∧ h ≤ 8 ∧ T.1 75 e = nI t ∧ T.1 76 e = nI h ∧ K t h (T.2 77 e).toInt (T.1 78 e).toInt) ∧ ∀ t h w o, K t h w o → ∃ e, e < n ∧ T.1 75 e = nI t ∧ T.1 76 e = nI h ∧ (T.2 77 e).toInt = w ∧ (T.1 78 e).toInt = o
theorem edL.congr {T : ZS} {n : Nat} {K L : Nat → Nat → Int → Int → Prop} (h : edL T n K) (e : ∀ t h w o, K t h w o ↔ L t h w o) : edL T n L := by
  refine ⟨h.1, fun i hi => ?_, fun t h2 w o hl => h.2.2 t h2 w o ((e _ _ _ _).mpr hl)⟩
  obtain ⟨t, h2, a, b, c, d, k⟩ := h.2.1 i hi
  exact ⟨t, h2, a, b, c, d, (e _ _ _ _).mp k⟩
def zEd (T U : ZS) : Prop := (∀ n, n ≠ 61 → n ≠ 75 → n ≠ 76 → n ≠ 78 → U.1 n = T.1 n) ∧ (∀ j, j ≠ 20 → U.1 61 j = T.1 61 j) ∧ ∀ n, n ≠ 77 → U.2 n = T.2 n
theorem zEd.rf (T : ZS) : zEd T T := ⟨fun _ _ _ _ _ => rfl, fun _ _ => rfl, fun _ _ => rfl⟩
theorem zEd.tr {T U V : ZS} (h : zEd T U) (g : zEd U V) : zEd T V := ⟨fun n a b c d => (g.1 n a b c d).trans (h.1 n a b c d), fun j a => (g.2.1 j a).trans (h.2.1 j a), fun n a => (g.2.2 n a).trans (h.2.2 n a)⟩
theorem zEd.kp {T U : ZS} (h : zEd T U) : zKp T U := ⟨fun n hn => h.1 n (fun e => by subst e; cases hn) (fun e => by subst e; cases hn) (fun e => by subst e; cases hn) (fun e => by subst e; cases hn), h.2.1 1 (by decide), h.2.1 2 (by decide)⟩
theorem zEd.sg {S T U : ZS} {s : Nat → Int} {nr : Nat} (h : zEd T U) (g : rSg S T s nr) : rSg S U s nr := ⟨g.1.tr h.kp, fun r hr => by rw [h.1 71 (by decide) (by decide) (by decide) (by decide)]; exact g.2 r hr⟩
theorem zEd.bs {T U : ZS} (h : zEd T U) : bsT U = bsT T := by
  funext c
  unfold bsT
  rw [h.1 68 (by decide) (by decide) (by decide) (by decide)]
theorem x7_edge {n t h : Nat} {y5 : Int32} {y3 : Int64} {T : ZS} {Q : ZS → Prop} {K : Nat → Nat → Int → Int → Prop} (hE : edL T n K) (hn : n < 60) (ht : t ≤ 8) (hh : h ≤ 8) (q : ∀ U, zEd T U → edL U (n + 1) (fun t' h' w' o' => K t' h' w' o' ∨ (t' = t ∧ h' = h ∧ w' = y3.toInt ∧ o' = y5.toInt)) → Q U) : X7_edge (nI t) (nI h) y3 y5 T Q := by
  have hv : vp_in (nI n) 60 := vp_in_nI (by omega) (by omega)
  unfold X7_edge
  rw [hE.1]
  refine ⟨hv, fun T1 e1 => ?_⟩
  rw [nI_clamp (by omega)] at e1
  have a1 : T1.1 61 20 = nI n := by rw [e1, zu_ne (by decide)]; exact hE.1
  rw [a1]
  refine ⟨hv, fun T2 e2 => ?_⟩
  rw [nI_clamp (by omega)] at e2
  have a2 : T2.1 61 20 = nI n := by rw [e2, zu_ne (by decide)]; exact a1
  rw [a2]
  refine ⟨hv, fun T3 e3 => ?_⟩
  rw [nI_clamp (by omega)] at e3
  have a3 : T3.1 = T2.1 := by rw [e3]; rfl
  have a3' : T3.1 61 20 = nI n := by rw [a3]; exact a2
  rw [a3']
  refine ⟨hv, fun T4 e4 T5 e5 => ?_⟩
  rw [nI_clamp (by omega)] at e4
  have a4 : T4.1 61 20 = nI n := by rw [e4, zu_ne (by decide)]; exact a3'
  rw [a4, nI_1] at e5
  have c75 : ∀ e, T5.1 75 e = if e = n then nI t else T.1 75 e := fun e => by
    rw [e5, zu_ne (by decide), e4, zu_ne (by decide), a3, e2, zu_ne (by decide), e1, zu_at]
    by_cases w : e = n <;> simp [w]
  have c76 : ∀ e, T5.1 76 e = if e = n then nI h else T.1 76 e := fun e => by
    rw [e5, zu_ne (by decide), e4, zu_ne (by decide), a3, e2, zu_at, e1, zu_ne (by decide)]
    by_cases w : e = n <;> simp [w]
  have c78 : ∀ e, T5.1 78 e = if e = n then y5 else T.1 78 e := fun e => by
    rw [e5, zu_ne (by decide), e4, zu_at, a3, e2, zu_ne (by decide), e1, zu_ne (by decide)]
    by_cases w : e = n <;> simp [w]
  have s5 : T5.2 = T3.2 := by rw [e5, e4]; rfl
  have c77 : ∀ e, T5.2 77 e = if e = n then y3 else T.2 77 e := fun e => by
    rw [s5, e3, zw_at, e2, e1]
    by_cases w : e = n
    · simp [w]
    · rw [if_neg (fun z => w z.2), if_neg w]; rfl
  refine q T5 ⟨fun m a b c d => ?_, fun j hj => ?_, fun m hm => ?_⟩ ⟨by rw [e5, zu_at, if_pos ⟨rfl, rfl⟩], fun e he => ?_, fun t' h' w' o' hK => ?_⟩
  · rw [e5, zu_ne a, e4, zu_ne d, a3, e2, zu_ne c, e1, zu_ne b]
  · rw [e5, zu_at, if_neg (fun z => hj z.2), e4, zu_ne (by decide), a3, e2, zu_ne (by decide), e1, zu_ne (by decide)]
  · rw [s5, e3, zw_ne hm, e2, e1]; rfl
  · rw [c75, c76, c77, c78]
    by_cases w : e = n
    · rw [if_pos w, if_pos w, if_pos w, if_pos w]
      exact ⟨t, h, ht, hh, rfl, rfl, Or.inr ⟨rfl, rfl, rfl, rfl⟩⟩
    · rw [if_neg w, if_neg w, if_neg w, if_neg w]
      obtain ⟨t2, h2, b1, b2, b3, b4, b5⟩ := hE.2.1 e (by omega)
      exact ⟨t2, h2, b1, b2, b3, b4, Or.inl b5⟩
  · rcases hK with hK | ⟨q1, q2, q3, q4⟩
    · obtain ⟨e, b1, b2, b3, b4, b5⟩ := hE.2.2 t' h' w' o' hK
      refine ⟨e, by omega, ?_⟩
      rw [c75, c76, c77, c78, if_neg (by omega), if_neg (by omega), if_neg (by omega), if_neg (by omega)]
      exact ⟨b2, b3, b4, b5⟩
    · refine ⟨n, by omega, ?_⟩
      rw [c75, c76, c77, c78, if_pos rfl, if_pos rfl, if_pos rfl, if_pos rfl, q1, q2, q3, q4]
      exact ⟨rfl, rfl, rfl, rfl⟩
def uS (s : Nat → Int) (r : Nat) : Nat := if s r = 1 then r else 8
def dS (s : Nat → Int) (r : Nat) : Nat := if s r = 1 then 8 else r
/-- what may change at a point: columns below ic, rows below ir -/
def eK (S : ZS) (s x : Nat → Int) (nc nr ic ir : Nat) (t h : Nat) (w o : Int) : Prop :=
  (∃ c, c < ic ∧ x c < hic S c ∧ t = rn nr (dnc S s nr c) ∧ h = rn nr (upc S s nr c) ∧ w = cst S c ∧ o = (c : Int) + 1) ∨
  (∃ c, c < ic ∧ loc S c < x c ∧ t = rn nr (upc S s nr c) ∧ h = rn nr (dnc S s nr c) ∧ w = -cst S c ∧ o = -(c : Int) - 1) ∨
  (∃ r, r < ir ∧ kap S r ∧ t = rn nr (dS s r) ∧ h = rn nr (uS s r) ∧ w = 0 ∧ o = 100 + (r : Int)) ∨
  (∃ r, r < ir ∧ kap S r ∧ 0 < s r * ev (gg S s) (bR S s) nc x r ∧ t = rn nr (uS s r) ∧ h = rn nr (dS s r) ∧ w = 0 ∧ o = -100 - (r : Int))
theorem rn_le {nr v : Nat} (h2 : nr ≤ 8) : rn nr v ≤ 8 := by unfold rn; split <;> omega
theorem s_ev {S : ZS} {nc nr r : Nat} {s x : Nat → Int} (hs : sgn nr s) (hr : r < nr) : s r * ev (gg S s) (bR S s) nc x r = (S.1 12 r).toInt - sI (fun c => aC S r c * x c) nc := by
  have e : ev (gg S s) (bR S s) nc x r = s r * ((S.1 12 r).toInt - sI (fun c => aC S r c * x c) nc) := by
    unfold ev bR gg
    rw [Int.mul_sub, ← sI_mul, Int.mul_comm (s r)]
    congr 1
    exact sI_congr (fun c _ => by rw [Int.mul_comm (aC S r c) (s r), Int.mul_assoc])
  rw [e, s_sq (hs r hr)]
set_option maxHeartbeats 1000000 in
theorem x7_findEdges {nc nr : Nat} {s : Nat → Int} {S T : ZS} {Q : ZS → Prop} (hC : zC S nc nr) (hfl : flw S nc nr s) (hT : rSg S T s nr) (hb : inB (loc S) (hic S) nc (bsT T))
    (q : ∀ U n, n ≤ 36 → zEd T U → edL U n (eK S s (bsT T) nc nr nc nr) → Q U) : X7_findEdges T Q := by
  have h1 := hC.1
  have h2 := hC.2.1
  have hs := hfl.2.1
  have c1 : (1 : Int32).toInt = 1 := by decide
  have c100 : (100 : Int32).toInt = 100 := by decide
  have cm100 : (-100 : Int32).toInt = -100 := by decide
  have z0 : (0 : Int64).toInt = 0 := by decide
  have bb : ∀ c, c < nc → -1000 ≤ bsT T c ∧ bsT T c ≤ 1000 := fun c hc => by
    have := hb c hc
    have z := (hC.2.2.2.2.2.2.1 c hc).2.2.2.1
    unfold zok at z
    unfold loc hic at this
    omega
  unfold X7_findEdges
  intro T1 e1
  have f1 : zEd T T1 := by
    rw [e1]
    exact ⟨fun n a _ _ _ => zu_ne a, fun j hj => by rw [zu_at, if_neg (fun z => hj z.2)], fun _ _ => rfl⟩
  refine zl_up nc (fun i U => zEd T U ∧ ∃ n, n ≤ 2 * i ∧ edL U n (eK S s (bsT T) nc nr i 0)) (by omega) (fun i U k hi hJ hk2 => ?_) T1 ⟨f1, 0, by omega, by rw [e1, zu_at, if_pos ⟨rfl, rfl⟩]; rfl, fun e he => by omega, fun t h w o hK => ?_⟩
  · obtain ⟨fU, n, hn, eU⟩ := hJ
    have gU := fU.sg hT
    have hU := hC.kp gU.1
    show X7_findEdges_B7 (nI i) U Q k
    unfold X7_findEdges_B7
    rw [hU.2.2.2.2.1]
    refine ⟨fun z => ?_, fun z => ?_⟩
    · have := up_end (by omega) hi z
      subst this
      unfold X7_findEdges_b99
      refine zl_up nr (fun r V => zEd T V ∧ ∃ n, n ≤ 20 + 2 * r ∧ edL V n (eK S s (bsT T) i nr i r)) (by omega) (fun r V k3 hr hJ3 hk3 => ?_) U ⟨fU, n, by omega, eU⟩
      obtain ⟨fV, n2, hn2, eV⟩ := hJ3
      have gV := fV.sg hT
      have hV := hC.kp gV.1
      show X7_findEdges_B101 (nI r) V Q k3
      unfold X7_findEdges_B101 X7_findEdges_b200
      rw [hV.2.2.2.2.2.1]
      refine ⟨fun z => ?_, fun z2 => ?_⟩
      · have := up_end (by omega) hr z
        subst this
        exact q V n2 (by omega) fV eV
      have hrl := up_on (by omega) hr z2
      have hvr : vp_in (nI r) 8 := vp_in_nI (by omega) (by omega)
      have er : (nI r).toInt = r := nI_toInt (by omega)
      have e71 := gV.2 r hrl
      have h65 : V.1 65 r = S.1 11 r := by rw [(hV.2.2.2.2.2.2.2.1 r hrl).1, gV.1.1 11 rfl]
      have h66 : V.1 66 r = S.1 12 r := by rw [(hV.2.2.2.2.2.2.2.1 r hrl).2.1, gV.1.1 12 rfl]
      have nx : ∀ W m, m ≤ n2 + 2 → zEd T W → edL W m (eK S s (bsT T) i nr i (r + 1)) → X7_findEdges_b194 (nI r) W Q k3 := by
        intro W m hm fW eW
        unfold X7_findEdges_b194
        intro w ew
        rw [nI_1] at ew
        subst ew
        exact hk3 hrl W ⟨fW, m, by omega, eW⟩
      have one : V.1 71 r = (1 : Int32) ↔ s r = 1 := by rw [i_eq, e71, c1]
      have b155 : X7_findEdges_b155 (nI r) (nI (rn nr (uS s r))) (nI (rn nr (dS s r))) V Q k3 ∨ ¬ kap S r := by
        by_cases hk : kap S r
        · left
          unfold X7_findEdges_b155
          refine x7_edge eV (by omega) (rn_le h2) (rn_le h2) (fun W fW eW => ?_)
          have tW := fV.tr fW
          refine x7_sumI hC hfl (tW.sg hT) hrl (by rw [tW.bs]; exact bb) (fun v hv => ⟨hvr, fun g => ?_, fun g => ?_⟩)
          · rw [lg_ge, l_i, nI_clamp (by omega), fW.1 66 (by decide) (by decide) (by decide) (by decide), h66, hv, tW.bs] at g
            refine nx W _ (by omega) tW (eW.congr (fun t h w o => ?_))
            have nev : ¬ 0 < s r * ev (gg S s) (bR S s) i (bsT T) r := by rw [s_ev hs hrl]; omega
            unfold eK
            rw [z0, i_add (by rw [c100, er]; omega) (by rw [c100, er]; omega), c100, er]
            refine ⟨fun g => ?_, fun g => ?_⟩
            · rcases g with (g | g | ⟨r', a1, a2⟩ | ⟨r', a1, a2⟩) | ⟨a1, a2, a3, a4⟩
              · exact Or.inl g
              · exact Or.inr (Or.inl g)
              · exact Or.inr (Or.inr (Or.inl ⟨r', by omega, a2⟩))
              · exact Or.inr (Or.inr (Or.inr ⟨r', by omega, a2⟩))
              · exact Or.inr (Or.inr (Or.inl ⟨r, by omega, hk, a1, a2, a3, a4⟩))
            · rcases g with g | g | ⟨r', a1, a2⟩ | ⟨r', a1, a2, a3⟩
              · exact Or.inl (Or.inl g)
              · exact Or.inl (Or.inr (Or.inl g))
              · by_cases e : r' = r
                · subst e; exact Or.inr a2.2
                · exact Or.inl (Or.inr (Or.inr (Or.inl ⟨r', by omega, a2⟩)))
              · by_cases e : r' = r
                · subst e; exact absurd a3.1 nev
                · exact Or.inl (Or.inr (Or.inr (Or.inr ⟨r', by omega, a2, a3⟩)))
          · rw [lg_ge, l_i, nI_clamp (by omega), fW.1 66 (by decide) (by decide) (by decide) (by decide), h66, hv, tW.bs] at g
            have pev : 0 < s r * ev (gg S s) (bR S s) i (bsT T) r := by rw [s_ev hs hrl]; omega
            refine x7_edge eW (by omega) (rn_le h2) (rn_le h2) (fun Y fY eY => nx Y _ (by omega) (tW.tr fY) (eY.congr (fun t h w o => ?_)))
            unfold eK
            rw [z0, i_add (by rw [c100, er]; omega) (by rw [c100, er]; omega), c100, er, i_sub (by rw [cm100, er]; omega) (by rw [cm100, er]; omega), cm100, er]
            refine ⟨fun g => ?_, fun g => ?_⟩
            · rcases g with ((g | g | ⟨r', a1, a2⟩ | ⟨r', a1, a2⟩) | ⟨a1, a2, a3, a4⟩) | ⟨a1, a2, a3, a4⟩
              · exact Or.inl g
              · exact Or.inr (Or.inl g)
              · exact Or.inr (Or.inr (Or.inl ⟨r', by omega, a2⟩))
              · exact Or.inr (Or.inr (Or.inr ⟨r', by omega, a2⟩))
              · exact Or.inr (Or.inr (Or.inl ⟨r, by omega, hk, a1, a2, a3, a4⟩))
              · exact Or.inr (Or.inr (Or.inr ⟨r, by omega, hk, pev, a1, a2, a3, a4⟩))
            · rcases g with g | g | ⟨r', a1, a2⟩ | ⟨r', a1, a2, a3⟩
              · exact Or.inl (Or.inl (Or.inl g))
              · exact Or.inl (Or.inl (Or.inr (Or.inl g)))
              · by_cases e : r' = r
                · subst e; exact Or.inl (Or.inr a2.2)
                · exact Or.inl (Or.inl (Or.inr (Or.inr (Or.inl ⟨r', by omega, a2⟩))))
              · by_cases e : r' = r
                · subst e; exact Or.inr a3.2
                · exact Or.inl (Or.inl (Or.inr (Or.inr (Or.inr ⟨r', by omega, a2, a3⟩))))
        · exact Or.inr hk
      rw [nI_clamp (by omega), h65]
      refine ⟨hvr, fun g => ?_, fun g => ?_⟩
      · have hk : kap S r := g
        rcases b155 with b | b
        · refine ⟨hvr, fun g1 => ?_, fun g1 => ?_⟩
          · have s1 := one.mp g1
            unfold X7_findEdges_b136
            rw [nI_clamp (by omega), hV.2.2.2.2.2.1]
            refine ⟨hvr, fun _ => ?_, fun g2 => absurd g1 g2⟩
            unfold uS dS rn at b
            rw [if_pos s1, if_pos s1, if_pos hrl, if_neg (by omega)] at b
            exact b
          · have s1 : ¬ s r = 1 := fun w => g1 (one.mpr w)
            unfold X7_findEdges_b136
            rw [nI_clamp (by omega), hV.2.2.2.2.2.1]
            refine ⟨hvr, fun g2 => absurd g2 g1, fun _ => ?_⟩
            unfold uS dS rn at b
            rw [if_neg s1, if_neg s1, if_neg (by omega), if_pos hrl] at b
            exact b
        · exact absurd hk b
      · refine nx V n2 (by omega) fV (eV.congr (fun t h w o => ?_))
        have hk : ¬ kap S r := g
        unfold eK
        refine ⟨fun g => ?_, fun g => ?_⟩
        · rcases g with g | g | ⟨r', a1, a2⟩ | ⟨r', a1, a2⟩
          · exact Or.inl g
          · exact Or.inr (Or.inl g)
          · exact Or.inr (Or.inr (Or.inl ⟨r', by omega, a2⟩))
          · exact Or.inr (Or.inr (Or.inr ⟨r', by omega, a2⟩))
        · rcases g with g | g | ⟨r', a1, a2⟩ | ⟨r', a1, a2⟩
          · exact Or.inl g
          · exact Or.inr (Or.inl g)
          · by_cases e : r' = r
            · subst e; exact absurd a2.1 hk
            · exact Or.inr (Or.inr (Or.inl ⟨r', by omega, a2⟩))
          · by_cases e : r' = r
            · subst e; exact absurd a2.1 hk
            · exact Or.inr (Or.inr (Or.inr ⟨r', by omega, a2⟩))
    · have hlt := up_on (by omega) hi z
      have hvi : vp_in (nI i) 10 := vp_in_nI (by omega) (by omega)
      have ei : (nI i).toInt = i := nI_toInt (by omega)
      have en : (-(nI i)).toInt = -(i : Int) := by rw [i_neg (by rw [ei]; omega), ei]
      have h7 := hC.2.2.2.2.2.2.1 i hlt
      have zl := h7.2.2.2.2
      unfold zlim at zl
      have at62 : ∀ W, zEd T W → W.1 62 i = S.1 8 i ∧ W.1 63 i = S.1 9 i ∧ W.1 64 i = S.1 10 i ∧ W.1 68 i = T.1 68 i := fun W fW => by
        have kW := (fW.sg hT).1
        rw [kW.1 62 rfl, kW.1 63 rfl, kW.1 64 rfl, fW.1 68 (by decide) (by decide) (by decide) (by decide)]
        exact ⟨h7.1, h7.2.1, h7.2.2.1, rfl⟩
      refine x7_endUp hC hfl gU hlt (x7_endDn hC hfl gU hlt ?_)
      have nx : ∀ W m, m ≤ n + 2 → zEd T W → edL W m (eK S s (bsT T) nc nr (i + 1) 0) → X7_findEdges_b93 (nI i) W Q k := by
        intro W m hm fW eW
        unfold X7_findEdges_b93
        intro w ew
        rw [nI_1] at ew
        subst ew
        exact hk2 hlt W ⟨fW, m, by omega, eW⟩
      have b60 : ∀ W m, m ≤ n + 1 → zEd T W → edL W m (fun t h w o => eK S s (bsT T) nc nr i 0 t h w o ∨ (bsT T i < hic S i ∧ t = rn nr (dnc S s nr i) ∧ h = rn nr (upc S s nr i) ∧ w = cst S i ∧ o = (i : Int) + 1)) → X7_findEdges_b60 (nI i) (nI (rn nr (upc S s nr i))) (nI (rn nr (dnc S s nr i))) W Q k := by
        intro W m hm fW eW
        unfold X7_findEdges_b60
        rw [nI_clamp (by omega), (at62 W fW).1, (at62 W fW).2.2.1, (at62 W fW).2.2.2, i_le]
        refine ⟨hvi, hvi, fun g => nx W m (by omega) fW (eW.congr (fun t h w o => ?_)), fun g => ⟨hvi, ?_⟩⟩
        · have g2 : ¬ loc S i < bsT T i := by show ¬ (S.1 8 i).toInt < (T.1 68 i).toInt; omega
          unfold eK
          refine ⟨fun g => ?_, fun g => ?_⟩
          · rcases g with (⟨c, a1, a2⟩ | ⟨c, a1, a2⟩ | ⟨r, a1, a2⟩ | ⟨r, a1, a2⟩) | a
            · exact Or.inl ⟨c, by omega, a2⟩
            · exact Or.inr (Or.inl ⟨c, by omega, a2⟩)
            · omega
            · omega
            · exact Or.inl ⟨i, by omega, a⟩
          · rcases g with ⟨c, a1, a2⟩ | ⟨c, a1, a2⟩ | ⟨r, a1, a2⟩ | ⟨r, a1, a2⟩
            · by_cases e : c = i
              · subst e; exact Or.inr a2
              · exact Or.inl (Or.inl ⟨c, by omega, a2⟩)
            · by_cases e : c = i
              · subst e; exact absurd a2.1 g2
              · exact Or.inl (Or.inr (Or.inl ⟨c, by omega, a2⟩))
            · omega
            · omega
        · have g2 : loc S i < bsT T i := by show (S.1 8 i).toInt < (T.1 68 i).toInt; omega
          refine x7_edge eW (by omega) (rn_le h2) (rn_le h2) (fun Y fY eY => nx Y _ (by omega) (fW.tr fY) (eY.congr (fun t h w o => ?_)))
          have ew : (Int32.toInt64 (-(S.1 10 i))).toInt = -cst S i := by rw [l_i, i_neg (by omega)]; rfl
          rw [ew, i_sub (by rw [en, c1]; omega) (by rw [en, c1]; omega), en, c1]
          unfold eK
          refine ⟨fun g => ?_, fun g => ?_⟩
          · rcases g with ((⟨c, a1, a2⟩ | ⟨c, a1, a2⟩ | ⟨r, a1, a2⟩ | ⟨r, a1, a2⟩) | a) | ⟨a1, a2, a3, a4⟩
            · exact Or.inl ⟨c, by omega, a2⟩
            · exact Or.inr (Or.inl ⟨c, by omega, a2⟩)
            · omega
            · omega
            · exact Or.inl ⟨i, by omega, a⟩
            · exact Or.inr (Or.inl ⟨i, by omega, g2, a1, a2, a3, a4⟩)
          · rcases g with ⟨c, a1, a2⟩ | ⟨c, a1, a2⟩ | ⟨r, a1, a2⟩ | ⟨r, a1, a2⟩
            · by_cases e : c = i
              · subst e; exact Or.inl (Or.inr a2)
              · exact Or.inl (Or.inl (Or.inl ⟨c, by omega, a2⟩))
            · by_cases e : c = i
              · subst e; exact Or.inr a2.2
              · exact Or.inl (Or.inl (Or.inr (Or.inl ⟨c, by omega, a2⟩)))
            · omega
            · omega
      rw [nI_clamp (by omega), (at62 U fU).2.1, (at62 U fU).2.2.1, (at62 U fU).2.2.2, i_le]
      refine ⟨hvi, hvi, fun g => b60 U n (by omega) fU (eU.congr (fun t h w o => ⟨Or.inl, fun g2 => ?_⟩)), fun g => ⟨hvi, ?_⟩⟩
      · rcases g2 with g2 | g2
        · exact g2
        · have : (T.1 68 i).toInt < (S.1 9 i).toInt := g2.1
          omega
      · have g2 : bsT T i < hic S i := by show (T.1 68 i).toInt < (S.1 9 i).toInt; omega
        refine x7_edge eU (by omega) (rn_le h2) (rn_le h2) (fun Y fY eY => b60 Y _ (by omega) (fU.tr fY) (eY.congr (fun t h w o => ?_)))
        have ew : (Int32.toInt64 (S.1 10 i)).toInt = cst S i := l_i _
        rw [ew, i_add (by rw [ei, c1]; omega) (by rw [ei, c1]; omega), ei, c1]
        exact ⟨fun z => z.imp id (fun w => ⟨g2, w⟩), fun z => z.imp id (fun w => w.2)⟩
  · rcases hK with ⟨c, a, _⟩ | ⟨c, a, _⟩ | ⟨c, a, _⟩ | ⟨c, a, _⟩ <;> omega
