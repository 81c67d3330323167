/-! the class's network as it is laid -/
def gg (S : ZS) (s : Nat → Int) (r c : Nat) : Int := aC S r c * s r
/-- it is a flow, and these are its signs -/
def flw (S : ZS) (nc nr : Nat) (s : Nat → Int) : Prop := (∀ c, c < nc → pln (aC S) nr c) ∧ sgn nr s ∧ sDs (aC S) nr nc s
theorem gg_3 {S : ZS} {nc nr r c : Nat} {s : Nat → Int} (h : flw S nc nr s) (hr : r < nr) (hc : c < nc) : gg S s r c = -1 ∨ gg S s r c = 0 ∨ gg S s r c = 1 := by
  have h1 := (h.1 c hc).1 r hr
  unfold gg
  rcases h.2.1 r hr with e | e <;> rw [e] <;> omega
theorem gg_z {S : ZS} {r c : Nat} {s : Nat → Int} {nr : Nat} (hs : sgn nr s) (hr : r < nr) : gg S s r c = 0 ↔ aC S r c = 0 := by
  unfold gg
  rcases hs r hr with e | e <;> rw [e] <;> omega
theorem gg_one {S : ZS} {nc nr r p c : Nat} {s : Nat → Int} {v : Int} (h : flw S nc nr s) (hr : r < nr) (hp : p < nr) (hc : c < nc) (hv : v ≠ 0) (er : gg S s r c = v) (ep : gg S s p c = v) : r = p := by
  refine Classical.byContradiction (fun hne => ?_)
  have nz : ∀ q, q < nr → gg S s q c ≠ 0 → decide (aC S q c ≠ 0) = true := fun q hq g => decide_eq_true (fun w => g ((gg_z h.2.1 hq).mpr w))
  have n1 := nz r hr (by rw [er]; exact hv)
  have n2 := nz p hp (by rw [ep]; exact hv)
  have t2 : 2 ≤ tms (aC S) nr c := cnt_two hr hp hne n1 n2
  have tl := (h.1 c hc).2
  rcases h.2.2 c hc with g | g
  · omega
  · have z : ∀ q, q < nr → q ≠ r → q ≠ p → aC S q c * s q = 0 := fun q hq a b => by
      refine Classical.byContradiction (fun w => ?_)
      have n3 := nz q hq w
      have := cnt_three (p := fun r => decide (aC S r c ≠ 0)) hr hp hq hne a b n1 n2 n3
      unfold tms at tl
      omega
    have e := sI_two (g := fun r => aC S r c * s r) (n := nr) hne z
    rw [if_pos hr, if_pos hp, g] at e
    have e1 : aC S r c * s r = v := er
    have e2 : aC S p c * s p = v := ep
    rw [e1, e2] at e
    omega
/-- the last of some rows; 8 if there is none -/
def lastp (p : Nat → Bool) : Nat → Nat
  | 0 => 8
  | n + 1 => if p n = true then n else lastp p n
theorem lastp_s (p : Nat → Bool) (n : Nat) : lastp p (n + 1) = if p n = true then n else lastp p n := rfl
theorem lastp_or (p : Nat → Bool) (n : Nat) : (lastp p n < n ∧ p (lastp p n) = true) ∨ (lastp p n = 8 ∧ ∀ r, r < n → p r = false) := by
  induction n with
  | zero => exact Or.inr ⟨rfl, fun r hr => by omega⟩
  | succ n ih =>
    rw [lastp_s]
    by_cases g : p n = true
    · rw [if_pos g]; exact Or.inl ⟨by omega, g⟩
    · rw [if_neg g]
      rcases ih with ⟨a, b⟩ | ⟨a, b⟩
      · exact Or.inl ⟨by omega, b⟩
      · refine Or.inr ⟨a, fun r hr => ?_⟩
        by_cases e : r = n
        · rw [e]
          cases h : p n
          · rfl
          · exact absurd h g
        · exact b r (by omega)
theorem lastp_le {p : Nat → Bool} {n : Nat} (h : n ≤ 8) : lastp p n ≤ 8 := by
  rcases lastp_or p n with ⟨a, _⟩ | ⟨a, _⟩ <;> omega
def upc (S : ZS) (s : Nat → Int) (nr c : Nat) : Nat := lastp (fun r => decide (0 < gg S s r c)) nr
def dnc (S : ZS) (s : Nat → Int) (nr c : Nat) : Nat := lastp (fun r => decide (gg S s r c < 0)) nr
theorem upc_is {S : ZS} {nc nr r c : Nat} {s : Nat → Int} (h : flw S nc nr s) (h2 : nr ≤ 8) (hr : r < nr) (hc : c < nc) : upc S s nr c = r ↔ gg S s r c = 1 := by
  have h3 := fun q hq => gg_3 h (r := q) hq hc
  unfold upc
  rcases lastp_or (fun r => decide (0 < gg S s r c)) nr with ⟨a, b⟩ | ⟨a, b⟩
  · rw [decide_eq_true_eq] at b
    have b1 := h3 _ a
    refine ⟨fun e => ?_, fun e => gg_one h a hr hc (v := 1) (by omega) (by omega) e⟩
    rw [e] at b b1
    omega
  · refine ⟨fun e => by omega, fun e => ?_⟩
    have := of_decide_eq_false (b r hr)
    omega
theorem dnc_is {S : ZS} {nc nr r c : Nat} {s : Nat → Int} (h : flw S nc nr s) (h2 : nr ≤ 8) (hr : r < nr) (hc : c < nc) : dnc S s nr c = r ↔ gg S s r c = -1 := by
  have h3 := fun q hq => gg_3 h (r := q) hq hc
  unfold dnc
  rcases lastp_or (fun r => decide (gg S s r c < 0)) nr with ⟨a, b⟩ | ⟨a, b⟩
  · rw [decide_eq_true_eq] at b
    have b1 := h3 _ a
    refine ⟨fun e => ?_, fun e => gg_one h a hr hc (v := -1) (by omega) (by omega) e⟩
    rw [e] at b b1
    omega
  · refine ⟨fun e => by omega, fun e => ?_⟩
    have := of_decide_eq_false (b r hr)
    omega
/-- what arcs bring to a node -/
def infl (u d : Nat → Nat) (x : Nat → Int) (m v : Nat) : Int := sI (fun a => (if u a = v then x a else 0) - (if d a = v then x a else 0)) m
theorem infl_s (u d : Nat → Nat) (x : Nat → Int) (m v : Nat) : infl u d x (m + 1) v = infl u d x m v + ((if u m = v then x m else 0) - (if d m = v then x m else 0)) := rfl
theorem infl_congr {u d u' d' : Nat → Nat} {x x' : Nat → Int} {m v : Nat} (h : ∀ a, a < m → u a = u' a ∧ d a = d' a ∧ x a = x' a) : infl u d x m v = infl u' d' x' m v := sI_congr (fun a ha => by rw [(h a ha).1, (h a ha).2.1, (h a ha).2.2])
theorem infl_bd {u d : Nat → Nat} {x : Nat → Int} {m v : Nat} (h : ∀ a, a < m → -1000000 ≤ x a ∧ x a ≤ 1000000) : -(m * 2000000) ≤ infl u d x m v ∧ infl u d x m v ≤ m * 2000000 := by
  refine sI_le (fun a ha => ?_)
  have := h a ha
  split <;> split <;> omega
def uA (T : ZS) (a : Nat) : Nat := (T.1 26 a).toNatClampNeg
def dA (T : ZS) (a : Nat) : Nat := (T.1 27 a).toNatClampNeg
def lA (T : ZS) (a : Nat) : Int := (T.1 28 a).toInt
def hA (T : ZS) (a : Nat) : Int := (T.1 29 a).toInt
def wA (T : ZS) (a : Nat) : Int := (T.1 32 a).toInt
def xA (T : ZS) (a : Nat) : Int := (T.1 31 a).toInt
def nA (T : ZS) (v : Nat) : Int := (T.1 33 v).toInt
def arcOK (T : ZS) (a : Nat) : Prop := uA T a ≤ 8 ∧ dA T a ≤ 8 ∧ T.1 26 a = nI (uA T a) ∧ T.1 27 a = nI (dA T a) ∧ -1000 ≤ lA T a ∧ lA T a ≤ xA T a ∧ xA T a ≤ hA T a ∧ hA T a ≤ 1000000 ∧ -1100000 ≤ wA T a ∧ wA T a ≤ 1100000
def net (T : ZS) (m : Nat) (b : Nat → Int) : Prop := m ≤ 18 ∧ T.1 3 0 = nI m ∧ (∀ a, a < m → arcOK T a) ∧ (∀ v, v ≤ 8 → nA T v = b v - infl (uA T) (dA T) (xA T) m v) ∧ ∀ v, v ≤ 8 → -1000000 ≤ b v ∧ b v ≤ 1000000
theorem net.nb {T : ZS} {m v : Nat} {b : Nat → Int} (h : net T m b) (hv : v ≤ 8) : -40000000 ≤ nA T v ∧ nA T v ≤ 40000000 := by
  have h1 := infl_bd (u := uA T) (d := dA T) (x := xA T) (m := m) (v := v) (fun a ha => by
    have := h.2.2.1 a ha
    unfold arcOK at this
    omega)
  have h2 := h.2.2.2.1 v hv
  have h3 := h.2.2.2.2 v hv
  have h4 := h.1
  omega
/-- the same arcs in another state -/
def arcEq (T U : ZS) (a : Nat) : Prop := U.1 26 a = T.1 26 a ∧ U.1 27 a = T.1 27 a ∧ U.1 28 a = T.1 28 a ∧ U.1 29 a = T.1 29 a ∧ U.1 30 a = T.1 30 a ∧ U.1 31 a = T.1 31 a ∧ U.1 32 a = T.1 32 a
theorem arcEq.ok {T U : ZS} {a : Nat} (h : arcEq T U a) (g : arcOK T a) : arcOK U a := by
  obtain ⟨h1, h2, h3, h4, h5, h6, h7⟩ := h
  unfold arcOK uA dA lA hA wA xA at *
  rw [h1, h2, h3, h4, h6, h7]
  exact g
theorem net_ext {T U : ZS} {m : Nat} {b : Nat → Int} (h : net T m b) (hm : m < 18) (h3 : U.1 3 0 = nI (m + 1)) (he : ∀ a, a < m → arcEq T U a) (ha : arcOK U m) (hn : ∀ v, v ≤ 8 → nA U v = nA T v - ((if uA U m = v then xA U m else 0) - (if dA U m = v then xA U m else 0))) : net U (m + 1) b := by
  refine ⟨by omega, h3, fun a hl => ?_, fun v hv => ?_, h.2.2.2.2⟩
  · by_cases e : a = m
    · rw [e]; exact ha
    · exact (he a (by omega)).ok (h.2.2.1 a (by omega))
  · rw [hn v hv, h.2.2.2.1 v hv, infl_s, infl_congr (u := uA U) (u' := uA T) (d := dA U) (d' := dA T) (x := xA U) (x' := xA T) (fun a hl => by
      have g := he a hl
      unfold uA dA xA
      rw [g.1, g.2.1, g.2.2.2.2.2.1]
      exact ⟨rfl, rfl, rfl⟩)]
    omega
/-- the sign that an arc's amount keeps to, as laid -/
def p0 (T : ZS) (a : Nat) : Prop := (xA T a < hA T a → 0 ≤ wA T a) ∧ (lA T a < xA T a → wA T a ≤ 0)
theorem arcEq.p {T U : ZS} {a : Nat} (h : arcEq T U a) (g : p0 T a) : p0 U a := by
  obtain ⟨h1, h2, h3, h4, h5, h6, h7⟩ := h
  unfold p0 lA hA wA xA at *
  rw [h3, h4, h6, h7]
  exact g
theorem x1_addArc {m : Nat} {y1 y2 : Int32} {T : ZS} {Q : Int32 → ZS → Prop} (h3 : T.1 3 0 = nI m) (h18 : m < 18) (q : Q (nI m) (zu (zu (zu T 26 m y1) 27 m y2) 3 0 (nI (m + 1)))) : X1_addArc y1 y2 T Q := by
  unfold X1_addArc
  intro x ex
  rw [h3] at ex
  subst ex
  have hv : vp_in (nI m) 18 := vp_in_nI (by omega) (by omega)
  refine ⟨hv, fun U1 e1 => ⟨hv, fun U2 e2 U3 e3 => ?_⟩⟩
  rw [nI_clamp (by omega)] at e1 e2
  rw [nI_1] at e3
  subst e1
  subst e2
  subst e3
  exact q
/-- what a column's arc is -/
def pwc (c : Nat) : Int := ((512 / 2 ^ c : Nat) : Int)
theorem sh_at : ∀ c, c < 10 → ((1024 : Int32) >>> ((nI c + (1 : Int32)) &&& 31)).toInt = pwc c := by decide +kernel
theorem pw_bd : ∀ c, c < 10 → 0 < pwc c ∧ pwc c ≤ 512 := by decide +kernel
def wcc (S : ZS) (c : Nat) : Int := (S.1 10 c).toInt * 1024 + pwc c
def colA (S T : ZS) (s : Nat → Int) (nr c : Nat) : Prop := uA T c = upc S s nr c ∧ dA T c = dnc S s nr c ∧ lA T c = (S.1 8 c).toInt ∧ hA T c = (S.1 9 c).toInt ∧ wA T c = wcc S c ∧ T.1 30 c = S.1 10 c
theorem arcEq.col {S T U : ZS} {s : Nat → Int} {nr c : Nat} (h : arcEq T U c) (g : colA S T s nr c) : colA S U s nr c := by
  obtain ⟨h1, h2, h3, h4, h5, h6, h7⟩ := h
  unfold colA uA dA lA hA wA at *
  rw [h1, h2, h3, h4, h5, h7]
  exact g
theorem fst_lt {a b : Int32} (h : a = b) : a.toInt = b.toInt := by rw [h]
theorem x1_layColumn {c nc nr : Nat} {s b : Nat → Int} {S T : ZS} {Q : ZS → Prop} (hC : zC S nc nr) (hfl : flw S nc nr s) (hk : zKp S T) (h23 : ∀ r, r < nr → (T.1 23 r).toInt = s r) (hN : net T c b) (hp : ∀ a, a < c → p0 T a ∧ colA S T s nr a) (hc : c < nc)
    (q : ∀ U, zKp S U → U.1 23 = T.1 23 → net U (c + 1) b → (∀ a, a < c + 1 → p0 U a ∧ colA S U s nr a) → Q U) : X1_layColumn (nI c) T Q := by
  have hT := hC.kp hk
  have h1 := hT.1
  have h2 := hT.2.1
  have h4 := hT.2.2.2.1
  have c0 : (0 : Int32).toInt = 0 := by decide
  have c1024 : (1024 : Int32).toInt = 1024 := by decide
  have hvc : vp_in (nI c) 10 := vp_in_nI (by omega) (by omega)
  unfold X1_layColumn
  refine zl_up3 nr (fun i x y U => U = T ∧ x = nI (lastp (fun r => decide (0 < gg S s r c)) i) ∧ y = nI (lastp (fun r => decide (gg S s r c < 0)) i)) (by omega) (fun i x y U k hi hJ hk2 => ?_) 8 8 T ⟨rfl, rfl, rfl⟩
  obtain ⟨rfl, rfl, rfl⟩ := hJ
  show X1_layColumn_B11 (nI c) _ _ (nI i) U Q k
  unfold X1_layColumn_B11
  rw [h4]
  refine ⟨fun z => ?_, fun z => ?_⟩
  · have := up_end (by omega) hi z
    subst this
    have eu : lastp (fun r => decide (0 < gg S s r c)) i = upc S s i c := rfl
    have ed : lastp (fun r => decide (gg S s r c < 0)) i = dnc S s i c := rfl
    rw [eu, ed]
    have hu : upc S s i c ≤ 8 := lastp_le (by omega)
    have hd : dnc S s i c ≤ 8 := lastp_le (by omega)
    revert hu hd
    generalize eeu : upc S s i c = u
    generalize eed : dnc S s i c = d
    intro hu hd
    have hva : vp_in (nI c) 18 := vp_in_nI (by omega) (by omega)
    have hvu : vp_in (nI u) 9 := vp_in_nI (by omega) (by omega)
    have hvd : vp_in (nI d) 9 := vp_in_nI (by omega) (by omega)
    unfold X1_layColumn_b70
    refine x1_addArc hN.2.1 (by omega) ?_
    rw [nI_clamp (by omega)]
    refine ⟨hvc, hva, fun V1 e1 => ⟨hvc, hva, fun V2 e2 => ⟨hvc, hva, fun V3 e3 => ⟨hva, hva, fun V4 e4 => ?_⟩⟩⟩⟩
    -- the state when low, high, cost and weight are written
    have k4 : zKp S V4 := by
      rw [e4, e3, e2, e1]
      exact ((((((hk.u rfl (by decide)).u rfl (by decide)).u rfl (by decide)).u rfl (by decide)).u rfl (by decide)).u rfl (by decide)).u rfl (by decide)
    have h7 := hC.2.2.2.2.2.2.1 c hc
    have w8 : U.1 8 = S.1 8 := hk.1 8 rfl
    have w9 : U.1 9 = S.1 9 := hk.1 9 rfl
    have w10 : U.1 10 = S.1 10 := hk.1 10 rfl
    have f3 : V4.1 3 0 = nI (c + 1) := by rw [e4, zu_ne (by decide), e3, zu_ne (by decide), e2, zu_ne (by decide), e1, zu_ne (by decide), zu_at, if_pos ⟨rfl, rfl⟩]
    have f26 : ∀ a, V4.1 26 a = if a = c then nI u else U.1 26 a := fun a => by
      rw [e4, zu_ne (by decide), e3, zu_ne (by decide), e2, zu_ne (by decide), e1, zu_ne (by decide), zu_ne (by decide), zu_ne (by decide), zu_at]
      by_cases w : a = c <;> simp [w]
    have f27 : ∀ a, V4.1 27 a = if a = c then nI d else U.1 27 a := fun a => by
      rw [e4, zu_ne (by decide), e3, zu_ne (by decide), e2, zu_ne (by decide), e1, zu_ne (by decide), zu_ne (by decide), zu_at, zu_ne (by decide)]
      by_cases w : a = c <;> simp [w]
    have f28 : ∀ a, V4.1 28 a = if a = c then S.1 8 c else U.1 28 a := fun a => by
      rw [e4, zu_ne (by decide), e3, zu_ne (by decide), e2, zu_ne (by decide), e1, zu_at, zu_ne (by decide), zu_ne (by decide), zu_ne (by decide), zu_ne (by decide), zu_ne (by decide), zu_ne (by decide), w8]
      by_cases w : a = c <;> simp [w]
    have f29 : ∀ a, V4.1 29 a = if a = c then S.1 9 c else U.1 29 a := fun a => by
      rw [e4, zu_ne (by decide), e3, zu_ne (by decide), e2, zu_at, e1, zu_ne (by decide), zu_ne (by decide), zu_ne (by decide), zu_ne (by decide), zu_ne (by decide), zu_ne (by decide), zu_ne (by decide), zu_ne (by decide), w9]
      by_cases w : a = c <;> simp [w]
    have f30 : ∀ a, V4.1 30 a = if a = c then S.1 10 c else U.1 30 a := fun a => by
      rw [e4, zu_ne (by decide), e3, zu_at, e2, zu_ne (by decide), zu_ne (by decide), e1, zu_ne (by decide), zu_ne (by decide), zu_ne (by decide), zu_ne (by decide), zu_ne (by decide), zu_ne (by decide), zu_ne (by decide), zu_ne (by decide), w10]
      by_cases w : a = c <;> simp [w]
    have f30c : V3.1 30 c = S.1 10 c := by
      have := f30 c
      rw [if_pos rfl, e4, zu_ne (by decide)] at this
      exact this
    have f31 : V4.1 31 = U.1 31 := by rw [e4, zu_ne (by decide), e3, zu_ne (by decide), e2, zu_ne (by decide), e1, zu_ne (by decide), zu_ne (by decide), zu_ne (by decide), zu_ne (by decide)]
    have f33 : V4.1 33 = U.1 33 := by rw [e4, zu_ne (by decide), e3, zu_ne (by decide), e2, zu_ne (by decide), e1, zu_ne (by decide), zu_ne (by decide), zu_ne (by decide), zu_ne (by decide)]
    have f23 : V4.1 23 = U.1 23 := by rw [e4, zu_ne (by decide), e3, zu_ne (by decide), e2, zu_ne (by decide), e1, zu_ne (by decide), zu_ne (by decide), zu_ne (by decide), zu_ne (by decide)]
    have f32 : ∀ a, a ≠ c → V4.1 32 a = U.1 32 a := fun a w => by
      rw [e4, zu_at, if_neg (fun z => w z.2), e3, zu_ne (by decide), e2, zu_ne (by decide), e1, zu_ne (by decide), zu_ne (by decide), zu_ne (by decide), zu_ne (by decide)]
    have hcost := h7.2.2.2.2
    unfold zlim at hcost
    have hpw := pw_bd c (by omega)
    have f32c : (V4.1 32 c).toInt = wcc S c := by
      rw [e4, zu_at, if_pos ⟨rfl, rfl⟩, f30c]
      have m1 : ((S.1 10 c) * (1024 : Int32)).toInt = (S.1 10 c).toInt * 1024 := by rw [i_mul (by rw [c1024]; omega) (by rw [c1024]; omega), c1024]
      rw [i_add (by rw [m1, sh_at c (by omega)]; omega) (by rw [m1, sh_at c (by omega)]; omega), m1, sh_at c (by omega)]
      rfl
    have hz := h7.2.2.2.1
    unfold zok at hz
    -- the amount and the needs
    have fin : ∀ t : Int32, ((0 < wcc S c ∧ t = S.1 8 c) ∨ (wcc S c ≤ 0 ∧ t = S.1 9 c)) → X1_layColumn_b178 (nI u) (nI d) (nI c) t (nI c) V4 Q := by
      intro t ht
      have htb : -1000 ≤ t.toInt ∧ t.toInt ≤ 1000 ∧ (S.1 8 c).toInt ≤ t.toInt ∧ t.toInt ≤ (S.1 9 c).toInt := by
        rcases ht with ⟨_, e⟩ | ⟨_, e⟩ <;> rw [e] <;> omega
      unfold X1_layColumn_b178
      rw [nI_clamp (by omega), nI_clamp (by omega), nI_clamp (by omega)]
      refine ⟨hva, fun W1 g1 => ⟨hvu, hva, hvu, fun W2 g2 => ⟨hvd, hva, hvd, fun W3 g3 => ?_⟩⟩⟩
      have a31 : ∀ a, W1.1 31 a = if a = c then t else U.1 31 a := fun a => by
        rw [g1, zu_at, f31]
        by_cases w : a = c <;> simp [w]
      have b31 : W2.1 31 = W1.1 31 := by rw [g2, zu_ne (by decide)]
      have c31 : W3.1 31 = W1.1 31 := by rw [g3, zu_ne (by decide), b31]
      have a33 : W1.1 33 = U.1 33 := by rw [g1, zu_ne (by decide), f33]
      have oth : ∀ n, n ≠ 31 → n ≠ 33 → W3.1 n = V4.1 n := fun n a b => by rw [g3, zu_ne b, g2, zu_ne b, g1, zu_ne a]
      have t1 : W1.1 31 c = t := by rw [a31, if_pos rfl]
      have nbu := hN.nb hu
      have nbd := hN.nb hd
      have n2 : ∀ v, v ≤ 8 → (W2.1 33 v).toInt = nA U v - (if u = v then t.toInt else 0) := fun v hv => by
        rw [g2, zu_at, a33, t1]
        by_cases w : v = u
        · rw [if_pos ⟨rfl, w⟩, if_pos w.symm, i_sub (by unfold nA at nbu; omega) (by unfold nA at nbu; omega), w]
          rfl
        · rw [if_neg (fun z => w z.2), if_neg (fun z => w z.symm)]
          unfold nA
          omega
      have n3 : ∀ v, v ≤ 8 → (W3.1 33 v).toInt = nA U v - (if u = v then t.toInt else 0) + (if d = v then t.toInt else 0) := fun v hv => by
        have nd2 := n2 d hd
        have lim : -50000000 ≤ (W2.1 33 d).toInt ∧ (W2.1 33 d).toInt ≤ 50000000 := by rw [nd2]; split <;> omega
        rw [g3, zu_at, b31, t1]
        by_cases w : v = d
        · rw [if_pos ⟨rfl, w⟩, if_pos w.symm, i_add (by omega) (by omega), w, nd2]
        · rw [if_neg (fun z => w z.2), n2 v hv, if_neg (show ¬ d = v from fun z => w z.symm)]
          omega
      have kW : zKp S W3 := by rw [g3, g2, g1]; exact ((k4.u rfl (by decide)).u rfl (by decide)).u rfl (by decide)
      have eqs : ∀ a, a < c → arcEq U W3 a := fun a ha => by
        have w : a ≠ c := by omega
        refine ⟨?_, ?_, ?_, ?_, ?_, ?_, ?_⟩
        · rw [oth 26 (by decide) (by decide), f26, if_neg w]
        · rw [oth 27 (by decide) (by decide), f27, if_neg w]
        · rw [oth 28 (by decide) (by decide), f28, if_neg w]
        · rw [oth 29 (by decide) (by decide), f29, if_neg w]
        · rw [oth 30 (by decide) (by decide), f30, if_neg w]
        · rw [c31, a31, if_neg w]
        · rw [oth 32 (by decide) (by decide), f32 a w]
      have v26 : W3.1 26 c = nI u := by rw [oth 26 (by decide) (by decide), f26, if_pos rfl]
      have v27 : W3.1 27 c = nI d := by rw [oth 27 (by decide) (by decide), f27, if_pos rfl]
      have vu : uA W3 c = u := by unfold uA; rw [v26]; exact nI_clamp (by omega)
      have vd : dA W3 c = d := by unfold dA; rw [v27]; exact nI_clamp (by omega)
      have vl : lA W3 c = (S.1 8 c).toInt := by unfold lA; rw [oth 28 (by decide) (by decide), f28, if_pos rfl]
      have vh : hA W3 c = (S.1 9 c).toInt := by unfold hA; rw [oth 29 (by decide) (by decide), f29, if_pos rfl]
      have vw : wA W3 c = wcc S c := by unfold wA; rw [oth 32 (by decide) (by decide), f32c]
      have vx : xA W3 c = t.toInt := by unfold xA; rw [c31, t1]
      have wb : -1100000 ≤ wcc S c ∧ wcc S c ≤ 1100000 := by unfold wcc; omega
      refine q W3 kW (by rw [oth 23 (by decide) (by decide), f23]) (net_ext hN (by omega) (by rw [oth 3 (by decide) (by decide)]; exact f3) eqs ?_ (fun v hv => ?_)) (fun a ha => ?_)
      · unfold arcOK
        rw [vu, vd, vl, vh, vw, vx]
        exact ⟨hu, hd, v26, v27, by omega, by omega, by omega, by omega, wb.1, wb.2⟩
      · rw [vu, vd, vx]
        have := n3 v hv
        unfold nA at this ⊢
        omega
      · by_cases w : a = c
        · rw [w]
          refine ⟨?_, ?_⟩
          · unfold p0
            rw [vl, vh, vw, vx]
            rcases ht with ⟨g, e⟩ | ⟨g, e⟩
            · rw [e]; exact ⟨fun _ => by omega, fun z => absurd z (by omega)⟩
            · rw [e]; exact ⟨fun z => absurd z (by omega), fun _ => g⟩
          · unfold colA
            rw [vu, vd, vl, vh, vw, oth 30 (by decide) (by decide), f30, if_pos rfl, eeu, eed]
            exact ⟨rfl, rfl, rfl, rfl, rfl, rfl⟩
        · exact ⟨(eqs a (by omega)).p (hp a (by omega)).1, (eqs a (by omega)).col (hp a (by omega)).2⟩
    rw [i_le, f32c, c0, f29, if_pos rfl, f28, if_pos rfl]
    exact ⟨hva, fun g => ⟨hva, fin _ (Or.inr ⟨g, rfl⟩)⟩, fun g => ⟨hva, fin _ (Or.inl ⟨by omega, rfl⟩)⟩⟩
  · have hlt := up_on (by omega) hi z
    have hvr : vp_in (nI i) 8 := vp_in_nI (by omega) (by omega)
    have go : ∀ x' y' w : Int32, x' = nI (lastp (fun r => decide (0 < gg S s r c)) (i + 1)) → y' = nI (lastp (fun r => decide (gg S s r c < 0)) (i + 1)) → w = nI i + 1 → k (x', y', w, U) := by
      intro x' y' w a b ew
      rw [nI_1] at ew
      subst ew
      exact hk2 hlt _ _ _ ⟨rfl, a, b⟩
    refine ⟨hvr, hvc, hvr, fun v ev => ?_⟩
    rw [nI_clamp (by omega), nI_clamp (by omega)] at ev
    have eA : (U.1 (14 + i) c).toInt = aC S i c := by unfold aC; rw [hk.1 (14 + i) (kpt_row (by omega))]
    have hb := (hfl.1 c hc).1 i hlt
    have hs := hfl.2.1 i hlt
    have hv : v.toInt = gg S s i c := by
      rw [ev, i_mul (by rw [eA, h23 i hlt]; rcases hs with e | e <;> rw [e] <;> omega) (by rw [eA, h23 i hlt]; rcases hs with e | e <;> rw [e] <;> omega), eA, h23 i hlt]
      rfl
    unfold X1_layColumn_b48 X1_layColumn_b62
    rw [i_le, i_le, hv, c0]
    have u1 : 0 < gg S s i c → lastp (fun r => decide (0 < gg S s r c)) (i + 1) = i := fun g => by rw [lastp_s, if_pos (decide_eq_true g)]
    have u0 : ¬ 0 < gg S s i c → lastp (fun r => decide (0 < gg S s r c)) (i + 1) = lastp (fun r => decide (0 < gg S s r c)) i := fun g => by rw [lastp_s, if_neg (by rw [decide_eq_true_eq]; exact g)]
    have d1 : gg S s i c < 0 → lastp (fun r => decide (gg S s r c < 0)) (i + 1) = i := fun g => by rw [lastp_s, if_pos (decide_eq_true g)]
    have d0 : ¬ gg S s i c < 0 → lastp (fun r => decide (gg S s r c < 0)) (i + 1) = lastp (fun r => decide (gg S s r c < 0)) i := fun g => by rw [lastp_s, if_neg (by rw [decide_eq_true_eq]; exact g)]
    exact ⟨fun g => ⟨fun g2 w ew => go _ _ w (by rw [u0 (by omega)]) (by rw [d0 (by omega)]) ew, fun g2 w ew => go _ _ w (by rw [u0 (by omega)]) (by rw [d1 (by omega)]) ew⟩, fun g => ⟨fun g2 w ew => go _ _ w (by rw [u1 (by omega)]) (by rw [d0 (by omega)]) ew, fun g2 w ew => go _ _ w (by rw [u1 (by omega)]) (by rw [d1 (by omega)]) ew⟩⟩
