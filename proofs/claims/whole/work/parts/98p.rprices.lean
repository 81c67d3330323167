/-! the reference's way() and findPrices() -/
theorem bfx_bf {n E : Nat} {tl hd : Nat → Nat} {w : Nat → Int} {src : Nat → Prop} {F B : Int} {k i l : Nat} {d : Nat → Int} {par : Nat → Nat} {x : Bool} (hx : x = true ↔ l < E) (h : bfx n E tl hd w src F B k i l d par) : bf n E tl hd w (fun _ => True) src F B k i x d par := by
  obtain ⟨τ, r, t, a1, a2, a3, a4, a5, a6, a7⟩ := h
  refine ⟨τ, r, t, a1, a2, fun e he _ hde g => a3 e he hde g, a4, fun e => a5 ?_, fun e => ?_, a7⟩
  · refine Nat.le_of_not_lt (fun g => ?_)
    rw [hx.mpr g] at e
    exact absurd e (by decide)
  · have := a6 (hx.mp e)
    exact ⟨hd l, this.1, this.2⟩
theorem bfC_lb {n E : Nat} {tl hd : Nat → Nat} {w : Nat → Int} {src : Nat → Prop} {F : Int} {d : Nat → Int} {par : Nat → Nat} {ρ : Nat → Int} {f : Nat} (hn : ∀ e, e < E → tl e < n) (hs : ∀ v, src v → v = f) (hρ : ∀ e, e < E → ρ (hd e) ≤ ρ (tl e) + w e) (h : bfC n E tl hd w (fun _ => True) src F d par) : ∀ v, v < n → d v < F → ρ v - ρ f ≤ d v := by
  obtain ⟨τ, a1, a2, a3⟩ := h
  have key : ∀ m v, τ v ≤ m → v < n → d v < F → ρ v - ρ f ≤ d v := fun m => by
    induction m with
    | zero =>
      intro v hm hv hd0
      by_cases g : par v < E
      · have := ((a1 v hv).1 g).2.2.2.2.2; omega
      · rcases (a1 v hv).2 (by omega) with e | ⟨e1, e2⟩
        · omega
        · rw [hs v e1]
          have := hs v e1
          subst this
          omega
    | succ m ih =>
      intro v hm hv hd0
      by_cases g : par v < E
      · obtain ⟨_, b2, b3, b4, b5, b6⟩ := (a1 v hv).1 g
        have i1 := ih (tl (par v)) (by omega) (hn _ g) b3
        have r1 := hρ (par v) g
        rw [b2] at r1
        omega
      · rcases (a1 v hv).2 (by omega) with e | ⟨e1, e2⟩
        · omega
        · have := hs v e1
          subst this
          omega
  exact fun v hv hd0 => key (τ v) v (Nat.le_refl _) hv hd0
theorem x7_way {nc nr E f g : Nat} {B : Int} {π : Nat → Int} {S T : ZS} {Q : Int64 → ZS → Prop} (hC : zC S nc nr) (hk : zKp S T) (hE : edS T E nr B) (hE60 : E ≤ 60) (hB0 : 0 ≤ B) (hB : B ≤ 10000000) (hf : f ≤ nr) (hg : g ≤ nr) (hπ : ∀ e, e < E → π (hdR T e) ≤ π (tlR T e) + wR T e)
    (q : ∀ (v : Int64) (U : ZS), zSp T U → v.toInt = faT U g → (∀ e, e < E → faT U (tlR T e) < 1000000000000 → faT U (hdR T e) ≤ faT U (tlR T e) + wR T e) → faT U f = 0 → (∀ v, v < nr + 1 → faT U v = 1000000000000 ∨ (-6600000000 ≤ faT U v ∧ faT U v ≤ 6600000000)) → (∀ ρ : Nat → Int, (∀ e, e < E → ρ (hdR T e) ≤ ρ (tlR T e) + wR T e) → ∀ v, v < nr + 1 → faT U v < 1000000000000 → ρ v - ρ f ≤ faT U v) → Q v U) : X7_way_ (nI f) (nI g) T Q := by
  have h2 := hC.2.1
  have cF : (1000000000000 : Int64).toInt = 1000000000000 := by decide
  have c0 : (0 : Int64).toInt = 0 := by decide
  unfold X7_way_
  refine zl_up 9 (fun i U => U.1 = T.1 ∧ (∀ n, n ≠ 79 → U.2 n = T.2 n) ∧ ∀ v, v < i → faT U v = 1000000000000) (by omega) (fun i U k hi hJ hk2 => ?_) T ⟨rfl, fun _ _ => rfl, fun v hv => by omega⟩
  obtain ⟨u1, u2, uF⟩ := hJ
  show X7_way__B2 (nI f) (nI g) (nI i) U Q k
  unfold X7_way__B2
  refine ⟨fun z => ?_, fun z => ?_⟩
  · have := up_end (n := 9) (by omega) hi z
    subst this
    unfold X7_way__b23
    rw [nI_clamp (by omega)]
    refine ⟨vp_in_nI (by omega) (by omega), fun V eV => ?_⟩
    have v1 : V.1 = T.1 := by rw [eV]; exact u1
    have v2 : ∀ n, n ≠ 79 → V.2 n = T.2 n := fun n hn => by rw [eV, zw_ne hn]; exact u2 n hn
    have fV : zSp T V := ⟨fun n _ => by rw [v1], v2⟩
    have vF : ∀ v, v < 9 → faT V v = if v = f then 0 else 1000000000000 := fun v hv => by
      unfold faT
      rw [eV, zw_at]
      by_cases e : v = f
      · rw [if_pos ⟨rfl, e⟩, if_pos e]; exact c0
      · rw [if_neg (fun z => e z.2), if_neg e]; exact uF v hv
    have ed := fV.ed
    have hEV : edS V E nr B := by
      refine ⟨by rw [v1]; exact hE.1, fun e he => ?_⟩
      rw [v1, ed.1, ed.2.1, ed.2.2.1]
      exact hE.2 e he
    refine x7_spread (src := fun v => v = f) hC (hk.tr fV.kp) hEV hE60 hB0 hB (fun v hv => ?_) (fun v hv e => by rw [vF v (by omega), if_pos e]) (fun U x l par fU hxl hbf h80 => ?_)
    · rw [vF v (by omega)]
      by_cases e : v = f
      · rw [if_pos e]; exact Or.inr ⟨e, rfl⟩
      · rw [if_neg e]; exact Or.inl rfl
    · rw [ed.1, ed.2.1, ed.2.2.1] at hbf
      have hnd : ∀ e, e < E → tlR T e < nr + 1 := fun e he => by have := hE.2 e he; omega
      have hl : E ≤ l := by
        refine Nat.le_of_not_lt (fun g => ?_)
        have := bf_short hnd (π := π) (fun e he _ => hπ e he) (bfx_bf (x := true) ⟨fun _ => g, fun _ => rfl⟩ hbf) rfl
        omega
      have hC2 := bf_done hnd (bfx_bf (x := false) ⟨fun z => absurd z (by decide), fun z => absurd z (by omega)⟩ hbf)
      have lb : ∀ ρ : Nat → Int, (∀ e, e < E → ρ (hdR T e) ≤ ρ (tlR T e) + wR T e) → ∀ v, v < nr + 1 → faT U v < 1000000000000 → ρ v - ρ f ≤ faT U v := fun ρ hρ => bfC_lb hnd (fun v e => e) hρ hC2
      have bd : ∀ v, v < nr + 1 → faT U v = 1000000000000 ∨ (-6600000000 ≤ faT U v ∧ faT U v ≤ 6600000000) := fun v hv => by
        obtain ⟨τ, r, t, a1, a2, a3, a4, a5, a6, a7⟩ := hbf
        have := kE_10 (k := nr + 2) (i := E) hB0 hB (by omega) hE60 (Nat.le_refl _)
        rcases a4 v hv with e | e
        · exact Or.inl e
        · right; omega
      have f0 : faT U f = 0 := by
        have s1 : faT U f < 1000000000000 := hC2.choose_spec.2.2 f (by omega) rfl
        have l1 := lb π hπ f (by omega) s1
        have mono : faT U f ≤ 0 := by
          -- a label never rises
          obtain ⟨τ, a1, a2, a3⟩ := hC2
          refine Int.not_lt.mp (fun gt => ?_)
          have key : ∀ m v, τ v ≤ m → v < nr + 1 → faT U v < 1000000000000 → ∃ v0, v0 = f ∧ faT U v0 = 0 ∨ False := fun m => by
            induction m with
            | zero =>
              intro v hm hv hd0
              by_cases g : par v < E
              · have := ((a1 v hv).1 g).2.2.2.2.2; omega
              · rcases (a1 v hv).2 (by omega) with e | ⟨e1, e2⟩
                · omega
                · exact ⟨v, Or.inl ⟨e1, e2⟩⟩
            | succ m ih =>
              intro v hm hv hd0
              by_cases g : par v < E
              · obtain ⟨_, b2, b3, b4, b5, b6⟩ := (a1 v hv).1 g
                exact ih (tlR T (par v)) (by omega) (hnd _ g) b3
              · rcases (a1 v hv).2 (by omega) with e | ⟨e1, e2⟩
                · omega
                · exact ⟨v, Or.inl ⟨e1, e2⟩⟩
          obtain ⟨v0, h | h⟩ := key (τ f) f (Nat.le_refl _) (by omega) s1
          · rw [h.1] at h; omega
          · exact h
        omega
      rw [nI_clamp (by omega)]
      refine ⟨vp_in_nI (by omega) (by omega), q _ U (fV.tr fU) rfl (fun e he hlt => ?_) f0 bd lb⟩
      exact hC2.choose_spec.2.1 e he trivial hlt
  · have hlt := up_on (n := 9) (by omega) hi z
    refine ⟨vp_in_nI (by omega) (by omega), fun V eV w ew => ?_⟩
    rw [nI_1] at ew
    rw [nI_clamp (by omega)] at eV
    subst ew
    refine hk2 hlt V ⟨by rw [eV]; exact u1, fun n hn => by rw [eV, zw_ne hn]; exact u2 n hn, fun v hv => ?_⟩
    unfold faT
    rw [eV, zw_at]
    by_cases e : v = i
    · rw [if_pos ⟨rfl, e⟩]; exact cF
    · rw [if_neg (fun z => e z.2)]; exact uF v (by omega)
/-- the lower of a price and a label -/
def gm (π d : Nat → Int) (C F : Int) (v : Nat) : Int := if d v < F then (if π v ≤ C + d v then π v else C + d v) else π v
theorem gm_cl {π d : Nat → Int} {C F w : Int} {t h : Nat} (hp : π h ≤ π t + w) (hd : d t < F → d h ≤ d t + w ∧ d h < F) : gm π d C F h ≤ gm π d C F t + w := by
  unfold gm
  by_cases a : d t < F
  · obtain ⟨b, c⟩ := hd a
    rw [if_pos a, if_pos c]
    split <;> split <;> omega
  · rw [if_neg a]
    split
    · split <;> omega
    · exact hp
def kI (S : ZS) (s x y : Nat → Int) (nc nr i : Nat) (t h : Nat) (w o : Int) : Prop := eK S s x nc nr nc nr t h w o ∨ ∃ q, q < i ∧ ((t = nr ∧ h = q ∧ w = y q ∧ o = 0) ∨ (t = q ∧ h = nr ∧ w = -y q ∧ o = 0))
theorem kI_pi {S : ZS} {s x y π : Nat → Int} {nc nr i : Nat} (hp : PiS S s x nc nr π) (hq : ∀ q, q < i → π q = y q) {t h : Nat} {w o : Int} (k : kI S s x y nc nr i t h w o) : π h ≤ π t + w := by
  rcases k with k | ⟨q, a, ⟨b1, b2, b3, _⟩ | ⟨b1, b2, b3, _⟩⟩
  · exact hp.2 t h w o k
  · rw [b1, b2, b3, hp.1, hq q a]; omega
  · rw [b1, b2, b3, hp.1, hq q a]; omega
/-- what lies between the labels is a price -/
theorem step_ex {S : ZS} {s x y π d1 d2 : Nat → Int} {nc nr i : Nat} {v : Int} (hC : zC S nc nr) (hi : i < nr) (hp : PiS S s x nc nr π) (hq : ∀ q, q < i → π q = y q)
    (c1 : ∀ t h w o, kI S s x y nc nr i t h w o → d1 t < 1000000000000 → d1 h ≤ d1 t + w ∧ d1 h < 1000000000000) (c2 : ∀ t h w o, kI S s x y nc nr i t h w o → d2 t < 1000000000000 → d2 h ≤ d2 t + w ∧ d2 h < 1000000000000)
    (z1 : d1 nr = 0) (z2 : d2 i = 0) (u1 : d1 i < 1000000000000 → v ≤ d1 i) (u2 : d2 nr < 1000000000000 → -v ≤ d2 nr) : prA S s x nc nr y i v := by
  by_cases g : v ≤ π i
  · have cl : ∀ t h w o, kI S s x y nc nr i t h w o → gm π d2 v 1000000000000 h ≤ gm π d2 v 1000000000000 t + w := fun t h w o k => gm_cl (kI_pi hp hq k) (c2 t h w o k)
    have n0 : gm π d2 v 1000000000000 nr = 0 := by
      have := hp.1
      unfold gm
      split
      · have := u2 (by assumption)
        split <;> omega
      · exact this
    refine ⟨gm π d2 v 1000000000000, ⟨n0, fun t h w o k => cl t h w o (Or.inl k)⟩, fun q hqi => ?_, ?_⟩
    · have a := cl nr q (y q) 0 (Or.inr ⟨q, hqi, Or.inl ⟨rfl, rfl, rfl, rfl⟩⟩)
      have b := cl q nr (-y q) 0 (Or.inr ⟨q, hqi, Or.inr ⟨rfl, rfl, rfl, rfl⟩⟩)
      omega
    · unfold gm
      rw [z2, if_pos (by omega)]
      split <;> omega
  · have c0 : ∀ t h w o, kI S s x y nc nr i t h w o → (fun u => π u + (v - π i)) h ≤ (fun u => π u + (v - π i)) t + w := fun t h w o k => by
      have := kI_pi hp hq k
      show π h + (v - π i) ≤ π t + (v - π i) + w
      omega
    have cl : ∀ t h w o, kI S s x y nc nr i t h w o → gm (fun u => π u + (v - π i)) d1 0 1000000000000 h ≤ gm (fun u => π u + (v - π i)) d1 0 1000000000000 t + w := fun t h w o k => gm_cl (c0 t h w o k) (c1 t h w o k)
    have n0 : gm (fun u => π u + (v - π i)) d1 0 1000000000000 nr = 0 := by
      have := hp.1
      unfold gm
      dsimp only
      rw [z1, if_pos (by omega)]
      split <;> omega
    refine ⟨gm (fun u => π u + (v - π i)) d1 0 1000000000000, ⟨n0, fun t h w o k => cl t h w o (Or.inl k)⟩, fun q hqi => ?_, ?_⟩
    · have a := cl nr q (y q) 0 (Or.inr ⟨q, hqi, Or.inl ⟨rfl, rfl, rfl, rfl⟩⟩)
      have b := cl q nr (-y q) 0 (Or.inr ⟨q, hqi, Or.inr ⟨rfl, rfl, rfl, rfl⟩⟩)
      omega
    · unfold gm
      dsimp only
      split
      · have := u1 (by assumption)
        split <;> omega
      · omega
theorem canI_step {S : ZS} {s x y : Nat → Int} {nc nr i : Nat} {v : Int} (h : canI S s x nc nr i y) (hv : nz (prA S s x nc nr y i) v) : canI S s x nc nr (i + 1) (fup y i v) := by
  have e : ∀ q, q < i → fup y i v q = y q := fun q hq => fup_n _ _ (by omega)
  refine ⟨?_, fun r hr => ?_⟩
  · obtain ⟨π, a, b, c⟩ := hv.1
    refine ⟨π, a, fun q hq => ?_⟩
    by_cases w : q = i
    · rw [w, fup_e]; exact c
    · rw [e q (by omega)]; exact b q (by omega)
  · rw [prA_congr (z := y) (fun q hq => e q (by omega))]
    by_cases w : r = i
    · rw [w, fup_e]; exact hv
    · rw [e r (by omega)]; exact h.2 r (by omega)
def zFp (T U : ZS) : Prop := (∀ n, n ≠ 61 → n ≠ 75 → n ≠ 76 → n ≠ 78 → n ≠ 80 → U.1 n = T.1 n) ∧ ∀ j, j ≠ 20 → U.1 61 j = T.1 61 j
theorem zFp.tr {T U V : ZS} (h : zFp T U) (g : zFp U V) : zFp T V := ⟨fun n a b c d e => (g.1 n a b c d e).trans (h.1 n a b c d e), fun j a => (g.2 j a).trans (h.2 j a)⟩
theorem zEd.fp {T U : ZS} (h : zEd T U) : zFp T U := ⟨fun n a b c d _ => h.1 n a b c d, h.2.1⟩
theorem zSp.fp {T U : ZS} (h : zSp T U) : zFp T U := ⟨fun n _ _ _ _ e => h.1 n e, fun j _ => by rw [h.1 61 (by decide)]⟩
theorem zFp.kp {T U : ZS} (h : zFp T U) : zKp T U := ⟨fun n hn => h.1 n (fun e => by subst e; cases hn) (fun e => by subst e; cases hn) (fun e => by subst e; cases hn) (fun e => by subst e; cases hn) (fun e => by subst e; cases hn), h.2 1 (by decide), h.2 2 (by decide)⟩
theorem zFp.sg {S T U : ZS} {s : Nat → Int} {nr : Nat} (h : zFp T U) (g : rSg S T s nr) : rSg S U s nr := ⟨g.1.tr h.kp, fun r hr => by rw [h.1 71 (by decide) (by decide) (by decide) (by decide) (by decide)]; exact g.2 r hr⟩
theorem edL.sp {T U : ZS} {n : Nat} {K : Nat → Nat → Int → Int → Prop} (h : edL T n K) (f : zSp T U) : edL U n K := by
  refine ⟨by rw [f.1 61 (by decide)]; exact h.1, fun e he => ?_, fun t h2 w o k => ?_⟩
  · rw [f.1 75 (by decide), f.1 76 (by decide), f.1 78 (by decide), f.2 77 (by decide)]; exact h.2.1 e he
  · obtain ⟨e, b⟩ := h.2.2 t h2 w o k
    refine ⟨e, ?_⟩
    rw [f.1 75 (by decide), f.1 76 (by decide), f.1 78 (by decide), f.2 77 (by decide)]; exact b
set_option maxHeartbeats 2000000 in
theorem x7_findPrices {nc nr : Nat} {s ρ : Nat → Int} {S T : ZS} {Q : ZS → Prop} (hC : zC S nc nr) (hfl : flw S nc nr s) (hT : rSg S T s nr) (hb : inB (loc S) (hic S) nc (bsT T)) (hρ : clP S s (bsT T) nc nr ρ) (hρb : ∀ v, v < nr + 1 → -400000 ≤ ρ v ∧ ρ v ≤ 400000)
    (q : ∀ U y, zFp T U → canI S s (bsT T) nc nr nr y → (∀ r, r < nr → (U.2 69 r).toInt = y r * s r) → Q U) : X7_findPrices T Q := by
  have h2 := hC.2.1
  have cF : (1000000000000 : Int64).toInt = 1000000000000 := by decide
  have c0 : (0 : Int64).toInt = 0 := by decide
  have z32 : (0 : Int32).toInt = 0 := by decide
  unfold X7_findPrices
  refine x7_findEdges hC hfl hT hb (fun T1 n hn f1 e1 => ?_)
  refine zl_up nr (fun i U => zFp T U ∧ ∃ n y, n ≤ 36 + 2 * i ∧ edL U n (kI S s (bsT T) y nc nr i) ∧ canI S s (bsT T) nc nr i y ∧ ∀ r, r < i → (U.2 69 r).toInt = y r * s r) (by omega) (fun i U k hi hJ hk2 => ?_) T1 ⟨f1.fp, n, fun _ => 0, by omega, e1.congr (fun t h w o => ⟨Or.inl, fun g => g.elim id (fun ⟨q, a, _⟩ => by omega)⟩), ⟨⟨fun v => ρ v - ρ nr, ⟨Int.sub_self _, fun t h w o k => by have := hρ t h w o k; show ρ h - ρ nr ≤ ρ t - ρ nr + w; omega⟩, fun q hq => by omega⟩, fun r hr => by omega⟩, fun r hr => by omega⟩
  obtain ⟨fU, m, y, hm, eU, cU, pU⟩ := hJ
  have gU := fU.sg hT
  show X7_findPrices_B6 (nI i) U Q k
  unfold X7_findPrices_B6 X7_findPrices_b122
  rw [(hC.kp gU.1).2.2.2.2.2.1]
  refine ⟨fun z => ?_, fun z => ?_⟩
  · have := up_end (by omega) hi z
    subst this
    exact q U y fU cU pU
  have hlt := up_on (by omega) hi z
  have hvi : vp_in (nI i) 8 := vp_in_nI (by omega) (by omega)
  have yb : ∀ q, q < i → -6400000 ≤ y q ∧ y q ≤ 6400000 := fun q hq => by
    have := canI_bd (K := 400000) (by omega) hi hρ hρb cU q hq
    omega
  have kb : ∀ t h w o, kI S s (bsT T) y nc nr i t h w o → t ≤ nr ∧ h ≤ nr ∧ -10000000 ≤ w ∧ w ≤ 10000000 := fun t h w o k => by
    rcases k with k | ⟨q, a, ⟨b1, b2, b3, _⟩ | ⟨b1, b2, b3, _⟩⟩
    · have := eK_nd hC k; omega
    · have := yb q a; omega
    · have := yb q a; omega
  have cU2 := cU
  obtain ⟨⟨π, hp, hq⟩, _⟩ := cU2
  have toS : ∀ V : ZS, edL V m (kI S s (bsT T) y nc nr i) → edS V m nr 10000000 ∧ ∀ ρ : Nat → Int, (∀ t h w o, kI S s (bsT T) y nc nr i t h w o → ρ h ≤ ρ t + w) → ∀ e, e < m → ρ (hdR V e) ≤ ρ (tlR V e) + wR V e := fun V eV => by
    refine ⟨⟨eV.1, fun e he => ?_⟩, fun ρ hρ e he => hρ _ _ _ _ (eV.at he).2.2⟩
    obtain ⟨a, b, c⟩ := eV.at he
    obtain ⟨d1, d2, d3, d4⟩ := kb _ _ _ _ c
    exact ⟨a, b, d1, d2, d3, d4⟩
  have toC : ∀ V W : ZS, edL V m (kI S s (bsT T) y nc nr i) → (∀ e, e < m → faT W (tlR V e) < 1000000000000 → faT W (hdR V e) ≤ faT W (tlR V e) + wR V e) → (∀ v, v < nr + 1 → faT W v = 1000000000000 ∨ (-6600000000 ≤ faT W v ∧ faT W v ≤ 6600000000)) → ∀ t h w o, kI S s (bsT T) y nc nr i t h w o → faT W t < 1000000000000 → faT W h ≤ faT W t + w ∧ faT W h < 1000000000000 := fun V W eV cl bd t h w o k g => by
    obtain ⟨e, b1, b2, b3, b4, b5⟩ := eV.2.2 t h w o k
    have nk := kb t h w o k
    have t1 : tlR V e = t := by unfold tlR; rw [b2, nI_clamp (by omega)]
    have t2 : hdR V e = h := by unfold hdR; rw [b3, nI_clamp (by omega)]
    have t3 : wR V e = w := b4
    have c := cl e b1 (by rw [t1]; exact g)
    rw [t1, t2, t3] at c
    have := bd t (by omega)
    exact ⟨c, by omega⟩
  have sU := toS U eU
  refine x7_way (π := π) hC gU.1 sU.1 (by omega) (by omega) (by omega) (Nat.le_refl nr) (by omega) (sU.2 π (fun t h w o k => kI_pi hp hq k)) (fun a V fV av aC a0 aB aL => ?_)
  have gV := fV.sg gU
  have eV := eU.sp fV
  have sV := toS V eV
  rw [(hC.kp gV.1).2.2.2.2.2.1]
  refine x7_way (π := π) hC gV.1 sV.1 (by omega) (by omega) (by omega) (by omega) (Nat.le_refl nr) (sV.2 π (fun t h w o k => kI_pi hp hq k)) (fun b W fW bv bC b0 bB bL => ?_)
  have gW := fW.sg gV
  have eW := eV.sp fW
  have cl1 := toC U V eU aC aB
  have cl2 := toC V W eV bC bB
  have aI := aB i (by omega)
  have bN := bB nr (by omega)
  -- the chosen price
  have fin : ∀ t0 : Int64, (faT V i < 1000000000000 → t0.toInt ≤ faT V i) → (faT W nr < 1000000000000 → -t0.toInt ≤ faT W nr) → (0 < t0.toInt → faT W nr < 1000000000000 ∧ t0.toInt = -faT W nr) → (t0.toInt < 0 → faT V i < 1000000000000 ∧ t0.toInt = faT V i) → X7_findPrices_b73 (nI i) t0 W Q k := by
    intro t0 w1 w2 w3 w4
    have ex := step_ex hC hlt hp hq cl1 cl2 a0 b0 w1 w2
    have hnz : nz (prA S s (bsT T) nc nr y i) t0.toInt := by
      refine ⟨ex, fun g w hw => ?_, fun g w hw => ?_⟩
      · obtain ⟨g1, g2⟩ := w3 g
        obtain ⟨π', p1, p2, p3⟩ := hw
        have := bL π' (sV.2 π' (fun t h w o k => kI_pi p1 p2 k)) nr (by omega) g1
        rw [p1.1, p3] at this
        omega
      · obtain ⟨g1, g2⟩ := w4 g
        obtain ⟨π', p1, p2, p3⟩ := hw
        have := aL π' (sU.2 π' (fun t h w o k => kI_pi p1 p2 k)) i (by omega) g1
        rw [p1.1, p3] at this
        omega
    have cN := canI_step cU hnz
    have tb := canI_bd (K := 400000) (by omega) (by omega) hρ hρb cN i (by omega)
    rw [fup_e] at tb
    have tb2 : -6400000 ≤ t0.toInt ∧ t0.toInt ≤ 6400000 := by omega
    have nt : (-t0).toInt = -t0.toInt := by
      rw [Int64.toInt_neg]
      exact l_bm (by omega) (by omega)
    unfold X7_findPrices_b73
    rw [nI_clamp (by omega)]
    refine ⟨hvi, hvi, fun Y eY => ?_⟩
    have y1 : Y.1 = W.1 := by rw [eY]; rfl
    have y2 : ∀ n, n ≠ 69 → Y.2 n = W.2 n := fun n hn => by rw [eY, zw_ne hn]
    have eY2 : edL Y m (kI S s (bsT T) y nc nr i) := by
      refine ⟨by rw [y1]; exact eW.1, fun e he => ?_, fun t h w o kk => ?_⟩
      · rw [y1, y2 77 (by decide)]; exact eW.2.1 e he
      · rw [y1, y2 77 (by decide)]; exact eW.2.2 t h w o kk
    rw [y1, (hC.kp gW.1).2.2.2.2.2.1]
    refine x7_edge eY2 (by omega) h2 (by omega) (fun Z fZ eZ => ?_)
    have z2 : Z.1 61 2 = nI nr := by rw [fZ.2.1 2 (by decide), y1]; exact (hC.kp gW.1).2.2.2.2.2.1
    rw [z2]
    refine x7_edge eZ (by omega) (by omega) h2 (fun X fX eX w ew => ?_)
    rw [nI_1] at ew
    subst ew
    have fr : zFp T X := by
      have a1 : zFp T W := (fU.tr fV.fp).tr fW.fp
      have a2 : zFp W Y := ⟨fun n _ _ _ _ _ => by rw [y1], fun j _ => by rw [y1]⟩
      exact ((a1.tr a2).tr fZ.fp).tr fX.fp
    refine hk2 hlt X ⟨fr, m + 1 + 1, fup y i t0.toInt, by omega, eX.congr (fun t h w o => ?_), cN, fun r hr => ?_⟩
    · rw [nt, z32]
      have fo : ∀ q, q < i → fup y i t0.toInt q = y q := fun q hq => fup_n _ _ (by omega)
      unfold kI
      refine ⟨fun g => ?_, fun g => ?_⟩
      · rcases g with ((g | ⟨q, a, g⟩) | g) | g
        · exact Or.inl g
        · exact Or.inr ⟨q, by omega, by rw [fo q a]; exact g⟩
        · exact Or.inr ⟨i, by omega, Or.inl (by rw [fup_e]; exact g)⟩
        · exact Or.inr ⟨i, by omega, Or.inr (by rw [fup_e]; exact g)⟩
      · rcases g with g | ⟨q, a, g⟩
        · exact Or.inl (Or.inl (Or.inl g))
        · by_cases e : q = i
          · subst e
            rw [fup_e] at g
            rcases g with g | g
            · exact Or.inl (Or.inr g)
            · exact Or.inr g
          · rw [fo q (by omega)] at g
            exact Or.inl (Or.inl (Or.inr ⟨q, by omega, g⟩))
    · rw [fX.2.2 69 (by decide), fZ.2.2 69 (by decide), eY, zw_at]
      by_cases e : r = i
      · rw [if_pos ⟨rfl, e⟩, e, fup_e]
        have s1 := gW.2 i hlt
        have sb := hfl.2.1 i hlt
        have m1 : -6400000 ≤ t0.toInt * s i ∧ t0.toInt * s i ≤ 6400000 := by rcases sb with g | g <;> rw [g] <;> omega
        rw [l_mul (by rw [l_i, s1]; omega) (by rw [l_i, s1]; omega), l_i, s1]
      · rw [if_neg (fun z => e z.2), fup_n _ _ e, fW.2 69 (by decide), fV.2 69 (by decide)]
        exact pU r (by omega)
  have pa : faT V i < 1000000000000 → π i ≤ faT V i := fun g => by
    have := aL π (sU.2 π (fun t h w o k => kI_pi hp hq k)) i (by omega) g
    rw [hp.1] at this
    omega
  have pb : faT W nr < 1000000000000 → -π i ≤ faT W nr := fun g => by
    have := bL π (sV.2 π (fun t h w o k => kI_pi hp hq k)) nr (by omega) g
    rw [hp.1] at this
    omega
  have nb : faT W nr < 1000000000000 → (-b).toInt = -faT W nr := fun g => by
    rw [Int64.toInt_neg, bv]
    exact l_bm (by omega) (by omega)
  have b46 : ∀ t0 : Int64, (t0.toInt = 0 ∧ 0 ≤ faT V i) ∨ (t0.toInt = faT V i ∧ faT V i < 0) → X7_findPrices_b46 (nI i) b t0 W Q k := by
    intro t0 ht
    unfold X7_findPrices_b46 X7_findPrices_b71
    rw [lg_ge, cF, bv]
    refine ⟨fun g => fin t0 (fun g1 => ?_) (fun g1 => by omega) (fun g1 => by omega) (fun g1 => by omega), fun g => ⟨fun g2 => fin t0 (fun g1 => by omega) (fun g1 => ?_) (fun g1 => by omega) (fun g1 => by omega), fun g2 => fin (-b) (fun g1 => ?_) (fun g1 => ?_) (fun g1 => ⟨by omega, nb (by omega)⟩) (fun g1 => ?_)⟩⟩
    · omega
    · have e := nb (by omega)
      have l := lg_gt (x := -b) (y := (0 : Int64))
      rw [c0, e] at l
      rw [← Int32.not_lt, l] at g2
      rcases ht with ⟨h1, h3⟩ | ⟨h1, h3⟩
      · omega
      · have := pa (by omega)
        have := pb g1
        omega
    · have e := nb (by omega)
      have := pa g1
      have := pb (by omega)
      omega
    · have e := nb (by omega)
      omega
    · have e := nb (by omega)
      have l := lg_gt (x := -b) (y := (0 : Int64))
      rw [c0, e] at l
      rw [← Int32.not_lt, Classical.not_not, l] at g2
      omega
  rw [lg_ge, c0, av]
  exact ⟨fun g => b46 0 (Or.inl ⟨c0, g⟩), fun g => b46 a (Or.inr ⟨av, by omega⟩)⟩
