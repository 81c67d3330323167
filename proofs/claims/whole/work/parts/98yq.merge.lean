/-! a graph in pieces: two pieces laid together at a node -/
def mgp (u w v : Nat) : Nat := if v = w then u else v
theorem mgp_inj {u w x y : Nat} (h : (x ≠ w ∧ y ≠ w) ∨ (x ≠ u ∧ y ≠ u)) (e : mgp u w x = mgp u w y) : x = y := by
  unfold mgp at e
  by_cases q1 : x = w <;> by_cases q2 : y = w
  · omega
  · rw [if_pos q1, if_neg q2] at e; omega
  · rw [if_neg q1, if_pos q2] at e; omega
  · rw [if_neg q1, if_neg q2] at e; exact e
theorem mgp_iv {u w x : Nat} (hne : u ≠ w) : iv (mgp u w x) w = 0 ∧ iv (mgp u w x) u = iv x u + iv x w ∧ ∀ v, v ≠ u → v ≠ w → iv (mgp u w x) v = iv x v := by
  unfold iv mgp
  by_cases q : x = w
  · rw [if_pos q]
    refine ⟨by rw [if_neg hne], by rw [if_pos rfl, if_neg (by omega), if_pos q]; rfl, fun v n1 n2 => by rw [if_neg (by omega), if_neg (by omega)]⟩
  · rw [if_neg q]
    exact ⟨by rw [if_neg q], by rw [if_neg q]; omega, fun v _ _ => rfl⟩
theorem hkdv_0 {eu ev : Nat → Nat} {z : Nat → Int} {x : Nat} (h : ∀ c, c < 10 → (eu c = x ∨ ev c = x) → z c = 0) : hkdv eu ev z x = 0 := by
  unfold hkdv
  rw [sI_congr (h := fun _ => 0) (fun c hc => ?_), sI_0]
  by_cases q : eu c = x ∨ ev c = x
  · rw [h c hc q]; exact Int.mul_zero _
  · unfold iv
    rw [if_neg (fun g => q (Or.inr g)), if_neg (fun g => q (Or.inl g))]
    show (0 - 0 : Int) * z c = 0
    rw [Int.sub_self, Int.zero_mul]
theorem hkRG_mg {eu ev : Nat → Nat} {z : Nat → Int} {A : Nat → Prop} {u w : Nat} (hA : ∀ c, c < 10 → (A (eu c) ↔ A (ev c))) (u9 : u < 9) (w9 : w < 9) (hu : A u) (hw : ¬ A w) (h : hkRG eu ev z) : hkRG (fun c => mgp u w (eu c)) (fun c => mgp u w (ev c)) z := by
  obtain ⟨za, zb, ⟨a, b, a1, b1, zc⟩, zd, ze⟩ := h
  have hne : u ≠ w := fun e => hw (by rw [← e]; exact hu)
  have side := ze A hA
  have mlt : ∀ x, x < 9 → mgp u w x < 9 := fun x hx => by unfold mgp; split <;> omega
  have dw : hkdv (fun c => mgp u w (eu c)) (fun c => mgp u w (ev c)) z w = 0 := by
    unfold hkdv
    rw [sI_congr (h := fun _ => 0) (fun c _ => ?_), sI_0]
    show (iv (mgp u w (ev c)) w - iv (mgp u w (eu c)) w) * z c = 0
    rw [(mgp_iv hne).1, (mgp_iv hne).1, Int.sub_self, Int.zero_mul]
  have du : hkdv (fun c => mgp u w (eu c)) (fun c => mgp u w (ev c)) z u = hkdv eu ev z u + hkdv eu ev z w := by
    unfold hkdv
    rw [← sI_add]
    refine sI_congr (fun c _ => ?_)
    show (iv (mgp u w (ev c)) u - iv (mgp u w (eu c)) u) * z c = (iv (ev c) u - iv (eu c) u) * z c + (iv (ev c) w - iv (eu c) w) * z c
    rw [(mgp_iv hne).2.1, (mgp_iv hne).2.1, ← Int.add_mul]
    congr 1
    omega
  have dv : ∀ v, v ≠ u → v ≠ w → hkdv (fun c => mgp u w (eu c)) (fun c => mgp u w (ev c)) z v = hkdv eu ev z v := fun v n1 n2 => by
    unfold hkdv
    refine sI_congr (fun c _ => ?_)
    show (iv (mgp u w (ev c)) v - iv (mgp u w (eu c)) v) * z c = _
    rw [(mgp_iv hne).2.2 v n1 n2, (mgp_iv hne).2.2 v n1 n2]
  have zw : (∀ c, c < 10 → z c ≠ 0 → A (eu c)) → ∀ c, c < 10 → (eu c = w ∨ ev c = w) → z c = 0 := fun g c hc q => Classical.byContradiction fun n => by
    have k := g c hc n
    rcases q with q | q
    · rw [q] at k; exact hw k
    · exact hw (by rw [← q]; exact (hA c hc).mp k)
  have zu : (∀ c, c < 10 → z c ≠ 0 → ¬ A (eu c)) → ∀ c, c < 10 → (eu c = u ∨ ev c = u) → z c = 0 := fun g c hc q => Classical.byContradiction fun n => by
    have k := g c hc n
    rcases q with q | q
    · rw [q] at k; exact k hu
    · exact k ((hA c hc).mpr (by rw [q]; exact hu))
  have mE : ∀ x v, v ≠ u → v ≠ w → (mgp u w x = v ↔ x = v) := fun x v n1 n2 => by
    unfold mgp
    by_cases q : x = w
    · rw [if_pos q]; omega
    · rw [if_neg q]
  have mU : ∀ x, (mgp u w x = u ↔ (x = u ∨ x = w)) := fun x => by
    unfold mgp
    by_cases q : x = w
    · rw [if_pos q]; omega
    · rw [if_neg q]; omega
  have mW : ∀ x, mgp u w x ≠ w := fun x => by
    unfold mgp
    by_cases q : x = w
    · rw [if_pos q]; omega
    · rw [if_neg q]; exact q
  refine ⟨za, fun v hv => ?_, ⟨mgp u w a, mgp u w b, mlt a a1, mlt b b1, fun v hv => ?_⟩, fun c d hc hd hcd hp z1 z2 => ?_, fun A' hA' => ze (fun v => A' (mgp u w v)) hA'⟩
  · by_cases q1 : v = w
    · rw [q1, dw, sI_congr (g := fun c => if mgp u w (eu c) = w ∨ mgp u w (ev c) = w then z c * z c else 0) (h := fun _ => 0) (fun c _ => if_neg (fun g => g.elim (mW _) (mW _))), sI_0]
      decide
    · by_cases q2 : v = u
      · rw [q2, du]
        rcases side with g | g
        · have e := zw g
          rw [hkdv_0 e, sI_congr (g := fun c => if mgp u w (eu c) = u ∨ mgp u w (ev c) = u then z c * z c else 0) (h := fun c => if eu c = u ∨ ev c = u then z c * z c else 0) (fun c hc => ?_)]
          · have := zb u u9
            rw [Int.add_zero]; exact this
          · by_cases k : eu c = w ∨ ev c = w
            · rw [e c hc k]; split <;> split <;> rfl
            · have i1 : (mgp u w (eu c) = u ∨ mgp u w (ev c) = u) ↔ (eu c = u ∨ ev c = u) := by rw [mU, mU]; omega
              simp only [i1]
        · have e := zu g
          rw [hkdv_0 e, sI_congr (g := fun c => if mgp u w (eu c) = u ∨ mgp u w (ev c) = u then z c * z c else 0) (h := fun c => if eu c = w ∨ ev c = w then z c * z c else 0) (fun c hc => ?_)]
          · have := zb w w9
            rw [Int.zero_add]; exact this
          · by_cases k : eu c = u ∨ ev c = u
            · rw [e c hc k]; split <;> split <;> rfl
            · have i1 : (mgp u w (eu c) = u ∨ mgp u w (ev c) = u) ↔ (eu c = w ∨ ev c = w) := by rw [mU, mU]; omega
              simp only [i1]
      · rw [dv v q2 q1, sI_congr (g := fun c => if mgp u w (eu c) = v ∨ mgp u w (ev c) = v then z c * z c else 0) (h := fun c => if eu c = v ∨ ev c = v then z c * z c else 0) (fun c _ => by simp only [mE _ v q2 q1])]
        exact zb v hv
  · by_cases q1 : v = w
    · rw [q1, dw, (mgp_iv hne).1, (mgp_iv hne).1]; rfl
    · by_cases q2 : v = u
      · rw [q2, du, zc u u9, zc w w9, (mgp_iv hne).2.1, (mgp_iv hne).2.1]; omega
      · rw [dv v q2 q1, zc v hv, (mgp_iv hne).2.2 v q2 q1, (mgp_iv hne).2.2 v q2 q1]
  · have hp2 : hkpl eu ev c d := by
      rcases side with g | g
      · have c1 := g c hc z1
        have c2 := (hA c hc).mp c1
        have d1 := g d hd z2
        have d2 := (hA d hd).mp d1
        have nw : ∀ x, A x → x ≠ w := fun x hx e => hw (by rw [← e]; exact hx)
        rcases hp with ⟨p1, p2⟩ | ⟨p1, p2⟩
        · exact Or.inl ⟨mgp_inj (Or.inl ⟨nw _ c1, nw _ d1⟩) p1, mgp_inj (Or.inl ⟨nw _ c2, nw _ d2⟩) p2⟩
        · exact Or.inr ⟨mgp_inj (Or.inl ⟨nw _ c1, nw _ d2⟩) p1, mgp_inj (Or.inl ⟨nw _ c2, nw _ d1⟩) p2⟩
      · have c1 := g c hc z1
        have c2 : ¬ A (ev c) := fun q => c1 ((hA c hc).mpr q)
        have d1 := g d hd z2
        have d2 : ¬ A (ev d) := fun q => d1 ((hA d hd).mpr q)
        have nu : ∀ x, ¬ A x → x ≠ u := fun x hx e => hx (by rw [e]; exact hu)
        rcases hp with ⟨p1, p2⟩ | ⟨p1, p2⟩
        · exact Or.inl ⟨mgp_inj (Or.inr ⟨nu _ c1, nu _ d1⟩) p1, mgp_inj (Or.inr ⟨nu _ c2, nu _ d2⟩) p2⟩
        · exact Or.inr ⟨mgp_inj (Or.inr ⟨nu _ c1, nu _ d2⟩) p1, mgp_inj (Or.inr ⟨nu _ c2, nu _ d1⟩) p2⟩
    exact zd c d hc hd hcd hp2 z1 z2
theorem hkCE1_mg {eu ev : Nat → Nat} {A : Nat → Prop} {u w : Nat} (hA : ∀ c, c < 10 → (A (eu c) ↔ A (ev c))) (u9 : u < 9) (w9 : w < 9) (hu : A u) (hw : ¬ A w) (h : hkCE1 (fun c => mgp u w (eu c)) (fun c => mgp u w (ev c))) : hkCE1 eu ev := by
  obtain ⟨Q, g, t, W, a1, a2, a3, a4, a5, a6⟩ := h
  exact ⟨Q, g, t, W, a1, a2, a3, fun z hz => a4 z (hkRG_mg hA u9 w9 hu hw hz), a5, a6⟩
/-- a graph in pieces -/
def dcE (eu ev : Nat → Nat) : Prop := ∃ A : Nat → Prop, (∀ c, c < 10 → (A (eu c) ↔ A (ev c))) ∧ (∃ c, c < 10 ∧ A (eu c)) ∧ ∃ d, d < 10 ∧ ¬ A (eu d)
theorem nS_lt {f g : Nat → Nat} {n d : Nat} (h : ∀ i, i < n → f i ≤ g i) (hd : d < n) (hl : f d < g d) : nS f n < nS g n := by
  induction n with
  | zero => omega
  | succ n ih =>
    show nS f n + f n < nS g n + g n
    have le : ∀ m, m ≤ n → nS f m ≤ nS g m := fun m => by
      induction m with
      | zero => intro _; exact Nat.le_refl _
      | succ m ih2 =>
        intro hm
        have := ih2 (by omega)
        have := h m (by omega)
        show nS f m + f m ≤ nS g m + g m
        omega
    by_cases e : d = n
    · have := le n (Nat.le_refl _)
      rw [e] at hl
      omega
    · have := ih (fun i hi => h i (by omega)) (by omega)
      have := h n (by omega)
      omega
theorem ce_ind (h : ∀ eu ev : Nat → Nat, (∀ c, c < 10 → eu c < 9 ∧ ev c < 9 ∧ eu c ≠ ev c) → hkCE1 eu ev ∨ dcE eu ev) : ∀ n, ∀ eu ev : Nat → Nat, (∀ c, c < 10 → eu c < 9 ∧ ev c < 9 ∧ eu c ≠ ev c) → nS (fun c => eu c + ev c) 10 < n → hkCE1 eu ev := by
  intro n
  induction n with
  | zero => intro eu ev _ hn; omega
  | succ n ih =>
    intro eu ev hO hn
    rcases h eu ev hO with g | ⟨A, hA, ⟨c, c1, c2⟩, ⟨d, d1, d2⟩⟩
    · exact g
    · have go : ∀ (A : Nat → Prop) (c d : Nat), (∀ c, c < 10 → (A (eu c) ↔ A (ev c))) → c < 10 → d < 10 → A (eu c) → ¬ A (eu d) → eu c < eu d → hkCE1 eu ev := fun A c d hA c1 d1 c2 d2 hlt => by
        have oc := hO c c1
        have od := hO d d1
        refine hkCE1_mg hA oc.1 od.1 c2 d2 (ih _ _ (fun e he => ?_) ?_)
        · obtain ⟨o1, o2, o3⟩ := hO e he
          have lt : ∀ x, x < 9 → mgp (eu c) (eu d) x < 9 := fun x hx => by unfold mgp; split <;> omega
          refine ⟨lt _ o1, lt _ o2, fun q => o3 (mgp_inj ?_ q)⟩
          by_cases k : A (eu e)
          · have k2 := (hA e he).mp k
            exact Or.inl ⟨fun x => d2 (by rw [← x]; exact k), fun x => d2 (by rw [← x]; exact k2)⟩
          · have k2 : ¬ A (ev e) := fun x => k ((hA e he).mpr x)
            exact Or.inr ⟨fun x => k (by rw [x]; exact c2), fun x => k2 (by rw [x]; exact c2)⟩
        · have le : ∀ x, mgp (eu c) (eu d) x ≤ x := fun x => by unfold mgp; split <;> omega
          have := nS_lt (f := fun e => mgp (eu c) (eu d) (eu e) + mgp (eu c) (eu d) (ev e)) (g := fun e => eu e + ev e) (n := 10) (d := d) (fun e _ => Nat.add_le_add (le _) (le _)) d1 (by
            have a : mgp (eu c) (eu d) (eu d) = eu c := by unfold mgp; rw [if_pos rfl]
            have b := le (ev d)
            show mgp (eu c) (eu d) (eu d) + mgp (eu c) (eu d) (ev d) < eu d + ev d
            omega)
          omega
      rcases Nat.lt_trichotomy (eu c) (eu d) with q | q | q
      · exact go A c d hA c1 d1 c2 d2 q
      · rw [q] at c2; exact absurd c2 d2
      · exact go (fun x => ¬ A x) d c (fun e he => not_congr (hA e he)) d1 c1 d2 (fun k => k c2) q
/-- a matrix in pieces -/
def dcM (m : Nat → Nat → Nat) : Prop := ∃ A : Nat → Prop, (∀ u v, u < 9 → v < 9 → u ≠ v → 0 < m u v → (A u ↔ A v)) ∧ (∃ u v, u < 9 ∧ v < 9 ∧ u ≠ v ∧ 0 < m u v ∧ A u) ∧ ∃ u v, u < 9 ∧ v < 9 ∧ u ≠ v ∧ 0 < m u v ∧ ¬ A u
theorem dcM_eq {m m' : Nat → Nat → Nat} (h : eqM m m') (g : dcM m) : dcM m' := by
  obtain ⟨A, a1, ⟨u, v, b1, b2, b3, b4, b5⟩, ⟨u', v', c1, c2, c3, c4, c5⟩⟩ := g
  exact ⟨A, fun u v hu hv hne hp => a1 u v hu hv hne (by rw [h u v hu hv hne]; exact hp), ⟨u, v, b1, b2, b3, by rw [← h u v b1 b2 b3]; exact b4, b5⟩, ⟨u', v', c1, c2, c3, by rw [← h u' v' c1 c2 c3]; exact c4, c5⟩⟩
theorem hkmu_pos {eu ev : Nat → Nat} {c : Nat} : ∀ k, c < k → 0 < hkmu eu ev k (eu c) (ev c) := by
  intro k
  induction k with
  | zero => intro h; omega
  | succ k ih =>
    intro h
    show 0 < hkmu eu ev k (eu c) (ev c) + (if (eu k = eu c ∧ ev k = ev c) ∨ (eu k = ev c ∧ ev k = eu c) then 1 else 0)
    by_cases e : c = k
    · rw [e, if_pos (Or.inl ⟨rfl, rfl⟩)]; omega
    · have := ih (by omega); omega
theorem hkmu_ex {eu ev : Nat → Nat} {u v : Nat} : ∀ k, 0 < hkmu eu ev k u v → ∃ c, c < k ∧ ((eu c = u ∧ ev c = v) ∨ (eu c = v ∧ ev c = u)) := by
  intro k
  induction k with
  | zero => intro h; exact absurd h (Nat.lt_irrefl 0)
  | succ k ih =>
    intro h
    by_cases q : (eu k = u ∧ ev k = v) ∨ (eu k = v ∧ ev k = u)
    · exact ⟨k, by omega, q⟩
    · have h2 : 0 < hkmu eu ev k u v + (if (eu k = u ∧ ev k = v) ∨ (eu k = v ∧ ev k = u) then 1 else 0) := h
      rw [if_neg q] at h2
      obtain ⟨c, c1, c2⟩ := ih h2
      exact ⟨c, by omega, c2⟩
theorem dcM_E {eu ev π ι : Nat → Nat} (hO : ∀ c, c < 10 → eu c < 9 ∧ ev c < 9 ∧ eu c ≠ ev c) (hp : pmN π ι) (g : dcM (fun u v => hkmu eu ev 10 (ι u) (ι v))) : dcE eu ev := by
  obtain ⟨A, a1, ⟨u, v, b1, b2, b3, b4, b5⟩, ⟨u', v', c1, c2, c3, c4, c5⟩⟩ := g
  have cl : ∀ c, c < 10 → (A (π (eu c)) ↔ A (π (ev c))) := fun c hc => by
    obtain ⟨o1, o2, o3⟩ := hO c hc
    refine a1 _ _ (hp.1 _ o1) (hp.1 _ o2) (fun e => o3 (by rw [← hp.2.2 _ o1, e, hp.2.2 _ o2])) ?_
    show 0 < hkmu eu ev 10 (ι (π (eu c))) (ι (π (ev c)))
    rw [hp.2.2 _ o1, hp.2.2 _ o2]
    exact hkmu_pos 10 hc
  have at1 : ∀ u v, u < 9 → v < 9 → 0 < hkmu eu ev 10 (ι u) (ι v) → ∃ c, c < 10 ∧ (A (π (eu c)) ↔ A u) := fun u v hu hv h => by
    obtain ⟨c, k1, k2⟩ := hkmu_ex 10 h
    refine ⟨c, k1, ?_⟩
    rcases k2 with ⟨e1, _⟩ | ⟨_, e2⟩
    · rw [e1, (hp.2.1 u hu).2]
    · have := cl c k1
      rw [e2, (hp.2.1 u hu).2] at this
      exact this
  obtain ⟨c, k1, k2⟩ := at1 u v b1 b2 b4
  obtain ⟨d, k3, k4⟩ := at1 u' v' c1 c2 c4
  exact ⟨fun x => A (π x), cl, ⟨c, k1, k2.mpr b5⟩, ⟨d, k3, fun q => c5 (k4.mp q)⟩⟩
