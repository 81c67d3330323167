/-! reduced() -/
def fdif (x : Int32) (f : Nat → Int32) : Nat → Int32
  | 0 => x
  | n + 1 => fdif x f n - f n
theorem dif_congr {x : Int32} {f g : Nat → Int32} {n : Nat} (h : ∀ c, c < n → f c = g c) : fdif x f n = fdif x g n := by
  induction n with
  | zero => rfl
  | succ n ih =>
    show fdif x f n - f n = fdif x g n - g n
    rw [ih (fun c hc => h c (by omega)), h n (by omega)]
theorem k_21 {y1 y2 y3 : Int32} {S : ZS} {N : ZS → Prop} (h : Inv S) (hN : ∀ T, Inv T → N T) : lawc_21 y1 y2 y3 S N := by
  have hI := h
  obtain ⟨nc, nr, hC, hSol⟩ := h
  obtain ⟨h1, h2, h3, h4, h5, h6, h7, h8, h9, h10, h11⟩ := hC
  obtain ⟨hb1, hb2⟩ := hSol.price
  unfold lawc_21 L_reduced X6_reduced X6_needPrices X7_thrown
  refine ⟨fun g => ?_, fun g => Or.inl ⟨rfl, ?_⟩⟩
  · obtain ⟨b1, b2, b3⟩ := hb1 g
    have b4 : ∀ r, r < nr → (S.2 69 r).toInt32 = S.1 37 r := fun r hr => by
      have := i_rng (S.1 37 r)
      rw [i_eq, Int64.toInt_toInt32, b3 r hr]
      exact i_bm (by omega) (by omega)
    refine m_needColumn h3 h1 (fun c hc ec => ?_) (fun hx => Or.inr ⟨rfl, ?_⟩)
    · subst ec
      have hin : vp_in (nI c) 10 := vp_in_nI (by omega) (by omega)
      have hcl : (nI c).toNatClampNeg = c := nI_clamp (by omega)
      refine ⟨hin, fun x0 ex0 => ?_⟩
      rw [hcl] at ex0
      refine zl_up2 nr (fun i x T => T = S ∧ x = fdif (S.1 10 c) (fun r => S.1 (14 + r) c * S.1 37 r) i) (by omega) (fun i x T k hi hJ hk => ?_) x0 S ⟨rfl, ex0⟩
      obtain ⟨rfl, rfl⟩ := hJ
      show X6_reduced_B21 (nI c) _ (nI i) T _ _ k
      unfold X6_reduced_B21 X6_reduced_b62
      rw [h4]
      refine ⟨fun z => ?_, fun z => ?_⟩
      · have := up_end (by omega) hi z
        subst this
        intro U eU
        have hU : ∀ n, U.1 n = T.1 n := fun n => by rw [eU, zw_1]
        unfold X7_reduced X7_reduced_b16 X7_reduced_b21 X7_reduced_b34
        refine ⟨fun _ => ⟨fun z => absurd z (by rw [hU, b2]; decide), fun _ => ?_⟩, fun z => absurd (by rw [hU]; exact b1) z⟩
        refine m_isColumn (n := nc) (by rw [hU]; exact h5) h1 (fun c' hc' ec' => ⟨fun z => absurd z (by decide), fun _ => ?_⟩) (fun hx => absurd rfl (hx c hc))
        refine m_passes (fun z => absurd rfl z) (fun _ z => absurd rfl z) (fun _ _ => ⟨fun z => absurd z (by decide), fun _ => ⟨hin, fun v0 ev0 => ?_⟩⟩)
        rw [hcl, zu_ne (by decide), hU] at ev0
        refine zl_up2 i (fun j x V => V = zu U 61 0 0 ∧ x.toInt32 = fdif (T.1 64 c) (fun r => T.1 67 (10 * r + c) * (T.2 69 r).toInt32) j) (by omega) (fun j x V k2 hj hJ hk2 => ?_) v0 _ ⟨rfl, by rw [ev0, Int32.toInt32_toInt64]; rfl⟩
        obtain ⟨rfl, hx⟩ := hJ
        show X7_reduced_B53 (nI c) x (nI j) _ _ k2
        unfold X7_reduced_B53 X7_reduced_b87
        have e1 : (zu U 61 0 0).1 61 2 = nI i := by rw [zu_at, if_neg (by decide), hU]; exact h6
        rw [e1]
        refine ⟨fun z => ?_, fun z => ?_⟩
        · have := up_end (by omega) hj z
          subst this
          refine zend_ok eU ?_ hI hN
          rw [hx, (h7 c hc).2.2.1]
          exact dif_congr (fun r hr => by rw [h9 r c hr hc, b4 r hr])
        · have hlt := up_on (by omega) hj z
          have ei : ((10 : Int32) * nI j) + nI c = nI (10 * j + c) := by
            rw [show (10 : Int32) = nI 10 from rfl, pk_mul, nI_add]
          unfold X7_coef
          rw [ei, nI_clamp (by omega)]
          refine ⟨vp_in_nI (by omega) (by omega), vp_in_nI (by omega) (by omega), fun x2 ex w ew => ?_⟩
          rw [nI_1] at ew
          subst ew
          refine hk2 hlt _ _ ⟨rfl, ?_⟩
          rw [ex, nI_clamp (by omega), Int64.toInt32_sub, Int64.toInt32_mul, hx, zu_ne (by decide), hU, Int32.toInt32_toInt64, zu_2, eU, zw_at, if_neg (by omega)]
          rfl
      · have hlt := up_on (by omega) hi z
        refine ⟨vp_in_nI (by omega) (by omega), hin, vp_in_nI (by omega) (by omega), fun x ex w ew => ?_⟩
        rw [nI_1] at ew
        subst ew
        refine hk hlt _ _ ⟨rfl, ?_⟩
        rw [ex, hcl, nI_clamp (by omega)]
        rfl
    · unfold X7_reduced X7_reduced_b16 X7_reduced_b21 X7_reduced_b34
      refine ⟨fun _ => ⟨fun z => absurd z (by rw [b2]; decide), fun _ => ?_⟩, fun z => absurd b1 z⟩
      refine m_isColumn h5 h1 (fun c' hc' ec' => absurd ec' (hx c' hc')) (fun _ => ⟨fun _ => ?_, fun z => absurd rfl z⟩)
      exact m_passes (fun z => absurd rfl z) (fun _ _ => ⟨fun _ => zend_throw (by decide) hI hN, fun z => absurd rfl z⟩) (fun _ z => absurd z (by decide))
  · have key : ∀ t0 : Int32, X7_reduced_b34 y1 t0 1 S (zend 1 N) := fun t0 => by
      unfold X7_reduced_b34
      exact m_passes (fun _ => ⟨fun _ => zend_throw (by decide) hI hN, fun z => absurd rfl z⟩) (fun z => absurd z (by decide)) (fun z => absurd z (by decide))
    have key2 : X7_reduced_b21 y1 1 S (zend 1 N) := by
      unfold X7_reduced_b21
      exact m_isColumn h5 h1 (fun _ _ _ => ⟨fun _ => key 1, fun _ => key 0⟩) (fun _ => ⟨fun _ => key 1, fun _ => key 0⟩)
    unfold X7_reduced X7_reduced_b16
    refine ⟨fun z => ⟨fun _ => key2, fun z2 => ?_⟩, fun _ => key2⟩
    rcases hb2 g with q | q
    · exact absurd z q
    · exact absurd q z2
