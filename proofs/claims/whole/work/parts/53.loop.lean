/-! the law's loop, and what is left of the claim: lw_run (wip/gen/mkloop.py) -/
def lw_case (y1 y2 y3 : Int32) (S : ZS) (N : ZS → Prop) : Nat → Prop
  | 0 => lawc_0 y1 y2 y3 S N
  | 1 => lawc_1 y1 y2 y3 S N
  | 2 => lawc_2 y1 y2 y3 S N
  | 3 => lawc_3 y1 y2 y3 S N
  | 4 => lawc_4 y1 y2 y3 S N
  | 5 => lawc_5 y1 y2 y3 S N
  | 6 => lawc_6 y1 y2 y3 S N
  | 7 => lawc_7 y1 y2 y3 S N
  | 8 => lawc_8 y1 y2 y3 S N
  | 9 => lawc_9 y1 y2 y3 S N
  | 10 => lawc_10 y1 y2 y3 S N
  | 11 => lawc_11 y1 y2 y3 S N
  | 12 => lawc_12 y1 y2 y3 S N
  | 13 => lawc_13 y1 y2 y3 S N
  | 14 => lawc_14 y1 y2 y3 S N
  | 15 => lawc_15 y1 y2 y3 S N
  | 16 => lawc_16 y1 y2 y3 S N
  | 17 => lawc_17 y1 y2 y3 S N
  | 18 => lawc_18 y1 y2 y3 S N
  | 19 => lawc_19 y1 y2 y3 S N
  | 20 => lawc_20 y1 y2 y3 S N
  | 21 => lawc_21 y1 y2 y3 S N
  | 22 => lawc_22 y1 y2 y3 S N
  | 23 => lawc_23 y1 y2 y3 S N
  | _ => N S
def lw_step (y0 y1 y2 y3 : Int32) (S : ZS) (N : ZS → Prop) : Prop := ∀ j : Nat, j < 32 → y0 &&& 31 = nI j → lw_case y1 y2 y3 S N j
def lw_run (xs : Nat → Int32) : Nat → Nat → ZS → Prop
  | 0, _, _ => True
  | n + 1, i, S => lw_step (xs i) (xs (i + 1)) (xs (i + 2)) (xs (i + 3)) S (fun S1 => lw_run xs n (i + 4) S1)
set_option maxHeartbeats 4000000 in
set_option maxRecDepth 100000 in
theorem law_loop {p : Program} {l : Launch} {e : Env} {s : State} {m : MethodId} {below : List Frame} {meth : Method} {c : Code} {b L : Nat} {xs : Nat → Int32} {D : va_G} {k : Nat → ClassId} {a : Nat → Nat} (C0 : zLaw p l s m meth c b L xs D k a) :
    ∀ (n i : Nat) (S : ZS) (H : Heap) (locs : List Loc) (ls : Array Slot) (cells slots : Nat), i + 4 * n ≤ L → L < i + 4 * n + 4 → cells + 3 * n ≤ 601024 → slots + 18 * n ≤ 7293034 → lw_run xs n i S → va_P D vwCl (zWS k a S) H → va_S (zA a s.heap.size) s.heap H locs → lv_has ls 7 [(0, .ref b), (1, .ref (a 0)), (2, .ref (a 61)), (3, .ref (a 82)), (4, .int (nI i))] → W p l e room_1 s m #[Value.ref b] below meth c H locs cells slots (lw_Z below #[Value.ref b] s) (F0 m 23 ls []) := by
  have C1 := C0
  obtain ⟨⟨hx, hb, hr, hml, hown, hts, hXs, hbl, hlocks, hgv⟩, hlt, hL, hj, hal, hK, hX⟩ := C1
  intro n
  induction n with
  | zero =>
    intro i S H locs ls cells slots h1 h2 hcs hss hm hP hS hl
    refine lv_iload hx hb dL_law_23 (lv_at hl 4 rfl) ?_
    refine lv_aload_n hx hb dL_law_25 rfl (lv_at hl 0 rfl) ?_
    refine va_slen hx hb hXs hbl (z_notA hal hbl) hS dL_law_26 ?_
    refine lv_iconst (v := 4) hx hb dL_law_27 (by decide) ?_
    refine lv_isub hx hb dL_law_28 ?_
    refine lv_icmp_gt (tgt := 1143) hx hb dL_law_29 (by decide) (fun c_29 => ?_) (fun c_29 => ?_)
    · refine lv_iconst (v := 1) hx hb dL_law_1143 (by decide) ?_
      refine va_forget (fun q hq => ?_) ?_
      · rcases hS.2.2 q hq with ⟨n9, g1, g2⟩ | g
        · have := hal n9 g1
          omega
        · exact g
      · refine W.widen (k := 601024) (n := 7293034) (by omega) (by omega) ?_
        exact lw_ret hx hb hr hlocks dL_law_1144
    · exfalso
      apply c_29
      show nI L - nI 4 < nI i
      rw [Int32.lt_iff_toInt_lt, pk_sub_toInt (by omega) (by omega), nI_toInt (by omega)]
      omega
  | succ n ih =>
    intro i S H locs ls cells slots h1 h2 hcs hss hm hP hS hl
    have hi : i + 4 ≤ L := by omega
    refine lv_iload hx hb dL_law_23 (lv_at hl 4 rfl) ?_
    refine lv_aload_n hx hb dL_law_25 rfl (lv_at hl 0 rfl) ?_
    refine va_slen hx hb hXs hbl (z_notA hal hbl) hS dL_law_26 ?_
    refine lv_iconst (v := 4) hx hb dL_law_27 (by decide) ?_
    refine lv_isub hx hb dL_law_28 ?_
    refine lv_icmp_gt (tgt := 1143) hx hb dL_law_29 (by decide) (fun c_29 => ?_) (fun c_29 => ?_)
    · exfalso
      have c9 : nI L - nI 4 < nI i := c_29
      rw [Int32.lt_iff_toInt_lt, pk_sub_toInt (by omega) (by omega), nI_toInt (by omega)] at c9
      omega
    · have kk : ∀ (S1 : ZS) (H1 : Heap) (locs1 : List Loc) (ls1 : Array Slot), lw_run xs n (i + 4) S1 → va_P D vwCl (zWS k a S1) H1 → va_S (zA a s.heap.size) s.heap H1 locs1 → lv_has ls1 7 [(0, .ref b), (1, .ref (a 0)), (2, .ref (a 61)), (3, .ref (a 82)), (4, .int (nI i))] → W p l e room_1 s m #[Value.ref b] below meth c H1 locs1 (cells + 3) (slots + 18) (lw_Z below #[Value.ref b] s) (F0 m 1137 ls1 []) := by
        intro S1 H1 locs1 ls1 hm hP hS hl
        refine lv_iinc (v := nI (i + 4)) (lv' := [(4, .int (nI (i + 4))), (0, .ref b), (1, .ref (a 0)), (2, .ref (a 61)), (3, .ref (a 82))]) hx hb dL_law_1137 hl (k := 4) rfl (by rw [show Int32.ofInt 4 = nI 4 by decide]; exact nI_add i 4) (by decide) rfl (fun ls hl => ?_)
        refine lv_goto (tgt := 23) hx hb dL_law_1140 (by decide) ?_
        exact ih (i + 4) S1 H1 locs1 ls (cells + 3) (slots + 18) (by omega) (by omega) (by omega) (by omega) hm hP hS (lv_sub hl [1, 2, 3, 4, 0] rfl)
      refine lv_aload_n hx hb dL_law_32 rfl (lv_at hl 0 rfl) ?_
      refine lv_iload hx hb dL_law_33 (lv_at hl 4 rfl) ?_
      refine z_sld hx hb hXs hbl hal hS (j := i) rfl (by omega) hL dL_law_35 ?_
      refine lv_bipush (v := 31) hx hb dL_law_36 (by decide) ?_
      refine lv_iand hx hb dL_law_38 ?_
      obtain ⟨j, hj5, ej⟩ := pk_andE (xs i) (m := 31) 5 (by decide)
      have hm := hm j hj5 ej
      rw [ej]
      match j, hj5, hm with
      | 0, _, hm =>
        refine lv_tableIn (x := nI 0) (off := 109) (tgt := 148) hx hb dL_law_39 (by rw [nI_toInt (by decide)]; decide) (by rw [nI_toInt (by decide)]; decide) (by rw [nI_toInt (by decide)]; rfl) (by decide) ?_
        exact lc_0 C0 hi (by omega) (by omega) hP hS hl rfl rfl rfl hm kk
      | 1, _, hm =>
        refine lv_tableIn (x := nI 1) (off := 189) (tgt := 228) hx hb dL_law_39 (by rw [nI_toInt (by decide)]; decide) (by rw [nI_toInt (by decide)]; decide) (by rw [nI_toInt (by decide)]; rfl) (by decide) ?_
        exact lc_1 C0 hi (by omega) (by omega) hP hS hl rfl rfl rfl hm kk
      | 2, _, hm =>
        refine lv_tableIn (x := nI 2) (off := 257) (tgt := 296) hx hb dL_law_39 (by rw [nI_toInt (by decide)]; decide) (by rw [nI_toInt (by decide)]; decide) (by rw [nI_toInt (by decide)]; rfl) (by decide) ?_
        exact lc_2 C0 hi (by omega) (by omega) hP hS hl rfl rfl rfl hm kk
      | 3, _, hm =>
        refine lv_tableIn (x := nI 3) (off := 317) (tgt := 356) hx hb dL_law_39 (by rw [nI_toInt (by decide)]; decide) (by rw [nI_toInt (by decide)]; decide) (by rw [nI_toInt (by decide)]; rfl) (by decide) ?_
        exact lc_3 C0 hi (by omega) (by omega) hP hS hl rfl rfl rfl hm kk
      | 4, _, hm =>
        refine lv_tableIn (x := nI 4) (off := 377) (tgt := 416) hx hb dL_law_39 (by rw [nI_toInt (by decide)]; decide) (by rw [nI_toInt (by decide)]; decide) (by rw [nI_toInt (by decide)]; rfl) (by decide) ?_
        exact lc_4 C0 hi (by omega) (by omega) hP hS hl rfl rfl rfl hm kk
      | 5, _, hm =>
        refine lv_tableIn (x := nI 5) (off := 445) (tgt := 484) hx hb dL_law_39 (by rw [nI_toInt (by decide)]; decide) (by rw [nI_toInt (by decide)]; decide) (by rw [nI_toInt (by decide)]; rfl) (by decide) ?_
        exact lc_5 C0 hi (by omega) (by omega) hP hS hl rfl rfl rfl hm kk
      | 6, _, hm =>
        refine lv_tableIn (x := nI 6) (off := 513) (tgt := 552) hx hb dL_law_39 (by rw [nI_toInt (by decide)]; decide) (by rw [nI_toInt (by decide)]; decide) (by rw [nI_toInt (by decide)]; rfl) (by decide) ?_
        exact lc_6 C0 hi (by omega) (by omega) hP hS hl rfl rfl rfl hm kk
      | 7, _, hm =>
        refine lv_tableIn (x := nI 7) (off := 526) (tgt := 565) hx hb dL_law_39 (by rw [nI_toInt (by decide)]; decide) (by rw [nI_toInt (by decide)]; decide) (by rw [nI_toInt (by decide)]; rfl) (by decide) ?_
        exact lc_7 C0 hi (by omega) (by omega) hP hS hl rfl rfl rfl hm kk
      | 8, _, hm =>
        refine lv_tableIn (x := nI 8) (off := 539) (tgt := 578) hx hb dL_law_39 (by rw [nI_toInt (by decide)]; decide) (by rw [nI_toInt (by decide)]; decide) (by rw [nI_toInt (by decide)]; rfl) (by decide) ?_
        exact lc_8 C0 hi (by omega) (by omega) hP hS hl rfl rfl rfl hm kk
      | 9, _, hm =>
        refine lv_tableIn (x := nI 9) (off := 595) (tgt := 634) hx hb dL_law_39 (by rw [nI_toInt (by decide)]; decide) (by rw [nI_toInt (by decide)]; decide) (by rw [nI_toInt (by decide)]; rfl) (by decide) ?_
        exact lc_9 C0 hi (by omega) (by omega) hP hS hl rfl rfl rfl hm kk
      | 10, _, hm =>
        refine lv_tableIn (x := nI 10) (off := 608) (tgt := 647) hx hb dL_law_39 (by rw [nI_toInt (by decide)]; decide) (by rw [nI_toInt (by decide)]; decide) (by rw [nI_toInt (by decide)]; rfl) (by decide) ?_
        exact lc_10 C0 hi (by omega) (by omega) hP hS hl rfl rfl rfl hm kk
      | 11, _, hm =>
        refine lv_tableIn (x := nI 11) (off := 664) (tgt := 703) hx hb dL_law_39 (by rw [nI_toInt (by decide)]; decide) (by rw [nI_toInt (by decide)]; decide) (by rw [nI_toInt (by decide)]; rfl) (by decide) ?_
        exact lc_11 C0 hi (by omega) (by omega) hP hS hl rfl rfl rfl hm kk
      | 12, _, hm =>
        refine lv_tableIn (x := nI 12) (off := 677) (tgt := 716) hx hb dL_law_39 (by rw [nI_toInt (by decide)]; decide) (by rw [nI_toInt (by decide)]; decide) (by rw [nI_toInt (by decide)]; rfl) (by decide) ?_
        exact lc_12 C0 hi (by omega) (by omega) hP hS hl rfl rfl rfl hm kk
      | 13, _, hm =>
        refine lv_tableIn (x := nI 13) (off := 690) (tgt := 729) hx hb dL_law_39 (by rw [nI_toInt (by decide)]; decide) (by rw [nI_toInt (by decide)]; decide) (by rw [nI_toInt (by decide)]; rfl) (by decide) ?_
        exact lc_13 C0 hi (by omega) (by omega) hP hS hl rfl rfl rfl hm kk
      | 14, _, hm =>
        refine lv_tableIn (x := nI 14) (off := 703) (tgt := 742) hx hb dL_law_39 (by rw [nI_toInt (by decide)]; decide) (by rw [nI_toInt (by decide)]; decide) (by rw [nI_toInt (by decide)]; rfl) (by decide) ?_
        exact lc_14 C0 hi (by omega) (by omega) hP hS hl rfl rfl rfl hm kk
      | 15, _, hm =>
        refine lv_tableIn (x := nI 15) (off := 716) (tgt := 755) hx hb dL_law_39 (by rw [nI_toInt (by decide)]; decide) (by rw [nI_toInt (by decide)]; decide) (by rw [nI_toInt (by decide)]; rfl) (by decide) ?_
        exact lc_15 C0 hi (by omega) (by omega) hP hS hl rfl rfl rfl hm kk
      | 16, _, hm =>
        refine lv_tableIn (x := nI 16) (off := 729) (tgt := 768) hx hb dL_law_39 (by rw [nI_toInt (by decide)]; decide) (by rw [nI_toInt (by decide)]; decide) (by rw [nI_toInt (by decide)]; rfl) (by decide) ?_
        exact lc_16 C0 hi (by omega) (by omega) hP hS hl rfl rfl rfl hm kk
      | 17, _, hm =>
        refine lv_tableIn (x := nI 17) (off := 742) (tgt := 781) hx hb dL_law_39 (by rw [nI_toInt (by decide)]; decide) (by rw [nI_toInt (by decide)]; decide) (by rw [nI_toInt (by decide)]; rfl) (by decide) ?_
        exact lc_17 C0 hi (by omega) (by omega) hP hS hl rfl rfl rfl hm kk
      | 18, _, hm =>
        refine lv_tableIn (x := nI 18) (off := 798) (tgt := 837) hx hb dL_law_39 (by rw [nI_toInt (by decide)]; decide) (by rw [nI_toInt (by decide)]; decide) (by rw [nI_toInt (by decide)]; rfl) (by decide) ?_
        exact lc_18 C0 hi (by omega) (by omega) hP hS hl rfl rfl rfl hm kk
      | 19, _, hm =>
        refine lv_tableIn (x := nI 19) (off := 842) (tgt := 881) hx hb dL_law_39 (by rw [nI_toInt (by decide)]; decide) (by rw [nI_toInt (by decide)]; decide) (by rw [nI_toInt (by decide)]; rfl) (by decide) ?_
        exact lc_19 C0 hi (by omega) (by omega) hP hS hl rfl rfl rfl hm kk
      | 20, _, hm =>
        refine lv_tableIn (x := nI 20) (off := 898) (tgt := 937) hx hb dL_law_39 (by rw [nI_toInt (by decide)]; decide) (by rw [nI_toInt (by decide)]; decide) (by rw [nI_toInt (by decide)]; rfl) (by decide) ?_
        exact lc_20 C0 hi (by omega) (by omega) hP hS hl rfl rfl rfl hm kk
      | 21, _, hm =>
        refine lv_tableIn (x := nI 21) (off := 954) (tgt := 993) hx hb dL_law_39 (by rw [nI_toInt (by decide)]; decide) (by rw [nI_toInt (by decide)]; decide) (by rw [nI_toInt (by decide)]; rfl) (by decide) ?_
        exact lc_21 C0 hi (by omega) (by omega) hP hS hl rfl rfl rfl hm kk
      | 22, _, hm =>
        refine lv_tableIn (x := nI 22) (off := 1010) (tgt := 1049) hx hb dL_law_39 (by rw [nI_toInt (by decide)]; decide) (by rw [nI_toInt (by decide)]; decide) (by rw [nI_toInt (by decide)]; rfl) (by decide) ?_
        exact lc_22 C0 hi (by omega) (by omega) hP hS hl rfl rfl rfl hm kk
      | 23, _, hm =>
        refine lv_tableIn (x := nI 23) (off := 1054) (tgt := 1093) hx hb dL_law_39 (by rw [nI_toInt (by decide)]; decide) (by rw [nI_toInt (by decide)]; decide) (by rw [nI_toInt (by decide)]; rfl) (by decide) ?_
        exact lc_23 C0 hi (by omega) (by omega) hP hS hl rfl rfl rfl hm kk
      | 24, _, hm =>
        refine lv_tableOut (x := nI 24) (tgt := 1137) hx hb dL_law_39 (Or.inr (by rw [nI_toInt (by decide)]; decide)) (by decide) ?_
        refine W.widen (k := cells + 3) (n := slots + 18) (by omega) (by omega) ?_
        exact kk S _ _ _ hm hP hS hl
      | 25, _, hm =>
        refine lv_tableOut (x := nI 25) (tgt := 1137) hx hb dL_law_39 (Or.inr (by rw [nI_toInt (by decide)]; decide)) (by decide) ?_
        refine W.widen (k := cells + 3) (n := slots + 18) (by omega) (by omega) ?_
        exact kk S _ _ _ hm hP hS hl
      | 26, _, hm =>
        refine lv_tableOut (x := nI 26) (tgt := 1137) hx hb dL_law_39 (Or.inr (by rw [nI_toInt (by decide)]; decide)) (by decide) ?_
        refine W.widen (k := cells + 3) (n := slots + 18) (by omega) (by omega) ?_
        exact kk S _ _ _ hm hP hS hl
      | 27, _, hm =>
        refine lv_tableOut (x := nI 27) (tgt := 1137) hx hb dL_law_39 (Or.inr (by rw [nI_toInt (by decide)]; decide)) (by decide) ?_
        refine W.widen (k := cells + 3) (n := slots + 18) (by omega) (by omega) ?_
        exact kk S _ _ _ hm hP hS hl
      | 28, _, hm =>
        refine lv_tableOut (x := nI 28) (tgt := 1137) hx hb dL_law_39 (Or.inr (by rw [nI_toInt (by decide)]; decide)) (by decide) ?_
        refine W.widen (k := cells + 3) (n := slots + 18) (by omega) (by omega) ?_
        exact kk S _ _ _ hm hP hS hl
      | 29, _, hm =>
        refine lv_tableOut (x := nI 29) (tgt := 1137) hx hb dL_law_39 (Or.inr (by rw [nI_toInt (by decide)]; decide)) (by decide) ?_
        refine W.widen (k := cells + 3) (n := slots + 18) (by omega) (by omega) ?_
        exact kk S _ _ _ hm hP hS hl
      | 30, _, hm =>
        refine lv_tableOut (x := nI 30) (tgt := 1137) hx hb dL_law_39 (Or.inr (by rw [nI_toInt (by decide)]; decide)) (by decide) ?_
        refine W.widen (k := cells + 3) (n := slots + 18) (by omega) (by omega) ?_
        exact kk S _ _ _ hm hP hS hl
      | 31, _, hm =>
        refine lv_tableOut (x := nI 31) (tgt := 1137) hx hb dL_law_39 (Or.inr (by rw [nI_toInt (by decide)]; decide)) (by decide) ?_
        refine W.widen (k := cells + 3) (n := slots + 18) (by omega) (by omega) ?_
        exact kk S _ _ _ hm hP hS hl
      | j + 32, h, _ => exact absurd h (by omega)
