def lawc_0 (y1 y2 y3 : Int32) (S : ZS) (N : ZS → Prop) : Prop :=
  L_column y1 y2 y3 S (fun r_168 S_168 => X7_column y1 y2 y3 S_168 (fun r_192 S_192 => X7_thrown S_192 (fun r_198 S_198 => (r_198 = r_168 → (r_168 = 0 → ((lg_cmp (S_198.2 82 0) (Int32.toInt64 r_192)) = 0 → N S_198) ∧ (¬ (lg_cmp (S_198.2 82 0) (Int32.toInt64 r_192)) = 0 → False)) ∧ (¬ r_168 = 0 → N S_198)) ∧ (¬ r_198 = r_168 → False))))
set_option maxHeartbeats 4000000 in
set_option maxRecDepth 100000 in
theorem lc_0 {p : Program} {l : Launch} {e : Env} {s : State} {m : MethodId} {below : List Frame} {meth : Method} {c : Code} {b L : Nat} {xs : Nat → Int32} {D : va_G} {k : Nat → ClassId} {a : Nat → Nat} (C0 : zLaw p l s m meth c b L xs D k a) {i : Nat} (hi : i + 4 ≤ L) {cells slots : Nat} (hcs : cells + 3 ≤ 601024) (hss : slots + 18 ≤ 7293034) {S : ZS} {H : Heap} {locs : List Loc} {ls : Array Slot} (hP : va_P D vwCl (zWS k a S) H) (hS : va_S (zA a s.heap.size) s.heap H locs) (hl : lv_has ls 7 [(0, .ref b), (1, .ref (a 0)), (2, .ref (a 61)), (3, .ref (a 82)), (4, .int (nI i))]) {N : ZS → Prop} {y1 y2 y3 : Int32} (ey1 : y1 = xs (i + 1)) (ey2 : y2 = xs (i + 2)) (ey3 : y3 = xs (i + 3)) (hm : lawc_0 y1 y2 y3 S N)
    (kk : ∀ (S1 : ZS) (H1 : Heap) (locs1 : List Loc) (ls1 : Array Slot), N S1 → va_P D vwCl (zWS k a S1) H1 → va_S (zA a s.heap.size) s.heap H1 locs1 → lv_has ls1 7 [(0, .ref b), (1, .ref (a 0)), (2, .ref (a 61)), (3, .ref (a 82)), (4, .int (nI i))] → W p l e room_1 s m #[Value.ref b] below meth c H1 locs1 (cells + 3) (slots + 18) (lw_Z below #[Value.ref b] s) (F0 m 1137 ls1 [])) : W p l e room_1 s m #[Value.ref b] below meth c H locs cells slots (lw_Z below #[Value.ref b] s) (F0 m 148 ls []) := by
  obtain ⟨⟨hx, hb, hr, hml, hown, hts, hXs, hbl, hlocks, hgv⟩, hlt, hL, hj, hal, hK, hX⟩ := C0
  have hF : CallFix p m c cL_law 7 s #[Value.ref b] lw_tbl RL := ⟨hx, hb, hml, hown, hts⟩
  unfold lawc_0 at hm
  refine lv_aload_n hx hb dL_law_148 rfl (lv_at hl 1 rfl) ?_
  refine lv_aload_n hx hb dL_law_149 rfl (lv_at hl 0 rfl) ?_
  refine lv_iload hx hb dL_law_150 (lv_at hl 4 rfl) ?_
  refine lv_iconst (v := (1 : Int32)) hx hb dL_law_152 (by decide) ?_
  refine lv_iadd hx hb dL_law_153 ?_
  refine z_sld hx hb hXs hbl hal hS (j := i + 1) (nI_add i 1) (by omega) hL dL_law_154 ?_
  rw [← ey1]
  refine lv_aload_n hx hb dL_law_155 rfl (lv_at hl 0 rfl) ?_
  refine lv_iload hx hb dL_law_156 (lv_at hl 4 rfl) ?_
  refine lv_iconst (v := (2 : Int32)) hx hb dL_law_158 (by decide) ?_
  refine lv_iadd hx hb dL_law_159 ?_
  refine z_sld hx hb hXs hbl hal hS (j := i + 2) (nI_add i 2) (by omega) hL dL_law_160 ?_
  rw [← ey2]
  refine lv_aload_n hx hb dL_law_161 rfl (lv_at hl 0 rfl) ?_
  refine lv_iload hx hb dL_law_162 (lv_at hl 4 rfl) ?_
  refine lv_iconst (v := (3 : Int32)) hx hb dL_law_164 (by decide) ?_
  refine lv_iadd hx hb dL_law_165 ?_
  refine z_sld hx hb hXs hbl hal hS (j := i + 3) (nI_add i 3) (by omega) hL dL_law_166 ?_
  rw [← ey3]
  refine lv_aload_n hx hb dL_law_167 rfl (lv_at hl 3 rfl) ?_
  refine z_cWi (As := [.ref (a 0), .int y1, .int y2, .int y3, .ref (a 82)]) (rest := []) hF hK hX hP hS (c_L_column l hlt D k a hj y1 y2 y3 S _ hm _) (vx_cwSW 5 hts zg_L_column rfl rfl rfl (by decide +kernel) ⟨(Nat.le_of_ble_eq_true rfl), (Nat.le_of_ble_eq_true rfl)⟩) rfl hl.1 rfl (Nat.le_of_ble_eq_true rfl) dL_law_168 ⟨by show _ ≤ 601024; omega, by show _ ≤ 7293034; omega⟩ (fun r_168 S_168 H locs hm hP hS => ?_)
  refine lv_istore (lv' := [(5, .int r_168), (0, .ref b), (1, .ref (a 0)), (2, .ref (a 61)), (3, .ref (a 82)), (4, .int (nI i))]) hx hb dL_law_171 hl (by decide) rfl (fun ls hl => ?_)
  refine lv_aload_n hx hb dL_law_173 rfl (lv_at hl 3 rfl) ?_
  refine lv_aload_n hx hb dL_law_174 rfl (lv_at hl 1 rfl) ?_
  refine lv_iload hx hb dL_law_175 (lv_at hl 5 rfl) ?_
  refine lv_iconst (v := (1 : Int32)) hx hb dL_law_177 (by decide) ?_
  refine lv_iadd hx hb dL_law_178 ?_
  refine z_sld hx hb hXs hbl hal hS (j := i + 1) (nI_add i 1) (by omega) hL dL_law_179 ?_
  rw [← ey1]
  refine lv_aload_n hx hb dL_law_180 rfl (lv_at hl 1 rfl) ?_
  refine lv_iload hx hb dL_law_181 (lv_at hl 5 rfl) ?_
  refine lv_iconst (v := (2 : Int32)) hx hb dL_law_183 (by decide) ?_
  refine lv_iadd hx hb dL_law_184 ?_
  refine z_sld hx hb hXs hbl hal hS (j := i + 2) (nI_add i 2) (by omega) hL dL_law_185 ?_
  rw [← ey2]
  refine lv_aload_n hx hb dL_law_186 rfl (lv_at hl 1 rfl) ?_
  refine lv_iload hx hb dL_law_187 (lv_at hl 5 rfl) ?_
  refine lv_iconst (v := (3 : Int32)) hx hb dL_law_189 (by decide) ?_
  refine lv_iadd hx hb dL_law_190 ?_
  refine z_sld hx hb hXs hbl hal hS (j := i + 3) (nI_add i 3) (by omega) hL dL_law_191 ?_
  rw [← ey3]
  refine z_cVi (As := [.int y1, .int y2, .int y3]) (rest := []) hF hK hP hS zO_61 rfl rfl (c_X7_column l D k a hj y1 y2 y3 S_168 _ hm _) (cwV 3 hts zg_X7_column rfl rfl rfl (by decide +kernel) ⟨(Nat.le_of_ble_eq_true rfl), (Nat.le_of_ble_eq_true rfl)⟩) rfl hl.1 rfl (Nat.le_of_ble_eq_true rfl) dL_law_192 ⟨by show _ ≤ 601024; omega, by show _ ≤ 7293034; omega⟩ (fun r_192 S_192 H locs hm hP hS => ?_)
  refine lv_istore (lv' := [(6, .int r_192), (5, .int r_168), (0, .ref b), (1, .ref (a 0)), (2, .ref (a 61)), (3, .ref (a 82)), (4, .int (nI i))]) hx hb dL_law_195 hl (by decide) rfl (fun ls hl => ?_)
  refine lv_aload_n hx hb dL_law_197 rfl (lv_at hl 4 rfl) ?_
  refine z_cVi (As := []) (rest := []) hF hK hP hS zO_61 rfl rfl (c_X7_thrown l D k a hj  S_192 _ hm _) (cwV 0 hts zg_X7_thrown rfl rfl rfl (by decide +kernel) ⟨(Nat.le_of_ble_eq_true rfl), (Nat.le_of_ble_eq_true rfl)⟩) rfl hl.1 rfl (Nat.le_of_ble_eq_true rfl) dL_law_198 ⟨by show _ ≤ 601024; omega, by show _ ≤ 7293034; omega⟩ (fun r_198 S_198 H locs hm hP hS => ?_)
  refine lv_iload hx hb dL_law_201 (lv_at hl 1 rfl) ?_
  refine lv_icmp_eq (tgt := 208) hx hb dL_law_203 (by decide) (fun c_203 => ?_) (fun c_203 => ?_)
  · have hm := hm.1 c_203
    refine lv_iload hx hb dL_law_208 (lv_at hl 1 rfl) ?_
    refine lv_if_ne (tgt := 225) hx hb dL_law_210 (by decide) (fun c_210 => ?_) (fun c_210 => ?_)
    · have hm := hm.2 c_210
      refine lv_goto (tgt := 1137) hx hb dL_law_225 (by decide) ?_
      refine W.widen (k := cells + 3) (n := slots + 18) (by omega) (by omega) ?_
      exact kk S_198 _ _ _ hm hP hS (lv_sub hl [2, 3, 4, 5, 6] rfl)
    · have hm := hm.1 c_210
      refine lv_aload_n hx hb dL_law_213 rfl (lv_at hl 5 rfl) ?_
      refine lv_iconst (v := (0 : Int32)) hx hb dL_law_214 (by decide) ?_
      refine z_lald hx hb hK hP zJ_82 (by unfold vp_in; decide) dL_law_215 ?_
      refine lv_iload hx hb dL_law_216 (lv_at hl 0 rfl) ?_
      refine lv_i2l hx hb dL_law_218 rfl ?_
      refine W.lcmp hx hb dL_law_219 ?_
      refine lv_if_eq (tgt := 225) hx hb dL_law_220 (by decide) (fun c_220 => ?_) (fun c_220 => ?_)
      · have hm := hm.1 c_220
        refine lv_goto (tgt := 1137) hx hb dL_law_225 (by decide) ?_
        refine W.widen (k := cells + 3) (n := slots + 18) (by omega) (by omega) ?_
        exact kk S_198 _ _ _ hm hP hS (lv_sub hl [2, 3, 4, 5, 6] rfl)
      · have hm := hm.2 c_220
        refine lv_iconst (v := (0 : Int32)) hx hb dL_law_223 (by decide) ?_
        exact hm.elim
  · have hm := hm.2 c_203
    refine lv_iconst (v := (0 : Int32)) hx hb dL_law_206 (by decide) ?_
    exact hm.elim
def lawc_1 (y1 y2 y3 : Int32) (S : ZS) (N : ZS → Prop) : Prop :=
  L_row y1 y2 S (fun r_242 S_242 => X7_row y1 y2 S_242 (fun r_260 S_260 => X7_thrown S_260 (fun r_266 S_266 => (r_266 = r_242 → (r_242 = 0 → ((lg_cmp (S_266.2 82 0) (Int32.toInt64 r_260)) = 0 → N S_266) ∧ (¬ (lg_cmp (S_266.2 82 0) (Int32.toInt64 r_260)) = 0 → False)) ∧ (¬ r_242 = 0 → N S_266)) ∧ (¬ r_266 = r_242 → False))))
set_option maxHeartbeats 4000000 in
set_option maxRecDepth 100000 in
theorem lc_1 {p : Program} {l : Launch} {e : Env} {s : State} {m : MethodId} {below : List Frame} {meth : Method} {c : Code} {b L : Nat} {xs : Nat → Int32} {D : va_G} {k : Nat → ClassId} {a : Nat → Nat} (C0 : zLaw p l s m meth c b L xs D k a) {i : Nat} (hi : i + 4 ≤ L) {cells slots : Nat} (hcs : cells + 3 ≤ 601024) (hss : slots + 18 ≤ 7293034) {S : ZS} {H : Heap} {locs : List Loc} {ls : Array Slot} (hP : va_P D vwCl (zWS k a S) H) (hS : va_S (zA a s.heap.size) s.heap H locs) (hl : lv_has ls 7 [(0, .ref b), (1, .ref (a 0)), (2, .ref (a 61)), (3, .ref (a 82)), (4, .int (nI i))]) {N : ZS → Prop} {y1 y2 y3 : Int32} (ey1 : y1 = xs (i + 1)) (ey2 : y2 = xs (i + 2)) (ey3 : y3 = xs (i + 3)) (hm : lawc_1 y1 y2 y3 S N)
    (kk : ∀ (S1 : ZS) (H1 : Heap) (locs1 : List Loc) (ls1 : Array Slot), N S1 → va_P D vwCl (zWS k a S1) H1 → va_S (zA a s.heap.size) s.heap H1 locs1 → lv_has ls1 7 [(0, .ref b), (1, .ref (a 0)), (2, .ref (a 61)), (3, .ref (a 82)), (4, .int (nI i))] → W p l e room_1 s m #[Value.ref b] below meth c H1 locs1 (cells + 3) (slots + 18) (lw_Z below #[Value.ref b] s) (F0 m 1137 ls1 [])) : W p l e room_1 s m #[Value.ref b] below meth c H locs cells slots (lw_Z below #[Value.ref b] s) (F0 m 228 ls []) := by
  obtain ⟨⟨hx, hb, hr, hml, hown, hts, hXs, hbl, hlocks, hgv⟩, hlt, hL, hj, hal, hK, hX⟩ := C0
  have hF : CallFix p m c cL_law 7 s #[Value.ref b] lw_tbl RL := ⟨hx, hb, hml, hown, hts⟩
  unfold lawc_1 at hm
  refine lv_aload_n hx hb dL_law_228 rfl (lv_at hl 1 rfl) ?_
  refine lv_aload_n hx hb dL_law_229 rfl (lv_at hl 0 rfl) ?_
  refine lv_iload hx hb dL_law_230 (lv_at hl 4 rfl) ?_
  refine lv_iconst (v := (1 : Int32)) hx hb dL_law_232 (by decide) ?_
  refine lv_iadd hx hb dL_law_233 ?_
  refine z_sld hx hb hXs hbl hal hS (j := i + 1) (nI_add i 1) (by omega) hL dL_law_234 ?_
  rw [← ey1]
  refine lv_aload_n hx hb dL_law_235 rfl (lv_at hl 0 rfl) ?_
  refine lv_iload hx hb dL_law_236 (lv_at hl 4 rfl) ?_
  refine lv_iconst (v := (2 : Int32)) hx hb dL_law_238 (by decide) ?_
  refine lv_iadd hx hb dL_law_239 ?_
  refine z_sld hx hb hXs hbl hal hS (j := i + 2) (nI_add i 2) (by omega) hL dL_law_240 ?_
  rw [← ey2]
  refine lv_aload_n hx hb dL_law_241 rfl (lv_at hl 3 rfl) ?_
  refine z_cWi (As := [.ref (a 0), .int y1, .int y2, .ref (a 82)]) (rest := []) hF hK hX hP hS (c_L_row l hlt D k a hj y1 y2 S _ hm _) (vx_cwSW 4 hts zg_L_row rfl rfl rfl (by decide +kernel) ⟨(Nat.le_of_ble_eq_true rfl), (Nat.le_of_ble_eq_true rfl)⟩) rfl hl.1 rfl (Nat.le_of_ble_eq_true rfl) dL_law_242 ⟨by show _ ≤ 601024; omega, by show _ ≤ 7293034; omega⟩ (fun r_242 S_242 H locs hm hP hS => ?_)
  refine lv_istore (lv' := [(5, .int r_242), (0, .ref b), (1, .ref (a 0)), (2, .ref (a 61)), (3, .ref (a 82)), (4, .int (nI i))]) hx hb dL_law_245 hl (by decide) rfl (fun ls hl => ?_)
  refine lv_aload_n hx hb dL_law_247 rfl (lv_at hl 3 rfl) ?_
  refine lv_aload_n hx hb dL_law_248 rfl (lv_at hl 1 rfl) ?_
  refine lv_iload hx hb dL_law_249 (lv_at hl 5 rfl) ?_
  refine lv_iconst (v := (1 : Int32)) hx hb dL_law_251 (by decide) ?_
  refine lv_iadd hx hb dL_law_252 ?_
  refine z_sld hx hb hXs hbl hal hS (j := i + 1) (nI_add i 1) (by omega) hL dL_law_253 ?_
  rw [← ey1]
  refine lv_aload_n hx hb dL_law_254 rfl (lv_at hl 1 rfl) ?_
  refine lv_iload hx hb dL_law_255 (lv_at hl 5 rfl) ?_
  refine lv_iconst (v := (2 : Int32)) hx hb dL_law_257 (by decide) ?_
  refine lv_iadd hx hb dL_law_258 ?_
  refine z_sld hx hb hXs hbl hal hS (j := i + 2) (nI_add i 2) (by omega) hL dL_law_259 ?_
  rw [← ey2]
  refine z_cVi (As := [.int y1, .int y2]) (rest := []) hF hK hP hS zO_61 rfl rfl (c_X7_row l D k a hj y1 y2 S_242 _ hm _) (cwV 2 hts zg_X7_row rfl rfl rfl (by decide +kernel) ⟨(Nat.le_of_ble_eq_true rfl), (Nat.le_of_ble_eq_true rfl)⟩) rfl hl.1 rfl (Nat.le_of_ble_eq_true rfl) dL_law_260 ⟨by show _ ≤ 601024; omega, by show _ ≤ 7293034; omega⟩ (fun r_260 S_260 H locs hm hP hS => ?_)
  refine lv_istore (lv' := [(6, .int r_260), (5, .int r_242), (0, .ref b), (1, .ref (a 0)), (2, .ref (a 61)), (3, .ref (a 82)), (4, .int (nI i))]) hx hb dL_law_263 hl (by decide) rfl (fun ls hl => ?_)
  refine lv_aload_n hx hb dL_law_265 rfl (lv_at hl 4 rfl) ?_
  refine z_cVi (As := []) (rest := []) hF hK hP hS zO_61 rfl rfl (c_X7_thrown l D k a hj  S_260 _ hm _) (cwV 0 hts zg_X7_thrown rfl rfl rfl (by decide +kernel) ⟨(Nat.le_of_ble_eq_true rfl), (Nat.le_of_ble_eq_true rfl)⟩) rfl hl.1 rfl (Nat.le_of_ble_eq_true rfl) dL_law_266 ⟨by show _ ≤ 601024; omega, by show _ ≤ 7293034; omega⟩ (fun r_266 S_266 H locs hm hP hS => ?_)
  refine lv_iload hx hb dL_law_269 (lv_at hl 1 rfl) ?_
  refine lv_icmp_eq (tgt := 276) hx hb dL_law_271 (by decide) (fun c_271 => ?_) (fun c_271 => ?_)
  · have hm := hm.1 c_271
    refine lv_iload hx hb dL_law_276 (lv_at hl 1 rfl) ?_
    refine lv_if_ne (tgt := 293) hx hb dL_law_278 (by decide) (fun c_278 => ?_) (fun c_278 => ?_)
    · have hm := hm.2 c_278
      refine lv_goto (tgt := 1137) hx hb dL_law_293 (by decide) ?_
      refine W.widen (k := cells + 3) (n := slots + 18) (by omega) (by omega) ?_
      exact kk S_266 _ _ _ hm hP hS (lv_sub hl [2, 3, 4, 5, 6] rfl)
    · have hm := hm.1 c_278
      refine lv_aload_n hx hb dL_law_281 rfl (lv_at hl 5 rfl) ?_
      refine lv_iconst (v := (0 : Int32)) hx hb dL_law_282 (by decide) ?_
      refine z_lald hx hb hK hP zJ_82 (by unfold vp_in; decide) dL_law_283 ?_
      refine lv_iload hx hb dL_law_284 (lv_at hl 0 rfl) ?_
      refine lv_i2l hx hb dL_law_286 rfl ?_
      refine W.lcmp hx hb dL_law_287 ?_
      refine lv_if_eq (tgt := 293) hx hb dL_law_288 (by decide) (fun c_288 => ?_) (fun c_288 => ?_)
      · have hm := hm.1 c_288
        refine lv_goto (tgt := 1137) hx hb dL_law_293 (by decide) ?_
        refine W.widen (k := cells + 3) (n := slots + 18) (by omega) (by omega) ?_
        exact kk S_266 _ _ _ hm hP hS (lv_sub hl [2, 3, 4, 5, 6] rfl)
      · have hm := hm.2 c_288
        refine lv_iconst (v := (0 : Int32)) hx hb dL_law_291 (by decide) ?_
        exact hm.elim
  · have hm := hm.2 c_271
    refine lv_iconst (v := (0 : Int32)) hx hb dL_law_274 (by decide) ?_
    exact hm.elim
def lawc_2 (y1 y2 y3 : Int32) (S : ZS) (N : ZS → Prop) : Prop :=
  L_term y1 y2 y3 S (fun r_315 S_315 => X7_term y1 y2 y3 S_315 (fun S_339 => X7_thrown S_339 (fun r_343 S_343 => (r_343 = r_315 → N S_343) ∧ (¬ r_343 = r_315 → False))))
set_option maxHeartbeats 4000000 in
set_option maxRecDepth 100000 in
theorem lc_2 {p : Program} {l : Launch} {e : Env} {s : State} {m : MethodId} {below : List Frame} {meth : Method} {c : Code} {b L : Nat} {xs : Nat → Int32} {D : va_G} {k : Nat → ClassId} {a : Nat → Nat} (C0 : zLaw p l s m meth c b L xs D k a) {i : Nat} (hi : i + 4 ≤ L) {cells slots : Nat} (hcs : cells + 3 ≤ 601024) (hss : slots + 18 ≤ 7293034) {S : ZS} {H : Heap} {locs : List Loc} {ls : Array Slot} (hP : va_P D vwCl (zWS k a S) H) (hS : va_S (zA a s.heap.size) s.heap H locs) (hl : lv_has ls 7 [(0, .ref b), (1, .ref (a 0)), (2, .ref (a 61)), (3, .ref (a 82)), (4, .int (nI i))]) {N : ZS → Prop} {y1 y2 y3 : Int32} (ey1 : y1 = xs (i + 1)) (ey2 : y2 = xs (i + 2)) (ey3 : y3 = xs (i + 3)) (hm : lawc_2 y1 y2 y3 S N)
    (kk : ∀ (S1 : ZS) (H1 : Heap) (locs1 : List Loc) (ls1 : Array Slot), N S1 → va_P D vwCl (zWS k a S1) H1 → va_S (zA a s.heap.size) s.heap H1 locs1 → lv_has ls1 7 [(0, .ref b), (1, .ref (a 0)), (2, .ref (a 61)), (3, .ref (a 82)), (4, .int (nI i))] → W p l e room_1 s m #[Value.ref b] below meth c H1 locs1 (cells + 3) (slots + 18) (lw_Z below #[Value.ref b] s) (F0 m 1137 ls1 [])) : W p l e room_1 s m #[Value.ref b] below meth c H locs cells slots (lw_Z below #[Value.ref b] s) (F0 m 296 ls []) := by
  obtain ⟨⟨hx, hb, hr, hml, hown, hts, hXs, hbl, hlocks, hgv⟩, hlt, hL, hj, hal, hK, hX⟩ := C0
  have hF : CallFix p m c cL_law 7 s #[Value.ref b] lw_tbl RL := ⟨hx, hb, hml, hown, hts⟩
  unfold lawc_2 at hm
  refine lv_aload_n hx hb dL_law_296 rfl (lv_at hl 1 rfl) ?_
  refine lv_aload_n hx hb dL_law_297 rfl (lv_at hl 0 rfl) ?_
  refine lv_iload hx hb dL_law_298 (lv_at hl 4 rfl) ?_
  refine lv_iconst (v := (1 : Int32)) hx hb dL_law_300 (by decide) ?_
  refine lv_iadd hx hb dL_law_301 ?_
  refine z_sld hx hb hXs hbl hal hS (j := i + 1) (nI_add i 1) (by omega) hL dL_law_302 ?_
  rw [← ey1]
  refine lv_aload_n hx hb dL_law_303 rfl (lv_at hl 0 rfl) ?_
  refine lv_iload hx hb dL_law_304 (lv_at hl 4 rfl) ?_
  refine lv_iconst (v := (2 : Int32)) hx hb dL_law_306 (by decide) ?_
  refine lv_iadd hx hb dL_law_307 ?_
  refine z_sld hx hb hXs hbl hal hS (j := i + 2) (nI_add i 2) (by omega) hL dL_law_308 ?_
  rw [← ey2]
  refine lv_aload_n hx hb dL_law_309 rfl (lv_at hl 0 rfl) ?_
  refine lv_iload hx hb dL_law_310 (lv_at hl 4 rfl) ?_
  refine lv_iconst (v := (3 : Int32)) hx hb dL_law_312 (by decide) ?_
  refine lv_iadd hx hb dL_law_313 ?_
  refine z_sld hx hb hXs hbl hal hS (j := i + 3) (nI_add i 3) (by omega) hL dL_law_314 ?_
  rw [← ey3]
  refine z_cWi (As := [.ref (a 0), .int y1, .int y2, .int y3]) (rest := []) hF hK hX hP hS (c_L_term l hlt D k a hj y1 y2 y3 S _ hm _) (vx_cwSW 4 hts zg_L_term rfl rfl rfl (by decide +kernel) ⟨(Nat.le_of_ble_eq_true rfl), (Nat.le_of_ble_eq_true rfl)⟩) rfl hl.1 rfl (Nat.le_of_ble_eq_true rfl) dL_law_315 ⟨by show _ ≤ 601024; omega, by show _ ≤ 7293034; omega⟩ (fun r_315 S_315 H locs hm hP hS => ?_)
  refine lv_istore (lv' := [(5, .int r_315), (0, .ref b), (1, .ref (a 0)), (2, .ref (a 61)), (3, .ref (a 82)), (4, .int (nI i))]) hx hb dL_law_318 hl (by decide) rfl (fun ls hl => ?_)
  refine lv_aload_n hx hb dL_law_320 rfl (lv_at hl 3 rfl) ?_
  refine lv_aload_n hx hb dL_law_321 rfl (lv_at hl 1 rfl) ?_
  refine lv_iload hx hb dL_law_322 (lv_at hl 5 rfl) ?_
  refine lv_iconst (v := (1 : Int32)) hx hb dL_law_324 (by decide) ?_
  refine lv_iadd hx hb dL_law_325 ?_
  refine z_sld hx hb hXs hbl hal hS (j := i + 1) (nI_add i 1) (by omega) hL dL_law_326 ?_
  rw [← ey1]
  refine lv_aload_n hx hb dL_law_327 rfl (lv_at hl 1 rfl) ?_
  refine lv_iload hx hb dL_law_328 (lv_at hl 5 rfl) ?_
  refine lv_iconst (v := (2 : Int32)) hx hb dL_law_330 (by decide) ?_
  refine lv_iadd hx hb dL_law_331 ?_
  refine z_sld hx hb hXs hbl hal hS (j := i + 2) (nI_add i 2) (by omega) hL dL_law_332 ?_
  rw [← ey2]
  refine lv_aload_n hx hb dL_law_333 rfl (lv_at hl 1 rfl) ?_
  refine lv_iload hx hb dL_law_334 (lv_at hl 5 rfl) ?_
  refine lv_iconst (v := (3 : Int32)) hx hb dL_law_336 (by decide) ?_
  refine lv_iadd hx hb dL_law_337 ?_
  refine z_sld hx hb hXs hbl hal hS (j := i + 3) (nI_add i 3) (by omega) hL dL_law_338 ?_
  rw [← ey3]
  refine z_cVv (As := [.int y1, .int y2, .int y3]) (rest := []) hF hK hP hS zO_61 rfl rfl (c_X7_term l D k a hj y1 y2 y3 S_315 _ hm _) (cwV 3 hts zg_X7_term rfl rfl rfl (by decide +kernel) ⟨(Nat.le_of_ble_eq_true rfl), (Nat.le_of_ble_eq_true rfl)⟩) rfl hl.1 rfl (Nat.le_of_ble_eq_true rfl) dL_law_339 ⟨by show _ ≤ 601024; omega, by show _ ≤ 7293034; omega⟩ (fun S_339 H locs hm hP hS => ?_)
  refine lv_aload_n hx hb dL_law_342 rfl (lv_at hl 3 rfl) ?_
  refine z_cVi (As := []) (rest := []) hF hK hP hS zO_61 rfl rfl (c_X7_thrown l D k a hj  S_339 _ hm _) (cwV 0 hts zg_X7_thrown rfl rfl rfl (by decide +kernel) ⟨(Nat.le_of_ble_eq_true rfl), (Nat.le_of_ble_eq_true rfl)⟩) rfl hl.1 rfl (Nat.le_of_ble_eq_true rfl) dL_law_343 ⟨by show _ ≤ 601024; omega, by show _ ≤ 7293034; omega⟩ (fun r_343 S_343 H locs hm hP hS => ?_)
  refine lv_iload hx hb dL_law_346 (lv_at hl 0 rfl) ?_
  refine lv_icmp_eq (tgt := 353) hx hb dL_law_348 (by decide) (fun c_348 => ?_) (fun c_348 => ?_)
  · have hm := hm.1 c_348
    refine lv_goto (tgt := 1137) hx hb dL_law_353 (by decide) ?_
    refine W.widen (k := cells + 3) (n := slots + 18) (by omega) (by omega) ?_
    exact kk S_343 _ _ _ hm hP hS (lv_sub hl [1, 2, 3, 4, 5] rfl)
  · have hm := hm.2 c_348
    refine lv_iconst (v := (0 : Int32)) hx hb dL_law_351 (by decide) ?_
    exact hm.elim
def lawc_3 (y1 y2 y3 : Int32) (S : ZS) (N : ZS → Prop) : Prop :=
  L_bounds y1 y2 y3 S (fun r_375 S_375 => X7_bounds y1 y2 y3 S_375 (fun S_399 => X7_thrown S_399 (fun r_403 S_403 => (r_403 = r_375 → N S_403) ∧ (¬ r_403 = r_375 → False))))
set_option maxHeartbeats 4000000 in
set_option maxRecDepth 100000 in
theorem lc_3 {p : Program} {l : Launch} {e : Env} {s : State} {m : MethodId} {below : List Frame} {meth : Method} {c : Code} {b L : Nat} {xs : Nat → Int32} {D : va_G} {k : Nat → ClassId} {a : Nat → Nat} (C0 : zLaw p l s m meth c b L xs D k a) {i : Nat} (hi : i + 4 ≤ L) {cells slots : Nat} (hcs : cells + 3 ≤ 601024) (hss : slots + 18 ≤ 7293034) {S : ZS} {H : Heap} {locs : List Loc} {ls : Array Slot} (hP : va_P D vwCl (zWS k a S) H) (hS : va_S (zA a s.heap.size) s.heap H locs) (hl : lv_has ls 7 [(0, .ref b), (1, .ref (a 0)), (2, .ref (a 61)), (3, .ref (a 82)), (4, .int (nI i))]) {N : ZS → Prop} {y1 y2 y3 : Int32} (ey1 : y1 = xs (i + 1)) (ey2 : y2 = xs (i + 2)) (ey3 : y3 = xs (i + 3)) (hm : lawc_3 y1 y2 y3 S N)
    (kk : ∀ (S1 : ZS) (H1 : Heap) (locs1 : List Loc) (ls1 : Array Slot), N S1 → va_P D vwCl (zWS k a S1) H1 → va_S (zA a s.heap.size) s.heap H1 locs1 → lv_has ls1 7 [(0, .ref b), (1, .ref (a 0)), (2, .ref (a 61)), (3, .ref (a 82)), (4, .int (nI i))] → W p l e room_1 s m #[Value.ref b] below meth c H1 locs1 (cells + 3) (slots + 18) (lw_Z below #[Value.ref b] s) (F0 m 1137 ls1 [])) : W p l e room_1 s m #[Value.ref b] below meth c H locs cells slots (lw_Z below #[Value.ref b] s) (F0 m 356 ls []) := by
  obtain ⟨⟨hx, hb, hr, hml, hown, hts, hXs, hbl, hlocks, hgv⟩, hlt, hL, hj, hal, hK, hX⟩ := C0
  have hF : CallFix p m c cL_law 7 s #[Value.ref b] lw_tbl RL := ⟨hx, hb, hml, hown, hts⟩
  unfold lawc_3 at hm
  refine lv_aload_n hx hb dL_law_356 rfl (lv_at hl 1 rfl) ?_
  refine lv_aload_n hx hb dL_law_357 rfl (lv_at hl 0 rfl) ?_
  refine lv_iload hx hb dL_law_358 (lv_at hl 4 rfl) ?_
  refine lv_iconst (v := (1 : Int32)) hx hb dL_law_360 (by decide) ?_
  refine lv_iadd hx hb dL_law_361 ?_
  refine z_sld hx hb hXs hbl hal hS (j := i + 1) (nI_add i 1) (by omega) hL dL_law_362 ?_
  rw [← ey1]
  refine lv_aload_n hx hb dL_law_363 rfl (lv_at hl 0 rfl) ?_
  refine lv_iload hx hb dL_law_364 (lv_at hl 4 rfl) ?_
  refine lv_iconst (v := (2 : Int32)) hx hb dL_law_366 (by decide) ?_
  refine lv_iadd hx hb dL_law_367 ?_
  refine z_sld hx hb hXs hbl hal hS (j := i + 2) (nI_add i 2) (by omega) hL dL_law_368 ?_
  rw [← ey2]
  refine lv_aload_n hx hb dL_law_369 rfl (lv_at hl 0 rfl) ?_
  refine lv_iload hx hb dL_law_370 (lv_at hl 4 rfl) ?_
  refine lv_iconst (v := (3 : Int32)) hx hb dL_law_372 (by decide) ?_
  refine lv_iadd hx hb dL_law_373 ?_
  refine z_sld hx hb hXs hbl hal hS (j := i + 3) (nI_add i 3) (by omega) hL dL_law_374 ?_
  rw [← ey3]
  refine z_cWi (As := [.ref (a 0), .int y1, .int y2, .int y3]) (rest := []) hF hK hX hP hS (c_L_bounds l hlt D k a hj y1 y2 y3 S _ hm _) (vx_cwSW 4 hts zg_L_bounds rfl rfl rfl (by decide +kernel) ⟨(Nat.le_of_ble_eq_true rfl), (Nat.le_of_ble_eq_true rfl)⟩) rfl hl.1 rfl (Nat.le_of_ble_eq_true rfl) dL_law_375 ⟨by show _ ≤ 601024; omega, by show _ ≤ 7293034; omega⟩ (fun r_375 S_375 H locs hm hP hS => ?_)
  refine lv_istore (lv' := [(5, .int r_375), (0, .ref b), (1, .ref (a 0)), (2, .ref (a 61)), (3, .ref (a 82)), (4, .int (nI i))]) hx hb dL_law_378 hl (by decide) rfl (fun ls hl => ?_)
  refine lv_aload_n hx hb dL_law_380 rfl (lv_at hl 3 rfl) ?_
  refine lv_aload_n hx hb dL_law_381 rfl (lv_at hl 1 rfl) ?_
  refine lv_iload hx hb dL_law_382 (lv_at hl 5 rfl) ?_
  refine lv_iconst (v := (1 : Int32)) hx hb dL_law_384 (by decide) ?_
  refine lv_iadd hx hb dL_law_385 ?_
  refine z_sld hx hb hXs hbl hal hS (j := i + 1) (nI_add i 1) (by omega) hL dL_law_386 ?_
  rw [← ey1]
  refine lv_aload_n hx hb dL_law_387 rfl (lv_at hl 1 rfl) ?_
  refine lv_iload hx hb dL_law_388 (lv_at hl 5 rfl) ?_
  refine lv_iconst (v := (2 : Int32)) hx hb dL_law_390 (by decide) ?_
  refine lv_iadd hx hb dL_law_391 ?_
  refine z_sld hx hb hXs hbl hal hS (j := i + 2) (nI_add i 2) (by omega) hL dL_law_392 ?_
  rw [← ey2]
  refine lv_aload_n hx hb dL_law_393 rfl (lv_at hl 1 rfl) ?_
  refine lv_iload hx hb dL_law_394 (lv_at hl 5 rfl) ?_
  refine lv_iconst (v := (3 : Int32)) hx hb dL_law_396 (by decide) ?_
  refine lv_iadd hx hb dL_law_397 ?_
  refine z_sld hx hb hXs hbl hal hS (j := i + 3) (nI_add i 3) (by omega) hL dL_law_398 ?_
  rw [← ey3]
  refine z_cVv (As := [.int y1, .int y2, .int y3]) (rest := []) hF hK hP hS zO_61 rfl rfl (c_X7_bounds l D k a hj y1 y2 y3 S_375 _ hm _) (cwV 3 hts zg_X7_bounds rfl rfl rfl (by decide +kernel) ⟨(Nat.le_of_ble_eq_true rfl), (Nat.le_of_ble_eq_true rfl)⟩) rfl hl.1 rfl (Nat.le_of_ble_eq_true rfl) dL_law_399 ⟨by show _ ≤ 601024; omega, by show _ ≤ 7293034; omega⟩ (fun S_399 H locs hm hP hS => ?_)
  refine lv_aload_n hx hb dL_law_402 rfl (lv_at hl 3 rfl) ?_
  refine z_cVi (As := []) (rest := []) hF hK hP hS zO_61 rfl rfl (c_X7_thrown l D k a hj  S_399 _ hm _) (cwV 0 hts zg_X7_thrown rfl rfl rfl (by decide +kernel) ⟨(Nat.le_of_ble_eq_true rfl), (Nat.le_of_ble_eq_true rfl)⟩) rfl hl.1 rfl (Nat.le_of_ble_eq_true rfl) dL_law_403 ⟨by show _ ≤ 601024; omega, by show _ ≤ 7293034; omega⟩ (fun r_403 S_403 H locs hm hP hS => ?_)
  refine lv_iload hx hb dL_law_406 (lv_at hl 0 rfl) ?_
  refine lv_icmp_eq (tgt := 413) hx hb dL_law_408 (by decide) (fun c_408 => ?_) (fun c_408 => ?_)
  · have hm := hm.1 c_408
    refine lv_goto (tgt := 1137) hx hb dL_law_413 (by decide) ?_
    refine W.widen (k := cells + 3) (n := slots + 18) (by omega) (by omega) ?_
    exact kk S_403 _ _ _ hm hP hS (lv_sub hl [1, 2, 3, 4, 5] rfl)
  · have hm := hm.2 c_408
    refine lv_iconst (v := (0 : Int32)) hx hb dL_law_411 (by decide) ?_
    exact hm.elim
def lawc_4 (y1 y2 y3 : Int32) (S : ZS) (N : ZS → Prop) : Prop :=
  L_cost y1 y2 S (fun r_430 S_430 => X7_cost y1 y2 S_430 (fun r_448 S_448 => X7_thrown S_448 (fun r_454 S_454 => (r_454 = r_430 → (r_430 = 0 → ((lg_cmp (S_454.2 82 0) (Int32.toInt64 r_448)) = 0 → N S_454) ∧ (¬ (lg_cmp (S_454.2 82 0) (Int32.toInt64 r_448)) = 0 → False)) ∧ (¬ r_430 = 0 → N S_454)) ∧ (¬ r_454 = r_430 → False))))
set_option maxHeartbeats 4000000 in
set_option maxRecDepth 100000 in
theorem lc_4 {p : Program} {l : Launch} {e : Env} {s : State} {m : MethodId} {below : List Frame} {meth : Method} {c : Code} {b L : Nat} {xs : Nat → Int32} {D : va_G} {k : Nat → ClassId} {a : Nat → Nat} (C0 : zLaw p l s m meth c b L xs D k a) {i : Nat} (hi : i + 4 ≤ L) {cells slots : Nat} (hcs : cells + 3 ≤ 601024) (hss : slots + 18 ≤ 7293034) {S : ZS} {H : Heap} {locs : List Loc} {ls : Array Slot} (hP : va_P D vwCl (zWS k a S) H) (hS : va_S (zA a s.heap.size) s.heap H locs) (hl : lv_has ls 7 [(0, .ref b), (1, .ref (a 0)), (2, .ref (a 61)), (3, .ref (a 82)), (4, .int (nI i))]) {N : ZS → Prop} {y1 y2 y3 : Int32} (ey1 : y1 = xs (i + 1)) (ey2 : y2 = xs (i + 2)) (ey3 : y3 = xs (i + 3)) (hm : lawc_4 y1 y2 y3 S N)
    (kk : ∀ (S1 : ZS) (H1 : Heap) (locs1 : List Loc) (ls1 : Array Slot), N S1 → va_P D vwCl (zWS k a S1) H1 → va_S (zA a s.heap.size) s.heap H1 locs1 → lv_has ls1 7 [(0, .ref b), (1, .ref (a 0)), (2, .ref (a 61)), (3, .ref (a 82)), (4, .int (nI i))] → W p l e room_1 s m #[Value.ref b] below meth c H1 locs1 (cells + 3) (slots + 18) (lw_Z below #[Value.ref b] s) (F0 m 1137 ls1 [])) : W p l e room_1 s m #[Value.ref b] below meth c H locs cells slots (lw_Z below #[Value.ref b] s) (F0 m 416 ls []) := by
  obtain ⟨⟨hx, hb, hr, hml, hown, hts, hXs, hbl, hlocks, hgv⟩, hlt, hL, hj, hal, hK, hX⟩ := C0
  have hF : CallFix p m c cL_law 7 s #[Value.ref b] lw_tbl RL := ⟨hx, hb, hml, hown, hts⟩
  unfold lawc_4 at hm
  refine lv_aload_n hx hb dL_law_416 rfl (lv_at hl 1 rfl) ?_
  refine lv_aload_n hx hb dL_law_417 rfl (lv_at hl 0 rfl) ?_
  refine lv_iload hx hb dL_law_418 (lv_at hl 4 rfl) ?_
  refine lv_iconst (v := (1 : Int32)) hx hb dL_law_420 (by decide) ?_
  refine lv_iadd hx hb dL_law_421 ?_
  refine z_sld hx hb hXs hbl hal hS (j := i + 1) (nI_add i 1) (by omega) hL dL_law_422 ?_
  rw [← ey1]
  refine lv_aload_n hx hb dL_law_423 rfl (lv_at hl 0 rfl) ?_
  refine lv_iload hx hb dL_law_424 (lv_at hl 4 rfl) ?_
  refine lv_iconst (v := (2 : Int32)) hx hb dL_law_426 (by decide) ?_
  refine lv_iadd hx hb dL_law_427 ?_
  refine z_sld hx hb hXs hbl hal hS (j := i + 2) (nI_add i 2) (by omega) hL dL_law_428 ?_
  rw [← ey2]
  refine lv_aload_n hx hb dL_law_429 rfl (lv_at hl 3 rfl) ?_
  refine z_cWi (As := [.ref (a 0), .int y1, .int y2, .ref (a 82)]) (rest := []) hF hK hX hP hS (c_L_cost l hlt D k a hj y1 y2 S _ hm _) (vx_cwSW 4 hts zg_L_cost rfl rfl rfl (by decide +kernel) ⟨(Nat.le_of_ble_eq_true rfl), (Nat.le_of_ble_eq_true rfl)⟩) rfl hl.1 rfl (Nat.le_of_ble_eq_true rfl) dL_law_430 ⟨by show _ ≤ 601024; omega, by show _ ≤ 7293034; omega⟩ (fun r_430 S_430 H locs hm hP hS => ?_)
  refine lv_istore (lv' := [(5, .int r_430), (0, .ref b), (1, .ref (a 0)), (2, .ref (a 61)), (3, .ref (a 82)), (4, .int (nI i))]) hx hb dL_law_433 hl (by decide) rfl (fun ls hl => ?_)
  refine lv_aload_n hx hb dL_law_435 rfl (lv_at hl 3 rfl) ?_
  refine lv_aload_n hx hb dL_law_436 rfl (lv_at hl 1 rfl) ?_
  refine lv_iload hx hb dL_law_437 (lv_at hl 5 rfl) ?_
  refine lv_iconst (v := (1 : Int32)) hx hb dL_law_439 (by decide) ?_
  refine lv_iadd hx hb dL_law_440 ?_
  refine z_sld hx hb hXs hbl hal hS (j := i + 1) (nI_add i 1) (by omega) hL dL_law_441 ?_
  rw [← ey1]
  refine lv_aload_n hx hb dL_law_442 rfl (lv_at hl 1 rfl) ?_
  refine lv_iload hx hb dL_law_443 (lv_at hl 5 rfl) ?_
  refine lv_iconst (v := (2 : Int32)) hx hb dL_law_445 (by decide) ?_
  refine lv_iadd hx hb dL_law_446 ?_
  refine z_sld hx hb hXs hbl hal hS (j := i + 2) (nI_add i 2) (by omega) hL dL_law_447 ?_
  rw [← ey2]
  refine z_cVi (As := [.int y1, .int y2]) (rest := []) hF hK hP hS zO_61 rfl rfl (c_X7_cost l D k a hj y1 y2 S_430 _ hm _) (cwV 2 hts zg_X7_cost rfl rfl rfl (by decide +kernel) ⟨(Nat.le_of_ble_eq_true rfl), (Nat.le_of_ble_eq_true rfl)⟩) rfl hl.1 rfl (Nat.le_of_ble_eq_true rfl) dL_law_448 ⟨by show _ ≤ 601024; omega, by show _ ≤ 7293034; omega⟩ (fun r_448 S_448 H locs hm hP hS => ?_)
  refine lv_istore (lv' := [(6, .int r_448), (5, .int r_430), (0, .ref b), (1, .ref (a 0)), (2, .ref (a 61)), (3, .ref (a 82)), (4, .int (nI i))]) hx hb dL_law_451 hl (by decide) rfl (fun ls hl => ?_)
  refine lv_aload_n hx hb dL_law_453 rfl (lv_at hl 4 rfl) ?_
  refine z_cVi (As := []) (rest := []) hF hK hP hS zO_61 rfl rfl (c_X7_thrown l D k a hj  S_448 _ hm _) (cwV 0 hts zg_X7_thrown rfl rfl rfl (by decide +kernel) ⟨(Nat.le_of_ble_eq_true rfl), (Nat.le_of_ble_eq_true rfl)⟩) rfl hl.1 rfl (Nat.le_of_ble_eq_true rfl) dL_law_454 ⟨by show _ ≤ 601024; omega, by show _ ≤ 7293034; omega⟩ (fun r_454 S_454 H locs hm hP hS => ?_)
  refine lv_iload hx hb dL_law_457 (lv_at hl 1 rfl) ?_
  refine lv_icmp_eq (tgt := 464) hx hb dL_law_459 (by decide) (fun c_459 => ?_) (fun c_459 => ?_)
  · have hm := hm.1 c_459
    refine lv_iload hx hb dL_law_464 (lv_at hl 1 rfl) ?_
    refine lv_if_ne (tgt := 481) hx hb dL_law_466 (by decide) (fun c_466 => ?_) (fun c_466 => ?_)
    · have hm := hm.2 c_466
      refine lv_goto (tgt := 1137) hx hb dL_law_481 (by decide) ?_
      refine W.widen (k := cells + 3) (n := slots + 18) (by omega) (by omega) ?_
      exact kk S_454 _ _ _ hm hP hS (lv_sub hl [2, 3, 4, 5, 6] rfl)
    · have hm := hm.1 c_466
      refine lv_aload_n hx hb dL_law_469 rfl (lv_at hl 5 rfl) ?_
      refine lv_iconst (v := (0 : Int32)) hx hb dL_law_470 (by decide) ?_
      refine z_lald hx hb hK hP zJ_82 (by unfold vp_in; decide) dL_law_471 ?_
      refine lv_iload hx hb dL_law_472 (lv_at hl 0 rfl) ?_
      refine lv_i2l hx hb dL_law_474 rfl ?_
      refine W.lcmp hx hb dL_law_475 ?_
      refine lv_if_eq (tgt := 481) hx hb dL_law_476 (by decide) (fun c_476 => ?_) (fun c_476 => ?_)
      · have hm := hm.1 c_476
        refine lv_goto (tgt := 1137) hx hb dL_law_481 (by decide) ?_
        refine W.widen (k := cells + 3) (n := slots + 18) (by omega) (by omega) ?_
        exact kk S_454 _ _ _ hm hP hS (lv_sub hl [2, 3, 4, 5, 6] rfl)
      · have hm := hm.2 c_476
        refine lv_iconst (v := (0 : Int32)) hx hb dL_law_479 (by decide) ?_
        exact hm.elim
  · have hm := hm.2 c_459
    refine lv_iconst (v := (0 : Int32)) hx hb dL_law_462 (by decide) ?_
    exact hm.elim
def lawc_5 (y1 y2 y3 : Int32) (S : ZS) (N : ZS → Prop) : Prop :=
  L_right y1 y2 S (fun r_498 S_498 => X7_right y1 y2 S_498 (fun r_516 S_516 => X7_thrown S_516 (fun r_522 S_522 => (r_522 = r_498 → (r_498 = 0 → ((lg_cmp (S_522.2 82 0) (Int32.toInt64 r_516)) = 0 → N S_522) ∧ (¬ (lg_cmp (S_522.2 82 0) (Int32.toInt64 r_516)) = 0 → False)) ∧ (¬ r_498 = 0 → N S_522)) ∧ (¬ r_522 = r_498 → False))))
set_option maxHeartbeats 4000000 in
set_option maxRecDepth 100000 in
theorem lc_5 {p : Program} {l : Launch} {e : Env} {s : State} {m : MethodId} {below : List Frame} {meth : Method} {c : Code} {b L : Nat} {xs : Nat → Int32} {D : va_G} {k : Nat → ClassId} {a : Nat → Nat} (C0 : zLaw p l s m meth c b L xs D k a) {i : Nat} (hi : i + 4 ≤ L) {cells slots : Nat} (hcs : cells + 3 ≤ 601024) (hss : slots + 18 ≤ 7293034) {S : ZS} {H : Heap} {locs : List Loc} {ls : Array Slot} (hP : va_P D vwCl (zWS k a S) H) (hS : va_S (zA a s.heap.size) s.heap H locs) (hl : lv_has ls 7 [(0, .ref b), (1, .ref (a 0)), (2, .ref (a 61)), (3, .ref (a 82)), (4, .int (nI i))]) {N : ZS → Prop} {y1 y2 y3 : Int32} (ey1 : y1 = xs (i + 1)) (ey2 : y2 = xs (i + 2)) (ey3 : y3 = xs (i + 3)) (hm : lawc_5 y1 y2 y3 S N)
    (kk : ∀ (S1 : ZS) (H1 : Heap) (locs1 : List Loc) (ls1 : Array Slot), N S1 → va_P D vwCl (zWS k a S1) H1 → va_S (zA a s.heap.size) s.heap H1 locs1 → lv_has ls1 7 [(0, .ref b), (1, .ref (a 0)), (2, .ref (a 61)), (3, .ref (a 82)), (4, .int (nI i))] → W p l e room_1 s m #[Value.ref b] below meth c H1 locs1 (cells + 3) (slots + 18) (lw_Z below #[Value.ref b] s) (F0 m 1137 ls1 [])) : W p l e room_1 s m #[Value.ref b] below meth c H locs cells slots (lw_Z below #[Value.ref b] s) (F0 m 484 ls []) := by
  obtain ⟨⟨hx, hb, hr, hml, hown, hts, hXs, hbl, hlocks, hgv⟩, hlt, hL, hj, hal, hK, hX⟩ := C0
  have hF : CallFix p m c cL_law 7 s #[Value.ref b] lw_tbl RL := ⟨hx, hb, hml, hown, hts⟩
  unfold lawc_5 at hm
  refine lv_aload_n hx hb dL_law_484 rfl (lv_at hl 1 rfl) ?_
  refine lv_aload_n hx hb dL_law_485 rfl (lv_at hl 0 rfl) ?_
  refine lv_iload hx hb dL_law_486 (lv_at hl 4 rfl) ?_
  refine lv_iconst (v := (1 : Int32)) hx hb dL_law_488 (by decide) ?_
  refine lv_iadd hx hb dL_law_489 ?_
  refine z_sld hx hb hXs hbl hal hS (j := i + 1) (nI_add i 1) (by omega) hL dL_law_490 ?_
  rw [← ey1]
  refine lv_aload_n hx hb dL_law_491 rfl (lv_at hl 0 rfl) ?_
  refine lv_iload hx hb dL_law_492 (lv_at hl 4 rfl) ?_
  refine lv_iconst (v := (2 : Int32)) hx hb dL_law_494 (by decide) ?_
  refine lv_iadd hx hb dL_law_495 ?_
  refine z_sld hx hb hXs hbl hal hS (j := i + 2) (nI_add i 2) (by omega) hL dL_law_496 ?_
  rw [← ey2]
  refine lv_aload_n hx hb dL_law_497 rfl (lv_at hl 3 rfl) ?_
  refine z_cWi (As := [.ref (a 0), .int y1, .int y2, .ref (a 82)]) (rest := []) hF hK hX hP hS (c_L_right l hlt D k a hj y1 y2 S _ hm _) (vx_cwSW 4 hts zg_L_right rfl rfl rfl (by decide +kernel) ⟨(Nat.le_of_ble_eq_true rfl), (Nat.le_of_ble_eq_true rfl)⟩) rfl hl.1 rfl (Nat.le_of_ble_eq_true rfl) dL_law_498 ⟨by show _ ≤ 601024; omega, by show _ ≤ 7293034; omega⟩ (fun r_498 S_498 H locs hm hP hS => ?_)
  refine lv_istore (lv' := [(5, .int r_498), (0, .ref b), (1, .ref (a 0)), (2, .ref (a 61)), (3, .ref (a 82)), (4, .int (nI i))]) hx hb dL_law_501 hl (by decide) rfl (fun ls hl => ?_)
  refine lv_aload_n hx hb dL_law_503 rfl (lv_at hl 3 rfl) ?_
  refine lv_aload_n hx hb dL_law_504 rfl (lv_at hl 1 rfl) ?_
  refine lv_iload hx hb dL_law_505 (lv_at hl 5 rfl) ?_
  refine lv_iconst (v := (1 : Int32)) hx hb dL_law_507 (by decide) ?_
  refine lv_iadd hx hb dL_law_508 ?_
  refine z_sld hx hb hXs hbl hal hS (j := i + 1) (nI_add i 1) (by omega) hL dL_law_509 ?_
  rw [← ey1]
  refine lv_aload_n hx hb dL_law_510 rfl (lv_at hl 1 rfl) ?_
  refine lv_iload hx hb dL_law_511 (lv_at hl 5 rfl) ?_
  refine lv_iconst (v := (2 : Int32)) hx hb dL_law_513 (by decide) ?_
  refine lv_iadd hx hb dL_law_514 ?_
  refine z_sld hx hb hXs hbl hal hS (j := i + 2) (nI_add i 2) (by omega) hL dL_law_515 ?_
  rw [← ey2]
  refine z_cVi (As := [.int y1, .int y2]) (rest := []) hF hK hP hS zO_61 rfl rfl (c_X7_right l D k a hj y1 y2 S_498 _ hm _) (cwV 2 hts zg_X7_right rfl rfl rfl (by decide +kernel) ⟨(Nat.le_of_ble_eq_true rfl), (Nat.le_of_ble_eq_true rfl)⟩) rfl hl.1 rfl (Nat.le_of_ble_eq_true rfl) dL_law_516 ⟨by show _ ≤ 601024; omega, by show _ ≤ 7293034; omega⟩ (fun r_516 S_516 H locs hm hP hS => ?_)
  refine lv_istore (lv' := [(6, .int r_516), (5, .int r_498), (0, .ref b), (1, .ref (a 0)), (2, .ref (a 61)), (3, .ref (a 82)), (4, .int (nI i))]) hx hb dL_law_519 hl (by decide) rfl (fun ls hl => ?_)
  refine lv_aload_n hx hb dL_law_521 rfl (lv_at hl 4 rfl) ?_
  refine z_cVi (As := []) (rest := []) hF hK hP hS zO_61 rfl rfl (c_X7_thrown l D k a hj  S_516 _ hm _) (cwV 0 hts zg_X7_thrown rfl rfl rfl (by decide +kernel) ⟨(Nat.le_of_ble_eq_true rfl), (Nat.le_of_ble_eq_true rfl)⟩) rfl hl.1 rfl (Nat.le_of_ble_eq_true rfl) dL_law_522 ⟨by show _ ≤ 601024; omega, by show _ ≤ 7293034; omega⟩ (fun r_522 S_522 H locs hm hP hS => ?_)
  refine lv_iload hx hb dL_law_525 (lv_at hl 1 rfl) ?_
  refine lv_icmp_eq (tgt := 532) hx hb dL_law_527 (by decide) (fun c_527 => ?_) (fun c_527 => ?_)
  · have hm := hm.1 c_527
    refine lv_iload hx hb dL_law_532 (lv_at hl 1 rfl) ?_
    refine lv_if_ne (tgt := 549) hx hb dL_law_534 (by decide) (fun c_534 => ?_) (fun c_534 => ?_)
    · have hm := hm.2 c_534
      refine lv_goto (tgt := 1137) hx hb dL_law_549 (by decide) ?_
      refine W.widen (k := cells + 3) (n := slots + 18) (by omega) (by omega) ?_
      exact kk S_522 _ _ _ hm hP hS (lv_sub hl [2, 3, 4, 5, 6] rfl)
    · have hm := hm.1 c_534
      refine lv_aload_n hx hb dL_law_537 rfl (lv_at hl 5 rfl) ?_
      refine lv_iconst (v := (0 : Int32)) hx hb dL_law_538 (by decide) ?_
      refine z_lald hx hb hK hP zJ_82 (by unfold vp_in; decide) dL_law_539 ?_
      refine lv_iload hx hb dL_law_540 (lv_at hl 0 rfl) ?_
      refine lv_i2l hx hb dL_law_542 rfl ?_
      refine W.lcmp hx hb dL_law_543 ?_
      refine lv_if_eq (tgt := 549) hx hb dL_law_544 (by decide) (fun c_544 => ?_) (fun c_544 => ?_)
      · have hm := hm.1 c_544
        refine lv_goto (tgt := 1137) hx hb dL_law_549 (by decide) ?_
        refine W.widen (k := cells + 3) (n := slots + 18) (by omega) (by omega) ?_
        exact kk S_522 _ _ _ hm hP hS (lv_sub hl [2, 3, 4, 5, 6] rfl)
      · have hm := hm.2 c_544
        refine lv_iconst (v := (0 : Int32)) hx hb dL_law_547 (by decide) ?_
        exact hm.elim
  · have hm := hm.2 c_527
    refine lv_iconst (v := (0 : Int32)) hx hb dL_law_530 (by decide) ?_
    exact hm.elim
def lawc_6 (y1 y2 y3 : Int32) (S : ZS) (N : ZS → Prop) : Prop :=
  X6_clear S (fun r_553 S_553 => X7_clear S_553 (fun r_557 S_557 => (r_553 = r_557 → N S_557) ∧ (¬ r_553 = r_557 → False)))
set_option maxHeartbeats 4000000 in
set_option maxRecDepth 100000 in
theorem lc_6 {p : Program} {l : Launch} {e : Env} {s : State} {m : MethodId} {below : List Frame} {meth : Method} {c : Code} {b L : Nat} {xs : Nat → Int32} {D : va_G} {k : Nat → ClassId} {a : Nat → Nat} (C0 : zLaw p l s m meth c b L xs D k a) {i : Nat} (hi : i + 4 ≤ L) {cells slots : Nat} (hcs : cells + 3 ≤ 601024) (hss : slots + 18 ≤ 7293034) {S : ZS} {H : Heap} {locs : List Loc} {ls : Array Slot} (hP : va_P D vwCl (zWS k a S) H) (hS : va_S (zA a s.heap.size) s.heap H locs) (hl : lv_has ls 7 [(0, .ref b), (1, .ref (a 0)), (2, .ref (a 61)), (3, .ref (a 82)), (4, .int (nI i))]) {N : ZS → Prop} {y1 y2 y3 : Int32} (ey1 : y1 = xs (i + 1)) (ey2 : y2 = xs (i + 2)) (ey3 : y3 = xs (i + 3)) (hm : lawc_6 y1 y2 y3 S N)
    (kk : ∀ (S1 : ZS) (H1 : Heap) (locs1 : List Loc) (ls1 : Array Slot), N S1 → va_P D vwCl (zWS k a S1) H1 → va_S (zA a s.heap.size) s.heap H1 locs1 → lv_has ls1 7 [(0, .ref b), (1, .ref (a 0)), (2, .ref (a 61)), (3, .ref (a 82)), (4, .int (nI i))] → W p l e room_1 s m #[Value.ref b] below meth c H1 locs1 (cells + 3) (slots + 18) (lw_Z below #[Value.ref b] s) (F0 m 1137 ls1 [])) : W p l e room_1 s m #[Value.ref b] below meth c H locs cells slots (lw_Z below #[Value.ref b] s) (F0 m 552 ls []) := by
  obtain ⟨⟨hx, hb, hr, hml, hown, hts, hXs, hbl, hlocks, hgv⟩, hlt, hL, hj, hal, hK, hX⟩ := C0
  have hF : CallFix p m c cL_law 7 s #[Value.ref b] lw_tbl RL := ⟨hx, hb, hml, hown, hts⟩
  unfold lawc_6 at hm
  refine lv_aload_n hx hb dL_law_552 rfl (lv_at hl 1 rfl) ?_
  refine z_cVi (As := []) (rest := []) hF hK hP hS zO_0 rfl rfl (c_X6_clear l D k a hj  S _ hm _) (cwV 0 hts zg_X6_clear rfl rfl rfl (by decide +kernel) ⟨(Nat.le_of_ble_eq_true rfl), (Nat.le_of_ble_eq_true rfl)⟩) rfl hl.1 rfl (Nat.le_of_ble_eq_true rfl) dL_law_553 ⟨by show _ ≤ 601024; omega, by show _ ≤ 7293034; omega⟩ (fun r_553 S_553 H locs hm hP hS => ?_)
  refine lv_aload_n hx hb dL_law_556 rfl (lv_at hl 2 rfl) ?_
  refine z_cVi (As := []) (rest := [.int r_553]) hF hK hP hS zO_61 rfl rfl (c_X7_clear l D k a hj  S_553 _ hm _) (cwV 0 hts zg_X7_clear rfl rfl rfl (by decide +kernel) ⟨(Nat.le_of_ble_eq_true rfl), (Nat.le_of_ble_eq_true rfl)⟩) rfl hl.1 rfl (Nat.le_of_ble_eq_true rfl) dL_law_557 ⟨by show _ ≤ 601024; omega, by show _ ≤ 7293034; omega⟩ (fun r_557 S_557 H locs hm hP hS => ?_)
  refine lv_icmp_eq (tgt := 1137) hx hb dL_law_560 (by decide) (fun c_560 => ?_) (fun c_560 => ?_)
  · have hm := hm.1 c_560
    refine W.widen (k := cells + 3) (n := slots + 18) (by omega) (by omega) ?_
    exact kk S_557 _ _ _ hm hP hS (lv_sub hl [0, 1, 2, 3, 4] rfl)
  · have hm := hm.2 c_560
    refine lv_iconst (v := (0 : Int32)) hx hb dL_law_563 (by decide) ?_
    exact hm.elim
def lawc_7 (y1 y2 y3 : Int32) (S : ZS) (N : ZS → Prop) : Prop :=
  X6_parts S (fun r_566 S_566 => X7_parts S_566 (fun r_570 S_570 => (r_566 = r_570 → N S_570) ∧ (¬ r_566 = r_570 → False)))
set_option maxHeartbeats 4000000 in
set_option maxRecDepth 100000 in
theorem lc_7 {p : Program} {l : Launch} {e : Env} {s : State} {m : MethodId} {below : List Frame} {meth : Method} {c : Code} {b L : Nat} {xs : Nat → Int32} {D : va_G} {k : Nat → ClassId} {a : Nat → Nat} (C0 : zLaw p l s m meth c b L xs D k a) {i : Nat} (hi : i + 4 ≤ L) {cells slots : Nat} (hcs : cells + 3 ≤ 601024) (hss : slots + 18 ≤ 7293034) {S : ZS} {H : Heap} {locs : List Loc} {ls : Array Slot} (hP : va_P D vwCl (zWS k a S) H) (hS : va_S (zA a s.heap.size) s.heap H locs) (hl : lv_has ls 7 [(0, .ref b), (1, .ref (a 0)), (2, .ref (a 61)), (3, .ref (a 82)), (4, .int (nI i))]) {N : ZS → Prop} {y1 y2 y3 : Int32} (ey1 : y1 = xs (i + 1)) (ey2 : y2 = xs (i + 2)) (ey3 : y3 = xs (i + 3)) (hm : lawc_7 y1 y2 y3 S N)
    (kk : ∀ (S1 : ZS) (H1 : Heap) (locs1 : List Loc) (ls1 : Array Slot), N S1 → va_P D vwCl (zWS k a S1) H1 → va_S (zA a s.heap.size) s.heap H1 locs1 → lv_has ls1 7 [(0, .ref b), (1, .ref (a 0)), (2, .ref (a 61)), (3, .ref (a 82)), (4, .int (nI i))] → W p l e room_1 s m #[Value.ref b] below meth c H1 locs1 (cells + 3) (slots + 18) (lw_Z below #[Value.ref b] s) (F0 m 1137 ls1 [])) : W p l e room_1 s m #[Value.ref b] below meth c H locs cells slots (lw_Z below #[Value.ref b] s) (F0 m 565 ls []) := by
  obtain ⟨⟨hx, hb, hr, hml, hown, hts, hXs, hbl, hlocks, hgv⟩, hlt, hL, hj, hal, hK, hX⟩ := C0
  have hF : CallFix p m c cL_law 7 s #[Value.ref b] lw_tbl RL := ⟨hx, hb, hml, hown, hts⟩
  unfold lawc_7 at hm
  refine lv_aload_n hx hb dL_law_565 rfl (lv_at hl 1 rfl) ?_
  refine z_cVi (As := []) (rest := []) hF hK hP hS zO_0 rfl rfl (c_X6_parts l D k a hj  S _ hm _) (cwV 0 hts zg_X6_parts rfl rfl rfl (by decide +kernel) ⟨(Nat.le_of_ble_eq_true rfl), (Nat.le_of_ble_eq_true rfl)⟩) rfl hl.1 rfl (Nat.le_of_ble_eq_true rfl) dL_law_566 ⟨by show _ ≤ 601024; omega, by show _ ≤ 7293034; omega⟩ (fun r_566 S_566 H locs hm hP hS => ?_)
  refine lv_aload_n hx hb dL_law_569 rfl (lv_at hl 2 rfl) ?_
  refine z_cVi (As := []) (rest := [.int r_566]) hF hK hP hS zO_61 rfl rfl (c_X7_parts l D k a hj  S_566 _ hm _) (cwV 0 hts zg_X7_parts rfl rfl rfl (by decide +kernel) ⟨(Nat.le_of_ble_eq_true rfl), (Nat.le_of_ble_eq_true rfl)⟩) rfl hl.1 rfl (Nat.le_of_ble_eq_true rfl) dL_law_570 ⟨by show _ ≤ 601024; omega, by show _ ≤ 7293034; omega⟩ (fun r_570 S_570 H locs hm hP hS => ?_)
  refine lv_icmp_eq (tgt := 1137) hx hb dL_law_573 (by decide) (fun c_573 => ?_) (fun c_573 => ?_)
  · have hm := hm.1 c_573
    refine W.widen (k := cells + 3) (n := slots + 18) (by omega) (by omega) ?_
    exact kk S_570 _ _ _ hm hP hS (lv_sub hl [0, 1, 2, 3, 4] rfl)
  · have hm := hm.2 c_573
    refine lv_iconst (v := (0 : Int32)) hx hb dL_law_576 (by decide) ?_
    exact hm.elim
def lawc_8 (y1 y2 y3 : Int32) (S : ZS) (N : ZS → Prop) : Prop :=
  L_part y1 S (fun r_586 S_586 => X7_part y1 S_586 (fun r_598 S_598 => X7_thrown S_598 (fun r_604 S_604 => (r_604 = r_586 → (r_586 = 0 → ((lg_cmp (S_604.2 82 0) (Int32.toInt64 r_598)) = 0 → N S_604) ∧ (¬ (lg_cmp (S_604.2 82 0) (Int32.toInt64 r_598)) = 0 → False)) ∧ (¬ r_586 = 0 → N S_604)) ∧ (¬ r_604 = r_586 → False))))
set_option maxHeartbeats 4000000 in
set_option maxRecDepth 100000 in
theorem lc_8 {p : Program} {l : Launch} {e : Env} {s : State} {m : MethodId} {below : List Frame} {meth : Method} {c : Code} {b L : Nat} {xs : Nat → Int32} {D : va_G} {k : Nat → ClassId} {a : Nat → Nat} (C0 : zLaw p l s m meth c b L xs D k a) {i : Nat} (hi : i + 4 ≤ L) {cells slots : Nat} (hcs : cells + 3 ≤ 601024) (hss : slots + 18 ≤ 7293034) {S : ZS} {H : Heap} {locs : List Loc} {ls : Array Slot} (hP : va_P D vwCl (zWS k a S) H) (hS : va_S (zA a s.heap.size) s.heap H locs) (hl : lv_has ls 7 [(0, .ref b), (1, .ref (a 0)), (2, .ref (a 61)), (3, .ref (a 82)), (4, .int (nI i))]) {N : ZS → Prop} {y1 y2 y3 : Int32} (ey1 : y1 = xs (i + 1)) (ey2 : y2 = xs (i + 2)) (ey3 : y3 = xs (i + 3)) (hm : lawc_8 y1 y2 y3 S N)
    (kk : ∀ (S1 : ZS) (H1 : Heap) (locs1 : List Loc) (ls1 : Array Slot), N S1 → va_P D vwCl (zWS k a S1) H1 → va_S (zA a s.heap.size) s.heap H1 locs1 → lv_has ls1 7 [(0, .ref b), (1, .ref (a 0)), (2, .ref (a 61)), (3, .ref (a 82)), (4, .int (nI i))] → W p l e room_1 s m #[Value.ref b] below meth c H1 locs1 (cells + 3) (slots + 18) (lw_Z below #[Value.ref b] s) (F0 m 1137 ls1 [])) : W p l e room_1 s m #[Value.ref b] below meth c H locs cells slots (lw_Z below #[Value.ref b] s) (F0 m 578 ls []) := by
  obtain ⟨⟨hx, hb, hr, hml, hown, hts, hXs, hbl, hlocks, hgv⟩, hlt, hL, hj, hal, hK, hX⟩ := C0
  have hF : CallFix p m c cL_law 7 s #[Value.ref b] lw_tbl RL := ⟨hx, hb, hml, hown, hts⟩
  unfold lawc_8 at hm
  refine lv_aload_n hx hb dL_law_578 rfl (lv_at hl 1 rfl) ?_
  refine lv_aload_n hx hb dL_law_579 rfl (lv_at hl 0 rfl) ?_
  refine lv_iload hx hb dL_law_580 (lv_at hl 4 rfl) ?_
  refine lv_iconst (v := (1 : Int32)) hx hb dL_law_582 (by decide) ?_
  refine lv_iadd hx hb dL_law_583 ?_
  refine z_sld hx hb hXs hbl hal hS (j := i + 1) (nI_add i 1) (by omega) hL dL_law_584 ?_
  rw [← ey1]
  refine lv_aload_n hx hb dL_law_585 rfl (lv_at hl 3 rfl) ?_
  refine z_cWi (As := [.ref (a 0), .int y1, .ref (a 82)]) (rest := []) hF hK hX hP hS (c_L_part l hlt D k a hj y1 S _ hm _) (vx_cwSW 3 hts zg_L_part rfl rfl rfl (by decide +kernel) ⟨(Nat.le_of_ble_eq_true rfl), (Nat.le_of_ble_eq_true rfl)⟩) rfl hl.1 rfl (Nat.le_of_ble_eq_true rfl) dL_law_586 ⟨by show _ ≤ 601024; omega, by show _ ≤ 7293034; omega⟩ (fun r_586 S_586 H locs hm hP hS => ?_)
  refine lv_istore (lv' := [(5, .int r_586), (0, .ref b), (1, .ref (a 0)), (2, .ref (a 61)), (3, .ref (a 82)), (4, .int (nI i))]) hx hb dL_law_589 hl (by decide) rfl (fun ls hl => ?_)
  refine lv_aload_n hx hb dL_law_591 rfl (lv_at hl 3 rfl) ?_
  refine lv_aload_n hx hb dL_law_592 rfl (lv_at hl 1 rfl) ?_
  refine lv_iload hx hb dL_law_593 (lv_at hl 5 rfl) ?_
  refine lv_iconst (v := (1 : Int32)) hx hb dL_law_595 (by decide) ?_
  refine lv_iadd hx hb dL_law_596 ?_
  refine z_sld hx hb hXs hbl hal hS (j := i + 1) (nI_add i 1) (by omega) hL dL_law_597 ?_
  rw [← ey1]
  refine z_cVi (As := [.int y1]) (rest := []) hF hK hP hS zO_61 rfl rfl (c_X7_part l D k a hj y1 S_586 _ hm _) (cwV 1 hts zg_X7_part rfl rfl rfl (by decide +kernel) ⟨(Nat.le_of_ble_eq_true rfl), (Nat.le_of_ble_eq_true rfl)⟩) rfl hl.1 rfl (Nat.le_of_ble_eq_true rfl) dL_law_598 ⟨by show _ ≤ 601024; omega, by show _ ≤ 7293034; omega⟩ (fun r_598 S_598 H locs hm hP hS => ?_)
  refine lv_istore (lv' := [(6, .int r_598), (5, .int r_586), (0, .ref b), (1, .ref (a 0)), (2, .ref (a 61)), (3, .ref (a 82)), (4, .int (nI i))]) hx hb dL_law_601 hl (by decide) rfl (fun ls hl => ?_)
  refine lv_aload_n hx hb dL_law_603 rfl (lv_at hl 4 rfl) ?_
  refine z_cVi (As := []) (rest := []) hF hK hP hS zO_61 rfl rfl (c_X7_thrown l D k a hj  S_598 _ hm _) (cwV 0 hts zg_X7_thrown rfl rfl rfl (by decide +kernel) ⟨(Nat.le_of_ble_eq_true rfl), (Nat.le_of_ble_eq_true rfl)⟩) rfl hl.1 rfl (Nat.le_of_ble_eq_true rfl) dL_law_604 ⟨by show _ ≤ 601024; omega, by show _ ≤ 7293034; omega⟩ (fun r_604 S_604 H locs hm hP hS => ?_)
  refine lv_iload hx hb dL_law_607 (lv_at hl 1 rfl) ?_
  refine lv_icmp_eq (tgt := 614) hx hb dL_law_609 (by decide) (fun c_609 => ?_) (fun c_609 => ?_)
  · have hm := hm.1 c_609
    refine lv_iload hx hb dL_law_614 (lv_at hl 1 rfl) ?_
    refine lv_if_ne (tgt := 631) hx hb dL_law_616 (by decide) (fun c_616 => ?_) (fun c_616 => ?_)
    · have hm := hm.2 c_616
      refine lv_goto (tgt := 1137) hx hb dL_law_631 (by decide) ?_
      refine W.widen (k := cells + 3) (n := slots + 18) (by omega) (by omega) ?_
      exact kk S_604 _ _ _ hm hP hS (lv_sub hl [2, 3, 4, 5, 6] rfl)
    · have hm := hm.1 c_616
      refine lv_aload_n hx hb dL_law_619 rfl (lv_at hl 5 rfl) ?_
      refine lv_iconst (v := (0 : Int32)) hx hb dL_law_620 (by decide) ?_
      refine z_lald hx hb hK hP zJ_82 (by unfold vp_in; decide) dL_law_621 ?_
      refine lv_iload hx hb dL_law_622 (lv_at hl 0 rfl) ?_
      refine lv_i2l hx hb dL_law_624 rfl ?_
      refine W.lcmp hx hb dL_law_625 ?_
      refine lv_if_eq (tgt := 631) hx hb dL_law_626 (by decide) (fun c_626 => ?_) (fun c_626 => ?_)
      · have hm := hm.1 c_626
        refine lv_goto (tgt := 1137) hx hb dL_law_631 (by decide) ?_
        refine W.widen (k := cells + 3) (n := slots + 18) (by omega) (by omega) ?_
        exact kk S_604 _ _ _ hm hP hS (lv_sub hl [2, 3, 4, 5, 6] rfl)
      · have hm := hm.2 c_626
        refine lv_iconst (v := (0 : Int32)) hx hb dL_law_629 (by decide) ?_
        exact hm.elim
  · have hm := hm.2 c_609
    refine lv_iconst (v := (0 : Int32)) hx hb dL_law_612 (by decide) ?_
    exact hm.elim
def lawc_9 (y1 y2 y3 : Int32) (S : ZS) (N : ZS → Prop) : Prop :=
  X6_flow S (fun r_635 S_635 => X7_flow S_635 (fun r_639 S_639 => (r_635 = r_639 → N S_639) ∧ (¬ r_635 = r_639 → False)))
set_option maxHeartbeats 4000000 in
set_option maxRecDepth 100000 in
theorem lc_9 {p : Program} {l : Launch} {e : Env} {s : State} {m : MethodId} {below : List Frame} {meth : Method} {c : Code} {b L : Nat} {xs : Nat → Int32} {D : va_G} {k : Nat → ClassId} {a : Nat → Nat} (C0 : zLaw p l s m meth c b L xs D k a) {i : Nat} (hi : i + 4 ≤ L) {cells slots : Nat} (hcs : cells + 3 ≤ 601024) (hss : slots + 18 ≤ 7293034) {S : ZS} {H : Heap} {locs : List Loc} {ls : Array Slot} (hP : va_P D vwCl (zWS k a S) H) (hS : va_S (zA a s.heap.size) s.heap H locs) (hl : lv_has ls 7 [(0, .ref b), (1, .ref (a 0)), (2, .ref (a 61)), (3, .ref (a 82)), (4, .int (nI i))]) {N : ZS → Prop} {y1 y2 y3 : Int32} (ey1 : y1 = xs (i + 1)) (ey2 : y2 = xs (i + 2)) (ey3 : y3 = xs (i + 3)) (hm : lawc_9 y1 y2 y3 S N)
    (kk : ∀ (S1 : ZS) (H1 : Heap) (locs1 : List Loc) (ls1 : Array Slot), N S1 → va_P D vwCl (zWS k a S1) H1 → va_S (zA a s.heap.size) s.heap H1 locs1 → lv_has ls1 7 [(0, .ref b), (1, .ref (a 0)), (2, .ref (a 61)), (3, .ref (a 82)), (4, .int (nI i))] → W p l e room_1 s m #[Value.ref b] below meth c H1 locs1 (cells + 3) (slots + 18) (lw_Z below #[Value.ref b] s) (F0 m 1137 ls1 [])) : W p l e room_1 s m #[Value.ref b] below meth c H locs cells slots (lw_Z below #[Value.ref b] s) (F0 m 634 ls []) := by
  obtain ⟨⟨hx, hb, hr, hml, hown, hts, hXs, hbl, hlocks, hgv⟩, hlt, hL, hj, hal, hK, hX⟩ := C0
  have hF : CallFix p m c cL_law 7 s #[Value.ref b] lw_tbl RL := ⟨hx, hb, hml, hown, hts⟩
  unfold lawc_9 at hm
  refine lv_aload_n hx hb dL_law_634 rfl (lv_at hl 1 rfl) ?_
  refine z_cVi (As := []) (rest := []) hF hK hP hS zO_0 rfl rfl (c_X6_flow l D k a hj  S _ hm _) (cwV 0 hts zg_X6_flow rfl rfl rfl (by decide +kernel) ⟨(Nat.le_of_ble_eq_true rfl), (Nat.le_of_ble_eq_true rfl)⟩) rfl hl.1 rfl (Nat.le_of_ble_eq_true rfl) dL_law_635 ⟨by show _ ≤ 601024; omega, by show _ ≤ 7293034; omega⟩ (fun r_635 S_635 H locs hm hP hS => ?_)
  refine lv_aload_n hx hb dL_law_638 rfl (lv_at hl 2 rfl) ?_
  refine z_cVi (As := []) (rest := [.int r_635]) hF hK hP hS zO_61 rfl rfl (c_X7_flow l D k a hj  S_635 _ hm _) (cwV 0 hts zg_X7_flow rfl rfl rfl (by decide +kernel) ⟨(Nat.le_of_ble_eq_true rfl), (Nat.le_of_ble_eq_true rfl)⟩) rfl hl.1 rfl (Nat.le_of_ble_eq_true rfl) dL_law_639 ⟨by show _ ≤ 601024; omega, by show _ ≤ 7293034; omega⟩ (fun r_639 S_639 H locs hm hP hS => ?_)
  refine lv_icmp_eq (tgt := 1137) hx hb dL_law_642 (by decide) (fun c_642 => ?_) (fun c_642 => ?_)
  · have hm := hm.1 c_642
    refine W.widen (k := cells + 3) (n := slots + 18) (by omega) (by omega) ?_
    exact kk S_639 _ _ _ hm hP hS (lv_sub hl [0, 1, 2, 3, 4] rfl)
  · have hm := hm.2 c_642
    refine lv_iconst (v := (0 : Int32)) hx hb dL_law_645 (by decide) ?_
    exact hm.elim
def lawc_10 (y1 y2 y3 : Int32) (S : ZS) (N : ZS → Prop) : Prop :=
  L_sign y1 S (fun r_655 S_655 => X7_sign y1 S_655 (fun r_667 S_667 => X7_thrown S_667 (fun r_673 S_673 => (r_673 = r_655 → (r_655 = 0 → ((lg_cmp (S_673.2 82 0) (Int32.toInt64 r_667)) = 0 → N S_673) ∧ (¬ (lg_cmp (S_673.2 82 0) (Int32.toInt64 r_667)) = 0 → False)) ∧ (¬ r_655 = 0 → N S_673)) ∧ (¬ r_673 = r_655 → False))))
set_option maxHeartbeats 4000000 in
set_option maxRecDepth 100000 in
theorem lc_10 {p : Program} {l : Launch} {e : Env} {s : State} {m : MethodId} {below : List Frame} {meth : Method} {c : Code} {b L : Nat} {xs : Nat → Int32} {D : va_G} {k : Nat → ClassId} {a : Nat → Nat} (C0 : zLaw p l s m meth c b L xs D k a) {i : Nat} (hi : i + 4 ≤ L) {cells slots : Nat} (hcs : cells + 3 ≤ 601024) (hss : slots + 18 ≤ 7293034) {S : ZS} {H : Heap} {locs : List Loc} {ls : Array Slot} (hP : va_P D vwCl (zWS k a S) H) (hS : va_S (zA a s.heap.size) s.heap H locs) (hl : lv_has ls 7 [(0, .ref b), (1, .ref (a 0)), (2, .ref (a 61)), (3, .ref (a 82)), (4, .int (nI i))]) {N : ZS → Prop} {y1 y2 y3 : Int32} (ey1 : y1 = xs (i + 1)) (ey2 : y2 = xs (i + 2)) (ey3 : y3 = xs (i + 3)) (hm : lawc_10 y1 y2 y3 S N)
    (kk : ∀ (S1 : ZS) (H1 : Heap) (locs1 : List Loc) (ls1 : Array Slot), N S1 → va_P D vwCl (zWS k a S1) H1 → va_S (zA a s.heap.size) s.heap H1 locs1 → lv_has ls1 7 [(0, .ref b), (1, .ref (a 0)), (2, .ref (a 61)), (3, .ref (a 82)), (4, .int (nI i))] → W p l e room_1 s m #[Value.ref b] below meth c H1 locs1 (cells + 3) (slots + 18) (lw_Z below #[Value.ref b] s) (F0 m 1137 ls1 [])) : W p l e room_1 s m #[Value.ref b] below meth c H locs cells slots (lw_Z below #[Value.ref b] s) (F0 m 647 ls []) := by
  obtain ⟨⟨hx, hb, hr, hml, hown, hts, hXs, hbl, hlocks, hgv⟩, hlt, hL, hj, hal, hK, hX⟩ := C0
  have hF : CallFix p m c cL_law 7 s #[Value.ref b] lw_tbl RL := ⟨hx, hb, hml, hown, hts⟩
  unfold lawc_10 at hm
  refine lv_aload_n hx hb dL_law_647 rfl (lv_at hl 1 rfl) ?_
  refine lv_aload_n hx hb dL_law_648 rfl (lv_at hl 0 rfl) ?_
  refine lv_iload hx hb dL_law_649 (lv_at hl 4 rfl) ?_
  refine lv_iconst (v := (1 : Int32)) hx hb dL_law_651 (by decide) ?_
  refine lv_iadd hx hb dL_law_652 ?_
  refine z_sld hx hb hXs hbl hal hS (j := i + 1) (nI_add i 1) (by omega) hL dL_law_653 ?_
  rw [← ey1]
  refine lv_aload_n hx hb dL_law_654 rfl (lv_at hl 3 rfl) ?_
  refine z_cWi (As := [.ref (a 0), .int y1, .ref (a 82)]) (rest := []) hF hK hX hP hS (c_L_sign l hlt D k a hj y1 S _ hm _) (vx_cwSW 3 hts zg_L_sign rfl rfl rfl (by decide +kernel) ⟨(Nat.le_of_ble_eq_true rfl), (Nat.le_of_ble_eq_true rfl)⟩) rfl hl.1 rfl (Nat.le_of_ble_eq_true rfl) dL_law_655 ⟨by show _ ≤ 601024; omega, by show _ ≤ 7293034; omega⟩ (fun r_655 S_655 H locs hm hP hS => ?_)
  refine lv_istore (lv' := [(5, .int r_655), (0, .ref b), (1, .ref (a 0)), (2, .ref (a 61)), (3, .ref (a 82)), (4, .int (nI i))]) hx hb dL_law_658 hl (by decide) rfl (fun ls hl => ?_)
  refine lv_aload_n hx hb dL_law_660 rfl (lv_at hl 3 rfl) ?_
  refine lv_aload_n hx hb dL_law_661 rfl (lv_at hl 1 rfl) ?_
  refine lv_iload hx hb dL_law_662 (lv_at hl 5 rfl) ?_
  refine lv_iconst (v := (1 : Int32)) hx hb dL_law_664 (by decide) ?_
  refine lv_iadd hx hb dL_law_665 ?_
  refine z_sld hx hb hXs hbl hal hS (j := i + 1) (nI_add i 1) (by omega) hL dL_law_666 ?_
  rw [← ey1]
  refine z_cVi (As := [.int y1]) (rest := []) hF hK hP hS zO_61 rfl rfl (c_X7_sign l D k a hj y1 S_655 _ hm _) (cwV 1 hts zg_X7_sign rfl rfl rfl (by decide +kernel) ⟨(Nat.le_of_ble_eq_true rfl), (Nat.le_of_ble_eq_true rfl)⟩) rfl hl.1 rfl (Nat.le_of_ble_eq_true rfl) dL_law_667 ⟨by show _ ≤ 601024; omega, by show _ ≤ 7293034; omega⟩ (fun r_667 S_667 H locs hm hP hS => ?_)
  refine lv_istore (lv' := [(6, .int r_667), (5, .int r_655), (0, .ref b), (1, .ref (a 0)), (2, .ref (a 61)), (3, .ref (a 82)), (4, .int (nI i))]) hx hb dL_law_670 hl (by decide) rfl (fun ls hl => ?_)
  refine lv_aload_n hx hb dL_law_672 rfl (lv_at hl 4 rfl) ?_
  refine z_cVi (As := []) (rest := []) hF hK hP hS zO_61 rfl rfl (c_X7_thrown l D k a hj  S_667 _ hm _) (cwV 0 hts zg_X7_thrown rfl rfl rfl (by decide +kernel) ⟨(Nat.le_of_ble_eq_true rfl), (Nat.le_of_ble_eq_true rfl)⟩) rfl hl.1 rfl (Nat.le_of_ble_eq_true rfl) dL_law_673 ⟨by show _ ≤ 601024; omega, by show _ ≤ 7293034; omega⟩ (fun r_673 S_673 H locs hm hP hS => ?_)
  refine lv_iload hx hb dL_law_676 (lv_at hl 1 rfl) ?_
  refine lv_icmp_eq (tgt := 683) hx hb dL_law_678 (by decide) (fun c_678 => ?_) (fun c_678 => ?_)
  · have hm := hm.1 c_678
    refine lv_iload hx hb dL_law_683 (lv_at hl 1 rfl) ?_
    refine lv_if_ne (tgt := 700) hx hb dL_law_685 (by decide) (fun c_685 => ?_) (fun c_685 => ?_)
    · have hm := hm.2 c_685
      refine lv_goto (tgt := 1137) hx hb dL_law_700 (by decide) ?_
      refine W.widen (k := cells + 3) (n := slots + 18) (by omega) (by omega) ?_
      exact kk S_673 _ _ _ hm hP hS (lv_sub hl [2, 3, 4, 5, 6] rfl)
    · have hm := hm.1 c_685
      refine lv_aload_n hx hb dL_law_688 rfl (lv_at hl 5 rfl) ?_
      refine lv_iconst (v := (0 : Int32)) hx hb dL_law_689 (by decide) ?_
      refine z_lald hx hb hK hP zJ_82 (by unfold vp_in; decide) dL_law_690 ?_
      refine lv_iload hx hb dL_law_691 (lv_at hl 0 rfl) ?_
      refine lv_i2l hx hb dL_law_693 rfl ?_
      refine W.lcmp hx hb dL_law_694 ?_
      refine lv_if_eq (tgt := 700) hx hb dL_law_695 (by decide) (fun c_695 => ?_) (fun c_695 => ?_)
      · have hm := hm.1 c_695
        refine lv_goto (tgt := 1137) hx hb dL_law_700 (by decide) ?_
        refine W.widen (k := cells + 3) (n := slots + 18) (by omega) (by omega) ?_
        exact kk S_673 _ _ _ hm hP hS (lv_sub hl [2, 3, 4, 5, 6] rfl)
      · have hm := hm.2 c_695
        refine lv_iconst (v := (0 : Int32)) hx hb dL_law_698 (by decide) ?_
        exact hm.elim
  · have hm := hm.2 c_678
    refine lv_iconst (v := (0 : Int32)) hx hb dL_law_681 (by decide) ?_
    exact hm.elim
def lawc_11 (y1 y2 y3 : Int32) (S : ZS) (N : ZS → Prop) : Prop :=
  X6_intervals S (fun r_704 S_704 => X7_intervals S_704 (fun r_708 S_708 => (r_704 = r_708 → N S_708) ∧ (¬ r_704 = r_708 → False)))
set_option maxHeartbeats 4000000 in
set_option maxRecDepth 100000 in
theorem lc_11 {p : Program} {l : Launch} {e : Env} {s : State} {m : MethodId} {below : List Frame} {meth : Method} {c : Code} {b L : Nat} {xs : Nat → Int32} {D : va_G} {k : Nat → ClassId} {a : Nat → Nat} (C0 : zLaw p l s m meth c b L xs D k a) {i : Nat} (hi : i + 4 ≤ L) {cells slots : Nat} (hcs : cells + 3 ≤ 601024) (hss : slots + 18 ≤ 7293034) {S : ZS} {H : Heap} {locs : List Loc} {ls : Array Slot} (hP : va_P D vwCl (zWS k a S) H) (hS : va_S (zA a s.heap.size) s.heap H locs) (hl : lv_has ls 7 [(0, .ref b), (1, .ref (a 0)), (2, .ref (a 61)), (3, .ref (a 82)), (4, .int (nI i))]) {N : ZS → Prop} {y1 y2 y3 : Int32} (ey1 : y1 = xs (i + 1)) (ey2 : y2 = xs (i + 2)) (ey3 : y3 = xs (i + 3)) (hm : lawc_11 y1 y2 y3 S N)
    (kk : ∀ (S1 : ZS) (H1 : Heap) (locs1 : List Loc) (ls1 : Array Slot), N S1 → va_P D vwCl (zWS k a S1) H1 → va_S (zA a s.heap.size) s.heap H1 locs1 → lv_has ls1 7 [(0, .ref b), (1, .ref (a 0)), (2, .ref (a 61)), (3, .ref (a 82)), (4, .int (nI i))] → W p l e room_1 s m #[Value.ref b] below meth c H1 locs1 (cells + 3) (slots + 18) (lw_Z below #[Value.ref b] s) (F0 m 1137 ls1 [])) : W p l e room_1 s m #[Value.ref b] below meth c H locs cells slots (lw_Z below #[Value.ref b] s) (F0 m 703 ls []) := by
  obtain ⟨⟨hx, hb, hr, hml, hown, hts, hXs, hbl, hlocks, hgv⟩, hlt, hL, hj, hal, hK, hX⟩ := C0
  have hF : CallFix p m c cL_law 7 s #[Value.ref b] lw_tbl RL := ⟨hx, hb, hml, hown, hts⟩
  unfold lawc_11 at hm
  refine lv_aload_n hx hb dL_law_703 rfl (lv_at hl 1 rfl) ?_
  refine z_cVi (As := []) (rest := []) hF hK hP hS zO_0 rfl rfl (c_X6_intervals l D k a hj  S _ hm _) (cwV 0 hts zg_X6_intervals rfl rfl rfl (by decide +kernel) ⟨(Nat.le_of_ble_eq_true rfl), (Nat.le_of_ble_eq_true rfl)⟩) rfl hl.1 rfl (Nat.le_of_ble_eq_true rfl) dL_law_704 ⟨by show _ ≤ 601024; omega, by show _ ≤ 7293034; omega⟩ (fun r_704 S_704 H locs hm hP hS => ?_)
  refine lv_aload_n hx hb dL_law_707 rfl (lv_at hl 2 rfl) ?_
  refine z_cVi (As := []) (rest := [.int r_704]) hF hK hP hS zO_61 rfl rfl (c_X7_intervals l D k a hj  S_704 _ hm _) (cwV 0 hts zg_X7_intervals rfl rfl rfl (by decide +kernel) ⟨(Nat.le_of_ble_eq_true rfl), (Nat.le_of_ble_eq_true rfl)⟩) rfl hl.1 rfl (Nat.le_of_ble_eq_true rfl) dL_law_708 ⟨by show _ ≤ 601024; omega, by show _ ≤ 7293034; omega⟩ (fun r_708 S_708 H locs hm hP hS => ?_)
  refine lv_icmp_eq (tgt := 1137) hx hb dL_law_711 (by decide) (fun c_711 => ?_) (fun c_711 => ?_)
  · have hm := hm.1 c_711
    refine W.widen (k := cells + 3) (n := slots + 18) (by omega) (by omega) ?_
    exact kk S_708 _ _ _ hm hP hS (lv_sub hl [0, 1, 2, 3, 4] rfl)
  · have hm := hm.2 c_711
    refine lv_iconst (v := (0 : Int32)) hx hb dL_law_714 (by decide) ?_
    exact hm.elim
def lawc_12 (y1 y2 y3 : Int32) (S : ZS) (N : ZS → Prop) : Prop :=
  X6_nature S (fun r_717 S_717 => X7_nature S_717 (fun r_721 S_721 => (r_717 = r_721 → N S_721) ∧ (¬ r_717 = r_721 → False)))
set_option maxHeartbeats 4000000 in
set_option maxRecDepth 100000 in
theorem lc_12 {p : Program} {l : Launch} {e : Env} {s : State} {m : MethodId} {below : List Frame} {meth : Method} {c : Code} {b L : Nat} {xs : Nat → Int32} {D : va_G} {k : Nat → ClassId} {a : Nat → Nat} (C0 : zLaw p l s m meth c b L xs D k a) {i : Nat} (hi : i + 4 ≤ L) {cells slots : Nat} (hcs : cells + 3 ≤ 601024) (hss : slots + 18 ≤ 7293034) {S : ZS} {H : Heap} {locs : List Loc} {ls : Array Slot} (hP : va_P D vwCl (zWS k a S) H) (hS : va_S (zA a s.heap.size) s.heap H locs) (hl : lv_has ls 7 [(0, .ref b), (1, .ref (a 0)), (2, .ref (a 61)), (3, .ref (a 82)), (4, .int (nI i))]) {N : ZS → Prop} {y1 y2 y3 : Int32} (ey1 : y1 = xs (i + 1)) (ey2 : y2 = xs (i + 2)) (ey3 : y3 = xs (i + 3)) (hm : lawc_12 y1 y2 y3 S N)
    (kk : ∀ (S1 : ZS) (H1 : Heap) (locs1 : List Loc) (ls1 : Array Slot), N S1 → va_P D vwCl (zWS k a S1) H1 → va_S (zA a s.heap.size) s.heap H1 locs1 → lv_has ls1 7 [(0, .ref b), (1, .ref (a 0)), (2, .ref (a 61)), (3, .ref (a 82)), (4, .int (nI i))] → W p l e room_1 s m #[Value.ref b] below meth c H1 locs1 (cells + 3) (slots + 18) (lw_Z below #[Value.ref b] s) (F0 m 1137 ls1 [])) : W p l e room_1 s m #[Value.ref b] below meth c H locs cells slots (lw_Z below #[Value.ref b] s) (F0 m 716 ls []) := by
  obtain ⟨⟨hx, hb, hr, hml, hown, hts, hXs, hbl, hlocks, hgv⟩, hlt, hL, hj, hal, hK, hX⟩ := C0
  have hF : CallFix p m c cL_law 7 s #[Value.ref b] lw_tbl RL := ⟨hx, hb, hml, hown, hts⟩
  unfold lawc_12 at hm
  refine lv_aload_n hx hb dL_law_716 rfl (lv_at hl 1 rfl) ?_
  refine z_cVi (As := []) (rest := []) hF hK hP hS zO_0 rfl rfl (c_X6_nature l D k a hj  S _ hm _) (cwV 0 hts zg_X6_nature rfl rfl rfl (by decide +kernel) ⟨(Nat.le_of_ble_eq_true rfl), (Nat.le_of_ble_eq_true rfl)⟩) rfl hl.1 rfl (Nat.le_of_ble_eq_true rfl) dL_law_717 ⟨by show _ ≤ 601024; omega, by show _ ≤ 7293034; omega⟩ (fun r_717 S_717 H locs hm hP hS => ?_)
  refine lv_aload_n hx hb dL_law_720 rfl (lv_at hl 2 rfl) ?_
  refine z_cVi (As := []) (rest := [.int r_717]) hF hK hP hS zO_61 rfl rfl (c_X7_nature l D k a hj  S_717 _ hm _) (cwV 0 hts zg_X7_nature rfl rfl rfl (by decide +kernel) ⟨(Nat.le_of_ble_eq_true rfl), (Nat.le_of_ble_eq_true rfl)⟩) rfl hl.1 rfl (Nat.le_of_ble_eq_true rfl) dL_law_721 ⟨by show _ ≤ 601024; omega, by show _ ≤ 7293034; omega⟩ (fun r_721 S_721 H locs hm hP hS => ?_)
  refine lv_icmp_eq (tgt := 1137) hx hb dL_law_724 (by decide) (fun c_724 => ?_) (fun c_724 => ?_)
  · have hm := hm.1 c_724
    refine W.widen (k := cells + 3) (n := slots + 18) (by omega) (by omega) ?_
    exact kk S_721 _ _ _ hm hP hS (lv_sub hl [0, 1, 2, 3, 4] rfl)
  · have hm := hm.2 c_724
    refine lv_iconst (v := (0 : Int32)) hx hb dL_law_727 (by decide) ?_
    exact hm.elim
def lawc_13 (y1 y2 y3 : Int32) (S : ZS) (N : ZS → Prop) : Prop :=
  X6_knapsack S (fun r_730 S_730 => X7_knapsack S_730 (fun r_734 S_734 => (r_730 = r_734 → N S_734) ∧ (¬ r_730 = r_734 → False)))
set_option maxHeartbeats 4000000 in
set_option maxRecDepth 100000 in
theorem lc_13 {p : Program} {l : Launch} {e : Env} {s : State} {m : MethodId} {below : List Frame} {meth : Method} {c : Code} {b L : Nat} {xs : Nat → Int32} {D : va_G} {k : Nat → ClassId} {a : Nat → Nat} (C0 : zLaw p l s m meth c b L xs D k a) {i : Nat} (hi : i + 4 ≤ L) {cells slots : Nat} (hcs : cells + 3 ≤ 601024) (hss : slots + 18 ≤ 7293034) {S : ZS} {H : Heap} {locs : List Loc} {ls : Array Slot} (hP : va_P D vwCl (zWS k a S) H) (hS : va_S (zA a s.heap.size) s.heap H locs) (hl : lv_has ls 7 [(0, .ref b), (1, .ref (a 0)), (2, .ref (a 61)), (3, .ref (a 82)), (4, .int (nI i))]) {N : ZS → Prop} {y1 y2 y3 : Int32} (ey1 : y1 = xs (i + 1)) (ey2 : y2 = xs (i + 2)) (ey3 : y3 = xs (i + 3)) (hm : lawc_13 y1 y2 y3 S N)
    (kk : ∀ (S1 : ZS) (H1 : Heap) (locs1 : List Loc) (ls1 : Array Slot), N S1 → va_P D vwCl (zWS k a S1) H1 → va_S (zA a s.heap.size) s.heap H1 locs1 → lv_has ls1 7 [(0, .ref b), (1, .ref (a 0)), (2, .ref (a 61)), (3, .ref (a 82)), (4, .int (nI i))] → W p l e room_1 s m #[Value.ref b] below meth c H1 locs1 (cells + 3) (slots + 18) (lw_Z below #[Value.ref b] s) (F0 m 1137 ls1 [])) : W p l e room_1 s m #[Value.ref b] below meth c H locs cells slots (lw_Z below #[Value.ref b] s) (F0 m 729 ls []) := by
  obtain ⟨⟨hx, hb, hr, hml, hown, hts, hXs, hbl, hlocks, hgv⟩, hlt, hL, hj, hal, hK, hX⟩ := C0
  have hF : CallFix p m c cL_law 7 s #[Value.ref b] lw_tbl RL := ⟨hx, hb, hml, hown, hts⟩
  unfold lawc_13 at hm
  refine lv_aload_n hx hb dL_law_729 rfl (lv_at hl 1 rfl) ?_
  refine z_cVi (As := []) (rest := []) hF hK hP hS zO_0 rfl rfl (c_X6_knapsack l D k a hj  S _ hm _) (cwV 0 hts zg_X6_knapsack rfl rfl rfl (by decide +kernel) ⟨(Nat.le_of_ble_eq_true rfl), (Nat.le_of_ble_eq_true rfl)⟩) rfl hl.1 rfl (Nat.le_of_ble_eq_true rfl) dL_law_730 ⟨by show _ ≤ 601024; omega, by show _ ≤ 7293034; omega⟩ (fun r_730 S_730 H locs hm hP hS => ?_)
  refine lv_aload_n hx hb dL_law_733 rfl (lv_at hl 2 rfl) ?_
  refine z_cVi (As := []) (rest := [.int r_730]) hF hK hP hS zO_61 rfl rfl (c_X7_knapsack l D k a hj  S_730 _ hm _) (cwV 0 hts zg_X7_knapsack rfl rfl rfl (by decide +kernel) ⟨(Nat.le_of_ble_eq_true rfl), (Nat.le_of_ble_eq_true rfl)⟩) rfl hl.1 rfl (Nat.le_of_ble_eq_true rfl) dL_law_734 ⟨by show _ ≤ 601024; omega, by show _ ≤ 7293034; omega⟩ (fun r_734 S_734 H locs hm hP hS => ?_)
  refine lv_icmp_eq (tgt := 1137) hx hb dL_law_737 (by decide) (fun c_737 => ?_) (fun c_737 => ?_)
  · have hm := hm.1 c_737
    refine W.widen (k := cells + 3) (n := slots + 18) (by omega) (by omega) ?_
    exact kk S_734 _ _ _ hm hP hS (lv_sub hl [0, 1, 2, 3, 4] rfl)
  · have hm := hm.2 c_737
    refine lv_iconst (v := (0 : Int32)) hx hb dL_law_740 (by decide) ?_
    exact hm.elim
def lawc_14 (y1 y2 y3 : Int32) (S : ZS) (N : ZS → Prop) : Prop :=
  X6_matching S (fun r_743 S_743 => X7_matching S_743 (fun r_747 S_747 => (r_743 = r_747 → N S_747) ∧ (¬ r_743 = r_747 → False)))
set_option maxHeartbeats 4000000 in
set_option maxRecDepth 100000 in
theorem lc_14 {p : Program} {l : Launch} {e : Env} {s : State} {m : MethodId} {below : List Frame} {meth : Method} {c : Code} {b L : Nat} {xs : Nat → Int32} {D : va_G} {k : Nat → ClassId} {a : Nat → Nat} (C0 : zLaw p l s m meth c b L xs D k a) {i : Nat} (hi : i + 4 ≤ L) {cells slots : Nat} (hcs : cells + 3 ≤ 601024) (hss : slots + 18 ≤ 7293034) {S : ZS} {H : Heap} {locs : List Loc} {ls : Array Slot} (hP : va_P D vwCl (zWS k a S) H) (hS : va_S (zA a s.heap.size) s.heap H locs) (hl : lv_has ls 7 [(0, .ref b), (1, .ref (a 0)), (2, .ref (a 61)), (3, .ref (a 82)), (4, .int (nI i))]) {N : ZS → Prop} {y1 y2 y3 : Int32} (ey1 : y1 = xs (i + 1)) (ey2 : y2 = xs (i + 2)) (ey3 : y3 = xs (i + 3)) (hm : lawc_14 y1 y2 y3 S N)
    (kk : ∀ (S1 : ZS) (H1 : Heap) (locs1 : List Loc) (ls1 : Array Slot), N S1 → va_P D vwCl (zWS k a S1) H1 → va_S (zA a s.heap.size) s.heap H1 locs1 → lv_has ls1 7 [(0, .ref b), (1, .ref (a 0)), (2, .ref (a 61)), (3, .ref (a 82)), (4, .int (nI i))] → W p l e room_1 s m #[Value.ref b] below meth c H1 locs1 (cells + 3) (slots + 18) (lw_Z below #[Value.ref b] s) (F0 m 1137 ls1 [])) : W p l e room_1 s m #[Value.ref b] below meth c H locs cells slots (lw_Z below #[Value.ref b] s) (F0 m 742 ls []) := by
  obtain ⟨⟨hx, hb, hr, hml, hown, hts, hXs, hbl, hlocks, hgv⟩, hlt, hL, hj, hal, hK, hX⟩ := C0
  have hF : CallFix p m c cL_law 7 s #[Value.ref b] lw_tbl RL := ⟨hx, hb, hml, hown, hts⟩
  unfold lawc_14 at hm
  refine lv_aload_n hx hb dL_law_742 rfl (lv_at hl 1 rfl) ?_
  refine z_cVi (As := []) (rest := []) hF hK hP hS zO_0 rfl rfl (c_X6_matching l D k a hj  S _ hm _) (cwV 0 hts zg_X6_matching rfl rfl rfl (by decide +kernel) ⟨(Nat.le_of_ble_eq_true rfl), (Nat.le_of_ble_eq_true rfl)⟩) rfl hl.1 rfl (Nat.le_of_ble_eq_true rfl) dL_law_743 ⟨by show _ ≤ 601024; omega, by show _ ≤ 7293034; omega⟩ (fun r_743 S_743 H locs hm hP hS => ?_)
  refine lv_aload_n hx hb dL_law_746 rfl (lv_at hl 2 rfl) ?_
  refine z_cVi (As := []) (rest := [.int r_743]) hF hK hP hS zO_61 rfl rfl (c_X7_matching l D k a hj  S_743 _ hm _) (cwV 0 hts zg_X7_matching rfl rfl rfl (by decide +kernel) ⟨(Nat.le_of_ble_eq_true rfl), (Nat.le_of_ble_eq_true rfl)⟩) rfl hl.1 rfl (Nat.le_of_ble_eq_true rfl) dL_law_747 ⟨by show _ ≤ 601024; omega, by show _ ≤ 7293034; omega⟩ (fun r_747 S_747 H locs hm hP hS => ?_)
  refine lv_icmp_eq (tgt := 1137) hx hb dL_law_750 (by decide) (fun c_750 => ?_) (fun c_750 => ?_)
  · have hm := hm.1 c_750
    refine W.widen (k := cells + 3) (n := slots + 18) (by omega) (by omega) ?_
    exact kk S_747 _ _ _ hm hP hS (lv_sub hl [0, 1, 2, 3, 4] rfl)
  · have hm := hm.2 c_750
    refine lv_iconst (v := (0 : Int32)) hx hb dL_law_753 (by decide) ?_
    exact hm.elim
def lawc_15 (y1 y2 y3 : Int32) (S : ZS) (N : ZS → Prop) : Prop :=
  X6_way S (fun r_756 S_756 => X7_way S_756 (fun r_760 S_760 => (r_756 = r_760 → N S_760) ∧ (¬ r_756 = r_760 → False)))
set_option maxHeartbeats 4000000 in
set_option maxRecDepth 100000 in
theorem lc_15 {p : Program} {l : Launch} {e : Env} {s : State} {m : MethodId} {below : List Frame} {meth : Method} {c : Code} {b L : Nat} {xs : Nat → Int32} {D : va_G} {k : Nat → ClassId} {a : Nat → Nat} (C0 : zLaw p l s m meth c b L xs D k a) {i : Nat} (hi : i + 4 ≤ L) {cells slots : Nat} (hcs : cells + 3 ≤ 601024) (hss : slots + 18 ≤ 7293034) {S : ZS} {H : Heap} {locs : List Loc} {ls : Array Slot} (hP : va_P D vwCl (zWS k a S) H) (hS : va_S (zA a s.heap.size) s.heap H locs) (hl : lv_has ls 7 [(0, .ref b), (1, .ref (a 0)), (2, .ref (a 61)), (3, .ref (a 82)), (4, .int (nI i))]) {N : ZS → Prop} {y1 y2 y3 : Int32} (ey1 : y1 = xs (i + 1)) (ey2 : y2 = xs (i + 2)) (ey3 : y3 = xs (i + 3)) (hm : lawc_15 y1 y2 y3 S N)
    (kk : ∀ (S1 : ZS) (H1 : Heap) (locs1 : List Loc) (ls1 : Array Slot), N S1 → va_P D vwCl (zWS k a S1) H1 → va_S (zA a s.heap.size) s.heap H1 locs1 → lv_has ls1 7 [(0, .ref b), (1, .ref (a 0)), (2, .ref (a 61)), (3, .ref (a 82)), (4, .int (nI i))] → W p l e room_1 s m #[Value.ref b] below meth c H1 locs1 (cells + 3) (slots + 18) (lw_Z below #[Value.ref b] s) (F0 m 1137 ls1 [])) : W p l e room_1 s m #[Value.ref b] below meth c H locs cells slots (lw_Z below #[Value.ref b] s) (F0 m 755 ls []) := by
  obtain ⟨⟨hx, hb, hr, hml, hown, hts, hXs, hbl, hlocks, hgv⟩, hlt, hL, hj, hal, hK, hX⟩ := C0
  have hF : CallFix p m c cL_law 7 s #[Value.ref b] lw_tbl RL := ⟨hx, hb, hml, hown, hts⟩
  unfold lawc_15 at hm
  refine lv_aload_n hx hb dL_law_755 rfl (lv_at hl 1 rfl) ?_
  refine z_cVi (As := []) (rest := []) hF hK hP hS zO_0 rfl rfl (c_X6_way l D k a hj  S _ hm _) (cwV 0 hts zg_X6_way rfl rfl rfl (by decide +kernel) ⟨(Nat.le_of_ble_eq_true rfl), (Nat.le_of_ble_eq_true rfl)⟩) rfl hl.1 rfl (Nat.le_of_ble_eq_true rfl) dL_law_756 ⟨by show _ ≤ 601024; omega, by show _ ≤ 7293034; omega⟩ (fun r_756 S_756 H locs hm hP hS => ?_)
  refine lv_aload_n hx hb dL_law_759 rfl (lv_at hl 2 rfl) ?_
  refine z_cVi (As := []) (rest := [.int r_756]) hF hK hP hS zO_61 rfl rfl (c_X7_way l D k a hj  S_756 _ hm _) (cwV 0 hts zg_X7_way rfl rfl rfl (by decide +kernel) ⟨(Nat.le_of_ble_eq_true rfl), (Nat.le_of_ble_eq_true rfl)⟩) rfl hl.1 rfl (Nat.le_of_ble_eq_true rfl) dL_law_760 ⟨by show _ ≤ 601024; omega, by show _ ≤ 7293034; omega⟩ (fun r_760 S_760 H locs hm hP hS => ?_)
  refine lv_icmp_eq (tgt := 1137) hx hb dL_law_763 (by decide) (fun c_763 => ?_) (fun c_763 => ?_)
  · have hm := hm.1 c_763
    refine W.widen (k := cells + 3) (n := slots + 18) (by omega) (by omega) ?_
    exact kk S_760 _ _ _ hm hP hS (lv_sub hl [0, 1, 2, 3, 4] rfl)
  · have hm := hm.2 c_763
    refine lv_iconst (v := (0 : Int32)) hx hb dL_law_766 (by decide) ?_
    exact hm.elim
def lawc_16 (y1 y2 y3 : Int32) (S : ZS) (N : ZS → Prop) : Prop :=
  X6_solve S (fun r_769 S_769 => X7_solve S_769 (fun r_773 S_773 => (r_769 = r_773 → N S_773) ∧ (¬ r_769 = r_773 → False)))
set_option maxHeartbeats 4000000 in
set_option maxRecDepth 100000 in
theorem lc_16 {p : Program} {l : Launch} {e : Env} {s : State} {m : MethodId} {below : List Frame} {meth : Method} {c : Code} {b L : Nat} {xs : Nat → Int32} {D : va_G} {k : Nat → ClassId} {a : Nat → Nat} (C0 : zLaw p l s m meth c b L xs D k a) {i : Nat} (hi : i + 4 ≤ L) {cells slots : Nat} (hcs : cells + 3 ≤ 601024) (hss : slots + 18 ≤ 7293034) {S : ZS} {H : Heap} {locs : List Loc} {ls : Array Slot} (hP : va_P D vwCl (zWS k a S) H) (hS : va_S (zA a s.heap.size) s.heap H locs) (hl : lv_has ls 7 [(0, .ref b), (1, .ref (a 0)), (2, .ref (a 61)), (3, .ref (a 82)), (4, .int (nI i))]) {N : ZS → Prop} {y1 y2 y3 : Int32} (ey1 : y1 = xs (i + 1)) (ey2 : y2 = xs (i + 2)) (ey3 : y3 = xs (i + 3)) (hm : lawc_16 y1 y2 y3 S N)
    (kk : ∀ (S1 : ZS) (H1 : Heap) (locs1 : List Loc) (ls1 : Array Slot), N S1 → va_P D vwCl (zWS k a S1) H1 → va_S (zA a s.heap.size) s.heap H1 locs1 → lv_has ls1 7 [(0, .ref b), (1, .ref (a 0)), (2, .ref (a 61)), (3, .ref (a 82)), (4, .int (nI i))] → W p l e room_1 s m #[Value.ref b] below meth c H1 locs1 (cells + 3) (slots + 18) (lw_Z below #[Value.ref b] s) (F0 m 1137 ls1 [])) : W p l e room_1 s m #[Value.ref b] below meth c H locs cells slots (lw_Z below #[Value.ref b] s) (F0 m 768 ls []) := by
  obtain ⟨⟨hx, hb, hr, hml, hown, hts, hXs, hbl, hlocks, hgv⟩, hlt, hL, hj, hal, hK, hX⟩ := C0
  have hF : CallFix p m c cL_law 7 s #[Value.ref b] lw_tbl RL := ⟨hx, hb, hml, hown, hts⟩
  unfold lawc_16 at hm
  refine lv_aload_n hx hb dL_law_768 rfl (lv_at hl 1 rfl) ?_
  refine z_cVi (As := []) (rest := []) hF hK hP hS zO_0 rfl rfl (c_X6_solve l D k a hj  S _ hm _) (cwV 0 hts zg_X6_solve rfl rfl rfl (by decide +kernel) ⟨(Nat.le_of_ble_eq_true rfl), (Nat.le_of_ble_eq_true rfl)⟩) rfl hl.1 rfl (Nat.le_of_ble_eq_true rfl) dL_law_769 ⟨by show _ ≤ 601024; omega, by show _ ≤ 7293034; omega⟩ (fun r_769 S_769 H locs hm hP hS => ?_)
  refine lv_aload_n hx hb dL_law_772 rfl (lv_at hl 2 rfl) ?_
  refine z_cVi (As := []) (rest := [.int r_769]) hF hK hP hS zO_61 rfl rfl (c_X7_solve l D k a hj  S_769 _ hm _) (cwV 0 hts zg_X7_solve rfl rfl rfl (by decide +kernel) ⟨(Nat.le_of_ble_eq_true rfl), (Nat.le_of_ble_eq_true rfl)⟩) rfl hl.1 rfl (Nat.le_of_ble_eq_true rfl) dL_law_773 ⟨by show _ ≤ 601024; omega, by show _ ≤ 7293034; omega⟩ (fun r_773 S_773 H locs hm hP hS => ?_)
  refine lv_icmp_eq (tgt := 1137) hx hb dL_law_776 (by decide) (fun c_776 => ?_) (fun c_776 => ?_)
  · have hm := hm.1 c_776
    refine W.widen (k := cells + 3) (n := slots + 18) (by omega) (by omega) ?_
    exact kk S_773 _ _ _ hm hP hS (lv_sub hl [0, 1, 2, 3, 4] rfl)
  · have hm := hm.2 c_776
    refine lv_iconst (v := (0 : Int32)) hx hb dL_law_779 (by decide) ?_
    exact hm.elim
def lawc_17 (y1 y2 y3 : Int32) (S : ZS) (N : ZS → Prop) : Prop :=
  L_at y1 S (fun r_789 S_789 => X7_at y1 S_789 (fun r_801 S_801 => X7_thrown S_801 (fun r_807 S_807 => (r_807 = r_789 → (r_789 = 0 → ((lg_cmp (S_807.2 82 0) (Int32.toInt64 r_801)) = 0 → N S_807) ∧ (¬ (lg_cmp (S_807.2 82 0) (Int32.toInt64 r_801)) = 0 → False)) ∧ (¬ r_789 = 0 → N S_807)) ∧ (¬ r_807 = r_789 → False))))
set_option maxHeartbeats 4000000 in
set_option maxRecDepth 100000 in
theorem lc_17 {p : Program} {l : Launch} {e : Env} {s : State} {m : MethodId} {below : List Frame} {meth : Method} {c : Code} {b L : Nat} {xs : Nat → Int32} {D : va_G} {k : Nat → ClassId} {a : Nat → Nat} (C0 : zLaw p l s m meth c b L xs D k a) {i : Nat} (hi : i + 4 ≤ L) {cells slots : Nat} (hcs : cells + 3 ≤ 601024) (hss : slots + 18 ≤ 7293034) {S : ZS} {H : Heap} {locs : List Loc} {ls : Array Slot} (hP : va_P D vwCl (zWS k a S) H) (hS : va_S (zA a s.heap.size) s.heap H locs) (hl : lv_has ls 7 [(0, .ref b), (1, .ref (a 0)), (2, .ref (a 61)), (3, .ref (a 82)), (4, .int (nI i))]) {N : ZS → Prop} {y1 y2 y3 : Int32} (ey1 : y1 = xs (i + 1)) (ey2 : y2 = xs (i + 2)) (ey3 : y3 = xs (i + 3)) (hm : lawc_17 y1 y2 y3 S N)
    (kk : ∀ (S1 : ZS) (H1 : Heap) (locs1 : List Loc) (ls1 : Array Slot), N S1 → va_P D vwCl (zWS k a S1) H1 → va_S (zA a s.heap.size) s.heap H1 locs1 → lv_has ls1 7 [(0, .ref b), (1, .ref (a 0)), (2, .ref (a 61)), (3, .ref (a 82)), (4, .int (nI i))] → W p l e room_1 s m #[Value.ref b] below meth c H1 locs1 (cells + 3) (slots + 18) (lw_Z below #[Value.ref b] s) (F0 m 1137 ls1 [])) : W p l e room_1 s m #[Value.ref b] below meth c H locs cells slots (lw_Z below #[Value.ref b] s) (F0 m 781 ls []) := by
  obtain ⟨⟨hx, hb, hr, hml, hown, hts, hXs, hbl, hlocks, hgv⟩, hlt, hL, hj, hal, hK, hX⟩ := C0
  have hF : CallFix p m c cL_law 7 s #[Value.ref b] lw_tbl RL := ⟨hx, hb, hml, hown, hts⟩
  unfold lawc_17 at hm
  refine lv_aload_n hx hb dL_law_781 rfl (lv_at hl 1 rfl) ?_
  refine lv_aload_n hx hb dL_law_782 rfl (lv_at hl 0 rfl) ?_
  refine lv_iload hx hb dL_law_783 (lv_at hl 4 rfl) ?_
  refine lv_iconst (v := (1 : Int32)) hx hb dL_law_785 (by decide) ?_
  refine lv_iadd hx hb dL_law_786 ?_
  refine z_sld hx hb hXs hbl hal hS (j := i + 1) (nI_add i 1) (by omega) hL dL_law_787 ?_
  rw [← ey1]
  refine lv_aload_n hx hb dL_law_788 rfl (lv_at hl 3 rfl) ?_
  refine z_cWi (As := [.ref (a 0), .int y1, .ref (a 82)]) (rest := []) hF hK hX hP hS (c_L_at l hlt D k a hj y1 S _ hm _) (vx_cwSW 3 hts zg_L_at rfl rfl rfl (by decide +kernel) ⟨(Nat.le_of_ble_eq_true rfl), (Nat.le_of_ble_eq_true rfl)⟩) rfl hl.1 rfl (Nat.le_of_ble_eq_true rfl) dL_law_789 ⟨by show _ ≤ 601024; omega, by show _ ≤ 7293034; omega⟩ (fun r_789 S_789 H locs hm hP hS => ?_)
  refine lv_istore (lv' := [(5, .int r_789), (0, .ref b), (1, .ref (a 0)), (2, .ref (a 61)), (3, .ref (a 82)), (4, .int (nI i))]) hx hb dL_law_792 hl (by decide) rfl (fun ls hl => ?_)
  refine lv_aload_n hx hb dL_law_794 rfl (lv_at hl 3 rfl) ?_
  refine lv_aload_n hx hb dL_law_795 rfl (lv_at hl 1 rfl) ?_
  refine lv_iload hx hb dL_law_796 (lv_at hl 5 rfl) ?_
  refine lv_iconst (v := (1 : Int32)) hx hb dL_law_798 (by decide) ?_
  refine lv_iadd hx hb dL_law_799 ?_
  refine z_sld hx hb hXs hbl hal hS (j := i + 1) (nI_add i 1) (by omega) hL dL_law_800 ?_
  rw [← ey1]
  refine z_cVi (As := [.int y1]) (rest := []) hF hK hP hS zO_61 rfl rfl (c_X7_at l D k a hj y1 S_789 _ hm _) (cwV 1 hts zg_X7_at rfl rfl rfl (by decide +kernel) ⟨(Nat.le_of_ble_eq_true rfl), (Nat.le_of_ble_eq_true rfl)⟩) rfl hl.1 rfl (Nat.le_of_ble_eq_true rfl) dL_law_801 ⟨by show _ ≤ 601024; omega, by show _ ≤ 7293034; omega⟩ (fun r_801 S_801 H locs hm hP hS => ?_)
  refine lv_istore (lv' := [(6, .int r_801), (5, .int r_789), (0, .ref b), (1, .ref (a 0)), (2, .ref (a 61)), (3, .ref (a 82)), (4, .int (nI i))]) hx hb dL_law_804 hl (by decide) rfl (fun ls hl => ?_)
  refine lv_aload_n hx hb dL_law_806 rfl (lv_at hl 4 rfl) ?_
  refine z_cVi (As := []) (rest := []) hF hK hP hS zO_61 rfl rfl (c_X7_thrown l D k a hj  S_801 _ hm _) (cwV 0 hts zg_X7_thrown rfl rfl rfl (by decide +kernel) ⟨(Nat.le_of_ble_eq_true rfl), (Nat.le_of_ble_eq_true rfl)⟩) rfl hl.1 rfl (Nat.le_of_ble_eq_true rfl) dL_law_807 ⟨by show _ ≤ 601024; omega, by show _ ≤ 7293034; omega⟩ (fun r_807 S_807 H locs hm hP hS => ?_)
  refine lv_iload hx hb dL_law_810 (lv_at hl 1 rfl) ?_
  refine lv_icmp_eq (tgt := 817) hx hb dL_law_812 (by decide) (fun c_812 => ?_) (fun c_812 => ?_)
  · have hm := hm.1 c_812
    refine lv_iload hx hb dL_law_817 (lv_at hl 1 rfl) ?_
    refine lv_if_ne (tgt := 834) hx hb dL_law_819 (by decide) (fun c_819 => ?_) (fun c_819 => ?_)
    · have hm := hm.2 c_819
      refine lv_goto (tgt := 1137) hx hb dL_law_834 (by decide) ?_
      refine W.widen (k := cells + 3) (n := slots + 18) (by omega) (by omega) ?_
      exact kk S_807 _ _ _ hm hP hS (lv_sub hl [2, 3, 4, 5, 6] rfl)
    · have hm := hm.1 c_819
      refine lv_aload_n hx hb dL_law_822 rfl (lv_at hl 5 rfl) ?_
      refine lv_iconst (v := (0 : Int32)) hx hb dL_law_823 (by decide) ?_
      refine z_lald hx hb hK hP zJ_82 (by unfold vp_in; decide) dL_law_824 ?_
      refine lv_iload hx hb dL_law_825 (lv_at hl 0 rfl) ?_
      refine lv_i2l hx hb dL_law_827 rfl ?_
      refine W.lcmp hx hb dL_law_828 ?_
      refine lv_if_eq (tgt := 834) hx hb dL_law_829 (by decide) (fun c_829 => ?_) (fun c_829 => ?_)
      · have hm := hm.1 c_829
        refine lv_goto (tgt := 1137) hx hb dL_law_834 (by decide) ?_
        refine W.widen (k := cells + 3) (n := slots + 18) (by omega) (by omega) ?_
        exact kk S_807 _ _ _ hm hP hS (lv_sub hl [2, 3, 4, 5, 6] rfl)
      · have hm := hm.2 c_829
        refine lv_iconst (v := (0 : Int32)) hx hb dL_law_832 (by decide) ?_
        exact hm.elim
  · have hm := hm.2 c_812
    refine lv_iconst (v := (0 : Int32)) hx hb dL_law_815 (by decide) ?_
    exact hm.elim
def lawc_18 (y1 y2 y3 : Int32) (S : ZS) (N : ZS → Prop) : Prop :=
  L_value S (fun r_839 S_839 => X7_value S_839 (fun r_845 S_845 => X7_thrown S_845 (fun r_851 S_851 => (r_851 = r_839 → (r_839 = 0 → ((lg_cmp (S_851.2 82 0) (Int32.toInt64 r_845)) = 0 → N S_851) ∧ (¬ (lg_cmp (S_851.2 82 0) (Int32.toInt64 r_845)) = 0 → False)) ∧ (¬ r_839 = 0 → N S_851)) ∧ (¬ r_851 = r_839 → False))))
set_option maxHeartbeats 4000000 in
set_option maxRecDepth 100000 in
theorem lc_18 {p : Program} {l : Launch} {e : Env} {s : State} {m : MethodId} {below : List Frame} {meth : Method} {c : Code} {b L : Nat} {xs : Nat → Int32} {D : va_G} {k : Nat → ClassId} {a : Nat → Nat} (C0 : zLaw p l s m meth c b L xs D k a) {i : Nat} (hi : i + 4 ≤ L) {cells slots : Nat} (hcs : cells + 3 ≤ 601024) (hss : slots + 18 ≤ 7293034) {S : ZS} {H : Heap} {locs : List Loc} {ls : Array Slot} (hP : va_P D vwCl (zWS k a S) H) (hS : va_S (zA a s.heap.size) s.heap H locs) (hl : lv_has ls 7 [(0, .ref b), (1, .ref (a 0)), (2, .ref (a 61)), (3, .ref (a 82)), (4, .int (nI i))]) {N : ZS → Prop} {y1 y2 y3 : Int32} (ey1 : y1 = xs (i + 1)) (ey2 : y2 = xs (i + 2)) (ey3 : y3 = xs (i + 3)) (hm : lawc_18 y1 y2 y3 S N)
    (kk : ∀ (S1 : ZS) (H1 : Heap) (locs1 : List Loc) (ls1 : Array Slot), N S1 → va_P D vwCl (zWS k a S1) H1 → va_S (zA a s.heap.size) s.heap H1 locs1 → lv_has ls1 7 [(0, .ref b), (1, .ref (a 0)), (2, .ref (a 61)), (3, .ref (a 82)), (4, .int (nI i))] → W p l e room_1 s m #[Value.ref b] below meth c H1 locs1 (cells + 3) (slots + 18) (lw_Z below #[Value.ref b] s) (F0 m 1137 ls1 [])) : W p l e room_1 s m #[Value.ref b] below meth c H locs cells slots (lw_Z below #[Value.ref b] s) (F0 m 837 ls []) := by
  obtain ⟨⟨hx, hb, hr, hml, hown, hts, hXs, hbl, hlocks, hgv⟩, hlt, hL, hj, hal, hK, hX⟩ := C0
  have hF : CallFix p m c cL_law 7 s #[Value.ref b] lw_tbl RL := ⟨hx, hb, hml, hown, hts⟩
  unfold lawc_18 at hm
  refine lv_aload_n hx hb dL_law_837 rfl (lv_at hl 1 rfl) ?_
  refine lv_aload_n hx hb dL_law_838 rfl (lv_at hl 3 rfl) ?_
  refine z_cWi (As := [.ref (a 0), .ref (a 82)]) (rest := []) hF hK hX hP hS (c_L_value l hlt D k a hj  S _ hm _) (vx_cwSW 2 hts zg_L_value rfl rfl rfl (by decide +kernel) ⟨(Nat.le_of_ble_eq_true rfl), (Nat.le_of_ble_eq_true rfl)⟩) rfl hl.1 rfl (Nat.le_of_ble_eq_true rfl) dL_law_839 ⟨by show _ ≤ 601024; omega, by show _ ≤ 7293034; omega⟩ (fun r_839 S_839 H locs hm hP hS => ?_)
  refine lv_istore (lv' := [(5, .int r_839), (0, .ref b), (1, .ref (a 0)), (2, .ref (a 61)), (3, .ref (a 82)), (4, .int (nI i))]) hx hb dL_law_842 hl (by decide) rfl (fun ls hl => ?_)
  refine lv_aload_n hx hb dL_law_844 rfl (lv_at hl 3 rfl) ?_
  refine z_cVi (As := []) (rest := []) hF hK hP hS zO_61 rfl rfl (c_X7_value l D k a hj  S_839 _ hm _) (cwV 0 hts zg_X7_value rfl rfl rfl (by decide +kernel) ⟨(Nat.le_of_ble_eq_true rfl), (Nat.le_of_ble_eq_true rfl)⟩) rfl hl.1 rfl (Nat.le_of_ble_eq_true rfl) dL_law_845 ⟨by show _ ≤ 601024; omega, by show _ ≤ 7293034; omega⟩ (fun r_845 S_845 H locs hm hP hS => ?_)
  refine lv_istore (lv' := [(6, .int r_845), (5, .int r_839), (0, .ref b), (1, .ref (a 0)), (2, .ref (a 61)), (3, .ref (a 82)), (4, .int (nI i))]) hx hb dL_law_848 hl (by decide) rfl (fun ls hl => ?_)
  refine lv_aload_n hx hb dL_law_850 rfl (lv_at hl 4 rfl) ?_
  refine z_cVi (As := []) (rest := []) hF hK hP hS zO_61 rfl rfl (c_X7_thrown l D k a hj  S_845 _ hm _) (cwV 0 hts zg_X7_thrown rfl rfl rfl (by decide +kernel) ⟨(Nat.le_of_ble_eq_true rfl), (Nat.le_of_ble_eq_true rfl)⟩) rfl hl.1 rfl (Nat.le_of_ble_eq_true rfl) dL_law_851 ⟨by show _ ≤ 601024; omega, by show _ ≤ 7293034; omega⟩ (fun r_851 S_851 H locs hm hP hS => ?_)
  refine lv_iload hx hb dL_law_854 (lv_at hl 1 rfl) ?_
  refine lv_icmp_eq (tgt := 861) hx hb dL_law_856 (by decide) (fun c_856 => ?_) (fun c_856 => ?_)
  · have hm := hm.1 c_856
    refine lv_iload hx hb dL_law_861 (lv_at hl 1 rfl) ?_
    refine lv_if_ne (tgt := 878) hx hb dL_law_863 (by decide) (fun c_863 => ?_) (fun c_863 => ?_)
    · have hm := hm.2 c_863
      refine lv_goto (tgt := 1137) hx hb dL_law_878 (by decide) ?_
      refine W.widen (k := cells + 3) (n := slots + 18) (by omega) (by omega) ?_
      exact kk S_851 _ _ _ hm hP hS (lv_sub hl [2, 3, 4, 5, 6] rfl)
    · have hm := hm.1 c_863
      refine lv_aload_n hx hb dL_law_866 rfl (lv_at hl 5 rfl) ?_
      refine lv_iconst (v := (0 : Int32)) hx hb dL_law_867 (by decide) ?_
      refine z_lald hx hb hK hP zJ_82 (by unfold vp_in; decide) dL_law_868 ?_
      refine lv_iload hx hb dL_law_869 (lv_at hl 0 rfl) ?_
      refine lv_i2l hx hb dL_law_871 rfl ?_
      refine W.lcmp hx hb dL_law_872 ?_
      refine lv_if_eq (tgt := 878) hx hb dL_law_873 (by decide) (fun c_873 => ?_) (fun c_873 => ?_)
      · have hm := hm.1 c_873
        refine lv_goto (tgt := 1137) hx hb dL_law_878 (by decide) ?_
        refine W.widen (k := cells + 3) (n := slots + 18) (by omega) (by omega) ?_
        exact kk S_851 _ _ _ hm hP hS (lv_sub hl [2, 3, 4, 5, 6] rfl)
      · have hm := hm.2 c_873
        refine lv_iconst (v := (0 : Int32)) hx hb dL_law_876 (by decide) ?_
        exact hm.elim
  · have hm := hm.2 c_856
    refine lv_iconst (v := (0 : Int32)) hx hb dL_law_859 (by decide) ?_
    exact hm.elim
def lawc_19 (y1 y2 y3 : Int32) (S : ZS) (N : ZS → Prop) : Prop :=
  L_sum y1 S (fun r_889 S_889 => X7_sum y1 S_889 (fun r_901 S_901 => X7_thrown S_901 (fun r_907 S_907 => (r_907 = r_889 → (r_889 = 0 → ((lg_cmp (S_907.2 82 0) (Int32.toInt64 r_901)) = 0 → N S_907) ∧ (¬ (lg_cmp (S_907.2 82 0) (Int32.toInt64 r_901)) = 0 → False)) ∧ (¬ r_889 = 0 → N S_907)) ∧ (¬ r_907 = r_889 → False))))
set_option maxHeartbeats 4000000 in
set_option maxRecDepth 100000 in
theorem lc_19 {p : Program} {l : Launch} {e : Env} {s : State} {m : MethodId} {below : List Frame} {meth : Method} {c : Code} {b L : Nat} {xs : Nat → Int32} {D : va_G} {k : Nat → ClassId} {a : Nat → Nat} (C0 : zLaw p l s m meth c b L xs D k a) {i : Nat} (hi : i + 4 ≤ L) {cells slots : Nat} (hcs : cells + 3 ≤ 601024) (hss : slots + 18 ≤ 7293034) {S : ZS} {H : Heap} {locs : List Loc} {ls : Array Slot} (hP : va_P D vwCl (zWS k a S) H) (hS : va_S (zA a s.heap.size) s.heap H locs) (hl : lv_has ls 7 [(0, .ref b), (1, .ref (a 0)), (2, .ref (a 61)), (3, .ref (a 82)), (4, .int (nI i))]) {N : ZS → Prop} {y1 y2 y3 : Int32} (ey1 : y1 = xs (i + 1)) (ey2 : y2 = xs (i + 2)) (ey3 : y3 = xs (i + 3)) (hm : lawc_19 y1 y2 y3 S N)
    (kk : ∀ (S1 : ZS) (H1 : Heap) (locs1 : List Loc) (ls1 : Array Slot), N S1 → va_P D vwCl (zWS k a S1) H1 → va_S (zA a s.heap.size) s.heap H1 locs1 → lv_has ls1 7 [(0, .ref b), (1, .ref (a 0)), (2, .ref (a 61)), (3, .ref (a 82)), (4, .int (nI i))] → W p l e room_1 s m #[Value.ref b] below meth c H1 locs1 (cells + 3) (slots + 18) (lw_Z below #[Value.ref b] s) (F0 m 1137 ls1 [])) : W p l e room_1 s m #[Value.ref b] below meth c H locs cells slots (lw_Z below #[Value.ref b] s) (F0 m 881 ls []) := by
  obtain ⟨⟨hx, hb, hr, hml, hown, hts, hXs, hbl, hlocks, hgv⟩, hlt, hL, hj, hal, hK, hX⟩ := C0
  have hF : CallFix p m c cL_law 7 s #[Value.ref b] lw_tbl RL := ⟨hx, hb, hml, hown, hts⟩
  unfold lawc_19 at hm
  refine lv_aload_n hx hb dL_law_881 rfl (lv_at hl 1 rfl) ?_
  refine lv_aload_n hx hb dL_law_882 rfl (lv_at hl 0 rfl) ?_
  refine lv_iload hx hb dL_law_883 (lv_at hl 4 rfl) ?_
  refine lv_iconst (v := (1 : Int32)) hx hb dL_law_885 (by decide) ?_
  refine lv_iadd hx hb dL_law_886 ?_
  refine z_sld hx hb hXs hbl hal hS (j := i + 1) (nI_add i 1) (by omega) hL dL_law_887 ?_
  rw [← ey1]
  refine lv_aload_n hx hb dL_law_888 rfl (lv_at hl 3 rfl) ?_
  refine z_cWi (As := [.ref (a 0), .int y1, .ref (a 82)]) (rest := []) hF hK hX hP hS (c_L_sum l hlt D k a hj y1 S _ hm _) (vx_cwSW 3 hts zg_L_sum rfl rfl rfl (by decide +kernel) ⟨(Nat.le_of_ble_eq_true rfl), (Nat.le_of_ble_eq_true rfl)⟩) rfl hl.1 rfl (Nat.le_of_ble_eq_true rfl) dL_law_889 ⟨by show _ ≤ 601024; omega, by show _ ≤ 7293034; omega⟩ (fun r_889 S_889 H locs hm hP hS => ?_)
  refine lv_istore (lv' := [(5, .int r_889), (0, .ref b), (1, .ref (a 0)), (2, .ref (a 61)), (3, .ref (a 82)), (4, .int (nI i))]) hx hb dL_law_892 hl (by decide) rfl (fun ls hl => ?_)
  refine lv_aload_n hx hb dL_law_894 rfl (lv_at hl 3 rfl) ?_
  refine lv_aload_n hx hb dL_law_895 rfl (lv_at hl 1 rfl) ?_
  refine lv_iload hx hb dL_law_896 (lv_at hl 5 rfl) ?_
  refine lv_iconst (v := (1 : Int32)) hx hb dL_law_898 (by decide) ?_
  refine lv_iadd hx hb dL_law_899 ?_
  refine z_sld hx hb hXs hbl hal hS (j := i + 1) (nI_add i 1) (by omega) hL dL_law_900 ?_
  rw [← ey1]
  refine z_cVi (As := [.int y1]) (rest := []) hF hK hP hS zO_61 rfl rfl (c_X7_sum l D k a hj y1 S_889 _ hm _) (cwV 1 hts zg_X7_sum rfl rfl rfl (by decide +kernel) ⟨(Nat.le_of_ble_eq_true rfl), (Nat.le_of_ble_eq_true rfl)⟩) rfl hl.1 rfl (Nat.le_of_ble_eq_true rfl) dL_law_901 ⟨by show _ ≤ 601024; omega, by show _ ≤ 7293034; omega⟩ (fun r_901 S_901 H locs hm hP hS => ?_)
  refine lv_istore (lv' := [(6, .int r_901), (5, .int r_889), (0, .ref b), (1, .ref (a 0)), (2, .ref (a 61)), (3, .ref (a 82)), (4, .int (nI i))]) hx hb dL_law_904 hl (by decide) rfl (fun ls hl => ?_)
  refine lv_aload_n hx hb dL_law_906 rfl (lv_at hl 4 rfl) ?_
  refine z_cVi (As := []) (rest := []) hF hK hP hS zO_61 rfl rfl (c_X7_thrown l D k a hj  S_901 _ hm _) (cwV 0 hts zg_X7_thrown rfl rfl rfl (by decide +kernel) ⟨(Nat.le_of_ble_eq_true rfl), (Nat.le_of_ble_eq_true rfl)⟩) rfl hl.1 rfl (Nat.le_of_ble_eq_true rfl) dL_law_907 ⟨by show _ ≤ 601024; omega, by show _ ≤ 7293034; omega⟩ (fun r_907 S_907 H locs hm hP hS => ?_)
  refine lv_iload hx hb dL_law_910 (lv_at hl 1 rfl) ?_
  refine lv_icmp_eq (tgt := 917) hx hb dL_law_912 (by decide) (fun c_912 => ?_) (fun c_912 => ?_)
  · have hm := hm.1 c_912
    refine lv_iload hx hb dL_law_917 (lv_at hl 1 rfl) ?_
    refine lv_if_ne (tgt := 934) hx hb dL_law_919 (by decide) (fun c_919 => ?_) (fun c_919 => ?_)
    · have hm := hm.2 c_919
      refine lv_goto (tgt := 1137) hx hb dL_law_934 (by decide) ?_
      refine W.widen (k := cells + 3) (n := slots + 18) (by omega) (by omega) ?_
      exact kk S_907 _ _ _ hm hP hS (lv_sub hl [2, 3, 4, 5, 6] rfl)
    · have hm := hm.1 c_919
      refine lv_aload_n hx hb dL_law_922 rfl (lv_at hl 5 rfl) ?_
      refine lv_iconst (v := (0 : Int32)) hx hb dL_law_923 (by decide) ?_
      refine z_lald hx hb hK hP zJ_82 (by unfold vp_in; decide) dL_law_924 ?_
      refine lv_iload hx hb dL_law_925 (lv_at hl 0 rfl) ?_
      refine lv_i2l hx hb dL_law_927 rfl ?_
      refine W.lcmp hx hb dL_law_928 ?_
      refine lv_if_eq (tgt := 934) hx hb dL_law_929 (by decide) (fun c_929 => ?_) (fun c_929 => ?_)
      · have hm := hm.1 c_929
        refine lv_goto (tgt := 1137) hx hb dL_law_934 (by decide) ?_
        refine W.widen (k := cells + 3) (n := slots + 18) (by omega) (by omega) ?_
        exact kk S_907 _ _ _ hm hP hS (lv_sub hl [2, 3, 4, 5, 6] rfl)
      · have hm := hm.2 c_929
        refine lv_iconst (v := (0 : Int32)) hx hb dL_law_932 (by decide) ?_
        exact hm.elim
  · have hm := hm.2 c_912
    refine lv_iconst (v := (0 : Int32)) hx hb dL_law_915 (by decide) ?_
    exact hm.elim
def lawc_20 (y1 y2 y3 : Int32) (S : ZS) (N : ZS → Prop) : Prop :=
  L_price y1 S (fun r_945 S_945 => X7_price y1 S_945 (fun r_957 S_957 => X7_thrown S_957 (fun r_963 S_963 => (r_963 = r_945 → (r_945 = 0 → ((lg_cmp (S_963.2 82 0) (Int32.toInt64 r_957)) = 0 → N S_963) ∧ (¬ (lg_cmp (S_963.2 82 0) (Int32.toInt64 r_957)) = 0 → False)) ∧ (¬ r_945 = 0 → N S_963)) ∧ (¬ r_963 = r_945 → False))))
set_option maxHeartbeats 4000000 in
set_option maxRecDepth 100000 in
theorem lc_20 {p : Program} {l : Launch} {e : Env} {s : State} {m : MethodId} {below : List Frame} {meth : Method} {c : Code} {b L : Nat} {xs : Nat → Int32} {D : va_G} {k : Nat → ClassId} {a : Nat → Nat} (C0 : zLaw p l s m meth c b L xs D k a) {i : Nat} (hi : i + 4 ≤ L) {cells slots : Nat} (hcs : cells + 3 ≤ 601024) (hss : slots + 18 ≤ 7293034) {S : ZS} {H : Heap} {locs : List Loc} {ls : Array Slot} (hP : va_P D vwCl (zWS k a S) H) (hS : va_S (zA a s.heap.size) s.heap H locs) (hl : lv_has ls 7 [(0, .ref b), (1, .ref (a 0)), (2, .ref (a 61)), (3, .ref (a 82)), (4, .int (nI i))]) {N : ZS → Prop} {y1 y2 y3 : Int32} (ey1 : y1 = xs (i + 1)) (ey2 : y2 = xs (i + 2)) (ey3 : y3 = xs (i + 3)) (hm : lawc_20 y1 y2 y3 S N)
    (kk : ∀ (S1 : ZS) (H1 : Heap) (locs1 : List Loc) (ls1 : Array Slot), N S1 → va_P D vwCl (zWS k a S1) H1 → va_S (zA a s.heap.size) s.heap H1 locs1 → lv_has ls1 7 [(0, .ref b), (1, .ref (a 0)), (2, .ref (a 61)), (3, .ref (a 82)), (4, .int (nI i))] → W p l e room_1 s m #[Value.ref b] below meth c H1 locs1 (cells + 3) (slots + 18) (lw_Z below #[Value.ref b] s) (F0 m 1137 ls1 [])) : W p l e room_1 s m #[Value.ref b] below meth c H locs cells slots (lw_Z below #[Value.ref b] s) (F0 m 937 ls []) := by
  obtain ⟨⟨hx, hb, hr, hml, hown, hts, hXs, hbl, hlocks, hgv⟩, hlt, hL, hj, hal, hK, hX⟩ := C0
  have hF : CallFix p m c cL_law 7 s #[Value.ref b] lw_tbl RL := ⟨hx, hb, hml, hown, hts⟩
  unfold lawc_20 at hm
  refine lv_aload_n hx hb dL_law_937 rfl (lv_at hl 1 rfl) ?_
  refine lv_aload_n hx hb dL_law_938 rfl (lv_at hl 0 rfl) ?_
  refine lv_iload hx hb dL_law_939 (lv_at hl 4 rfl) ?_
  refine lv_iconst (v := (1 : Int32)) hx hb dL_law_941 (by decide) ?_
  refine lv_iadd hx hb dL_law_942 ?_
  refine z_sld hx hb hXs hbl hal hS (j := i + 1) (nI_add i 1) (by omega) hL dL_law_943 ?_
  rw [← ey1]
  refine lv_aload_n hx hb dL_law_944 rfl (lv_at hl 3 rfl) ?_
  refine z_cWi (As := [.ref (a 0), .int y1, .ref (a 82)]) (rest := []) hF hK hX hP hS (c_L_price l hlt D k a hj y1 S _ hm _) (vx_cwSW 3 hts zg_L_price rfl rfl rfl (by decide +kernel) ⟨(Nat.le_of_ble_eq_true rfl), (Nat.le_of_ble_eq_true rfl)⟩) rfl hl.1 rfl (Nat.le_of_ble_eq_true rfl) dL_law_945 ⟨by show _ ≤ 601024; omega, by show _ ≤ 7293034; omega⟩ (fun r_945 S_945 H locs hm hP hS => ?_)
  refine lv_istore (lv' := [(5, .int r_945), (0, .ref b), (1, .ref (a 0)), (2, .ref (a 61)), (3, .ref (a 82)), (4, .int (nI i))]) hx hb dL_law_948 hl (by decide) rfl (fun ls hl => ?_)
  refine lv_aload_n hx hb dL_law_950 rfl (lv_at hl 3 rfl) ?_
  refine lv_aload_n hx hb dL_law_951 rfl (lv_at hl 1 rfl) ?_
  refine lv_iload hx hb dL_law_952 (lv_at hl 5 rfl) ?_
  refine lv_iconst (v := (1 : Int32)) hx hb dL_law_954 (by decide) ?_
  refine lv_iadd hx hb dL_law_955 ?_
  refine z_sld hx hb hXs hbl hal hS (j := i + 1) (nI_add i 1) (by omega) hL dL_law_956 ?_
  rw [← ey1]
  refine z_cVi (As := [.int y1]) (rest := []) hF hK hP hS zO_61 rfl rfl (c_X7_price l D k a hj y1 S_945 _ hm _) (cwV 1 hts zg_X7_price rfl rfl rfl (by decide +kernel) ⟨(Nat.le_of_ble_eq_true rfl), (Nat.le_of_ble_eq_true rfl)⟩) rfl hl.1 rfl (Nat.le_of_ble_eq_true rfl) dL_law_957 ⟨by show _ ≤ 601024; omega, by show _ ≤ 7293034; omega⟩ (fun r_957 S_957 H locs hm hP hS => ?_)
  refine lv_istore (lv' := [(6, .int r_957), (5, .int r_945), (0, .ref b), (1, .ref (a 0)), (2, .ref (a 61)), (3, .ref (a 82)), (4, .int (nI i))]) hx hb dL_law_960 hl (by decide) rfl (fun ls hl => ?_)
  refine lv_aload_n hx hb dL_law_962 rfl (lv_at hl 4 rfl) ?_
  refine z_cVi (As := []) (rest := []) hF hK hP hS zO_61 rfl rfl (c_X7_thrown l D k a hj  S_957 _ hm _) (cwV 0 hts zg_X7_thrown rfl rfl rfl (by decide +kernel) ⟨(Nat.le_of_ble_eq_true rfl), (Nat.le_of_ble_eq_true rfl)⟩) rfl hl.1 rfl (Nat.le_of_ble_eq_true rfl) dL_law_963 ⟨by show _ ≤ 601024; omega, by show _ ≤ 7293034; omega⟩ (fun r_963 S_963 H locs hm hP hS => ?_)
  refine lv_iload hx hb dL_law_966 (lv_at hl 1 rfl) ?_
  refine lv_icmp_eq (tgt := 973) hx hb dL_law_968 (by decide) (fun c_968 => ?_) (fun c_968 => ?_)
  · have hm := hm.1 c_968
    refine lv_iload hx hb dL_law_973 (lv_at hl 1 rfl) ?_
    refine lv_if_ne (tgt := 990) hx hb dL_law_975 (by decide) (fun c_975 => ?_) (fun c_975 => ?_)
    · have hm := hm.2 c_975
      refine lv_goto (tgt := 1137) hx hb dL_law_990 (by decide) ?_
      refine W.widen (k := cells + 3) (n := slots + 18) (by omega) (by omega) ?_
      exact kk S_963 _ _ _ hm hP hS (lv_sub hl [2, 3, 4, 5, 6] rfl)
    · have hm := hm.1 c_975
      refine lv_aload_n hx hb dL_law_978 rfl (lv_at hl 5 rfl) ?_
      refine lv_iconst (v := (0 : Int32)) hx hb dL_law_979 (by decide) ?_
      refine z_lald hx hb hK hP zJ_82 (by unfold vp_in; decide) dL_law_980 ?_
      refine lv_iload hx hb dL_law_981 (lv_at hl 0 rfl) ?_
      refine lv_i2l hx hb dL_law_983 rfl ?_
      refine W.lcmp hx hb dL_law_984 ?_
      refine lv_if_eq (tgt := 990) hx hb dL_law_985 (by decide) (fun c_985 => ?_) (fun c_985 => ?_)
      · have hm := hm.1 c_985
        refine lv_goto (tgt := 1137) hx hb dL_law_990 (by decide) ?_
        refine W.widen (k := cells + 3) (n := slots + 18) (by omega) (by omega) ?_
        exact kk S_963 _ _ _ hm hP hS (lv_sub hl [2, 3, 4, 5, 6] rfl)
      · have hm := hm.2 c_985
        refine lv_iconst (v := (0 : Int32)) hx hb dL_law_988 (by decide) ?_
        exact hm.elim
  · have hm := hm.2 c_968
    refine lv_iconst (v := (0 : Int32)) hx hb dL_law_971 (by decide) ?_
    exact hm.elim
def lawc_21 (y1 y2 y3 : Int32) (S : ZS) (N : ZS → Prop) : Prop :=
  L_reduced y1 S (fun r_1001 S_1001 => X7_reduced y1 S_1001 (fun r_1013 S_1013 => X7_thrown S_1013 (fun r_1019 S_1019 => (r_1019 = r_1001 → (r_1001 = 0 → ((lg_cmp (S_1019.2 82 0) (Int32.toInt64 r_1013)) = 0 → N S_1019) ∧ (¬ (lg_cmp (S_1019.2 82 0) (Int32.toInt64 r_1013)) = 0 → False)) ∧ (¬ r_1001 = 0 → N S_1019)) ∧ (¬ r_1019 = r_1001 → False))))
set_option maxHeartbeats 4000000 in
set_option maxRecDepth 100000 in
theorem lc_21 {p : Program} {l : Launch} {e : Env} {s : State} {m : MethodId} {below : List Frame} {meth : Method} {c : Code} {b L : Nat} {xs : Nat → Int32} {D : va_G} {k : Nat → ClassId} {a : Nat → Nat} (C0 : zLaw p l s m meth c b L xs D k a) {i : Nat} (hi : i + 4 ≤ L) {cells slots : Nat} (hcs : cells + 3 ≤ 601024) (hss : slots + 18 ≤ 7293034) {S : ZS} {H : Heap} {locs : List Loc} {ls : Array Slot} (hP : va_P D vwCl (zWS k a S) H) (hS : va_S (zA a s.heap.size) s.heap H locs) (hl : lv_has ls 7 [(0, .ref b), (1, .ref (a 0)), (2, .ref (a 61)), (3, .ref (a 82)), (4, .int (nI i))]) {N : ZS → Prop} {y1 y2 y3 : Int32} (ey1 : y1 = xs (i + 1)) (ey2 : y2 = xs (i + 2)) (ey3 : y3 = xs (i + 3)) (hm : lawc_21 y1 y2 y3 S N)
    (kk : ∀ (S1 : ZS) (H1 : Heap) (locs1 : List Loc) (ls1 : Array Slot), N S1 → va_P D vwCl (zWS k a S1) H1 → va_S (zA a s.heap.size) s.heap H1 locs1 → lv_has ls1 7 [(0, .ref b), (1, .ref (a 0)), (2, .ref (a 61)), (3, .ref (a 82)), (4, .int (nI i))] → W p l e room_1 s m #[Value.ref b] below meth c H1 locs1 (cells + 3) (slots + 18) (lw_Z below #[Value.ref b] s) (F0 m 1137 ls1 [])) : W p l e room_1 s m #[Value.ref b] below meth c H locs cells slots (lw_Z below #[Value.ref b] s) (F0 m 993 ls []) := by
  obtain ⟨⟨hx, hb, hr, hml, hown, hts, hXs, hbl, hlocks, hgv⟩, hlt, hL, hj, hal, hK, hX⟩ := C0
  have hF : CallFix p m c cL_law 7 s #[Value.ref b] lw_tbl RL := ⟨hx, hb, hml, hown, hts⟩
  unfold lawc_21 at hm
  refine lv_aload_n hx hb dL_law_993 rfl (lv_at hl 1 rfl) ?_
  refine lv_aload_n hx hb dL_law_994 rfl (lv_at hl 0 rfl) ?_
  refine lv_iload hx hb dL_law_995 (lv_at hl 4 rfl) ?_
  refine lv_iconst (v := (1 : Int32)) hx hb dL_law_997 (by decide) ?_
  refine lv_iadd hx hb dL_law_998 ?_
  refine z_sld hx hb hXs hbl hal hS (j := i + 1) (nI_add i 1) (by omega) hL dL_law_999 ?_
  rw [← ey1]
  refine lv_aload_n hx hb dL_law_1000 rfl (lv_at hl 3 rfl) ?_
  refine z_cWi (As := [.ref (a 0), .int y1, .ref (a 82)]) (rest := []) hF hK hX hP hS (c_L_reduced l hlt D k a hj y1 S _ hm _) (vx_cwSW 3 hts zg_L_reduced rfl rfl rfl (by decide +kernel) ⟨(Nat.le_of_ble_eq_true rfl), (Nat.le_of_ble_eq_true rfl)⟩) rfl hl.1 rfl (Nat.le_of_ble_eq_true rfl) dL_law_1001 ⟨by show _ ≤ 601024; omega, by show _ ≤ 7293034; omega⟩ (fun r_1001 S_1001 H locs hm hP hS => ?_)
  refine lv_istore (lv' := [(5, .int r_1001), (0, .ref b), (1, .ref (a 0)), (2, .ref (a 61)), (3, .ref (a 82)), (4, .int (nI i))]) hx hb dL_law_1004 hl (by decide) rfl (fun ls hl => ?_)
  refine lv_aload_n hx hb dL_law_1006 rfl (lv_at hl 3 rfl) ?_
  refine lv_aload_n hx hb dL_law_1007 rfl (lv_at hl 1 rfl) ?_
  refine lv_iload hx hb dL_law_1008 (lv_at hl 5 rfl) ?_
  refine lv_iconst (v := (1 : Int32)) hx hb dL_law_1010 (by decide) ?_
  refine lv_iadd hx hb dL_law_1011 ?_
  refine z_sld hx hb hXs hbl hal hS (j := i + 1) (nI_add i 1) (by omega) hL dL_law_1012 ?_
  rw [← ey1]
  refine z_cVi (As := [.int y1]) (rest := []) hF hK hP hS zO_61 rfl rfl (c_X7_reduced l D k a hj y1 S_1001 _ hm _) (cwV 1 hts zg_X7_reduced rfl rfl rfl (by decide +kernel) ⟨(Nat.le_of_ble_eq_true rfl), (Nat.le_of_ble_eq_true rfl)⟩) rfl hl.1 rfl (Nat.le_of_ble_eq_true rfl) dL_law_1013 ⟨by show _ ≤ 601024; omega, by show _ ≤ 7293034; omega⟩ (fun r_1013 S_1013 H locs hm hP hS => ?_)
  refine lv_istore (lv' := [(6, .int r_1013), (5, .int r_1001), (0, .ref b), (1, .ref (a 0)), (2, .ref (a 61)), (3, .ref (a 82)), (4, .int (nI i))]) hx hb dL_law_1016 hl (by decide) rfl (fun ls hl => ?_)
  refine lv_aload_n hx hb dL_law_1018 rfl (lv_at hl 4 rfl) ?_
  refine z_cVi (As := []) (rest := []) hF hK hP hS zO_61 rfl rfl (c_X7_thrown l D k a hj  S_1013 _ hm _) (cwV 0 hts zg_X7_thrown rfl rfl rfl (by decide +kernel) ⟨(Nat.le_of_ble_eq_true rfl), (Nat.le_of_ble_eq_true rfl)⟩) rfl hl.1 rfl (Nat.le_of_ble_eq_true rfl) dL_law_1019 ⟨by show _ ≤ 601024; omega, by show _ ≤ 7293034; omega⟩ (fun r_1019 S_1019 H locs hm hP hS => ?_)
  refine lv_iload hx hb dL_law_1022 (lv_at hl 1 rfl) ?_
  refine lv_icmp_eq (tgt := 1029) hx hb dL_law_1024 (by decide) (fun c_1024 => ?_) (fun c_1024 => ?_)
  · have hm := hm.1 c_1024
    refine lv_iload hx hb dL_law_1029 (lv_at hl 1 rfl) ?_
    refine lv_if_ne (tgt := 1046) hx hb dL_law_1031 (by decide) (fun c_1031 => ?_) (fun c_1031 => ?_)
    · have hm := hm.2 c_1031
      refine lv_goto (tgt := 1137) hx hb dL_law_1046 (by decide) ?_
      refine W.widen (k := cells + 3) (n := slots + 18) (by omega) (by omega) ?_
      exact kk S_1019 _ _ _ hm hP hS (lv_sub hl [2, 3, 4, 5, 6] rfl)
    · have hm := hm.1 c_1031
      refine lv_aload_n hx hb dL_law_1034 rfl (lv_at hl 5 rfl) ?_
      refine lv_iconst (v := (0 : Int32)) hx hb dL_law_1035 (by decide) ?_
      refine z_lald hx hb hK hP zJ_82 (by unfold vp_in; decide) dL_law_1036 ?_
      refine lv_iload hx hb dL_law_1037 (lv_at hl 0 rfl) ?_
      refine lv_i2l hx hb dL_law_1039 rfl ?_
      refine W.lcmp hx hb dL_law_1040 ?_
      refine lv_if_eq (tgt := 1046) hx hb dL_law_1041 (by decide) (fun c_1041 => ?_) (fun c_1041 => ?_)
      · have hm := hm.1 c_1041
        refine lv_goto (tgt := 1137) hx hb dL_law_1046 (by decide) ?_
        refine W.widen (k := cells + 3) (n := slots + 18) (by omega) (by omega) ?_
        exact kk S_1019 _ _ _ hm hP hS (lv_sub hl [2, 3, 4, 5, 6] rfl)
      · have hm := hm.2 c_1041
        refine lv_iconst (v := (0 : Int32)) hx hb dL_law_1044 (by decide) ?_
        exact hm.elim
  · have hm := hm.2 c_1024
    refine lv_iconst (v := (0 : Int32)) hx hb dL_law_1027 (by decide) ?_
    exact hm.elim
def lawc_22 (y1 y2 y3 : Int32) (S : ZS) (N : ZS → Prop) : Prop :=
  L_proof S (fun r_1051 S_1051 => X7_proof S_1051 (fun r_1057 S_1057 => X7_thrown S_1057 (fun r_1063 S_1063 => (r_1063 = r_1051 → (r_1051 = 0 → ((lg_cmp (S_1063.2 82 0) (Int32.toInt64 r_1057)) = 0 → N S_1063) ∧ (¬ (lg_cmp (S_1063.2 82 0) (Int32.toInt64 r_1057)) = 0 → False)) ∧ (¬ r_1051 = 0 → N S_1063)) ∧ (¬ r_1063 = r_1051 → False))))
set_option maxHeartbeats 4000000 in
set_option maxRecDepth 100000 in
theorem lc_22 {p : Program} {l : Launch} {e : Env} {s : State} {m : MethodId} {below : List Frame} {meth : Method} {c : Code} {b L : Nat} {xs : Nat → Int32} {D : va_G} {k : Nat → ClassId} {a : Nat → Nat} (C0 : zLaw p l s m meth c b L xs D k a) {i : Nat} (hi : i + 4 ≤ L) {cells slots : Nat} (hcs : cells + 3 ≤ 601024) (hss : slots + 18 ≤ 7293034) {S : ZS} {H : Heap} {locs : List Loc} {ls : Array Slot} (hP : va_P D vwCl (zWS k a S) H) (hS : va_S (zA a s.heap.size) s.heap H locs) (hl : lv_has ls 7 [(0, .ref b), (1, .ref (a 0)), (2, .ref (a 61)), (3, .ref (a 82)), (4, .int (nI i))]) {N : ZS → Prop} {y1 y2 y3 : Int32} (ey1 : y1 = xs (i + 1)) (ey2 : y2 = xs (i + 2)) (ey3 : y3 = xs (i + 3)) (hm : lawc_22 y1 y2 y3 S N)
    (kk : ∀ (S1 : ZS) (H1 : Heap) (locs1 : List Loc) (ls1 : Array Slot), N S1 → va_P D vwCl (zWS k a S1) H1 → va_S (zA a s.heap.size) s.heap H1 locs1 → lv_has ls1 7 [(0, .ref b), (1, .ref (a 0)), (2, .ref (a 61)), (3, .ref (a 82)), (4, .int (nI i))] → W p l e room_1 s m #[Value.ref b] below meth c H1 locs1 (cells + 3) (slots + 18) (lw_Z below #[Value.ref b] s) (F0 m 1137 ls1 [])) : W p l e room_1 s m #[Value.ref b] below meth c H locs cells slots (lw_Z below #[Value.ref b] s) (F0 m 1049 ls []) := by
  obtain ⟨⟨hx, hb, hr, hml, hown, hts, hXs, hbl, hlocks, hgv⟩, hlt, hL, hj, hal, hK, hX⟩ := C0
  have hF : CallFix p m c cL_law 7 s #[Value.ref b] lw_tbl RL := ⟨hx, hb, hml, hown, hts⟩
  unfold lawc_22 at hm
  refine lv_aload_n hx hb dL_law_1049 rfl (lv_at hl 1 rfl) ?_
  refine lv_aload_n hx hb dL_law_1050 rfl (lv_at hl 3 rfl) ?_
  refine z_cWi (As := [.ref (a 0), .ref (a 82)]) (rest := []) hF hK hX hP hS (c_L_proof l hlt D k a hj  S _ hm _) (vx_cwSW 2 hts zg_L_proof rfl rfl rfl (by decide +kernel) ⟨(Nat.le_of_ble_eq_true rfl), (Nat.le_of_ble_eq_true rfl)⟩) rfl hl.1 rfl (Nat.le_of_ble_eq_true rfl) dL_law_1051 ⟨by show _ ≤ 601024; omega, by show _ ≤ 7293034; omega⟩ (fun r_1051 S_1051 H locs hm hP hS => ?_)
  refine lv_istore (lv' := [(5, .int r_1051), (0, .ref b), (1, .ref (a 0)), (2, .ref (a 61)), (3, .ref (a 82)), (4, .int (nI i))]) hx hb dL_law_1054 hl (by decide) rfl (fun ls hl => ?_)
  refine lv_aload_n hx hb dL_law_1056 rfl (lv_at hl 3 rfl) ?_
  refine z_cVi (As := []) (rest := []) hF hK hP hS zO_61 rfl rfl (c_X7_proof l D k a hj  S_1051 _ hm _) (cwV 0 hts zg_X7_proof rfl rfl rfl (by decide +kernel) ⟨(Nat.le_of_ble_eq_true rfl), (Nat.le_of_ble_eq_true rfl)⟩) rfl hl.1 rfl (Nat.le_of_ble_eq_true rfl) dL_law_1057 ⟨by show _ ≤ 601024; omega, by show _ ≤ 7293034; omega⟩ (fun r_1057 S_1057 H locs hm hP hS => ?_)
  refine lv_istore (lv' := [(6, .int r_1057), (5, .int r_1051), (0, .ref b), (1, .ref (a 0)), (2, .ref (a 61)), (3, .ref (a 82)), (4, .int (nI i))]) hx hb dL_law_1060 hl (by decide) rfl (fun ls hl => ?_)
  refine lv_aload_n hx hb dL_law_1062 rfl (lv_at hl 4 rfl) ?_
  refine z_cVi (As := []) (rest := []) hF hK hP hS zO_61 rfl rfl (c_X7_thrown l D k a hj  S_1057 _ hm _) (cwV 0 hts zg_X7_thrown rfl rfl rfl (by decide +kernel) ⟨(Nat.le_of_ble_eq_true rfl), (Nat.le_of_ble_eq_true rfl)⟩) rfl hl.1 rfl (Nat.le_of_ble_eq_true rfl) dL_law_1063 ⟨by show _ ≤ 601024; omega, by show _ ≤ 7293034; omega⟩ (fun r_1063 S_1063 H locs hm hP hS => ?_)
  refine lv_iload hx hb dL_law_1066 (lv_at hl 1 rfl) ?_
  refine lv_icmp_eq (tgt := 1073) hx hb dL_law_1068 (by decide) (fun c_1068 => ?_) (fun c_1068 => ?_)
  · have hm := hm.1 c_1068
    refine lv_iload hx hb dL_law_1073 (lv_at hl 1 rfl) ?_
    refine lv_if_ne (tgt := 1090) hx hb dL_law_1075 (by decide) (fun c_1075 => ?_) (fun c_1075 => ?_)
    · have hm := hm.2 c_1075
      refine lv_goto (tgt := 1137) hx hb dL_law_1090 (by decide) ?_
      refine W.widen (k := cells + 3) (n := slots + 18) (by omega) (by omega) ?_
      exact kk S_1063 _ _ _ hm hP hS (lv_sub hl [2, 3, 4, 5, 6] rfl)
    · have hm := hm.1 c_1075
      refine lv_aload_n hx hb dL_law_1078 rfl (lv_at hl 5 rfl) ?_
      refine lv_iconst (v := (0 : Int32)) hx hb dL_law_1079 (by decide) ?_
      refine z_lald hx hb hK hP zJ_82 (by unfold vp_in; decide) dL_law_1080 ?_
      refine lv_iload hx hb dL_law_1081 (lv_at hl 0 rfl) ?_
      refine lv_i2l hx hb dL_law_1083 rfl ?_
      refine W.lcmp hx hb dL_law_1084 ?_
      refine lv_if_eq (tgt := 1090) hx hb dL_law_1085 (by decide) (fun c_1085 => ?_) (fun c_1085 => ?_)
      · have hm := hm.1 c_1085
        refine lv_goto (tgt := 1137) hx hb dL_law_1090 (by decide) ?_
        refine W.widen (k := cells + 3) (n := slots + 18) (by omega) (by omega) ?_
        exact kk S_1063 _ _ _ hm hP hS (lv_sub hl [2, 3, 4, 5, 6] rfl)
      · have hm := hm.2 c_1085
        refine lv_iconst (v := (0 : Int32)) hx hb dL_law_1088 (by decide) ?_
        exact hm.elim
  · have hm := hm.2 c_1068
    refine lv_iconst (v := (0 : Int32)) hx hb dL_law_1071 (by decide) ?_
    exact hm.elim
def lawc_23 (y1 y2 y3 : Int32) (S : ZS) (N : ZS → Prop) : Prop :=
  L_side S (fun r_1095 S_1095 => X7_side S_1095 (fun r_1101 S_1101 => X7_thrown S_1101 (fun r_1107 S_1107 => (r_1107 = r_1095 → (r_1095 = 0 → ((lg_cmp (S_1107.2 82 0) (Int32.toInt64 r_1101)) = 0 → N S_1107) ∧ (¬ (lg_cmp (S_1107.2 82 0) (Int32.toInt64 r_1101)) = 0 → False)) ∧ (¬ r_1095 = 0 → N S_1107)) ∧ (¬ r_1107 = r_1095 → False))))
set_option maxHeartbeats 4000000 in
set_option maxRecDepth 100000 in
theorem lc_23 {p : Program} {l : Launch} {e : Env} {s : State} {m : MethodId} {below : List Frame} {meth : Method} {c : Code} {b L : Nat} {xs : Nat → Int32} {D : va_G} {k : Nat → ClassId} {a : Nat → Nat} (C0 : zLaw p l s m meth c b L xs D k a) {i : Nat} (hi : i + 4 ≤ L) {cells slots : Nat} (hcs : cells + 3 ≤ 601024) (hss : slots + 18 ≤ 7293034) {S : ZS} {H : Heap} {locs : List Loc} {ls : Array Slot} (hP : va_P D vwCl (zWS k a S) H) (hS : va_S (zA a s.heap.size) s.heap H locs) (hl : lv_has ls 7 [(0, .ref b), (1, .ref (a 0)), (2, .ref (a 61)), (3, .ref (a 82)), (4, .int (nI i))]) {N : ZS → Prop} {y1 y2 y3 : Int32} (ey1 : y1 = xs (i + 1)) (ey2 : y2 = xs (i + 2)) (ey3 : y3 = xs (i + 3)) (hm : lawc_23 y1 y2 y3 S N)
    (kk : ∀ (S1 : ZS) (H1 : Heap) (locs1 : List Loc) (ls1 : Array Slot), N S1 → va_P D vwCl (zWS k a S1) H1 → va_S (zA a s.heap.size) s.heap H1 locs1 → lv_has ls1 7 [(0, .ref b), (1, .ref (a 0)), (2, .ref (a 61)), (3, .ref (a 82)), (4, .int (nI i))] → W p l e room_1 s m #[Value.ref b] below meth c H1 locs1 (cells + 3) (slots + 18) (lw_Z below #[Value.ref b] s) (F0 m 1137 ls1 [])) : W p l e room_1 s m #[Value.ref b] below meth c H locs cells slots (lw_Z below #[Value.ref b] s) (F0 m 1093 ls []) := by
  obtain ⟨⟨hx, hb, hr, hml, hown, hts, hXs, hbl, hlocks, hgv⟩, hlt, hL, hj, hal, hK, hX⟩ := C0
  have hF : CallFix p m c cL_law 7 s #[Value.ref b] lw_tbl RL := ⟨hx, hb, hml, hown, hts⟩
  unfold lawc_23 at hm
  refine lv_aload_n hx hb dL_law_1093 rfl (lv_at hl 1 rfl) ?_
  refine lv_aload_n hx hb dL_law_1094 rfl (lv_at hl 3 rfl) ?_
  refine z_cWi (As := [.ref (a 0), .ref (a 82)]) (rest := []) hF hK hX hP hS (c_L_side l hlt D k a hj  S _ hm _) (vx_cwSW 2 hts zg_L_side rfl rfl rfl (by decide +kernel) ⟨(Nat.le_of_ble_eq_true rfl), (Nat.le_of_ble_eq_true rfl)⟩) rfl hl.1 rfl (Nat.le_of_ble_eq_true rfl) dL_law_1095 ⟨by show _ ≤ 601024; omega, by show _ ≤ 7293034; omega⟩ (fun r_1095 S_1095 H locs hm hP hS => ?_)
  refine lv_istore (lv' := [(5, .int r_1095), (0, .ref b), (1, .ref (a 0)), (2, .ref (a 61)), (3, .ref (a 82)), (4, .int (nI i))]) hx hb dL_law_1098 hl (by decide) rfl (fun ls hl => ?_)
  refine lv_aload_n hx hb dL_law_1100 rfl (lv_at hl 3 rfl) ?_
  refine z_cVi (As := []) (rest := []) hF hK hP hS zO_61 rfl rfl (c_X7_side l D k a hj  S_1095 _ hm _) (cwV 0 hts zg_X7_side rfl rfl rfl (by decide +kernel) ⟨(Nat.le_of_ble_eq_true rfl), (Nat.le_of_ble_eq_true rfl)⟩) rfl hl.1 rfl (Nat.le_of_ble_eq_true rfl) dL_law_1101 ⟨by show _ ≤ 601024; omega, by show _ ≤ 7293034; omega⟩ (fun r_1101 S_1101 H locs hm hP hS => ?_)
  refine lv_istore (lv' := [(6, .int r_1101), (5, .int r_1095), (0, .ref b), (1, .ref (a 0)), (2, .ref (a 61)), (3, .ref (a 82)), (4, .int (nI i))]) hx hb dL_law_1104 hl (by decide) rfl (fun ls hl => ?_)
  refine lv_aload_n hx hb dL_law_1106 rfl (lv_at hl 4 rfl) ?_
  refine z_cVi (As := []) (rest := []) hF hK hP hS zO_61 rfl rfl (c_X7_thrown l D k a hj  S_1101 _ hm _) (cwV 0 hts zg_X7_thrown rfl rfl rfl (by decide +kernel) ⟨(Nat.le_of_ble_eq_true rfl), (Nat.le_of_ble_eq_true rfl)⟩) rfl hl.1 rfl (Nat.le_of_ble_eq_true rfl) dL_law_1107 ⟨by show _ ≤ 601024; omega, by show _ ≤ 7293034; omega⟩ (fun r_1107 S_1107 H locs hm hP hS => ?_)
  refine lv_iload hx hb dL_law_1110 (lv_at hl 1 rfl) ?_
  refine lv_icmp_eq (tgt := 1117) hx hb dL_law_1112 (by decide) (fun c_1112 => ?_) (fun c_1112 => ?_)
  · have hm := hm.1 c_1112
    refine lv_iload hx hb dL_law_1117 (lv_at hl 1 rfl) ?_
    refine lv_if_ne (tgt := 1134) hx hb dL_law_1119 (by decide) (fun c_1119 => ?_) (fun c_1119 => ?_)
    · have hm := hm.2 c_1119
      refine lv_goto (tgt := 1137) hx hb dL_law_1134 (by decide) ?_
      refine W.widen (k := cells + 3) (n := slots + 18) (by omega) (by omega) ?_
      exact kk S_1107 _ _ _ hm hP hS (lv_sub hl [2, 3, 4, 5, 6] rfl)
    · have hm := hm.1 c_1119
      refine lv_aload_n hx hb dL_law_1122 rfl (lv_at hl 5 rfl) ?_
      refine lv_iconst (v := (0 : Int32)) hx hb dL_law_1123 (by decide) ?_
      refine z_lald hx hb hK hP zJ_82 (by unfold vp_in; decide) dL_law_1124 ?_
      refine lv_iload hx hb dL_law_1125 (lv_at hl 0 rfl) ?_
      refine lv_i2l hx hb dL_law_1127 rfl ?_
      refine W.lcmp hx hb dL_law_1128 ?_
      refine lv_if_eq (tgt := 1134) hx hb dL_law_1129 (by decide) (fun c_1129 => ?_) (fun c_1129 => ?_)
      · have hm := hm.1 c_1129
        refine lv_goto (tgt := 1137) hx hb dL_law_1134 (by decide) ?_
        refine W.widen (k := cells + 3) (n := slots + 18) (by omega) (by omega) ?_
        exact kk S_1107 _ _ _ hm hP hS (lv_sub hl [2, 3, 4, 5, 6] rfl)
      · have hm := hm.2 c_1129
        refine lv_iconst (v := (0 : Int32)) hx hb dL_law_1132 (by decide) ?_
        exact hm.elim
  · have hm := hm.2 c_1112
    refine lv_iconst (v := (0 : Int32)) hx hb dL_law_1115 (by decide) ?_
    exact hm.elim
