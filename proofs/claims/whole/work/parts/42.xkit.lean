/-! throwing, in the world (wip/gen/mkx.py) -/
def zbadC : List String := ["java/lang/IllegalStateException", "java/lang/IllegalArgumentException", "java/lang/IndexOutOfBoundsException"]
def zbadD : List String := ["java/lang/RuntimeException", "java/lang/Exception", "java/lang/Throwable"]
def zbad : List Cond := zbadC.map (fun E => Cond.castable E E) ++ zbadD.map (fun Y => Cond.declares ⟨Y, "<init>", "(Ljava/lang/String;)V"⟩)
def zstrs : List (Nat × String) := [(64, "there are 10 columns"), (78, "a number of the column is not as told"), (88, "there are 8 rows"), (91, "a number of the row is not as told"), (214, "there is no such row"), (211, "there is no such column"), (104, "the coefficient is not -100 .. 100"), (110, "the bounds are not as told"), (118, "the cost is not -1000 .. 1000"), (123, "the right side is not -100000 .. 100000"), (141, "it is no flow"), (216, "nothing is solved with a best point"), (218, "no flow is solved with a best point"), (220, "it was not solved that no point fits")]
def zncs : List (String × String) := [("java/lang/IllegalArgumentException", "java/lang/IllegalStateException"), ("java/lang/IllegalArgumentException", "java/lang/IndexOutOfBoundsException"), ("java/lang/IndexOutOfBoundsException", "java/lang/IllegalStateException")]
def znm : List String := ["java/lang/RuntimeException", "java/lang/Exception"]
theorem zbad_warm {s U : State} (hW : s.WarmedH U.vm) (h : ∀ w ∈ zbad, va_Nw w s) : ∀ w ∈ zbad, va_Nw w U := by
  intro w hw
  have h0 := h w hw
  rcases List.mem_append.mp hw with g | g
  · obtain ⟨E, -, rfl⟩ := List.mem_map.mp g
    exact va_Nw.warmC hW h0
  · obtain ⟨E, -, rfl⟩ := List.mem_map.mp g
    exact va_Nw.warmD hW h0
theorem zbad_same {u U : State} (hv : u.vm = U.vm) (h : ∀ w ∈ zbad, va_Nw w u) : ∀ w ∈ zbad, va_Nw w U := by
  intro w hw
  have h0 := h w hw
  rcases List.mem_append.mp hw with g | g
  · obtain ⟨E, -, rfl⟩ := List.mem_map.mp g
    exact va_Nw.same rfl hv h0
  · obtain ⟨E, -, rfl⟩ := List.mem_map.mp g
    exact va_Nw.same rfl hv h0
def zX (A : Nat → Prop) (U : State) (H : Heap) : Prop := vx_Zq Bundle.tN "UNASSIGNED_STACK" Bundle.steD A U H ∧ vx_Zq Bundle.tN "SUPPRESSED_SENTINEL" Bundle.listD A U H ∧ (∀ w ∈ zbad, va_Nw w U) ∧ (∀ q ∈ zstrs, ∃ sa : Nat, vk_R RX6 q.1 q.2 sa U) ∧ ∀ q ∈ zncs, va_Nc q.1 q.2 U
theorem zX.warm {A : Nat → Prop} {s U : State} {H : Heap} (hW : s.WarmedH U.vm) (h : zX A s H) : zX A U H := ⟨h.1.moved hW.alike, h.2.1.moved hW.alike, zbad_warm hW h.2.2.1, fun q hq => by
  obtain ⟨sa, g⟩ := h.2.2.2.1 q hq
  exact ⟨sa, vk_R.warm hW g⟩, fun q hq => (h.2.2.2.2 q hq).moved hW.alike⟩
theorem zX.same {A : Nat → Prop} {u U : State} {H : Heap} (hv : u.vm = U.vm) (h : zX A u H) : zX A U H := ⟨h.1.moved (by rw [← hv]; exact Vm.Alike.refl u.vm), h.2.1.moved (by rw [← hv]; exact Vm.Alike.refl u.vm), zbad_same hv h.2.2.1, fun q hq => by
  obtain ⟨sa, g⟩ := h.2.2.2.1 q hq
  exact ⟨sa, vk_R.same hv.symm g⟩, fun q hq => (h.2.2.2.2 q hq).moved (by rw [← hv]; exact Vm.Alike.refl u.vm)⟩
theorem zX.keep {A : Nat → Prop} {U : State} {H H1 : Heap} (hq : ∀ a : Nat, a < H.size → ¬ A a → H1[a]? = H[a]?) (h : zX A U H) : zX A U H1 := ⟨h.1.kept hq, h.2.1.kept hq, h.2.2⟩
theorem zX.nar {A B : Nat → Prop} {U : State} {H : Heap} (hAB : ∀ q, B q → A q) (h : zX A U H) : zX B U H := ⟨h.1.narrow hAB, h.2.1.narrow hAB, h.2.2⟩
def zPcX (D : va_G) (k : Nat → ClassId) (a : Nat → Nat) (av : List Value) (S : ZS) (sz : Nat) : Array Value → State → Prop := va_Pc av (fun U => U.heap.size = sz ∧ va_P D vwCl (zWS k a S) U.heap ∧ zK D k U ∧ zX (zA a sz) U U.heap)
theorem zPcX_blind {D : va_G} {k : Nat → ClassId} {a : Nat → Nat} {av : List Value} {S : ZS} {sz : Nat} : FrameBlind (zPcX D k a av S sz) := fun x U g mk q => by
  obtain ⟨q0, q1, qP, ⟨qK, qN⟩, qX⟩ := q
  exact ⟨q0, q1, qP, ⟨va_K.moved (u := U) (U := U.calling g mk x) (Vm.Alike.refl U.vm) qK, va_Nw.same (u := U) (U := U.calling g mk x) rfl rfl qN⟩, zX.same (u := U) (U := U.calling g mk x) rfl qX⟩
theorem zPcX_pre {D : va_G} {k : Nat → ClassId} {a : Nat → Nat} {av : List Value} {S : ZS} {H H0 : Heap} {s : State} {locs : List Loc} (hK : zK D k s) (hP : va_P D vwCl (zWS k a S) H) (hS : va_S (zA a H0.size) H0 H locs) (hX : zX (zA a H0.size) s H0) : ∀ U : State, U.heap = H → s.WarmedH U.vm → zPcX D k a av S H.size av.toArray U := fun U hU hW => ⟨rfl, by rw [hU], by rw [hU]; exact hP, hK.warm hW, by rw [hU]; exact ((hX.keep (fun q h1 h2 => hS.2.1 q h1 h2)).nar (zA_le hS.1)).warm hW⟩
abbrev zXC (D : va_G) (k : Nat → ClassId) (a : Nat → Nat) (X : String → ZS → Prop) (sz : Nat) : String → State → State → Prop := vx_X (fun _ : ZS => True) (fun E S t => X E S ∧ zB D k a S t) (zA a sz)
abbrev zYi (p : Program) (l : Launch) (e : Env) (R : Room) (s : State) (m : MethodId) (av : List Value) (below : List Frame) (meth : Method) (c : Code) (D : va_G) (k : Nat → ClassId) (a : Nat → Nat) (Q : Int32 → ZS → Prop) (X : String → ZS → Prop) (mc ms cells slots : Nat) (H : Heap) (locs : List Loc) (g : JFrame) : Prop := W p l e R s m av.toArray below meth c H locs cells slots (vx_MQ below (va_Qi Q (zB D k a) (zA a s.heap.size)) (zXC D k a X s.heap.size) av.toArray s mc ms (zA a s.heap.size)) g
abbrev zYv (p : Program) (l : Launch) (e : Env) (R : Room) (s : State) (m : MethodId) (av : List Value) (below : List Frame) (meth : Method) (c : Code) (D : va_G) (k : Nat → ClassId) (a : Nat → Nat) (Q : ZS → Prop) (X : String → ZS → Prop) (mc ms cells slots : Nat) (H : Heap) (locs : List Loc) (g : JFrame) : Prop := W p l e R s m av.toArray below meth c H locs cells slots (vx_MQ below (va_Qv Q (zB D k a) (zA a s.heap.size)) (zXC D k a X s.heap.size) av.toArray s mc ms (zA a s.heap.size)) g
section ZX
variable {p : Program} {l : Launch} {e : Env} {R : Room} {s : State} {m : MethodId} {args : Array Value} {below : List Frame} {meth : Method} {c : Code} {H : Heap} {locs : List Loc} {cells slots : Nat}
variable {cc : ByteArray} {pc : Nat} {ls : Array Slot} {rest : List Value} {D : va_G} {k : Nat → ClassId} {a : Nat → Nat} {S : ZS} {X : String → ZS → Prop}
variable {y : MethodName} {bytes : ByteArray} {maxL nL n index mc ms mc1 ms1 : Nat} {ret : Option FieldType} {ws Ts : List Cond} {rm : Room} {own C : String} {As : List Value} {Qc : Array Value → State → Outcome → State → Prop}
theorem z_xVi {post : Int32 → ZS → Prop} {n0 ci : Nat} {fs : (Nat → Nat) → (Nat → Int32) → List Value} {q : vw_C} {st : List Value} (F : CallFix p m c cc nL s args Ts own) (hlocks : meth.locks = false) (hxt : ∀ x ∈ c.exceptionTable.toList, False) (hK : zK D k s) (hX : zX (zA a s.heap.size) s s.heap) (hP : va_P D vwCl (zWS k a S) H) (hS : va_S (zA a s.heap.size) s.heap H locs) (hO : zO n0 ci fs) (hc : vwCl[ci]? = some q) (hC : q.1 = C)
    (hM : vx_Met l y ws rm (zPcX D k a (Value.ref (a n0) :: As) S H.size) (va_Qi post (zB D k a) (zA a H.size)) (zXC D k a X H.size) mc1 ms1 (zA a H.size)) (cw : CallW R s args own C index y bytes maxL ret ws rm mc1 ms1 n) (hn : As.length = n) (hsize : ls.size = nL) (hst : st = As.reverse ++ .ref (a n0) :: rest) (hroom : (rest.map fun v => v.category).sum ≤ 8) (hdg : decode cc pc = .ok (.invokevirtual index, 3)) (hf : cells + mc1 ≤ R.cells ∧ slots + ms1 ≤ R.slots) (hcm : cells + mc1 ≤ mc) (hsm : slots + ms1 ≤ ms)
    (kk : ∀ (r : Int32) (S1 : ZS) (H1 : Heap) (locs1 : List Loc), post r S1 → va_P D vwCl (zWS k a S1) H1 → va_S (zA a s.heap.size) s.heap H1 locs1 → W p l e R s m args below meth c H1 locs1 (cells + mc1) (slots + ms1) (vx_MQ below Qc (zXC D k a X s.heap.size) args s mc ms (zA a s.heap.size)) (F0 m (pc + 3) ls (.int r :: rest))) : W p l e R s m args below meth c H locs cells slots (vx_MQ below Qc (zXC D k a X s.heap.size) args s mc ms (zA a s.heap.size)) (F0 m pc ls st) := by
  subst hC
  subst hst
  have hFc : ∀ q, zA a H.size q → zA a s.heap.size q := zA_le hS.1
  exact vx_calli (vx_runV (As := As) (rest := rest) F hM cw ⟨zPcX_blind, va_recv hK.1 hP hc (by rw [zWS_at hO.1, hO.2]), zPcX_pre hK hP hS hX⟩ rfl hn hsize rfl (lv_room hroom) hdg hf) hS (fun q _ h => hFc q h) hFc (fun q _ h => hFc q h)
    (fun E ce q9 u t H1 locs1 ht hvm hp hB hz1 hk1 hS1 hce hcv hcl => vx_out (fun x hx => (hxt x hx).elim) hlocks hce hcv hcl (fun t2 ht2 hvm2 => ⟨u, trivial, ⟨hB.1, by have h2 := hB.2; unfold zB at h2 ⊢; rw [ht] at h2; rw [ht2]; exact h2⟩, hS1.F ht2⟩) hS1.2.2 hcm hsm)
    (fun r u t H1 locs1 ht hvm hw hB hz1 hk1 hS1 => kk r u H1 locs1 hw (by unfold zB at hB; rw [ht] at hB; exact hB) hS1)
theorem z_xVv {post : ZS → Prop} {n0 ci : Nat} {fs : (Nat → Nat) → (Nat → Int32) → List Value} {q : vw_C} {st : List Value} (F : CallFix p m c cc nL s args Ts own) (hlocks : meth.locks = false) (hxt : ∀ x ∈ c.exceptionTable.toList, False) (hK : zK D k s) (hX : zX (zA a s.heap.size) s s.heap) (hP : va_P D vwCl (zWS k a S) H) (hS : va_S (zA a s.heap.size) s.heap H locs) (hO : zO n0 ci fs) (hc : vwCl[ci]? = some q) (hC : q.1 = C)
    (hM : vx_Met l y ws rm (zPcX D k a (Value.ref (a n0) :: As) S H.size) (va_Qv post (zB D k a) (zA a H.size)) (zXC D k a X H.size) mc1 ms1 (zA a H.size)) (cw : CallW R s args own C index y bytes maxL ret ws rm mc1 ms1 n) (hn : As.length = n) (hsize : ls.size = nL) (hst : st = As.reverse ++ .ref (a n0) :: rest) (hroom : (rest.map fun v => v.category).sum ≤ 8) (hdg : decode cc pc = .ok (.invokevirtual index, 3)) (hf : cells + mc1 ≤ R.cells ∧ slots + ms1 ≤ R.slots) (hcm : cells + mc1 ≤ mc) (hsm : slots + ms1 ≤ ms)
    (kk : ∀ (S1 : ZS) (H1 : Heap) (locs1 : List Loc), post S1 → va_P D vwCl (zWS k a S1) H1 → va_S (zA a s.heap.size) s.heap H1 locs1 → W p l e R s m args below meth c H1 locs1 (cells + mc1) (slots + ms1) (vx_MQ below Qc (zXC D k a X s.heap.size) args s mc ms (zA a s.heap.size)) (F0 m (pc + 3) ls (rest))) : W p l e R s m args below meth c H locs cells slots (vx_MQ below Qc (zXC D k a X s.heap.size) args s mc ms (zA a s.heap.size)) (F0 m pc ls st) := by
  subst hC
  subst hst
  have hFc : ∀ q, zA a H.size q → zA a s.heap.size q := zA_le hS.1
  exact vx_callv (vx_runV (As := As) (rest := rest) F hM cw ⟨zPcX_blind, va_recv hK.1 hP hc (by rw [zWS_at hO.1, hO.2]), zPcX_pre hK hP hS hX⟩ rfl hn hsize rfl (lv_room hroom) hdg hf) hS (fun q _ h => hFc q h) hFc (fun q _ h => hFc q h)
    (fun E ce q9 u t H1 locs1 ht hvm hp hB hz1 hk1 hS1 hce hcv hcl => vx_out (fun x hx => (hxt x hx).elim) hlocks hce hcv hcl (fun t2 ht2 hvm2 => ⟨u, trivial, ⟨hB.1, by have h2 := hB.2; unfold zB at h2 ⊢; rw [ht] at h2; rw [ht2]; exact h2⟩, hS1.F ht2⟩) hS1.2.2 hcm hsm)
    (fun u t H1 locs1 ht hvm hw hB hz1 hk1 hS1 => kk u H1 locs1 hw (by unfold zB at hB; rw [ht] at hB; exact hB) hS1)
theorem z_kVi {Q : State → Prop} {post : Int32 → ZS → Prop} {n0 ci : Nat} {fs : (Nat → Nat) → (Nat → Int32) → List Value} {q : vw_C} {st : List Value} (F : CallFix p m c cc nL s args Ts own) (hK : zK D k s) (hX : zX (zA a s.heap.size) s s.heap) (hP : va_P D vwCl (zWS k a S) H) (hS : va_S (zA a s.heap.size) s.heap H locs) (hO : zO n0 ci fs) (hc : vwCl[ci]? = some q) (hC : q.1 = C)
    (hM : vx_Met l y ws rm (zPcX D k a (Value.ref (a n0) :: As) S H.size) (va_Qi post (zB D k a) (zA a H.size)) (zXC D k a X H.size) mc1 ms1 (zA a H.size)) (cw : CallW R s args own C index y bytes maxL ret ws rm mc1 ms1 n) (hn : As.length = n) (hsize : ls.size = nL) (hst : st = As.reverse ++ .ref (a n0) :: rest) (hroom : (rest.map fun v => v.category).sum ≤ 8) (hdg : decode cc pc = .ok (.invokevirtual index, 3)) (hf : cells + mc1 ≤ R.cells ∧ slots + ms1 ≤ R.slots)
    (kx : ∀ (E : String) (S1 : ZS) (H1 : Heap) (locs1 : List Loc) (q9 : Addr) (ce : Cell), X E S1 → va_P D vwCl (zWS k a S1) H1 → va_S (zA a s.heap.size) s.heap H1 locs1 → H1[q9]? = some ce → ce.vm = .none → s.vm.findClass E = some ce.cls → vx_W p l e R s m args below meth c H1 locs1 (cells + mc1) (slots + ms1) Q (F0 m pc ls rest) q9)
    (kk : ∀ (r : Int32) (S1 : ZS) (H1 : Heap) (locs1 : List Loc), post r S1 → va_P D vwCl (zWS k a S1) H1 → va_S (zA a s.heap.size) s.heap H1 locs1 → W p l e R s m args below meth c H1 locs1 (cells + mc1) (slots + ms1) Q (F0 m (pc + 3) ls (.int r :: rest))) : W p l e R s m args below meth c H locs cells slots Q (F0 m pc ls st) := by
  subst hC
  subst hst
  have hFc : ∀ q, zA a H.size q → zA a s.heap.size q := zA_le hS.1
  exact vx_calli (vx_runV (As := As) (rest := rest) F hM cw ⟨zPcX_blind, va_recv hK.1 hP hc (by rw [zWS_at hO.1, hO.2]), zPcX_pre hK hP hS hX⟩ rfl hn hsize rfl (lv_room hroom) hdg hf) hS (fun q _ h => hFc q h) hFc (fun q _ h => hFc q h)
    (fun E ce q9 u t H1 locs1 ht hvm hp hB hz1 hk1 hS1 hce hcv hcl => kx E u H1 locs1 q9 ce hB.1 (by have h2 := hB.2; unfold zB at h2; rw [ht] at h2; exact h2) hS1 hce hcv hcl)
    (fun r u t H1 locs1 ht hvm hw hB hz1 hk1 hS1 => kk r u H1 locs1 hw (by unfold zB at hB; rw [ht] at hB; exact hB) hS1)
theorem z_kVv {Q : State → Prop} {post : ZS → Prop} {n0 ci : Nat} {fs : (Nat → Nat) → (Nat → Int32) → List Value} {q : vw_C} {st : List Value} (F : CallFix p m c cc nL s args Ts own) (hK : zK D k s) (hX : zX (zA a s.heap.size) s s.heap) (hP : va_P D vwCl (zWS k a S) H) (hS : va_S (zA a s.heap.size) s.heap H locs) (hO : zO n0 ci fs) (hc : vwCl[ci]? = some q) (hC : q.1 = C)
    (hM : vx_Met l y ws rm (zPcX D k a (Value.ref (a n0) :: As) S H.size) (va_Qv post (zB D k a) (zA a H.size)) (zXC D k a X H.size) mc1 ms1 (zA a H.size)) (cw : CallW R s args own C index y bytes maxL ret ws rm mc1 ms1 n) (hn : As.length = n) (hsize : ls.size = nL) (hst : st = As.reverse ++ .ref (a n0) :: rest) (hroom : (rest.map fun v => v.category).sum ≤ 8) (hdg : decode cc pc = .ok (.invokevirtual index, 3)) (hf : cells + mc1 ≤ R.cells ∧ slots + ms1 ≤ R.slots)
    (kx : ∀ (E : String) (S1 : ZS) (H1 : Heap) (locs1 : List Loc) (q9 : Addr) (ce : Cell), X E S1 → va_P D vwCl (zWS k a S1) H1 → va_S (zA a s.heap.size) s.heap H1 locs1 → H1[q9]? = some ce → ce.vm = .none → s.vm.findClass E = some ce.cls → vx_W p l e R s m args below meth c H1 locs1 (cells + mc1) (slots + ms1) Q (F0 m pc ls rest) q9)
    (kk : ∀ (S1 : ZS) (H1 : Heap) (locs1 : List Loc), post S1 → va_P D vwCl (zWS k a S1) H1 → va_S (zA a s.heap.size) s.heap H1 locs1 → W p l e R s m args below meth c H1 locs1 (cells + mc1) (slots + ms1) Q (F0 m (pc + 3) ls (rest))) : W p l e R s m args below meth c H locs cells slots Q (F0 m pc ls st) := by
  subst hC
  subst hst
  have hFc : ∀ q, zA a H.size q → zA a s.heap.size q := zA_le hS.1
  exact vx_callv (vx_runV (As := As) (rest := rest) F hM cw ⟨zPcX_blind, va_recv hK.1 hP hc (by rw [zWS_at hO.1, hO.2]), zPcX_pre hK hP hS hX⟩ rfl hn hsize rfl (lv_room hroom) hdg hf) hS (fun q _ h => hFc q h) hFc (fun q _ h => hFc q h)
    (fun E ce q9 u t H1 locs1 ht hvm hp hB hz1 hk1 hS1 hce hcv hcl => kx E u H1 locs1 q9 ce hB.1 (by have h2 := hB.2; unfold zB at h2; rw [ht] at h2; exact h2) hS1 hce hcv hcl)
    (fun u t H1 locs1 ht hvm hw hB hz1 hk1 hS1 => kk u H1 locs1 hw (by unfold zB at hB; rw [ht] at hB; exact hB) hS1)
theorem z_retiW (hx : p.tables.exec = Jvm.exec) (hb : c.code = cc) (hr : meth.sig.returnType = some .int) (hlocks : meth.locks = false) (hP : va_P D vwCl (zWS k a S) H) (hS : va_S (zA a s.heap.size) s.heap H locs) {v : Int32} {post : Int32 → ZS → Prop} (hc : cells ≤ mc) (hs : slots ≤ ms) (hm : post v S) (hdg : decode cc pc = .ok (.ireturn, 1)) : W p l e R s m args below meth c H locs cells slots (MQ below (va_Qi post (zB D k a) (zA a s.heap.size)) args s mc ms (zA a s.heap.size)) (F0 m pc ls [.int v]) :=
  W.widen (k := mc) (n := ms) hc hs (W.iret (v := v) hx hb hr (fun t ht hW => ⟨⟨v, S, rfl, hm, by unfold zB; rw [ht]; exact hP⟩, hS.F ht⟩) hS.2.2 hdg hlocks)
theorem z_throw {cls text : String} {ik is ic : Nat} (hx : p.tables.exec = Jvm.exec) (hb : c.code = cc) (hlt : l.stackTraces = false) (hlocks : meth.locks = false) (hxt : ∀ x ∈ c.exceptionTable.toList, False) (hown : s.vm.findClass RX6 = some m.cls) (hts : ∀ w ∈ Ts, w.before args s = true) (hk : Cond.classLink RX6 ik cls ∈ Ts) (hini : Cond.initialized cls ∈ Ts) (hgw : ∀ w ∈ (vx_atS RX6 ic cls znm).filter goodWord, w ∈ Ts) (hbw : ∀ w ∈ (vx_atS RX6 ic cls znm).filter (fun w => !goodWord w), w ∈ zbad) (hstr : (is, text) ∈ zstrs) (hcls : Bundle.fit cls = true) (hnm : ∀ n ∈ znm, Bundle.fit n = true) (hgood : ∀ w ∈ Cond.classLink RX6 ik cls :: Cond.initialized cls :: vx_atS RX6 ic cls znm, vx_ot w = true)
    (hX : zX (zA a s.heap.size) s s.heap) (hP : va_P D vwCl (zWS k a S) H) (hS : va_S (zA a s.heap.size) s.heap H locs) (hsize : ls.size = c.maxLocals) (d0 : decode cc pc = .ok (.new ik, 3)) (d3 : decode cc (pc + 3) = .ok (.dup, 1)) (d4 : decode cc (pc + 4) = .ok (.ldc is, 2)) (d6 : decode cc (pc + 6) = .ok (.invokespecial ic, 3)) (d9 : decode cc (pc + 9) = .ok (.athrow, 1))
    (hRf : 5 < R.frames) (hRl : (rest.map fun v => v.category).sum + 82 ≤ R.locals) (hRc : cells + 1 ≤ R.cells) (hRs : slots + 6 ≤ R.slots) (hc : cells + 1 ≤ mc) (hs : slots + 6 ≤ ms) (hm : X cls S) : W p l e R s m args below meth c H locs cells slots (vx_MQ below Qc (zXC D k a X s.heap.size) args s mc ms (zA a s.heap.size)) (F0 m pc ls rest) := by
  obtain ⟨sa, hsa⟩ := hX.2.2.2.1 _ hstr
  refine vx_throwS (names := znm) (text := text) (sa := sa) hx hb hlt hown hcls hnm (hts _ hk) (hts _ hini) hsa (vx_hat (fun w hw => hts w (hgw w hw)) hbw (fun w hw => by
    rcases List.mem_append.mp hw with g | g
    · obtain ⟨E, -, rfl⟩ := List.mem_map.mp g
      exact va_Nw.use rfl (hX.2.2.1 _ hw)
    · obtain ⟨E, -, rfl⟩ := List.mem_map.mp g
      exact va_Nw.use rfl (hX.2.2.1 _ hw))) hgood hX.1 hX.2.1 hS hsize d0 d3 d4 d6 d9 (fun x hx => (hxt x hx).elim) hRf hRl hRc hRs hlocks (fun t hvm h1 h2 => ⟨S, trivial, ⟨hm, ?_⟩, ?_⟩) hS.2.2 hc hs
  · unfold zB
    exact hP.kept (fun i q hq => h2 q.1 ((hP i q hq).lt))
  · exact ⟨Nat.le_trans hS.1 h1, fun q g1 g2 => (h2 q (Nat.lt_of_lt_of_le g1 hS.1)).trans (hS.2.1 q g1 g2)⟩
theorem z_retiX (hx : p.tables.exec = Jvm.exec) (hb : c.code = cc) (hr : meth.sig.returnType = some .int) (hlocks : meth.locks = false) (hP : va_P D vwCl (zWS k a S) H) (hS : va_S (zA a s.heap.size) s.heap H locs) {v : Int32} {post : Int32 → ZS → Prop} (hc : cells ≤ mc) (hs : slots ≤ ms) (hm : post v S) (hdg : decode cc pc = .ok (.ireturn, 1)) : W p l e R s m args below meth c H locs cells slots (vx_MQ below (va_Qi post (zB D k a) (zA a s.heap.size)) (zXC D k a X s.heap.size) args s mc ms (zA a s.heap.size)) (F0 m pc ls [.int v]) :=
  W.widen (k := mc) (n := ms) hc hs (vx_ret (W.iret (v := v) hx hb hr (fun t ht hW => ⟨⟨v, S, rfl, hm, by unfold zB; rw [ht]; exact hP⟩, hS.F ht⟩) hS.2.2 hdg hlocks))
theorem z_retvX (hx : p.tables.exec = Jvm.exec) (hb : c.code = cc) (hr : meth.sig.returnType = none) (hlocks : meth.locks = false) (hP : va_P D vwCl (zWS k a S) H) (hS : va_S (zA a s.heap.size) s.heap H locs) {post : ZS → Prop} (hc : cells ≤ mc) (hs : slots ≤ ms) (hm : post S) (hdg : decode cc pc = .ok (.return_, 1)) : W p l e R s m args below meth c H locs cells slots (vx_MQ below (va_Qv post (zB D k a) (zA a s.heap.size)) (zXC D k a X s.heap.size) args s mc ms (zA a s.heap.size)) (F0 m pc ls []) :=
  W.widen (k := mc) (n := ms) hc hs (vx_ret (W.vret hx hb hr (fun t ht hW => ⟨⟨S, rfl, hm, by unfold zB; rw [ht]; exact hP⟩, hS.F ht⟩) hS.2.2 hdg hlocks))
end ZX
theorem zbw_66 : ∀ w ∈ (vx_atS RX6 66 "java/lang/IllegalStateException" znm).filter (fun w => !goodWord w), w ∈ zbad := by decide +kernel
theorem zbw_80 : ∀ w ∈ (vx_atS RX6 80 "java/lang/IllegalArgumentException" znm).filter (fun w => !goodWord w), w ∈ zbad := by decide +kernel
theorem zbw_213 : ∀ w ∈ (vx_atS RX6 213 "java/lang/IndexOutOfBoundsException" znm).filter (fun w => !goodWord w), w ∈ zbad := by decide +kernel
theorem zfit : ∀ n ∈ znm, Bundle.fit n = true := by decide +kernel
