/-! calls within the world, ends, loops (wip/gen/mkcalls.py) -/
def zn {σ : Type} (b : σ → (σ → Prop) → Prop) : Nat → σ → Prop
  | 0, _ => False
  | n + 1, x => b x (zn b n)
def zl {σ : Type} (b : σ → (σ → Prop) → Prop) (x : σ) : Prop := ∃ n, zn b n x
/-- a loop by an invariant and a measure that falls -/
theorem zl_of {σ : Type} {b : σ → (σ → Prop) → Prop} (I : σ → Prop) (μ : σ → Nat) (hs : ∀ (x : σ) (k : σ → Prop), I x → (∀ y, I y → μ y < μ x → k y) → b x k) (x : σ) (h : I x) : zl b x := by
  have key : ∀ (n : Nat) (x : σ), μ x < n → I x → zn b n x := by
    intro n
    induction n with
    | zero => intro x h; omega
    | succ n ih =>
      intro x hx hI
      exact hs x (zn b n) hI (fun y hy hl => ih y (by omega) hy)
  exact ⟨_, key (μ x + 1) x (Nat.lt_succ_self _) h⟩
abbrev zWi (p : Program) (l : Launch) (e : Env) (R : Room) (s : State) (m : MethodId) (av : List Value) (below : List Frame) (meth : Method) (c : Code) (D : va_G) (k : Nat → ClassId) (a : Nat → Nat) (Q : Int32 → ZS → Prop) (H : Heap) (locs : List Loc) (g : JFrame) : Prop := W p l e R s m av.toArray below meth c H locs 0 0 (MQ below (va_Qi Q (zB D k a) (zA a s.heap.size)) av.toArray s 0 0 (zA a s.heap.size)) g
abbrev zWl (p : Program) (l : Launch) (e : Env) (R : Room) (s : State) (m : MethodId) (av : List Value) (below : List Frame) (meth : Method) (c : Code) (D : va_G) (k : Nat → ClassId) (a : Nat → Nat) (Q : Int64 → ZS → Prop) (H : Heap) (locs : List Loc) (g : JFrame) : Prop := W p l e R s m av.toArray below meth c H locs 0 0 (MQ below (va_Ql Q (zB D k a) (zA a s.heap.size)) av.toArray s 0 0 (zA a s.heap.size)) g
abbrev zWv (p : Program) (l : Launch) (e : Env) (R : Room) (s : State) (m : MethodId) (av : List Value) (below : List Frame) (meth : Method) (c : Code) (D : va_G) (k : Nat → ClassId) (a : Nat → Nat) (Q : ZS → Prop) (H : Heap) (locs : List Loc) (g : JFrame) : Prop := W p l e R s m av.toArray below meth c H locs 0 0 (MQ below (va_Qv Q (zB D k a) (zA a s.heap.size)) av.toArray s 0 0 (zA a s.heap.size)) g
section ZCALLS
variable {p : Program} {l : Launch} {e : Env} {R : Room} {s : State} {m : MethodId} {args : Array Value} {below : List Frame} {meth : Method} {c : Code} {H : Heap} {locs : List Loc} {cells slots : Nat} {Q : State → Prop}
variable {cc : ByteArray} {pc : Nat} {ls : Array Slot} {rest : List Value} {D : va_G} {k : Nat → ClassId} {a : Nat → Nat} {S : ZS} {H0 : Heap}
variable {y : MethodName} {bytes : ByteArray} {maxL nL n index : Nat} {ret : Option FieldType} {ws Ts : List Cond} {rm : Room} {own C host : String} {As : List Value}
theorem z_cVi {post : Int32 → ZS → Prop} {n0 ci : Nat} {fs : (Nat → Nat) → (Nat → Int32) → List Value} {q : vw_C} {st : List Value} (F : CallFix p m c cc nL s args Ts own) (hK : zK D k s) (hP : va_P D vwCl (zWS k a S) H) (hS : va_S (zA a H0.size) H0 H locs) (hO : zO n0 ci fs) (hc : vwCl[ci]? = some q) (hC : q.1 = C)
    (hM : Met l y ws rm (zPc D k a (Value.ref (a n0) :: As) S H.size) (va_Qi post (zB D k a) (zA a H.size)) 0 0 (zA a H.size)) (cw : CallW R s args own C index y bytes maxL ret ws rm 0 0 n) (hn : As.length = n) (hsize : ls.size = nL) (hst : st = As.reverse ++ .ref (a n0) :: rest) (hroom : (rest.map fun v => v.category).sum ≤ 8) (hdg : decode cc pc = .ok (.invokevirtual index, 3)) (hf : cells ≤ R.cells ∧ slots ≤ R.slots)
    (kk : ∀ (r : Int32) (S1 : ZS) (H1 : Heap) (locs1 : List Loc), post r S1 → va_P D vwCl (zWS k a S1) H1 → va_S (zA a H0.size) H0 H1 locs1 → W p l e R s m args below meth c H1 locs1 cells slots Q (F0 m (pc + 3) ls (.int r :: rest))) : W p l e R s m args below meth c H locs cells slots Q (F0 m pc ls st) := by
  subst hC
  subst hst
  have hFc : ∀ q, zA a H.size q → zA a H0.size q := zA_le hS.1
  exact va_calli (va_runV (As := As) (rest := rest) F hM cw ⟨zPc_blind, va_recv hK.1 hP hc (by rw [zWS_at hO.1, hO.2]), zPc_pre hK hP⟩ rfl hn hsize rfl (lv_room hroom) hdg hf) hS (fun q _ h => hFc q h) hFc (fun r u t H1 locs1 ht hvm hw hB hz1 hk1 hS1 => kk r u H1 locs1 hw (by unfold zB at hB; rw [ht] at hB; exact hB) hS1)
theorem z_cSi {post : Int32 → ZS → Prop} {st : List Value} (F : CallFix p m c cc nL s args Ts own) (hK : zK D k s) (hP : va_P D vwCl (zWS k a S) H) (hS : va_S (zA a H0.size) H0 H locs)
    (hM : Met l y ws rm (zPc D k a As S H.size) (va_Qi post (zB D k a) (zA a H.size)) 0 0 (zA a H.size)) (cw : CallB R s args own index y bytes maxL ret ws rm 0 0 n ∧ (Cond.static y).before args s = true) (hn : As.length = n) (hsize : ls.size = nL) (hst : st = As.reverse ++ rest) (hroom : (rest.map fun v => v.category).sum ≤ 8) (hdg : decode cc pc = .ok (.invokestatic index, 3)) (hf : cells ≤ R.cells ∧ slots ≤ R.slots)
    (kk : ∀ (r : Int32) (S1 : ZS) (H1 : Heap) (locs1 : List Loc), post r S1 → va_P D vwCl (zWS k a S1) H1 → va_S (zA a H0.size) H0 H1 locs1 → W p l e R s m args below meth c H1 locs1 cells slots Q (F0 m (pc + 3) ls (.int r :: rest))) : W p l e R s m args below meth c H locs cells slots Q (F0 m pc ls st) := by
  subst hst
  have hFc : ∀ q, zA a H.size q → zA a H0.size q := zA_le hS.1
  exact va_calli (va_runS (As := As) (rest := rest) F hM cw ⟨zPc_blind, zPc_pre hK hP⟩ rfl hn hsize rfl (lv_room hroom) hdg hf) hS (fun q _ h => hFc q h) hFc (fun r u t H1 locs1 ht hvm hw hB hz1 hk1 hS1 => kk r u H1 locs1 hw (by unfold zB at hB; rw [ht] at hB; exact hB) hS1)
theorem z_cNi {post : Int32 → ZS → Prop} {st : List Value} (F : CallFix p m c cc nL s args Ts own) (hK : zK D k s) (hP : va_P D vwCl (zWS k a S) H) (hS : va_S (zA a H0.size) H0 H locs)
    (hM : Met l y ws rm (zPc D k a As S H.size) (va_Qi post (zB D k a) (zA a H.size)) 0 0 (zA a H.size)) (cw : va_CN R s args own index y host bytes maxL ret ws rm 0 0 n ∧ (Cond.static y).before args s = true ∧ True) (hn : As.length = n) (hsize : ls.size = nL) (hst : st = As.reverse ++ rest) (hroom : (rest.map fun v => v.category).sum ≤ 8) (hdg : decode cc pc = .ok (.invokestatic index, 3)) (hf : cells ≤ R.cells ∧ slots ≤ R.slots)
    (kk : ∀ (r : Int32) (S1 : ZS) (H1 : Heap) (locs1 : List Loc), post r S1 → va_P D vwCl (zWS k a S1) H1 → va_S (zA a H0.size) H0 H1 locs1 → W p l e R s m args below meth c H1 locs1 cells slots Q (F0 m (pc + 3) ls (.int r :: rest))) : W p l e R s m args below meth c H locs cells slots Q (F0 m pc ls st) := by
  subst hst
  have hFc : ∀ q, zA a H.size q → zA a H0.size q := zA_le hS.1
  exact va_calli (va_runSN (As := As) (rest := rest) F hM cw ⟨zPc_blind, zPc_pre hK hP⟩ rfl hn hsize rfl (lv_room hroom) hdg hf) hS (fun q _ h => hFc q h) hFc (fun r u t H1 locs1 ht hvm hw hB hz1 hk1 hS1 => kk r u H1 locs1 hw (by unfold zB at hB; rw [ht] at hB; exact hB) hS1)
theorem z_cVl {post : Int64 → ZS → Prop} {n0 ci : Nat} {fs : (Nat → Nat) → (Nat → Int32) → List Value} {q : vw_C} {st : List Value} (F : CallFix p m c cc nL s args Ts own) (hK : zK D k s) (hP : va_P D vwCl (zWS k a S) H) (hS : va_S (zA a H0.size) H0 H locs) (hO : zO n0 ci fs) (hc : vwCl[ci]? = some q) (hC : q.1 = C)
    (hM : Met l y ws rm (zPc D k a (Value.ref (a n0) :: As) S H.size) (va_Ql post (zB D k a) (zA a H.size)) 0 0 (zA a H.size)) (cw : CallW R s args own C index y bytes maxL ret ws rm 0 0 n) (hn : As.length = n) (hsize : ls.size = nL) (hst : st = As.reverse ++ .ref (a n0) :: rest) (hroom : (rest.map fun v => v.category).sum ≤ 8) (hdg : decode cc pc = .ok (.invokevirtual index, 3)) (hf : cells ≤ R.cells ∧ slots ≤ R.slots)
    (kk : ∀ (r : Int64) (S1 : ZS) (H1 : Heap) (locs1 : List Loc), post r S1 → va_P D vwCl (zWS k a S1) H1 → va_S (zA a H0.size) H0 H1 locs1 → W p l e R s m args below meth c H1 locs1 cells slots Q (F0 m (pc + 3) ls (.long r :: rest))) : W p l e R s m args below meth c H locs cells slots Q (F0 m pc ls st) := by
  subst hC
  subst hst
  have hFc : ∀ q, zA a H.size q → zA a H0.size q := zA_le hS.1
  exact va_calll (va_runV (As := As) (rest := rest) F hM cw ⟨zPc_blind, va_recv hK.1 hP hc (by rw [zWS_at hO.1, hO.2]), zPc_pre hK hP⟩ rfl hn hsize rfl (lv_room hroom) hdg hf) hS (fun q _ h => hFc q h) hFc (fun r u t H1 locs1 ht hvm hw hB hz1 hk1 hS1 => kk r u H1 locs1 hw (by unfold zB at hB; rw [ht] at hB; exact hB) hS1)
theorem z_cSl {post : Int64 → ZS → Prop} {st : List Value} (F : CallFix p m c cc nL s args Ts own) (hK : zK D k s) (hP : va_P D vwCl (zWS k a S) H) (hS : va_S (zA a H0.size) H0 H locs)
    (hM : Met l y ws rm (zPc D k a As S H.size) (va_Ql post (zB D k a) (zA a H.size)) 0 0 (zA a H.size)) (cw : CallB R s args own index y bytes maxL ret ws rm 0 0 n ∧ (Cond.static y).before args s = true) (hn : As.length = n) (hsize : ls.size = nL) (hst : st = As.reverse ++ rest) (hroom : (rest.map fun v => v.category).sum ≤ 8) (hdg : decode cc pc = .ok (.invokestatic index, 3)) (hf : cells ≤ R.cells ∧ slots ≤ R.slots)
    (kk : ∀ (r : Int64) (S1 : ZS) (H1 : Heap) (locs1 : List Loc), post r S1 → va_P D vwCl (zWS k a S1) H1 → va_S (zA a H0.size) H0 H1 locs1 → W p l e R s m args below meth c H1 locs1 cells slots Q (F0 m (pc + 3) ls (.long r :: rest))) : W p l e R s m args below meth c H locs cells slots Q (F0 m pc ls st) := by
  subst hst
  have hFc : ∀ q, zA a H.size q → zA a H0.size q := zA_le hS.1
  exact va_calll (va_runS (As := As) (rest := rest) F hM cw ⟨zPc_blind, zPc_pre hK hP⟩ rfl hn hsize rfl (lv_room hroom) hdg hf) hS (fun q _ h => hFc q h) hFc (fun r u t H1 locs1 ht hvm hw hB hz1 hk1 hS1 => kk r u H1 locs1 hw (by unfold zB at hB; rw [ht] at hB; exact hB) hS1)
theorem z_cNl {post : Int64 → ZS → Prop} {st : List Value} (F : CallFix p m c cc nL s args Ts own) (hK : zK D k s) (hP : va_P D vwCl (zWS k a S) H) (hS : va_S (zA a H0.size) H0 H locs)
    (hM : Met l y ws rm (zPc D k a As S H.size) (va_Ql post (zB D k a) (zA a H.size)) 0 0 (zA a H.size)) (cw : va_CN R s args own index y host bytes maxL ret ws rm 0 0 n ∧ (Cond.static y).before args s = true ∧ True) (hn : As.length = n) (hsize : ls.size = nL) (hst : st = As.reverse ++ rest) (hroom : (rest.map fun v => v.category).sum ≤ 8) (hdg : decode cc pc = .ok (.invokestatic index, 3)) (hf : cells ≤ R.cells ∧ slots ≤ R.slots)
    (kk : ∀ (r : Int64) (S1 : ZS) (H1 : Heap) (locs1 : List Loc), post r S1 → va_P D vwCl (zWS k a S1) H1 → va_S (zA a H0.size) H0 H1 locs1 → W p l e R s m args below meth c H1 locs1 cells slots Q (F0 m (pc + 3) ls (.long r :: rest))) : W p l e R s m args below meth c H locs cells slots Q (F0 m pc ls st) := by
  subst hst
  have hFc : ∀ q, zA a H.size q → zA a H0.size q := zA_le hS.1
  exact va_calll (va_runSN (As := As) (rest := rest) F hM cw ⟨zPc_blind, zPc_pre hK hP⟩ rfl hn hsize rfl (lv_room hroom) hdg hf) hS (fun q _ h => hFc q h) hFc (fun r u t H1 locs1 ht hvm hw hB hz1 hk1 hS1 => kk r u H1 locs1 hw (by unfold zB at hB; rw [ht] at hB; exact hB) hS1)
theorem z_cVv {post : ZS → Prop} {n0 ci : Nat} {fs : (Nat → Nat) → (Nat → Int32) → List Value} {q : vw_C} {st : List Value} (F : CallFix p m c cc nL s args Ts own) (hK : zK D k s) (hP : va_P D vwCl (zWS k a S) H) (hS : va_S (zA a H0.size) H0 H locs) (hO : zO n0 ci fs) (hc : vwCl[ci]? = some q) (hC : q.1 = C)
    (hM : Met l y ws rm (zPc D k a (Value.ref (a n0) :: As) S H.size) (va_Qv post (zB D k a) (zA a H.size)) 0 0 (zA a H.size)) (cw : CallW R s args own C index y bytes maxL ret ws rm 0 0 n) (hn : As.length = n) (hsize : ls.size = nL) (hst : st = As.reverse ++ .ref (a n0) :: rest) (hroom : (rest.map fun v => v.category).sum ≤ 8) (hdg : decode cc pc = .ok (.invokevirtual index, 3)) (hf : cells ≤ R.cells ∧ slots ≤ R.slots)
    (kk : ∀ (S1 : ZS) (H1 : Heap) (locs1 : List Loc), post S1 → va_P D vwCl (zWS k a S1) H1 → va_S (zA a H0.size) H0 H1 locs1 → W p l e R s m args below meth c H1 locs1 cells slots Q (F0 m (pc + 3) ls (rest))) : W p l e R s m args below meth c H locs cells slots Q (F0 m pc ls st) := by
  subst hC
  subst hst
  have hFc : ∀ q, zA a H.size q → zA a H0.size q := zA_le hS.1
  exact va_callv (va_runV (As := As) (rest := rest) F hM cw ⟨zPc_blind, va_recv hK.1 hP hc (by rw [zWS_at hO.1, hO.2]), zPc_pre hK hP⟩ rfl hn hsize rfl (lv_room hroom) hdg hf) hS (fun q _ h => hFc q h) hFc (fun u t H1 locs1 ht hvm hw hB hz1 hk1 hS1 => kk u H1 locs1 hw (by unfold zB at hB; rw [ht] at hB; exact hB) hS1)
theorem z_cSv {post : ZS → Prop} {st : List Value} (F : CallFix p m c cc nL s args Ts own) (hK : zK D k s) (hP : va_P D vwCl (zWS k a S) H) (hS : va_S (zA a H0.size) H0 H locs)
    (hM : Met l y ws rm (zPc D k a As S H.size) (va_Qv post (zB D k a) (zA a H.size)) 0 0 (zA a H.size)) (cw : CallB R s args own index y bytes maxL ret ws rm 0 0 n ∧ (Cond.static y).before args s = true) (hn : As.length = n) (hsize : ls.size = nL) (hst : st = As.reverse ++ rest) (hroom : (rest.map fun v => v.category).sum ≤ 8) (hdg : decode cc pc = .ok (.invokestatic index, 3)) (hf : cells ≤ R.cells ∧ slots ≤ R.slots)
    (kk : ∀ (S1 : ZS) (H1 : Heap) (locs1 : List Loc), post S1 → va_P D vwCl (zWS k a S1) H1 → va_S (zA a H0.size) H0 H1 locs1 → W p l e R s m args below meth c H1 locs1 cells slots Q (F0 m (pc + 3) ls (rest))) : W p l e R s m args below meth c H locs cells slots Q (F0 m pc ls st) := by
  subst hst
  have hFc : ∀ q, zA a H.size q → zA a H0.size q := zA_le hS.1
  exact va_callv (va_runS (As := As) (rest := rest) F hM cw ⟨zPc_blind, zPc_pre hK hP⟩ rfl hn hsize rfl (lv_room hroom) hdg hf) hS (fun q _ h => hFc q h) hFc (fun u t H1 locs1 ht hvm hw hB hz1 hk1 hS1 => kk u H1 locs1 hw (by unfold zB at hB; rw [ht] at hB; exact hB) hS1)
theorem z_cNv {post : ZS → Prop} {st : List Value} (F : CallFix p m c cc nL s args Ts own) (hK : zK D k s) (hP : va_P D vwCl (zWS k a S) H) (hS : va_S (zA a H0.size) H0 H locs)
    (hM : Met l y ws rm (zPc D k a As S H.size) (va_Qv post (zB D k a) (zA a H.size)) 0 0 (zA a H.size)) (cw : va_CN R s args own index y host bytes maxL ret ws rm 0 0 n ∧ (Cond.static y).before args s = true ∧ True) (hn : As.length = n) (hsize : ls.size = nL) (hst : st = As.reverse ++ rest) (hroom : (rest.map fun v => v.category).sum ≤ 8) (hdg : decode cc pc = .ok (.invokestatic index, 3)) (hf : cells ≤ R.cells ∧ slots ≤ R.slots)
    (kk : ∀ (S1 : ZS) (H1 : Heap) (locs1 : List Loc), post S1 → va_P D vwCl (zWS k a S1) H1 → va_S (zA a H0.size) H0 H1 locs1 → W p l e R s m args below meth c H1 locs1 cells slots Q (F0 m (pc + 3) ls (rest))) : W p l e R s m args below meth c H locs cells slots Q (F0 m pc ls st) := by
  subst hst
  have hFc : ∀ q, zA a H.size q → zA a H0.size q := zA_le hS.1
  exact va_callv (va_runSN (As := As) (rest := rest) F hM cw ⟨zPc_blind, zPc_pre hK hP⟩ rfl hn hsize rfl (lv_room hroom) hdg hf) hS (fun q _ h => hFc q h) hFc (fun u t H1 locs1 ht hvm hw hB hz1 hk1 hS1 => kk u H1 locs1 hw (by unfold zB at hB; rw [ht] at hB; exact hB) hS1)
theorem z_reti (hx : p.tables.exec = Jvm.exec) (hb : c.code = cc) (hr : meth.sig.returnType = some .int) (hlocks : meth.locks = false) (hP : va_P D vwCl (zWS k a S) H) (hS : va_S (zA a s.heap.size) s.heap H locs) {v : Int32} {post : Int32 → ZS → Prop} (hm : post v S) (hdg : decode cc pc = .ok (.ireturn, 1)) : W p l e R s m args below meth c H locs 0 0 (MQ below (va_Qi post (zB D k a) (zA a s.heap.size)) args s 0 0 (zA a s.heap.size)) (F0 m pc ls [.int v]) :=
  W.iret (v := v) hx hb hr (fun t ht hW => ⟨⟨v, S, rfl, hm, by unfold zB; rw [ht]; exact hP⟩, hS.F ht⟩) hS.2.2 hdg hlocks
theorem z_retz (hx : p.tables.exec = Jvm.exec) (hb : c.code = cc) (hr : meth.sig.returnType = some .boolean) (hlocks : meth.locks = false) (hP : va_P D vwCl (zWS k a S) H) (hS : va_S (zA a s.heap.size) s.heap H locs) {v : Int32} {post : Int32 → ZS → Prop} (hm : zbit v ∧ post v S) (hdg : decode cc pc = .ok (.ireturn, 1)) : W p l e R s m args below meth c H locs 0 0 (MQ below (va_Qi post (zB D k a) (zA a s.heap.size)) args s 0 0 (zA a s.heap.size)) (F0 m pc ls [.int v]) :=
  W.zret (v := v) hx hb hr hm.1.nar (fun t ht hW => ⟨⟨v, S, rfl, hm.2, by unfold zB; rw [ht]; exact hP⟩, hS.F ht⟩) hS.2.2 hdg hlocks
theorem z_retl (hx : p.tables.exec = Jvm.exec) (hb : c.code = cc) (hr : meth.sig.returnType = some .long) (hlocks : meth.locks = false) (hP : va_P D vwCl (zWS k a S) H) (hS : va_S (zA a s.heap.size) s.heap H locs) {v : Int64} {post : Int64 → ZS → Prop} (hm : post v S) (hdg : decode cc pc = .ok (.lreturn, 1)) : W p l e R s m args below meth c H locs 0 0 (MQ below (va_Ql post (zB D k a) (zA a s.heap.size)) args s 0 0 (zA a s.heap.size)) (F0 m pc ls [.long v]) :=
  W.lret (v := v) hx hb hr (fun t ht hW => ⟨⟨v, S, rfl, hm, by unfold zB; rw [ht]; exact hP⟩, hS.F ht⟩) hS.2.2 hdg hlocks
theorem z_retv (hx : p.tables.exec = Jvm.exec) (hb : c.code = cc) (hr : meth.sig.returnType = none) (hlocks : meth.locks = false) (hP : va_P D vwCl (zWS k a S) H) (hS : va_S (zA a s.heap.size) s.heap H locs) {post : ZS → Prop} (hm : post S) (hdg : decode cc pc = .ok (.return_, 1)) : W p l e R s m args below meth c H locs 0 0 (MQ below (va_Qv post (zB D k a) (zA a s.heap.size)) args s 0 0 (zA a s.heap.size)) (F0 m pc ls []) :=
  W.vret hx hb hr (fun t ht hW => ⟨⟨S, rfl, hm, by unfold zB; rw [ht]; exact hP⟩, hS.F ht⟩) hS.2.2 hdg hlocks
end ZCALLS
