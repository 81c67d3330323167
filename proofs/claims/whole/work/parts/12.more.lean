/-! a boolean row, lengths, System.arraycopy (wip/gen/mkmore.py) -/
def zcpy (sp dp n : Int32) (len0 len1 : Nat) : Prop := ¬ sp < 0 ∧ ¬ dp < 0 ∧ ¬ n < 0 ∧ sp.toNatClampNeg + n.toNatClampNeg ≤ len0 ∧ dp.toNatClampNeg + n.toNatClampNeg ≤ len1
theorem zbit.keep {v : Int32} (h : zbit v) : vp_nar .boolean v = v := by
  unfold vp_nar
  rw [h.nar]
section ZMORE
variable {p : Program} {l : Launch} {e : Env} {R : Room} {s : State} {m : MethodId} {args : Array Value} {below : List Frame} {meth : Method} {c : Code} {H : Heap} {locs : List Loc} {cells slots : Nat} {Q : State → Prop}
variable {cc : ByteArray} {pc : Nat} {ls : Array Slot} {rest : List Value} {D : va_G} {k : Nat → ClassId} {a : Nat → Nat} {S : ZS} {H0 : Heap}
theorem z_zast (hx : p.tables.exec = Jvm.exec) (hb : c.code = cc) (hj : zDj a) (hK : zK D k s) (hP : va_P D vwCl (zWS k a S) H) (hS : va_S (zA a H0.size) H0 H locs) {n len : Nat} (hI : zZ n len) {i x : Int32} (hz : zbit x) (hin : vp_in i len) (hdg : decode cc pc = .ok (.bastore, 1))
    (kk : ∀ (H1 : Heap) (locs1 : List Loc), va_P D vwCl (zWS k a (zu S n i.toNatClampNeg x)) H1 → va_S (zA a H0.size) H0 H1 locs1 → W p l e R s m args below meth c H1 locs1 cells slots Q (F0 m (pc + 1) ls rest)) : W p l e R s m args below meth c H locs cells slots Q (F0 m pc ls (.int x :: .int i :: .ref (a n) :: rest)) := by
  refine va_zast hx hb hK.1 hP (zD_of hj) hS n 2 (by rw [zWS_at hI.1, hI.2]) rfl hin hdg (fun H1 locs1 h1 _ h3 => kk H1 locs1 ?_ h3)
  rw [hz.keep, ← hI.2 k a _ (S.2 n), zWS_set hI.1] at h1
  exact h1
theorem z_alen (hx : p.tables.exec = Jvm.exec) (hb : c.code = cc) (hK : zK D k s) (hP : va_P D vwCl (zWS k a S) H) {n len : Nat} (hI : zI n len) (hdg : decode cc pc = .ok (.arraylength, 1)) (kk : W p l e R s m args below meth c H locs cells slots Q (F0 m (pc + 1) ls (.int (nI len) :: rest))) : W p l e R s m args below meth c H locs cells slots Q (F0 m pc ls (.ref (a n) :: rest)) :=
  va_alen (x := (len, .inl (S.1 n))) hx hb hK.1 hP n 0 (by rw [zWS_at hI.1, hI.2]) rfl (v := nI len) rfl hdg kk
theorem z_copy (hx : p.tables.exec = Jvm.exec) (hb : c.code = cc) (hml : c.maxLocals = ls.size) {own : String} {index : Nat} (hown : s.vm.findClass own = some m.cls) (hlink : (Cond.methodLink own index arraycopyName).before args s = true) (hnat : (Cond.native arraycopyName).before args s = true) (hstat : (Cond.static arraycopyName).before args s = true) (hini : (Cond.initialized "java/lang/System").before args s = true)
    (hj : zDj a) (hK : zK D k s) (hP : va_P D vwCl (zWS k a S) H) (hS : va_S (zA a H0.size) H0 H locs) {n0 n1 len0 len1 : Nat} (hI0 : zI n0 len0) (hI1 : zI n1 len1) {sp dp n : Int32} (hc : zcpy sp dp n len0 len1) (hframes : 1 ≤ R.frames) (hlocals : (rest.map fun v => v.category).sum + (nativeFrameWords "java/lang/System" "arraycopy" 5 + 11) ≤ R.locals) (hdg : decode cc pc = .ok (.invokestatic index, 3))
    (kk : ∀ (H1 : Heap) (locs1 : List Loc), va_P D vwCl (zWS k a (zur S n1 (va_cpy (S.1 n0) (S.1 n1) sp.toNatClampNeg dp.toNatClampNeg n.toNatClampNeg))) H1 → va_S (zA a H0.size) H0 H1 locs1 → W p l e R s m args below meth c H1 locs1 cells slots Q (F0 m (pc + 3) ls rest)) : W p l e R s m args below meth c H locs cells slots Q (F0 m pc ls (.int n :: .int dp :: .ref (a n1) :: .int sp :: .ref (a n0) :: rest)) := by
  obtain ⟨h1, h2, h3, h4, h5⟩ := hc
  refine va_copyi hx hb hml hown hlink hnat hstat hini hK.1 hP (zD_of hj) hS n0 n1 0 0 (ty := .int) (by rw [zWS_at hI0.1, hI0.2]) (by rw [zWS_at hI1.1, hI1.2]) rfl rfl rfl h1 h2 h3 h4 h5 (fun _ _ => rfl) hframes hlocals hdg (fun H1 locs1 g1 _ g3 => kk H1 locs1 ?_ g3)
  rw [← hI1.2 k a _ (S.2 n1), zWS_set hI1.1] at g1
  exact g1
end ZMORE
