/-! making the cells (wip/gen/mkctor.py) -/
theorem va_AOA.moved {t : FieldType} {u U : State} (hvm : u.vm.Alike U.vm) (h : va_AOA t u) : va_AOA t U := over_moved (a := #[]) (a' := #[]) hvm h
def zK0 (D : va_G) (k : Nat → ClassId) (U : State) : Prop := va_K D vwCl (ztys k) U ∧ va_AOA .int U
theorem zK0.warm {D : va_G} {k : Nat → ClassId} {s U : State} (hW : s.WarmedH U.vm) (h : zK0 D k s) : zK0 D k U := ⟨va_K.moved hW.alike h.1, va_AOA.moved hW.alike h.2⟩
def zRef (f : Nat → Option Nat) : (Nat → Int32) ⊕ (Nat → Int64) ⊕ (Nat → UInt32) ⊕ (Nat → UInt64) ⊕ (Nat → Option Nat) := .inr (.inr (.inr (.inr f)))
theorem zRef_cell {c : ClassId} {n : Nat} {f g : Nat → Option Nat} (h : ∀ j, j < n → f j = g j) : vp_cell c (n, zRef f) = vp_cell c (n, zRef g) := by
  show arrV c n (fun j => va_rf (f j)) = arrV c n (fun j => va_rf (g j))
  unfold arrV
  congr 1
  apply Array.ext
  · simp
  · intro i h1 h2
    simp at h1
    simp [h i h1]
section ZMAKE
variable {p : Program} {l : Launch} {e : Env} {R : Room} {s : State} {m : MethodId} {args : Array Value} {below : List Frame} {meth : Method} {c : Code} {H : Heap} {locs : List Loc} {cells slots : Nat} {Q : State → Prop}
variable {cc : ByteArray} {pc : Nat} {ls : Array Slot} {rest : List Value} {D : va_G} {k : Nat → ClassId} {A : Nat → Prop} {ws : va_W} {H0 : Heap}
theorem z_newI (hx : p.tables.exec = Jvm.exec) (hb : c.code = cc) (harr : (Cond.arrayClass .int).before args s = true) (hK : zK0 D k s) (hP : va_P D vwCl ws H) (hD : va_D A ws) (hS : va_S A H0 H locs) (hA : ∀ q, H0.size ≤ q → A q) {n : Int32} {N' : Nat} (hn : ¬ n < 0) (hN : n.toNatClampNeg = N') (hbytes : N' * componentBytes .int ≤ 536870912) (hcells : cells + 1 ≤ R.cells) (hslots : slots + N' ≤ R.slots) (hdg : decode cc pc = .ok (.newarray .int, 2))
    (kk : ∀ (q : Nat) (H1 : Heap), va_P D vwCl (ws ++ [(q, .inl (k 0, (N', .inl (fun _ => 0))))]) H1 → va_D A (ws ++ [(q, .inl (k 0, (N', .inl (fun _ => 0))))]) → va_S A H0 H1 locs → W p l e R s m args below meth c H1 locs (cells + 1) (slots + N') Q (F0 m (pc + 2) ls (.ref q :: rest))) : W p l e R s m args below meth c H locs cells slots Q (F0 m pc ls (.int n :: rest)) := by
  refine va_newa (atype := .int) (ty := .int) (a0 := (N', .inl (fun _ => 0))) hx hb harr rfl hK.1 hP hD hS hA (fun _ => rfl) hn hN hbytes hcells hslots hdg (fun q cA H1 hK1 hP1 hD1 hS1 => ?_)
  have h1 : s.vm.findClass ("[" ++ (FieldType.int).toString) = some cA := (hK1.2 4 (cA, .int) rfl).2
  have h2 : s.vm.findClass ("[" ++ (FieldType.int).toString) = some (k 0) := (hK1.2 0 (k 0, .int) rfl).2
  have e1 : cA = k 0 := Option.some.inj (h1.symm.trans h2)
  rw [e1] at hP1 hD1
  exact kk q H1 hP1 hD1 hS1
theorem z_newZ (hx : p.tables.exec = Jvm.exec) (hb : c.code = cc) (harr : (Cond.arrayClass .boolean).before args s = true) (hK : zK0 D k s) (hP : va_P D vwCl ws H) (hD : va_D A ws) (hS : va_S A H0 H locs) (hA : ∀ q, H0.size ≤ q → A q) {n : Int32} {N' : Nat} (hn : ¬ n < 0) (hN : n.toNatClampNeg = N') (hbytes : N' * componentBytes .boolean ≤ 536870912) (hcells : cells + 1 ≤ R.cells) (hslots : slots + N' ≤ R.slots) (hdg : decode cc pc = .ok (.newarray .boolean, 2))
    (kk : ∀ (q : Nat) (H1 : Heap), va_P D vwCl (ws ++ [(q, .inl (k 2, (N', .inl (fun _ => 0))))]) H1 → va_D A (ws ++ [(q, .inl (k 2, (N', .inl (fun _ => 0))))]) → va_S A H0 H1 locs → W p l e R s m args below meth c H1 locs (cells + 1) (slots + N') Q (F0 m (pc + 2) ls (.ref q :: rest))) : W p l e R s m args below meth c H locs cells slots Q (F0 m pc ls (.int n :: rest)) := by
  refine va_newa (atype := .boolean) (ty := .boolean) (a0 := (N', .inl (fun _ => 0))) hx hb harr rfl hK.1 hP hD hS hA (fun _ => rfl) hn hN hbytes hcells hslots hdg (fun q cA H1 hK1 hP1 hD1 hS1 => ?_)
  have h1 : s.vm.findClass ("[" ++ (FieldType.boolean).toString) = some cA := (hK1.2 4 (cA, .boolean) rfl).2
  have h2 : s.vm.findClass ("[" ++ (FieldType.boolean).toString) = some (k 2) := (hK1.2 2 (k 2, .boolean) rfl).2
  have e1 : cA = k 2 := Option.some.inj (h1.symm.trans h2)
  rw [e1] at hP1 hD1
  exact kk q H1 hP1 hD1 hS1
theorem z_newJ (hx : p.tables.exec = Jvm.exec) (hb : c.code = cc) (harr : (Cond.arrayClass .long).before args s = true) (hK : zK0 D k s) (hP : va_P D vwCl ws H) (hD : va_D A ws) (hS : va_S A H0 H locs) (hA : ∀ q, H0.size ≤ q → A q) {n : Int32} {N' : Nat} (hn : ¬ n < 0) (hN : n.toNatClampNeg = N') (hbytes : N' * componentBytes .long ≤ 536870912) (hcells : cells + 1 ≤ R.cells) (hslots : slots + N' ≤ R.slots) (hdg : decode cc pc = .ok (.newarray .long, 2))
    (kk : ∀ (q : Nat) (H1 : Heap), va_P D vwCl (ws ++ [(q, .inl (k 3, (N', .inr (.inl (fun _ => 0)))))]) H1 → va_D A (ws ++ [(q, .inl (k 3, (N', .inr (.inl (fun _ => 0)))))]) → va_S A H0 H1 locs → W p l e R s m args below meth c H1 locs (cells + 1) (slots + N') Q (F0 m (pc + 2) ls (.ref q :: rest))) : W p l e R s m args below meth c H locs cells slots Q (F0 m pc ls (.int n :: rest)) := by
  refine va_newa (atype := .long) (ty := .long) (a0 := (N', .inr (.inl (fun _ => 0)))) hx hb harr rfl hK.1 hP hD hS hA (fun _ => rfl) hn hN hbytes hcells hslots hdg (fun q cA H1 hK1 hP1 hD1 hS1 => ?_)
  have h1 : s.vm.findClass ("[" ++ (FieldType.long).toString) = some cA := (hK1.2 4 (cA, .long) rfl).2
  have h2 : s.vm.findClass ("[" ++ (FieldType.long).toString) = some (k 3) := (hK1.2 3 (k 3, .long) rfl).2
  have e1 : cA = k 3 := Option.some.inj (h1.symm.trans h2)
  rw [e1] at hP1 hD1
  exact kk q H1 hP1 hD1 hS1
theorem z_grid (hx : p.tables.exec = Jvm.exec) (hb : c.code = cc) {own : String} {index : Nat} (hown : s.vm.findClass own = some m.cls) (hclink : (Cond.classLink own index "[[I").before args s = true) (harr : (Cond.arrayClass .int).before args s = true) (hK : zK0 D k s) (hP : va_P D vwCl ws H) (hD : va_D A ws) (hS : va_S A H0 H locs) (hA : ∀ q, H0.size ≤ q → A q) {n i : Int32} {N' K' : Nat} (hn : ¬ n < 0) (hi : ¬ i < 0) (hN : n.toNatClampNeg = N') (hM : i.toNatClampNeg = K') (hb1 : N' * 4 ≤ 536870912) (hb2 : K' * componentBytes .int ≤ 536870912) (hb3 : K' ≤ 536870912) (hcells : cells + (1 + N') ≤ R.cells) (hslots : slots + (N' + N' * K') ≤ R.slots) (hdg : decode cc pc = .ok (.multianewarray index 2, 4))
    (kk : ∀ (q : Nat) (r : Nat → Nat) (H1 : Heap), va_P D vwCl ((ws ++ [(q, .inl (k 1, N', zRef (fun j => some (r j))))]) ++ ((List.range N').map r).map (fun x => (x, .inl (k 0, K', .inl (fun _ => 0))))) H1 → va_D A ((ws ++ [(q, .inl (k 1, N', zRef (fun j => some (r j))))]) ++ ((List.range N').map r).map (fun x => (x, .inl (k 0, K', .inl (fun _ => 0))))) → va_S A H0 H1 locs → W p l e R s m args below meth c H1 locs (cells + 1 + N') (slots + N' + N' * K') Q (F0 m (pc + 4) ls (.ref q :: rest))) : W p l e R s m args below meth c H locs cells slots Q (F0 m pc ls (.int i :: .int n :: rest)) := by
  have hcy : s.vm.findClass (FieldType.array .int).toString = some (k 0) := (hK.1.2 0 (k 0, .int) rfl).2
  have hP0 : va_P D vwCl (ws ++ va_pl [] (fun _ => .inl (k 0, 0, .inl (fun _ => 0)))) H := by rw [show va_pl [] (fun _ => (.inl (k 0, 0, .inl (fun _ => 0)) : va_E)) = [] from rfl, List.append_nil]; exact hP
  have hD0 : va_D A (ws ++ va_pl [] (fun _ => .inl (k 0, 0, .inl (fun _ => 0)))) := by rw [show va_pl [] (fun _ => (.inl (k 0, 0, .inl (fun _ => 0)) : va_E)) = [] from rfl, List.append_nil]; exact hD
  refine va_mna (ty := .int) (cy := k 0) (z := (K', .inl (fun _ => 0))) hx hb hown hclink hK.2 harr hcy hK.1 hP0 hD0 hS hA hn hi hN hM hb1 hb2 hb3 rfl rfl hcells hslots (fun c => by show ({ cls := c, slots := Array.replicate K' (.int 0), vm := .none } : Cell) = _; rw [arrV_new]; rfl) hdg (fun q r cA H1 hinj _ hK1 hP1 hD1 hS1 => ?_)
  have h1 : s.vm.findClass ("[" ++ (FieldType.array .int).toString) = some cA := (hK1.2 4 (cA, .array .int) rfl).2
  have h2 : s.vm.findClass ("[" ++ (FieldType.array .int).toString) = some (k 1) := (hK1.2 1 (k 1, .array .int) rfl).2
  have e1 : cA = k 1 := Option.some.inj (h1.symm.trans h2)
  rw [e1] at hP1 hD1
  have e2 := vr_rows (L := []) (l := (List.range N').map r) (f := fun _ => (.inl (k 0, 0, .inl (fun _ => 0)) : va_E)) (e := .inl (k 0, K', .inl (fun _ => 0))) (fun a _ h => by cases h)
  rw [← e2] at hP1 hD1
  have e3 : ∀ (x : va_W), va_pl [] (fun _ => (.inl (k 0, 0, .inl (fun _ => 0)) : va_E)) ++ x = x := fun x => rfl
  rw [e3] at hP1 hD1
  have key : ∀ (j : Nat) (z : Nat × va_E), ((ws ++ [(q, .inl (k 1, N', zRef (fun j => some (r j))))]) ++ ((List.range N').map r).map (fun x => (x, .inl (k 0, K', .inl (fun _ => 0)))))[j]? = some z → ∃ y, ((ws ++ [(q, .inl (k 1, N', zRef (fun i => if i < N' then some (r i) else none)))]) ++ ((List.range N').map r).map (fun x => (x, .inl (k 0, K', .inl (fun _ => 0)))))[j]? = some (z.1, y) ∧ (y = z.2 ∨ (y = .inl (k 1, N', zRef (fun i => if i < N' then some (r i) else none)) ∧ z.2 = .inl (k 1, N', zRef (fun j => some (r j))))) := by
    intro j z hz
    by_cases g1 : j < ws.length
    · rw [List.getElem?_append_left (by simp; omega), List.getElem?_append_left g1] at hz
      exact ⟨z.2, by rw [List.getElem?_append_left (by simp; omega), List.getElem?_append_left g1]; exact hz, Or.inl rfl⟩
    · by_cases g2 : j = ws.length
      · subst g2
        rw [List.getElem?_append_left (by simp), List.getElem?_append_right (Nat.le_refl _), Nat.sub_self] at hz
        cases hz
        exact ⟨_, by rw [List.getElem?_append_left (by simp), List.getElem?_append_right (Nat.le_refl _), Nat.sub_self]; rfl, Or.inr ⟨rfl, rfl⟩⟩
      · rw [List.getElem?_append_right (by simp; omega)] at hz
        refine ⟨z.2, ?_, Or.inl rfl⟩
        rw [List.getElem?_append_right (by simp; omega)]
        simp only [List.length_append, List.length_singleton] at hz ⊢
        exact hz
  refine kk q r H1 (fun j z hz => ?_) ⟨fun i j x y hx hy hxy => ?_, fun j z hz => ?_⟩ hS1
  · obtain ⟨y, h3, h4⟩ := key j z hz
    have h5 := hP1 j _ h3
    rcases h4 with h4 | ⟨h4, h6⟩
    · rw [h4] at h5
      exact h5
    · rw [h4] at h5
      obtain ⟨z1, z2⟩ := z
      dsimp only at h5 h6
      subst h6
      show H1[z1]? = some (vp_cell (k 1) (N', zRef _))
      rw [zRef_cell (g := fun i => if i < N' then some (r i) else none) (fun i hi => by simp [hi])]
      exact h5
  · obtain ⟨_, h3, -⟩ := key i x hx
    obtain ⟨_, h4, -⟩ := key j y hy
    exact hD1.1 i j _ _ h3 h4 hxy
  · obtain ⟨_, h3, -⟩ := key j z hz
    have h5 := hD1.2 j _ h3
    exact h5
end ZMAKE
