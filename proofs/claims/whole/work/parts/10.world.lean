/-! THE WORLD: all cells of the class, of the reference and the law's own row, by their numbers (wip/gen/world.py); S.1 n j: place j of cell n, where it holds ints; S.2 n j: where it holds longs -/
abbrev ZS : Type := (Nat → Nat → Int32) × (Nat → Nat → Int64)
def zrows (k : Nat → ClassId) (a : Nat → Nat) (f : Nat → Int32) (h : Nat → Int64) : List va_E := [
  .inr (6, [.ref (a 2), .ref (a 1), .ref (a 3), .ref (a 4), .ref (a 5), .ref (a 6), .ref (a 7), .int (f 7)]),
  .inr (5, [.int (f 0), .int (f 1), .ref (a 8), .ref (a 9), .ref (a 10), .ref (a 11), .ref (a 12), .ref (a 13)]),
  .inr (4, [.ref (a 1), .ref (a 22), .ref (a 23), .ref (a 24), .ref (a 25)]),
  .inr (1, [.int (f 0), .ref (a 26), .ref (a 27), .ref (a 28), .ref (a 29), .ref (a 30), .ref (a 31), .ref (a 32), .ref (a 33), .ref (a 34), .ref (a 35), .ref (a 36)]),
  .inr (2, [.ref (a 37), .ref (a 38), .ref (a 39)]),
  .inr (3, [.int (f 0), .int (f 1)]),
  .inr (0, [.ref (a 49)]),
  .inl (k 0, 10, .inl f),
  .inl (k 0, 10, .inl f),
  .inl (k 0, 10, .inl f),
  .inl (k 0, 10, .inl f),
  .inl (k 0, 8, .inl f),
  .inl (k 0, 8, .inl f),
  .inl (k 1, 8, .inr (.inr (.inr (.inr (fun j => some (a (14 + j))))))),
  .inl (k 0, 10, .inl f),
  .inl (k 0, 10, .inl f),
  .inl (k 0, 10, .inl f),
  .inl (k 0, 10, .inl f),
  .inl (k 0, 10, .inl f),
  .inl (k 0, 10, .inl f),
  .inl (k 0, 10, .inl f),
  .inl (k 0, 10, .inl f),
  .inl (k 0, 8, .inl f),
  .inl (k 0, 8, .inl f),
  .inl (k 0, 10, .inl f),
  .inl (k 0, 10, .inl f),
  .inl (k 0, 18, .inl f),
  .inl (k 0, 18, .inl f),
  .inl (k 0, 18, .inl f),
  .inl (k 0, 18, .inl f),
  .inl (k 0, 18, .inl f),
  .inl (k 0, 18, .inl f),
  .inl (k 0, 18, .inl f),
  .inl (k 0, 9, .inl f),
  .inl (k 0, 9, .inl f),
  .inl (k 0, 9, .inl f),
  .inl (k 2, 9, .inl f),
  .inl (k 0, 8, .inl f),
  .inl (k 0, 9, .inl f),
  .inl (k 1, 9, .inr (.inr (.inr (.inr (fun j => some (a (40 + j))))))),
  .inl (k 0, 9, .inl f),
  .inl (k 0, 9, .inl f),
  .inl (k 0, 9, .inl f),
  .inl (k 0, 9, .inl f),
  .inl (k 0, 9, .inl f),
  .inl (k 0, 9, .inl f),
  .inl (k 0, 9, .inl f),
  .inl (k 0, 9, .inl f),
  .inl (k 0, 9, .inl f),
  .inl (k 1, 11, .inr (.inr (.inr (.inr (fun j => some (a (50 + j))))))),
  .inl (k 0, 301, .inl f),
  .inl (k 0, 301, .inl f),
  .inl (k 0, 301, .inl f),
  .inl (k 0, 301, .inl f),
  .inl (k 0, 301, .inl f),
  .inl (k 0, 301, .inl f),
  .inl (k 0, 301, .inl f),
  .inl (k 0, 301, .inl f),
  .inl (k 0, 301, .inl f),
  .inl (k 0, 301, .inl f),
  .inl (k 0, 301, .inl f),
  .inr (7, [.int (f 0), .int (f 1), .int (f 2), .ref (a 62), .ref (a 63), .ref (a 64), .ref (a 65), .ref (a 66), .ref (a 67), .int (f 9), .int (f 10), .ref (a 68), .ref (a 69), .int (f 13), .int (f 14), .ref (a 70), .ref (a 71), .ref (a 72), .ref (a 73), .ref (a 74), .int (f 20), .ref (a 75), .ref (a 76), .ref (a 77), .ref (a 78), .ref (a 79), .ref (a 80), .ref (a 81)]),
  .inl (k 0, 10, .inl f),
  .inl (k 0, 10, .inl f),
  .inl (k 0, 10, .inl f),
  .inl (k 0, 8, .inl f),
  .inl (k 0, 8, .inl f),
  .inl (k 0, 80, .inl f),
  .inl (k 0, 10, .inl f),
  .inl (k 3, 8, .inr (.inl h)),
  .inl (k 0, 8, .inl f),
  .inl (k 0, 8, .inl f),
  .inl (k 0, 10, .inl f),
  .inl (k 0, 10, .inl f),
  .inl (k 0, 8, .inl f),
  .inl (k 0, 60, .inl f),
  .inl (k 0, 60, .inl f),
  .inl (k 3, 60, .inr (.inl h)),
  .inl (k 0, 60, .inl f),
  .inl (k 3, 9, .inr (.inl h)),
  .inl (k 0, 9, .inl f),
  .inl (k 3, 3311, .inr (.inl h)),
  .inl (k 3, 1, .inr (.inl h))]
def zsh (k : Nat → ClassId) (a : Nat → Nat) (n : Nat) (f : Nat → Int32) (h : Nat → Int64) : va_E := (zrows k a f h).getD n (.inl (k 0, 0, .inl f))
def zWS (k : Nat → ClassId) (a : Nat → Nat) (S : ZS) : va_W := (List.range 83).map (fun n => (a n, zsh k a n (S.1 n) (S.2 n)))
def zur (S : ZS) (n : Nat) (f : Nat → Int32) : ZS := (fun q => if q = n then f else S.1 q, S.2)
def zul (S : ZS) (n : Nat) (h : Nat → Int64) : ZS := (S.1, fun q => if q = n then h else S.2 q)
def zu (S : ZS) (n j : Nat) (v : Int32) : ZS := zur S n (upd (S.1 n) j v)
def zw (S : ZS) (n j : Nat) (v : Int64) : ZS := zul S n (vp_updL (S.2 n) j v)
theorem zWS_at {k : Nat → ClassId} {a : Nat → Nat} {S : ZS} {n : Nat} (hn : n < 83) : (zWS k a S)[n]? = some (a n, zsh k a n (S.1 n) (S.2 n)) := by
  simp [zWS, hn]
theorem zWS_lt {k : Nat → ClassId} {a : Nat → Nat} {S : ZS} {n : Nat} {q : Nat × va_E} (h : (zWS k a S)[n]? = some q) : n < 83 ∧ q = (a n, zsh k a n (S.1 n) (S.2 n)) := by
  have hl := (List.getElem?_eq_some_iff.mp h).1
  have hn : n < 83 := by simpa [zWS] using hl
  rw [zWS_at hn] at h
  exact ⟨hn, (Option.some.inj h).symm⟩
theorem zWS_set {k : Nat → ClassId} {a : Nat → Nat} {S : ZS} {n : Nat} {f : Nat → Int32} (hn : n < 83) : (zWS k a S).set n (a n, zsh k a n f (S.2 n)) = zWS k a (zur S n f) := by
  apply List.ext_getElem?
  intro j
  by_cases hj : j < 83
  · rw [zWS_at hj]
    by_cases e : j = n
    · subst e
      rw [List.getElem?_set_self (by simpa [zWS] using hn)]
      simp [zur]
    · rw [List.getElem?_set_ne (Ne.symm e), zWS_at hj]
      simp [zur, e]
  · rw [List.getElem?_eq_none (by simp [zWS]; omega), List.getElem?_eq_none (by simp [zWS]; omega)]
theorem zWS_setL {k : Nat → ClassId} {a : Nat → Nat} {S : ZS} {n : Nat} {h : Nat → Int64} (hn : n < 83) : (zWS k a S).set n (a n, zsh k a n (S.1 n) h) = zWS k a (zul S n h) := by
  apply List.ext_getElem?
  intro j
  by_cases hj : j < 83
  · rw [zWS_at hj]
    by_cases e : j = n
    · subst e
      rw [List.getElem?_set_self (by simpa [zWS] using hn)]
      simp [zul]
    · rw [List.getElem?_set_ne (Ne.symm e), zWS_at hj]
      simp [zul, e]
  · rw [List.getElem?_eq_none (by simp [zWS]; omega), List.getElem?_eq_none (by simp [zWS]; omega)]
def zDj (a : Nat → Nat) : Prop := ∀ i j : Nat, i < 83 → j < 83 → a i = a j → i = j
def zA (a : Nat → Nat) (sz : Nat) : Nat → Prop := fun q => (∃ n, n < 83 ∧ q = a n) ∨ sz ≤ q
theorem zD_of {k : Nat → ClassId} {a : Nat → Nat} {S : ZS} {sz : Nat} (hj : zDj a) : va_D (zA a sz) (zWS k a S) := by
  refine ⟨fun i j p q h1 h2 e => ?_, fun i q h => ?_⟩
  · obtain ⟨g1, e1⟩ := zWS_lt h1
    obtain ⟨g2, e2⟩ := zWS_lt h2
    subst e1
    subst e2
    exact hj i j g1 g2 e
  · obtain ⟨g1, e1⟩ := zWS_lt h
    subst e1
    exact Or.inl ⟨i, g1, rfl⟩
theorem zA_le {a : Nat → Nat} {x y : Nat} (h : x ≤ y) : ∀ q, zA a y q → zA a x q := fun q g => by
  rcases g with g | g
  · exact Or.inl g
  · exact Or.inr (Nat.le_trans h g)
def ztys (k : Nat → ClassId) : List (ClassId × FieldType) := [(k 0, .int), (k 1, .array .int), (k 2, .boolean), (k 3, .long)]
def zK (D : va_G) (k : Nat → ClassId) (U : State) : Prop := va_K D vwCl (ztys k) U ∧ va_Nw (.methodLinkNest RX4 111 yX6_isWithin RX6) U
theorem zK.warm {D : va_G} {k : Nat → ClassId} {s U : State} (hW : s.WarmedH U.vm) (h : zK D k s) : zK D k U := ⟨va_K.moved hW.alike h.1, va_Nw.warmM hW h.2⟩
def zPc (D : va_G) (k : Nat → ClassId) (a : Nat → Nat) (av : List Value) (S : ZS) (sz : Nat) : Array Value → State → Prop := va_Pc av (fun U => U.heap.size = sz ∧ va_P D vwCl (zWS k a S) U.heap ∧ zK D k U)
theorem zPc_blind {D : va_G} {k : Nat → ClassId} {a : Nat → Nat} {av : List Value} {S : ZS} {sz : Nat} : FrameBlind (zPc D k a av S sz) := fun x U g mk q => by
  obtain ⟨q0, q1, qP, qK, qN⟩ := q
  exact ⟨q0, q1, qP, va_K.moved (u := U) (U := U.calling g mk x) (Vm.Alike.refl U.vm) qK, va_Nw.same (u := U) (U := U.calling g mk x) rfl rfl qN⟩
theorem zPc_pre {D : va_G} {k : Nat → ClassId} {a : Nat → Nat} {av : List Value} {S : ZS} {H : Heap} {s : State} (hK : zK D k s) (hP : va_P D vwCl (zWS k a S) H) : ∀ U : State, U.heap = H → s.WarmedH U.vm → zPc D k a av S H.size av.toArray U := fun U hU hW => ⟨rfl, by rw [hU], by rw [hU]; exact hP, hK.warm hW⟩
def zB (D : va_G) (k : Nat → ClassId) (a : Nat → Nat) (S : ZS) (t : State) : Prop := va_P D vwCl (zWS k a S) t.heap
/-- kinds of cells -/
def zI (n len : Nat) : Prop := n < 83 ∧ ∀ (k : Nat → ClassId) (a : Nat → Nat) (f : Nat → Int32) (h : Nat → Int64), zsh k a n f h = .inl (k 0, len, .inl f)
def zZ (n len : Nat) : Prop := n < 83 ∧ ∀ (k : Nat → ClassId) (a : Nat → Nat) (f : Nat → Int32) (h : Nat → Int64), zsh k a n f h = .inl (k 2, len, .inl f)
def zJ (n len : Nat) : Prop := n < 83 ∧ ∀ (k : Nat → ClassId) (a : Nat → Nat) (f : Nat → Int32) (h : Nat → Int64), zsh k a n f h = .inl (k 3, len, .inr (.inl h))
def zQ (n len b : Nat) : Prop := n < 83 ∧ ∀ (k : Nat → ClassId) (a : Nat → Nat) (f : Nat → Int32) (h : Nat → Int64), zsh k a n f h = .inl (k 1, len, .inr (.inr (.inr (.inr (fun j => some (a (b + j)))))))
def zO (n ci : Nat) (fs : (Nat → Nat) → (Nat → Int32) → List Value) : Prop := n < 83 ∧ ∀ (k : Nat → ClassId) (a : Nat → Nat) (f : Nat → Int32) (h : Nat → Int64), zsh k a n f h = .inr (ci, fs a f)
/-- a boolean as the machine keeps it -/
def zbit (v : Int32) : Prop := v = 0 ∨ v = 1
theorem zbit.nar {v : Int32} (h : zbit v) : narrow .boolean (.int v) = .int v := by rcases h with h | h <;> subst h <;> rfl
theorem zbit.fits {v : Int32} (h : zbit v) : fits .boolean (.int v) = true := by rcases h with h | h <;> subst h <;> rfl
theorem zI_7 : zI 7 10 := ⟨by decide, fun _ _ _ _ => rfl⟩
theorem zI_8 : zI 8 10 := ⟨by decide, fun _ _ _ _ => rfl⟩
theorem zI_9 : zI 9 10 := ⟨by decide, fun _ _ _ _ => rfl⟩
theorem zI_10 : zI 10 10 := ⟨by decide, fun _ _ _ _ => rfl⟩
theorem zI_11 : zI 11 8 := ⟨by decide, fun _ _ _ _ => rfl⟩
theorem zI_12 : zI 12 8 := ⟨by decide, fun _ _ _ _ => rfl⟩
theorem zQ_13 : zQ 13 8 14 := ⟨by decide, fun _ _ _ _ => rfl⟩
theorem zI_14 : zI 14 10 := ⟨by decide, fun _ _ _ _ => rfl⟩
theorem zI_15 : zI 15 10 := ⟨by decide, fun _ _ _ _ => rfl⟩
theorem zI_16 : zI 16 10 := ⟨by decide, fun _ _ _ _ => rfl⟩
theorem zI_17 : zI 17 10 := ⟨by decide, fun _ _ _ _ => rfl⟩
theorem zI_18 : zI 18 10 := ⟨by decide, fun _ _ _ _ => rfl⟩
theorem zI_19 : zI 19 10 := ⟨by decide, fun _ _ _ _ => rfl⟩
theorem zI_20 : zI 20 10 := ⟨by decide, fun _ _ _ _ => rfl⟩
theorem zI_21 : zI 21 10 := ⟨by decide, fun _ _ _ _ => rfl⟩
theorem zI_22 : zI 22 8 := ⟨by decide, fun _ _ _ _ => rfl⟩
theorem zI_23 : zI 23 8 := ⟨by decide, fun _ _ _ _ => rfl⟩
theorem zI_24 : zI 24 10 := ⟨by decide, fun _ _ _ _ => rfl⟩
theorem zI_25 : zI 25 10 := ⟨by decide, fun _ _ _ _ => rfl⟩
theorem zI_26 : zI 26 18 := ⟨by decide, fun _ _ _ _ => rfl⟩
theorem zI_27 : zI 27 18 := ⟨by decide, fun _ _ _ _ => rfl⟩
theorem zI_28 : zI 28 18 := ⟨by decide, fun _ _ _ _ => rfl⟩
theorem zI_29 : zI 29 18 := ⟨by decide, fun _ _ _ _ => rfl⟩
theorem zI_30 : zI 30 18 := ⟨by decide, fun _ _ _ _ => rfl⟩
theorem zI_31 : zI 31 18 := ⟨by decide, fun _ _ _ _ => rfl⟩
theorem zI_32 : zI 32 18 := ⟨by decide, fun _ _ _ _ => rfl⟩
theorem zI_33 : zI 33 9 := ⟨by decide, fun _ _ _ _ => rfl⟩
theorem zI_34 : zI 34 9 := ⟨by decide, fun _ _ _ _ => rfl⟩
theorem zI_35 : zI 35 9 := ⟨by decide, fun _ _ _ _ => rfl⟩
theorem zZ_36 : zZ 36 9 := ⟨by decide, fun _ _ _ _ => rfl⟩
theorem zI_37 : zI 37 8 := ⟨by decide, fun _ _ _ _ => rfl⟩
theorem zI_38 : zI 38 9 := ⟨by decide, fun _ _ _ _ => rfl⟩
theorem zQ_39 : zQ 39 9 40 := ⟨by decide, fun _ _ _ _ => rfl⟩
theorem zI_40 : zI 40 9 := ⟨by decide, fun _ _ _ _ => rfl⟩
theorem zI_41 : zI 41 9 := ⟨by decide, fun _ _ _ _ => rfl⟩
theorem zI_42 : zI 42 9 := ⟨by decide, fun _ _ _ _ => rfl⟩
theorem zI_43 : zI 43 9 := ⟨by decide, fun _ _ _ _ => rfl⟩
theorem zI_44 : zI 44 9 := ⟨by decide, fun _ _ _ _ => rfl⟩
theorem zI_45 : zI 45 9 := ⟨by decide, fun _ _ _ _ => rfl⟩
theorem zI_46 : zI 46 9 := ⟨by decide, fun _ _ _ _ => rfl⟩
theorem zI_47 : zI 47 9 := ⟨by decide, fun _ _ _ _ => rfl⟩
theorem zI_48 : zI 48 9 := ⟨by decide, fun _ _ _ _ => rfl⟩
theorem zQ_49 : zQ 49 11 50 := ⟨by decide, fun _ _ _ _ => rfl⟩
theorem zI_50 : zI 50 301 := ⟨by decide, fun _ _ _ _ => rfl⟩
theorem zI_51 : zI 51 301 := ⟨by decide, fun _ _ _ _ => rfl⟩
theorem zI_52 : zI 52 301 := ⟨by decide, fun _ _ _ _ => rfl⟩
theorem zI_53 : zI 53 301 := ⟨by decide, fun _ _ _ _ => rfl⟩
theorem zI_54 : zI 54 301 := ⟨by decide, fun _ _ _ _ => rfl⟩
theorem zI_55 : zI 55 301 := ⟨by decide, fun _ _ _ _ => rfl⟩
theorem zI_56 : zI 56 301 := ⟨by decide, fun _ _ _ _ => rfl⟩
theorem zI_57 : zI 57 301 := ⟨by decide, fun _ _ _ _ => rfl⟩
theorem zI_58 : zI 58 301 := ⟨by decide, fun _ _ _ _ => rfl⟩
theorem zI_59 : zI 59 301 := ⟨by decide, fun _ _ _ _ => rfl⟩
theorem zI_60 : zI 60 301 := ⟨by decide, fun _ _ _ _ => rfl⟩
theorem zI_62 : zI 62 10 := ⟨by decide, fun _ _ _ _ => rfl⟩
theorem zI_63 : zI 63 10 := ⟨by decide, fun _ _ _ _ => rfl⟩
theorem zI_64 : zI 64 10 := ⟨by decide, fun _ _ _ _ => rfl⟩
theorem zI_65 : zI 65 8 := ⟨by decide, fun _ _ _ _ => rfl⟩
theorem zI_66 : zI 66 8 := ⟨by decide, fun _ _ _ _ => rfl⟩
theorem zI_67 : zI 67 80 := ⟨by decide, fun _ _ _ _ => rfl⟩
theorem zI_68 : zI 68 10 := ⟨by decide, fun _ _ _ _ => rfl⟩
theorem zJ_69 : zJ 69 8 := ⟨by decide, fun _ _ _ _ => rfl⟩
theorem zI_70 : zI 70 8 := ⟨by decide, fun _ _ _ _ => rfl⟩
theorem zI_71 : zI 71 8 := ⟨by decide, fun _ _ _ _ => rfl⟩
theorem zI_72 : zI 72 10 := ⟨by decide, fun _ _ _ _ => rfl⟩
theorem zI_73 : zI 73 10 := ⟨by decide, fun _ _ _ _ => rfl⟩
theorem zI_74 : zI 74 8 := ⟨by decide, fun _ _ _ _ => rfl⟩
theorem zI_75 : zI 75 60 := ⟨by decide, fun _ _ _ _ => rfl⟩
theorem zI_76 : zI 76 60 := ⟨by decide, fun _ _ _ _ => rfl⟩
theorem zJ_77 : zJ 77 60 := ⟨by decide, fun _ _ _ _ => rfl⟩
theorem zI_78 : zI 78 60 := ⟨by decide, fun _ _ _ _ => rfl⟩
theorem zJ_79 : zJ 79 9 := ⟨by decide, fun _ _ _ _ => rfl⟩
theorem zI_80 : zI 80 9 := ⟨by decide, fun _ _ _ _ => rfl⟩
theorem zJ_81 : zJ 81 3311 := ⟨by decide, fun _ _ _ _ => rfl⟩
theorem zJ_82 : zJ 82 1 := ⟨by decide, fun _ _ _ _ => rfl⟩
theorem zR_13 : ∀ {j : Nat}, j < 8 → zI (14 + j) 10
  | 0, _ => zI_14
  | 1, _ => zI_15
  | 2, _ => zI_16
  | 3, _ => zI_17
  | 4, _ => zI_18
  | 5, _ => zI_19
  | 6, _ => zI_20
  | 7, _ => zI_21
  | j + 8, h => absurd h (by omega)
theorem zRi_13 {i : Int32} (h : vp_in i 8) : zI (14 + i.toNatClampNeg) 10 := zR_13 (Nat.not_le.mp fun q => h (Or.inr q))
theorem zR_39 : ∀ {j : Nat}, j < 9 → zI (40 + j) 9
  | 0, _ => zI_40
  | 1, _ => zI_41
  | 2, _ => zI_42
  | 3, _ => zI_43
  | 4, _ => zI_44
  | 5, _ => zI_45
  | 6, _ => zI_46
  | 7, _ => zI_47
  | 8, _ => zI_48
  | j + 9, h => absurd h (by omega)
theorem zRi_39 {i : Int32} (h : vp_in i 9) : zI (40 + i.toNatClampNeg) 9 := zR_39 (Nat.not_le.mp fun q => h (Or.inr q))
theorem zR_49 : ∀ {j : Nat}, j < 11 → zI (50 + j) 301
  | 0, _ => zI_50
  | 1, _ => zI_51
  | 2, _ => zI_52
  | 3, _ => zI_53
  | 4, _ => zI_54
  | 5, _ => zI_55
  | 6, _ => zI_56
  | 7, _ => zI_57
  | 8, _ => zI_58
  | 9, _ => zI_59
  | 10, _ => zI_60
  | j + 11, h => absurd h (by omega)
theorem zRi_49 {i : Int32} (h : vp_in i 11) : zI (50 + i.toNatClampNeg) 301 := zR_49 (Nat.not_le.mp fun q => h (Or.inr q))
def zfs_0 (a : Nat → Nat) (f : Nat → Int32) : List Value := [.ref (a 2), .ref (a 1), .ref (a 3), .ref (a 4), .ref (a 5), .ref (a 6), .ref (a 7), .int (f 7)]
theorem zO_0 : zO 0 6 zfs_0 := ⟨by decide, fun _ _ _ _ => rfl⟩
def zfs_1 (a : Nat → Nat) (f : Nat → Int32) : List Value := [.int (f 0), .int (f 1), .ref (a 8), .ref (a 9), .ref (a 10), .ref (a 11), .ref (a 12), .ref (a 13)]
theorem zO_1 : zO 1 5 zfs_1 := ⟨by decide, fun _ _ _ _ => rfl⟩
def zfs_2 (a : Nat → Nat) (f : Nat → Int32) : List Value := [.ref (a 1), .ref (a 22), .ref (a 23), .ref (a 24), .ref (a 25)]
theorem zO_2 : zO 2 4 zfs_2 := ⟨by decide, fun _ _ _ _ => rfl⟩
def zfs_3 (a : Nat → Nat) (f : Nat → Int32) : List Value := [.int (f 0), .ref (a 26), .ref (a 27), .ref (a 28), .ref (a 29), .ref (a 30), .ref (a 31), .ref (a 32), .ref (a 33), .ref (a 34), .ref (a 35), .ref (a 36)]
theorem zO_3 : zO 3 1 zfs_3 := ⟨by decide, fun _ _ _ _ => rfl⟩
def zfs_4 (a : Nat → Nat) (f : Nat → Int32) : List Value := [.ref (a 37), .ref (a 38), .ref (a 39)]
theorem zO_4 : zO 4 2 zfs_4 := ⟨by decide, fun _ _ _ _ => rfl⟩
def zfs_5 (a : Nat → Nat) (f : Nat → Int32) : List Value := [.int (f 0), .int (f 1)]
theorem zO_5 : zO 5 3 zfs_5 := ⟨by decide, fun _ _ _ _ => rfl⟩
def zfs_6 (a : Nat → Nat) (f : Nat → Int32) : List Value := [.ref (a 49)]
theorem zO_6 : zO 6 0 zfs_6 := ⟨by decide, fun _ _ _ _ => rfl⟩
def zfs_61 (a : Nat → Nat) (f : Nat → Int32) : List Value := [.int (f 0), .int (f 1), .int (f 2), .ref (a 62), .ref (a 63), .ref (a 64), .ref (a 65), .ref (a 66), .ref (a 67), .int (f 9), .int (f 10), .ref (a 68), .ref (a 69), .int (f 13), .int (f 14), .ref (a 70), .ref (a 71), .ref (a 72), .ref (a 73), .ref (a 74), .int (f 20), .ref (a 75), .ref (a 76), .ref (a 77), .ref (a 78), .ref (a 79), .ref (a 80), .ref (a 81)]
theorem zO_61 : zO 61 7 zfs_61 := ⟨by decide, fun _ _ _ _ => rfl⟩
section ZROWS
variable {p : Program} {l : Launch} {e : Env} {R : Room} {s : State} {m : MethodId} {args : Array Value} {below : List Frame} {meth : Method} {c : Code} {H : Heap} {locs : List Loc} {cells slots : Nat} {Q : State → Prop}
variable {cc : ByteArray} {pc : Nat} {ls : Array Slot} {rest : List Value} {D : va_G} {k : Nat → ClassId} {a : Nat → Nat} {S : ZS} {A : Nat → Prop} {H0 : Heap}
theorem z_iald (hx : p.tables.exec = Jvm.exec) (hb : c.code = cc) (hK : zK D k s) (hP : va_P D vwCl (zWS k a S) H) {n len : Nat} (hI : zI n len) {i : Int32} (hin : vp_in i len) (hdg : decode cc pc = .ok (.iaload, 1)) (kk : W p l e R s m args below meth c H locs cells slots Q (F0 m (pc + 1) ls (.int (S.1 n i.toNatClampNeg) :: rest))) : W p l e R s m args below meth c H locs cells slots Q (F0 m pc ls (.int i :: .ref (a n) :: rest)) :=
  va_iald hx hb hK.1 hP n 0 (by rw [zWS_at hI.1, hI.2]) rfl hin hdg kk
theorem z_zald (hx : p.tables.exec = Jvm.exec) (hb : c.code = cc) (hK : zK D k s) (hP : va_P D vwCl (zWS k a S) H) {n len : Nat} (hI : zZ n len) {i : Int32} (hin : vp_in i len) (hdg : decode cc pc = .ok (.baload, 1)) (kk : W p l e R s m args below meth c H locs cells slots Q (F0 m (pc + 1) ls (.int (S.1 n i.toNatClampNeg) :: rest))) : W p l e R s m args below meth c H locs cells slots Q (F0 m pc ls (.int i :: .ref (a n) :: rest)) :=
  va_zald hx hb hK.1 hP n 2 (by rw [zWS_at hI.1, hI.2]) rfl hin hdg kk
theorem z_lald (hx : p.tables.exec = Jvm.exec) (hb : c.code = cc) (hK : zK D k s) (hP : va_P D vwCl (zWS k a S) H) {n len : Nat} (hI : zJ n len) {i : Int32} (hin : vp_in i len) (hdg : decode cc pc = .ok (.laload, 1)) (kk : W p l e R s m args below meth c H locs cells slots Q (F0 m (pc + 1) ls (.long (S.2 n i.toNatClampNeg) :: rest))) : W p l e R s m args below meth c H locs cells slots Q (F0 m pc ls (.int i :: .ref (a n) :: rest)) :=
  va_lald hx hb hK.1 hP n 3 (by rw [zWS_at hI.1, hI.2]) rfl hin hdg kk
theorem z_aald (hx : p.tables.exec = Jvm.exec) (hb : c.code = cc) (hK : zK D k s) (hP : va_P D vwCl (zWS k a S) H) {n len b : Nat} (hI : zQ n len b) {i : Int32} (hin : vp_in i len) (hdg : decode cc pc = .ok (.aaload, 1)) (kk : W p l e R s m args below meth c H locs cells slots Q (F0 m (pc + 1) ls (.ref (a (b + i.toNatClampNeg)) :: rest))) : W p l e R s m args below meth c H locs cells slots Q (F0 m pc ls (.int i :: .ref (a n) :: rest)) := by
  have hlt : i.toNatClampNeg < len := Nat.not_le.mp fun q => hin (Or.inr q)
  have hc := hP n _ (by rw [zWS_at hI.1, hI.2])
  exact W.aald (v := .ref (a (b + i.toNatClampNeg))) (ty := .array .int) hx hb hc ((hK.1.2 1 _ rfl).1 len (fun j => va_rf (some (a (b + j))))) rfl (fun q => by cases q) (by show ¬ (i < 0 ∨ (arrV _ _ _).slots.size ≤ _); rw [arrV_size]; exact hin) (by show (arrV _ _ _).slots[_]? = _; rw [arrV_read _ _ hlt]; rfl) rfl rfl hdg kk
theorem z_iast (hx : p.tables.exec = Jvm.exec) (hb : c.code = cc) (hj : zDj a) (hK : zK D k s) (hP : va_P D vwCl (zWS k a S) H) (hS : va_S (zA a H0.size) H0 H locs) {n len : Nat} (hI : zI n len) {i x : Int32} (hin : vp_in i len) (hdg : decode cc pc = .ok (.iastore, 1)) (kk : ∀ (H1 : Heap) (locs1 : List Loc), va_P D vwCl (zWS k a (zu S n i.toNatClampNeg x)) H1 → va_S (zA a H0.size) H0 H1 locs1 → W p l e R s m args below meth c H1 locs1 cells slots Q (F0 m (pc + 1) ls rest)) : W p l e R s m args below meth c H locs cells slots Q (F0 m pc ls (.int x :: .int i :: .ref (a n) :: rest)) := by
  refine va_iast hx hb hK.1 hP (zD_of hj) hS n 0 (by rw [zWS_at hI.1, hI.2]) rfl hin hdg (fun H1 locs1 h1 _ h3 => kk H1 locs1 ?_ h3)
  rw [← hI.2 k a _ (S.2 n), zWS_set hI.1] at h1
  exact h1
theorem z_last (hx : p.tables.exec = Jvm.exec) (hb : c.code = cc) (hj : zDj a) (hK : zK D k s) (hP : va_P D vwCl (zWS k a S) H) (hS : va_S (zA a H0.size) H0 H locs) {n len : Nat} (hI : zJ n len) {i : Int32} {x : Int64} (hin : vp_in i len) (hdg : decode cc pc = .ok (.lastore, 1)) (kk : ∀ (H1 : Heap) (locs1 : List Loc), va_P D vwCl (zWS k a (zw S n i.toNatClampNeg x)) H1 → va_S (zA a H0.size) H0 H1 locs1 → W p l e R s m args below meth c H1 locs1 cells slots Q (F0 m (pc + 1) ls rest)) : W p l e R s m args below meth c H locs cells slots Q (F0 m pc ls (.long x :: .int i :: .ref (a n) :: rest)) := by
  refine va_last hx hb hK.1 hP (zD_of hj) hS n 3 (by rw [zWS_at hI.1, hI.2]) rfl hin hdg (fun H1 locs1 h1 _ h3 => kk H1 locs1 ?_ h3)
  rw [← hI.2 k a (S.1 n), zWS_setL hI.1] at h1
  exact h1
theorem zg_6_shape (hx : p.tables.exec = Jvm.exec) (hb : c.code = cc) {own : String} {index : Nat} {Ts : List Cond} (hts : ∀ w ∈ Ts, w.before args s = true) (hin : ∀ w ∈ wsX60, w ∈ Ts) (hown : s.vm.findClass own = some m.cls) (hK : zK D k s) (hP : va_P D vwCl (zWS k a S) H) (hlink : (Cond.fieldLink own index "FlowParts" "shape" "LFlowParts$Shape;").before args s = true) (hdg : decode cc pc = .ok (.getfield index, 3)) (kk : W p l e R s m args below meth c H locs cells slots Q (F0 m (pc + 3) ls (.ref (a 2) :: rest))) : W p l e R s m args below meth c H locs cells slots Q (F0 m pc ls (.ref (a 0) :: rest)) :=
  va_get (C := RX6) (T := TX6) (N := 8) (ci := 6) hx hb hts hin hown hK.1 hP 0 (fs := zfs_0 a (S.1 0)) (by rw [zWS_at zO_0.1, zO_0.2]) rfl 0 (by decide) hlink (fun _ h => h) rfl hdg kk
theorem zg_6_whole (hx : p.tables.exec = Jvm.exec) (hb : c.code = cc) {own : String} {index : Nat} {Ts : List Cond} (hts : ∀ w ∈ Ts, w.before args s = true) (hin : ∀ w ∈ wsX60, w ∈ Ts) (hown : s.vm.findClass own = some m.cls) (hK : zK D k s) (hP : va_P D vwCl (zWS k a S) H) (hlink : (Cond.fieldLink own index "FlowParts" "whole" "LFlowParts$Whole;").before args s = true) (hdg : decode cc pc = .ok (.getfield index, 3)) (kk : W p l e R s m args below meth c H locs cells slots Q (F0 m (pc + 3) ls (.ref (a 1) :: rest))) : W p l e R s m args below meth c H locs cells slots Q (F0 m pc ls (.ref (a 0) :: rest)) :=
  va_get (C := RX6) (T := TX6) (N := 8) (ci := 6) hx hb hts hin hown hK.1 hP 0 (fs := zfs_0 a (S.1 0)) (by rw [zWS_at zO_0.1, zO_0.2]) rfl 1 (by decide) hlink (fun _ h => h) rfl hdg kk
theorem zg_6_network (hx : p.tables.exec = Jvm.exec) (hb : c.code = cc) {own : String} {index : Nat} {Ts : List Cond} (hts : ∀ w ∈ Ts, w.before args s = true) (hin : ∀ w ∈ wsX60, w ∈ Ts) (hown : s.vm.findClass own = some m.cls) (hK : zK D k s) (hP : va_P D vwCl (zWS k a S) H) (hlink : (Cond.fieldLink own index "FlowParts" "network" "LFlowParts$Network;").before args s = true) (hdg : decode cc pc = .ok (.getfield index, 3)) (kk : W p l e R s m args below meth c H locs cells slots Q (F0 m (pc + 3) ls (.ref (a 3) :: rest))) : W p l e R s m args below meth c H locs cells slots Q (F0 m pc ls (.ref (a 0) :: rest)) :=
  va_get (C := RX6) (T := TX6) (N := 8) (ci := 6) hx hb hts hin hown hK.1 hP 0 (fs := zfs_0 a (S.1 0)) (by rw [zWS_at zO_0.1, zO_0.2]) rfl 2 (by decide) hlink (fun _ h => h) rfl hdg kk
theorem zg_6_prices (hx : p.tables.exec = Jvm.exec) (hb : c.code = cc) {own : String} {index : Nat} {Ts : List Cond} (hts : ∀ w ∈ Ts, w.before args s = true) (hin : ∀ w ∈ wsX60, w ∈ Ts) (hown : s.vm.findClass own = some m.cls) (hK : zK D k s) (hP : va_P D vwCl (zWS k a S) H) (hlink : (Cond.fieldLink own index "FlowParts" "prices" "LFlowParts$Prices;").before args s = true) (hdg : decode cc pc = .ok (.getfield index, 3)) (kk : W p l e R s m args below meth c H locs cells slots Q (F0 m (pc + 3) ls (.ref (a 4) :: rest))) : W p l e R s m args below meth c H locs cells slots Q (F0 m pc ls (.ref (a 0) :: rest)) :=
  va_get (C := RX6) (T := TX6) (N := 8) (ci := 6) hx hb hts hin hown hK.1 hP 0 (fs := zfs_0 a (S.1 0)) (by rw [zWS_at zO_0.1, zO_0.2]) rfl 3 (by decide) hlink (fun _ h => h) rfl hdg kk
theorem zg_6_noPoint (hx : p.tables.exec = Jvm.exec) (hb : c.code = cc) {own : String} {index : Nat} {Ts : List Cond} (hts : ∀ w ∈ Ts, w.before args s = true) (hin : ∀ w ∈ wsX60, w ∈ Ts) (hown : s.vm.findClass own = some m.cls) (hK : zK D k s) (hP : va_P D vwCl (zWS k a S) H) (hlink : (Cond.fieldLink own index "FlowParts" "noPoint" "LFlowParts$Proof;").before args s = true) (hdg : decode cc pc = .ok (.getfield index, 3)) (kk : W p l e R s m args below meth c H locs cells slots Q (F0 m (pc + 3) ls (.ref (a 5) :: rest))) : W p l e R s m args below meth c H locs cells slots Q (F0 m pc ls (.ref (a 0) :: rest)) :=
  va_get (C := RX6) (T := TX6) (N := 8) (ci := 6) hx hb hts hin hown hK.1 hP 0 (fs := zfs_0 a (S.1 0)) (by rw [zWS_at zO_0.1, zO_0.2]) rfl 4 (by decide) hlink (fun _ h => h) rfl hdg kk
theorem zg_6_sack (hx : p.tables.exec = Jvm.exec) (hb : c.code = cc) {own : String} {index : Nat} {Ts : List Cond} (hts : ∀ w ∈ Ts, w.before args s = true) (hin : ∀ w ∈ wsX60, w ∈ Ts) (hown : s.vm.findClass own = some m.cls) (hK : zK D k s) (hP : va_P D vwCl (zWS k a S) H) (hlink : (Cond.fieldLink own index "FlowParts" "sack" "LFlowParts$Knapsack;").before args s = true) (hdg : decode cc pc = .ok (.getfield index, 3)) (kk : W p l e R s m args below meth c H locs cells slots Q (F0 m (pc + 3) ls (.ref (a 6) :: rest))) : W p l e R s m args below meth c H locs cells slots Q (F0 m pc ls (.ref (a 0) :: rest)) :=
  va_get (C := RX6) (T := TX6) (N := 8) (ci := 6) hx hb hts hin hown hK.1 hP 0 (fs := zfs_0 a (S.1 0)) (by rw [zWS_at zO_0.1, zO_0.2]) rfl 5 (by decide) hlink (fun _ h => h) rfl hdg kk
theorem zg_6_best (hx : p.tables.exec = Jvm.exec) (hb : c.code = cc) {own : String} {index : Nat} {Ts : List Cond} (hts : ∀ w ∈ Ts, w.before args s = true) (hin : ∀ w ∈ wsX60, w ∈ Ts) (hown : s.vm.findClass own = some m.cls) (hK : zK D k s) (hP : va_P D vwCl (zWS k a S) H) (hlink : (Cond.fieldLink own index "FlowParts" "best" "[I").before args s = true) (hdg : decode cc pc = .ok (.getfield index, 3)) (kk : W p l e R s m args below meth c H locs cells slots Q (F0 m (pc + 3) ls (.ref (a 7) :: rest))) : W p l e R s m args below meth c H locs cells slots Q (F0 m pc ls (.ref (a 0) :: rest)) :=
  va_get (C := RX6) (T := TX6) (N := 8) (ci := 6) hx hb hts hin hown hK.1 hP 0 (fs := zfs_0 a (S.1 0)) (by rw [zWS_at zO_0.1, zO_0.2]) rfl 6 (by decide) hlink (fun _ h => h) rfl hdg kk
theorem zg_6_solved (hx : p.tables.exec = Jvm.exec) (hb : c.code = cc) {own : String} {index : Nat} {Ts : List Cond} (hts : ∀ w ∈ Ts, w.before args s = true) (hin : ∀ w ∈ wsX60, w ∈ Ts) (hown : s.vm.findClass own = some m.cls) (hK : zK D k s) (hP : va_P D vwCl (zWS k a S) H) (hlink : (Cond.fieldLink own index "FlowParts" "solved" "I").before args s = true) (hdg : decode cc pc = .ok (.getfield index, 3)) (kk : W p l e R s m args below meth c H locs cells slots Q (F0 m (pc + 3) ls (.int (S.1 0 7) :: rest))) : W p l e R s m args below meth c H locs cells slots Q (F0 m pc ls (.ref (a 0) :: rest)) :=
  va_get (C := RX6) (T := TX6) (N := 8) (ci := 6) hx hb hts hin hown hK.1 hP 0 (fs := zfs_0 a (S.1 0)) (by rw [zWS_at zO_0.1, zO_0.2]) rfl 7 (by decide) hlink (fun _ h => h) rfl hdg kk
theorem zp_6_solved (hx : p.tables.exec = Jvm.exec) (hb : c.code = cc) {own : String} {index : Nat} {Ts : List Cond} (hts : ∀ w ∈ Ts, w.before args s = true) (hin : ∀ w ∈ wsX60, w ∈ Ts) (hown : s.vm.findClass own = some m.cls) (hj : zDj a) (hK : zK D k s) (hP : va_P D vwCl (zWS k a S) H) (hS : va_S (zA a H0.size) H0 H locs) {v : Int32} (hlink : (Cond.fieldLink own index "FlowParts" "solved" "I").before args s = true) (hdg : decode cc pc = .ok (.putfield index, 3)) (kk : ∀ (H1 : Heap) (locs1 : List Loc), va_P D vwCl (zWS k a (zu S 0 7 v)) H1 → va_S (zA a H0.size) H0 H1 locs1 → W p l e R s m args below meth c H1 locs1 cells slots Q (F0 m (pc + 3) ls rest)) : W p l e R s m args below meth c H locs cells slots Q (F0 m pc ls (.int v :: .ref (a 0) :: rest)) := by
  refine va_put (C := RX6) (T := TX6) (N := 8) (ci := 6) (ty := .int) hx hb hts hin tyX6 tyX6_ok nmX6 hown hK.1 hP (zD_of hj) hS 0 (fs := zfs_0 a (S.1 0)) (by rw [zWS_at zO_0.1, zO_0.2]) rfl 7 (by decide) hlink (fun _ h => h) rfl (by decide +kernel) rfl rfl (by show 7 < 8; decide) hdg (fun H1 locs1 h1 _ h3 => kk H1 locs1 ?_ h3)
  have e1 : (zfs_0 a (S.1 0)).set 7 (.int v) = zfs_0 a (upd (S.1 0) 7 v) := rfl
  rw [e1, ← zO_0.2 k a _ (S.2 0), zWS_set zO_0.1] at h1
  exact h1
theorem zg_5_columns (hx : p.tables.exec = Jvm.exec) (hb : c.code = cc) {own : String} {index : Nat} {Ts : List Cond} (hts : ∀ w ∈ Ts, w.before args s = true) (hin : ∀ w ∈ wsX50, w ∈ Ts) (hown : s.vm.findClass own = some m.cls) (hK : zK D k s) (hP : va_P D vwCl (zWS k a S) H) (hlink : (Cond.fieldLink own index "FlowParts$Whole" "columns" "I").before args s = true) (hdg : decode cc pc = .ok (.getfield index, 3)) (kk : W p l e R s m args below meth c H locs cells slots Q (F0 m (pc + 3) ls (.int (S.1 1 0) :: rest))) : W p l e R s m args below meth c H locs cells slots Q (F0 m pc ls (.ref (a 1) :: rest)) :=
  va_get (C := RX5) (T := TX5) (N := 8) (ci := 5) hx hb hts hin hown hK.1 hP 1 (fs := zfs_1 a (S.1 1)) (by rw [zWS_at zO_1.1, zO_1.2]) rfl 0 (by decide) hlink (fun _ h => h) rfl hdg kk
theorem zp_5_columns (hx : p.tables.exec = Jvm.exec) (hb : c.code = cc) {own : String} {index : Nat} {Ts : List Cond} (hts : ∀ w ∈ Ts, w.before args s = true) (hin : ∀ w ∈ wsX50, w ∈ Ts) (hown : s.vm.findClass own = some m.cls) (hj : zDj a) (hK : zK D k s) (hP : va_P D vwCl (zWS k a S) H) (hS : va_S (zA a H0.size) H0 H locs) {v : Int32} (hlink : (Cond.fieldLink own index "FlowParts$Whole" "columns" "I").before args s = true) (hdg : decode cc pc = .ok (.putfield index, 3)) (kk : ∀ (H1 : Heap) (locs1 : List Loc), va_P D vwCl (zWS k a (zu S 1 0 v)) H1 → va_S (zA a H0.size) H0 H1 locs1 → W p l e R s m args below meth c H1 locs1 cells slots Q (F0 m (pc + 3) ls rest)) : W p l e R s m args below meth c H locs cells slots Q (F0 m pc ls (.int v :: .ref (a 1) :: rest)) := by
  refine va_put (C := RX5) (T := TX5) (N := 8) (ci := 5) (ty := .int) hx hb hts hin tyX5 tyX5_ok nmX5 hown hK.1 hP (zD_of hj) hS 1 (fs := zfs_1 a (S.1 1)) (by rw [zWS_at zO_1.1, zO_1.2]) rfl 0 (by decide) hlink (fun _ h => h) rfl (by decide +kernel) rfl rfl (by show 0 < 8; decide) hdg (fun H1 locs1 h1 _ h3 => kk H1 locs1 ?_ h3)
  have e1 : (zfs_1 a (S.1 1)).set 0 (.int v) = zfs_1 a (upd (S.1 1) 0 v) := rfl
  rw [e1, ← zO_1.2 k a _ (S.2 1), zWS_set zO_1.1] at h1
  exact h1
theorem zg_5_rows (hx : p.tables.exec = Jvm.exec) (hb : c.code = cc) {own : String} {index : Nat} {Ts : List Cond} (hts : ∀ w ∈ Ts, w.before args s = true) (hin : ∀ w ∈ wsX50, w ∈ Ts) (hown : s.vm.findClass own = some m.cls) (hK : zK D k s) (hP : va_P D vwCl (zWS k a S) H) (hlink : (Cond.fieldLink own index "FlowParts$Whole" "rows" "I").before args s = true) (hdg : decode cc pc = .ok (.getfield index, 3)) (kk : W p l e R s m args below meth c H locs cells slots Q (F0 m (pc + 3) ls (.int (S.1 1 1) :: rest))) : W p l e R s m args below meth c H locs cells slots Q (F0 m pc ls (.ref (a 1) :: rest)) :=
  va_get (C := RX5) (T := TX5) (N := 8) (ci := 5) hx hb hts hin hown hK.1 hP 1 (fs := zfs_1 a (S.1 1)) (by rw [zWS_at zO_1.1, zO_1.2]) rfl 1 (by decide) hlink (fun _ h => h) rfl hdg kk
theorem zp_5_rows (hx : p.tables.exec = Jvm.exec) (hb : c.code = cc) {own : String} {index : Nat} {Ts : List Cond} (hts : ∀ w ∈ Ts, w.before args s = true) (hin : ∀ w ∈ wsX50, w ∈ Ts) (hown : s.vm.findClass own = some m.cls) (hj : zDj a) (hK : zK D k s) (hP : va_P D vwCl (zWS k a S) H) (hS : va_S (zA a H0.size) H0 H locs) {v : Int32} (hlink : (Cond.fieldLink own index "FlowParts$Whole" "rows" "I").before args s = true) (hdg : decode cc pc = .ok (.putfield index, 3)) (kk : ∀ (H1 : Heap) (locs1 : List Loc), va_P D vwCl (zWS k a (zu S 1 1 v)) H1 → va_S (zA a H0.size) H0 H1 locs1 → W p l e R s m args below meth c H1 locs1 cells slots Q (F0 m (pc + 3) ls rest)) : W p l e R s m args below meth c H locs cells slots Q (F0 m pc ls (.int v :: .ref (a 1) :: rest)) := by
  refine va_put (C := RX5) (T := TX5) (N := 8) (ci := 5) (ty := .int) hx hb hts hin tyX5 tyX5_ok nmX5 hown hK.1 hP (zD_of hj) hS 1 (fs := zfs_1 a (S.1 1)) (by rw [zWS_at zO_1.1, zO_1.2]) rfl 1 (by decide) hlink (fun _ h => h) rfl (by decide +kernel) rfl rfl (by show 1 < 8; decide) hdg (fun H1 locs1 h1 _ h3 => kk H1 locs1 ?_ h3)
  have e1 : (zfs_1 a (S.1 1)).set 1 (.int v) = zfs_1 a (upd (S.1 1) 1 v) := rfl
  rw [e1, ← zO_1.2 k a _ (S.2 1), zWS_set zO_1.1] at h1
  exact h1
theorem zg_5_low (hx : p.tables.exec = Jvm.exec) (hb : c.code = cc) {own : String} {index : Nat} {Ts : List Cond} (hts : ∀ w ∈ Ts, w.before args s = true) (hin : ∀ w ∈ wsX50, w ∈ Ts) (hown : s.vm.findClass own = some m.cls) (hK : zK D k s) (hP : va_P D vwCl (zWS k a S) H) (hlink : (Cond.fieldLink own index "FlowParts$Whole" "low" "[I").before args s = true) (hdg : decode cc pc = .ok (.getfield index, 3)) (kk : W p l e R s m args below meth c H locs cells slots Q (F0 m (pc + 3) ls (.ref (a 8) :: rest))) : W p l e R s m args below meth c H locs cells slots Q (F0 m pc ls (.ref (a 1) :: rest)) :=
  va_get (C := RX5) (T := TX5) (N := 8) (ci := 5) hx hb hts hin hown hK.1 hP 1 (fs := zfs_1 a (S.1 1)) (by rw [zWS_at zO_1.1, zO_1.2]) rfl 2 (by decide) hlink (fun _ h => h) rfl hdg kk
theorem zg_5_high (hx : p.tables.exec = Jvm.exec) (hb : c.code = cc) {own : String} {index : Nat} {Ts : List Cond} (hts : ∀ w ∈ Ts, w.before args s = true) (hin : ∀ w ∈ wsX50, w ∈ Ts) (hown : s.vm.findClass own = some m.cls) (hK : zK D k s) (hP : va_P D vwCl (zWS k a S) H) (hlink : (Cond.fieldLink own index "FlowParts$Whole" "high" "[I").before args s = true) (hdg : decode cc pc = .ok (.getfield index, 3)) (kk : W p l e R s m args below meth c H locs cells slots Q (F0 m (pc + 3) ls (.ref (a 9) :: rest))) : W p l e R s m args below meth c H locs cells slots Q (F0 m pc ls (.ref (a 1) :: rest)) :=
  va_get (C := RX5) (T := TX5) (N := 8) (ci := 5) hx hb hts hin hown hK.1 hP 1 (fs := zfs_1 a (S.1 1)) (by rw [zWS_at zO_1.1, zO_1.2]) rfl 3 (by decide) hlink (fun _ h => h) rfl hdg kk
theorem zg_5_cost (hx : p.tables.exec = Jvm.exec) (hb : c.code = cc) {own : String} {index : Nat} {Ts : List Cond} (hts : ∀ w ∈ Ts, w.before args s = true) (hin : ∀ w ∈ wsX50, w ∈ Ts) (hown : s.vm.findClass own = some m.cls) (hK : zK D k s) (hP : va_P D vwCl (zWS k a S) H) (hlink : (Cond.fieldLink own index "FlowParts$Whole" "cost" "[I").before args s = true) (hdg : decode cc pc = .ok (.getfield index, 3)) (kk : W p l e R s m args below meth c H locs cells slots Q (F0 m (pc + 3) ls (.ref (a 10) :: rest))) : W p l e R s m args below meth c H locs cells slots Q (F0 m pc ls (.ref (a 1) :: rest)) :=
  va_get (C := RX5) (T := TX5) (N := 8) (ci := 5) hx hb hts hin hown hK.1 hP 1 (fs := zfs_1 a (S.1 1)) (by rw [zWS_at zO_1.1, zO_1.2]) rfl 4 (by decide) hlink (fun _ h => h) rfl hdg kk
theorem zg_5_kind (hx : p.tables.exec = Jvm.exec) (hb : c.code = cc) {own : String} {index : Nat} {Ts : List Cond} (hts : ∀ w ∈ Ts, w.before args s = true) (hin : ∀ w ∈ wsX50, w ∈ Ts) (hown : s.vm.findClass own = some m.cls) (hK : zK D k s) (hP : va_P D vwCl (zWS k a S) H) (hlink : (Cond.fieldLink own index "FlowParts$Whole" "kind" "[I").before args s = true) (hdg : decode cc pc = .ok (.getfield index, 3)) (kk : W p l e R s m args below meth c H locs cells slots Q (F0 m (pc + 3) ls (.ref (a 11) :: rest))) : W p l e R s m args below meth c H locs cells slots Q (F0 m pc ls (.ref (a 1) :: rest)) :=
  va_get (C := RX5) (T := TX5) (N := 8) (ci := 5) hx hb hts hin hown hK.1 hP 1 (fs := zfs_1 a (S.1 1)) (by rw [zWS_at zO_1.1, zO_1.2]) rfl 5 (by decide) hlink (fun _ h => h) rfl hdg kk
theorem zg_5_right (hx : p.tables.exec = Jvm.exec) (hb : c.code = cc) {own : String} {index : Nat} {Ts : List Cond} (hts : ∀ w ∈ Ts, w.before args s = true) (hin : ∀ w ∈ wsX50, w ∈ Ts) (hown : s.vm.findClass own = some m.cls) (hK : zK D k s) (hP : va_P D vwCl (zWS k a S) H) (hlink : (Cond.fieldLink own index "FlowParts$Whole" "right" "[I").before args s = true) (hdg : decode cc pc = .ok (.getfield index, 3)) (kk : W p l e R s m args below meth c H locs cells slots Q (F0 m (pc + 3) ls (.ref (a 12) :: rest))) : W p l e R s m args below meth c H locs cells slots Q (F0 m pc ls (.ref (a 1) :: rest)) :=
  va_get (C := RX5) (T := TX5) (N := 8) (ci := 5) hx hb hts hin hown hK.1 hP 1 (fs := zfs_1 a (S.1 1)) (by rw [zWS_at zO_1.1, zO_1.2]) rfl 6 (by decide) hlink (fun _ h => h) rfl hdg kk
theorem zg_5_a (hx : p.tables.exec = Jvm.exec) (hb : c.code = cc) {own : String} {index : Nat} {Ts : List Cond} (hts : ∀ w ∈ Ts, w.before args s = true) (hin : ∀ w ∈ wsX50, w ∈ Ts) (hown : s.vm.findClass own = some m.cls) (hK : zK D k s) (hP : va_P D vwCl (zWS k a S) H) (hlink : (Cond.fieldLink own index "FlowParts$Whole" "a" "[[I").before args s = true) (hdg : decode cc pc = .ok (.getfield index, 3)) (kk : W p l e R s m args below meth c H locs cells slots Q (F0 m (pc + 3) ls (.ref (a 13) :: rest))) : W p l e R s m args below meth c H locs cells slots Q (F0 m pc ls (.ref (a 1) :: rest)) :=
  va_get (C := RX5) (T := TX5) (N := 8) (ci := 5) hx hb hts hin hown hK.1 hP 1 (fs := zfs_1 a (S.1 1)) (by rw [zWS_at zO_1.1, zO_1.2]) rfl 7 (by decide) hlink (fun _ h => h) rfl hdg kk
theorem zg_4_whole (hx : p.tables.exec = Jvm.exec) (hb : c.code = cc) {own : String} {index : Nat} {Ts : List Cond} (hts : ∀ w ∈ Ts, w.before args s = true) (hin : ∀ w ∈ wsX40, w ∈ Ts) (hown : s.vm.findClass own = some m.cls) (hK : zK D k s) (hP : va_P D vwCl (zWS k a S) H) (hlink : (Cond.fieldLink own index "FlowParts$Shape" "whole" "LFlowParts$Whole;").before args s = true) (hdg : decode cc pc = .ok (.getfield index, 3)) (kk : W p l e R s m args below meth c H locs cells slots Q (F0 m (pc + 3) ls (.ref (a 1) :: rest))) : W p l e R s m args below meth c H locs cells slots Q (F0 m pc ls (.ref (a 2) :: rest)) :=
  va_get (C := RX4) (T := TX4) (N := 5) (ci := 4) hx hb hts hin hown hK.1 hP 2 (fs := zfs_2 a (S.1 2)) (by rw [zWS_at zO_2.1, zO_2.2]) rfl 0 (by decide) hlink (fun _ h => h) rfl hdg kk
theorem zg_4_leastRow (hx : p.tables.exec = Jvm.exec) (hb : c.code = cc) {own : String} {index : Nat} {Ts : List Cond} (hts : ∀ w ∈ Ts, w.before args s = true) (hin : ∀ w ∈ wsX40, w ∈ Ts) (hown : s.vm.findClass own = some m.cls) (hK : zK D k s) (hP : va_P D vwCl (zWS k a S) H) (hlink : (Cond.fieldLink own index "FlowParts$Shape" "leastRow" "[I").before args s = true) (hdg : decode cc pc = .ok (.getfield index, 3)) (kk : W p l e R s m args below meth c H locs cells slots Q (F0 m (pc + 3) ls (.ref (a 22) :: rest))) : W p l e R s m args below meth c H locs cells slots Q (F0 m pc ls (.ref (a 2) :: rest)) :=
  va_get (C := RX4) (T := TX4) (N := 5) (ci := 4) hx hb hts hin hown hK.1 hP 2 (fs := zfs_2 a (S.1 2)) (by rw [zWS_at zO_2.1, zO_2.2]) rfl 1 (by decide) hlink (fun _ h => h) rfl hdg kk
theorem zg_4_signs (hx : p.tables.exec = Jvm.exec) (hb : c.code = cc) {own : String} {index : Nat} {Ts : List Cond} (hts : ∀ w ∈ Ts, w.before args s = true) (hin : ∀ w ∈ wsX40, w ∈ Ts) (hown : s.vm.findClass own = some m.cls) (hK : zK D k s) (hP : va_P D vwCl (zWS k a S) H) (hlink : (Cond.fieldLink own index "FlowParts$Shape" "signs" "[I").before args s = true) (hdg : decode cc pc = .ok (.getfield index, 3)) (kk : W p l e R s m args below meth c H locs cells slots Q (F0 m (pc + 3) ls (.ref (a 23) :: rest))) : W p l e R s m args below meth c H locs cells slots Q (F0 m pc ls (.ref (a 2) :: rest)) :=
  va_get (C := RX4) (T := TX4) (N := 5) (ci := 4) hx hb hts hin hown hK.1 hP 2 (fs := zfs_2 a (S.1 2)) (by rw [zWS_at zO_2.1, zO_2.2]) rfl 2 (by decide) hlink (fun _ h => h) rfl hdg kk
theorem zg_4_rowsAbove (hx : p.tables.exec = Jvm.exec) (hb : c.code = cc) {own : String} {index : Nat} {Ts : List Cond} (hts : ∀ w ∈ Ts, w.before args s = true) (hin : ∀ w ∈ wsX40, w ∈ Ts) (hown : s.vm.findClass own = some m.cls) (hK : zK D k s) (hP : va_P D vwCl (zWS k a S) H) (hlink : (Cond.fieldLink own index "FlowParts$Shape" "rowsAbove" "[I").before args s = true) (hdg : decode cc pc = .ok (.getfield index, 3)) (kk : W p l e R s m args below meth c H locs cells slots Q (F0 m (pc + 3) ls (.ref (a 24) :: rest))) : W p l e R s m args below meth c H locs cells slots Q (F0 m pc ls (.ref (a 2) :: rest)) :=
  va_get (C := RX4) (T := TX4) (N := 5) (ci := 4) hx hb hts hin hown hK.1 hP 2 (fs := zfs_2 a (S.1 2)) (by rw [zWS_at zO_2.1, zO_2.2]) rfl 3 (by decide) hlink (fun _ h => h) rfl hdg kk
theorem zg_4_rowsBelow (hx : p.tables.exec = Jvm.exec) (hb : c.code = cc) {own : String} {index : Nat} {Ts : List Cond} (hts : ∀ w ∈ Ts, w.before args s = true) (hin : ∀ w ∈ wsX40, w ∈ Ts) (hown : s.vm.findClass own = some m.cls) (hK : zK D k s) (hP : va_P D vwCl (zWS k a S) H) (hlink : (Cond.fieldLink own index "FlowParts$Shape" "rowsBelow" "[I").before args s = true) (hdg : decode cc pc = .ok (.getfield index, 3)) (kk : W p l e R s m args below meth c H locs cells slots Q (F0 m (pc + 3) ls (.ref (a 25) :: rest))) : W p l e R s m args below meth c H locs cells slots Q (F0 m pc ls (.ref (a 2) :: rest)) :=
  va_get (C := RX4) (T := TX4) (N := 5) (ci := 4) hx hb hts hin hown hK.1 hP 2 (fs := zfs_2 a (S.1 2)) (by rw [zWS_at zO_2.1, zO_2.2]) rfl 4 (by decide) hlink (fun _ h => h) rfl hdg kk
theorem zg_1_arcs (hx : p.tables.exec = Jvm.exec) (hb : c.code = cc) {own : String} {index : Nat} {Ts : List Cond} (hts : ∀ w ∈ Ts, w.before args s = true) (hin : ∀ w ∈ wsX10, w ∈ Ts) (hown : s.vm.findClass own = some m.cls) (hK : zK D k s) (hP : va_P D vwCl (zWS k a S) H) (hlink : (Cond.fieldLink own index "FlowParts$Network" "arcs" "I").before args s = true) (hdg : decode cc pc = .ok (.getfield index, 3)) (kk : W p l e R s m args below meth c H locs cells slots Q (F0 m (pc + 3) ls (.int (S.1 3 0) :: rest))) : W p l e R s m args below meth c H locs cells slots Q (F0 m pc ls (.ref (a 3) :: rest)) :=
  va_get (C := RX1) (T := TX1) (N := 12) (ci := 1) hx hb hts hin hown hK.1 hP 3 (fs := zfs_3 a (S.1 3)) (by rw [zWS_at zO_3.1, zO_3.2]) rfl 0 (by decide) hlink (fun _ h => h) rfl hdg kk
theorem zp_1_arcs (hx : p.tables.exec = Jvm.exec) (hb : c.code = cc) {own : String} {index : Nat} {Ts : List Cond} (hts : ∀ w ∈ Ts, w.before args s = true) (hin : ∀ w ∈ wsX10, w ∈ Ts) (hown : s.vm.findClass own = some m.cls) (hj : zDj a) (hK : zK D k s) (hP : va_P D vwCl (zWS k a S) H) (hS : va_S (zA a H0.size) H0 H locs) {v : Int32} (hlink : (Cond.fieldLink own index "FlowParts$Network" "arcs" "I").before args s = true) (hdg : decode cc pc = .ok (.putfield index, 3)) (kk : ∀ (H1 : Heap) (locs1 : List Loc), va_P D vwCl (zWS k a (zu S 3 0 v)) H1 → va_S (zA a H0.size) H0 H1 locs1 → W p l e R s m args below meth c H1 locs1 cells slots Q (F0 m (pc + 3) ls rest)) : W p l e R s m args below meth c H locs cells slots Q (F0 m pc ls (.int v :: .ref (a 3) :: rest)) := by
  refine va_put (C := RX1) (T := TX1) (N := 12) (ci := 1) (ty := .int) hx hb hts hin tyX1 tyX1_ok nmX1 hown hK.1 hP (zD_of hj) hS 3 (fs := zfs_3 a (S.1 3)) (by rw [zWS_at zO_3.1, zO_3.2]) rfl 0 (by decide) hlink (fun _ h => h) rfl (by decide +kernel) rfl rfl (by show 0 < 12; decide) hdg (fun H1 locs1 h1 _ h3 => kk H1 locs1 ?_ h3)
  have e1 : (zfs_3 a (S.1 3)).set 0 (.int v) = zfs_3 a (upd (S.1 3) 0 v) := rfl
  rw [e1, ← zO_3.2 k a _ (S.2 3), zWS_set zO_3.1] at h1
  exact h1
theorem zg_1_upper (hx : p.tables.exec = Jvm.exec) (hb : c.code = cc) {own : String} {index : Nat} {Ts : List Cond} (hts : ∀ w ∈ Ts, w.before args s = true) (hin : ∀ w ∈ wsX10, w ∈ Ts) (hown : s.vm.findClass own = some m.cls) (hK : zK D k s) (hP : va_P D vwCl (zWS k a S) H) (hlink : (Cond.fieldLink own index "FlowParts$Network" "upper" "[I").before args s = true) (hdg : decode cc pc = .ok (.getfield index, 3)) (kk : W p l e R s m args below meth c H locs cells slots Q (F0 m (pc + 3) ls (.ref (a 26) :: rest))) : W p l e R s m args below meth c H locs cells slots Q (F0 m pc ls (.ref (a 3) :: rest)) :=
  va_get (C := RX1) (T := TX1) (N := 12) (ci := 1) hx hb hts hin hown hK.1 hP 3 (fs := zfs_3 a (S.1 3)) (by rw [zWS_at zO_3.1, zO_3.2]) rfl 1 (by decide) hlink (fun _ h => h) rfl hdg kk
theorem zg_1_lower (hx : p.tables.exec = Jvm.exec) (hb : c.code = cc) {own : String} {index : Nat} {Ts : List Cond} (hts : ∀ w ∈ Ts, w.before args s = true) (hin : ∀ w ∈ wsX10, w ∈ Ts) (hown : s.vm.findClass own = some m.cls) (hK : zK D k s) (hP : va_P D vwCl (zWS k a S) H) (hlink : (Cond.fieldLink own index "FlowParts$Network" "lower" "[I").before args s = true) (hdg : decode cc pc = .ok (.getfield index, 3)) (kk : W p l e R s m args below meth c H locs cells slots Q (F0 m (pc + 3) ls (.ref (a 27) :: rest))) : W p l e R s m args below meth c H locs cells slots Q (F0 m pc ls (.ref (a 3) :: rest)) :=
  va_get (C := RX1) (T := TX1) (N := 12) (ci := 1) hx hb hts hin hown hK.1 hP 3 (fs := zfs_3 a (S.1 3)) (by rw [zWS_at zO_3.1, zO_3.2]) rfl 2 (by decide) hlink (fun _ h => h) rfl hdg kk
theorem zg_1_low (hx : p.tables.exec = Jvm.exec) (hb : c.code = cc) {own : String} {index : Nat} {Ts : List Cond} (hts : ∀ w ∈ Ts, w.before args s = true) (hin : ∀ w ∈ wsX10, w ∈ Ts) (hown : s.vm.findClass own = some m.cls) (hK : zK D k s) (hP : va_P D vwCl (zWS k a S) H) (hlink : (Cond.fieldLink own index "FlowParts$Network" "low" "[I").before args s = true) (hdg : decode cc pc = .ok (.getfield index, 3)) (kk : W p l e R s m args below meth c H locs cells slots Q (F0 m (pc + 3) ls (.ref (a 28) :: rest))) : W p l e R s m args below meth c H locs cells slots Q (F0 m pc ls (.ref (a 3) :: rest)) :=
  va_get (C := RX1) (T := TX1) (N := 12) (ci := 1) hx hb hts hin hown hK.1 hP 3 (fs := zfs_3 a (S.1 3)) (by rw [zWS_at zO_3.1, zO_3.2]) rfl 3 (by decide) hlink (fun _ h => h) rfl hdg kk
theorem zg_1_high (hx : p.tables.exec = Jvm.exec) (hb : c.code = cc) {own : String} {index : Nat} {Ts : List Cond} (hts : ∀ w ∈ Ts, w.before args s = true) (hin : ∀ w ∈ wsX10, w ∈ Ts) (hown : s.vm.findClass own = some m.cls) (hK : zK D k s) (hP : va_P D vwCl (zWS k a S) H) (hlink : (Cond.fieldLink own index "FlowParts$Network" "high" "[I").before args s = true) (hdg : decode cc pc = .ok (.getfield index, 3)) (kk : W p l e R s m args below meth c H locs cells slots Q (F0 m (pc + 3) ls (.ref (a 29) :: rest))) : W p l e R s m args below meth c H locs cells slots Q (F0 m pc ls (.ref (a 3) :: rest)) :=
  va_get (C := RX1) (T := TX1) (N := 12) (ci := 1) hx hb hts hin hown hK.1 hP 3 (fs := zfs_3 a (S.1 3)) (by rw [zWS_at zO_3.1, zO_3.2]) rfl 4 (by decide) hlink (fun _ h => h) rfl hdg kk
theorem zg_1_cost (hx : p.tables.exec = Jvm.exec) (hb : c.code = cc) {own : String} {index : Nat} {Ts : List Cond} (hts : ∀ w ∈ Ts, w.before args s = true) (hin : ∀ w ∈ wsX10, w ∈ Ts) (hown : s.vm.findClass own = some m.cls) (hK : zK D k s) (hP : va_P D vwCl (zWS k a S) H) (hlink : (Cond.fieldLink own index "FlowParts$Network" "cost" "[I").before args s = true) (hdg : decode cc pc = .ok (.getfield index, 3)) (kk : W p l e R s m args below meth c H locs cells slots Q (F0 m (pc + 3) ls (.ref (a 30) :: rest))) : W p l e R s m args below meth c H locs cells slots Q (F0 m pc ls (.ref (a 3) :: rest)) :=
  va_get (C := RX1) (T := TX1) (N := 12) (ci := 1) hx hb hts hin hown hK.1 hP 3 (fs := zfs_3 a (S.1 3)) (by rw [zWS_at zO_3.1, zO_3.2]) rfl 5 (by decide) hlink (fun _ h => h) rfl hdg kk
theorem zg_1_amount (hx : p.tables.exec = Jvm.exec) (hb : c.code = cc) {own : String} {index : Nat} {Ts : List Cond} (hts : ∀ w ∈ Ts, w.before args s = true) (hin : ∀ w ∈ wsX10, w ∈ Ts) (hown : s.vm.findClass own = some m.cls) (hK : zK D k s) (hP : va_P D vwCl (zWS k a S) H) (hlink : (Cond.fieldLink own index "FlowParts$Network" "amount" "[I").before args s = true) (hdg : decode cc pc = .ok (.getfield index, 3)) (kk : W p l e R s m args below meth c H locs cells slots Q (F0 m (pc + 3) ls (.ref (a 31) :: rest))) : W p l e R s m args below meth c H locs cells slots Q (F0 m pc ls (.ref (a 3) :: rest)) :=
  va_get (C := RX1) (T := TX1) (N := 12) (ci := 1) hx hb hts hin hown hK.1 hP 3 (fs := zfs_3 a (S.1 3)) (by rw [zWS_at zO_3.1, zO_3.2]) rfl 6 (by decide) hlink (fun _ h => h) rfl hdg kk
theorem zg_1_weight (hx : p.tables.exec = Jvm.exec) (hb : c.code = cc) {own : String} {index : Nat} {Ts : List Cond} (hts : ∀ w ∈ Ts, w.before args s = true) (hin : ∀ w ∈ wsX10, w ∈ Ts) (hown : s.vm.findClass own = some m.cls) (hK : zK D k s) (hP : va_P D vwCl (zWS k a S) H) (hlink : (Cond.fieldLink own index "FlowParts$Network" "weight" "[I").before args s = true) (hdg : decode cc pc = .ok (.getfield index, 3)) (kk : W p l e R s m args below meth c H locs cells slots Q (F0 m (pc + 3) ls (.ref (a 32) :: rest))) : W p l e R s m args below meth c H locs cells slots Q (F0 m pc ls (.ref (a 3) :: rest)) :=
  va_get (C := RX1) (T := TX1) (N := 12) (ci := 1) hx hb hts hin hown hK.1 hP 3 (fs := zfs_3 a (S.1 3)) (by rw [zWS_at zO_3.1, zO_3.2]) rfl 7 (by decide) hlink (fun _ h => h) rfl hdg kk
theorem zg_1_need (hx : p.tables.exec = Jvm.exec) (hb : c.code = cc) {own : String} {index : Nat} {Ts : List Cond} (hts : ∀ w ∈ Ts, w.before args s = true) (hin : ∀ w ∈ wsX10, w ∈ Ts) (hown : s.vm.findClass own = some m.cls) (hK : zK D k s) (hP : va_P D vwCl (zWS k a S) H) (hlink : (Cond.fieldLink own index "FlowParts$Network" "need" "[I").before args s = true) (hdg : decode cc pc = .ok (.getfield index, 3)) (kk : W p l e R s m args below meth c H locs cells slots Q (F0 m (pc + 3) ls (.ref (a 33) :: rest))) : W p l e R s m args below meth c H locs cells slots Q (F0 m pc ls (.ref (a 3) :: rest)) :=
  va_get (C := RX1) (T := TX1) (N := 12) (ci := 1) hx hb hts hin hown hK.1 hP 3 (fs := zfs_3 a (S.1 3)) (by rw [zWS_at zO_3.1, zO_3.2]) rfl 8 (by decide) hlink (fun _ h => h) rfl hdg kk
theorem zg_1_distance (hx : p.tables.exec = Jvm.exec) (hb : c.code = cc) {own : String} {index : Nat} {Ts : List Cond} (hts : ∀ w ∈ Ts, w.before args s = true) (hin : ∀ w ∈ wsX10, w ∈ Ts) (hown : s.vm.findClass own = some m.cls) (hK : zK D k s) (hP : va_P D vwCl (zWS k a S) H) (hlink : (Cond.fieldLink own index "FlowParts$Network" "distance" "[I").before args s = true) (hdg : decode cc pc = .ok (.getfield index, 3)) (kk : W p l e R s m args below meth c H locs cells slots Q (F0 m (pc + 3) ls (.ref (a 34) :: rest))) : W p l e R s m args below meth c H locs cells slots Q (F0 m pc ls (.ref (a 3) :: rest)) :=
  va_get (C := RX1) (T := TX1) (N := 12) (ci := 1) hx hb hts hin hown hK.1 hP 3 (fs := zfs_3 a (S.1 3)) (by rw [zWS_at zO_3.1, zO_3.2]) rfl 9 (by decide) hlink (fun _ h => h) rfl hdg kk
theorem zg_1_arcTo (hx : p.tables.exec = Jvm.exec) (hb : c.code = cc) {own : String} {index : Nat} {Ts : List Cond} (hts : ∀ w ∈ Ts, w.before args s = true) (hin : ∀ w ∈ wsX10, w ∈ Ts) (hown : s.vm.findClass own = some m.cls) (hK : zK D k s) (hP : va_P D vwCl (zWS k a S) H) (hlink : (Cond.fieldLink own index "FlowParts$Network" "arcTo" "[I").before args s = true) (hdg : decode cc pc = .ok (.getfield index, 3)) (kk : W p l e R s m args below meth c H locs cells slots Q (F0 m (pc + 3) ls (.ref (a 35) :: rest))) : W p l e R s m args below meth c H locs cells slots Q (F0 m pc ls (.ref (a 3) :: rest)) :=
  va_get (C := RX1) (T := TX1) (N := 12) (ci := 1) hx hb hts hin hown hK.1 hP 3 (fs := zfs_3 a (S.1 3)) (by rw [zWS_at zO_3.1, zO_3.2]) rfl 10 (by decide) hlink (fun _ h => h) rfl hdg kk
theorem zg_1_raises (hx : p.tables.exec = Jvm.exec) (hb : c.code = cc) {own : String} {index : Nat} {Ts : List Cond} (hts : ∀ w ∈ Ts, w.before args s = true) (hin : ∀ w ∈ wsX10, w ∈ Ts) (hown : s.vm.findClass own = some m.cls) (hK : zK D k s) (hP : va_P D vwCl (zWS k a S) H) (hlink : (Cond.fieldLink own index "FlowParts$Network" "raises" "[Z").before args s = true) (hdg : decode cc pc = .ok (.getfield index, 3)) (kk : W p l e R s m args below meth c H locs cells slots Q (F0 m (pc + 3) ls (.ref (a 36) :: rest))) : W p l e R s m args below meth c H locs cells slots Q (F0 m pc ls (.ref (a 3) :: rest)) :=
  va_get (C := RX1) (T := TX1) (N := 12) (ci := 1) hx hb hts hin hown hK.1 hP 3 (fs := zfs_3 a (S.1 3)) (by rw [zWS_at zO_3.1, zO_3.2]) rfl 11 (by decide) hlink (fun _ h => h) rfl hdg kk
theorem zg_2_ofRow (hx : p.tables.exec = Jvm.exec) (hb : c.code = cc) {own : String} {index : Nat} {Ts : List Cond} (hts : ∀ w ∈ Ts, w.before args s = true) (hin : ∀ w ∈ wsX20, w ∈ Ts) (hown : s.vm.findClass own = some m.cls) (hK : zK D k s) (hP : va_P D vwCl (zWS k a S) H) (hlink : (Cond.fieldLink own index "FlowParts$Prices" "ofRow" "[I").before args s = true) (hdg : decode cc pc = .ok (.getfield index, 3)) (kk : W p l e R s m args below meth c H locs cells slots Q (F0 m (pc + 3) ls (.ref (a 37) :: rest))) : W p l e R s m args below meth c H locs cells slots Q (F0 m pc ls (.ref (a 4) :: rest)) :=
  va_get (C := RX2) (T := TX2) (N := 3) (ci := 2) hx hb hts hin hown hK.1 hP 4 (fs := zfs_4 a (S.1 4)) (by rw [zWS_at zO_4.1, zO_4.2]) rfl 0 (by decide) hlink (fun _ h => h) rfl hdg kk
theorem zg_2_level (hx : p.tables.exec = Jvm.exec) (hb : c.code = cc) {own : String} {index : Nat} {Ts : List Cond} (hts : ∀ w ∈ Ts, w.before args s = true) (hin : ∀ w ∈ wsX20, w ∈ Ts) (hown : s.vm.findClass own = some m.cls) (hK : zK D k s) (hP : va_P D vwCl (zWS k a S) H) (hlink : (Cond.fieldLink own index "FlowParts$Prices" "level" "[I").before args s = true) (hdg : decode cc pc = .ok (.getfield index, 3)) (kk : W p l e R s m args below meth c H locs cells slots Q (F0 m (pc + 3) ls (.ref (a 38) :: rest))) : W p l e R s m args below meth c H locs cells slots Q (F0 m pc ls (.ref (a 4) :: rest)) :=
  va_get (C := RX2) (T := TX2) (N := 3) (ci := 2) hx hb hts hin hown hK.1 hP 4 (fs := zfs_4 a (S.1 4)) (by rw [zWS_at zO_4.1, zO_4.2]) rfl 1 (by decide) hlink (fun _ h => h) rfl hdg kk
theorem zg_2_most (hx : p.tables.exec = Jvm.exec) (hb : c.code = cc) {own : String} {index : Nat} {Ts : List Cond} (hts : ∀ w ∈ Ts, w.before args s = true) (hin : ∀ w ∈ wsX20, w ∈ Ts) (hown : s.vm.findClass own = some m.cls) (hK : zK D k s) (hP : va_P D vwCl (zWS k a S) H) (hlink : (Cond.fieldLink own index "FlowParts$Prices" "most" "[[I").before args s = true) (hdg : decode cc pc = .ok (.getfield index, 3)) (kk : W p l e R s m args below meth c H locs cells slots Q (F0 m (pc + 3) ls (.ref (a 39) :: rest))) : W p l e R s m args below meth c H locs cells slots Q (F0 m pc ls (.ref (a 4) :: rest)) :=
  va_get (C := RX2) (T := TX2) (N := 3) (ci := 2) hx hb hts hin hown hK.1 hP 4 (fs := zfs_4 a (S.1 4)) (by rw [zWS_at zO_4.1, zO_4.2]) rfl 2 (by decide) hlink (fun _ h => h) rfl hdg kk
theorem zg_3_rowSet (hx : p.tables.exec = Jvm.exec) (hb : c.code = cc) {own : String} {index : Nat} {Ts : List Cond} (hts : ∀ w ∈ Ts, w.before args s = true) (hin : ∀ w ∈ wsX30, w ∈ Ts) (hown : s.vm.findClass own = some m.cls) (hK : zK D k s) (hP : va_P D vwCl (zWS k a S) H) (hlink : (Cond.fieldLink own index "FlowParts$Proof" "rowSet" "I").before args s = true) (hdg : decode cc pc = .ok (.getfield index, 3)) (kk : W p l e R s m args below meth c H locs cells slots Q (F0 m (pc + 3) ls (.int (S.1 5 0) :: rest))) : W p l e R s m args below meth c H locs cells slots Q (F0 m pc ls (.ref (a 5) :: rest)) :=
  va_get (C := RX3) (T := TX3) (N := 2) (ci := 3) hx hb hts hin hown hK.1 hP 5 (fs := zfs_5 a (S.1 5)) (by rw [zWS_at zO_5.1, zO_5.2]) rfl 0 (by decide) hlink (fun _ h => h) rfl hdg kk
theorem zp_3_rowSet (hx : p.tables.exec = Jvm.exec) (hb : c.code = cc) {own : String} {index : Nat} {Ts : List Cond} (hts : ∀ w ∈ Ts, w.before args s = true) (hin : ∀ w ∈ wsX30, w ∈ Ts) (hown : s.vm.findClass own = some m.cls) (hj : zDj a) (hK : zK D k s) (hP : va_P D vwCl (zWS k a S) H) (hS : va_S (zA a H0.size) H0 H locs) {v : Int32} (hlink : (Cond.fieldLink own index "FlowParts$Proof" "rowSet" "I").before args s = true) (hdg : decode cc pc = .ok (.putfield index, 3)) (kk : ∀ (H1 : Heap) (locs1 : List Loc), va_P D vwCl (zWS k a (zu S 5 0 v)) H1 → va_S (zA a H0.size) H0 H1 locs1 → W p l e R s m args below meth c H1 locs1 cells slots Q (F0 m (pc + 3) ls rest)) : W p l e R s m args below meth c H locs cells slots Q (F0 m pc ls (.int v :: .ref (a 5) :: rest)) := by
  refine va_put (C := RX3) (T := TX3) (N := 2) (ci := 3) (ty := .int) hx hb hts hin tyX3 tyX3_ok nmX3 hown hK.1 hP (zD_of hj) hS 5 (fs := zfs_5 a (S.1 5)) (by rw [zWS_at zO_5.1, zO_5.2]) rfl 0 (by decide) hlink (fun _ h => h) rfl (by decide +kernel) rfl rfl (by show 0 < 2; decide) hdg (fun H1 locs1 h1 _ h3 => kk H1 locs1 ?_ h3)
  have e1 : (zfs_5 a (S.1 5)).set 0 (.int v) = zfs_5 a (upd (S.1 5) 0 v) := rfl
  rw [e1, ← zO_5.2 k a _ (S.2 5), zWS_set zO_5.1] at h1
  exact h1
theorem zg_3_ofSide (hx : p.tables.exec = Jvm.exec) (hb : c.code = cc) {own : String} {index : Nat} {Ts : List Cond} (hts : ∀ w ∈ Ts, w.before args s = true) (hin : ∀ w ∈ wsX30, w ∈ Ts) (hown : s.vm.findClass own = some m.cls) (hK : zK D k s) (hP : va_P D vwCl (zWS k a S) H) (hlink : (Cond.fieldLink own index "FlowParts$Proof" "ofSide" "I").before args s = true) (hdg : decode cc pc = .ok (.getfield index, 3)) (kk : W p l e R s m args below meth c H locs cells slots Q (F0 m (pc + 3) ls (.int (S.1 5 1) :: rest))) : W p l e R s m args below meth c H locs cells slots Q (F0 m pc ls (.ref (a 5) :: rest)) :=
  va_get (C := RX3) (T := TX3) (N := 2) (ci := 3) hx hb hts hin hown hK.1 hP 5 (fs := zfs_5 a (S.1 5)) (by rw [zWS_at zO_5.1, zO_5.2]) rfl 1 (by decide) hlink (fun _ h => h) rfl hdg kk
theorem zp_3_ofSide (hx : p.tables.exec = Jvm.exec) (hb : c.code = cc) {own : String} {index : Nat} {Ts : List Cond} (hts : ∀ w ∈ Ts, w.before args s = true) (hin : ∀ w ∈ wsX30, w ∈ Ts) (hown : s.vm.findClass own = some m.cls) (hj : zDj a) (hK : zK D k s) (hP : va_P D vwCl (zWS k a S) H) (hS : va_S (zA a H0.size) H0 H locs) {v : Int32} (hlink : (Cond.fieldLink own index "FlowParts$Proof" "ofSide" "I").before args s = true) (hdg : decode cc pc = .ok (.putfield index, 3)) (kk : ∀ (H1 : Heap) (locs1 : List Loc), va_P D vwCl (zWS k a (zu S 5 1 v)) H1 → va_S (zA a H0.size) H0 H1 locs1 → W p l e R s m args below meth c H1 locs1 cells slots Q (F0 m (pc + 3) ls rest)) : W p l e R s m args below meth c H locs cells slots Q (F0 m pc ls (.int v :: .ref (a 5) :: rest)) := by
  refine va_put (C := RX3) (T := TX3) (N := 2) (ci := 3) (ty := .int) hx hb hts hin tyX3 tyX3_ok nmX3 hown hK.1 hP (zD_of hj) hS 5 (fs := zfs_5 a (S.1 5)) (by rw [zWS_at zO_5.1, zO_5.2]) rfl 1 (by decide) hlink (fun _ h => h) rfl (by decide +kernel) rfl rfl (by show 1 < 2; decide) hdg (fun H1 locs1 h1 _ h3 => kk H1 locs1 ?_ h3)
  have e1 : (zfs_5 a (S.1 5)).set 1 (.int v) = zfs_5 a (upd (S.1 5) 1 v) := rfl
  rw [e1, ← zO_5.2 k a _ (S.2 5), zWS_set zO_5.1] at h1
  exact h1
theorem zg_0_least (hx : p.tables.exec = Jvm.exec) (hb : c.code = cc) {own : String} {index : Nat} {Ts : List Cond} (hts : ∀ w ∈ Ts, w.before args s = true) (hin : ∀ w ∈ wsX00, w ∈ Ts) (hown : s.vm.findClass own = some m.cls) (hK : zK D k s) (hP : va_P D vwCl (zWS k a S) H) (hlink : (Cond.fieldLink own index "FlowParts$Knapsack" "least" "[[I").before args s = true) (hdg : decode cc pc = .ok (.getfield index, 3)) (kk : W p l e R s m args below meth c H locs cells slots Q (F0 m (pc + 3) ls (.ref (a 49) :: rest))) : W p l e R s m args below meth c H locs cells slots Q (F0 m pc ls (.ref (a 6) :: rest)) :=
  va_get (C := RX0) (T := TX0) (N := 1) (ci := 0) hx hb hts hin hown hK.1 hP 6 (fs := zfs_6 a (S.1 6)) (by rw [zWS_at zO_6.1, zO_6.2]) rfl 0 (by decide) hlink (fun _ h => h) rfl hdg kk
theorem zg_7_thrown (hx : p.tables.exec = Jvm.exec) (hb : c.code = cc) {own : String} {index : Nat} {Ts : List Cond} (hts : ∀ w ∈ Ts, w.before args s = true) (hin : ∀ w ∈ wsX70, w ∈ Ts) (hown : s.vm.findClass own = some m.cls) (hK : zK D k s) (hP : va_P D vwCl (zWS k a S) H) (hlink : (Cond.fieldLink own index "FlowPartsModel" "thrown" "I").before args s = true) (hdg : decode cc pc = .ok (.getfield index, 3)) (kk : W p l e R s m args below meth c H locs cells slots Q (F0 m (pc + 3) ls (.int (S.1 61 0) :: rest))) : W p l e R s m args below meth c H locs cells slots Q (F0 m pc ls (.ref (a 61) :: rest)) :=
  va_get (C := RX7) (T := TX7) (N := 28) (ci := 7) hx hb hts hin hown hK.1 hP 61 (fs := zfs_61 a (S.1 61)) (by rw [zWS_at zO_61.1, zO_61.2]) rfl 0 (by decide) hlink (fun _ h => h) rfl hdg kk
theorem zp_7_thrown (hx : p.tables.exec = Jvm.exec) (hb : c.code = cc) {own : String} {index : Nat} {Ts : List Cond} (hts : ∀ w ∈ Ts, w.before args s = true) (hin : ∀ w ∈ wsX70, w ∈ Ts) (hown : s.vm.findClass own = some m.cls) (hj : zDj a) (hK : zK D k s) (hP : va_P D vwCl (zWS k a S) H) (hS : va_S (zA a H0.size) H0 H locs) {v : Int32} (hlink : (Cond.fieldLink own index "FlowPartsModel" "thrown" "I").before args s = true) (hdg : decode cc pc = .ok (.putfield index, 3)) (kk : ∀ (H1 : Heap) (locs1 : List Loc), va_P D vwCl (zWS k a (zu S 61 0 v)) H1 → va_S (zA a H0.size) H0 H1 locs1 → W p l e R s m args below meth c H1 locs1 cells slots Q (F0 m (pc + 3) ls rest)) : W p l e R s m args below meth c H locs cells slots Q (F0 m pc ls (.int v :: .ref (a 61) :: rest)) := by
  refine va_put (C := RX7) (T := TX7) (N := 28) (ci := 7) (ty := .int) hx hb hts hin tyX7 tyX7_ok nmX7 hown hK.1 hP (zD_of hj) hS 61 (fs := zfs_61 a (S.1 61)) (by rw [zWS_at zO_61.1, zO_61.2]) rfl 0 (by decide) hlink (fun _ h => h) rfl (by decide +kernel) rfl rfl (by show 0 < 28; decide) hdg (fun H1 locs1 h1 _ h3 => kk H1 locs1 ?_ h3)
  have e1 : (zfs_61 a (S.1 61)).set 0 (.int v) = zfs_61 a (upd (S.1 61) 0 v) := rfl
  rw [e1, ← zO_61.2 k a _ (S.2 61), zWS_set zO_61.1] at h1
  exact h1
theorem zg_7_columns (hx : p.tables.exec = Jvm.exec) (hb : c.code = cc) {own : String} {index : Nat} {Ts : List Cond} (hts : ∀ w ∈ Ts, w.before args s = true) (hin : ∀ w ∈ wsX70, w ∈ Ts) (hown : s.vm.findClass own = some m.cls) (hK : zK D k s) (hP : va_P D vwCl (zWS k a S) H) (hlink : (Cond.fieldLink own index "FlowPartsModel" "columns" "I").before args s = true) (hdg : decode cc pc = .ok (.getfield index, 3)) (kk : W p l e R s m args below meth c H locs cells slots Q (F0 m (pc + 3) ls (.int (S.1 61 1) :: rest))) : W p l e R s m args below meth c H locs cells slots Q (F0 m pc ls (.ref (a 61) :: rest)) :=
  va_get (C := RX7) (T := TX7) (N := 28) (ci := 7) hx hb hts hin hown hK.1 hP 61 (fs := zfs_61 a (S.1 61)) (by rw [zWS_at zO_61.1, zO_61.2]) rfl 1 (by decide) hlink (fun _ h => h) rfl hdg kk
theorem zp_7_columns (hx : p.tables.exec = Jvm.exec) (hb : c.code = cc) {own : String} {index : Nat} {Ts : List Cond} (hts : ∀ w ∈ Ts, w.before args s = true) (hin : ∀ w ∈ wsX70, w ∈ Ts) (hown : s.vm.findClass own = some m.cls) (hj : zDj a) (hK : zK D k s) (hP : va_P D vwCl (zWS k a S) H) (hS : va_S (zA a H0.size) H0 H locs) {v : Int32} (hlink : (Cond.fieldLink own index "FlowPartsModel" "columns" "I").before args s = true) (hdg : decode cc pc = .ok (.putfield index, 3)) (kk : ∀ (H1 : Heap) (locs1 : List Loc), va_P D vwCl (zWS k a (zu S 61 1 v)) H1 → va_S (zA a H0.size) H0 H1 locs1 → W p l e R s m args below meth c H1 locs1 cells slots Q (F0 m (pc + 3) ls rest)) : W p l e R s m args below meth c H locs cells slots Q (F0 m pc ls (.int v :: .ref (a 61) :: rest)) := by
  refine va_put (C := RX7) (T := TX7) (N := 28) (ci := 7) (ty := .int) hx hb hts hin tyX7 tyX7_ok nmX7 hown hK.1 hP (zD_of hj) hS 61 (fs := zfs_61 a (S.1 61)) (by rw [zWS_at zO_61.1, zO_61.2]) rfl 1 (by decide) hlink (fun _ h => h) rfl (by decide +kernel) rfl rfl (by show 1 < 28; decide) hdg (fun H1 locs1 h1 _ h3 => kk H1 locs1 ?_ h3)
  have e1 : (zfs_61 a (S.1 61)).set 1 (.int v) = zfs_61 a (upd (S.1 61) 1 v) := rfl
  rw [e1, ← zO_61.2 k a _ (S.2 61), zWS_set zO_61.1] at h1
  exact h1
theorem zg_7_rows (hx : p.tables.exec = Jvm.exec) (hb : c.code = cc) {own : String} {index : Nat} {Ts : List Cond} (hts : ∀ w ∈ Ts, w.before args s = true) (hin : ∀ w ∈ wsX70, w ∈ Ts) (hown : s.vm.findClass own = some m.cls) (hK : zK D k s) (hP : va_P D vwCl (zWS k a S) H) (hlink : (Cond.fieldLink own index "FlowPartsModel" "rows" "I").before args s = true) (hdg : decode cc pc = .ok (.getfield index, 3)) (kk : W p l e R s m args below meth c H locs cells slots Q (F0 m (pc + 3) ls (.int (S.1 61 2) :: rest))) : W p l e R s m args below meth c H locs cells slots Q (F0 m pc ls (.ref (a 61) :: rest)) :=
  va_get (C := RX7) (T := TX7) (N := 28) (ci := 7) hx hb hts hin hown hK.1 hP 61 (fs := zfs_61 a (S.1 61)) (by rw [zWS_at zO_61.1, zO_61.2]) rfl 2 (by decide) hlink (fun _ h => h) rfl hdg kk
theorem zp_7_rows (hx : p.tables.exec = Jvm.exec) (hb : c.code = cc) {own : String} {index : Nat} {Ts : List Cond} (hts : ∀ w ∈ Ts, w.before args s = true) (hin : ∀ w ∈ wsX70, w ∈ Ts) (hown : s.vm.findClass own = some m.cls) (hj : zDj a) (hK : zK D k s) (hP : va_P D vwCl (zWS k a S) H) (hS : va_S (zA a H0.size) H0 H locs) {v : Int32} (hlink : (Cond.fieldLink own index "FlowPartsModel" "rows" "I").before args s = true) (hdg : decode cc pc = .ok (.putfield index, 3)) (kk : ∀ (H1 : Heap) (locs1 : List Loc), va_P D vwCl (zWS k a (zu S 61 2 v)) H1 → va_S (zA a H0.size) H0 H1 locs1 → W p l e R s m args below meth c H1 locs1 cells slots Q (F0 m (pc + 3) ls rest)) : W p l e R s m args below meth c H locs cells slots Q (F0 m pc ls (.int v :: .ref (a 61) :: rest)) := by
  refine va_put (C := RX7) (T := TX7) (N := 28) (ci := 7) (ty := .int) hx hb hts hin tyX7 tyX7_ok nmX7 hown hK.1 hP (zD_of hj) hS 61 (fs := zfs_61 a (S.1 61)) (by rw [zWS_at zO_61.1, zO_61.2]) rfl 2 (by decide) hlink (fun _ h => h) rfl (by decide +kernel) rfl rfl (by show 2 < 28; decide) hdg (fun H1 locs1 h1 _ h3 => kk H1 locs1 ?_ h3)
  have e1 : (zfs_61 a (S.1 61)).set 2 (.int v) = zfs_61 a (upd (S.1 61) 2 v) := rfl
  rw [e1, ← zO_61.2 k a _ (S.2 61), zWS_set zO_61.1] at h1
  exact h1
theorem zg_7_lows (hx : p.tables.exec = Jvm.exec) (hb : c.code = cc) {own : String} {index : Nat} {Ts : List Cond} (hts : ∀ w ∈ Ts, w.before args s = true) (hin : ∀ w ∈ wsX70, w ∈ Ts) (hown : s.vm.findClass own = some m.cls) (hK : zK D k s) (hP : va_P D vwCl (zWS k a S) H) (hlink : (Cond.fieldLink own index "FlowPartsModel" "lows" "[I").before args s = true) (hdg : decode cc pc = .ok (.getfield index, 3)) (kk : W p l e R s m args below meth c H locs cells slots Q (F0 m (pc + 3) ls (.ref (a 62) :: rest))) : W p l e R s m args below meth c H locs cells slots Q (F0 m pc ls (.ref (a 61) :: rest)) :=
  va_get (C := RX7) (T := TX7) (N := 28) (ci := 7) hx hb hts hin hown hK.1 hP 61 (fs := zfs_61 a (S.1 61)) (by rw [zWS_at zO_61.1, zO_61.2]) rfl 3 (by decide) hlink (fun _ h => h) rfl hdg kk
theorem zg_7_highs (hx : p.tables.exec = Jvm.exec) (hb : c.code = cc) {own : String} {index : Nat} {Ts : List Cond} (hts : ∀ w ∈ Ts, w.before args s = true) (hin : ∀ w ∈ wsX70, w ∈ Ts) (hown : s.vm.findClass own = some m.cls) (hK : zK D k s) (hP : va_P D vwCl (zWS k a S) H) (hlink : (Cond.fieldLink own index "FlowPartsModel" "highs" "[I").before args s = true) (hdg : decode cc pc = .ok (.getfield index, 3)) (kk : W p l e R s m args below meth c H locs cells slots Q (F0 m (pc + 3) ls (.ref (a 63) :: rest))) : W p l e R s m args below meth c H locs cells slots Q (F0 m pc ls (.ref (a 61) :: rest)) :=
  va_get (C := RX7) (T := TX7) (N := 28) (ci := 7) hx hb hts hin hown hK.1 hP 61 (fs := zfs_61 a (S.1 61)) (by rw [zWS_at zO_61.1, zO_61.2]) rfl 4 (by decide) hlink (fun _ h => h) rfl hdg kk
theorem zg_7_costs (hx : p.tables.exec = Jvm.exec) (hb : c.code = cc) {own : String} {index : Nat} {Ts : List Cond} (hts : ∀ w ∈ Ts, w.before args s = true) (hin : ∀ w ∈ wsX70, w ∈ Ts) (hown : s.vm.findClass own = some m.cls) (hK : zK D k s) (hP : va_P D vwCl (zWS k a S) H) (hlink : (Cond.fieldLink own index "FlowPartsModel" "costs" "[I").before args s = true) (hdg : decode cc pc = .ok (.getfield index, 3)) (kk : W p l e R s m args below meth c H locs cells slots Q (F0 m (pc + 3) ls (.ref (a 64) :: rest))) : W p l e R s m args below meth c H locs cells slots Q (F0 m pc ls (.ref (a 61) :: rest)) :=
  va_get (C := RX7) (T := TX7) (N := 28) (ci := 7) hx hb hts hin hown hK.1 hP 61 (fs := zfs_61 a (S.1 61)) (by rw [zWS_at zO_61.1, zO_61.2]) rfl 5 (by decide) hlink (fun _ h => h) rfl hdg kk
theorem zg_7_kinds (hx : p.tables.exec = Jvm.exec) (hb : c.code = cc) {own : String} {index : Nat} {Ts : List Cond} (hts : ∀ w ∈ Ts, w.before args s = true) (hin : ∀ w ∈ wsX70, w ∈ Ts) (hown : s.vm.findClass own = some m.cls) (hK : zK D k s) (hP : va_P D vwCl (zWS k a S) H) (hlink : (Cond.fieldLink own index "FlowPartsModel" "kinds" "[I").before args s = true) (hdg : decode cc pc = .ok (.getfield index, 3)) (kk : W p l e R s m args below meth c H locs cells slots Q (F0 m (pc + 3) ls (.ref (a 65) :: rest))) : W p l e R s m args below meth c H locs cells slots Q (F0 m pc ls (.ref (a 61) :: rest)) :=
  va_get (C := RX7) (T := TX7) (N := 28) (ci := 7) hx hb hts hin hown hK.1 hP 61 (fs := zfs_61 a (S.1 61)) (by rw [zWS_at zO_61.1, zO_61.2]) rfl 6 (by decide) hlink (fun _ h => h) rfl hdg kk
theorem zg_7_rights (hx : p.tables.exec = Jvm.exec) (hb : c.code = cc) {own : String} {index : Nat} {Ts : List Cond} (hts : ∀ w ∈ Ts, w.before args s = true) (hin : ∀ w ∈ wsX70, w ∈ Ts) (hown : s.vm.findClass own = some m.cls) (hK : zK D k s) (hP : va_P D vwCl (zWS k a S) H) (hlink : (Cond.fieldLink own index "FlowPartsModel" "rights" "[I").before args s = true) (hdg : decode cc pc = .ok (.getfield index, 3)) (kk : W p l e R s m args below meth c H locs cells slots Q (F0 m (pc + 3) ls (.ref (a 66) :: rest))) : W p l e R s m args below meth c H locs cells slots Q (F0 m pc ls (.ref (a 61) :: rest)) :=
  va_get (C := RX7) (T := TX7) (N := 28) (ci := 7) hx hb hts hin hown hK.1 hP 61 (fs := zfs_61 a (S.1 61)) (by rw [zWS_at zO_61.1, zO_61.2]) rfl 7 (by decide) hlink (fun _ h => h) rfl hdg kk
theorem zg_7_coefs (hx : p.tables.exec = Jvm.exec) (hb : c.code = cc) {own : String} {index : Nat} {Ts : List Cond} (hts : ∀ w ∈ Ts, w.before args s = true) (hin : ∀ w ∈ wsX70, w ∈ Ts) (hown : s.vm.findClass own = some m.cls) (hK : zK D k s) (hP : va_P D vwCl (zWS k a S) H) (hlink : (Cond.fieldLink own index "FlowPartsModel" "coefs" "[I").before args s = true) (hdg : decode cc pc = .ok (.getfield index, 3)) (kk : W p l e R s m args below meth c H locs cells slots Q (F0 m (pc + 3) ls (.ref (a 67) :: rest))) : W p l e R s m args below meth c H locs cells slots Q (F0 m pc ls (.ref (a 61) :: rest)) :=
  va_get (C := RX7) (T := TX7) (N := 28) (ci := 7) hx hb hts hin hown hK.1 hP 61 (fs := zfs_61 a (S.1 61)) (by rw [zWS_at zO_61.1, zO_61.2]) rfl 8 (by decide) hlink (fun _ h => h) rfl hdg kk
theorem zg_7_solved (hx : p.tables.exec = Jvm.exec) (hb : c.code = cc) {own : String} {index : Nat} {Ts : List Cond} (hts : ∀ w ∈ Ts, w.before args s = true) (hin : ∀ w ∈ wsX70, w ∈ Ts) (hown : s.vm.findClass own = some m.cls) (hK : zK D k s) (hP : va_P D vwCl (zWS k a S) H) (hlink : (Cond.fieldLink own index "FlowPartsModel" "solved" "I").before args s = true) (hdg : decode cc pc = .ok (.getfield index, 3)) (kk : W p l e R s m args below meth c H locs cells slots Q (F0 m (pc + 3) ls (.int (S.1 61 9) :: rest))) : W p l e R s m args below meth c H locs cells slots Q (F0 m pc ls (.ref (a 61) :: rest)) :=
  va_get (C := RX7) (T := TX7) (N := 28) (ci := 7) hx hb hts hin hown hK.1 hP 61 (fs := zfs_61 a (S.1 61)) (by rw [zWS_at zO_61.1, zO_61.2]) rfl 9 (by decide) hlink (fun _ h => h) rfl hdg kk
theorem zp_7_solved (hx : p.tables.exec = Jvm.exec) (hb : c.code = cc) {own : String} {index : Nat} {Ts : List Cond} (hts : ∀ w ∈ Ts, w.before args s = true) (hin : ∀ w ∈ wsX70, w ∈ Ts) (hown : s.vm.findClass own = some m.cls) (hj : zDj a) (hK : zK D k s) (hP : va_P D vwCl (zWS k a S) H) (hS : va_S (zA a H0.size) H0 H locs) {v : Int32} (hlink : (Cond.fieldLink own index "FlowPartsModel" "solved" "I").before args s = true) (hdg : decode cc pc = .ok (.putfield index, 3)) (kk : ∀ (H1 : Heap) (locs1 : List Loc), va_P D vwCl (zWS k a (zu S 61 9 v)) H1 → va_S (zA a H0.size) H0 H1 locs1 → W p l e R s m args below meth c H1 locs1 cells slots Q (F0 m (pc + 3) ls rest)) : W p l e R s m args below meth c H locs cells slots Q (F0 m pc ls (.int v :: .ref (a 61) :: rest)) := by
  refine va_put (C := RX7) (T := TX7) (N := 28) (ci := 7) (ty := .int) hx hb hts hin tyX7 tyX7_ok nmX7 hown hK.1 hP (zD_of hj) hS 61 (fs := zfs_61 a (S.1 61)) (by rw [zWS_at zO_61.1, zO_61.2]) rfl 9 (by decide) hlink (fun _ h => h) rfl (by decide +kernel) rfl rfl (by show 9 < 28; decide) hdg (fun H1 locs1 h1 _ h3 => kk H1 locs1 ?_ h3)
  have e1 : (zfs_61 a (S.1 61)).set 9 (.int v) = zfs_61 a (upd (S.1 61) 9 v) := rfl
  rw [e1, ← zO_61.2 k a _ (S.2 61), zWS_set zO_61.1] at h1
  exact h1
theorem zg_7_byFlow (hx : p.tables.exec = Jvm.exec) (hb : c.code = cc) {own : String} {index : Nat} {Ts : List Cond} (hts : ∀ w ∈ Ts, w.before args s = true) (hin : ∀ w ∈ wsX70, w ∈ Ts) (hown : s.vm.findClass own = some m.cls) (hK : zK D k s) (hP : va_P D vwCl (zWS k a S) H) (hlink : (Cond.fieldLink own index "FlowPartsModel" "byFlow" "Z").before args s = true) (hdg : decode cc pc = .ok (.getfield index, 3)) (kk : W p l e R s m args below meth c H locs cells slots Q (F0 m (pc + 3) ls (.int (S.1 61 10) :: rest))) : W p l e R s m args below meth c H locs cells slots Q (F0 m pc ls (.ref (a 61) :: rest)) :=
  va_get (C := RX7) (T := TX7) (N := 28) (ci := 7) hx hb hts hin hown hK.1 hP 61 (fs := zfs_61 a (S.1 61)) (by rw [zWS_at zO_61.1, zO_61.2]) rfl 10 (by decide) hlink (fun _ h => h) rfl hdg kk
theorem zp_7_byFlow (hx : p.tables.exec = Jvm.exec) (hb : c.code = cc) {own : String} {index : Nat} {Ts : List Cond} (hts : ∀ w ∈ Ts, w.before args s = true) (hin : ∀ w ∈ wsX70, w ∈ Ts) (hown : s.vm.findClass own = some m.cls) (hj : zDj a) (hK : zK D k s) (hP : va_P D vwCl (zWS k a S) H) (hS : va_S (zA a H0.size) H0 H locs) {v : Int32} (hz : zbit v) (hlink : (Cond.fieldLink own index "FlowPartsModel" "byFlow" "Z").before args s = true) (hdg : decode cc pc = .ok (.putfield index, 3)) (kk : ∀ (H1 : Heap) (locs1 : List Loc), va_P D vwCl (zWS k a (zu S 61 10 v)) H1 → va_S (zA a H0.size) H0 H1 locs1 → W p l e R s m args below meth c H1 locs1 cells slots Q (F0 m (pc + 3) ls rest)) : W p l e R s m args below meth c H locs cells slots Q (F0 m pc ls (.int v :: .ref (a 61) :: rest)) := by
  refine va_put (C := RX7) (T := TX7) (N := 28) (ci := 7) (ty := .boolean) hx hb hts hin tyX7 tyX7_ok nmX7 hown hK.1 hP (zD_of hj) hS 61 (fs := zfs_61 a (S.1 61)) (by rw [zWS_at zO_61.1, zO_61.2]) rfl 10 (by decide) hlink (fun _ h => h) rfl (by decide +kernel) hz.nar hz.fits (by show 10 < 28; decide) hdg (fun H1 locs1 h1 _ h3 => kk H1 locs1 ?_ h3)
  have e1 : (zfs_61 a (S.1 61)).set 10 (.int v) = zfs_61 a (upd (S.1 61) 10 v) := rfl
  rw [e1, ← zO_61.2 k a _ (S.2 61), zWS_set zO_61.1] at h1
  exact h1
theorem zg_7_best (hx : p.tables.exec = Jvm.exec) (hb : c.code = cc) {own : String} {index : Nat} {Ts : List Cond} (hts : ∀ w ∈ Ts, w.before args s = true) (hin : ∀ w ∈ wsX70, w ∈ Ts) (hown : s.vm.findClass own = some m.cls) (hK : zK D k s) (hP : va_P D vwCl (zWS k a S) H) (hlink : (Cond.fieldLink own index "FlowPartsModel" "best" "[I").before args s = true) (hdg : decode cc pc = .ok (.getfield index, 3)) (kk : W p l e R s m args below meth c H locs cells slots Q (F0 m (pc + 3) ls (.ref (a 68) :: rest))) : W p l e R s m args below meth c H locs cells slots Q (F0 m pc ls (.ref (a 61) :: rest)) :=
  va_get (C := RX7) (T := TX7) (N := 28) (ci := 7) hx hb hts hin hown hK.1 hP 61 (fs := zfs_61 a (S.1 61)) (by rw [zWS_at zO_61.1, zO_61.2]) rfl 11 (by decide) hlink (fun _ h => h) rfl hdg kk
theorem zg_7_prices (hx : p.tables.exec = Jvm.exec) (hb : c.code = cc) {own : String} {index : Nat} {Ts : List Cond} (hts : ∀ w ∈ Ts, w.before args s = true) (hin : ∀ w ∈ wsX70, w ∈ Ts) (hown : s.vm.findClass own = some m.cls) (hK : zK D k s) (hP : va_P D vwCl (zWS k a S) H) (hlink : (Cond.fieldLink own index "FlowPartsModel" "prices" "[J").before args s = true) (hdg : decode cc pc = .ok (.getfield index, 3)) (kk : W p l e R s m args below meth c H locs cells slots Q (F0 m (pc + 3) ls (.ref (a 69) :: rest))) : W p l e R s m args below meth c H locs cells slots Q (F0 m pc ls (.ref (a 61) :: rest)) :=
  va_get (C := RX7) (T := TX7) (N := 28) (ci := 7) hx hb hts hin hown hK.1 hP 61 (fs := zfs_61 a (S.1 61)) (by rw [zWS_at zO_61.1, zO_61.2]) rfl 12 (by decide) hlink (fun _ h => h) rfl hdg kk
theorem zg_7_proofSet (hx : p.tables.exec = Jvm.exec) (hb : c.code = cc) {own : String} {index : Nat} {Ts : List Cond} (hts : ∀ w ∈ Ts, w.before args s = true) (hin : ∀ w ∈ wsX70, w ∈ Ts) (hown : s.vm.findClass own = some m.cls) (hK : zK D k s) (hP : va_P D vwCl (zWS k a S) H) (hlink : (Cond.fieldLink own index "FlowPartsModel" "proofSet" "I").before args s = true) (hdg : decode cc pc = .ok (.getfield index, 3)) (kk : W p l e R s m args below meth c H locs cells slots Q (F0 m (pc + 3) ls (.int (S.1 61 13) :: rest))) : W p l e R s m args below meth c H locs cells slots Q (F0 m pc ls (.ref (a 61) :: rest)) :=
  va_get (C := RX7) (T := TX7) (N := 28) (ci := 7) hx hb hts hin hown hK.1 hP 61 (fs := zfs_61 a (S.1 61)) (by rw [zWS_at zO_61.1, zO_61.2]) rfl 13 (by decide) hlink (fun _ h => h) rfl hdg kk
theorem zp_7_proofSet (hx : p.tables.exec = Jvm.exec) (hb : c.code = cc) {own : String} {index : Nat} {Ts : List Cond} (hts : ∀ w ∈ Ts, w.before args s = true) (hin : ∀ w ∈ wsX70, w ∈ Ts) (hown : s.vm.findClass own = some m.cls) (hj : zDj a) (hK : zK D k s) (hP : va_P D vwCl (zWS k a S) H) (hS : va_S (zA a H0.size) H0 H locs) {v : Int32} (hlink : (Cond.fieldLink own index "FlowPartsModel" "proofSet" "I").before args s = true) (hdg : decode cc pc = .ok (.putfield index, 3)) (kk : ∀ (H1 : Heap) (locs1 : List Loc), va_P D vwCl (zWS k a (zu S 61 13 v)) H1 → va_S (zA a H0.size) H0 H1 locs1 → W p l e R s m args below meth c H1 locs1 cells slots Q (F0 m (pc + 3) ls rest)) : W p l e R s m args below meth c H locs cells slots Q (F0 m pc ls (.int v :: .ref (a 61) :: rest)) := by
  refine va_put (C := RX7) (T := TX7) (N := 28) (ci := 7) (ty := .int) hx hb hts hin tyX7 tyX7_ok nmX7 hown hK.1 hP (zD_of hj) hS 61 (fs := zfs_61 a (S.1 61)) (by rw [zWS_at zO_61.1, zO_61.2]) rfl 13 (by decide) hlink (fun _ h => h) rfl (by decide +kernel) rfl rfl (by show 13 < 28; decide) hdg (fun H1 locs1 h1 _ h3 => kk H1 locs1 ?_ h3)
  have e1 : (zfs_61 a (S.1 61)).set 13 (.int v) = zfs_61 a (upd (S.1 61) 13 v) := rfl
  rw [e1, ← zO_61.2 k a _ (S.2 61), zWS_set zO_61.1] at h1
  exact h1
theorem zg_7_proofSide (hx : p.tables.exec = Jvm.exec) (hb : c.code = cc) {own : String} {index : Nat} {Ts : List Cond} (hts : ∀ w ∈ Ts, w.before args s = true) (hin : ∀ w ∈ wsX70, w ∈ Ts) (hown : s.vm.findClass own = some m.cls) (hK : zK D k s) (hP : va_P D vwCl (zWS k a S) H) (hlink : (Cond.fieldLink own index "FlowPartsModel" "proofSide" "I").before args s = true) (hdg : decode cc pc = .ok (.getfield index, 3)) (kk : W p l e R s m args below meth c H locs cells slots Q (F0 m (pc + 3) ls (.int (S.1 61 14) :: rest))) : W p l e R s m args below meth c H locs cells slots Q (F0 m pc ls (.ref (a 61) :: rest)) :=
  va_get (C := RX7) (T := TX7) (N := 28) (ci := 7) hx hb hts hin hown hK.1 hP 61 (fs := zfs_61 a (S.1 61)) (by rw [zWS_at zO_61.1, zO_61.2]) rfl 14 (by decide) hlink (fun _ h => h) rfl hdg kk
theorem zp_7_proofSide (hx : p.tables.exec = Jvm.exec) (hb : c.code = cc) {own : String} {index : Nat} {Ts : List Cond} (hts : ∀ w ∈ Ts, w.before args s = true) (hin : ∀ w ∈ wsX70, w ∈ Ts) (hown : s.vm.findClass own = some m.cls) (hj : zDj a) (hK : zK D k s) (hP : va_P D vwCl (zWS k a S) H) (hS : va_S (zA a H0.size) H0 H locs) {v : Int32} (hlink : (Cond.fieldLink own index "FlowPartsModel" "proofSide" "I").before args s = true) (hdg : decode cc pc = .ok (.putfield index, 3)) (kk : ∀ (H1 : Heap) (locs1 : List Loc), va_P D vwCl (zWS k a (zu S 61 14 v)) H1 → va_S (zA a H0.size) H0 H1 locs1 → W p l e R s m args below meth c H1 locs1 cells slots Q (F0 m (pc + 3) ls rest)) : W p l e R s m args below meth c H locs cells slots Q (F0 m pc ls (.int v :: .ref (a 61) :: rest)) := by
  refine va_put (C := RX7) (T := TX7) (N := 28) (ci := 7) (ty := .int) hx hb hts hin tyX7 tyX7_ok nmX7 hown hK.1 hP (zD_of hj) hS 61 (fs := zfs_61 a (S.1 61)) (by rw [zWS_at zO_61.1, zO_61.2]) rfl 14 (by decide) hlink (fun _ h => h) rfl (by decide +kernel) rfl rfl (by show 14 < 28; decide) hdg (fun H1 locs1 h1 _ h3 => kk H1 locs1 ?_ h3)
  have e1 : (zfs_61 a (S.1 61)).set 14 (.int v) = zfs_61 a (upd (S.1 61) 14 v) := rfl
  rw [e1, ← zO_61.2 k a _ (S.2 61), zWS_set zO_61.1] at h1
  exact h1
theorem zg_7_least (hx : p.tables.exec = Jvm.exec) (hb : c.code = cc) {own : String} {index : Nat} {Ts : List Cond} (hts : ∀ w ∈ Ts, w.before args s = true) (hin : ∀ w ∈ wsX70, w ∈ Ts) (hown : s.vm.findClass own = some m.cls) (hK : zK D k s) (hP : va_P D vwCl (zWS k a S) H) (hlink : (Cond.fieldLink own index "FlowPartsModel" "least" "[I").before args s = true) (hdg : decode cc pc = .ok (.getfield index, 3)) (kk : W p l e R s m args below meth c H locs cells slots Q (F0 m (pc + 3) ls (.ref (a 70) :: rest))) : W p l e R s m args below meth c H locs cells slots Q (F0 m pc ls (.ref (a 61) :: rest)) :=
  va_get (C := RX7) (T := TX7) (N := 28) (ci := 7) hx hb hts hin hown hK.1 hP 61 (fs := zfs_61 a (S.1 61)) (by rw [zWS_at zO_61.1, zO_61.2]) rfl 15 (by decide) hlink (fun _ h => h) rfl hdg kk
theorem zg_7_signs (hx : p.tables.exec = Jvm.exec) (hb : c.code = cc) {own : String} {index : Nat} {Ts : List Cond} (hts : ∀ w ∈ Ts, w.before args s = true) (hin : ∀ w ∈ wsX70, w ∈ Ts) (hown : s.vm.findClass own = some m.cls) (hK : zK D k s) (hP : va_P D vwCl (zWS k a S) H) (hlink : (Cond.fieldLink own index "FlowPartsModel" "signs" "[I").before args s = true) (hdg : decode cc pc = .ok (.getfield index, 3)) (kk : W p l e R s m args below meth c H locs cells slots Q (F0 m (pc + 3) ls (.ref (a 71) :: rest))) : W p l e R s m args below meth c H locs cells slots Q (F0 m pc ls (.ref (a 61) :: rest)) :=
  va_get (C := RX7) (T := TX7) (N := 28) (ci := 7) hx hb hts hin hown hK.1 hP 61 (fs := zfs_61 a (S.1 61)) (by rw [zWS_at zO_61.1, zO_61.2]) rfl 16 (by decide) hlink (fun _ h => h) rfl hdg kk
theorem zg_7_low (hx : p.tables.exec = Jvm.exec) (hb : c.code = cc) {own : String} {index : Nat} {Ts : List Cond} (hts : ∀ w ∈ Ts, w.before args s = true) (hin : ∀ w ∈ wsX70, w ∈ Ts) (hown : s.vm.findClass own = some m.cls) (hK : zK D k s) (hP : va_P D vwCl (zWS k a S) H) (hlink : (Cond.fieldLink own index "FlowPartsModel" "low" "[I").before args s = true) (hdg : decode cc pc = .ok (.getfield index, 3)) (kk : W p l e R s m args below meth c H locs cells slots Q (F0 m (pc + 3) ls (.ref (a 72) :: rest))) : W p l e R s m args below meth c H locs cells slots Q (F0 m pc ls (.ref (a 61) :: rest)) :=
  va_get (C := RX7) (T := TX7) (N := 28) (ci := 7) hx hb hts hin hown hK.1 hP 61 (fs := zfs_61 a (S.1 61)) (by rw [zWS_at zO_61.1, zO_61.2]) rfl 17 (by decide) hlink (fun _ h => h) rfl hdg kk
theorem zg_7_high (hx : p.tables.exec = Jvm.exec) (hb : c.code = cc) {own : String} {index : Nat} {Ts : List Cond} (hts : ∀ w ∈ Ts, w.before args s = true) (hin : ∀ w ∈ wsX70, w ∈ Ts) (hown : s.vm.findClass own = some m.cls) (hK : zK D k s) (hP : va_P D vwCl (zWS k a S) H) (hlink : (Cond.fieldLink own index "FlowPartsModel" "high" "[I").before args s = true) (hdg : decode cc pc = .ok (.getfield index, 3)) (kk : W p l e R s m args below meth c H locs cells slots Q (F0 m (pc + 3) ls (.ref (a 73) :: rest))) : W p l e R s m args below meth c H locs cells slots Q (F0 m pc ls (.ref (a 61) :: rest)) :=
  va_get (C := RX7) (T := TX7) (N := 28) (ci := 7) hx hb hts hin hown hK.1 hP 61 (fs := zfs_61 a (S.1 61)) (by rw [zWS_at zO_61.1, zO_61.2]) rfl 18 (by decide) hlink (fun _ h => h) rfl hdg kk
theorem zg_7_kind (hx : p.tables.exec = Jvm.exec) (hb : c.code = cc) {own : String} {index : Nat} {Ts : List Cond} (hts : ∀ w ∈ Ts, w.before args s = true) (hin : ∀ w ∈ wsX70, w ∈ Ts) (hown : s.vm.findClass own = some m.cls) (hK : zK D k s) (hP : va_P D vwCl (zWS k a S) H) (hlink : (Cond.fieldLink own index "FlowPartsModel" "kind" "[I").before args s = true) (hdg : decode cc pc = .ok (.getfield index, 3)) (kk : W p l e R s m args below meth c H locs cells slots Q (F0 m (pc + 3) ls (.ref (a 74) :: rest))) : W p l e R s m args below meth c H locs cells slots Q (F0 m pc ls (.ref (a 61) :: rest)) :=
  va_get (C := RX7) (T := TX7) (N := 28) (ci := 7) hx hb hts hin hown hK.1 hP 61 (fs := zfs_61 a (S.1 61)) (by rw [zWS_at zO_61.1, zO_61.2]) rfl 19 (by decide) hlink (fun _ h => h) rfl hdg kk
theorem zg_7_edges (hx : p.tables.exec = Jvm.exec) (hb : c.code = cc) {own : String} {index : Nat} {Ts : List Cond} (hts : ∀ w ∈ Ts, w.before args s = true) (hin : ∀ w ∈ wsX70, w ∈ Ts) (hown : s.vm.findClass own = some m.cls) (hK : zK D k s) (hP : va_P D vwCl (zWS k a S) H) (hlink : (Cond.fieldLink own index "FlowPartsModel" "edges" "I").before args s = true) (hdg : decode cc pc = .ok (.getfield index, 3)) (kk : W p l e R s m args below meth c H locs cells slots Q (F0 m (pc + 3) ls (.int (S.1 61 20) :: rest))) : W p l e R s m args below meth c H locs cells slots Q (F0 m pc ls (.ref (a 61) :: rest)) :=
  va_get (C := RX7) (T := TX7) (N := 28) (ci := 7) hx hb hts hin hown hK.1 hP 61 (fs := zfs_61 a (S.1 61)) (by rw [zWS_at zO_61.1, zO_61.2]) rfl 20 (by decide) hlink (fun _ h => h) rfl hdg kk
theorem zp_7_edges (hx : p.tables.exec = Jvm.exec) (hb : c.code = cc) {own : String} {index : Nat} {Ts : List Cond} (hts : ∀ w ∈ Ts, w.before args s = true) (hin : ∀ w ∈ wsX70, w ∈ Ts) (hown : s.vm.findClass own = some m.cls) (hj : zDj a) (hK : zK D k s) (hP : va_P D vwCl (zWS k a S) H) (hS : va_S (zA a H0.size) H0 H locs) {v : Int32} (hlink : (Cond.fieldLink own index "FlowPartsModel" "edges" "I").before args s = true) (hdg : decode cc pc = .ok (.putfield index, 3)) (kk : ∀ (H1 : Heap) (locs1 : List Loc), va_P D vwCl (zWS k a (zu S 61 20 v)) H1 → va_S (zA a H0.size) H0 H1 locs1 → W p l e R s m args below meth c H1 locs1 cells slots Q (F0 m (pc + 3) ls rest)) : W p l e R s m args below meth c H locs cells slots Q (F0 m pc ls (.int v :: .ref (a 61) :: rest)) := by
  refine va_put (C := RX7) (T := TX7) (N := 28) (ci := 7) (ty := .int) hx hb hts hin tyX7 tyX7_ok nmX7 hown hK.1 hP (zD_of hj) hS 61 (fs := zfs_61 a (S.1 61)) (by rw [zWS_at zO_61.1, zO_61.2]) rfl 20 (by decide) hlink (fun _ h => h) rfl (by decide +kernel) rfl rfl (by show 20 < 28; decide) hdg (fun H1 locs1 h1 _ h3 => kk H1 locs1 ?_ h3)
  have e1 : (zfs_61 a (S.1 61)).set 20 (.int v) = zfs_61 a (upd (S.1 61) 20 v) := rfl
  rw [e1, ← zO_61.2 k a _ (S.2 61), zWS_set zO_61.1] at h1
  exact h1
theorem zg_7_edgeFrom (hx : p.tables.exec = Jvm.exec) (hb : c.code = cc) {own : String} {index : Nat} {Ts : List Cond} (hts : ∀ w ∈ Ts, w.before args s = true) (hin : ∀ w ∈ wsX70, w ∈ Ts) (hown : s.vm.findClass own = some m.cls) (hK : zK D k s) (hP : va_P D vwCl (zWS k a S) H) (hlink : (Cond.fieldLink own index "FlowPartsModel" "edgeFrom" "[I").before args s = true) (hdg : decode cc pc = .ok (.getfield index, 3)) (kk : W p l e R s m args below meth c H locs cells slots Q (F0 m (pc + 3) ls (.ref (a 75) :: rest))) : W p l e R s m args below meth c H locs cells slots Q (F0 m pc ls (.ref (a 61) :: rest)) :=
  va_get (C := RX7) (T := TX7) (N := 28) (ci := 7) hx hb hts hin hown hK.1 hP 61 (fs := zfs_61 a (S.1 61)) (by rw [zWS_at zO_61.1, zO_61.2]) rfl 21 (by decide) hlink (fun _ h => h) rfl hdg kk
theorem zg_7_edgeTo (hx : p.tables.exec = Jvm.exec) (hb : c.code = cc) {own : String} {index : Nat} {Ts : List Cond} (hts : ∀ w ∈ Ts, w.before args s = true) (hin : ∀ w ∈ wsX70, w ∈ Ts) (hown : s.vm.findClass own = some m.cls) (hK : zK D k s) (hP : va_P D vwCl (zWS k a S) H) (hlink : (Cond.fieldLink own index "FlowPartsModel" "edgeTo" "[I").before args s = true) (hdg : decode cc pc = .ok (.getfield index, 3)) (kk : W p l e R s m args below meth c H locs cells slots Q (F0 m (pc + 3) ls (.ref (a 76) :: rest))) : W p l e R s m args below meth c H locs cells slots Q (F0 m pc ls (.ref (a 61) :: rest)) :=
  va_get (C := RX7) (T := TX7) (N := 28) (ci := 7) hx hb hts hin hown hK.1 hP 61 (fs := zfs_61 a (S.1 61)) (by rw [zWS_at zO_61.1, zO_61.2]) rfl 22 (by decide) hlink (fun _ h => h) rfl hdg kk
theorem zg_7_edgeCost (hx : p.tables.exec = Jvm.exec) (hb : c.code = cc) {own : String} {index : Nat} {Ts : List Cond} (hts : ∀ w ∈ Ts, w.before args s = true) (hin : ∀ w ∈ wsX70, w ∈ Ts) (hown : s.vm.findClass own = some m.cls) (hK : zK D k s) (hP : va_P D vwCl (zWS k a S) H) (hlink : (Cond.fieldLink own index "FlowPartsModel" "edgeCost" "[J").before args s = true) (hdg : decode cc pc = .ok (.getfield index, 3)) (kk : W p l e R s m args below meth c H locs cells slots Q (F0 m (pc + 3) ls (.ref (a 77) :: rest))) : W p l e R s m args below meth c H locs cells slots Q (F0 m pc ls (.ref (a 61) :: rest)) :=
  va_get (C := RX7) (T := TX7) (N := 28) (ci := 7) hx hb hts hin hown hK.1 hP 61 (fs := zfs_61 a (S.1 61)) (by rw [zWS_at zO_61.1, zO_61.2]) rfl 23 (by decide) hlink (fun _ h => h) rfl hdg kk
theorem zg_7_edgeOf (hx : p.tables.exec = Jvm.exec) (hb : c.code = cc) {own : String} {index : Nat} {Ts : List Cond} (hts : ∀ w ∈ Ts, w.before args s = true) (hin : ∀ w ∈ wsX70, w ∈ Ts) (hown : s.vm.findClass own = some m.cls) (hK : zK D k s) (hP : va_P D vwCl (zWS k a S) H) (hlink : (Cond.fieldLink own index "FlowPartsModel" "edgeOf" "[I").before args s = true) (hdg : decode cc pc = .ok (.getfield index, 3)) (kk : W p l e R s m args below meth c H locs cells slots Q (F0 m (pc + 3) ls (.ref (a 78) :: rest))) : W p l e R s m args below meth c H locs cells slots Q (F0 m pc ls (.ref (a 61) :: rest)) :=
  va_get (C := RX7) (T := TX7) (N := 28) (ci := 7) hx hb hts hin hown hK.1 hP 61 (fs := zfs_61 a (S.1 61)) (by rw [zWS_at zO_61.1, zO_61.2]) rfl 24 (by decide) hlink (fun _ h => h) rfl hdg kk
theorem zg_7_far (hx : p.tables.exec = Jvm.exec) (hb : c.code = cc) {own : String} {index : Nat} {Ts : List Cond} (hts : ∀ w ∈ Ts, w.before args s = true) (hin : ∀ w ∈ wsX70, w ∈ Ts) (hown : s.vm.findClass own = some m.cls) (hK : zK D k s) (hP : va_P D vwCl (zWS k a S) H) (hlink : (Cond.fieldLink own index "FlowPartsModel" "far" "[J").before args s = true) (hdg : decode cc pc = .ok (.getfield index, 3)) (kk : W p l e R s m args below meth c H locs cells slots Q (F0 m (pc + 3) ls (.ref (a 79) :: rest))) : W p l e R s m args below meth c H locs cells slots Q (F0 m pc ls (.ref (a 61) :: rest)) :=
  va_get (C := RX7) (T := TX7) (N := 28) (ci := 7) hx hb hts hin hown hK.1 hP 61 (fs := zfs_61 a (S.1 61)) (by rw [zWS_at zO_61.1, zO_61.2]) rfl 25 (by decide) hlink (fun _ h => h) rfl hdg kk
theorem zg_7_by (hx : p.tables.exec = Jvm.exec) (hb : c.code = cc) {own : String} {index : Nat} {Ts : List Cond} (hts : ∀ w ∈ Ts, w.before args s = true) (hin : ∀ w ∈ wsX70, w ∈ Ts) (hown : s.vm.findClass own = some m.cls) (hK : zK D k s) (hP : va_P D vwCl (zWS k a S) H) (hlink : (Cond.fieldLink own index "FlowPartsModel" "by" "[I").before args s = true) (hdg : decode cc pc = .ok (.getfield index, 3)) (kk : W p l e R s m args below meth c H locs cells slots Q (F0 m (pc + 3) ls (.ref (a 80) :: rest))) : W p l e R s m args below meth c H locs cells slots Q (F0 m pc ls (.ref (a 61) :: rest)) :=
  va_get (C := RX7) (T := TX7) (N := 28) (ci := 7) hx hb hts hin hown hK.1 hP 61 (fs := zfs_61 a (S.1 61)) (by rw [zWS_at zO_61.1, zO_61.2]) rfl 26 (by decide) hlink (fun _ h => h) rfl hdg kk
theorem zg_7_least0 (hx : p.tables.exec = Jvm.exec) (hb : c.code = cc) {own : String} {index : Nat} {Ts : List Cond} (hts : ∀ w ∈ Ts, w.before args s = true) (hin : ∀ w ∈ wsX70, w ∈ Ts) (hown : s.vm.findClass own = some m.cls) (hK : zK D k s) (hP : va_P D vwCl (zWS k a S) H) (hlink : (Cond.fieldLink own index "FlowPartsModel" "least0" "[J").before args s = true) (hdg : decode cc pc = .ok (.getfield index, 3)) (kk : W p l e R s m args below meth c H locs cells slots Q (F0 m (pc + 3) ls (.ref (a 81) :: rest))) : W p l e R s m args below meth c H locs cells slots Q (F0 m pc ls (.ref (a 61) :: rest)) :=
  va_get (C := RX7) (T := TX7) (N := 28) (ci := 7) hx hb hts hin hown hK.1 hP 61 (fs := zfs_61 a (S.1 61)) (by rw [zWS_at zO_61.1, zO_61.2]) rfl 27 (by decide) hlink (fun _ h => h) rfl hdg kk
end ZROWS
