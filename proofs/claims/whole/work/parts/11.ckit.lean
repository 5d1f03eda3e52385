/-! the class's world: h: object, two lists, their arrays; ad: the devices; md: the lists' counts of changes; n devices, o: the order; the state: numbers by the place of the field, the devices' fields, the due one -/
abbrev cSt : Type := (Nat → Int32) × (Nat → Nat → Int32) × Option Nat
def cF (h ad : Nat → Nat) (S : cSt) : List Value := [.ref (h 1), .ref (h 2), .int (S.1 2), va_rf (S.2.2.map ad), .int (S.1 4), .int (S.1 5), .int (S.1 6), .int (S.1 7), .int (S.1 8), .int (S.1 9), .int (S.1 10), .int (S.1 11), .int (S.1 12), .int (S.1 13)]
def cD (F : Nat → Nat → Int32) (i : Nat) : List Value := [.int (F 0 i), .int (F 1 i), .int (F 2 i), .int (F 3 i), .int (F 4 i), .int (F 5 i), .int (F 6 i), .int (F 7 i), .int (F 8 i), .int (F 9 i), .int (F 10 i), .int (F 11 i), .int (F 12 i)]
def cap (n : Nat) : Nat := if n ≤ 10 then 10 else 15
def cX (h ad : Nat → Nat) (md : Nat → Int32) (n : Nat) (S : cSt) : va_W := [(h 0, .inr (2, cF h ad S)), (h 1, .inr (0, [.int (md 1), .ref (h 3), .int (nI n)])), (h 2, .inr (0, [.int (md 2), .ref (h 4), .int (nI n)]))]
def cDv (ad : Nat → Nat) (n : Nat) (F : Nat → Nat → Int32) : va_W := (List.range n).map (fun i => (ad i, .inr (1, cD F i)))
def cR1 (ad : Nat → Nat) (n : Nat) : Nat → Option Nat := fun i => if i < n then some (ad i) else none
def cR2 (ad : Nat → Nat) (n : Nat) (o : Nat → Nat) : Nat → Option Nat := fun i => if i < n then some (ad (o i)) else none
def cAr (cO : ClassId) (h ad : Nat → Nat) (n : Nat) (o : Nat → Nat) : va_W := if n = 0 then [] else [(h 3, .inl (cO, cap n, .inr (.inr (.inr (.inr (cR1 ad n)))))), (h 4, .inl (cO, cap n, .inr (.inr (.inr (.inr (cR2 ad n o))))))]
def cW (cO : ClassId) (h ad : Nat → Nat) (md : Nat → Int32) (n : Nat) (o : Nat → Nat) (S : cSt) : va_W := cX h ad md n S ++ (cDv ad n S.2.1 ++ cAr cO h ad n o)
def cL (h ad : Nat → Nat) (n : Nat) : List Nat := [h 0, h 1, h 2] ++ ((List.range n).map ad ++ (if n = 0 then [] else [h 3, h 4]))
abbrev cT (cO : ClassId) : List (ClassId × FieldType) := [(cO, .object "java/lang/Object")]
section CW
variable {cO : ClassId} {h ad : Nat → Nat} {md : Nat → Int32} {n : Nat} {o : Nat → Nat} {S : cSt}
theorem cW_L : (cW cO h ad md n o S).map (fun q => q.1) = cL h ad n := by
  unfold cW cL cX cDv cAr
  by_cases h0 : n = 0
  · simp [h0]
  · simp [h0]
theorem cDv_len {F : Nat → Nat → Int32} : (cDv ad n F).length = n := by simp [cDv]
theorem cW_dv {i : Nat} (hi : i < n) : (cW cO h ad md n o S)[3 + i]? = some (ad i, .inr (1, cD S.2.1 i)) := by
  unfold cW
  rw [List.getElem?_append_right (by show 3 ≤ 3 + i; omega)]
  show (cDv ad n S.2.1 ++ cAr cO h ad n o)[3 + i - 3]? = _
  rw [Nat.add_sub_cancel_left, List.getElem?_append_left (by rw [cDv_len]; exact hi)]
  simp [cDv, hi]
theorem cW_a1 (h0 : 0 < n) : (cW cO h ad md n o S)[3 + n]? = some (h 3, .inl (cO, cap n, .inr (.inr (.inr (.inr (cR1 ad n)))))) := by
  unfold cW
  rw [List.getElem?_append_right (by show 3 ≤ 3 + n; omega)]
  show (cDv ad n S.2.1 ++ cAr cO h ad n o)[3 + n - 3]? = _
  rw [Nat.add_sub_cancel_left, List.getElem?_append_right (by rw [cDv_len]; exact Nat.le_refl n), cDv_len, Nat.sub_self]
  unfold cAr
  rw [if_neg (by omega)]
  rfl
theorem cW_a2 (h0 : 0 < n) : (cW cO h ad md n o S)[3 + n + 1]? = some (h 4, .inl (cO, cap n, .inr (.inr (.inr (.inr (cR2 ad n o)))))) := by
  unfold cW
  rw [List.getElem?_append_right (by show 3 ≤ 3 + n + 1; omega)]
  show (cDv ad n S.2.1 ++ cAr cO h ad n o)[3 + n + 1 - 3]? = _
  rw [show 3 + n + 1 - 3 = n + 1 by omega, List.getElem?_append_right (by rw [cDv_len]; omega), cDv_len, Nat.add_sub_cancel_left]
  unfold cAr
  rw [if_neg (by omega)]
  rfl
theorem cF_put {x : Int32} (k : Nat) (hk : k = 2 ∨ (4 ≤ k ∧ k < 14)) : (cF h ad S).set k (.int x) = cF h ad (upd S.1 k x, S.2) := by
  have hh : k = 2 ∨ k = 4 ∨ k = 5 ∨ k = 6 ∨ k = 7 ∨ k = 8 ∨ k = 9 ∨ k = 10 ∨ k = 11 ∨ k = 12 ∨ k = 13 := by omega
  rcases hh with rfl | rfl | rfl | rfl | rfl | rfl | rfl | rfl | rfl | rfl | rfl <;> rfl
theorem cW_put {x : Int32} (k : Nat) (hk : k = 2 ∨ (4 ≤ k ∧ k < 14)) : (cW cO h ad md n o S).set 0 (h 0, .inr (2, (cF h ad S).set k (.int x))) = cW cO h ad md n o (upd S.1 k x, S.2) := by
  rw [cF_put k hk]; rfl
theorem cW_due {u : Option Nat} : (cW cO h ad md n o S).set 0 (h 0, .inr (2, (cF h ad S).set 3 (va_rf (u.map ad)))) = cW cO h ad md n o (S.1, S.2.1, u) := rfl
theorem up2_ne {F : Nat → Nat → Int32} {k i j q : Nat} {x : Int32} (hj : j ≠ i) : up2 F k i x q j = F q j := by
  unfold up2 va_up upd
  by_cases hq : q = k
  · subst hq; simp [hj]
  · simp [hq]
theorem cD_ne {F : Nat → Nat → Int32} {k i j : Nat} {x : Int32} (hj : j ≠ i) : cD (up2 F k i x) j = cD F j := by
  unfold cD; simp only [up2_ne hj]
theorem cD_eq {F : Nat → Nat → Int32} {k i : Nat} {x : Int32} (hk : k < 13) : cD (up2 F k i x) i = (cD F i).set k (.int x) := by
  have hh : k = 0 ∨ k = 1 ∨ k = 2 ∨ k = 3 ∨ k = 4 ∨ k = 5 ∨ k = 6 ∨ k = 7 ∨ k = 8 ∨ k = 9 ∨ k = 10 ∨ k = 11 ∨ k = 12 := by omega
  rcases hh with rfl | rfl | rfl | rfl | rfl | rfl | rfl | rfl | rfl | rfl | rfl | rfl | rfl <;> simp [cD, up2, va_up, upd]
theorem cDv_set {F : Nat → Nat → Int32} {k i : Nat} {x : Int32} (hi : i < n) (hk : k < 13) : (cDv ad n F).set i (ad i, .inr (1, (cD F i).set k (.int x))) = cDv ad n (up2 F k i x) := by
  apply List.ext_getElem?
  intro j
  by_cases hj : j = i
  · subst hj
    rw [List.getElem?_set_self (by rw [cDv_len]; exact hi)]
    simp only [cDv, List.getElem?_map, List.getElem?_range hi, Option.map_some, cD_eq hk]
  · rw [List.getElem?_set_ne (fun z => hj z.symm)]
    simp only [cDv, List.getElem?_map]
    rcases Nat.lt_or_ge j n with h2 | h2
    · simp only [List.getElem?_range h2, Option.map_some, cD_ne hj]
    · rw [List.getElem?_eq_none (by simpa using h2)]; rfl
theorem cW_dput {k i : Nat} {x : Int32} (hi : i < n) (hk : k < 13) : (cW cO h ad md n o S).set (3 + i) (ad i, .inr (1, (cD S.2.1 i).set k (.int x))) = cW cO h ad md n o (S.1, up2 S.2.1 k i x, S.2.2) := by
  unfold cW
  rw [List.set_append_right _ _ (by show 3 ≤ 3 + i; omega)]
  show cX h ad md n S ++ (cDv ad n S.2.1 ++ cAr cO h ad n o).set (3 + i - 3) _ = _
  rw [Nat.add_sub_cancel_left, List.set_append_left _ _ (by rw [cDv_len]; exact hi), cDv_set hi hk]
  rfl
theorem cap_ge (hn : n ≤ 12) : n ≤ cap n := by unfold cap; split <;> omega
theorem cap_lt : cap n < 2 ^ 31 := by unfold cap; split <;> omega
end CW
theorem c_J_get1 (l : Launch) (D : va_G) (cO : ClassId) (h ad : Nat → Nat) (md : Nat → Int32) (n : Nat) (o : Nat → Nat) (S : cSt) (i : Nat) (hn : n ≤ 12) (hi : i < n) : mQ l yJx4a65c_get_915e3 wsJx4a65c_get_915e3 (rmz 2 43) D (cT cO) [.ref (h 1), .int (nI i)] (cW cO h ad md n o S) (some (ad i)) := by
  have e := c_J_get l D (cT cO) (cW cO h ad md n o S) (h 1) 1 (h 3) (3 + n) 0 (cap n) i n cO (cR1 ad n) (md 1) rfl (cW_a1 (by omega)) rfl hi (cap_ge hn) cap_lt
  have e2 : cR1 ad n i = some (ad i) := if_pos hi
  rw [e2] at e
  exact e
theorem c_J_get2 (l : Launch) (D : va_G) (cO : ClassId) (h ad : Nat → Nat) (md : Nat → Int32) (n : Nat) (o : Nat → Nat) (S : cSt) (i : Nat) (hn : n ≤ 12) (hi : i < n) : mQ l yJx4a65c_get_915e3 wsJx4a65c_get_915e3 (rmz 2 43) D (cT cO) [.ref (h 2), .int (nI i)] (cW cO h ad md n o S) (some (ad (o i))) := by
  have e := c_J_get l D (cT cO) (cW cO h ad md n o S) (h 2) 2 (h 4) (3 + n + 1) 0 (cap n) i n cO (cR2 ad n o) (md 2) rfl (cW_a2 (by omega)) rfl hi (cap_ge hn) cap_lt
  have e2 : cR2 ad n o i = some (ad (o i)) := if_pos hi
  rw [e2] at e
  exact e
section CK
variable {p : Program} {l : Launch} {e : Env} {R : Room} {s : State} {m : MethodId} {args : Array Value} {below : List Frame} {meth : Method} {c : Code} {H : Heap} {locs : List Loc} {cells slots : Nat} {Q : State → Prop}
variable {cc bytes : ByteArray} {pc index nL nA maxL : Nat} {ls : Array Slot} {rest st0 As : List Value} {y : MethodName} {ws Ts : List Cond} {rm : Room} {ret : Option FieldType} {own C : String} {b qa : Nat} {D : va_G} {tys : List (ClassId × FieldType)} {w0 : va_W}
variable {cO : ClassId} {h ad : Nat → Nat} {md : Nat → Int32} {n : Nat} {o : Nat → Nat} {S : cSt}
/-- an answer that is a reference for certain -/
theorem m_callQr (S : CallFix p m c cc nL s args Ts own) (hM : mQ l y ws rm D tys (.ref b :: As) w0 (some qa)) (cw : CallW R s args own C index y bytes maxL ret ws rm 0 0 nA) (hK : va_K D vwCl tys s) (hP : va_P D vwCl w0 H)
    (hrec : ∃ cellB : Cell, H[b]? = some cellB ∧ cellB.vm.isStatics = false ∧ s.vm.findClass C = some cellB.cls) (hn : As.length = nA) (hsize : ls.size = nL) (hstack : st0 = As.reverse ++ .ref b :: rest) (hW : (rest.map fun v => v.category).sum ≤ 8) (hdg : decode cc pc = .ok (.invokevirtual index, 3)) (hf : cells + 0 ≤ R.cells ∧ slots + 0 ≤ R.slots)
    (kk : W p l e R s m args below meth c H locs cells slots Q (F0 m (pc + 3) ls (.ref qa :: rest))) : W p l e R s m args below meth c H locs cells slots Q (F0 m pc ls st0) :=
  m_callQ S hM cw hK hP hrec hn hsize hstack hW hdg hf kk
theorem c_get (hx : p.tables.exec = Jvm.exec) (hb : c.code = cc) (hts : ∀ w ∈ Ts, w.before args s = true) (hin : ∀ w ∈ wsX10, w ∈ Ts) (hown : s.vm.findClass RX1 = some m.cls) (hK : va_K D vwCl (cT cO) s) (hP : va_P D vwCl (cW cO h ad md n o S) H) (k : Nat) (hk : k < 14) (hlink : Cond.fieldLink RX1 index "DozingDevices" (TX1 k).2.1 (TX1 k).2.2.1 ∈ Ts) (hT : (TX1 k).1 = "DozingDevices") {v : Value} (hv : (cF h ad S)[k]? = some v) (hdg : decode cc pc = .ok (.getfield index, 3))
    (kk : W p l e R s m args below meth c H locs cells slots Q (F0 m (pc + 3) ls (v :: rest))) : W p l e R s m args below meth c H locs cells slots Q (F0 m pc ls (.ref (h 0) :: rest)) :=
  va_get (ci := 2) (C := RX1) (T := TX1) (N := 14) hx hb hts hin hown hK hP 0 rfl rfl k hk (hts _ hlink) (fun _ h => by rw [hT] at h; exact h) hv hdg kk
theorem c_put (hn : (cL h ad n).Nodup) (hx : p.tables.exec = Jvm.exec) (hb : c.code = cc) (hts : ∀ w ∈ Ts, w.before args s = true) (hin : ∀ w ∈ wsX10, w ∈ Ts) (hown : s.vm.findClass RX1 = some m.cls) (hK : va_K D vwCl (cT cO) s) (hP : va_P D vwCl (cW cO h ad md n o S) H) (hS : va_S (wA (cL h ad n) s.heap.size) s.heap H locs) (k : Nat) (hk : k = 2 ∨ (4 ≤ k ∧ k < 14)) (hlink : Cond.fieldLink RX1 index "DozingDevices" (TX1 k).2.1 (TX1 k).2.2.1 ∈ Ts) (hT : (TX1 k).1 = "DozingDevices" ∧ (TX1 k).2.2.2 = false ∧ tyX1 k = .int) {x : Int32} (hdg : decode cc pc = .ok (.putfield index, 3))
    (kk : ∀ (H1 : Heap) (locs1 : List Loc), va_P D vwCl (cW cO h ad md n o (upd S.1 k x, S.2)) H1 → va_S (wA (cL h ad n) s.heap.size) s.heap H1 locs1 → W p l e R s m args below meth c H1 locs1 cells slots Q (F0 m (pc + 3) ls rest)) : W p l e R s m args below meth c H locs cells slots Q (F0 m pc ls (.int x :: .ref (h 0) :: rest)) := by
  have hk14 : k < 14 := by omega
  refine va_put (ci := 2) (C := RX1) (T := TX1) (N := 14) (ty := .int) hx hb hts hin tyX1 tyX1_ok nmX1 hown hK hP (wD cW_L hn (fun _ h => Or.inl h)) hS 0 rfl rfl k hk14 (hts _ hlink) (fun _ h => by rw [hT.1] at h; exact h) hT.2.1 (by rw [tyX1_ok k hk14, hT.2.2]) rfl rfl (by show k < 14; exact hk14) hdg (fun H1 locs1 hP1 _ hS1 => ?_)
  rw [cW_put k hk] at hP1
  exact kk H1 locs1 hP1 hS1
theorem c_putd (u : Option Nat) (hn : (cL h ad n).Nodup) (hx : p.tables.exec = Jvm.exec) (hb : c.code = cc) (hts : ∀ w ∈ Ts, w.before args s = true) (hin : ∀ w ∈ wsX10, w ∈ Ts) (hown : s.vm.findClass RX1 = some m.cls) (hK : va_K D vwCl (cT cO) s) (hP : va_P D vwCl (cW cO h ad md n o S) H) (hS : va_S (wA (cL h ad n) s.heap.size) s.heap H locs) (hlink : Cond.fieldLink RX1 index "DozingDevices" "dueDevice" "LDozingDevices$Device;" ∈ Ts) (hdg : decode cc pc = .ok (.putfield index, 3))
    (kk : ∀ (H1 : Heap) (locs1 : List Loc), va_P D vwCl (cW cO h ad md n o (S.1, S.2.1, u)) H1 → va_S (wA (cL h ad n) s.heap.size) s.heap H1 locs1 → W p l e R s m args below meth c H1 locs1 cells slots Q (F0 m (pc + 3) ls rest)) : W p l e R s m args below meth c H locs cells slots Q (F0 m pc ls (va_rf (u.map ad) :: .ref (h 0) :: rest)) := by
  refine va_put (ci := 2) (C := RX1) (T := TX1) (N := 14) (ty := .object "DozingDevices$Device") hx hb hts hin tyX1 tyX1_ok nmX1 hown hK hP (wD cW_L hn (fun _ h => Or.inl h)) hS 0 rfl rfl 3 (by decide) (hts _ hlink) (fun _ h => h) rfl (by decide +kernel) (by cases u <;> rfl) (by cases u <;> rfl) (by show 3 < 14; decide) hdg (fun H1 locs1 hP1 _ hS1 => ?_)
  rw [cW_due] at hP1
  exact kk H1 locs1 hP1 hS1
theorem c_dget (hx : p.tables.exec = Jvm.exec) (hb : c.code = cc) (hts : ∀ w ∈ Ts, w.before args s = true) (hin : ∀ w ∈ wsX00, w ∈ Ts) (hown : s.vm.findClass RX1 = some m.cls) (hK : va_K D vwCl (cT cO) s) (hP : va_P D vwCl (cW cO h ad md n o S) H) {i : Nat} (hi : i < n) (k : Nat) (hk : k < 13) (hlink : Cond.fieldLink RX1 index "DozingDevices$Device" (TX0 k).2.1 (TX0 k).2.2.1 ∈ Ts) (hT : (TX0 k).1 = "DozingDevices$Device") {v : Value} (hv : (cD S.2.1 i)[k]? = some v) (hdg : decode cc pc = .ok (.getfield index, 3))
    (kk : W p l e R s m args below meth c H locs cells slots Q (F0 m (pc + 3) ls (v :: rest))) : W p l e R s m args below meth c H locs cells slots Q (F0 m pc ls (.ref (ad i) :: rest)) :=
  va_get (ci := 1) (C := RX0) (T := TX0) (N := 13) hx hb hts hin hown hK hP (3 + i) (cW_dv hi) rfl k hk (hts _ hlink) (fun _ h => by rw [hT] at h; exact h) hv hdg kk
theorem c_dput (hn : (cL h ad n).Nodup) (hx : p.tables.exec = Jvm.exec) (hb : c.code = cc) (hts : ∀ w ∈ Ts, w.before args s = true) (hin : ∀ w ∈ wsX00, w ∈ Ts) (hown : s.vm.findClass RX1 = some m.cls) (hK : va_K D vwCl (cT cO) s) (hP : va_P D vwCl (cW cO h ad md n o S) H) (hS : va_S (wA (cL h ad n) s.heap.size) s.heap H locs) {i : Nat} (hi : i < n) (k : Nat) (hk : k < 13) (hlink : Cond.fieldLink RX1 index "DozingDevices$Device" (TX0 k).2.1 (TX0 k).2.2.1 ∈ Ts) (hT : (TX0 k).1 = "DozingDevices$Device" ∧ (TX0 k).2.2.2 = false) {x : Int32} (hnr : narrow (tyX0 k) (.int x) = .int x) (hft : fits (tyX0 k) (.int x) = true) (hdg : decode cc pc = .ok (.putfield index, 3))
    (kk : ∀ (H1 : Heap) (locs1 : List Loc), va_P D vwCl (cW cO h ad md n o (S.1, up2 S.2.1 k i x, S.2.2)) H1 → va_S (wA (cL h ad n) s.heap.size) s.heap H1 locs1 → W p l e R s m args below meth c H1 locs1 cells slots Q (F0 m (pc + 3) ls rest)) : W p l e R s m args below meth c H locs cells slots Q (F0 m pc ls (.int x :: .ref (ad i) :: rest)) := by
  refine va_put (ci := 1) (C := RX0) (T := TX0) (N := 13) (ty := tyX0 k) hx hb hts hin tyX0 tyX0_ok nmX0 hown hK hP (wD cW_L hn (fun _ h => Or.inl h)) hS (3 + i) (cW_dv hi) rfl k hk (hts _ hlink) (fun _ h => by rw [hT.1] at h; exact h) hT.2 (tyX0_ok k hk) hnr hft (by show k < 13; exact hk) hdg (fun H1 locs1 hP1 _ hS1 => ?_)
  rw [cW_dput hi hk] at hP1
  exact kk H1 locs1 hP1 hS1
theorem c_cast (hx : p.tables.exec = Jvm.exec) (hb : c.code = cc) (hts : ∀ w ∈ Ts, w.before args s = true) (hown : s.vm.findClass RX1 = some m.cls) (hK : va_K D vwCl (cT cO) s) (hP : va_P D vwCl (cW cO h ad md n o S) H) {i : Nat} (hi : i < n) (hlink : Cond.classLink RX1 index "DozingDevices$Device" ∈ Ts) (hdg : decode cc pc = .ok (.checkcast index, 3))
    (kk : W p l e R s m args below meth c H locs cells slots Q (F0 m (pc + 3) ls (.ref (ad i) :: rest))) : W p l e R s m args below meth c H locs cells slots Q (F0 m pc ls (.ref (ad i) :: rest)) :=
  va_castS (nm := "DozingDevices$Device") (cC := D.1 1) hx hb hown (hts _ hlink) (hK.1 1 (RX0, TX0, 13) rfl).2 (va_recv (ci := 1) (q0 := 3 + i) hK hP rfl (cW_dv hi)) hdg kk
end CK
/-- what the machine needs of a state: the order stays among the devices, each bears its number, the due one is one of them -/
def cOk (n : Nat) (o : Nat → Nat) (S : cSt) : Prop := n ≤ 12 ∧ (∀ i, i < n → o i < n) ∧ (∀ i, i < n → S.2.1 0 i = nI i) ∧ ∀ i, S.2.2 = some i → i < n
theorem cOk_due {n : Nat} {o : Nat → Nat} {V : Nat → Int32} {F : Nat → Nat → Int32} {u : Option Nat} (V1 : Nat → Int32) {j : Nat} (h : cOk n o (V, F, u)) (hj : j < n) : cOk n o (V1, F, some j) := ⟨h.1, h.2.1, h.2.2.1, fun i q => by cases q; exact hj⟩
theorem cOk_none {n : Nat} {o : Nat → Nat} {V : Nat → Int32} {F : Nat → Nat → Int32} {u : Option Nat} (V1 : Nat → Int32) (h : cOk n o (V, F, u)) : cOk n o (V1, F, none) := ⟨h.1, h.2.1, h.2.2.1, fun i q => by cases q⟩
