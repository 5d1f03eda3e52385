/-! what the JDK's lists need of the machine's tables and statics; worlds by membership -/
abbrev ocell (cO : ClassId) (cp : Nat) (f : Nat → Option Nat) : va_E := .inl (cO, cp, .inr (.inr (.inr (.inr f))))
abbrev dcell (vs : List Value) : va_E := .inr (1, vs)
abbrev lcell (md : Int32) (ea n : Nat) : va_E := .inr (0, [.int md, .ref ea, .int (nI n)])
def jE (mi : Nat) (U : State) : Prop := va_AO "java/lang/Object" U ∧ va_Nw (.castable "DozingDevices$Device" "java/lang/Object") U ∧ va_Dc U ∧ va_Mi "[Ljava/lang/Object;" mi U
theorem jE.warm {mi : Nat} {s U : State} (hW : s.WarmedH U.vm) (h : jE mi s) : jE mi U := ⟨h.1.moved hW.alike, va_Nw.warmC hW h.2.1, h.2.2.1.moved hW.alike, h.2.2.2.moved hW.alike⟩
theorem jE.same {mi : Nat} {u U : State} (hv : u.vm = U.vm) (h : jE mi u) : jE mi U := by
  have ha : u.vm.Alike U.vm := by rw [hv]; exact Vm.Alike.refl _
  exact ⟨h.1.moved ha, va_Nw.same rfl hv h.2.1, h.2.2.1.moved ha, h.2.2.2.moved ha⟩
def jS (e0 : Nat) (A : Nat → Prop) (U : State) (H : Heap) : Prop := va_Z "java/util/ArrayList" "DEFAULTCAPACITY_EMPTY_ELEMENTDATA" "[Ljava/lang/Object;" (.ref e0) A U H ∧ va_T (.object "java/lang/Object") e0 0 (fun _ => .null) A U H
theorem jS.moved {e0 : Nat} {A : Nat → Prop} {u U : State} {H : Heap} (hvm : u.vm.Alike U.vm) (h : jS e0 A u H) : jS e0 A U H := ⟨va_Z.moved hvm h.1, va_T.moved hvm h.2⟩
theorem jS.kept {e0 : Nat} {A : Nat → Prop} {U : State} {H H1 : Heap} (h : jS e0 A U H) (hq : ∀ a : Nat, a < H.size → ¬ A a → H1[a]? = H[a]?) : jS e0 A U H1 := ⟨h.1.kept hq, h.2.kept hq⟩
theorem jS.narrow {e0 : Nat} {A B : Nat → Prop} {U : State} {H : Heap} (h : jS e0 A U H) (hAB : ∀ q, B q → A q) : jS e0 B U H := ⟨h.1.narrow hAB, h.2.narrow hAB⟩
theorem va_P.mem {D : va_G} {cl : List vw_C} {ws ws' : va_W} {H : Heap} (h : va_P D cl ws H) (hs : ∀ q ∈ ws', q ∈ ws) : va_P D cl ws' H := fun k q hk => by
  obtain ⟨i, hi⟩ := List.getElem?_of_mem (hs q (List.mem_of_getElem? hk))
  exact h i q hi
theorem va_P.lt' {D : va_G} {cl : List vw_C} {ws : va_W} {H : Heap} (h : va_P D cl ws H) : ∀ q ∈ ws.map (fun q => q.1), q < H.size := fun q hq => by
  obtain ⟨x, hx, rfl⟩ := List.mem_map.mp hq
  obtain ⟨i, hi⟩ := List.getElem?_of_mem hx
  exact (h i x hi).lt
theorem va_D.fresh {L : List Nat} {sz q : Nat} {e : va_E} {ws : va_W} (hD : va_D (wA L sz) (ws ++ [(q, e)])) (hL : ∀ x ∈ L, x ∈ ws.map (fun q => q.1)) : sz ≤ q := by
  have hq : (ws ++ [(q, e)])[ws.length]? = some (q, e) := by simp
  rcases hD.2 ws.length _ hq with h | h
  · obtain ⟨x, hx, hxe⟩ := List.mem_map.mp (hL q h)
    obtain ⟨i, hi⟩ := List.getElem?_of_mem hx
    have hil : i < ws.length := (List.getElem?_eq_some_iff.mp hi).1
    have hi2 : (ws ++ [(q, e)])[i]? = some x := by rw [List.getElem?_append_left hil]; exact hi
    have := hD.1 i ws.length x (q, e) hi2 hq hxe
    omega
  · exact h
theorem va_RA.uq {U : State} {cA cB : ClassId} {C : String} (h1 : va_RA U cA (.object C)) (h2 : va_RA U cB (.object C)) : cA = cB := by
  obtain ⟨_, _, _, _, _, e1⟩ := h1
  obtain ⟨_, _, _, _, _, e2⟩ := h2
  exact Option.some.inj (e1.symm.trans e2)
theorem oarr {D : va_G} {cO cA : ClassId} {U : State} {t : List (ClassId × FieldType)} (h : va_K D vwCl (cT cO ++ [(cA, .object "java/lang/Object")]) U) : cA = cO := (h.2 1 _ rfl).2.uq (h.2 0 _ rfl).2
theorem jcast {s : State} (h : va_Nw (.castable "DozingDevices$Device" "java/lang/Object") s) : ∀ comp c0 : ClassId, s.vm.findClass "java/lang/Object" = some comp → s.vm.findClass RX0 = some c0 → s.vm.assignable c0 comp = true := fun comp c0 h1 h2 => by
  obtain ⟨c1, t1, f1, f2, f3⟩ := Cond.castable_spec (va_Nw.use (A := #[]) rfl h)
  cases h2.symm.trans f1
  cases h1.symm.trans f2
  exact f3
/-- a new array is the answer -/
def mN (l : Launch) (y : MethodName) (ws : List Cond) (rm : Room) (D : va_G) (cO : ClassId) (mi e0 : Nat) (av : List Value) (w0 : va_W) (w1 : Nat → va_W) (mc ms : Nat) : Prop :=
  ∀ sz : Nat, Met l y ws rm (va_Pc av (fun U => U.heap.size = sz ∧ va_P D vwCl w0 U.heap ∧ va_K D vwCl (cT cO) U ∧ jE mi U ∧ jS e0 (wA (w0.map (fun q => q.1)) sz) U U.heap)) (va_Qr (fun _ : Unit => True) (fun _ a t => sz ≤ a ∧ va_P D vwCl (w1 a) t.heap ∧ va_K D vwCl (cT cO) t) (wA (w0.map (fun q => q.1)) sz)) mc ms (wA (w0.map (fun q => q.1)) sz)
theorem mN_blind {D : va_G} {cO : ClassId} {mi e0 sz : Nat} {A : Nat → Prop} {av : List Value} {w0 : va_W} : FrameBlind (va_Pc av (fun U => U.heap.size = sz ∧ va_P D vwCl w0 U.heap ∧ va_K D vwCl (cT cO) U ∧ jE mi U ∧ jS e0 A U U.heap)) := fun a U g mk q => by
  obtain ⟨q0, q1, qP, qK, qE, qS⟩ := q
  exact ⟨q0, q1, qP, va_K.moved (u := U) (U := U.calling g mk a) (Vm.Alike.refl U.vm) qK, jE.same (u := U) (U := U.calling g mk a) rfl qE, jS.moved (u := U) (U := U.calling g mk a) (Vm.Alike.refl U.vm) qS⟩
section MNC
variable {p : Program} {l : Launch} {e : Env} {R : Room} {s : State} {m : MethodId} {args : Array Value} {below : List Frame} {meth : Method} {c : Code} {H : Heap} {locs : List Loc} {cells slots : Nat} {Q : State → Prop}
variable {cc bytes : ByteArray} {pc index nL n maxL mc ms mi e0 : Nat} {ls : Array Slot} {rest st0 As : List Value} {y : MethodName} {ws Ts : List Cond} {rm : Room} {ret : Option FieldType} {own C : String} {b : Nat} {D : va_G} {cO : ClassId} {w0 : va_W} {w1 : Nat → va_W} {A0 : Nat → Prop}
theorem jS.call (hZ : jS e0 A0 s s.heap) (hS : va_S A0 s.heap H locs) (hA : ∀ q, wA (w0.map (fun q => q.1)) H.size q → A0 q) {U : State} (hU : U.heap = H) (hW : s.WarmedH U.vm) : jS e0 (wA (w0.map (fun q => q.1)) H.size) U U.heap := by
  rw [hU]
  exact ((hZ.kept (H1 := H) hS.2.1).moved hW.alike).narrow hA
theorem m_callNv (S : CallFix p m c cc nL s args Ts own) (hM : mN l y ws rm D cO mi e0 (.ref b :: As) w0 w1 mc ms) (cw : CallW R s args own C index y bytes maxL ret ws rm mc ms n) (hK : va_K D vwCl (cT cO) s) (hP : va_P D vwCl w0 H) (hS : va_S A0 s.heap H locs) (hA : ∀ q, wA (w0.map (fun q => q.1)) H.size q → A0 q) (hE : jE mi s) (hZ : jS e0 A0 s s.heap)
    (hrec : ∃ cellB : Cell, H[b]? = some cellB ∧ cellB.vm.isStatics = false ∧ s.vm.findClass C = some cellB.cls) (hn : As.length = n) (hsize : ls.size = nL) (hstack : st0 = As.reverse ++ .ref b :: rest) (hW : (rest.map fun v => v.category).sum ≤ 8) (hdg : decode cc pc = .ok (.invokevirtual index, 3)) (hf : cells + mc ≤ R.cells ∧ slots + ms ≤ R.slots)
    (kk : ∀ (ra : Nat) (H1 : Heap) (locs1 : List Loc), H.size ≤ ra → va_P D vwCl (w1 ra) H1 → va_S A0 s.heap H1 locs1 → (∀ q : Nat, q < H.size → ¬ wA (w0.map (fun q => q.1)) H.size q → H1[q]? = H[q]?) → W p l e R s m args below meth c H1 locs1 (cells + mc) (slots + ms) Q (F0 m (pc + 3) ls (.ref ra :: rest))) : W p l e R s m args below meth c H locs cells slots Q (F0 m pc ls st0) := by
  refine va_callr (va_runV (As := As) (rest := rest) S (hM H.size) cw ⟨mN_blind, hrec, fun U hU hw => ⟨rfl, by rw [hU], by rw [hU]; exact hP, va_K.moved hw.alike hK, hE.warm hw, hZ.call hS hA hU hw⟩⟩ rfl hn hsize hstack (lv_room hW) hdg hf) hS (fun q _ h => hA q h) hA (fun u ra t H1 locs1 ht hvm hw hB hz1 hk1 hS1 => ?_)
  obtain ⟨hf1, hP1, hK1⟩ := hB
  rw [ht] at hP1
  exact kk ra H1 locs1 hf1 hP1 hS1 hk1
theorem m_callNs (S : CallFix p m c cc nL s args Ts own) (hM : mN l y ws rm D cO mi e0 As w0 w1 mc ms) (cw : CallB R s args own index y bytes maxL ret ws rm mc ms n ∧ (Cond.static y).before args s = true) (hK : va_K D vwCl (cT cO) s) (hP : va_P D vwCl w0 H) (hS : va_S A0 s.heap H locs) (hA : ∀ q, wA (w0.map (fun q => q.1)) H.size q → A0 q) (hE : jE mi s) (hZ : jS e0 A0 s s.heap)
    (hn : As.length = n) (hsize : ls.size = nL) (hstack : st0 = As.reverse ++ rest) (hW : (rest.map fun v => v.category).sum ≤ 8) (hdg : decode cc pc = .ok (.invokestatic index, 3)) (hf : cells + mc ≤ R.cells ∧ slots + ms ≤ R.slots)
    (kk : ∀ (ra : Nat) (H1 : Heap) (locs1 : List Loc), H.size ≤ ra → va_P D vwCl (w1 ra) H1 → va_S A0 s.heap H1 locs1 → (∀ q : Nat, q < H.size → ¬ wA (w0.map (fun q => q.1)) H.size q → H1[q]? = H[q]?) → W p l e R s m args below meth c H1 locs1 (cells + mc) (slots + ms) Q (F0 m (pc + 3) ls (.ref ra :: rest))) : W p l e R s m args below meth c H locs cells slots Q (F0 m pc ls st0) := by
  refine va_callr (va_runS (As := As) (rest := rest) S (hM H.size) cw ⟨mN_blind, fun U hU hw => ⟨rfl, by rw [hU], by rw [hU]; exact hP, va_K.moved hw.alike hK, hE.warm hw, hZ.call hS hA hU hw⟩⟩ rfl hn hsize hstack (lv_room hW) hdg hf) hS (fun q _ h => hA q h) hA (fun u ra t H1 locs1 ht hvm hw hB hz1 hk1 hS1 => ?_)
  obtain ⟨hf1, hP1, hK1⟩ := hB
  rw [ht] at hP1
  exact kk ra H1 locs1 hf1 hP1 hS1 hk1
end MNC

set_option maxHeartbeats 4000000 in
set_option maxRecDepth 100000 in
theorem c_J_newLength (l : Launch) (D : va_G) (tys : List (ClassId × FieldType)) (w0 : va_W) : mR l yJ8_newLength_cabcc wsJ8_newLength_cabcc (rmz 1 24) D tys [.int 10, .int 1, .int 5] w0 15 := by
  refine Met.ofW (cc := cJ8_newLength_cabcc) (maxL := 4) (ret := (some .int)) (by decide) rfl ?_
  intro p e s m args below meth c s₁ B hml hv
  obtain ⟨rfl, hP, hK⟩ := hv
  have hx := B.exec
  have hb := B.bytes
  have hr := B.returns
  have hts := atoms_spec (ws := wsJ8_newLength_cabcc) B.pre
  have hown : s.vm.findClass RJ8 = some m.cls := findClass_of_methodNamed B.named
  have hlocks := B.notSynchronized
  have hl := lv_entry ([.int 10, .int 1, .int 5]) (n := 4) (Nat.le_of_ble_eq_true rfl)
  rw [lg_entry_eq]
  generalize (lg_sl ([.int 10, .int 1, .int 5]) ++ List.replicate (4 - (lg_sl ([.int 10, .int 1, .int 5])).length) Slot.unset).toArray = ls at hl ⊢
  have hl : lv_has ls 4 [(0, .int 10), (1, .int 1), (2, .int 5)] := hl
  refine lv_iload_n hx hb dJ8_newLength_cabcc_0 rfl (lv_at hl 0 rfl) ?_
  refine lv_iload_n hx hb dJ8_newLength_cabcc_1 rfl (lv_at hl 1 rfl) ?_
  refine lv_iload_n hx hb dJ8_newLength_cabcc_2 rfl (lv_at hl 2 rfl) ?_
  refine va_mmax hx hb (hml.trans hl.1.symm) hown (hts (.methodLink RJ8 194 Lib.Math.max.name) (by decide +kernel)) (hts (.static Lib.Math.max.name) (by decide +kernel)) (hts (.initialized "java/lang/Math") (by decide +kernel)) (hts (.code Lib.Math.max.name Lib.Math.max.code 2 (some .int)) (by decide +kernel)) (Nat.le_of_ble_eq_true rfl) (Nat.le_of_ble_eq_true rfl) (Nat.zero_le _) (Nat.zero_le _) dJ8_newLength_cabcc_3 ?_
  refine lv_iadd hx hb dJ8_newLength_cabcc_6 ?_
  rw [show (10 : Int32) + (if (1 : Int32) < 5 then 5 else 1) = 15 from by decide]
  refine lv_istore_n (lv' := [(3, .int 15), (0, .int 10), (1, .int 1), (2, .int 5)]) hx hb dJ8_newLength_cabcc_7 rfl hl (by decide) rfl (fun ls hl => ?_)
  refine lv_iconst (v := 0) hx hb dJ8_newLength_cabcc_8 (by decide) ?_
  refine lv_iload_n hx hb dJ8_newLength_cabcc_9 rfl (lv_at hl 0 rfl) ?_
  refine lv_icmp_ge (tgt := 21) hx hb dJ8_newLength_cabcc_10 (by decide) (fun c1 => ?_) (fun c1 => ?_)
  · exact absurd c1 (by decide)
  · refine lv_iload_n hx hb dJ8_newLength_cabcc_13 rfl (lv_at hl 0 rfl) ?_
    refine lv_ldc (v := 2147483639) hx hb hown (hts (.constant RJ8 200 (2147483639)) (by decide +kernel)) dJ8_newLength_cabcc_14 ?_
    refine lv_icmp_gt (tgt := 21) hx hb dJ8_newLength_cabcc_16 (by decide) (fun c2 => ?_) (fun c2 => ?_)
    · exact absurd c2 (by decide)
    · refine lv_iload_n hx hb dJ8_newLength_cabcc_19 rfl (lv_at hl 0 rfl) ?_
      exact W.iret (v := 15) hx hb hr (fun tt ht hW => ⟨15, rfl, rfl, ht⟩) (fun q hq => by cases hq) dJ8_newLength_cabcc_20

set_option maxHeartbeats 4000000 in
set_option maxRecDepth 100000 in
theorem c_J_copyOf3 (l : Launch) (D : va_G) (cO : ClassId) (mi e0 : Nat) (w0 : va_W) (hnd : (w0.map (fun q => q.1)).Nodup) (q1 ea : Nat) (f : Nat → Option Nat) (ha : w0[q1]? = some (ea, ocell cO 10 (f))) (hel : ∀ i, i < 10 → ∀ y : Nat, f i = some y → ∃ (k : Nat) (vs : List Value), w0[k]? = some (y, dcell vs)) : mN l yJ7_copyOf_6403c wsJ7_copyOf_6403c ({ frames := 1, cells := 1, slots := 15, locals := 26 }) D cO mi e0 [.ref ea, .int 15, .ref mi] w0 (fun a => w0 ++ [(a, ocell cO 15 (va_cpy f (fun _ => none) 0 0 10))]) 1 15 := by
  intro sz
  refine Met.ofW (cc := cJ7_copyOf_6403c) (maxL := 4) (ret := (some (.array (.object "java/lang/Object")))) (by decide) rfl ?_
  intro p e s m args below meth c s₁ B hml hv
  obtain ⟨rfl, hsz, hP, hK, hE, hZ⟩ := hv
  have hx := B.exec
  have hb := B.bytes
  have hr := B.returns
  have hts := atoms_spec (ws := wsJ7_copyOf_6403c) B.pre
  have hown : s.vm.findClass RJ7 = some m.cls := findClass_of_methodNamed B.named
  have hlocks := B.notSynchronized
  subst hsz
  have hD : va_D (wA (w0.map (fun q => q.1)) s.heap.size) w0 := wD rfl hnd (fun _ h => Or.inl h)
  have hS : va_S (wA (w0.map (fun q => q.1)) s.heap.size) s.heap s.heap [] := va_S.rf
  have hA : ∀ q : Nat, s.heap.size ≤ q → wA (w0.map (fun q => q.1)) s.heap.size q := fun q h => Or.inr h
  have hl := lv_entry ([.ref ea, .int 15, .ref mi]) (n := 4) (Nat.le_of_ble_eq_true rfl)
  rw [lg_entry_eq]
  generalize (lg_sl ([.ref ea, .int 15, .ref mi]) ++ List.replicate (4 - (lg_sl ([.ref ea, .int 15, .ref mi])).length) Slot.unset).toArray = ls at hl ⊢
  have hl : lv_has ls 4 [(0, .ref ea), (1, .int 15), (2, .ref mi)] := hl
  refine lv_aload_n hx hb dJ7_copyOf_6403c_0 rfl (lv_at hl 2 rfl) ?_
  refine va_ldcM (C := "[Ljava/lang/Object;") hx hb hown (hts (.classLink RJ7 110 "[Ljava/lang/Object;") (by decide +kernel)) hE.2.2.2 dJ7_copyOf_6403c_1 ?_
  refine lv_acmp_ne (rx := some mi) (ry := some mi) (tgt := 13) hx hb dJ7_copyOf_6403c_3 (by decide) (fun c1 => ?_) (fun c1 => ?_)
  · exact absurd rfl c1
  · refine lv_iload_n hx hb dJ7_copyOf_6403c_6 rfl (lv_at hl 1 rfl) ?_
    refine va_newq (C := "java/lang/Object") (N' := 15) hx hb hown (hts (.classLink RJ7 2 "java/lang/Object") (by decide +kernel)) hE.1 hK hP hD hS hA (by decide) (by decide) (by decide) (Nat.le_of_ble_eq_true rfl) (Nat.le_of_ble_eq_true rfl) dJ7_copyOf_6403c_7 (fun q cA H hK2 hP hD hS => ?_)
    have hcA : cA = cO := oarr (t := []) hK2
    subst hcA
    have hfr : s.heap.size ≤ q := hD.fresh (fun _ h => h)
    refine lv_goto (tgt := 24) hx hb dJ7_copyOf_6403c_10 (by decide) ?_
    refine lv_astore_n (lv' := [(3, .ref q), (0, .ref ea), (1, .int 15), (2, .ref mi)]) hx hb dJ7_copyOf_6403c_24 rfl hl (by decide) rfl (fun ls hl => ?_)
    refine lv_aload_n hx hb dJ7_copyOf_6403c_25 rfl (lv_at hl 1 rfl) ?_
    refine lv_iconst (v := 0) hx hb dJ7_copyOf_6403c_26 (by decide) ?_
    refine lv_aload_n hx hb dJ7_copyOf_6403c_27 rfl (lv_at hl 0 rfl) ?_
    refine lv_iconst (v := 0) hx hb dJ7_copyOf_6403c_28 (by decide) ?_
    refine lv_aload_n hx hb dJ7_copyOf_6403c_29 rfl (lv_at hl 1 rfl) ?_
    have ha2 : (w0 ++ [(q, ocell cA 15 (fun _ => none))])[q1]? = some (ea, ocell cA 10 f) := by rw [List.getElem?_append_left (List.getElem?_eq_some_iff.mp ha).1]; exact ha
    have hq2 : (w0 ++ [(q, ocell cA 15 (fun _ => none))])[w0.length]? = some (q, ocell cA 15 (fun _ => none)) := by simp
    refine va_alen hx hb hK hP q1 0 ha2 rfl (v := 10) rfl dJ7_copyOf_6403c_30 ?_
    refine lv_iload_n hx hb dJ7_copyOf_6403c_31 rfl (lv_at hl 2 rfl) ?_
    refine va_mmin hx hb (hml.trans hl.1.symm) hown (hts (.methodLink RJ7 304 Lib.Math.min.name) (by decide +kernel)) (hts (.static Lib.Math.min.name) (by decide +kernel)) (hts (.initialized "java/lang/Math") (by decide +kernel)) (hts (.code Lib.Math.min.name Lib.Math.min.code 2 (some .int)) (by decide +kernel)) (Nat.le_of_ble_eq_true rfl) (Nat.le_of_ble_eq_true rfl) (Nat.le_of_ble_eq_true rfl) (Nat.le_of_ble_eq_true rfl) dJ7_copyOf_6403c_32 ?_
    rw [show (if (15 : Int32) < 10 then (15 : Int32) else 10) = 10 from by decide]
    have hany : ∀ i : Nat, i < (10 : Int32).toNatClampNeg → ∀ y : Nat, f ((0 : Int32).toNatClampNeg + i) = some y → va_Any "java/lang/Object" s H y := by
      intro i hi y hy
      rw [show (0 : Int32).toNatClampNeg + i = i from Nat.zero_add i] at hy
      obtain ⟨k, vs, hk⟩ := hel i hi y hy
      have hk2 : (w0 ++ [(q, ocell cA 15 (fun _ => none))])[k]? = some (y, dcell vs) := by rw [List.getElem?_append_left (List.getElem?_eq_some_iff.mp hk).1]; exact hk
      exact va_rAny hK hP hk2 (r := (RX0, TX0, 13)) rfl (jcast hE.2.1)
    refine va_copyM hx hb (hml.trans hl.1.symm) hown (hts (.methodLink RJ7 150 arraycopyName) (by decide +kernel)) (hts (.native arraycopyName) (by decide +kernel)) (hts (.static arraycopyName) (by decide +kernel)) (hts (.initialized "java/lang/System") (by decide +kernel)) hK hP hD hS q1 w0.length 0 0 ha2 hq2 rfl rfl (by decide) (by decide) (by decide) (by decide) (by decide) hany (Nat.le_of_ble_eq_true rfl) (Nat.le_of_ble_eq_true rfl) dJ7_copyOf_6403c_35 (fun H locs hP hD hS => ?_)
    have hP : va_P D vwCl (w0 ++ [(q, ocell cA 15 (va_cpy f (fun _ => none) 0 0 10))]) H := by
      have e : (w0 ++ [(q, ocell cA 15 (fun _ => none))]).set w0.length (q, ocell cA 15 (va_cpy f (fun _ => none) 0 0 10)) = w0 ++ [(q, ocell cA 15 (va_cpy f (fun _ => none) 0 0 10))] := by rw [List.set_append_right _ _ (Nat.le_refl _), Nat.sub_self]; rfl
      rw [← e]; exact hP
    refine lv_aload_n hx hb dJ7_copyOf_6403c_38 rfl (lv_at hl 0 rfl) ?_
    exact W.aret (v := .ref q) hx hb hr (Or.inr ⟨_, rfl⟩) (Or.inr ⟨_, rfl⟩) (fun tt ht hW => ⟨⟨(), q, rfl, trivial, hfr, by rw [ht]; exact hP, va_K.moved hW.alike hK⟩, hS.F ht⟩) hS.2.2 dJ7_copyOf_6403c_39
