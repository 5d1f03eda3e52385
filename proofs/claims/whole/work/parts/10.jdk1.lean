/-! calls that are static or answer a reference; the JDK's own reads of a list -/
section MC2
variable {p : Program} {l : Launch} {e : Env} {R : Room} {s : State} {m : MethodId} {args : Array Value} {below : List Frame} {meth : Method} {c : Code} {H : Heap} {locs : List Loc} {cells slots : Nat} {Q : State → Prop}
variable {cc bytes : ByteArray} {pc index nL n maxL : Nat} {ls : Array Slot} {rest st0 As : List Value} {y : MethodName} {ws Ts : List Cond} {rm : Room} {ret : Option FieldType} {own C : String} {b : Nat} {D : va_G} {tys : List (ClassId × FieldType)} {w0 : va_W} {ans : Int32} {qns : Option Nat}
theorem m_callRS (S : CallFix p m c cc nL s args Ts own) (hM : mR l y ws rm D tys As w0 ans) (cw : CallB R s args own index y bytes maxL ret ws rm 0 0 n ∧ (Cond.static y).before args s = true) (hK : va_K D vwCl tys s) (hP : va_P D vwCl w0 H)
    (hn : As.length = n) (hsize : ls.size = nL) (hstack : st0 = As.reverse ++ rest) (hW : (rest.map fun v => v.category).sum ≤ 8) (hdg : decode cc pc = .ok (.invokestatic index, 3)) (hf : cells + 0 ≤ R.cells ∧ slots + 0 ≤ R.slots)
    (kk : W p l e R s m args below meth c H locs cells slots Q (F0 m (pc + 3) ls (.int ans :: rest))) : W p l e R s m args below meth c H locs cells slots Q (F0 m pc ls st0) := by
  refine vp_callSi (W.runS (As := As) (rest := rest) S hM cw ⟨m_blindR, fun U hU hw => ⟨rfl, by rw [hU]; exact hP, va_K.moved hw.alike hK⟩⟩ rfl hn hsize hstack (lv_room hW) hdg hf) (fun r hr => ?_)
  subst hr
  exact kk
theorem m_callQ (S : CallFix p m c cc nL s args Ts own) (hM : mQ l y ws rm D tys (.ref b :: As) w0 qns) (cw : CallW R s args own C index y bytes maxL ret ws rm 0 0 n) (hK : va_K D vwCl tys s) (hP : va_P D vwCl w0 H)
    (hrec : ∃ cellB : Cell, H[b]? = some cellB ∧ cellB.vm.isStatics = false ∧ s.vm.findClass C = some cellB.cls) (hn : As.length = n) (hsize : ls.size = nL) (hstack : st0 = As.reverse ++ .ref b :: rest) (hW : (rest.map fun v => v.category).sum ≤ 8) (hdg : decode cc pc = .ok (.invokevirtual index, 3)) (hf : cells + 0 ≤ R.cells ∧ slots + 0 ≤ R.slots)
    (kk : W p l e R s m args below meth c H locs cells slots Q (F0 m (pc + 3) ls (va_rf qns :: rest))) : W p l e R s m args below meth c H locs cells slots Q (F0 m pc ls st0) := by
  refine va_csq (W.runV (As := As) (rest := rest) S hM cw ⟨m_blindR, hrec, fun U hU hw => ⟨rfl, by rw [hU]; exact hP, va_K.moved hw.alike hK⟩⟩ rfl hn hsize hstack (lv_room hW) hdg hf) (fun r hr => ?_)
  subst hr
  exact kk
end MC2
theorem va_rf_cases (r : Option Nat) : va_rf r = .null ∨ ∃ a, va_rf r = .ref a := by cases r <;> simp [va_rf]
set_option maxHeartbeats 4000000 in
set_option maxRecDepth 100000 in
theorem c_J3_checkIndex (l : Launch) (D : va_G) (tys : List (ClassId × FieldType)) (w0 : va_W) (i n : Nat) (hi : i < n) (hn : n < 2 ^ 31) : mR l yJ3_checkIndex_8e157 wsJ3_checkIndex_8e157 (rmz 0 0) D tys [.int (nI i), .int (nI n), .null] w0 (nI i) := by
  refine Met.ofW (cc := cJ3_checkIndex_8e157) (maxL := 3) (ret := (some .int)) (by decide) rfl ?_
  intro p e s m args below meth c s₁ B hml hv
  obtain ⟨rfl, hP, hK⟩ := hv
  have hx := B.exec
  have hb := B.bytes
  have hr := B.returns
  have hlocks := B.notSynchronized
  have hl := lv_entry ([.int (nI i), .int (nI n), .null]) (n := 3) (Nat.le_of_ble_eq_true rfl)
  rw [lg_entry_eq]
  generalize (lg_sl ([.int (nI i), .int (nI n), .null]) ++ List.replicate (3 - (lg_sl ([.int (nI i), .int (nI n), .null])).length) Slot.unset).toArray = ls at hl ⊢
  have hl : lv_has ls 3 [(0, .int (nI i)), (1, .int (nI n)), (2, .null)] := hl
  refine lv_iload_n hx hb dJ3_checkIndex_8e157_0 rfl (lv_at hl 0 rfl) ?_
  refine lv_if_lt (tgt := 9) hx hb dJ3_checkIndex_8e157_1 (by decide) (fun c1 => ?_) (fun c1 => ?_)
  · exact absurd c1 (nI_pos (by omega))
  · refine lv_iload_n hx hb dJ3_checkIndex_8e157_4 rfl (lv_at hl 0 rfl) ?_
    refine lv_iload_n hx hb dJ3_checkIndex_8e157_5 rfl (lv_at hl 1 rfl) ?_
    refine lv_icmp_lt (tgt := 16) hx hb dJ3_checkIndex_8e157_6 (by decide) (fun c2 => ?_) (fun c2 => ?_)
    · refine lv_iload_n hx hb dJ3_checkIndex_8e157_16 rfl (lv_at hl 0 rfl) ?_
      exact W.iret (v := nI i) hx hb hr (fun tt ht hW => ⟨nI i, rfl, rfl, ht⟩) (fun q hq => by cases hq) dJ3_checkIndex_8e157_17
    · exact absurd (nI_lt hi hn) c2
set_option maxHeartbeats 4000000 in
set_option maxRecDepth 100000 in
theorem c_J15_checkIndex (l : Launch) (D : va_G) (tys : List (ClassId × FieldType)) (w0 : va_W) (i n : Nat) (hi : i < n) (hn : n < 2 ^ 31) : mR l yJ15_checkIndex_7cf53 wsJ15_checkIndex_7cf53 (rmz 1 22) D tys [.int (nI i), .int (nI n)] w0 (nI i) := by
  refine Met.ofW (cc := cJ15_checkIndex_7cf53) (maxL := 2) (ret := (some .int)) (by decide) rfl ?_
  intro p e s m args below meth c s₁ B hml hv
  obtain ⟨rfl, hP, hK⟩ := hv
  have hx := B.exec
  have hb := B.bytes
  have hr := B.returns
  have hts := atoms_spec (ws := wsJ15_checkIndex_7cf53) B.pre
  have hown : s.vm.findClass RJ15 = some m.cls := findClass_of_methodNamed B.named
  have hlocks := B.notSynchronized
  have hl := lv_entry ([.int (nI i), .int (nI n)]) (n := 2) (Nat.le_of_ble_eq_true rfl)
  rw [lg_entry_eq]
  generalize (lg_sl ([.int (nI i), .int (nI n)]) ++ List.replicate (2 - (lg_sl ([.int (nI i), .int (nI n)])).length) Slot.unset).toArray = ls at hl ⊢
  have hl : lv_has ls 2 [(0, .int (nI i)), (1, .int (nI n))] := hl
  refine lv_iload_n hx hb dJ15_checkIndex_7cf53_0 rfl (lv_at hl 0 rfl) ?_
  refine lv_iload_n hx hb dJ15_checkIndex_7cf53_1 rfl (lv_at hl 1 rfl) ?_
  refine lv_null hx hb dJ15_checkIndex_7cf53_2 ?_
  refine m_callRS (As := [.int (nI i), .int (nI n), .null]) (rest := []) ⟨hx, hb, hml, hown, hts⟩ (c_J3_checkIndex l D tys w0 i n hi hn) (va_cwS 3 hts gJ15_checkIndex_7cf53_J3_checkIndex_8e157 rfl rfl rfl (by decide +kernel) ⟨Nat.le_of_ble_eq_true rfl, Nat.le_of_ble_eq_true rfl⟩) hK hP rfl hl.1 rfl (Nat.le_of_ble_eq_true rfl) dJ15_checkIndex_7cf53_3 ⟨Nat.zero_le _, Nat.zero_le _⟩ ?_
  exact W.iret (v := nI i) hx hb hr (fun tt ht hW => ⟨nI i, rfl, rfl, ht⟩) (fun q hq => by cases hq) dJ15_checkIndex_7cf53_6
set_option maxHeartbeats 4000000 in
set_option maxRecDepth 100000 in
theorem c_J_size (l : Launch) (D : va_G) (tys : List (ClassId × FieldType)) (w0 : va_W) (q q0 ea : Nat) (md sz : Int32) (he : w0[q0]? = some (q, .inr (0, [.int md, .ref ea, .int sz]))) : mR l yJx4a65c_size_8abf5 wsJx4a65c_size_8abf5 (rmz 0 0) D tys [.ref q] w0 sz := by
  refine Met.ofW (cc := cJx4a65c_size_8abf5) (maxL := 1) (ret := (some .int)) (by decide) rfl ?_
  intro p e s m args below meth c s₁ B hml hv
  obtain ⟨rfl, hP, hK⟩ := hv
  have hx := B.exec
  have hb := B.bytes
  have hr := B.returns
  have hts := atoms_spec (ws := wsJx4a65c_size_8abf5) B.pre
  have hin : ∀ w ∈ wsJx4a65c0, w ∈ wsJx4a65c_size_8abf5 := fun w h => List.mem_cons_of_mem _ (List.mem_append_right _ h)
  have hown : s.vm.findClass RJx4a65c = some m.cls := findClass_of_methodNamed B.named
  have hlocks := B.notSynchronized
  have hl := lv_entry ([.ref q]) (n := 1) (Nat.le_of_ble_eq_true rfl)
  rw [lg_entry_eq]
  generalize (lg_sl ([.ref q]) ++ List.replicate (1 - (lg_sl ([.ref q])).length) Slot.unset).toArray = ls at hl ⊢
  have hl : lv_has ls 1 [(0, .ref q)] := hl
  refine lv_aload_n hx hb dJx4a65c_size_8abf5_0 rfl (lv_at hl 0 rfl) ?_
  refine va_get (ci := 0) (v := .int sz) (C := RJx4a65c) (T := TJx4a65c) (N := 3) hx hb hts hin hown hK hP q0 he rfl 2 (by decide) (hts (.fieldLink RJx4a65c 48 "java/util/ArrayList" "size" "I") (by decide +kernel)) (fun _ h9 => h9) rfl dJx4a65c_size_8abf5_1 ?_
  exact W.iret (v := sz) hx hb hr (fun tt ht hW => ⟨sz, rfl, rfl, ht⟩) (fun q hq => by cases hq) dJx4a65c_size_8abf5_4
set_option maxHeartbeats 4000000 in
set_option maxRecDepth 100000 in
theorem c_J_elementData (l : Launch) (D : va_G) (tys : List (ClassId × FieldType)) (w0 : va_W) (q q0 ea q1 t0 cap i : Nat) (cO : ClassId) (f : Nat → Option Nat) (md sz : Int32) (he : w0[q0]? = some (q, .inr (0, [.int md, .ref ea, .int sz]))) (ha : w0[q1]? = some (ea, .inl (cO, cap, .inr (.inr (.inr (.inr f)))))) (ht : tys[t0]? = some (cO, .object "java/lang/Object")) (hi : i < cap) (hc : cap < 2 ^ 31) : mQ l yJx4a65c_elementData_915e3 wsJx4a65c_elementData_915e3 (rmz 0 0) D tys [.ref q, .int (nI i)] w0 (f i) := by
  refine Met.ofW (cc := cJx4a65c_elementData_915e3) (maxL := 2) (ret := (some (.object "java/lang/Object"))) (by decide) rfl ?_
  intro p e s m args below meth c s₁ B hml hv
  obtain ⟨rfl, hP, hK⟩ := hv
  have hx := B.exec
  have hb := B.bytes
  have hr := B.returns
  have hts := atoms_spec (ws := wsJx4a65c_elementData_915e3) B.pre
  have hin : ∀ w ∈ wsJx4a65c0, w ∈ wsJx4a65c_elementData_915e3 := fun w h => List.mem_cons_of_mem _ (List.mem_append_right _ h)
  have hown : s.vm.findClass RJx4a65c = some m.cls := findClass_of_methodNamed B.named
  have hlocks := B.notSynchronized
  have hl := lv_entry ([.ref q, .int (nI i)]) (n := 2) (Nat.le_of_ble_eq_true rfl)
  rw [lg_entry_eq]
  generalize (lg_sl ([.ref q, .int (nI i)]) ++ List.replicate (2 - (lg_sl ([.ref q, .int (nI i)])).length) Slot.unset).toArray = ls at hl ⊢
  have hl : lv_has ls 2 [(0, .ref q), (1, .int (nI i))] := hl
  refine lv_aload_n hx hb dJx4a65c_elementData_915e3_0 rfl (lv_at hl 0 rfl) ?_
  refine va_get (ci := 0) (v := .ref ea) (C := RJx4a65c) (T := TJx4a65c) (N := 3) hx hb hts hin hown hK hP q0 he rfl 1 (by decide) (hts (.fieldLink RJx4a65c 9 "java/util/ArrayList" "elementData" "[Ljava/lang/Object;") (by decide +kernel)) (fun _ h9 => h9) rfl dJx4a65c_elementData_915e3_1 ?_
  refine lv_iload_n hx hb dJx4a65c_elementData_915e3_4 rfl (lv_at hl 1 rfl) ?_
  refine va_aldq hx hb hK hP q1 t0 ha ht (vp_in_nI hi hc) dJx4a65c_elementData_915e3_5 ?_
  rw [nI_clamp (by omega)]
  exact W.aret (v := va_rf (f i)) hx hb hr (Or.inl ⟨_, rfl⟩) (va_rf_cases _) (fun tt ht hW => ⟨f i, rfl, rfl, ht⟩) (fun q hq => by cases hq) dJx4a65c_elementData_915e3_6
set_option maxHeartbeats 4000000 in
set_option maxRecDepth 100000 in
theorem c_J_get (l : Launch) (D : va_G) (tys : List (ClassId × FieldType)) (w0 : va_W) (q q0 ea q1 t0 cap i n : Nat) (cO : ClassId) (f : Nat → Option Nat) (md : Int32) (he : w0[q0]? = some (q, .inr (0, [.int md, .ref ea, .int (nI n)]))) (ha : w0[q1]? = some (ea, .inl (cO, cap, .inr (.inr (.inr (.inr f)))))) (ht : tys[t0]? = some (cO, .object "java/lang/Object")) (hi : i < n) (hn : n ≤ cap) (hc : cap < 2 ^ 31) : mQ l yJx4a65c_get_915e3 wsJx4a65c_get_915e3 (rmz 2 43) D tys [.ref q, .int (nI i)] w0 (f i) := by
  refine Met.ofW (cc := cJx4a65c_get_915e3) (maxL := 2) (ret := (some (.object "java/lang/Object"))) (by decide) rfl ?_
  intro p e s m args below meth c s₁ B hml hv
  obtain ⟨rfl, hP, hK⟩ := hv
  have hx := B.exec
  have hb := B.bytes
  have hr := B.returns
  have hts := atoms_spec (ws := wsJx4a65c_get_915e3) B.pre
  have hin : ∀ w ∈ wsJx4a65c0, w ∈ wsJx4a65c_get_915e3 := fun w h => List.mem_cons_of_mem _ (List.mem_append_right _ h)
  have hown : s.vm.findClass RJx4a65c = some m.cls := findClass_of_methodNamed B.named
  have hlocks := B.notSynchronized
  have hl := lv_entry ([.ref q, .int (nI i)]) (n := 2) (Nat.le_of_ble_eq_true rfl)
  rw [lg_entry_eq]
  generalize (lg_sl ([.ref q, .int (nI i)]) ++ List.replicate (2 - (lg_sl ([.ref q, .int (nI i)])).length) Slot.unset).toArray = ls at hl ⊢
  have hl : lv_has ls 2 [(0, .ref q), (1, .int (nI i))] := hl
  refine lv_iload_n hx hb dJx4a65c_get_915e3_0 rfl (lv_at hl 1 rfl) ?_
  refine lv_aload_n hx hb dJx4a65c_get_915e3_1 rfl (lv_at hl 0 rfl) ?_
  refine va_get (ci := 0) (v := .int (nI n)) (C := RJx4a65c) (T := TJx4a65c) (N := 3) hx hb hts hin hown hK hP q0 he rfl 2 (by decide) (hts (.fieldLink RJx4a65c 48 "java/util/ArrayList" "size" "I") (by decide +kernel)) (fun _ h9 => h9) rfl dJx4a65c_get_915e3_2 ?_
  refine m_callRS (As := [.int (nI i), .int (nI n)]) (rest := []) ⟨hx, hb, hml, hown, hts⟩ (c_J15_checkIndex l D tys w0 i n hi (by omega)) (va_cwS 2 hts gJx4a65c_get_915e3_J15_checkIndex_7cf53 rfl rfl rfl (by decide +kernel) ⟨Nat.le_of_ble_eq_true rfl, Nat.le_of_ble_eq_true rfl⟩) hK hP rfl hl.1 rfl (Nat.le_of_ble_eq_true rfl) dJx4a65c_get_915e3_5 ⟨Nat.zero_le _, Nat.zero_le _⟩ ?_
  refine lv_pop hx hb dJx4a65c_get_915e3_8 rfl ?_
  refine lv_aload_n hx hb dJx4a65c_get_915e3_9 rfl (lv_at hl 0 rfl) ?_
  refine lv_iload_n hx hb dJx4a65c_get_915e3_10 rfl (lv_at hl 1 rfl) ?_
  refine m_callQ (As := [.int (nI i)]) (rest := []) ⟨hx, hb, hml, hown, hts⟩ (c_J_elementData l D tys w0 q q0 ea q1 t0 cap i cO f md (nI n) he ha ht (by omega) hc) (cwV 1 hts gJx4a65c_get_915e3_Jx4a65c_elementData_915e3 rfl rfl rfl (by decide +kernel) ⟨Nat.le_of_ble_eq_true rfl, Nat.le_of_ble_eq_true rfl⟩) hK hP (va_recv hK hP (ci := 0) (q0 := q0) rfl he) rfl hl.1 rfl (Nat.le_of_ble_eq_true rfl) dJx4a65c_get_915e3_11 ⟨Nat.zero_le _, Nat.zero_le _⟩ ?_
  exact W.aret (v := va_rf (f i)) hx hb hr (Or.inl ⟨_, rfl⟩) (va_rf_cases _) (fun tt ht hW => ⟨f i, rfl, rfl, ht⟩) (fun q hq => by cases hq) dJx4a65c_get_915e3_14
