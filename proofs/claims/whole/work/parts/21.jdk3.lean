theorem nd_push {ws : va_W} {a sz : Nat} {e : va_E} (h : (ws.map (fun q => q.1)).Nodup) (hl : ∀ q ∈ ws.map (fun q => q.1), q < sz) (ha : sz ≤ a) : ((ws ++ [(a, e)]).map (fun q => q.1)).Nodup := by
  rw [List.map_append, List.nodup_append]
  refine ⟨h, by simp, fun x hx y hy => ?_⟩
  have h1 := hl x hx
  have h2 : y = a := List.mem_singleton.mp hy
  omega

set_option maxHeartbeats 4000000 in
set_option maxRecDepth 100000 in
theorem c_J_copyOf2 (l : Launch) (D : va_G) (cO : ClassId) (mi e0 : Nat) (w0 : va_W) (hnd : (w0.map (fun q => q.1)).Nodup) (q1 ea : Nat) (f : Nat → Option Nat) (ha : w0[q1]? = some (ea, ocell cO 10 f)) (hel : ∀ i, i < 10 → ∀ y : Nat, f i = some y → ∃ (k : Nat) (vs : List Value), w0[k]? = some (y, dcell vs)) : mN l yJ7_copyOf_1904c wsJ7_copyOf_1904c ({ frames := 2, cells := 1, slots := 15, locals := 49 }) D cO mi e0 [.ref ea, .int 15] w0 (fun a => w0 ++ [(a, ocell cO 15 (va_cpy f (fun _ => none) 0 0 10))]) 1 15 := by
  intro sz
  refine Met.ofW (cc := cJ7_copyOf_1904c) (maxL := 2) (ret := (some (.array (.object "java/lang/Object")))) (by decide) rfl ?_
  intro p e s m args below meth c s₁ B hml hv
  obtain ⟨rfl, hsz, hP, hK, hE, hZ⟩ := hv
  have hx := B.exec
  have hb := B.bytes
  have hr := B.returns
  have hts := atoms_spec (ws := wsJ7_copyOf_1904c) B.pre
  have hown : s.vm.findClass RJ7 = some m.cls := findClass_of_methodNamed B.named
  have hlocks := B.notSynchronized
  subst hsz
  have hD : va_D (wA ((w0 : va_W).map (fun q => q.1)) s.heap.size) (w0) := wD rfl hnd (fun _ h => Or.inl h)
  have hS : va_S (wA ((w0 : va_W).map (fun q => q.1)) s.heap.size) s.heap s.heap [] := va_S.rf
  have hA : ∀ zz : Nat, s.heap.size ≤ zz → wA ((w0 : va_W).map (fun q => q.1)) s.heap.size zz := fun zz h => Or.inr h
  have hl := lv_entry ([.ref ea, .int 15]) (n := 2) (Nat.le_of_ble_eq_true rfl)
  rw [lg_entry_eq]
  generalize (lg_sl ([.ref ea, .int 15]) ++ List.replicate (2 - (lg_sl ([.ref ea, .int 15])).length) Slot.unset).toArray = ls at hl ⊢
  have hl : lv_has ls 2 [(0, .ref ea), (1, .int 15)] := hl
  refine lv_aload_n hx hb dJ7_copyOf_1904c_0 rfl (lv_at hl 0 rfl) ?_
  refine lv_iload_n hx hb dJ7_copyOf_1904c_1 rfl (lv_at hl 1 rfl) ?_
  refine lv_aload_n hx hb dJ7_copyOf_1904c_2 rfl (lv_at hl 0 rfl) ?_
  have hcl : s.vm.findClass "[Ljava/lang/Object;" = some cO := by
    obtain ⟨_, _, _, _, _, e1⟩ := (hK.2 0 _ rfl).2
    exact e1
  refine va_getC (C := "[Ljava/lang/Object;") hx hb (hml.trans hl.1.symm) hown (hts (.methodLink RJ7 86 ⟨"java/lang/Object", "getClass", "()Ljava/lang/Class;"⟩) (by decide +kernel)) hE.2.2.1.use (hts (.selects "[Ljava/lang/Object;" ⟨"java/lang/Object", "getClass", "()Ljava/lang/Class;"⟩ ⟨"java/lang/Object", "getClass", "()Ljava/lang/Class;"⟩) (by decide +kernel)) (hts (.instanceMethod ⟨"java/lang/Object", "getClass", "()Ljava/lang/Class;"⟩) (by decide +kernel)) (hts (.native ⟨"java/lang/Object", "getClass", "()Ljava/lang/Class;"⟩) (by decide +kernel)) hE.2.2.2 ⟨_, hP q1 _ ha, rfl, hcl⟩ (Nat.le_of_ble_eq_true rfl) (Nat.le_of_ble_eq_true rfl) dJ7_copyOf_1904c_3 ?_
  refine m_callNs (As := [.ref ea, .int 15, .ref mi]) (rest := []) ⟨hx, hb, hml, hown, hts⟩ (c_J_copyOf3 l D cO mi e0 w0 hnd q1 ea f ha hel) (va_cwS 3 hts gJ7_copyOf_1904c_J7_copyOf_6403c rfl rfl rfl (by decide +kernel) ⟨Nat.le_of_ble_eq_true rfl, Nat.le_of_ble_eq_true rfl⟩) hK hP hS (fun q h => h) hE hZ rfl hl.1 rfl (Nat.le_of_ble_eq_true rfl) dJ7_copyOf_1904c_6 ⟨Nat.le_of_ble_eq_true rfl, Nat.le_of_ble_eq_true rfl⟩ (fun ra H locs hfr hP hS _ => ?_)
  exact W.aret (v := .ref ra) hx hb hr (Or.inr ⟨_, rfl⟩) (Or.inr ⟨_, rfl⟩) (fun tt ht hW => ⟨⟨(), ra, rfl, trivial, hfr, by rw [ht]; exact hP, va_K.moved hW.alike hK⟩, hS.F ht⟩) hS.2.2 dJ7_copyOf_1904c_9

set_option maxHeartbeats 4000000 in
set_option maxRecDepth 100000 in
theorem c_J_growA0 (l : Launch) (D : va_G) (cO : ClassId) (mi e0 q : Nat) (md : Int32) (R : va_W) (hnd : ((((q, lcell md e0 0) :: R) : va_W).map (fun q => q.1)).Nodup) : mN l yJx4a65c_grow_92f84 wsJx4a65c_grow_92f84 ({ frames := 3, cells := 1, slots := 15, locals := 70 }) D cO mi e0 [.ref q, .int 1] ((q, lcell md e0 0) :: R) (fun a => (q, lcell md a 0) :: (R ++ [(a, ocell cO 10 (fun _ => none))])) 1 15 := by
  intro sz
  refine Met.ofW (cc := cJx4a65c_grow_92f84) (maxL := 4) (ret := (some (.array (.object "java/lang/Object")))) (by decide) rfl ?_
  intro p e s m args below meth c s₁ B hml hv
  obtain ⟨rfl, hsz, hP, hK, hE, hZ⟩ := hv
  have hx := B.exec
  have hb := B.bytes
  have hr := B.returns
  have hts := atoms_spec (ws := wsJx4a65c_grow_92f84) B.pre
  have hown : s.vm.findClass RJx4a65c = some m.cls := findClass_of_methodNamed B.named
  have hlocks := B.notSynchronized
  subst hsz
  have hD : va_D (wA (((q, lcell md e0 0) :: R : va_W).map (fun q => q.1)) s.heap.size) ((q, lcell md e0 0) :: R) := wD rfl hnd (fun _ h => Or.inl h)
  have hS : va_S (wA (((q, lcell md e0 0) :: R : va_W).map (fun q => q.1)) s.heap.size) s.heap s.heap [] := va_S.rf
  have hA : ∀ zz : Nat, s.heap.size ≤ zz → wA (((q, lcell md e0 0) :: R : va_W).map (fun q => q.1)) s.heap.size zz := fun zz h => Or.inr h
  have hin : ∀ w ∈ wsJx4a65c0, w ∈ wsJx4a65c_grow_92f84 := fun w h => List.mem_cons_of_mem _ (List.mem_append_right _ h)
  have hl := lv_entry ([.ref q, .int 1]) (n := 4) (Nat.le_of_ble_eq_true rfl)
  rw [lg_entry_eq]
  generalize (lg_sl ([.ref q, .int 1]) ++ List.replicate (4 - (lg_sl ([.ref q, .int 1])).length) Slot.unset).toArray = ls at hl ⊢
  have hl : lv_has ls 4 [(0, .ref q), (1, .int 1)] := hl
  refine lv_aload_n hx hb dJx4a65c_grow_92f84_0 rfl (lv_at hl 0 rfl) ?_
  refine va_get (ci := 0) (v := .ref e0) (C := RJx4a65c) (T := TJx4a65c) (N := 3) hx hb hts hin hown hK hP 0 rfl rfl 1 (by decide) (hts (.fieldLink RJx4a65c 9 "java/util/ArrayList" "elementData" "[Ljava/lang/Object;") (by decide +kernel)) (fun _ h9 => h9) rfl dJx4a65c_grow_92f84_1 ?_
  refine va_tlen hx hb hZ.2 hS (v := 0) rfl dJx4a65c_grow_92f84_4 ?_
  refine lv_istore_n (lv' := [(2, .int 0), (0, .ref q), (1, .int 1)]) hx hb dJx4a65c_grow_92f84_5 rfl hl (by decide) rfl (fun ls hl => ?_)
  refine lv_iload_n hx hb dJx4a65c_grow_92f84_6 rfl (lv_at hl 0 rfl) ?_
  refine lv_if_gt (tgt := 20) hx hb dJx4a65c_grow_92f84_7 (by decide) (fun c1 => ?_) (fun c1 => ?_)
  · exact absurd c1 (by decide)
  · refine lv_aload_n hx hb dJx4a65c_grow_92f84_10 rfl (lv_at hl 1 rfl) ?_
    refine va_get (ci := 0) (v := .ref e0) (C := RJx4a65c) (T := TJx4a65c) (N := 3) hx hb hts hin hown hK hP 0 rfl rfl 1 (by decide) (hts (.fieldLink RJx4a65c 9 "java/util/ArrayList" "elementData" "[Ljava/lang/Object;") (by decide +kernel)) (fun _ h9 => h9) rfl dJx4a65c_grow_92f84_11 ?_
    refine va_gets hx hb hZ.1 hS hown (hts (.fieldLink RJx4a65c 39 "java/util/ArrayList" "DEFAULTCAPACITY_EMPTY_ELEMENTDATA" "[Ljava/lang/Object;") (by decide +kernel)) (fun _ h9 => h9) dJx4a65c_grow_92f84_14 ?_
    refine lv_acmp_eq (rx := some e0) (ry := some e0) (tgt := 45) hx hb dJx4a65c_grow_92f84_17 (by decide) (fun c2 => ?_) (fun c2 => ?_)
    · refine lv_aload_n hx hb dJx4a65c_grow_92f84_45 rfl (lv_at hl 1 rfl) ?_
      refine lv_bipush (v := 10) hx hb dJx4a65c_grow_92f84_46 (by decide) ?_
      refine lv_iload_n hx hb dJx4a65c_grow_92f84_48 rfl (lv_at hl 2 rfl) ?_
      refine va_mmax hx hb (hml.trans hl.1.symm) hown (hts (.methodLink RJx4a65c 79 Lib.Math.max.name) (by decide +kernel)) (hts (.static Lib.Math.max.name) (by decide +kernel)) (hts (.initialized "java/lang/Math") (by decide +kernel)) (hts (.code Lib.Math.max.name Lib.Math.max.code 2 (some .int)) (by decide +kernel)) (Nat.le_of_ble_eq_true rfl) (Nat.le_of_ble_eq_true rfl) (Nat.zero_le _) (Nat.zero_le _) dJx4a65c_grow_92f84_49 ?_
      rw [show (if (10 : Int32) < 1 then (1 : Int32) else 10) = 10 from by decide]
      refine va_newq (C := "java/lang/Object") (N' := 10) hx hb hown (hts (.classLink RJx4a65c 7 "java/lang/Object") (by decide +kernel)) hE.1 hK hP hD hS hA (by decide) (by decide) (by decide) (Nat.le_of_ble_eq_true rfl) (Nat.le_of_ble_eq_true rfl) dJx4a65c_grow_92f84_52 (fun a cA H hK2 hP hD hS => ?_)
      have hcA : cA = cO := oarr (t := []) hK2
      subst hcA
      have hfr : s.heap.size ≤ a := hD.fresh (fun _ h => h)
      refine W.widen (k := 1) (n := 15) (by omega) (by omega) ?_
      refine lv_dup_x1 hx hb dJx4a65c_grow_92f84_55 rfl rfl ?_
      refine va_put (ci := 0) (v := .ref a) (ty := .array (.object "java/lang/Object")) (C := RJx4a65c) (T := TJx4a65c) (N := 3) hx hb hts hin tyJx4a65c tyJx4a65c_ok nmJx4a65c hown hK hP hD hS 0 rfl rfl 1 (by decide) (hts (.fieldLink RJx4a65c 9 "java/util/ArrayList" "elementData" "[Ljava/lang/Object;") (by decide +kernel)) (fun _ h9 => h9) rfl (by decide +kernel) rfl rfl (Nat.le_of_ble_eq_true rfl) dJx4a65c_grow_92f84_56 (fun H locs hP hD hS => ?_)
      exact W.aret (v := .ref a) hx hb hr (Or.inr ⟨_, rfl⟩) (Or.inr ⟨_, rfl⟩) (fun tt ht hW => ⟨⟨(), a, rfl, trivial, hfr, by rw [ht]; exact hP, va_K.moved hW.alike hK⟩, hS.F ht⟩) hS.2.2 dJx4a65c_grow_92f84_59
    · exact absurd rfl c2

theorem tl_at {x b : Nat × va_E} {R : va_W} : (x :: (R ++ [b]))[R.length + 1]? = some b := by simp
theorem tl_el {x b : Nat × va_E} {R : va_W} {k : Nat} {y : Nat × va_E} (h : R[k]? = some y) : (x :: (R ++ [b]))[k + 1]? = some y := by
  rw [List.getElem?_cons_succ, List.getElem?_append_left (List.getElem?_eq_some_iff.mp h).1]; exact h
theorem tl_set {x b b' : Nat × va_E} {R : va_W} : (x :: (R ++ [b])).set (R.length + 1) b' = x :: (R ++ [b']) := by
  rw [List.set_cons_succ, List.set_append_right _ _ (Nat.le_refl _), Nat.sub_self]; rfl

set_option maxHeartbeats 4000000 in
set_option maxRecDepth 100000 in
theorem c_J_growA1 (l : Launch) (D : va_G) (cO : ClassId) (mi e0 q ea : Nat) (md : Int32) (f : Nat → Option Nat) (R : va_W) (hnd : ((((q, lcell md ea 10) :: (R ++ [(ea, ocell cO 10 f)])) : va_W).map (fun q => q.1)).Nodup) (hel : ∀ i, i < 10 → ∀ y : Nat, f i = some y → ∃ (k : Nat) (vs : List Value), R[k]? = some (y, dcell vs)) : mN l yJx4a65c_grow_92f84 wsJx4a65c_grow_92f84 ({ frames := 3, cells := 1, slots := 15, locals := 70 }) D cO mi e0 [.ref q, .int 11] ((q, lcell md ea 10) :: (R ++ [(ea, ocell cO 10 f)])) (fun a => (q, lcell md a 10) :: ((R ++ [(ea, ocell cO 10 f)]) ++ [(a, ocell cO 15 (va_cpy f (fun _ => none) 0 0 10))])) 1 15 := by
  intro sz
  refine Met.ofW (cc := cJx4a65c_grow_92f84) (maxL := 4) (ret := (some (.array (.object "java/lang/Object")))) (by decide) rfl ?_
  intro p e s m args below meth c s₁ B hml hv
  obtain ⟨rfl, hsz, hP, hK, hE, hZ⟩ := hv
  have hx := B.exec
  have hb := B.bytes
  have hr := B.returns
  have hts := atoms_spec (ws := wsJx4a65c_grow_92f84) B.pre
  have hown : s.vm.findClass RJx4a65c = some m.cls := findClass_of_methodNamed B.named
  have hlocks := B.notSynchronized
  subst hsz
  have hD : va_D (wA (((q, lcell md ea 10) :: (R ++ [(ea, ocell cO 10 f)]) : va_W).map (fun q => q.1)) s.heap.size) ((q, lcell md ea 10) :: (R ++ [(ea, ocell cO 10 f)])) := wD rfl hnd (fun _ h => Or.inl h)
  have hS : va_S (wA (((q, lcell md ea 10) :: (R ++ [(ea, ocell cO 10 f)]) : va_W).map (fun q => q.1)) s.heap.size) s.heap s.heap [] := va_S.rf
  have hA : ∀ zz : Nat, s.heap.size ≤ zz → wA (((q, lcell md ea 10) :: (R ++ [(ea, ocell cO 10 f)]) : va_W).map (fun q => q.1)) s.heap.size zz := fun zz h => Or.inr h
  have hin : ∀ w ∈ wsJx4a65c0, w ∈ wsJx4a65c_grow_92f84 := fun w h => List.mem_cons_of_mem _ (List.mem_append_right _ h)
  have hl := lv_entry ([.ref q, .int 11]) (n := 4) (Nat.le_of_ble_eq_true rfl)
  rw [lg_entry_eq]
  generalize (lg_sl ([.ref q, .int 11]) ++ List.replicate (4 - (lg_sl ([.ref q, .int 11])).length) Slot.unset).toArray = ls at hl ⊢
  have hl : lv_has ls 4 [(0, .ref q), (1, .int 11)] := hl
  have hP0lt := hP.lt'
  refine lv_aload_n hx hb dJx4a65c_grow_92f84_0 rfl (lv_at hl 0 rfl) ?_
  refine va_get (ci := 0) (v := .ref ea) (C := RJx4a65c) (T := TJx4a65c) (N := 3) hx hb hts hin hown hK hP 0 rfl rfl 1 (by decide) (hts (.fieldLink RJx4a65c 9 "java/util/ArrayList" "elementData" "[Ljava/lang/Object;") (by decide +kernel)) (fun _ h9 => h9) rfl dJx4a65c_grow_92f84_1 ?_
  refine va_alen hx hb hK hP (R.length + 1) 0 tl_at rfl (v := 10) rfl dJx4a65c_grow_92f84_4 ?_
  refine lv_istore_n (lv' := [(2, .int 10), (0, .ref q), (1, .int 11)]) hx hb dJx4a65c_grow_92f84_5 rfl hl (by decide) rfl (fun ls hl => ?_)
  refine lv_iload_n hx hb dJx4a65c_grow_92f84_6 rfl (lv_at hl 0 rfl) ?_
  refine lv_if_gt (tgt := 20) hx hb dJx4a65c_grow_92f84_7 (by decide) (fun c1 => ?_) (fun c1 => ?_)
  · refine lv_iload_n hx hb dJx4a65c_grow_92f84_20 rfl (lv_at hl 0 rfl) ?_
    refine lv_iload_n hx hb dJx4a65c_grow_92f84_21 rfl (lv_at hl 2 rfl) ?_
    refine lv_iload_n hx hb dJx4a65c_grow_92f84_22 rfl (lv_at hl 0 rfl) ?_
    refine lv_isub hx hb dJx4a65c_grow_92f84_23 ?_
    rw [show (11 : Int32) - 10 = 1 from by decide]
    refine lv_iload_n hx hb dJx4a65c_grow_92f84_24 rfl (lv_at hl 0 rfl) ?_
    refine lv_iconst (v := 1) hx hb dJx4a65c_grow_92f84_25 (by decide) ?_
    refine lv_ishr hx hb dJx4a65c_grow_92f84_26 ?_
    rw [show (10 : Int32) >>> ((1 : Int32) &&& 31) = 5 from by decide]
    refine m_callRS (As := [.int 10, .int 1, .int 5]) (rest := []) ⟨hx, hb, hml, hown, hts⟩ (c_J_newLength l D (cT cO) ((q, lcell md ea 10) :: (R ++ [(ea, ocell cO 10 f)]))) (va_cwS 3 hts gJx4a65c_grow_92f84_J8_newLength_cabcc rfl rfl rfl (by decide +kernel) ⟨Nat.le_of_ble_eq_true rfl, Nat.le_of_ble_eq_true rfl⟩) hK hP rfl hl.1 rfl (Nat.le_of_ble_eq_true rfl) dJx4a65c_grow_92f84_27 ⟨Nat.zero_le _, Nat.zero_le _⟩ ?_
    refine lv_istore_n (lv' := [(3, .int 15), (2, .int 10), (0, .ref q), (1, .int 11)]) hx hb dJx4a65c_grow_92f84_30 rfl hl (by decide) rfl (fun ls hl => ?_)
    refine lv_aload_n hx hb dJx4a65c_grow_92f84_31 rfl (lv_at hl 2 rfl) ?_
    refine lv_aload_n hx hb dJx4a65c_grow_92f84_32 rfl (lv_at hl 2 rfl) ?_
    refine va_get (ci := 0) (v := .ref ea) (C := RJx4a65c) (T := TJx4a65c) (N := 3) hx hb hts hin hown hK hP 0 rfl rfl 1 (by decide) (hts (.fieldLink RJx4a65c 9 "java/util/ArrayList" "elementData" "[Ljava/lang/Object;") (by decide +kernel)) (fun _ h9 => h9) rfl dJx4a65c_grow_92f84_33 ?_
    refine lv_iload_n hx hb dJx4a65c_grow_92f84_36 rfl (lv_at hl 0 rfl) ?_
    refine m_callNs (As := [.ref ea, .int 15]) (rest := [.ref q]) ⟨hx, hb, hml, hown, hts⟩ (c_J_copyOf2 l D cO mi e0 ((q, lcell md ea 10) :: (R ++ [(ea, ocell cO 10 f)])) hnd (R.length + 1) ea f tl_at (fun i hi y hy => by obtain ⟨k, vs, hk⟩ := hel i hi y hy; exact ⟨k + 1, vs, tl_el hk⟩)) (va_cwS 2 hts gJx4a65c_grow_92f84_J7_copyOf_1904c rfl rfl rfl (by decide +kernel) ⟨Nat.le_of_ble_eq_true rfl, Nat.le_of_ble_eq_true rfl⟩) hK hP hS (fun q h => h) hE hZ rfl hl.1 rfl (Nat.le_of_ble_eq_true rfl) dJx4a65c_grow_92f84_37 ⟨Nat.le_of_ble_eq_true rfl, Nat.le_of_ble_eq_true rfl⟩ (fun a H locs hfr hP hS _ => ?_)
    have hD := wD (ws := ((q, lcell md ea 10) :: (R ++ [(ea, ocell cO 10 f)])) ++ [(a, ocell cO 15 (va_cpy f (fun _ => none) 0 0 10))]) (A := wA ((((q, lcell md ea 10) :: (R ++ [(ea, ocell cO 10 f)])) : va_W).map (fun q => q.1)) s.heap.size) rfl (nd_push hnd hP0lt hfr) (fun x hx => by
      rw [List.map_append, List.mem_append] at hx
      rcases hx with hx | hx
      · exact Or.inl hx
      · rw [List.mem_singleton.mp hx]; exact Or.inr hfr)
    refine lv_dup_x1 hx hb dJx4a65c_grow_92f84_40 rfl rfl ?_
    refine va_put (ci := 0) (v := .ref a) (ty := .array (.object "java/lang/Object")) (C := RJx4a65c) (T := TJx4a65c) (N := 3) hx hb hts hin tyJx4a65c tyJx4a65c_ok nmJx4a65c hown hK hP hD hS 0 rfl rfl 1 (by decide) (hts (.fieldLink RJx4a65c 9 "java/util/ArrayList" "elementData" "[Ljava/lang/Object;") (by decide +kernel)) (fun _ h9 => h9) rfl (by decide +kernel) rfl rfl (Nat.le_of_ble_eq_true rfl) dJx4a65c_grow_92f84_41 (fun H locs hP hD hS => ?_)
    exact W.aret (v := .ref a) hx hb hr (Or.inr ⟨_, rfl⟩) (Or.inr ⟨_, rfl⟩) (fun tt ht hW => ⟨⟨(), a, rfl, trivial, hfr, by rw [ht]; exact hP, va_K.moved hW.alike hK⟩, hS.F ht⟩) hS.2.2 dJx4a65c_grow_92f84_44
  · exact absurd (by decide) c1

set_option maxHeartbeats 4000000 in
set_option maxRecDepth 100000 in
theorem c_J_growB0 (l : Launch) (D : va_G) (cO : ClassId) (mi e0 q : Nat) (md : Int32) (R : va_W) (hnd : ((((q, lcell md e0 0) :: R) : va_W).map (fun q => q.1)).Nodup) : mN l yJx4a65c_grow_d5877 wsJx4a65c_grow_d5877 ({ frames := 4, cells := 1, slots := 15, locals := 93 }) D cO mi e0 [.ref q] ((q, lcell md e0 0) :: R) (fun a => (q, lcell md a 0) :: (R ++ [(a, ocell cO 10 (fun _ => none))])) 1 15 := by
  intro sz
  refine Met.ofW (cc := cJx4a65c_grow_d5877) (maxL := 1) (ret := (some (.array (.object "java/lang/Object")))) (by decide) rfl ?_
  intro p e s m args below meth c s₁ B hml hv
  obtain ⟨rfl, hsz, hP, hK, hE, hZ⟩ := hv
  have hx := B.exec
  have hb := B.bytes
  have hr := B.returns
  have hts := atoms_spec (ws := wsJx4a65c_grow_d5877) B.pre
  have hown : s.vm.findClass RJx4a65c = some m.cls := findClass_of_methodNamed B.named
  have hlocks := B.notSynchronized
  subst hsz
  have hD : va_D (wA (((q, lcell md e0 0) :: R : va_W).map (fun q => q.1)) s.heap.size) ((q, lcell md e0 0) :: R) := wD rfl hnd (fun _ h => Or.inl h)
  have hS : va_S (wA (((q, lcell md e0 0) :: R : va_W).map (fun q => q.1)) s.heap.size) s.heap s.heap [] := va_S.rf
  have hA : ∀ zz : Nat, s.heap.size ≤ zz → wA (((q, lcell md e0 0) :: R : va_W).map (fun q => q.1)) s.heap.size zz := fun zz h => Or.inr h
  have hin : ∀ w ∈ wsJx4a65c0, w ∈ wsJx4a65c_grow_d5877 := fun w h => List.mem_cons_of_mem _ (List.mem_append_right _ h)
  have hl := lv_entry ([.ref q]) (n := 1) (Nat.le_of_ble_eq_true rfl)
  rw [lg_entry_eq]
  generalize (lg_sl ([.ref q]) ++ List.replicate (1 - (lg_sl ([.ref q])).length) Slot.unset).toArray = ls at hl ⊢
  have hl : lv_has ls 1 [(0, .ref q)] := hl
  refine lv_aload_n hx hb dJx4a65c_grow_d5877_0 rfl (lv_at hl 0 rfl) ?_
  refine lv_aload_n hx hb dJx4a65c_grow_d5877_1 rfl (lv_at hl 0 rfl) ?_
  refine va_get (ci := 0) (v := .int (nI 0)) (C := RJx4a65c) (T := TJx4a65c) (N := 3) hx hb hts hin hown hK hP 0 rfl rfl 2 (by decide) (hts (.fieldLink RJx4a65c 48 "java/util/ArrayList" "size" "I") (by decide +kernel)) (fun _ h9 => h9) rfl dJx4a65c_grow_d5877_2 ?_
  refine lv_iconst (v := 1) hx hb dJx4a65c_grow_d5877_5 (by decide) ?_
  refine lv_iadd hx hb dJx4a65c_grow_d5877_6 ?_
  rw [show nI 0 + 1 = (1 : Int32) from by decide]
  refine m_callNv (As := [.int 1]) (rest := []) ⟨hx, hb, hml, hown, hts⟩ (c_J_growA0 l D cO mi e0 q md R hnd) (cwV 1 hts gJx4a65c_grow_d5877_Jx4a65c_grow_92f84 rfl rfl rfl (by decide +kernel) ⟨Nat.le_of_ble_eq_true rfl, Nat.le_of_ble_eq_true rfl⟩) hK hP hS (fun q h => h) hE hZ (va_recv hK hP (ci := 0) (q0 := 0) rfl rfl) rfl hl.1 rfl (Nat.le_of_ble_eq_true rfl) dJx4a65c_grow_d5877_7 ⟨Nat.le_of_ble_eq_true rfl, Nat.le_of_ble_eq_true rfl⟩ (fun a H locs hfr hP hS _ => ?_)
  exact W.aret (v := .ref a) hx hb hr (Or.inr ⟨_, rfl⟩) (Or.inr ⟨_, rfl⟩) (fun tt ht hW => ⟨⟨(), a, rfl, trivial, hfr, by rw [ht]; exact hP, va_K.moved hW.alike hK⟩, hS.F ht⟩) hS.2.2 dJx4a65c_grow_d5877_10

set_option maxHeartbeats 4000000 in
set_option maxRecDepth 100000 in
theorem c_J_growB1 (l : Launch) (D : va_G) (cO : ClassId) (mi e0 q : Nat) (ea : Nat) (md : Int32) (f : Nat → Option Nat) (R : va_W) (hnd : ((((q, lcell md ea 10) :: (R ++ [(ea, ocell cO 10 f)])) : va_W).map (fun q => q.1)).Nodup) (hel : ∀ i, i < 10 → ∀ y : Nat, f i = some y → ∃ (k : Nat) (vs : List Value), R[k]? = some (y, dcell vs)) : mN l yJx4a65c_grow_d5877 wsJx4a65c_grow_d5877 ({ frames := 4, cells := 1, slots := 15, locals := 93 }) D cO mi e0 [.ref q] ((q, lcell md ea 10) :: (R ++ [(ea, ocell cO 10 f)])) (fun a => (q, lcell md a 10) :: ((R ++ [(ea, ocell cO 10 f)]) ++ [(a, ocell cO 15 (va_cpy f (fun _ => none) 0 0 10))])) 1 15 := by
  intro sz
  refine Met.ofW (cc := cJx4a65c_grow_d5877) (maxL := 1) (ret := (some (.array (.object "java/lang/Object")))) (by decide) rfl ?_
  intro p e s m args below meth c s₁ B hml hv
  obtain ⟨rfl, hsz, hP, hK, hE, hZ⟩ := hv
  have hx := B.exec
  have hb := B.bytes
  have hr := B.returns
  have hts := atoms_spec (ws := wsJx4a65c_grow_d5877) B.pre
  have hown : s.vm.findClass RJx4a65c = some m.cls := findClass_of_methodNamed B.named
  have hlocks := B.notSynchronized
  subst hsz
  have hD : va_D (wA (((q, lcell md ea 10) :: (R ++ [(ea, ocell cO 10 f)]) : va_W).map (fun q => q.1)) s.heap.size) ((q, lcell md ea 10) :: (R ++ [(ea, ocell cO 10 f)])) := wD rfl hnd (fun _ h => Or.inl h)
  have hS : va_S (wA (((q, lcell md ea 10) :: (R ++ [(ea, ocell cO 10 f)]) : va_W).map (fun q => q.1)) s.heap.size) s.heap s.heap [] := va_S.rf
  have hA : ∀ zz : Nat, s.heap.size ≤ zz → wA (((q, lcell md ea 10) :: (R ++ [(ea, ocell cO 10 f)]) : va_W).map (fun q => q.1)) s.heap.size zz := fun zz h => Or.inr h
  have hin : ∀ w ∈ wsJx4a65c0, w ∈ wsJx4a65c_grow_d5877 := fun w h => List.mem_cons_of_mem _ (List.mem_append_right _ h)
  have hl := lv_entry ([.ref q]) (n := 1) (Nat.le_of_ble_eq_true rfl)
  rw [lg_entry_eq]
  generalize (lg_sl ([.ref q]) ++ List.replicate (1 - (lg_sl ([.ref q])).length) Slot.unset).toArray = ls at hl ⊢
  have hl : lv_has ls 1 [(0, .ref q)] := hl
  refine lv_aload_n hx hb dJx4a65c_grow_d5877_0 rfl (lv_at hl 0 rfl) ?_
  refine lv_aload_n hx hb dJx4a65c_grow_d5877_1 rfl (lv_at hl 0 rfl) ?_
  refine va_get (ci := 0) (v := .int (nI 10)) (C := RJx4a65c) (T := TJx4a65c) (N := 3) hx hb hts hin hown hK hP 0 rfl rfl 2 (by decide) (hts (.fieldLink RJx4a65c 48 "java/util/ArrayList" "size" "I") (by decide +kernel)) (fun _ h9 => h9) rfl dJx4a65c_grow_d5877_2 ?_
  refine lv_iconst (v := 1) hx hb dJx4a65c_grow_d5877_5 (by decide) ?_
  refine lv_iadd hx hb dJx4a65c_grow_d5877_6 ?_
  rw [show nI 10 + 1 = (11 : Int32) from by decide]
  refine m_callNv (As := [.int 11]) (rest := []) ⟨hx, hb, hml, hown, hts⟩ (c_J_growA1 l D cO mi e0 q ea md f R hnd hel) (cwV 1 hts gJx4a65c_grow_d5877_Jx4a65c_grow_92f84 rfl rfl rfl (by decide +kernel) ⟨Nat.le_of_ble_eq_true rfl, Nat.le_of_ble_eq_true rfl⟩) hK hP hS (fun q h => h) hE hZ (va_recv hK hP (ci := 0) (q0 := 0) rfl rfl) rfl hl.1 rfl (Nat.le_of_ble_eq_true rfl) dJx4a65c_grow_d5877_7 ⟨Nat.le_of_ble_eq_true rfl, Nat.le_of_ble_eq_true rfl⟩ (fun a H locs hfr hP hS _ => ?_)
  exact W.aret (v := .ref a) hx hb hr (Or.inr ⟨_, rfl⟩) (Or.inr ⟨_, rfl⟩) (fun tt ht hW => ⟨⟨(), a, rfl, trivial, hfr, by rw [ht]; exact hP, va_K.moved hW.alike hK⟩, hS.F ht⟩) hS.2.2 dJx4a65c_grow_d5877_10
