set_option maxHeartbeats 4000000 in
set_option maxRecDepth 100000 in
theorem c_J_range (l : Launch) (D : va_G) (tys : List (ClassId × FieldType)) (w0 : va_W) (q q0 ea k n : Nat) (md : Int32) (he : w0[q0]? = some (q, lcell md ea n)) (hk : k ≤ n) (hn : n < 2 ^ 31) : Met l yJx4a65c_rangeCheckForAdd_d00df wsJx4a65c_rangeCheckForAdd_d00df (rmz 0 0) (va_Pc [.ref q, .int (nI k)] (fun U => va_P D vwCl w0 U.heap ∧ va_K D vwCl tys U)) (va_Sv (fun _ => True)) 0 0 (fun _ => False) := by
  refine Met.ofW (cc := cJx4a65c_rangeCheckForAdd_d00df) (maxL := 2) (ret := none) (by decide) rfl ?_
  intro p e s m args below meth c s₁ B hml hv
  obtain ⟨rfl, hP, hK⟩ := hv
  have hx := B.exec
  have hb := B.bytes
  have hr := B.returns
  have hts := atoms_spec (ws := wsJx4a65c_rangeCheckForAdd_d00df) B.pre
  have hown : s.vm.findClass RJx4a65c = some m.cls := findClass_of_methodNamed B.named
  have hlocks := B.notSynchronized
  have hin : ∀ w ∈ wsJx4a65c0, w ∈ wsJx4a65c_rangeCheckForAdd_d00df := fun w h => List.mem_cons_of_mem _ (List.mem_append_right _ h)
  have hl := lv_entry ([.ref q, .int (nI k)]) (n := 2) (Nat.le_of_ble_eq_true rfl)
  rw [lg_entry_eq]
  generalize (lg_sl ([.ref q, .int (nI k)]) ++ List.replicate (2 - (lg_sl ([.ref q, .int (nI k)])).length) Slot.unset).toArray = ls at hl ⊢
  have hl : lv_has ls 2 [(0, .ref q), (1, .int (nI k))] := hl
  refine lv_iload_n hx hb dJx4a65c_rangeCheckForAdd_d00df_0 rfl (lv_at hl 1 rfl) ?_
  refine lv_aload_n hx hb dJx4a65c_rangeCheckForAdd_d00df_1 rfl (lv_at hl 0 rfl) ?_
  refine va_get (ci := 0) (v := .int (nI n)) (C := RJx4a65c) (T := TJx4a65c) (N := 3) hx hb hts hin hown hK hP q0 he rfl 2 (by decide) (hts (.fieldLink RJx4a65c 48 "java/util/ArrayList" "size" "I") (by decide +kernel)) (fun _ h9 => h9) rfl dJx4a65c_rangeCheckForAdd_d00df_2 ?_
  refine lv_icmp_gt (tgt := 12) hx hb dJx4a65c_rangeCheckForAdd_d00df_5 (by decide) (fun c1 => ?_) (fun c1 => ?_)
  · exact absurd ((nI_ltI hn (by omega)).mp c1) (by omega)
  · refine lv_iload_n hx hb dJx4a65c_rangeCheckForAdd_d00df_8 rfl (lv_at hl 1 rfl) ?_
    refine lv_if_ge (tgt := 25) hx hb dJx4a65c_rangeCheckForAdd_d00df_9 (by decide) (fun c2 => ?_) (fun c2 => ?_)
    · exact W.vret hx hb hr (fun tt ht hW => ⟨rfl, trivial, ht⟩) (fun q hq => by cases hq) dJx4a65c_rangeCheckForAdd_d00df_25
    · exact absurd (nI_pos' (by omega)) c2

section AD2
variable {p : Program} {l : Launch} {e : Env} {Ro : Room} {s : State} {m : MethodId} {args : Array Value} {below : List Frame} {meth : Method} {c : Code} {H : Heap} {locs : List Loc} {cells slots : Nat} {Q : State → Prop} {ls : Array Slot} {D : va_G} {cO : ClassId} {mi : Nat}
set_option maxHeartbeats 4000000 in
set_option maxRecDepth 100000 in
theorem add2_tail {q v a n k cp : Nat} {md : Int32} {f : Nat → Option Nat} {R : va_W} {A : Nat → Prop} (hx : p.tables.exec = Jvm.exec) (hb : c.code = cJx4a65c_add_7a177) (hml : c.maxLocals = 5) (hts : ∀ w ∈ wsJx4a65c_add_7a177, w.before args s = true) (hown : s.vm.findClass RJx4a65c = some m.cls) (hK : va_K D vwCl (cT cO) s) (hE : jE mi s) (hkn : k ≤ n) (hn : n < cp) (hcp : cp < 2 ^ 31) (hfr : 1 ≤ Ro.frames) (hlo : 18 ≤ Ro.locals) (hv : ∃ (k : Nat) (vs : List Value), R[k]? = some (v, dcell vs)) (hel : ∀ i, i < n → ∀ y : Nat, f i = some y → ∃ (k : Nat) (vs : List Value), R[k]? = some (y, dcell vs))
    (hP : va_P D vwCl ((q, lcell md a n) :: (R ++ [(a, ocell cO cp f)])) H) (hD : va_D A ((q, lcell md a n) :: (R ++ [(a, ocell cO cp f)]))) (hS : va_S A s.heap H locs) (hl : lv_has ls 5 [(0, .ref q), (1, .int (nI k)), (2, .ref v), (3, .int (nI n)), (4, .ref a)])
    (kk : ∀ (H1 : Heap) (locs1 : List Loc), va_P D vwCl ((q, lcell md a (n + 1)) :: (R ++ [(a, ocell cO cp (va_up (va_cpy f f k (k + 1) (n - k)) k (some v)))])) H1 → va_S A s.heap H1 locs1 → W p l e Ro s m args below meth c H1 locs1 cells slots Q (F0 m 64 ls [])) : W p l e Ro s m args below meth c H locs cells slots Q (F0 m 38 ls []) := by
  have hin : ∀ w ∈ wsJx4a65c0, w ∈ wsJx4a65c_add_7a177 := fun w h => List.mem_cons_of_mem _ (List.mem_append_right _ h)
  obtain ⟨kv, vs, hk⟩ := hv
  refine lv_aload hx hb dJx4a65c_add_7a177_38 (lv_at hl 4 rfl) ?_
  refine lv_iload_n hx hb dJx4a65c_add_7a177_40 rfl (lv_at hl 1 rfl) ?_
  refine lv_aload hx hb dJx4a65c_add_7a177_41 (lv_at hl 4 rfl) ?_
  refine lv_iload_n hx hb dJx4a65c_add_7a177_43 rfl (lv_at hl 1 rfl) ?_
  refine lv_iconst (v := 1) hx hb dJx4a65c_add_7a177_44 (by decide) ?_
  refine lv_iadd hx hb dJx4a65c_add_7a177_45 ?_
  rw [nI_1]
  refine lv_iload_n hx hb dJx4a65c_add_7a177_46 rfl (lv_at hl 3 rfl) ?_
  refine lv_iload_n hx hb dJx4a65c_add_7a177_47 rfl (lv_at hl 1 rfl) ?_
  refine lv_isub hx hb dJx4a65c_add_7a177_48 ?_
  rw [pk_sub hkn]
  have e1 : (nI k).toNatClampNeg = k := nI_clamp (by omega)
  have e2 : (nI (k + 1)).toNatClampNeg = k + 1 := nI_clamp (by omega)
  have e3 : (nI (n - k)).toNatClampNeg = n - k := nI_clamp (by omega)
  have hany : ∀ i : Nat, i < (nI (n - k)).toNatClampNeg → ∀ y : Nat, f ((nI k).toNatClampNeg + i) = some y → va_Any "java/lang/Object" s H y := by
    intro i hi y hy
    rw [e1] at hy
    rw [e3] at hi
    obtain ⟨j, ws2, hj⟩ := hel (k + i) (by omega) y hy
    exact va_rAny hK hP (tl_el hj) (r := (RX0, TX0, 13)) rfl (jcast hE.2.1)
  refine va_copyM hx hb (hml.trans hl.1.symm) hown (hts (.methodLink RJx4a65c 112 arraycopyName) (by decide +kernel)) (hts (.native arraycopyName) (by decide +kernel)) (hts (.static arraycopyName) (by decide +kernel)) (hts (.initialized "java/lang/System") (by decide +kernel)) hK hP hD hS (R.length + 1) (R.length + 1) 0 0 tl_at tl_at rfl rfl (nI_pos (by omega)) (nI_pos (by omega)) (nI_pos (by omega)) (by rw [e1, e3]; omega) (by rw [e2, e3]; omega) hany hfr (by show 0 + 18 ≤ Ro.locals; omega) dJx4a65c_add_7a177_49 (fun H locs hP hD hS => ?_)
  rw [e1, e2, e3, tl_set] at hP hD
  refine lv_aload hx hb dJx4a65c_add_7a177_52 (lv_at hl 4 rfl) ?_
  refine lv_iload_n hx hb dJx4a65c_add_7a177_54 rfl (lv_at hl 1 rfl) ?_
  refine lv_aload_n hx hb dJx4a65c_add_7a177_55 rfl (lv_at hl 2 rfl) ?_
  refine va_astqO (r := (RX0, TX0, 13)) hx hb hK hP hD hS (R.length + 1) 0 (kv + 1) 1 tl_at rfl hE.2.1 (tl_el hk) rfl (vp_in_nI (by omega) hcp) dJx4a65c_add_7a177_56 (fun H locs hP hD hS => ?_)
  rw [e1, tl_set] at hP hD
  refine lv_aload_n hx hb dJx4a65c_add_7a177_57 rfl (lv_at hl 0 rfl) ?_
  refine lv_iload_n hx hb dJx4a65c_add_7a177_58 rfl (lv_at hl 3 rfl) ?_
  refine lv_iconst (v := 1) hx hb dJx4a65c_add_7a177_59 (by decide) ?_
  refine lv_iadd hx hb dJx4a65c_add_7a177_60 ?_
  rw [nI_1]
  refine va_put (ci := 0) (v := .int (nI (n + 1))) (ty := .int) (C := RJx4a65c) (T := TJx4a65c) (N := 3) hx hb hts hin tyJx4a65c tyJx4a65c_ok nmJx4a65c hown hK hP hD hS 0 rfl rfl 2 (by decide) (hts (.fieldLink RJx4a65c 48 "java/util/ArrayList" "size" "I") (by decide +kernel)) (fun _ h9 => h9) rfl (by decide +kernel) rfl rfl (Nat.le_of_ble_eq_true rfl) dJx4a65c_add_7a177_61 (fun H locs hP hD hS => ?_)
  exact kk H locs hP hS
end AD2

set_option maxHeartbeats 4000000 in
set_option maxRecDepth 100000 in
theorem c_J_add2 (l : Launch) (D : va_G) (cO : ClassId) (mi e0 q ea v n k : Nat) (md : Int32) (f : Nat → Option Nat) (R : va_W) (hkn : k ≤ n) (hn : n ≤ 11) (he : n = 0 → ea = e0) (hf : ∀ i, n ≤ i → f i = none) (hnd : ((((q, lcell md ea n) :: lT cO R ea n f) : va_W).map (fun q => q.1)).Nodup) (hv : ∃ (k : Nat) (vs : List Value), R[k]? = some (v, dcell vs)) (hel : ∀ i, i < n → ∀ y : Nat, f i = some y → ∃ (k : Nat) (vs : List Value), R[k]? = some (y, dcell vs)) : mA l yJx4a65c_add_7a177 wsJx4a65c_add_7a177 ({ frames := 5, cells := 1, slots := 15, locals := 113 }) D cO mi e0 [.ref q, .int (nI k), .ref v] ((q, lcell md ea n) :: lT cO R ea n f) (fun a => (q, lcell (md + 1) a (n + 1)) :: (R ++ [(a, ocell cO (cap (n + 1)) (va_up (va_cpy f f k (k + 1) (n - k)) k (some v)))])) (fun sz a => (¬ n = 0 ∧ a = ea) ∨ sz ≤ a) 1 15 := by
  intro sz
  refine Met.ofW (cc := cJx4a65c_add_7a177) (maxL := 5) (ret := none) (by decide) rfl ?_
  intro p e s m args below meth c s₁ B hml hv
  obtain ⟨rfl, hsz, hP, hK, hE, hZ⟩ := hv
  have hx := B.exec
  have hb := B.bytes
  have hr := B.returns
  have hts := atoms_spec (ws := wsJx4a65c_add_7a177) B.pre
  have hown : s.vm.findClass RJx4a65c = some m.cls := findClass_of_methodNamed B.named
  have hlocks := B.notSynchronized
  subst hsz
  have hD : va_D (wA (((q, lcell md ea n) :: lT cO R ea n f : va_W).map (fun q => q.1)) s.heap.size) ((q, lcell md ea n) :: lT cO R ea n f) := wD rfl hnd (fun _ h => Or.inl h)
  have hS : va_S (wA (((q, lcell md ea n) :: lT cO R ea n f : va_W).map (fun q => q.1)) s.heap.size) s.heap s.heap [] := va_S.rf
  have hA : ∀ zz : Nat, s.heap.size ≤ zz → wA (((q, lcell md ea n) :: lT cO R ea n f : va_W).map (fun q => q.1)) s.heap.size zz := fun zz h => Or.inr h
  have hin : ∀ w ∈ wsJx4a65c0, w ∈ wsJx4a65c_add_7a177 := fun w h => List.mem_cons_of_mem _ (List.mem_append_right _ h)
  have hl := lv_entry ([.ref q, .int (nI k), .ref v]) (n := 5) (Nat.le_of_ble_eq_true rfl)
  rw [lg_entry_eq]
  generalize (lg_sl ([.ref q, .int (nI k), .ref v]) ++ List.replicate (5 - (lg_sl ([.ref q, .int (nI k), .ref v])).length) Slot.unset).toArray = ls at hl ⊢
  have hl : lv_has ls 5 [(0, .ref q), (1, .int (nI k)), (2, .ref v)] := hl
  have hP0lt := hP.lt'
  have hdn : ∀ (a : Nat) (e' : va_E), (¬ n = 0 ∧ a = ea) ∨ s.heap.size ≤ a → va_D (wA ((((q, lcell md ea n) :: lT cO R ea n f) : va_W).map (fun q => q.1)) s.heap.size) ((q, lcell (md + 1) a n) :: (R ++ [(a, e')])) := fun a e' ha => wD rfl (nd_new (e := e') rfl hnd hP0lt ha) (fun x hx => by
    have hx : x = q ∨ x ∈ R.map (fun q => q.1) ∨ x = a := by simpa using hx
    by_cases h0 : n = 0
    · have hh : lT cO R ea n f = R := if_pos h0
      rw [hh]
      rcases hx with rfl | hx | rfl
      · exact Or.inl (by simp)
      · exact Or.inl (by simp at hx ⊢; exact Or.inr hx)
      · exact ha.elim (fun z => absurd h0 z.1) Or.inr
    · have hh : lT cO R ea n f = R ++ [(ea, ocell cO (cap n) f)] := if_neg h0
      rw [hh]
      rcases hx with rfl | hx | rfl
      · exact Or.inl (by simp)
      · exact Or.inl (by simp at hx ⊢; exact Or.inr (Or.inl hx))
      · exact ha.elim (fun z => Or.inl (by simp [z.2])) Or.inr)
  refine lv_aload_n hx hb dJx4a65c_add_7a177_0 rfl (lv_at hl 0 rfl) ?_
  refine lv_iload_n hx hb dJx4a65c_add_7a177_1 rfl (lv_at hl 1 rfl) ?_
  refine va_csv (W.runV (As := [.int (nI k)]) (rest := []) ⟨hx, hb, hml, hown, hts⟩ (c_J_range l D (cT cO) ((q, lcell md ea n) :: lT cO R ea n f) q 0 ea k n md rfl hkn (by omega)) (cwV 1 hts gJx4a65c_add_7a177_Jx4a65c_rangeCheckForAdd_d00df rfl rfl rfl (by decide +kernel) ⟨Nat.le_of_ble_eq_true rfl, Nat.le_of_ble_eq_true rfl⟩) ⟨m_blindR, va_recv hK hP (ci := 0) (q0 := 0) rfl rfl, fun U hU hw => ⟨rfl, by rw [hU]; exact hP, va_K.moved hw.alike hK⟩⟩ rfl rfl hl.1 rfl (lv_room (Nat.le_of_ble_eq_true rfl)) dJx4a65c_add_7a177_2 ⟨Nat.zero_le _, Nat.zero_le _⟩) (fun _ => ?_)
  refine lv_aload_n hx hb dJx4a65c_add_7a177_5 rfl (lv_at hl 0 rfl) ?_
  refine lv_dup hx hb dJx4a65c_add_7a177_6 rfl ?_
  refine va_get (ci := 0) (v := .int md) (C := RJx4a65c) (T := TJx4a65c) (N := 3) hx hb hts hin hown hK hP 0 rfl rfl 0 (by decide) (hts (.fieldLink RJx4a65c 63 "java/util/ArrayList" "modCount" "I") (by decide +kernel)) (u_same (hts (.sameField "java/util/ArrayList" "java/util/AbstractList" "modCount" "I") (by decide +kernel))) rfl dJx4a65c_add_7a177_7 ?_
  refine lv_iconst (v := 1) hx hb dJx4a65c_add_7a177_10 (by decide) ?_
  refine lv_iadd hx hb dJx4a65c_add_7a177_11 ?_
  refine va_put (ci := 0) (v := .int (md + 1)) (ty := .int) (C := RJx4a65c) (T := TJx4a65c) (N := 3) hx hb hts hin tyJx4a65c tyJx4a65c_ok nmJx4a65c hown hK hP hD hS 0 rfl rfl 0 (by decide) (hts (.fieldLink RJx4a65c 63 "java/util/ArrayList" "modCount" "I") (by decide +kernel)) (u_same (hts (.sameField "java/util/ArrayList" "java/util/AbstractList" "modCount" "I") (by decide +kernel))) rfl (by decide +kernel) rfl rfl (Nat.le_of_ble_eq_true rfl) dJx4a65c_add_7a177_12 (fun H locs hP hD hS => ?_)
  have hP : va_P D vwCl ((q, lcell (md + 1) ea n) :: lT cO R ea n f) H := hP
  refine lv_aload_n hx hb dJx4a65c_add_7a177_15 rfl (lv_at hl 0 rfl) ?_
  refine va_get (ci := 0) (v := .int (nI n)) (C := RJx4a65c) (T := TJx4a65c) (N := 3) hx hb hts hin hown hK hP 0 rfl rfl 2 (by decide) (hts (.fieldLink RJx4a65c 48 "java/util/ArrayList" "size" "I") (by decide +kernel)) (fun _ h9 => h9) rfl dJx4a65c_add_7a177_16 ?_
  refine lv_dup hx hb dJx4a65c_add_7a177_19 rfl ?_
  refine lv_istore_n (lv' := [(3, .int (nI n)), (0, .ref q), (1, .int (nI k)), (2, .ref v)]) hx hb dJx4a65c_add_7a177_20 rfl hl (by decide) rfl (fun ls hl => ?_)
  refine lv_aload_n hx hb dJx4a65c_add_7a177_21 rfl (lv_at hl 1 rfl) ?_
  refine va_get (ci := 0) (v := .ref ea) (C := RJx4a65c) (T := TJx4a65c) (N := 3) hx hb hts hin hown hK hP 0 rfl rfl 1 (by decide) (hts (.fieldLink RJx4a65c 9 "java/util/ArrayList" "elementData" "[Ljava/lang/Object;") (by decide +kernel)) (fun _ h9 => h9) rfl dJx4a65c_add_7a177_22 ?_
  refine lv_dup hx hb dJx4a65c_add_7a177_25 rfl ?_
  refine lv_astore (lv' := [(4, .ref ea), (3, .int (nI n)), (0, .ref q), (1, .int (nI k)), (2, .ref v)]) hx hb dJx4a65c_add_7a177_26 hl (by decide) rfl (fun ls hl => ?_)
  by_cases h0 : n = 0
  · have hea := he h0
    subst h0
    subst hea
    refine va_tlen hx hb hZ.2 hS (v := 0) rfl dJx4a65c_add_7a177_28 ?_
    refine lv_icmp_ne (tgt := 38) hx hb dJx4a65c_add_7a177_29 (by decide) (fun c1 => ?_) (fun c1 => ?_)
    · exact absurd rfl c1
    · refine lv_aload_n hx hb dJx4a65c_add_7a177_32 rfl (lv_at hl 2 rfl) ?_
      refine m_callNv (As := []) (rest := []) ⟨hx, hb, hml, hown, hts⟩ (c_J_growB0 l D cO mi ea q (md + 1) R hnd) (cwV 0 hts gJx4a65c_add_7a177_Jx4a65c_grow_d5877 rfl rfl rfl (by decide +kernel) ⟨Nat.le_of_ble_eq_true rfl, Nat.le_of_ble_eq_true rfl⟩) hK hP hS (fun q h => wA_up hS.1 q h) hE hZ (va_recv hK hP (ci := 0) (q0 := 0) rfl rfl) rfl hl.1 rfl (Nat.le_of_ble_eq_true rfl) dJx4a65c_add_7a177_33 ⟨Nat.le_of_ble_eq_true rfl, Nat.le_of_ble_eq_true rfl⟩ (fun a H2 locs hfr hP hS2 _ => ?_)
      have hfr : s.heap.size ≤ a := Nat.le_trans hS.1 hfr
      have hS := hS2
      refine lv_astore (lv' := [(4, .ref a), (3, .int (nI 0)), (0, .ref q), (1, .int (nI k)), (2, .ref v)]) hx hb dJx4a65c_add_7a177_36 hl (by decide) rfl (fun ls hl => ?_)
      have hfn : (fun _ => none : Nat → Option Nat) = f := by funext i; exact (hf i (Nat.zero_le i)).symm
      rw [hfn] at hP
      refine add2_tail (cp := 10) hx hb hml hts hown hK hE hkn (by decide) (by decide) (Nat.le_of_ble_eq_true rfl) (Nat.le_of_ble_eq_true rfl) hv hel hP (hdn a _ (Or.inr hfr)) hS (lv_sub hl [2, 3, 4, 1, 0] rfl) (fun H locs hP hS => ?_)
      exact W.vret hx hb hr (fun tt ht hW => ⟨⟨a, rfl, Or.inr hfr, by rw [ht]; exact hP, va_K.moved hW.alike hK⟩, hS.F ht⟩) hS.2.2 dJx4a65c_add_7a177_64
  · have hT : lT cO R ea n f = R ++ [(ea, ocell cO (cap n) f)] := if_neg h0
    have hP1 : va_P D vwCl ((q, lcell (md + 1) ea n) :: (R ++ [(ea, ocell cO (cap n) f)])) H := by rw [← hT]; exact hP
    refine va_alen hx hb hK hP1 (R.length + 1) 0 tl_at rfl (v := nI (cap n)) rfl dJx4a65c_add_7a177_28 ?_
    by_cases h10 : n = 10
    · subst h10
      refine lv_icmp_ne (tgt := 38) hx hb dJx4a65c_add_7a177_29 (by decide) (fun c1 => ?_) (fun c1 => ?_)
      · exact absurd rfl c1
      · refine lv_aload_n hx hb dJx4a65c_add_7a177_32 rfl (lv_at hl 2 rfl) ?_
        refine m_callNv (As := []) (rest := []) ⟨hx, hb, hml, hown, hts⟩ (c_J_growB1 l D cO mi e0 q ea (md + 1) f R hnd (fun i hi y hy => hel i hi y hy)) (cwV 0 hts gJx4a65c_add_7a177_Jx4a65c_grow_d5877 rfl rfl rfl (by decide +kernel) ⟨Nat.le_of_ble_eq_true rfl, Nat.le_of_ble_eq_true rfl⟩) hK hP hS (fun q h => wA_up hS.1 q h) hE hZ (va_recv hK hP (ci := 0) (q0 := 0) rfl rfl) rfl hl.1 rfl (Nat.le_of_ble_eq_true rfl) dJx4a65c_add_7a177_33 ⟨Nat.le_of_ble_eq_true rfl, Nat.le_of_ble_eq_true rfl⟩ (fun a H2 locs hfr hP hS2 _ => ?_)
        have hfr : s.heap.size ≤ a := Nat.le_trans hS.1 hfr
        have hS := hS2
        refine lv_astore (lv' := [(4, .ref a), (3, .int (nI 10)), (0, .ref q), (1, .int (nI k)), (2, .ref v)]) hx hb dJx4a65c_add_7a177_36 hl (by decide) rfl (fun ls hl => ?_)
        rw [cpy_id hf] at hP
        have hP : va_P D vwCl ((q, lcell (md + 1) a 10) :: (R ++ [(a, ocell cO 15 f)])) H2 := hP.mem (fun x hx => by
          simp only [List.mem_cons, List.mem_append] at hx ⊢
          rcases hx with h | h | h
          · exact Or.inl h
          · exact Or.inr (Or.inl (Or.inl h))
          · exact Or.inr (Or.inr h))
        refine add2_tail (cp := 15) hx hb hml hts hown hK hE hkn (by decide) (by decide) (Nat.le_of_ble_eq_true rfl) (Nat.le_of_ble_eq_true rfl) hv hel hP (hdn a _ (Or.inr hfr)) hS (lv_sub hl [2, 3, 4, 1, 0] rfl) (fun H locs hP hS => ?_)
        exact W.vret hx hb hr (fun tt ht hW => ⟨⟨a, rfl, Or.inr hfr, by rw [ht]; exact hP, va_K.moved hW.alike hK⟩, hS.F ht⟩) hS.2.2 dJx4a65c_add_7a177_64
    · have hcs := cap_s h0 h10
      have hlt : n < cap n := by rw [← hcs]; exact cap_gt hn
      refine lv_icmp_ne (tgt := 38) hx hb dJx4a65c_add_7a177_29 (by decide) (fun c1 => ?_) (fun c1 => ?_)
      · have hd := hdn ea (ocell cO (cap n) f) (Or.inl ⟨h0, rfl⟩)
        refine W.widen (k := 1) (n := 15) (by omega) (by omega) ?_
        refine add2_tail (cp := cap n) hx hb hml hts hown hK hE hkn (hlt) (cap_lt) (Nat.le_of_ble_eq_true rfl) (Nat.le_of_ble_eq_true rfl) hv hel hP1 (hd) hS (lv_sub hl [2, 3, 4, 1, 0] rfl) (fun H locs hP hS => ?_)
        rw [← hcs] at hP
        exact W.vret hx hb hr (fun tt ht hW => ⟨⟨ea, rfl, Or.inl ⟨h0, rfl⟩, by rw [ht]; exact hP, va_K.moved hW.alike hK⟩, hS.F ht⟩) hS.2.2 dJx4a65c_add_7a177_64
      · exact absurd ((nI_eq (by omega) cap_lt).mp c1) (by omega)
