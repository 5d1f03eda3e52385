def lT (cO : ClassId) (R : va_W) (ea n : Nat) (f : Nat → Option Nat) : va_W := if n = 0 then R else R ++ [(ea, ocell cO (cap n) f)]
/-- no answer; the list's array may have become another one, at a -/
def mA (l : Launch) (y : MethodName) (ws : List Cond) (rm : Room) (D : va_G) (cO : ClassId) (mi e0 : Nat) (av : List Value) (w0 : va_W) (w1 : Nat → va_W) (pa : Nat → Nat → Prop) (mc ms : Nat) : Prop :=
  ∀ sz : Nat, Met l y ws rm (va_Pc av (fun U => U.heap.size = sz ∧ va_P D vwCl w0 U.heap ∧ va_K D vwCl (cT cO) U ∧ jE mi U ∧ jS e0 (wA (w0.map (fun q => q.1)) sz) U U.heap)) (va_Qv (pa sz) (fun a t => va_P D vwCl (w1 a) t.heap ∧ va_K D vwCl (cT cO) t) (wA (w0.map (fun q => q.1)) sz)) mc ms (wA (w0.map (fun q => q.1)) sz)
def mAi (l : Launch) (y : MethodName) (ws : List Cond) (rm : Room) (D : va_G) (cO : ClassId) (mi e0 : Nat) (av : List Value) (w0 : va_W) (ans : Int32) (w1 : Nat → va_W) (pa : Nat → Nat → Prop) (mc ms : Nat) : Prop :=
  ∀ sz : Nat, Met l y ws rm (va_Pc av (fun U => U.heap.size = sz ∧ va_P D vwCl w0 U.heap ∧ va_K D vwCl (cT cO) U ∧ jE mi U ∧ jS e0 (wA (w0.map (fun q => q.1)) sz) U U.heap)) (va_Qi (fun r a => r = ans ∧ pa sz a) (fun a t => va_P D vwCl (w1 a) t.heap ∧ va_K D vwCl (cT cO) t) (wA (w0.map (fun q => q.1)) sz)) mc ms (wA (w0.map (fun q => q.1)) sz)
section MAC
variable {p : Program} {l : Launch} {e : Env} {R : Room} {s : State} {m : MethodId} {args : Array Value} {below : List Frame} {meth : Method} {c : Code} {H : Heap} {locs : List Loc} {cells slots : Nat} {Q : State → Prop}
variable {cc bytes : ByteArray} {pc index nL n maxL mc ms mi e0 : Nat} {ls : Array Slot} {rest st0 As : List Value} {y : MethodName} {ws Ts : List Cond} {rm : Room} {ret : Option FieldType} {own C : String} {b : Nat} {D : va_G} {cO : ClassId} {w0 : va_W} {w1 : Nat → va_W} {pa : Nat → Nat → Prop} {A0 : Nat → Prop} {ans : Int32}
theorem m_callA (S : CallFix p m c cc nL s args Ts own) (hM : mA l y ws rm D cO mi e0 (.ref b :: As) w0 w1 pa mc ms) (cw : CallW R s args own C index y bytes maxL ret ws rm mc ms n) (hK : va_K D vwCl (cT cO) s) (hP : va_P D vwCl w0 H) (hS : va_S A0 s.heap H locs) (hA : ∀ q, wA (w0.map (fun q => q.1)) H.size q → A0 q) (hE : jE mi s) (hZ : jS e0 A0 s s.heap)
    (hrec : ∃ cellB : Cell, H[b]? = some cellB ∧ cellB.vm.isStatics = false ∧ s.vm.findClass C = some cellB.cls) (hn : As.length = n) (hsize : ls.size = nL) (hstack : st0 = As.reverse ++ .ref b :: rest) (hW : (rest.map fun v => v.category).sum ≤ 8) (hdg : decode cc pc = .ok (.invokevirtual index, 3)) (hf : cells + mc ≤ R.cells ∧ slots + ms ≤ R.slots)
    (kk : ∀ (a : Nat) (H1 : Heap) (locs1 : List Loc), pa H.size a → va_P D vwCl (w1 a) H1 → va_S A0 s.heap H1 locs1 → H.size ≤ H1.size → (∀ q : Nat, q < H.size → ¬ wA (w0.map (fun q => q.1)) H.size q → H1[q]? = H[q]?) → W p l e R s m args below meth c H1 locs1 (cells + mc) (slots + ms) Q (F0 m (pc + 3) ls rest)) : W p l e R s m args below meth c H locs cells slots Q (F0 m pc ls st0) := by
  refine va_callv (va_runV (As := As) (rest := rest) S (hM H.size) cw ⟨mN_blind, hrec, fun U hU hw => ⟨rfl, by rw [hU], by rw [hU]; exact hP, va_K.moved hw.alike hK, hE.warm hw, hZ.call hS hA hU hw⟩⟩ rfl hn hsize hstack (lv_room hW) hdg hf) hS (fun q _ h => hA q h) hA (fun u t H1 locs1 ht hvm hw hB hz1 hk1 hS1 => ?_)
  obtain ⟨hP1, hK1⟩ := hB
  rw [ht] at hP1
  exact kk u H1 locs1 hw hP1 hS1 hz1 hk1
theorem m_callAi (S : CallFix p m c cc nL s args Ts own) (hM : mAi l y ws rm D cO mi e0 (.ref b :: As) w0 ans w1 pa mc ms) (cw : CallW R s args own C index y bytes maxL ret ws rm mc ms n) (hK : va_K D vwCl (cT cO) s) (hP : va_P D vwCl w0 H) (hS : va_S A0 s.heap H locs) (hA : ∀ q, wA (w0.map (fun q => q.1)) H.size q → A0 q) (hE : jE mi s) (hZ : jS e0 A0 s s.heap)
    (hrec : ∃ cellB : Cell, H[b]? = some cellB ∧ cellB.vm.isStatics = false ∧ s.vm.findClass C = some cellB.cls) (hn : As.length = n) (hsize : ls.size = nL) (hstack : st0 = As.reverse ++ .ref b :: rest) (hW : (rest.map fun v => v.category).sum ≤ 8) (hdg : decode cc pc = .ok (.invokevirtual index, 3)) (hf : cells + mc ≤ R.cells ∧ slots + ms ≤ R.slots)
    (kk : ∀ (a : Nat) (H1 : Heap) (locs1 : List Loc), pa H.size a → va_P D vwCl (w1 a) H1 → va_S A0 s.heap H1 locs1 → H.size ≤ H1.size → (∀ q : Nat, q < H.size → ¬ wA (w0.map (fun q => q.1)) H.size q → H1[q]? = H[q]?) → W p l e R s m args below meth c H1 locs1 (cells + mc) (slots + ms) Q (F0 m (pc + 3) ls (.int ans :: rest))) : W p l e R s m args below meth c H locs cells slots Q (F0 m pc ls st0) := by
  refine va_calli (va_runV (As := As) (rest := rest) S (hM H.size) cw ⟨mN_blind, hrec, fun U hU hw => ⟨rfl, by rw [hU], by rw [hU]; exact hP, va_K.moved hw.alike hK, hE.warm hw, hZ.call hS hA hU hw⟩⟩ rfl hn hsize hstack (lv_room hW) hdg hf) hS (fun q _ h => hA q h) hA (fun r u t H1 locs1 ht hvm hw hB hz1 hk1 hS1 => ?_)
  obtain ⟨hP1, hK1⟩ := hB
  obtain ⟨rfl, hw⟩ := hw
  rw [ht] at hP1
  exact kk u H1 locs1 hw hP1 hS1 hz1 hk1
end MAC
theorem cap_s {n : Nat} (h0 : ¬ n = 0) (h10 : ¬ n = 10) : cap (n + 1) = cap n := by unfold cap; by_cases h : n ≤ 10 <;> (repeat split) <;> omega
theorem cap_gt {n : Nat} (hn : n ≤ 11) : n < cap (n + 1) := by unfold cap; split <;> omega
theorem cpy_id {f : Nat → Option Nat} (hf : ∀ i, 10 ≤ i → f i = none) : va_cpy f (fun _ => none) 0 0 10 = f := by
  funext j
  by_cases h : j < 10
  · rw [pk_cpy_in (by omega) (by omega)]; congr 1; omega
  · rw [pk_cpy_out (by omega), hf j (by omega)]
theorem nd_new {x : Nat × va_E} {R : va_W} {ea a sz n : Nat} {e e' : va_E} {x' : Nat × va_E} {cO : ClassId} {f : Nat → Option Nat} (hx : x'.1 = x.1) (h : ((x :: lT cO R ea n f).map (fun q => q.1)).Nodup) (hl : ∀ q ∈ (x :: lT cO R ea n f).map (fun q => q.1), q < sz) (ha : (¬ n = 0 ∧ a = ea) ∨ sz ≤ a) : ((x' :: (R ++ [(a, e')])).map (fun q => q.1)).Nodup := by
  by_cases h0 : n = 0
  · have h1 : sz ≤ a := ha.elim (fun z => absurd h0 z.1) id
    have hh : lT cO R ea n f = R := if_pos h0
    rw [hh] at h hl
    have := nd_push (ws := x :: R) (e := e') h hl h1
    simpa [hx] using this
  · have hh : lT cO R ea n f = R ++ [(ea, ocell cO (cap n) f)] := if_neg h0
    rw [hh] at h hl
    rcases ha with ⟨-, rfl⟩ | h1
    · simpa [hx] using h
    · have h2 : ((x :: R).map (fun q => q.1)).Nodup := by
        have h3 : ((x :: R ++ [(ea, ocell cO (cap n) f)]).map (fun q => q.1)).Nodup := h
        rw [List.map_append] at h3
        exact (List.nodup_append.mp h3).1
      have := nd_push (ws := x :: R) (e := e') h2 (fun q hq => hl q (by
        have : ((x :: R ++ [(ea, ocell cO (cap n) f)]).map (fun q => q.1)) = (x :: (R ++ [(ea, ocell cO (cap n) f)])).map (fun q => q.1) := rfl
        rw [← this, List.map_append]
        exact List.mem_append_left _ hq)) h1
      simpa [hx] using this
section AD3
variable {p : Program} {l : Launch} {e : Env} {Ro : Room} {s : State} {m : MethodId} {args : Array Value} {below : List Frame} {meth : Method} {c : Code} {H : Heap} {locs : List Loc} {cells slots : Nat} {Q : State → Prop} {ls : Array Slot} {D : va_G} {cO : ClassId} {mi : Nat}
set_option maxHeartbeats 4000000 in
set_option maxRecDepth 100000 in
theorem add3_tail {q v a n cp : Nat} {md : Int32} {f : Nat → Option Nat} {R : va_W} {A : Nat → Prop} (hx : p.tables.exec = Jvm.exec) (hb : c.code = cJx4a65c_add_72be8) (hts : ∀ w ∈ wsJx4a65c_add_72be8, w.before args s = true) (hown : s.vm.findClass RJx4a65c = some m.cls) (hK : va_K D vwCl (cT cO) s) (hE : jE mi s) (hn : n < cp) (hcp : cp < 2 ^ 31) (hv : ∃ (k : Nat) (vs : List Value), R[k]? = some (v, dcell vs))
    (hP : va_P D vwCl ((q, lcell md a n) :: (R ++ [(a, ocell cO cp f)])) H) (hD : va_D A ((q, lcell md a n) :: (R ++ [(a, ocell cO cp f)]))) (hS : va_S A s.heap H locs) (hl : lv_has ls 4 [(0, .ref q), (1, .ref v), (2, .ref a), (3, .int (nI n))])
    (kk : ∀ (H1 : Heap) (locs1 : List Loc), va_P D vwCl ((q, lcell md a (n + 1)) :: (R ++ [(a, ocell cO cp (va_up f n (some v)))])) H1 → va_S A s.heap H1 locs1 → W p l e Ro s m args below meth c H1 locs1 cells slots Q (F0 m 22 ls [])) : W p l e Ro s m args below meth c H locs cells slots Q (F0 m 11 ls []) := by
  have hin : ∀ w ∈ wsJx4a65c0, w ∈ wsJx4a65c_add_72be8 := fun w h => List.mem_cons_of_mem _ (List.mem_append_right _ h)
  obtain ⟨k, vs, hk⟩ := hv
  refine lv_aload_n hx hb dJx4a65c_add_72be8_11 rfl (lv_at hl 2 rfl) ?_
  refine lv_iload_n hx hb dJx4a65c_add_72be8_12 rfl (lv_at hl 3 rfl) ?_
  refine lv_aload_n hx hb dJx4a65c_add_72be8_13 rfl (lv_at hl 1 rfl) ?_
  refine va_astqO (r := (RX0, TX0, 13)) hx hb hK hP hD hS (R.length + 1) 0 (k + 1) 1 tl_at rfl hE.2.1 (tl_el hk) rfl (vp_in_nI hn hcp) dJx4a65c_add_72be8_14 (fun H locs hP hD hS => ?_)
  rw [nI_clamp (by omega), tl_set] at hP hD
  refine lv_aload_n hx hb dJx4a65c_add_72be8_15 rfl (lv_at hl 0 rfl) ?_
  refine lv_iload_n hx hb dJx4a65c_add_72be8_16 rfl (lv_at hl 3 rfl) ?_
  refine lv_iconst (v := 1) hx hb dJx4a65c_add_72be8_17 (by decide) ?_
  refine lv_iadd hx hb dJx4a65c_add_72be8_18 ?_
  rw [nI_1]
  refine va_put (ci := 0) (v := .int (nI (n + 1))) (ty := .int) (C := RJx4a65c) (T := TJx4a65c) (N := 3) hx hb hts hin tyJx4a65c tyJx4a65c_ok nmJx4a65c hown hK hP hD hS 0 rfl rfl 2 (by decide) (hts (.fieldLink RJx4a65c 48 "java/util/ArrayList" "size" "I") (by decide +kernel)) (fun _ h9 => h9) rfl (by decide +kernel) rfl rfl (Nat.le_of_ble_eq_true rfl) dJx4a65c_add_72be8_19 (fun H locs hP hD hS => ?_)
  exact kk H locs hP hS
end AD3

set_option maxHeartbeats 4000000 in
set_option maxRecDepth 100000 in
theorem c_J_add3 (l : Launch) (D : va_G) (cO : ClassId) (mi e0 q ea v n : Nat) (md : Int32) (f : Nat → Option Nat) (R : va_W) (hn : n ≤ 11) (he : n = 0 → ea = e0) (hf : ∀ i, n ≤ i → f i = none) (hnd : ((((q, lcell md ea n) :: lT cO R ea n f) : va_W).map (fun q => q.1)).Nodup) (hv : ∃ (k : Nat) (vs : List Value), R[k]? = some (v, dcell vs)) (hel : ∀ i, i < n → ∀ y : Nat, f i = some y → ∃ (k : Nat) (vs : List Value), R[k]? = some (y, dcell vs)) : mA l yJx4a65c_add_72be8 wsJx4a65c_add_72be8 ({ frames := 5, cells := 1, slots := 15, locals := 113 }) D cO mi e0 [.ref q, .ref v, .ref ea, .int (nI n)] ((q, lcell md ea n) :: lT cO R ea n f) (fun a => (q, lcell md a (n + 1)) :: (R ++ [(a, ocell cO (cap (n + 1)) (va_up f n (some v)))])) (fun sz a => (¬ n = 0 ∧ a = ea) ∨ sz ≤ a) 1 15 := by
  intro sz
  refine Met.ofW (cc := cJx4a65c_add_72be8) (maxL := 4) (ret := none) (by decide) rfl ?_
  intro p e s m args below meth c s₁ B hml hv
  obtain ⟨rfl, hsz, hP, hK, hE, hZ⟩ := hv
  have hx := B.exec
  have hb := B.bytes
  have hr := B.returns
  have hts := atoms_spec (ws := wsJx4a65c_add_72be8) B.pre
  have hown : s.vm.findClass RJx4a65c = some m.cls := findClass_of_methodNamed B.named
  have hlocks := B.notSynchronized
  subst hsz
  have hD : va_D (wA (((q, lcell md ea n) :: lT cO R ea n f : va_W).map (fun q => q.1)) s.heap.size) ((q, lcell md ea n) :: lT cO R ea n f) := wD rfl hnd (fun _ h => Or.inl h)
  have hS : va_S (wA (((q, lcell md ea n) :: lT cO R ea n f : va_W).map (fun q => q.1)) s.heap.size) s.heap s.heap [] := va_S.rf
  have hA : ∀ zz : Nat, s.heap.size ≤ zz → wA (((q, lcell md ea n) :: lT cO R ea n f : va_W).map (fun q => q.1)) s.heap.size zz := fun zz h => Or.inr h
  have hl := lv_entry ([.ref q, .ref v, .ref ea, .int (nI n)]) (n := 4) (Nat.le_of_ble_eq_true rfl)
  rw [lg_entry_eq]
  generalize (lg_sl ([.ref q, .ref v, .ref ea, .int (nI n)]) ++ List.replicate (4 - (lg_sl ([.ref q, .ref v, .ref ea, .int (nI n)])).length) Slot.unset).toArray = ls at hl ⊢
  have hl : lv_has ls 4 [(0, .ref q), (1, .ref v), (2, .ref ea), (3, .int (nI n))] := hl
  have hP0lt := hP.lt'
  refine lv_iload_n hx hb dJx4a65c_add_72be8_0 rfl (lv_at hl 3 rfl) ?_
  refine lv_aload_n hx hb dJx4a65c_add_72be8_1 rfl (lv_at hl 2 rfl) ?_
  have hdn : ∀ (a : Nat) (e' : va_E), (¬ n = 0 ∧ a = ea) ∨ s.heap.size ≤ a → va_D (wA ((((q, lcell md ea n) :: lT cO R ea n f) : va_W).map (fun q => q.1)) s.heap.size) ((q, lcell md a n) :: (R ++ [(a, e')])) := fun a e' ha => wD rfl (nd_new (e := e') rfl hnd hP0lt ha) (fun x hx => by
    have hx : x = q ∨ x ∈ R.map (fun q => q.1) ∨ x = a := by simpa using hx
    by_cases h0 : n = 0
    · have hh : lT cO R ea n f = R := if_pos h0
      rw [hh]
      rcases hx with rfl | hx | rfl
      · exact Or.inl (by simp)
      · exact Or.inl (by simp at hx ⊢; exact Or.inr hx)
      · exact ha.elim (fun z => absurd h0 z.1) Or.inr
    · have hh : lT cO R ea n f = R ++ [(ea, ocell cO (cap n) f)] := if_neg h0
      rw [hh]
      rcases hx with rfl | hx | rfl
      · exact Or.inl (by simp)
      · exact Or.inl (by simp at hx ⊢; exact Or.inr (Or.inl hx))
      · exact ha.elim (fun z => Or.inl (by simp [z.2])) Or.inr)
  by_cases h0 : n = 0
  · have hea := he h0
    subst h0
    subst hea
    refine va_tlen hx hb hZ.2 hS (v := 0) rfl dJx4a65c_add_72be8_2 ?_
    refine lv_icmp_ne (tgt := 11) hx hb dJx4a65c_add_72be8_3 (by decide) (fun c1 => ?_) (fun c1 => ?_)
    · exact absurd rfl c1
    · refine lv_aload_n hx hb dJx4a65c_add_72be8_6 rfl (lv_at hl 0 rfl) ?_
      refine m_callNv (As := []) (rest := []) ⟨hx, hb, hml, hown, hts⟩ (c_J_growB0 l D cO mi ea q md R hnd) (cwV 0 hts gJx4a65c_add_72be8_Jx4a65c_grow_d5877 rfl rfl rfl (by decide +kernel) ⟨Nat.le_of_ble_eq_true rfl, Nat.le_of_ble_eq_true rfl⟩) hK hP hS (fun q h => h) hE hZ (va_recv hK hP (ci := 0) (q0 := 0) rfl rfl) rfl hl.1 rfl (Nat.le_of_ble_eq_true rfl) dJx4a65c_add_72be8_7 ⟨Nat.le_of_ble_eq_true rfl, Nat.le_of_ble_eq_true rfl⟩ (fun a H locs hfr hP hS _ => ?_)
      refine lv_astore_n (lv' := [(2, .ref a), (0, .ref q), (1, .ref v), (3, .int (nI 0))]) hx hb dJx4a65c_add_72be8_10 rfl hl (by decide) rfl (fun ls hl => ?_)
      have hfn : (fun _ => none : Nat → Option Nat) = f := by funext i; exact (hf i (Nat.zero_le i)).symm
      rw [hfn] at hP
      refine add3_tail (cp := 10) hx hb hts hown hK hE (by decide) (by decide) hv hP (hdn a _ (Or.inr hfr)) hS (lv_sub hl [1, 2, 0, 3] rfl) (fun H locs hP hS => ?_)
      exact W.vret hx hb hr (fun tt ht hW => ⟨⟨a, rfl, Or.inr hfr, by rw [ht]; exact hP, va_K.moved hW.alike hK⟩, hS.F ht⟩) hS.2.2 dJx4a65c_add_72be8_22
  · have hT : lT cO R ea n f = R ++ [(ea, ocell cO (cap n) f)] := if_neg h0
    have hP1 : va_P D vwCl ((q, lcell md ea n) :: (R ++ [(ea, ocell cO (cap n) f)])) s.heap := by rw [← hT]; exact hP
    refine va_alen hx hb hK hP1 (R.length + 1) 0 tl_at rfl (v := nI (cap n)) rfl dJx4a65c_add_72be8_2 ?_
    by_cases h10 : n = 10
    · subst h10
      refine lv_icmp_ne (tgt := 11) hx hb dJx4a65c_add_72be8_3 (by decide) (fun c1 => ?_) (fun c1 => ?_)
      · exact absurd rfl c1
      · refine lv_aload_n hx hb dJx4a65c_add_72be8_6 rfl (lv_at hl 0 rfl) ?_
        refine m_callNv (As := []) (rest := []) ⟨hx, hb, hml, hown, hts⟩ (c_J_growB1 l D cO mi e0 q ea md f R hnd (fun i hi y hy => hel i hi y hy)) (cwV 0 hts gJx4a65c_add_72be8_Jx4a65c_grow_d5877 rfl rfl rfl (by decide +kernel) ⟨Nat.le_of_ble_eq_true rfl, Nat.le_of_ble_eq_true rfl⟩) hK hP hS (fun q h => h) hE hZ (va_recv hK hP (ci := 0) (q0 := 0) rfl rfl) rfl hl.1 rfl (Nat.le_of_ble_eq_true rfl) dJx4a65c_add_72be8_7 ⟨Nat.le_of_ble_eq_true rfl, Nat.le_of_ble_eq_true rfl⟩ (fun a H locs hfr hP hS _ => ?_)
        refine lv_astore_n (lv' := [(2, .ref a), (0, .ref q), (1, .ref v), (3, .int (nI 10))]) hx hb dJx4a65c_add_72be8_10 rfl hl (by decide) rfl (fun ls hl => ?_)
        rw [cpy_id hf] at hP
        have hP : va_P D vwCl ((q, lcell md a 10) :: (R ++ [(a, ocell cO 15 f)])) H := hP.mem (fun x hx => by
          simp only [List.mem_cons, List.mem_append] at hx ⊢
          rcases hx with h | h | h
          · exact Or.inl h
          · exact Or.inr (Or.inl (Or.inl h))
          · exact Or.inr (Or.inr h))
        refine add3_tail (cp := 15) hx hb hts hown hK hE (by decide) (by decide) hv hP (hdn a _ (Or.inr hfr)) hS (lv_sub hl [1, 2, 0, 3] rfl) (fun H locs hP hS => ?_)
        exact W.vret hx hb hr (fun tt ht hW => ⟨⟨a, rfl, Or.inr hfr, by rw [ht]; exact hP, va_K.moved hW.alike hK⟩, hS.F ht⟩) hS.2.2 dJx4a65c_add_72be8_22
    · have hcs := cap_s h0 h10
      have hlt : n < cap n := by rw [← hcs]; exact cap_gt hn
      refine lv_icmp_ne (tgt := 11) hx hb dJx4a65c_add_72be8_3 (by decide) (fun c1 => ?_) (fun c1 => ?_)
      · have hd := hdn ea (ocell cO (cap n) f) (Or.inl ⟨h0, rfl⟩)
        refine W.widen (k := 1) (n := 15) (by omega) (by omega) ?_
        refine add3_tail (cp := cap n) hx hb hts hown hK hE hlt cap_lt hv hP1 hd hS (lv_sub hl [0, 1, 2, 3] rfl) (fun H locs hP hS => ?_)
        rw [← hcs] at hP
        exact W.vret hx hb hr (fun tt ht hW => ⟨⟨ea, rfl, Or.inl ⟨h0, rfl⟩, by rw [ht]; exact hP, va_K.moved hW.alike hK⟩, hS.F ht⟩) hS.2.2 dJx4a65c_add_72be8_22
      · exact absurd ((nI_eq (by omega) cap_lt).mp c1) (by omega)

set_option maxHeartbeats 4000000 in
set_option maxRecDepth 100000 in
theorem c_J_add1 (l : Launch) (D : va_G) (cO : ClassId) (mi e0 q ea v n : Nat) (md : Int32) (f : Nat → Option Nat) (R : va_W) (hn : n ≤ 11) (he : n = 0 → ea = e0) (hf : ∀ i, n ≤ i → f i = none) (hnd : ((((q, lcell md ea n) :: lT cO R ea n f) : va_W).map (fun q => q.1)).Nodup) (hv : ∃ (k : Nat) (vs : List Value), R[k]? = some (v, dcell vs)) (hel : ∀ i, i < n → ∀ y : Nat, f i = some y → ∃ (k : Nat) (vs : List Value), R[k]? = some (y, dcell vs)) : mAi l yJx4a65c_add_9ea2d wsJx4a65c_add_9ea2d ({ frames := 6, cells := 1, slots := 15, locals := 136 }) D cO mi e0 [.ref q, .ref v] ((q, lcell md ea n) :: lT cO R ea n f) 1 (fun a => (q, lcell (md + 1) a (n + 1)) :: (R ++ [(a, ocell cO (cap (n + 1)) (va_up f n (some v)))])) (fun sz a => (¬ n = 0 ∧ a = ea) ∨ sz ≤ a) 1 15 := by
  intro sz
  refine Met.ofW (cc := cJx4a65c_add_9ea2d) (maxL := 2) (ret := (some .boolean)) (by decide) rfl ?_
  intro p e s m args below meth c s₁ B hml hv
  obtain ⟨rfl, hsz, hP, hK, hE, hZ⟩ := hv
  have hx := B.exec
  have hb := B.bytes
  have hr := B.returns
  have hts := atoms_spec (ws := wsJx4a65c_add_9ea2d) B.pre
  have hown : s.vm.findClass RJx4a65c = some m.cls := findClass_of_methodNamed B.named
  have hlocks := B.notSynchronized
  subst hsz
  have hD : va_D (wA (((q, lcell md ea n) :: lT cO R ea n f : va_W).map (fun q => q.1)) s.heap.size) ((q, lcell md ea n) :: lT cO R ea n f) := wD rfl hnd (fun _ h => Or.inl h)
  have hS : va_S (wA (((q, lcell md ea n) :: lT cO R ea n f : va_W).map (fun q => q.1)) s.heap.size) s.heap s.heap [] := va_S.rf
  have hA : ∀ zz : Nat, s.heap.size ≤ zz → wA (((q, lcell md ea n) :: lT cO R ea n f : va_W).map (fun q => q.1)) s.heap.size zz := fun zz h => Or.inr h
  have hin : ∀ w ∈ wsJx4a65c0, w ∈ wsJx4a65c_add_9ea2d := fun w h => List.mem_cons_of_mem _ (List.mem_append_right _ h)
  have hl := lv_entry ([.ref q, .ref v]) (n := 2) (Nat.le_of_ble_eq_true rfl)
  rw [lg_entry_eq]
  generalize (lg_sl ([.ref q, .ref v]) ++ List.replicate (2 - (lg_sl ([.ref q, .ref v])).length) Slot.unset).toArray = ls at hl ⊢
  have hl : lv_has ls 2 [(0, .ref q), (1, .ref v)] := hl
  refine lv_aload_n hx hb dJx4a65c_add_9ea2d_0 rfl (lv_at hl 0 rfl) ?_
  refine lv_dup hx hb dJx4a65c_add_9ea2d_1 rfl ?_
  refine va_get (ci := 0) (v := .int md) (C := RJx4a65c) (T := TJx4a65c) (N := 3) hx hb hts hin hown hK hP 0 rfl rfl 0 (by decide) (hts (.fieldLink RJx4a65c 63 "java/util/ArrayList" "modCount" "I") (by decide +kernel)) (u_same (hts (.sameField "java/util/ArrayList" "java/util/AbstractList" "modCount" "I") (by decide +kernel))) rfl dJx4a65c_add_9ea2d_2 ?_
  refine lv_iconst (v := 1) hx hb dJx4a65c_add_9ea2d_5 (by decide) ?_
  refine lv_iadd hx hb dJx4a65c_add_9ea2d_6 ?_
  refine va_put (ci := 0) (v := .int (md + 1)) (ty := .int) (C := RJx4a65c) (T := TJx4a65c) (N := 3) hx hb hts hin tyJx4a65c tyJx4a65c_ok nmJx4a65c hown hK hP hD hS 0 rfl rfl 0 (by decide) (hts (.fieldLink RJx4a65c 63 "java/util/ArrayList" "modCount" "I") (by decide +kernel)) (u_same (hts (.sameField "java/util/ArrayList" "java/util/AbstractList" "modCount" "I") (by decide +kernel))) rfl (by decide +kernel) rfl rfl (Nat.le_of_ble_eq_true rfl) dJx4a65c_add_9ea2d_7 (fun H locs hP hD hS => ?_)
  have hP : va_P D vwCl ((q, lcell (md + 1) ea n) :: lT cO R ea n f) H := hP
  have hz0 : H.size = s.heap.size ∨ s.heap.size ≤ H.size := Or.inr hS.1
  refine lv_aload_n hx hb dJx4a65c_add_9ea2d_10 rfl (lv_at hl 0 rfl) ?_
  refine lv_aload_n hx hb dJx4a65c_add_9ea2d_11 rfl (lv_at hl 1 rfl) ?_
  refine lv_aload_n hx hb dJx4a65c_add_9ea2d_12 rfl (lv_at hl 0 rfl) ?_
  refine va_get (ci := 0) (v := .ref ea) (C := RJx4a65c) (T := TJx4a65c) (N := 3) hx hb hts hin hown hK hP 0 rfl rfl 1 (by decide) (hts (.fieldLink RJx4a65c 9 "java/util/ArrayList" "elementData" "[Ljava/lang/Object;") (by decide +kernel)) (fun _ h9 => h9) rfl dJx4a65c_add_9ea2d_13 ?_
  refine lv_aload_n hx hb dJx4a65c_add_9ea2d_16 rfl (lv_at hl 0 rfl) ?_
  refine va_get (ci := 0) (v := .int (nI n)) (C := RJx4a65c) (T := TJx4a65c) (N := 3) hx hb hts hin hown hK hP 0 rfl rfl 2 (by decide) (hts (.fieldLink RJx4a65c 48 "java/util/ArrayList" "size" "I") (by decide +kernel)) (fun _ h9 => h9) rfl dJx4a65c_add_9ea2d_17 ?_
  refine m_callA (As := [.ref v, .ref ea, .int (nI n)]) (rest := []) ⟨hx, hb, hml, hown, hts⟩ (c_J_add3 l D cO mi e0 q ea v n (md + 1) f R hn he hf hnd hv hel) (cwV 3 hts gJx4a65c_add_9ea2d_Jx4a65c_add_72be8 rfl rfl rfl (by decide +kernel) ⟨Nat.le_of_ble_eq_true rfl, Nat.le_of_ble_eq_true rfl⟩) hK hP hS (fun q h => wA_up hS.1 q h) hE hZ (va_recv hK hP (ci := 0) (q0 := 0) rfl rfl) rfl hl.1 rfl (Nat.le_of_ble_eq_true rfl) dJx4a65c_add_9ea2d_20 ⟨Nat.le_of_ble_eq_true rfl, Nat.le_of_ble_eq_true rfl⟩ (fun a H2 locs hpa hP hS hsz _ => ?_)
  refine lv_iconst (v := 1) hx hb dJx4a65c_add_9ea2d_23 (by decide) ?_
  exact W.zret (v := 1) hx hb hr rfl (fun tt ht hW => ⟨⟨1, a, rfl, ⟨rfl, hpa.elim Or.inl (fun z => Or.inr (by omega))⟩, by rw [ht]; exact hP, va_K.moved hW.alike hK⟩, hS.F ht⟩) hS.2.2 dJx4a65c_add_9ea2d_24
