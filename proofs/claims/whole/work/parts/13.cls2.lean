def C_sink_w (n : Nat) (o : Nat → Nat) : Nat → cSt → cSt
  | 0, S => (upd (upd (C_endDue n o S).1 2 2) 9 ((C_endDue n o S).1 9 + 1), (C_endDue n o S).2.1, (C_endDue n o S).2.2)
  | r + 1, S => if S.2.1 7 (o r) = 2 then C_makeDue n o S (o r) (S.2.1 4 (o r)) else C_sink_w n o r (C_turn n o S (o r) 0)
def C_sinkFurther (n : Nat) (o : Nat → Nat) (S : cSt) : cSt := C_sink_w n o n S
theorem C_sink_w_ok (n : Nat) (o : Nat → Nat) : ∀ (r : Nat) (S : cSt), r ≤ n → cOk n o S → cOk n o (C_sink_w n o r S)
  | 0, S, _, hok => (show cOk n o (C_sink_w n o 0 S) from C_endDue_ok n o S hok)
  | r + 1, S, hr, hok => by
    unfold C_sink_w
    split
    · exact C_makeDue_ok n o S (o r) _ hok (hok.2.1 r (by omega))
    · exact C_sink_w_ok n o r _ (by omega) (C_turn_ok n o S (o r) 0 hok)
theorem C_sinkFurther_ok (n : Nat) (o : Nat → Nat) (S : cSt) (hok : cOk n o S) : cOk n o (C_sinkFurther n o S) := C_sink_w_ok n o n S (Nat.le_refl n) hok

set_option maxHeartbeats 4000000 in
set_option maxRecDepth 100000 in
theorem c_X1_sinkFurther (l : Launch) (D : va_G) (cO : ClassId) (h ad : Nat → Nat) (md : Nat → Int32) (n : Nat) (o : Nat → Nat) (ha : (cL h ad n).Nodup) (S : cSt) (hok : cOk n o S) : mV l yX1_sinkFurther wsX1_sinkFurther (rmz 3 64) D (cT cO) (cL h ad n) [.ref (h 0)] (cW cO h ad md n o S) (cW cO h ad md n o (C_sinkFurther n o S)) := by
  intro sz
  refine Met.ofW (cc := cX1_sinkFurther) (maxL := 3) (ret := none) (by decide) rfl ?_
  intro p e s m args below meth c s₁ B hml hv
  obtain ⟨rfl, hsz, hP, hK⟩ := hv
  have hx := B.exec
  have hb := B.bytes
  have hr := B.returns
  have hts := atoms_spec (ws := wsX1_sinkFurther) B.pre
  have hin : ∀ w ∈ wsX10, w ∈ wsX1_sinkFurther := fun w h => List.mem_cons_of_mem _ (List.mem_append_left _ (List.mem_append_left _ (List.mem_append_right _ h)))
  have hin0 : ∀ w ∈ wsX00, w ∈ wsX1_sinkFurther := fun w h => List.mem_cons_of_mem _ (List.mem_append_left _ (List.mem_append_right _ h))
  have hown : s.vm.findClass RX1 = some m.cls := findClass_of_methodNamed B.named
  have hlocks := B.notSynchronized
  have hn12 : n ≤ 12 := hok.1
  subst hsz
  have hS : va_S (wA (cL h ad n) s.heap.size) s.heap s.heap [] := va_S.rf
  have hl := lv_entry ([.ref (h 0)]) (n := 3) (Nat.le_of_ble_eq_true rfl)
  rw [lg_entry_eq]
  generalize (lg_sl ([.ref (h 0)]) ++ List.replicate (3 - (lg_sl ([.ref (h 0)])).length) Slot.unset).toArray = ls at hl ⊢
  have hl : lv_has ls 3 [(0, .ref (h 0))] := hl
  refine lv_aload_n hx hb dX1_sinkFurther_0 rfl (lv_at hl 0 rfl) ?_
  refine c_get (S := S) (v := .ref (h 2)) hx hb hts hin hown hK hP 1 (by decide) (by decide +kernel) rfl rfl dX1_sinkFurther_1 ?_
  refine m_callR (As := []) (rest := []) ⟨hx, hb, hml, hown, hts⟩ (c_J_size l D (cT cO) (cW cO h ad md n o S) (h 2) 2 (h 4) (md 2) (nI n) rfl) (cwV 0 hts gX1_sinkFurther_Jx4a65c_size_8abf5 rfl rfl rfl (by decide +kernel) ⟨Nat.le_of_ble_eq_true rfl, Nat.le_of_ble_eq_true rfl⟩) hK hP (va_recv hK hP (ci := 0) (q0 := 2) rfl rfl) rfl hl.1 rfl (Nat.le_of_ble_eq_true rfl) dX1_sinkFurther_4 ⟨Nat.zero_le _, Nat.zero_le _⟩ ?_
  refine lv_iconst (v := 1) hx hb dX1_sinkFurther_7 (by decide) ?_
  refine lv_isub hx hb dX1_sinkFurther_8 ?_
  refine lv_istore_n (lv' := [(1, .int ((nI n) - 1)), (0, .ref (h 0))]) hx hb dX1_sinkFurther_9 rfl hl (by decide) rfl (fun ls hl => ?_)
  refine w_loop (σ := Nat × cSt) (I := fun z H locs ls => z.1 ≤ n ∧ C_sink_w n o z.1 z.2 = C_sinkFurther n o S ∧ cOk n o z.2 ∧ va_P D vwCl (cW cO h ad md n o z.2) H ∧ va_S (wA (cL h ad n) s.heap.size) s.heap H locs ∧ lv_has ls 3 [(0, .ref (h 0)), (1, .int (nI z.1 - 1))]) (fun z => z.1) ?_ (n, S) ⟨Nat.le_refl _, rfl, hok, hP, hS, lv_sub hl [1, 0] rfl⟩
  intro z H locs ls hI ih
  obtain ⟨r, Z⟩ := z
  dsimp only at hI
  obtain ⟨hr1, hw, hok, hP, hS, hl⟩ := hI
  rcases r with _ | r
  · rw [show nI 0 - 1 = (-1 : Int32) from by decide] at hl
    refine lv_iload_n hx hb dX1_sinkFurther_10 rfl (lv_at hl 1 rfl) ?_
    refine lv_if_lt (tgt := 56) hx hb dX1_sinkFurther_11 (by decide) (fun c1 => ?_) (fun c1 => ?_)
    · refine lv_aload_n hx hb dX1_sinkFurther_56 rfl (lv_at hl 0 rfl) ?_
      refine m_callv (As := []) (rest := []) ⟨hx, hb, hml, hown, hts⟩ (c_X1_endDue l D cO h ad md n o ha Z hok ) (cwV 0 hts gX1_sinkFurther_X1_endDue rfl rfl rfl (by decide +kernel) ⟨Nat.le_of_ble_eq_true rfl, Nat.le_of_ble_eq_true rfl⟩) hK hP hS (fun q h => wA_up hS.1 q h) (va_recv hK hP (ci := 2) (q0 := 0) rfl rfl) rfl hl.1 rfl (Nat.le_of_ble_eq_true rfl) dX1_sinkFurther_57 ⟨Nat.zero_le _, Nat.zero_le _⟩ (fun H locs hP hS _ => ?_)
      have hok : cOk n o (C_endDue n o Z) := (C_endDue_ok n o Z hok)
      refine lv_aload_n hx hb dX1_sinkFurther_60 rfl (lv_at hl 0 rfl) ?_
      refine lv_iconst (v := 2) hx hb dX1_sinkFurther_61 (by decide) ?_
      refine c_put ha hx hb hts hin hown hK hP hS 2 (by decide) (by decide +kernel) ⟨rfl, rfl, rfl⟩ dX1_sinkFurther_62 (fun H locs hP hS => ?_)
      have hP : va_P D vwCl (cW cO h ad md n o (upd ((C_endDue n o Z).1) 2 2, (C_endDue n o Z).2.1, (C_endDue n o Z).2.2)) H := hP
      refine lv_aload_n hx hb dX1_sinkFurther_65 rfl (lv_at hl 0 rfl) ?_
      refine lv_dup hx hb dX1_sinkFurther_66 rfl ?_
      refine c_get (S := (upd ((C_endDue n o Z).1) 2 2, (C_endDue n o Z).2.1, (C_endDue n o Z).2.2)) (v := .int ((C_endDue n o Z).1 9)) hx hb hts hin hown hK hP 9 (by decide) (by decide +kernel) rfl rfl dX1_sinkFurther_67 ?_
      refine lv_iconst (v := 1) hx hb dX1_sinkFurther_70 (by decide) ?_
      refine lv_iadd hx hb dX1_sinkFurther_71 ?_
      refine c_put ha hx hb hts hin hown hK hP hS 9 (by decide) (by decide +kernel) ⟨rfl, rfl, rfl⟩ dX1_sinkFurther_72 (fun H locs hP hS => ?_)
      have hP : va_P D vwCl (cW cO h ad md n o (upd (upd ((C_endDue n o Z).1) 2 2) 9 (((C_endDue n o Z).1 9) + 1), (C_endDue n o Z).2.1, (C_endDue n o Z).2.2)) H := hP
      have hE : C_sinkFurther n o S = (upd (upd ((C_endDue n o Z).1) 2 2) 9 (((C_endDue n o Z).1 9) + 1), (C_endDue n o Z).2.1, (C_endDue n o Z).2.2) := by rw [← hw]; rfl
      exact W.vret hx hb hr (fun tt ht hW => ⟨⟨(), rfl, trivial, by rw [ht, hE]; exact hP, va_K.moved hW.alike hK⟩, hS.F ht⟩) hS.2.2 dX1_sinkFurther_75
    · exact absurd (by decide) c1
  · rw [nI_pred] at hl
    refine lv_iload_n hx hb dX1_sinkFurther_10 rfl (lv_at hl 1 rfl) ?_
    refine lv_if_lt (tgt := 56) hx hb dX1_sinkFurther_11 (by decide) (fun c2 => ?_) (fun c2 => ?_)
    · exact absurd c2 (nI_pos (by omega))
    · refine lv_aload_n hx hb dX1_sinkFurther_14 rfl (lv_at hl 0 rfl) ?_
      refine c_get (S := Z) (v := .ref (h 2)) hx hb hts hin hown hK hP 1 (by decide) (by decide +kernel) rfl rfl dX1_sinkFurther_15 ?_
      refine lv_iload_n hx hb dX1_sinkFurther_18 rfl (lv_at hl 1 rfl) ?_
      have hoi : o r < n := hok.2.1 r (by omega)
      refine m_callQr (As := [.int (nI r)]) (rest := []) ⟨hx, hb, hml, hown, hts⟩ (c_J_get2 l D cO h ad md n o Z r hn12 (by omega)) (cwV 1 hts gX1_sinkFurther_Jx4a65c_get_915e3 rfl rfl rfl (by decide +kernel) ⟨Nat.le_of_ble_eq_true rfl, Nat.le_of_ble_eq_true rfl⟩) hK hP (va_recv hK hP (ci := 0) (q0 := 2) rfl rfl) rfl hl.1 rfl (Nat.le_of_ble_eq_true rfl) dX1_sinkFurther_19 ⟨Nat.zero_le _, Nat.zero_le _⟩ ?_
      refine c_cast hx hb hts hown hK hP (i := (o r)) (by omega) (by decide +kernel) dX1_sinkFurther_22 ?_
      refine lv_astore_n (lv' := [(2, .ref (ad (o r))), (0, .ref (h 0)), (1, .int (nI r))]) hx hb dX1_sinkFurther_25 rfl hl (by decide) rfl (fun ls hl => ?_)
      refine lv_aload_n hx hb dX1_sinkFurther_26 rfl (lv_at hl 0 rfl) ?_
      refine c_dget (S := Z) (v := .int (Z.2.1 7 (o r))) (i := (o r)) hx hb hts hin0 hown hK hP (by omega) 7 (by decide) (by decide +kernel) rfl rfl dX1_sinkFurther_27 ?_
      refine lv_iconst (v := 2) hx hb dX1_sinkFurther_30 (by decide) ?_
      refine lv_icmp_ne (tgt := 44) hx hb dX1_sinkFurther_31 (by decide) (fun c3 => ?_) (fun c3 => ?_)
      · refine lv_aload_n hx hb dX1_sinkFurther_44 rfl (lv_at hl 1 rfl) ?_
        refine lv_aload_n hx hb dX1_sinkFurther_45 rfl (lv_at hl 0 rfl) ?_
        refine lv_iconst (v := 0) hx hb dX1_sinkFurther_46 (by decide) ?_
        refine m_callv (As := [.ref (ad (o r)), .int 0]) (rest := []) ⟨hx, hb, hml, hown, hts⟩ (c_X1_turn l D cO h ad md n o ha Z hok (o r) (by omega) 0) (cwV 2 hts gX1_sinkFurther_X1_turn rfl rfl rfl (by decide +kernel) ⟨Nat.le_of_ble_eq_true rfl, Nat.le_of_ble_eq_true rfl⟩) hK hP hS (fun q h => wA_up hS.1 q h) (va_recv hK hP (ci := 2) (q0 := 0) rfl rfl) rfl hl.1 rfl (Nat.le_of_ble_eq_true rfl) dX1_sinkFurther_47 ⟨Nat.zero_le _, Nat.zero_le _⟩ (fun H locs hP hS _ => ?_)
        have hok : cOk n o (C_turn n o Z (o r) 0) := (C_turn_ok n o Z (o r) 0 hok)
        refine lv_iinc (v := nI r - 1) (lv' := [(1, .int (nI r - 1)), (2, .ref (ad (o r))), (0, .ref (h 0))]) hx hb dX1_sinkFurther_50 hl (k := 2) rfl (by rw [Int32.sub_eq_add_neg]; rfl) (by decide) rfl (fun ls hl => ?_)
        refine lv_goto (tgt := 10) hx hb dX1_sinkFurther_53 (by decide) ?_
        exact ih (r, (C_turn n o Z (o r) 0)) H locs ls (Nat.lt_succ_self r) ⟨by omega, by rw [← hw]; first | (simp only [C_sink_w, if_neg c3]; done) | (simp only [C_sink_w, if_neg c3]; rfl), hok, hP, hS, lv_sub hl [2, 0] rfl⟩
      · refine lv_aload_n hx hb dX1_sinkFurther_34 rfl (lv_at hl 1 rfl) ?_
        refine lv_aload_n hx hb dX1_sinkFurther_35 rfl (lv_at hl 0 rfl) ?_
        refine lv_aload_n hx hb dX1_sinkFurther_36 rfl (lv_at hl 0 rfl) ?_
        refine c_dget (S := Z) (v := .int (Z.2.1 4 (o r))) (i := (o r)) hx hb hts hin0 hown hK hP (by omega) 4 (by decide) (by decide +kernel) rfl rfl dX1_sinkFurther_37 ?_
        refine m_callv (As := [.ref (ad (o r)), .int (Z.2.1 4 (o r))]) (rest := []) ⟨hx, hb, hml, hown, hts⟩ (c_X1_makeDue l D cO h ad md n o ha Z hok (o r) (by omega) (Z.2.1 4 (o r))) (cwV 2 hts gX1_sinkFurther_X1_makeDue rfl rfl rfl (by decide +kernel) ⟨Nat.le_of_ble_eq_true rfl, Nat.le_of_ble_eq_true rfl⟩) hK hP hS (fun q h => wA_up hS.1 q h) (va_recv hK hP (ci := 2) (q0 := 0) rfl rfl) rfl hl.1 rfl (Nat.le_of_ble_eq_true rfl) dX1_sinkFurther_40 ⟨Nat.zero_le _, Nat.zero_le _⟩ (fun H locs hP hS _ => ?_)
        have hok : cOk n o (C_makeDue n o Z (o r) (Z.2.1 4 (o r))) := (C_makeDue_ok n o Z (o r) (Z.2.1 4 (o r)) hok (by omega))
        have hE : C_sinkFurther n o S = (C_makeDue n o Z (o r) (Z.2.1 4 (o r))) := by rw [← hw]; first | (simp only [C_sink_w, if_pos c3]; done) | (simp only [C_sink_w, if_pos c3]; rfl)
        exact W.vret hx hb hr (fun tt ht hW => ⟨⟨(), rfl, trivial, by rw [ht, hE]; exact hP, va_K.moved hW.alike hK⟩, hS.F ht⟩) hS.2.2 dX1_sinkFurther_43

def C_back_w (n : Nat) (o : Nat → Nat) : Nat → cSt → cSt
  | 0, S => (upd (C_endDue n o S).1 2 0, (C_endDue n o S).2.1, (C_endDue n o S).2.2)
  | f + 1, S => if S.2.1 7 (o (n - (f + 1))) = 0 then (if S.2.1 8 (o (n - (f + 1))) = 2 then C_makeDue n o S (o (n - (f + 1))) (S.2.1 5 (o (n - (f + 1)))) else C_back_w n o f (C_turn n o S (o (n - (f + 1))) (S.2.1 8 (o (n - (f + 1)))))) else C_back_w n o f S
def C_comeFurtherBack (n : Nat) (o : Nat → Nat) (S : cSt) : cSt := C_back_w n o n S
theorem C_back_w_ok (n : Nat) (o : Nat → Nat) : ∀ (f : Nat) (S : cSt), f ≤ n → cOk n o S → cOk n o (C_back_w n o f S)
  | 0, S, _, hok => (show cOk n o (C_back_w n o 0 S) from C_endDue_ok n o S hok)
  | f + 1, S, hf, hok => by
    unfold C_back_w
    split
    · split
      · exact C_makeDue_ok n o S _ _ hok (hok.2.1 _ (by omega))
      · exact C_back_w_ok n o f _ (by omega) (C_turn_ok n o S _ _ hok)
    · exact C_back_w_ok n o f _ (by omega) hok
theorem C_comeFurtherBack_ok (n : Nat) (o : Nat → Nat) (S : cSt) (hok : cOk n o S) : cOk n o (C_comeFurtherBack n o S) := C_back_w_ok n o n S (Nat.le_refl n) hok

set_option maxHeartbeats 4000000 in
set_option maxRecDepth 100000 in
theorem c_X1_comeFurtherBack (l : Launch) (D : va_G) (cO : ClassId) (h ad : Nat → Nat) (md : Nat → Int32) (n : Nat) (o : Nat → Nat) (ha : (cL h ad n).Nodup) (S : cSt) (hok : cOk n o S) : mV l yX1_comeFurtherBack wsX1_comeFurtherBack (rmz 3 64) D (cT cO) (cL h ad n) [.ref (h 0)] (cW cO h ad md n o S) (cW cO h ad md n o (C_comeFurtherBack n o S)) := by
  intro sz
  refine Met.ofW (cc := cX1_comeFurtherBack) (maxL := 3) (ret := none) (by decide) rfl ?_
  intro p e s m args below meth c s₁ B hml hv
  obtain ⟨rfl, hsz, hP, hK⟩ := hv
  have hx := B.exec
  have hb := B.bytes
  have hr := B.returns
  have hts := atoms_spec (ws := wsX1_comeFurtherBack) B.pre
  have hin : ∀ w ∈ wsX10, w ∈ wsX1_comeFurtherBack := fun w h => List.mem_cons_of_mem _ (List.mem_append_left _ (List.mem_append_left _ (List.mem_append_right _ h)))
  have hin0 : ∀ w ∈ wsX00, w ∈ wsX1_comeFurtherBack := fun w h => List.mem_cons_of_mem _ (List.mem_append_left _ (List.mem_append_right _ h))
  have hown : s.vm.findClass RX1 = some m.cls := findClass_of_methodNamed B.named
  have hlocks := B.notSynchronized
  have hn12 : n ≤ 12 := hok.1
  subst hsz
  have hS : va_S (wA (cL h ad n) s.heap.size) s.heap s.heap [] := va_S.rf
  have hl := lv_entry ([.ref (h 0)]) (n := 3) (Nat.le_of_ble_eq_true rfl)
  rw [lg_entry_eq]
  generalize (lg_sl ([.ref (h 0)]) ++ List.replicate (3 - (lg_sl ([.ref (h 0)])).length) Slot.unset).toArray = ls at hl ⊢
  have hl : lv_has ls 3 [(0, .ref (h 0))] := hl
  refine lv_iconst (v := 0) hx hb dX1_comeFurtherBack_0 (by decide) ?_
  refine lv_istore_n (lv' := [(1, .int 0), (0, .ref (h 0))]) hx hb dX1_comeFurtherBack_1 rfl hl (by decide) rfl (fun ls hl => ?_)
  refine w_loop (σ := Nat × cSt) (I := fun z H locs ls => z.1 ≤ n ∧ C_back_w n o z.1 z.2 = C_comeFurtherBack n o S ∧ cOk n o z.2 ∧ va_P D vwCl (cW cO h ad md n o z.2) H ∧ va_S (wA (cL h ad n) s.heap.size) s.heap H locs ∧ lv_has ls 3 [(0, .ref (h 0)), (1, .int (nI (n - z.1)))]) (fun z => z.1) ?_ (n, S) ⟨Nat.le_refl _, rfl, hok, hP, hS, by show lv_has ls 3 [(0, .ref (h 0)), (1, .int (nI (n - n)))]; rw [Nat.sub_self]; exact lv_sub hl [1, 0] rfl⟩
  intro z H locs ls hI ih
  obtain ⟨f, Z⟩ := z
  dsimp only at hI
  obtain ⟨hf1, hw, hok, hP, hS, hl⟩ := hI
  rcases f with _ | f
  · rw [Nat.sub_zero] at hl
    refine lv_iload_n hx hb dX1_comeFurtherBack_2 rfl (lv_at hl 1 rfl) ?_
    refine lv_aload_n hx hb dX1_comeFurtherBack_3 rfl (lv_at hl 0 rfl) ?_
    refine c_get (S := Z) (v := .ref (h 2)) hx hb hts hin hown hK hP 1 (by decide) (by decide +kernel) rfl rfl dX1_comeFurtherBack_4 ?_
    refine m_callR (As := []) (rest := [.int (nI n)]) ⟨hx, hb, hml, hown, hts⟩ (c_J_size l D (cT cO) (cW cO h ad md n o Z) (h 2) 2 (h 4) (md 2) (nI n) rfl) (cwV 0 hts gX1_comeFurtherBack_Jx4a65c_size_8abf5 rfl rfl rfl (by decide +kernel) ⟨Nat.le_of_ble_eq_true rfl, Nat.le_of_ble_eq_true rfl⟩) hK hP (va_recv hK hP (ci := 0) (q0 := 2) rfl rfl) rfl hl.1 rfl (Nat.le_of_ble_eq_true rfl) dX1_comeFurtherBack_7 ⟨Nat.zero_le _, Nat.zero_le _⟩ ?_
    refine lv_icmp_ge (tgt := 65) hx hb dX1_comeFurtherBack_10 (by decide) (fun c0 => ?_) (fun c0 => ?_)
    · refine lv_aload_n hx hb dX1_comeFurtherBack_65 rfl (lv_at hl 0 rfl) ?_
      refine m_callv (As := []) (rest := []) ⟨hx, hb, hml, hown, hts⟩ (c_X1_endDue l D cO h ad md n o ha Z hok ) (cwV 0 hts gX1_comeFurtherBack_X1_endDue rfl rfl rfl (by decide +kernel) ⟨Nat.le_of_ble_eq_true rfl, Nat.le_of_ble_eq_true rfl⟩) hK hP hS (fun q h => wA_up hS.1 q h) (va_recv hK hP (ci := 2) (q0 := 0) rfl rfl) rfl hl.1 rfl (Nat.le_of_ble_eq_true rfl) dX1_comeFurtherBack_66 ⟨Nat.zero_le _, Nat.zero_le _⟩ (fun H locs hP hS _ => ?_)
      have hok : cOk n o (C_endDue n o Z) := (C_endDue_ok n o Z hok)
      refine lv_aload_n hx hb dX1_comeFurtherBack_69 rfl (lv_at hl 0 rfl) ?_
      refine lv_iconst (v := 0) hx hb dX1_comeFurtherBack_70 (by decide) ?_
      refine c_put ha hx hb hts hin hown hK hP hS 2 (by decide) (by decide +kernel) ⟨rfl, rfl, rfl⟩ dX1_comeFurtherBack_71 (fun H locs hP hS => ?_)
      have hP : va_P D vwCl (cW cO h ad md n o (upd ((C_endDue n o Z).1) 2 0, (C_endDue n o Z).2.1, (C_endDue n o Z).2.2)) H := hP
      have hE : C_comeFurtherBack n o S = (upd ((C_endDue n o Z).1) 2 0, (C_endDue n o Z).2.1, (C_endDue n o Z).2.2) := by rw [← hw]; rfl
      exact W.vret hx hb hr (fun tt ht hW => ⟨⟨(), rfl, trivial, by rw [ht, hE]; exact hP, va_K.moved hW.alike hK⟩, hS.F ht⟩) hS.2.2 dX1_comeFurtherBack_74
    · exact absurd (Int32.le_refl _) c0
  · refine lv_iload_n hx hb dX1_comeFurtherBack_2 rfl (lv_at hl 1 rfl) ?_
    refine lv_aload_n hx hb dX1_comeFurtherBack_3 rfl (lv_at hl 0 rfl) ?_
    refine c_get (S := Z) (v := .ref (h 2)) hx hb hts hin hown hK hP 1 (by decide) (by decide +kernel) rfl rfl dX1_comeFurtherBack_4 ?_
    refine m_callR (As := []) (rest := [.int (nI (n - (f + 1)))]) ⟨hx, hb, hml, hown, hts⟩ (c_J_size l D (cT cO) (cW cO h ad md n o Z) (h 2) 2 (h 4) (md 2) (nI n) rfl) (cwV 0 hts gX1_comeFurtherBack_Jx4a65c_size_8abf5 rfl rfl rfl (by decide +kernel) ⟨Nat.le_of_ble_eq_true rfl, Nat.le_of_ble_eq_true rfl⟩) hK hP (va_recv hK hP (ci := 0) (q0 := 2) rfl rfl) rfl hl.1 rfl (Nat.le_of_ble_eq_true rfl) dX1_comeFurtherBack_7 ⟨Nat.zero_le _, Nat.zero_le _⟩ ?_
    refine lv_icmp_ge (tgt := 65) hx hb dX1_comeFurtherBack_10 (by decide) (fun c0 => ?_) (fun c0 => ?_)
    · exact absurd ((nI_leI (by omega) (by omega)).mp c0) (by omega)
    · refine lv_aload_n hx hb dX1_comeFurtherBack_13 rfl (lv_at hl 0 rfl) ?_
      refine c_get (S := Z) (v := .ref (h 2)) hx hb hts hin hown hK hP 1 (by decide) (by decide +kernel) rfl rfl dX1_comeFurtherBack_14 ?_
      refine lv_iload_n hx hb dX1_comeFurtherBack_17 rfl (lv_at hl 1 rfl) ?_
      have hoi : o (n - (f + 1)) < n := hok.2.1 (n - (f + 1)) (by omega)
      refine m_callQr (As := [.int (nI (n - (f + 1)))]) (rest := []) ⟨hx, hb, hml, hown, hts⟩ (c_J_get2 l D cO h ad md n o Z (n - (f + 1)) hn12 (by omega)) (cwV 1 hts gX1_comeFurtherBack_Jx4a65c_get_915e3 rfl rfl rfl (by decide +kernel) ⟨Nat.le_of_ble_eq_true rfl, Nat.le_of_ble_eq_true rfl⟩) hK hP (va_recv hK hP (ci := 0) (q0 := 2) rfl rfl) rfl hl.1 rfl (Nat.le_of_ble_eq_true rfl) dX1_comeFurtherBack_18 ⟨Nat.zero_le _, Nat.zero_le _⟩ ?_
      refine c_cast hx hb hts hown hK hP (i := (o (n - (f + 1)))) (by omega) (by decide +kernel) dX1_comeFurtherBack_21 ?_
      refine lv_astore_n (lv' := [(2, .ref (ad (o (n - (f + 1))))), (0, .ref (h 0)), (1, .int (nI (n - (f + 1))))]) hx hb dX1_comeFurtherBack_24 rfl hl (by decide) rfl (fun ls hl => ?_)
      refine lv_aload_n hx hb dX1_comeFurtherBack_25 rfl (lv_at hl 0 rfl) ?_
      refine c_dget (S := Z) (v := .int (Z.2.1 7 (o (n - (f + 1))))) (i := (o (n - (f + 1)))) hx hb hts hin0 hown hK hP (by omega) 7 (by decide) (by decide +kernel) rfl rfl dX1_comeFurtherBack_26 ?_
      refine lv_if_ne (tgt := 59) hx hb dX1_comeFurtherBack_29 (by decide) (fun c1 => ?_) (fun c1 => ?_)
      · refine lv_iinc (v := nI ((n - (f + 1)) + 1)) (lv' := [(1, .int (nI ((n - (f + 1)) + 1))), (2, .ref (ad (o (n - (f + 1))))), (0, .ref (h 0))]) hx hb dX1_comeFurtherBack_59 hl (k := 2) rfl (nI_1 _) (by decide) rfl (fun ls hl => ?_)
        refine lv_goto (tgt := 2) hx hb dX1_comeFurtherBack_62 (by decide) ?_
        exact ih (f, Z) H locs ls (Nat.lt_succ_self f) ⟨by omega, by rw [← hw]; first | (simp only [C_back_w, if_neg c1]; done) | (simp only [C_back_w, if_neg c1]; rfl), hok, hP, hS, by show lv_has ls 3 [(0, .ref (h 0)), (1, .int (nI (n - f)))]; rw [show n - f = n - (f + 1) + 1 by omega]; exact lv_sub hl [2, 0] rfl⟩
      · refine lv_aload_n hx hb dX1_comeFurtherBack_32 rfl (lv_at hl 0 rfl) ?_
        refine c_dget (S := Z) (v := .int (Z.2.1 8 (o (n - (f + 1))))) (i := (o (n - (f + 1)))) hx hb hts hin0 hown hK hP (by omega) 8 (by decide) (by decide +kernel) rfl rfl dX1_comeFurtherBack_33 ?_
        refine lv_iconst (v := 2) hx hb dX1_comeFurtherBack_36 (by decide) ?_
        refine lv_icmp_ne (tgt := 50) hx hb dX1_comeFurtherBack_37 (by decide) (fun c2 => ?_) (fun c2 => ?_)
        · refine lv_aload_n hx hb dX1_comeFurtherBack_50 rfl (lv_at hl 1 rfl) ?_
          refine lv_aload_n hx hb dX1_comeFurtherBack_51 rfl (lv_at hl 0 rfl) ?_
          refine lv_aload_n hx hb dX1_comeFurtherBack_52 rfl (lv_at hl 0 rfl) ?_
          refine c_dget (S := Z) (v := .int (Z.2.1 8 (o (n - (f + 1))))) (i := (o (n - (f + 1)))) hx hb hts hin0 hown hK hP (by omega) 8 (by decide) (by decide +kernel) rfl rfl dX1_comeFurtherBack_53 ?_
          refine m_callv (As := [.ref (ad (o (n - (f + 1)))), .int (Z.2.1 8 (o (n - (f + 1))))]) (rest := []) ⟨hx, hb, hml, hown, hts⟩ (c_X1_turn l D cO h ad md n o ha Z hok (o (n - (f + 1))) (by omega) (Z.2.1 8 (o (n - (f + 1))))) (cwV 2 hts gX1_comeFurtherBack_X1_turn rfl rfl rfl (by decide +kernel) ⟨Nat.le_of_ble_eq_true rfl, Nat.le_of_ble_eq_true rfl⟩) hK hP hS (fun q h => wA_up hS.1 q h) (va_recv hK hP (ci := 2) (q0 := 0) rfl rfl) rfl hl.1 rfl (Nat.le_of_ble_eq_true rfl) dX1_comeFurtherBack_56 ⟨Nat.zero_le _, Nat.zero_le _⟩ (fun H locs hP hS _ => ?_)
          have hok : cOk n o (C_turn n o Z (o (n - (f + 1))) (Z.2.1 8 (o (n - (f + 1))))) := (C_turn_ok n o Z (o (n - (f + 1))) (Z.2.1 8 (o (n - (f + 1)))) hok)
          refine lv_iinc (v := nI ((n - (f + 1)) + 1)) (lv' := [(1, .int (nI ((n - (f + 1)) + 1))), (2, .ref (ad (o (n - (f + 1))))), (0, .ref (h 0))]) hx hb dX1_comeFurtherBack_59 hl (k := 2) rfl (nI_1 _) (by decide) rfl (fun ls hl => ?_)
          refine lv_goto (tgt := 2) hx hb dX1_comeFurtherBack_62 (by decide) ?_
          exact ih (f, (C_turn n o Z (o (n - (f + 1))) (Z.2.1 8 (o (n - (f + 1)))))) H locs ls (Nat.lt_succ_self f) ⟨by omega, by rw [← hw]; first | (simp only [C_back_w, if_pos c1, if_neg c2]; done) | (simp only [C_back_w, if_pos c1, if_neg c2]; rfl), hok, hP, hS, by show lv_has ls 3 [(0, .ref (h 0)), (1, .int (nI (n - f)))]; rw [show n - f = n - (f + 1) + 1 by omega]; exact lv_sub hl [2, 0] rfl⟩
        · refine lv_aload_n hx hb dX1_comeFurtherBack_40 rfl (lv_at hl 1 rfl) ?_
          refine lv_aload_n hx hb dX1_comeFurtherBack_41 rfl (lv_at hl 0 rfl) ?_
          refine lv_aload_n hx hb dX1_comeFurtherBack_42 rfl (lv_at hl 0 rfl) ?_
          refine c_dget (S := Z) (v := .int (Z.2.1 5 (o (n - (f + 1))))) (i := (o (n - (f + 1)))) hx hb hts hin0 hown hK hP (by omega) 5 (by decide) (by decide +kernel) rfl rfl dX1_comeFurtherBack_43 ?_
          refine m_callv (As := [.ref (ad (o (n - (f + 1)))), .int (Z.2.1 5 (o (n - (f + 1))))]) (rest := []) ⟨hx, hb, hml, hown, hts⟩ (c_X1_makeDue l D cO h ad md n o ha Z hok (o (n - (f + 1))) (by omega) (Z.2.1 5 (o (n - (f + 1))))) (cwV 2 hts gX1_comeFurtherBack_X1_makeDue rfl rfl rfl (by decide +kernel) ⟨Nat.le_of_ble_eq_true rfl, Nat.le_of_ble_eq_true rfl⟩) hK hP hS (fun q h => wA_up hS.1 q h) (va_recv hK hP (ci := 2) (q0 := 0) rfl rfl) rfl hl.1 rfl (Nat.le_of_ble_eq_true rfl) dX1_comeFurtherBack_46 ⟨Nat.zero_le _, Nat.zero_le _⟩ (fun H locs hP hS _ => ?_)
          have hok : cOk n o (C_makeDue n o Z (o (n - (f + 1))) (Z.2.1 5 (o (n - (f + 1))))) := (C_makeDue_ok n o Z (o (n - (f + 1))) (Z.2.1 5 (o (n - (f + 1)))) hok (by omega))
          have hE : C_comeFurtherBack n o S = (C_makeDue n o Z (o (n - (f + 1))) (Z.2.1 5 (o (n - (f + 1))))) := by rw [← hw]; first | (simp only [C_back_w, if_pos c1, if_pos c2]; done) | (simp only [C_back_w, if_pos c1, if_pos c2]; rfl)
          exact W.vret hx hb hr (fun tt ht hW => ⟨⟨(), rfl, trivial, by rw [ht, hE]; exact hP, va_K.moved hW.alike hK⟩, hS.F ht⟩) hS.2.2 dX1_comeFurtherBack_49

def C_comeBack (n : Nat) (o : Nat → Nat) (S : cSt) (ph : Int32) : cSt :=
  (C_comeFurtherBack n o (upd (S.1) 2 ph, S.2.1, S.2.2))
theorem C_comeBack_ok (n : Nat) (o : Nat → Nat) (S : cSt) (ph : Int32) (hok : cOk n o S) : cOk n o (C_comeBack n o S ph) := by
  unfold C_comeBack
  exact (C_comeFurtherBack_ok n o (upd (S.1) 2 ph, S.2.1, S.2.2) (show cOk n o (upd (S.1) 2 ph, S.2.1, S.2.2) from hok))
set_option maxHeartbeats 4000000 in
set_option maxRecDepth 100000 in
theorem c_X1_comeBack (l : Launch) (D : va_G) (cO : ClassId) (h ad : Nat → Nat) (md : Nat → Int32) (n : Nat) (o : Nat → Nat) (ha : (cL h ad n).Nodup) (S : cSt) (hok : cOk n o S) (ph : Int32) : mV l yX1_comeBack wsX1_comeBack (rmz 4 86) D (cT cO) (cL h ad n) [.ref (h 0), .int ph] (cW cO h ad md n o S) (cW cO h ad md n o (C_comeBack n o S ph)) := by
  intro sz
  refine Met.ofW (cc := cX1_comeBack) (maxL := 2) (ret := none) (by decide) rfl ?_
  intro p e s m args below meth c s₁ B hml hv
  obtain ⟨rfl, hsz, hP, hK⟩ := hv
  have hx := B.exec
  have hb := B.bytes
  have hr := B.returns
  have hts := atoms_spec (ws := wsX1_comeBack) B.pre
  have hin : ∀ w ∈ wsX10, w ∈ wsX1_comeBack := fun w h => List.mem_cons_of_mem _ (List.mem_append_left _ (List.mem_append_left _ (List.mem_append_right _ h)))
  have hin0 : ∀ w ∈ wsX00, w ∈ wsX1_comeBack := fun w h => List.mem_cons_of_mem _ (List.mem_append_left _ (List.mem_append_right _ h))
  have hown : s.vm.findClass RX1 = some m.cls := findClass_of_methodNamed B.named
  have hlocks := B.notSynchronized
  have hn12 : n ≤ 12 := hok.1
  subst hsz
  have hS : va_S (wA (cL h ad n) s.heap.size) s.heap s.heap [] := va_S.rf
  have hl := lv_entry ([.ref (h 0), .int ph]) (n := 2) (Nat.le_of_ble_eq_true rfl)
  rw [lg_entry_eq]
  generalize (lg_sl ([.ref (h 0), .int ph]) ++ List.replicate (2 - (lg_sl ([.ref (h 0), .int ph])).length) Slot.unset).toArray = ls at hl ⊢
  have hl : lv_has ls 2 [(0, .ref (h 0)), (1, .int ph)] := hl
  refine lv_aload_n hx hb dX1_comeBack_0 rfl (lv_at hl 0 rfl) ?_
  refine lv_iload_n hx hb dX1_comeBack_1 rfl (lv_at hl 1 rfl) ?_
  refine c_put ha hx hb hts hin hown hK hP hS 2 (by decide) (by decide +kernel) ⟨rfl, rfl, rfl⟩ dX1_comeBack_2 (fun H locs hP hS => ?_)
  have hP : va_P D vwCl (cW cO h ad md n o (upd (S.1) 2 ph, S.2.1, S.2.2)) H := hP
  refine lv_aload_n hx hb dX1_comeBack_5 rfl (lv_at hl 0 rfl) ?_
  refine m_callv (As := []) (rest := []) ⟨hx, hb, hml, hown, hts⟩ (c_X1_comeFurtherBack l D cO h ad md n o ha (upd (S.1) 2 ph, S.2.1, S.2.2) hok ) (cwV 0 hts gX1_comeBack_X1_comeFurtherBack rfl rfl rfl (by decide +kernel) ⟨Nat.le_of_ble_eq_true rfl, Nat.le_of_ble_eq_true rfl⟩) hK hP hS (fun q h => wA_up hS.1 q h) (va_recv hK hP (ci := 2) (q0 := 0) rfl rfl) rfl hl.1 rfl (Nat.le_of_ble_eq_true rfl) dX1_comeBack_6 ⟨Nat.zero_le _, Nat.zero_le _⟩ (fun H locs hP hS _ => ?_)
  have hok : cOk n o (C_comeFurtherBack n o (upd (S.1) 2 ph, S.2.1, S.2.2)) := (C_comeFurtherBack_ok n o (upd (S.1) 2 ph, S.2.1, S.2.2) hok)
  have hE : C_comeBack n o S ph = (C_comeFurtherBack n o (upd (S.1) 2 ph, S.2.1, S.2.2)) := by first | (simp only [C_comeBack]; done) | (simp only [C_comeBack]; rfl)
  exact W.vret hx hb hr (fun tt ht hW => ⟨⟨(), rfl, trivial, by rw [ht, hE]; exact hP, va_K.moved hW.alike hK⟩, hS.F ht⟩) hS.2.2 dX1_comeBack_9

def C_giveUp (n : Nat) (o : Nat → Nat) (S : cSt) (why : Int32) (x : Nat) : cSt :=
  (C_comeBack n o (upd (upd (upd (S.1) 10 ((S.1 10) + 1)) 11 why) 12 (nI x), S.2.1, S.2.2) 4)
theorem C_giveUp_ok (n : Nat) (o : Nat → Nat) (S : cSt) (why : Int32) (x : Nat) (hok : cOk n o S) : cOk n o (C_giveUp n o S why x) := by
  unfold C_giveUp
  exact (C_comeBack_ok n o (upd (upd (upd (S.1) 10 ((S.1 10) + 1)) 11 why) 12 (nI x), S.2.1, S.2.2) 4 (show cOk n o (upd (upd (upd (S.1) 10 ((S.1 10) + 1)) 11 why) 12 (nI x), S.2.1, S.2.2) from hok))
set_option maxHeartbeats 4000000 in
set_option maxRecDepth 100000 in
theorem c_X1_giveUp (l : Launch) (D : va_G) (cO : ClassId) (h ad : Nat → Nat) (md : Nat → Int32) (n : Nat) (o : Nat → Nat) (ha : (cL h ad n).Nodup) (S : cSt) (hok : cOk n o S) (why : Int32) (x : Nat) (lt_x : x < n) : mV l yX1_giveUp wsX1_giveUp (rmz 5 107) D (cT cO) (cL h ad n) [.ref (h 0), .int why, .ref (ad x)] (cW cO h ad md n o S) (cW cO h ad md n o (C_giveUp n o S why x)) := by
  intro sz
  refine Met.ofW (cc := cX1_giveUp) (maxL := 3) (ret := none) (by decide) rfl ?_
  intro p e s m args below meth c s₁ B hml hv
  obtain ⟨rfl, hsz, hP, hK⟩ := hv
  have hx := B.exec
  have hb := B.bytes
  have hr := B.returns
  have hts := atoms_spec (ws := wsX1_giveUp) B.pre
  have hin : ∀ w ∈ wsX10, w ∈ wsX1_giveUp := fun w h => List.mem_cons_of_mem _ (List.mem_append_left _ (List.mem_append_left _ (List.mem_append_right _ h)))
  have hin0 : ∀ w ∈ wsX00, w ∈ wsX1_giveUp := fun w h => List.mem_cons_of_mem _ (List.mem_append_left _ (List.mem_append_right _ h))
  have hown : s.vm.findClass RX1 = some m.cls := findClass_of_methodNamed B.named
  have hlocks := B.notSynchronized
  have hn12 : n ≤ 12 := hok.1
  subst hsz
  have hS : va_S (wA (cL h ad n) s.heap.size) s.heap s.heap [] := va_S.rf
  have hl := lv_entry ([.ref (h 0), .int why, .ref (ad x)]) (n := 3) (Nat.le_of_ble_eq_true rfl)
  rw [lg_entry_eq]
  generalize (lg_sl ([.ref (h 0), .int why, .ref (ad x)]) ++ List.replicate (3 - (lg_sl ([.ref (h 0), .int why, .ref (ad x)])).length) Slot.unset).toArray = ls at hl ⊢
  have hl : lv_has ls 3 [(0, .ref (h 0)), (1, .int why), (2, .ref (ad x))] := hl
  refine lv_aload_n hx hb dX1_giveUp_0 rfl (lv_at hl 0 rfl) ?_
  refine lv_dup hx hb dX1_giveUp_1 rfl ?_
  refine c_get (S := S) (v := .int (S.1 10)) hx hb hts hin hown hK hP 10 (by decide) (by decide +kernel) rfl rfl dX1_giveUp_2 ?_
  refine lv_iconst (v := 1) hx hb dX1_giveUp_5 (by decide) ?_
  refine lv_iadd hx hb dX1_giveUp_6 ?_
  refine c_put ha hx hb hts hin hown hK hP hS 10 (by decide) (by decide +kernel) ⟨rfl, rfl, rfl⟩ dX1_giveUp_7 (fun H locs hP hS => ?_)
  have hP : va_P D vwCl (cW cO h ad md n o (upd (S.1) 10 ((S.1 10) + 1), S.2.1, S.2.2)) H := hP
  refine lv_aload_n hx hb dX1_giveUp_10 rfl (lv_at hl 0 rfl) ?_
  refine lv_iload_n hx hb dX1_giveUp_11 rfl (lv_at hl 1 rfl) ?_
  refine c_put ha hx hb hts hin hown hK hP hS 11 (by decide) (by decide +kernel) ⟨rfl, rfl, rfl⟩ dX1_giveUp_12 (fun H locs hP hS => ?_)
  have hP : va_P D vwCl (cW cO h ad md n o (upd (upd (S.1) 10 ((S.1 10) + 1)) 11 why, S.2.1, S.2.2)) H := hP
  refine lv_aload_n hx hb dX1_giveUp_15 rfl (lv_at hl 0 rfl) ?_
  refine lv_aload_n hx hb dX1_giveUp_16 rfl (lv_at hl 2 rfl) ?_
  refine c_dget (S := (upd (upd (S.1) 10 ((S.1 10) + 1)) 11 why, S.2.1, S.2.2)) (v := .int (nI x)) (i := x) hx hb hts hin0 hown hK hP (by omega) 0 (by decide) (by decide +kernel) rfl (congrArg (fun z => some (Value.int z)) (hok.2.2.1 x (by omega))) dX1_giveUp_17 ?_
  refine c_put ha hx hb hts hin hown hK hP hS 12 (by decide) (by decide +kernel) ⟨rfl, rfl, rfl⟩ dX1_giveUp_20 (fun H locs hP hS => ?_)
  have hP : va_P D vwCl (cW cO h ad md n o (upd (upd (upd (S.1) 10 ((S.1 10) + 1)) 11 why) 12 (nI x), S.2.1, S.2.2)) H := hP
  refine lv_aload_n hx hb dX1_giveUp_23 rfl (lv_at hl 0 rfl) ?_
  refine lv_iconst (v := 4) hx hb dX1_giveUp_24 (by decide) ?_
  refine m_callv (As := [.int 4]) (rest := []) ⟨hx, hb, hml, hown, hts⟩ (c_X1_comeBack l D cO h ad md n o ha (upd (upd (upd (S.1) 10 ((S.1 10) + 1)) 11 why) 12 (nI x), S.2.1, S.2.2) hok 4) (cwV 1 hts gX1_giveUp_X1_comeBack rfl rfl rfl (by decide +kernel) ⟨Nat.le_of_ble_eq_true rfl, Nat.le_of_ble_eq_true rfl⟩) hK hP hS (fun q h => wA_up hS.1 q h) (va_recv hK hP (ci := 2) (q0 := 0) rfl rfl) rfl hl.1 rfl (Nat.le_of_ble_eq_true rfl) dX1_giveUp_25 ⟨Nat.zero_le _, Nat.zero_le _⟩ (fun H locs hP hS _ => ?_)
  have hok : cOk n o (C_comeBack n o (upd (upd (upd (S.1) 10 ((S.1 10) + 1)) 11 why) 12 (nI x), S.2.1, S.2.2) 4) := (C_comeBack_ok n o (upd (upd (upd (S.1) 10 ((S.1 10) + 1)) 11 why) 12 (nI x), S.2.1, S.2.2) 4 hok)
  have hE : C_giveUp n o S why x = (C_comeBack n o (upd (upd (upd (S.1) 10 ((S.1 10) + 1)) 11 why) 12 (nI x), S.2.1, S.2.2) 4) := by first | (simp only [C_giveUp]; done) | (simp only [C_giveUp]; rfl)
  exact W.vret hx hb hr (fun tt ht hW => ⟨⟨(), rfl, trivial, by rw [ht, hE]; exact hP, va_K.moved hW.alike hK⟩, hS.F ht⟩) hS.2.2 dX1_giveUp_28

def C_watchBites (n : Nat) (o : Nat → Nat) (S : cSt) : Int32 × cSt :=
  if S.1 6 = 0 then (0, S)
  else if S.1 2 = 2 then (0, S)
  else if (S.1 7) + 1 ≤ S.1 6 then (0, (upd (S.1) 7 ((S.1 7) + 1), S.2.1, S.2.2))
  else (1, (upd (S.1) 7 ((S.1 7) + 1), S.2.1, S.2.2))
theorem C_watchBites_ok (n : Nat) (o : Nat → Nat) (S : cSt) (hok : cOk n o S) : cOk n o (C_watchBites n o S).2 := by
  unfold C_watchBites
  split
  · exact hok
  · split
    · exact hok
    · split
      · exact (show cOk n o (upd (S.1) 7 ((S.1 7) + 1), S.2.1, S.2.2) from hok)
      · exact (show cOk n o (upd (S.1) 7 ((S.1 7) + 1), S.2.1, S.2.2) from hok)
set_option maxHeartbeats 4000000 in
set_option maxRecDepth 100000 in
theorem c_X1_watchBites (l : Launch) (D : va_G) (cO : ClassId) (h ad : Nat → Nat) (md : Nat → Int32) (n : Nat) (o : Nat → Nat) (ha : (cL h ad n).Nodup) (S : cSt) (hok : cOk n o S) : mI l yX1_watchBites wsX1_watchBites (rmz 0 0) D (cT cO) (cL h ad n) [.ref (h 0)] (cW cO h ad md n o S) (C_watchBites n o S).1 (cW cO h ad md n o (C_watchBites n o S).2) := by
  intro sz
  refine Met.ofW (cc := cX1_watchBites) (maxL := 1) (ret := (some .boolean)) (by decide) rfl ?_
  intro p e s m args below meth c s₁ B hml hv
  obtain ⟨rfl, hsz, hP, hK⟩ := hv
  have hx := B.exec
  have hb := B.bytes
  have hr := B.returns
  have hts := atoms_spec (ws := wsX1_watchBites) B.pre
  have hin : ∀ w ∈ wsX10, w ∈ wsX1_watchBites := fun w h => List.mem_cons_of_mem _ (List.mem_append_right _ h)
  have hown : s.vm.findClass RX1 = some m.cls := findClass_of_methodNamed B.named
  have hlocks := B.notSynchronized
  have hn12 : n ≤ 12 := hok.1
  subst hsz
  have hS : va_S (wA (cL h ad n) s.heap.size) s.heap s.heap [] := va_S.rf
  have hl := lv_entry ([.ref (h 0)]) (n := 1) (Nat.le_of_ble_eq_true rfl)
  rw [lg_entry_eq]
  generalize (lg_sl ([.ref (h 0)]) ++ List.replicate (1 - (lg_sl ([.ref (h 0)])).length) Slot.unset).toArray = ls at hl ⊢
  have hl : lv_has ls 1 [(0, .ref (h 0))] := hl
  refine lv_aload_n hx hb dX1_watchBites_0 rfl (lv_at hl 0 rfl) ?_
  refine c_get (S := S) (v := .int (S.1 6)) hx hb hts hin hown hK hP 6 (by decide) (by decide +kernel) rfl rfl dX1_watchBites_1 ?_
  refine lv_if_eq (tgt := 15) hx hb dX1_watchBites_4 (by decide) (fun c1 => ?_) (fun c1 => ?_)
  · refine lv_iconst (v := 0) hx hb dX1_watchBites_15 (by decide) ?_
    have hE : C_watchBites n o S = (0, S) := by first | (simp only [C_watchBites, if_pos c1]; done) | (simp only [C_watchBites, if_pos c1]; rfl)
    exact W.zret (v := 0) hx hb hr rfl (fun tt ht hW => ⟨⟨0, (), rfl, by rw [hE], by rw [ht, hE]; exact hP, va_K.moved hW.alike hK⟩, hS.F ht⟩) hS.2.2 dX1_watchBites_16
  · refine lv_aload_n hx hb dX1_watchBites_7 rfl (lv_at hl 0 rfl) ?_
    refine c_get (S := S) (v := .int (S.1 2)) hx hb hts hin hown hK hP 2 (by decide) (by decide +kernel) rfl rfl dX1_watchBites_8 ?_
    refine lv_iconst (v := 2) hx hb dX1_watchBites_11 (by decide) ?_
    refine lv_icmp_ne (tgt := 17) hx hb dX1_watchBites_12 (by decide) (fun c2 => ?_) (fun c2 => ?_)
    · refine lv_aload_n hx hb dX1_watchBites_17 rfl (lv_at hl 0 rfl) ?_
      refine lv_dup hx hb dX1_watchBites_18 rfl ?_
      refine c_get (S := S) (v := .int (S.1 7)) hx hb hts hin hown hK hP 7 (by decide) (by decide +kernel) rfl rfl dX1_watchBites_19 ?_
      refine lv_iconst (v := 1) hx hb dX1_watchBites_22 (by decide) ?_
      refine lv_iadd hx hb dX1_watchBites_23 ?_
      refine c_put ha hx hb hts hin hown hK hP hS 7 (by decide) (by decide +kernel) ⟨rfl, rfl, rfl⟩ dX1_watchBites_24 (fun H locs hP hS => ?_)
      have hP : va_P D vwCl (cW cO h ad md n o (upd (S.1) 7 ((S.1 7) + 1), S.2.1, S.2.2)) H := hP
      refine lv_aload_n hx hb dX1_watchBites_27 rfl (lv_at hl 0 rfl) ?_
      refine c_get (S := (upd (S.1) 7 ((S.1 7) + 1), S.2.1, S.2.2)) (v := .int ((S.1 7) + 1)) hx hb hts hin hown hK hP 7 (by decide) (by decide +kernel) rfl rfl dX1_watchBites_28 ?_
      refine lv_aload_n hx hb dX1_watchBites_31 rfl (lv_at hl 0 rfl) ?_
      refine c_get (S := (upd (S.1) 7 ((S.1 7) + 1), S.2.1, S.2.2)) (v := .int (S.1 6)) hx hb hts hin hown hK hP 6 (by decide) (by decide +kernel) rfl rfl dX1_watchBites_32 ?_
      refine lv_icmp_le (tgt := 42) hx hb dX1_watchBites_35 (by decide) (fun c3 => ?_) (fun c3 => ?_)
      · refine lv_iconst (v := 0) hx hb dX1_watchBites_42 (by decide) ?_
        have hE : C_watchBites n o S = (0, (upd (S.1) 7 ((S.1 7) + 1), S.2.1, S.2.2)) := by first | (simp only [C_watchBites, if_neg c1, if_neg c2, if_pos c3]; done) | (simp only [C_watchBites, if_neg c1, if_neg c2, if_pos c3]; rfl)
        exact W.zret (v := 0) hx hb hr rfl (fun tt ht hW => ⟨⟨0, (), rfl, by rw [hE], by rw [ht, hE]; exact hP, va_K.moved hW.alike hK⟩, hS.F ht⟩) hS.2.2 dX1_watchBites_43
      · refine lv_iconst (v := 1) hx hb dX1_watchBites_38 (by decide) ?_
        refine lv_goto (tgt := 43) hx hb dX1_watchBites_39 (by decide) ?_
        have hE : C_watchBites n o S = (1, (upd (S.1) 7 ((S.1 7) + 1), S.2.1, S.2.2)) := by first | (simp only [C_watchBites, if_neg c1, if_neg c2, if_neg c3]; done) | (simp only [C_watchBites, if_neg c1, if_neg c2, if_neg c3]; rfl)
        exact W.zret (v := 1) hx hb hr rfl (fun tt ht hW => ⟨⟨1, (), rfl, by rw [hE], by rw [ht, hE]; exact hP, va_K.moved hW.alike hK⟩, hS.F ht⟩) hS.2.2 dX1_watchBites_43
    · refine lv_iconst (v := 0) hx hb dX1_watchBites_15 (by decide) ?_
      have hE : C_watchBites n o S = (0, S) := by first | (simp only [C_watchBites, if_neg c1, if_pos c2]; done) | (simp only [C_watchBites, if_neg c1, if_pos c2]; rfl)
      exact W.zret (v := 0) hx hb hr rfl (fun tt ht hW => ⟨⟨0, (), rfl, by rw [hE], by rw [ht, hE]; exact hP, va_K.moved hW.alike hK⟩, hS.F ht⟩) hS.2.2 dX1_watchBites_16

def C_resetAll_b (n : Nat) (o : Nat → Nat) (k1 : Nat) (Z : cSt) : cSt :=
  ((C_turn n o Z k1 2).1, up2 (up2 ((C_turn n o Z k1 2).2.1) 9 k1 0) 10 k1 0, (C_turn n o Z k1 2).2.2)
theorem C_resetAll_b_ok (n : Nat) (o : Nat → Nat) (k1 : Nat) (Z : cSt) (hok : cOk n o Z) : cOk n o (C_resetAll_b n o k1 Z) := by
  unfold C_resetAll_b
  exact (show cOk n o ((C_turn n o Z k1 2).1, up2 (up2 ((C_turn n o Z k1 2).2.1) 9 k1 0) 10 k1 0, (C_turn n o Z k1 2).2.2) from (C_turn_ok n o Z k1 2 hok))
def C_resetAll_it (n : Nat) (o : Nat → Nat) (S : cSt) : Nat → cSt
  | 0 => S
  | k1 + 1 => C_resetAll_b n o k1 (C_resetAll_it n o S k1)
theorem C_resetAll_it_ok (n : Nat) (o : Nat → Nat) (S : cSt) : ∀ (k : Nat) (hok : cOk n o S), cOk n o (C_resetAll_it n o S k)
  | 0, hok => hok
  | k + 1, hok => C_resetAll_b_ok n o k _ (C_resetAll_it_ok n o S k hok)
def C_resetAll (n : Nat) (o : Nat → Nat) (S : cSt) : cSt :=
  (upd (upd (upd (upd (upd ((C_endDue n o (C_resetAll_it n o S n)).1) 2 0) 12 (-1)) 11 0) 7 0) 8 (((C_endDue n o (C_resetAll_it n o S n)).1 8) + 1), (C_endDue n o (C_resetAll_it n o S n)).2.1, (C_endDue n o (C_resetAll_it n o S n)).2.2)
theorem C_resetAll_ok (n : Nat) (o : Nat → Nat) (S : cSt) (hok : cOk n o S) : cOk n o (C_resetAll n o S) := by
  unfold C_resetAll
  exact (show cOk n o (upd (upd (upd (upd (upd ((C_endDue n o (C_resetAll_it n o S n)).1) 2 0) 12 (-1)) 11 0) 7 0) 8 (((C_endDue n o (C_resetAll_it n o S n)).1 8) + 1), (C_endDue n o (C_resetAll_it n o S n)).2.1, (C_endDue n o (C_resetAll_it n o S n)).2.2) from (C_endDue_ok n o (C_resetAll_it n o S n) (C_resetAll_it_ok n o S n hok)))
set_option maxHeartbeats 4000000 in
set_option maxRecDepth 100000 in
theorem c_X1_resetAll (l : Launch) (D : va_G) (cO : ClassId) (h ad : Nat → Nat) (md : Nat → Int32) (n : Nat) (o : Nat → Nat) (ha : (cL h ad n).Nodup) (S : cSt) (hok : cOk n o S) : mV l yX1_resetAll wsX1_resetAll (rmz 3 64) D (cT cO) (cL h ad n) [.ref (h 0)] (cW cO h ad md n o S) (cW cO h ad md n o (C_resetAll n o S)) := by
  intro sz
  refine Met.ofW (cc := cX1_resetAll) (maxL := 3) (ret := none) (by decide) rfl ?_
  intro p e s m args below meth c s₁ B hml hv
  obtain ⟨rfl, hsz, hP, hK⟩ := hv
  have hx := B.exec
  have hb := B.bytes
  have hr := B.returns
  have hts := atoms_spec (ws := wsX1_resetAll) B.pre
  have hin : ∀ w ∈ wsX10, w ∈ wsX1_resetAll := fun w h => List.mem_cons_of_mem _ (List.mem_append_left _ (List.mem_append_left _ (List.mem_append_right _ h)))
  have hin0 : ∀ w ∈ wsX00, w ∈ wsX1_resetAll := fun w h => List.mem_cons_of_mem _ (List.mem_append_left _ (List.mem_append_right _ h))
  have hown : s.vm.findClass RX1 = some m.cls := findClass_of_methodNamed B.named
  have hlocks := B.notSynchronized
  have hn12 : n ≤ 12 := hok.1
  subst hsz
  have hS : va_S (wA (cL h ad n) s.heap.size) s.heap s.heap [] := va_S.rf
  have hl := lv_entry ([.ref (h 0)]) (n := 3) (Nat.le_of_ble_eq_true rfl)
  rw [lg_entry_eq]
  generalize (lg_sl ([.ref (h 0)]) ++ List.replicate (3 - (lg_sl ([.ref (h 0)])).length) Slot.unset).toArray = ls at hl ⊢
  have hl : lv_has ls 3 [(0, .ref (h 0))] := hl
  have hok0 := hok
  refine lv_iconst (v := 0) hx hb dX1_resetAll_0 (by decide) ?_
  refine lv_istore_n (lv' := [(1, .int 0), (0, .ref (h 0))]) hx hb dX1_resetAll_1 rfl hl (by decide) rfl (fun ls hl => ?_)
  refine w_loop (σ := Nat) (I := fun k1 H locs ls => k1 ≤ n ∧ va_P D vwCl (cW cO h ad md n o (C_resetAll_it n o S k1)) H ∧ va_S (wA (cL h ad n) s.heap.size) s.heap H locs ∧ lv_has ls 3 [(0, .ref (h 0)), (1, .int (nI k1))]) (fun k1 => n - k1) ?_ 0 ⟨Nat.zero_le _, hP, hS, lv_sub hl [1, 0] rfl⟩
  intro k1 H locs ls hI ih
  obtain ⟨hk, hP, hS, hl⟩ := hI
  have hok : cOk n o (C_resetAll_it n o S k1) := C_resetAll_it_ok n o S k1 hok0
  refine lv_iload_n hx hb dX1_resetAll_2 rfl (lv_at hl 1 rfl) ?_
  refine lv_aload_n hx hb dX1_resetAll_3 rfl (lv_at hl 0 rfl) ?_
  refine c_get (S := (C_resetAll_it n o S k1)) (v := .ref (h 1)) hx hb hts hin hown hK hP 0 (by decide) (by decide +kernel) rfl rfl dX1_resetAll_4 ?_
  refine m_callR (As := []) (rest := [.int (nI k1)]) ⟨hx, hb, hml, hown, hts⟩ (c_J_size l D (cT cO) (cW cO h ad md n o (C_resetAll_it n o S k1)) (h 1) 1 (h 3) (md 1) (nI n) rfl) (cwV 0 hts gX1_resetAll_Jx4a65c_size_8abf5 rfl rfl rfl (by decide +kernel) ⟨Nat.le_of_ble_eq_true rfl, Nat.le_of_ble_eq_true rfl⟩) hK hP (va_recv hK hP (ci := 0) (q0 := 1) rfl rfl) rfl hl.1 rfl (Nat.le_of_ble_eq_true rfl) dX1_resetAll_7 ⟨Nat.zero_le _, Nat.zero_le _⟩ ?_
  refine lv_icmp_ge (tgt := 47) hx hb dX1_resetAll_10 (by decide) (fun c2 => ?_) (fun c2 => ?_)
  · have hkn : k1 = n := Nat.le_antisymm hk ((nI_leI (by omega) (by omega)).mp c2)
    rw [hkn] at hP hl
    have hok : cOk n o (C_resetAll_it n o S n) := C_resetAll_it_ok n o S n hok0
    refine lv_aload_n hx hb dX1_resetAll_47 rfl (lv_at hl 0 rfl) ?_
    refine m_callv (As := []) (rest := []) ⟨hx, hb, hml, hown, hts⟩ (c_X1_endDue l D cO h ad md n o ha (C_resetAll_it n o S n) hok ) (cwV 0 hts gX1_resetAll_X1_endDue rfl rfl rfl (by decide +kernel) ⟨Nat.le_of_ble_eq_true rfl, Nat.le_of_ble_eq_true rfl⟩) hK hP hS (fun q h => wA_up hS.1 q h) (va_recv hK hP (ci := 2) (q0 := 0) rfl rfl) rfl hl.1 rfl (Nat.le_of_ble_eq_true rfl) dX1_resetAll_48 ⟨Nat.zero_le _, Nat.zero_le _⟩ (fun H locs hP hS _ => ?_)
    have hok : cOk n o (C_endDue n o (C_resetAll_it n o S n)) := (C_endDue_ok n o (C_resetAll_it n o S n) hok)
    refine lv_aload_n hx hb dX1_resetAll_51 rfl (lv_at hl 0 rfl) ?_
    refine lv_iconst (v := 0) hx hb dX1_resetAll_52 (by decide) ?_
    refine c_put ha hx hb hts hin hown hK hP hS 2 (by decide) (by decide +kernel) ⟨rfl, rfl, rfl⟩ dX1_resetAll_53 (fun H locs hP hS => ?_)
    have hP : va_P D vwCl (cW cO h ad md n o (upd ((C_endDue n o (C_resetAll_it n o S n)).1) 2 0, (C_endDue n o (C_resetAll_it n o S n)).2.1, (C_endDue n o (C_resetAll_it n o S n)).2.2)) H := hP
    refine lv_aload_n hx hb dX1_resetAll_56 rfl (lv_at hl 0 rfl) ?_
    refine lv_iconst (v := (-1)) hx hb dX1_resetAll_57 (by decide) ?_
    refine c_put ha hx hb hts hin hown hK hP hS 12 (by decide) (by decide +kernel) ⟨rfl, rfl, rfl⟩ dX1_resetAll_58 (fun H locs hP hS => ?_)
    have hP : va_P D vwCl (cW cO h ad md n o (upd (upd ((C_endDue n o (C_resetAll_it n o S n)).1) 2 0) 12 (-1), (C_endDue n o (C_resetAll_it n o S n)).2.1, (C_endDue n o (C_resetAll_it n o S n)).2.2)) H := hP
    refine lv_aload_n hx hb dX1_resetAll_61 rfl (lv_at hl 0 rfl) ?_
    refine lv_iconst (v := 0) hx hb dX1_resetAll_62 (by decide) ?_
    refine c_put ha hx hb hts hin hown hK hP hS 11 (by decide) (by decide +kernel) ⟨rfl, rfl, rfl⟩ dX1_resetAll_63 (fun H locs hP hS => ?_)
    have hP : va_P D vwCl (cW cO h ad md n o (upd (upd (upd ((C_endDue n o (C_resetAll_it n o S n)).1) 2 0) 12 (-1)) 11 0, (C_endDue n o (C_resetAll_it n o S n)).2.1, (C_endDue n o (C_resetAll_it n o S n)).2.2)) H := hP
    refine lv_aload_n hx hb dX1_resetAll_66 rfl (lv_at hl 0 rfl) ?_
    refine lv_iconst (v := 0) hx hb dX1_resetAll_67 (by decide) ?_
    refine c_put ha hx hb hts hin hown hK hP hS 7 (by decide) (by decide +kernel) ⟨rfl, rfl, rfl⟩ dX1_resetAll_68 (fun H locs hP hS => ?_)
    have hP : va_P D vwCl (cW cO h ad md n o (upd (upd (upd (upd ((C_endDue n o (C_resetAll_it n o S n)).1) 2 0) 12 (-1)) 11 0) 7 0, (C_endDue n o (C_resetAll_it n o S n)).2.1, (C_endDue n o (C_resetAll_it n o S n)).2.2)) H := hP
    refine lv_aload_n hx hb dX1_resetAll_71 rfl (lv_at hl 0 rfl) ?_
    refine lv_dup hx hb dX1_resetAll_72 rfl ?_
    refine c_get (S := (upd (upd (upd (upd ((C_endDue n o (C_resetAll_it n o S n)).1) 2 0) 12 (-1)) 11 0) 7 0, (C_endDue n o (C_resetAll_it n o S n)).2.1, (C_endDue n o (C_resetAll_it n o S n)).2.2)) (v := .int ((C_endDue n o (C_resetAll_it n o S n)).1 8)) hx hb hts hin hown hK hP 8 (by decide) (by decide +kernel) rfl rfl dX1_resetAll_73 ?_
    refine lv_iconst (v := 1) hx hb dX1_resetAll_76 (by decide) ?_
    refine lv_iadd hx hb dX1_resetAll_77 ?_
    refine c_put ha hx hb hts hin hown hK hP hS 8 (by decide) (by decide +kernel) ⟨rfl, rfl, rfl⟩ dX1_resetAll_78 (fun H locs hP hS => ?_)
    have hP : va_P D vwCl (cW cO h ad md n o (upd (upd (upd (upd (upd ((C_endDue n o (C_resetAll_it n o S n)).1) 2 0) 12 (-1)) 11 0) 7 0) 8 (((C_endDue n o (C_resetAll_it n o S n)).1 8) + 1), (C_endDue n o (C_resetAll_it n o S n)).2.1, (C_endDue n o (C_resetAll_it n o S n)).2.2)) H := hP
    have hE : C_resetAll n o S = (upd (upd (upd (upd (upd ((C_endDue n o (C_resetAll_it n o S n)).1) 2 0) 12 (-1)) 11 0) 7 0) 8 (((C_endDue n o (C_resetAll_it n o S n)).1 8) + 1), (C_endDue n o (C_resetAll_it n o S n)).2.1, (C_endDue n o (C_resetAll_it n o S n)).2.2) := by first | (simp only [C_resetAll]; done) | (simp only [C_resetAll]; rfl)
    exact W.vret hx hb hr (fun tt ht hW => ⟨⟨(), rfl, trivial, by rw [ht, hE]; exact hP, va_K.moved hW.alike hK⟩, hS.F ht⟩) hS.2.2 dX1_resetAll_81
  · have hlt : k1 < n := Nat.lt_of_not_le (fun z => c2 ((nI_leI (by omega) (by omega)).mpr z))
    refine lv_aload_n hx hb dX1_resetAll_13 rfl (lv_at hl 0 rfl) ?_
    refine c_get (S := (C_resetAll_it n o S k1)) (v := .ref (h 1)) hx hb hts hin hown hK hP 0 (by decide) (by decide +kernel) rfl rfl dX1_resetAll_14 ?_
    refine lv_iload_n hx hb dX1_resetAll_17 rfl (lv_at hl 1 rfl) ?_
    refine m_callQr (As := [.int (nI k1)]) (rest := []) ⟨hx, hb, hml, hown, hts⟩ (c_J_get1 l D cO h ad md n o (C_resetAll_it n o S k1) k1 hn12 (by omega)) (cwV 1 hts gX1_resetAll_Jx4a65c_get_915e3 rfl rfl rfl (by decide +kernel) ⟨Nat.le_of_ble_eq_true rfl, Nat.le_of_ble_eq_true rfl⟩) hK hP (va_recv hK hP (ci := 0) (q0 := 1) rfl rfl) rfl hl.1 rfl (Nat.le_of_ble_eq_true rfl) dX1_resetAll_18 ⟨Nat.zero_le _, Nat.zero_le _⟩ ?_
    refine c_cast hx hb hts hown hK hP (i := k1) (by omega) (by decide +kernel) dX1_resetAll_21 ?_
    refine lv_astore_n (lv' := [(2, .ref (ad k1)), (0, .ref (h 0)), (1, .int (nI k1))]) hx hb dX1_resetAll_24 rfl hl (by decide) rfl (fun ls hl => ?_)
    refine lv_aload_n hx hb dX1_resetAll_25 rfl (lv_at hl 1 rfl) ?_
    refine lv_aload_n hx hb dX1_resetAll_26 rfl (lv_at hl 0 rfl) ?_
    refine lv_iconst (v := 2) hx hb dX1_resetAll_27 (by decide) ?_
    refine m_callv (As := [.ref (ad k1), .int 2]) (rest := []) ⟨hx, hb, hml, hown, hts⟩ (c_X1_turn l D cO h ad md n o ha (C_resetAll_it n o S k1) hok k1 (by omega) 2) (cwV 2 hts gX1_resetAll_X1_turn rfl rfl rfl (by decide +kernel) ⟨Nat.le_of_ble_eq_true rfl, Nat.le_of_ble_eq_true rfl⟩) hK hP hS (fun q h => wA_up hS.1 q h) (va_recv hK hP (ci := 2) (q0 := 0) rfl rfl) rfl hl.1 rfl (Nat.le_of_ble_eq_true rfl) dX1_resetAll_28 ⟨Nat.zero_le _, Nat.zero_le _⟩ (fun H locs hP hS _ => ?_)
    have hok : cOk n o (C_turn n o (C_resetAll_it n o S k1) k1 2) := (C_turn_ok n o (C_resetAll_it n o S k1) k1 2 hok)
    refine lv_aload_n hx hb dX1_resetAll_31 rfl (lv_at hl 0 rfl) ?_
    refine lv_iconst (v := 0) hx hb dX1_resetAll_32 (by decide) ?_
    refine c_dput ha hx hb hts hin0 hown hK hP hS (i := k1) (by omega) 9 (by decide) (by decide +kernel) ⟨rfl, rfl⟩ rfl rfl dX1_resetAll_33 (fun H locs hP hS => ?_)
    have hP : va_P D vwCl (cW cO h ad md n o ((C_turn n o (C_resetAll_it n o S k1) k1 2).1, up2 ((C_turn n o (C_resetAll_it n o S k1) k1 2).2.1) 9 k1 0, (C_turn n o (C_resetAll_it n o S k1) k1 2).2.2)) H := hP
    refine lv_aload_n hx hb dX1_resetAll_36 rfl (lv_at hl 0 rfl) ?_
    refine lv_iconst (v := 0) hx hb dX1_resetAll_37 (by decide) ?_
    refine c_dput ha hx hb hts hin0 hown hK hP hS (i := k1) (by omega) 10 (by decide) (by decide +kernel) ⟨rfl, rfl⟩ rfl rfl dX1_resetAll_38 (fun H locs hP hS => ?_)
    have hP : va_P D vwCl (cW cO h ad md n o ((C_turn n o (C_resetAll_it n o S k1) k1 2).1, up2 (up2 ((C_turn n o (C_resetAll_it n o S k1) k1 2).2.1) 9 k1 0) 10 k1 0, (C_turn n o (C_resetAll_it n o S k1) k1 2).2.2)) H := hP
    refine lv_iinc (v := nI (k1 + 1)) (lv' := [(1, .int (nI (k1 + 1))), (2, .ref (ad k1)), (0, .ref (h 0))]) hx hb dX1_resetAll_41 hl (k := 2) rfl (nI_1 _) (by decide) rfl (fun ls hl => ?_)
    refine lv_goto (tgt := 2) hx hb dX1_resetAll_44 (by decide) ?_
    have hE : C_resetAll_it n o S (k1 + 1) = ((C_turn n o (C_resetAll_it n o S k1) k1 2).1, up2 (up2 ((C_turn n o (C_resetAll_it n o S k1) k1 2).2.1) 9 k1 0) 10 k1 0, (C_turn n o (C_resetAll_it n o S k1) k1 2).2.2) := by show C_resetAll_b n o k1 (C_resetAll_it n o S k1) = _; first | (simp only [C_resetAll_b]; done) | (simp only [C_resetAll_b]; rfl)
    exact ih (k1 + 1) H locs ls (by omega) ⟨by omega, by rw [hE]; exact hP, hS, lv_sub hl [2, 0] rfl⟩

def C_idle_b (n : Nat) (o : Nat → Nat) (nd : Int32) (k1 : Nat) (Z : cSt) : cSt :=
  if Z.2.1 7 k1 = 2 then (if Z.2.1 9 k1 = 0 then (if C_holds n o Z nd k1 = 0 then (if Z.2.1 6 k1 = 0 then (Z.1, up2 (Z.2.1) 10 k1 ((Z.2.1 10 k1) + 1), Z.2.2)
        else if (Z.2.1 10 k1) + 1 < Z.2.1 6 k1 then (Z.1, up2 (Z.2.1) 10 k1 ((Z.2.1 10 k1) + 1), Z.2.2)
        else (C_turn n o (Z.1, up2 (Z.2.1) 10 k1 ((Z.2.1 10 k1) + 1), Z.2.2) k1 1))
      else (Z.1, up2 (Z.2.1) 10 k1 0, Z.2.2))
    else (Z.1, up2 (Z.2.1) 10 k1 0, Z.2.2))
  else (Z.1, up2 (Z.2.1) 10 k1 0, Z.2.2)
theorem C_idle_b_ok (n : Nat) (o : Nat → Nat) (nd : Int32) (k1 : Nat) (Z : cSt) (hok : cOk n o Z) : cOk n o (C_idle_b n o nd k1 Z) := by
  unfold C_idle_b
  split
  · split
    · split
      · split
        · exact (show cOk n o (Z.1, up2 (Z.2.1) 10 k1 ((Z.2.1 10 k1) + 1), Z.2.2) from hok)
        · split
          · exact (show cOk n o (Z.1, up2 (Z.2.1) 10 k1 ((Z.2.1 10 k1) + 1), Z.2.2) from hok)
          · exact (C_turn_ok n o (Z.1, up2 (Z.2.1) 10 k1 ((Z.2.1 10 k1) + 1), Z.2.2) k1 1 (show cOk n o (Z.1, up2 (Z.2.1) 10 k1 ((Z.2.1 10 k1) + 1), Z.2.2) from hok))
      · exact (show cOk n o (Z.1, up2 (Z.2.1) 10 k1 0, Z.2.2) from hok)
    · exact (show cOk n o (Z.1, up2 (Z.2.1) 10 k1 0, Z.2.2) from hok)
  · exact (show cOk n o (Z.1, up2 (Z.2.1) 10 k1 0, Z.2.2) from hok)
def C_idle_it (n : Nat) (o : Nat → Nat) (S : cSt) (nd : Int32) : Nat → cSt
  | 0 => S
  | k1 + 1 => C_idle_b n o nd k1 (C_idle_it n o S nd k1)
theorem C_idle_it_ok (n : Nat) (o : Nat → Nat) (S : cSt) (nd : Int32) : ∀ (k : Nat) (hok : cOk n o S), cOk n o (C_idle_it n o S nd k)
  | 0, hok => hok
  | k + 1, hok => C_idle_b_ok n o nd k _ (C_idle_it_ok n o S nd k hok)
def C_idleOneTick (n : Nat) (o : Nat → Nat) (S : cSt) : cSt :=
  (C_idle_it n o S (C_parentsOfThoseOn n o S) n)
theorem C_idleOneTick_ok (n : Nat) (o : Nat → Nat) (S : cSt) (hok : cOk n o S) : cOk n o (C_idleOneTick n o S) := by
  unfold C_idleOneTick
  exact (C_idle_it_ok n o S _ n hok)
set_option maxHeartbeats 4000000 in
set_option maxRecDepth 100000 in
theorem c_X1_idleOneTick (l : Launch) (D : va_G) (cO : ClassId) (h ad : Nat → Nat) (md : Nat → Int32) (n : Nat) (o : Nat → Nat) (ha : (cL h ad n).Nodup) (S : cSt) (hok : cOk n o S) : mV l yX1_idleOneTick wsX1_idleOneTick (rmz 4 87) D (cT cO) (cL h ad n) [.ref (h 0)] (cW cO h ad md n o S) (cW cO h ad md n o (C_idleOneTick n o S)) := by
  intro sz
  refine Met.ofW (cc := cX1_idleOneTick) (maxL := 5) (ret := none) (by decide) rfl ?_
  intro p e s m args below meth c s₁ B hml hv
  obtain ⟨rfl, hsz, hP, hK⟩ := hv
  have hx := B.exec
  have hb := B.bytes
  have hr := B.returns
  have hts := atoms_spec (ws := wsX1_idleOneTick) B.pre
  have hin : ∀ w ∈ wsX10, w ∈ wsX1_idleOneTick := fun w h => List.mem_cons_of_mem _ (List.mem_append_left _ (List.mem_append_left _ (List.mem_append_right _ h)))
  have hin0 : ∀ w ∈ wsX00, w ∈ wsX1_idleOneTick := fun w h => List.mem_cons_of_mem _ (List.mem_append_left _ (List.mem_append_right _ h))
  have hown : s.vm.findClass RX1 = some m.cls := findClass_of_methodNamed B.named
  have hlocks := B.notSynchronized
  have hn12 : n ≤ 12 := hok.1
  subst hsz
  have hS : va_S (wA (cL h ad n) s.heap.size) s.heap s.heap [] := va_S.rf
  have hl := lv_entry ([.ref (h 0)]) (n := 5) (Nat.le_of_ble_eq_true rfl)
  rw [lg_entry_eq]
  generalize (lg_sl ([.ref (h 0)]) ++ List.replicate (5 - (lg_sl ([.ref (h 0)])).length) Slot.unset).toArray = ls at hl ⊢
  have hl : lv_has ls 5 [(0, .ref (h 0))] := hl
  have hok0 := hok
  refine lv_aload_n hx hb dX1_idleOneTick_0 rfl (lv_at hl 0 rfl) ?_
  refine m_callR (As := []) (rest := []) ⟨hx, hb, hml, hown, hts⟩ (c_X1_parentsOfThoseOn l D cO h ad md n o ha S hok ) (cwV 0 hts gX1_idleOneTick_X1_parentsOfThoseOn rfl rfl rfl (by decide +kernel) ⟨Nat.le_of_ble_eq_true rfl, Nat.le_of_ble_eq_true rfl⟩) hK hP (va_recv hK hP (ci := 2) (q0 := 0) rfl rfl) rfl hl.1 rfl (Nat.le_of_ble_eq_true rfl) dX1_idleOneTick_1 ⟨Nat.zero_le _, Nat.zero_le _⟩ ?_
  refine lv_istore_n (lv' := [(1, .int (C_parentsOfThoseOn n o S)), (0, .ref (h 0))]) hx hb dX1_idleOneTick_4 rfl hl (by decide) rfl (fun ls hl => ?_)
  refine lv_iconst (v := 0) hx hb dX1_idleOneTick_5 (by decide) ?_
  refine lv_istore_n (lv' := [(2, .int 0), (1, .int (C_parentsOfThoseOn n o S)), (0, .ref (h 0))]) hx hb dX1_idleOneTick_6 rfl hl (by decide) rfl (fun ls hl => ?_)
  refine w_loop (σ := Nat) (I := fun k1 H locs ls => k1 ≤ n ∧ va_P D vwCl (cW cO h ad md n o (C_idle_it n o S (C_parentsOfThoseOn n o S) k1)) H ∧ va_S (wA (cL h ad n) s.heap.size) s.heap H locs ∧ lv_has ls 5 [(0, .ref (h 0)), (1, .int (C_parentsOfThoseOn n o S)), (2, .int (nI k1))]) (fun k1 => n - k1) ?_ 0 ⟨Nat.zero_le _, hP, hS, lv_sub hl [2, 1, 0] rfl⟩
  intro k1 H locs ls hI ih
  obtain ⟨hk, hP, hS, hl⟩ := hI
  have hok : cOk n o (C_idle_it n o S (C_parentsOfThoseOn n o S) k1) := C_idle_it_ok n o S _ k1 hok0
  refine lv_iload_n hx hb dX1_idleOneTick_7 rfl (lv_at hl 2 rfl) ?_
  refine lv_aload_n hx hb dX1_idleOneTick_8 rfl (lv_at hl 0 rfl) ?_
  refine c_get (S := (C_idle_it n o S (C_parentsOfThoseOn n o S) k1)) (v := .ref (h 1)) hx hb hts hin hown hK hP 0 (by decide) (by decide +kernel) rfl rfl dX1_idleOneTick_9 ?_
  refine m_callR (As := []) (rest := [.int (nI k1)]) ⟨hx, hb, hml, hown, hts⟩ (c_J_size l D (cT cO) (cW cO h ad md n o (C_idle_it n o S (C_parentsOfThoseOn n o S) k1)) (h 1) 1 (h 3) (md 1) (nI n) rfl) (cwV 0 hts gX1_idleOneTick_Jx4a65c_size_8abf5 rfl rfl rfl (by decide +kernel) ⟨Nat.le_of_ble_eq_true rfl, Nat.le_of_ble_eq_true rfl⟩) hK hP (va_recv hK hP (ci := 0) (q0 := 1) rfl rfl) rfl hl.1 rfl (Nat.le_of_ble_eq_true rfl) dX1_idleOneTick_12 ⟨Nat.zero_le _, Nat.zero_le _⟩ ?_
  refine lv_icmp_ge (tgt := 114) hx hb dX1_idleOneTick_15 (by decide) (fun c2 => ?_) (fun c2 => ?_)
  · have hkn : k1 = n := Nat.le_antisymm hk ((nI_leI (by omega) (by omega)).mp c2)
    rw [hkn] at hP hl
    have hok : cOk n o (C_idle_it n o S (C_parentsOfThoseOn n o S) n) := C_idle_it_ok n o S _ n hok0
    have hE : C_idleOneTick n o S = (C_idle_it n o S (C_parentsOfThoseOn n o S) n) := by first | (simp only [C_idleOneTick]; done) | (simp only [C_idleOneTick]; rfl)
    exact W.vret hx hb hr (fun tt ht hW => ⟨⟨(), rfl, trivial, by rw [ht, hE]; exact hP, va_K.moved hW.alike hK⟩, hS.F ht⟩) hS.2.2 dX1_idleOneTick_114
  · have hlt : k1 < n := Nat.lt_of_not_le (fun z => c2 ((nI_leI (by omega) (by omega)).mpr z))
    refine lv_aload_n hx hb dX1_idleOneTick_18 rfl (lv_at hl 0 rfl) ?_
    refine c_get (S := (C_idle_it n o S (C_parentsOfThoseOn n o S) k1)) (v := .ref (h 1)) hx hb hts hin hown hK hP 0 (by decide) (by decide +kernel) rfl rfl dX1_idleOneTick_19 ?_
    refine lv_iload_n hx hb dX1_idleOneTick_22 rfl (lv_at hl 2 rfl) ?_
    refine m_callQr (As := [.int (nI k1)]) (rest := []) ⟨hx, hb, hml, hown, hts⟩ (c_J_get1 l D cO h ad md n o (C_idle_it n o S (C_parentsOfThoseOn n o S) k1) k1 hn12 (by omega)) (cwV 1 hts gX1_idleOneTick_Jx4a65c_get_915e3 rfl rfl rfl (by decide +kernel) ⟨Nat.le_of_ble_eq_true rfl, Nat.le_of_ble_eq_true rfl⟩) hK hP (va_recv hK hP (ci := 0) (q0 := 1) rfl rfl) rfl hl.1 rfl (Nat.le_of_ble_eq_true rfl) dX1_idleOneTick_23 ⟨Nat.zero_le _, Nat.zero_le _⟩ ?_
    refine c_cast hx hb hts hown hK hP (i := k1) (by omega) (by decide +kernel) dX1_idleOneTick_26 ?_
    refine lv_astore_n (lv' := [(3, .ref (ad k1)), (0, .ref (h 0)), (1, .int (C_parentsOfThoseOn n o S)), (2, .int (nI k1))]) hx hb dX1_idleOneTick_29 rfl hl (by decide) rfl (fun ls hl => ?_)
    refine lv_aload_n hx hb dX1_idleOneTick_30 rfl (lv_at hl 0 rfl) ?_
    refine c_dget (S := (C_idle_it n o S (C_parentsOfThoseOn n o S) k1)) (v := .int ((C_idle_it n o S (C_parentsOfThoseOn n o S) k1).2.1 7 k1)) (i := k1) hx hb hts hin0 hown hK hP (by omega) 7 (by decide) (by decide +kernel) rfl rfl dX1_idleOneTick_31 ?_
    refine lv_iconst (v := 2) hx hb dX1_idleOneTick_34 (by decide) ?_
    refine lv_icmp_ne (tgt := 57) hx hb dX1_idleOneTick_35 (by decide) (fun c3 => ?_) (fun c3 => ?_)
    · refine lv_iconst (v := 0) hx hb dX1_idleOneTick_57 (by decide) ?_
      refine lv_istore (lv' := [(4, .int 0), (3, .ref (ad k1)), (0, .ref (h 0)), (1, .int (C_parentsOfThoseOn n o S)), (2, .int (nI k1))]) hx hb dX1_idleOneTick_58 hl (by decide) rfl (fun ls hl => ?_)
      refine lv_aload_n hx hb dX1_idleOneTick_60 rfl (lv_at hl 1 rfl) ?_
      refine lv_iload hx hb dX1_idleOneTick_61 (lv_at hl 0 rfl) ?_
      refine lv_if_eq (tgt := 75) hx hb dX1_idleOneTick_63 (by decide) (fun c4 => ?_) (fun c4 => ?_)
      · refine lv_iconst (v := 0) hx hb dX1_idleOneTick_75 (by decide) ?_
        refine c_dput ha hx hb hts hin0 hown hK hP hS (i := k1) (by omega) 10 (by decide) (by decide +kernel) ⟨rfl, rfl⟩ rfl rfl dX1_idleOneTick_76 (fun H locs hP hS => ?_)
        have hP : va_P D vwCl (cW cO h ad md n o ((C_idle_it n o S (C_parentsOfThoseOn n o S) k1).1, up2 ((C_idle_it n o S (C_parentsOfThoseOn n o S) k1).2.1) 10 k1 0, (C_idle_it n o S (C_parentsOfThoseOn n o S) k1).2.2)) H := hP
        refine lv_iload hx hb dX1_idleOneTick_79 (lv_at hl 0 rfl) ?_
        refine lv_if_eq (tgt := 108) hx hb dX1_idleOneTick_81 (by decide) (fun c5 => ?_) (fun c5 => ?_)
        · refine lv_iinc (v := nI (k1 + 1)) (lv' := [(2, .int (nI (k1 + 1))), (4, .int 0), (3, .ref (ad k1)), (0, .ref (h 0)), (1, .int (C_parentsOfThoseOn n o S))]) hx hb dX1_idleOneTick_108 hl (k := 4) rfl (nI_1 _) (by decide) rfl (fun ls hl => ?_)
          refine lv_goto (tgt := 7) hx hb dX1_idleOneTick_111 (by decide) ?_
          have hE : C_idle_it n o S (C_parentsOfThoseOn n o S) (k1 + 1) = ((C_idle_it n o S (C_parentsOfThoseOn n o S) k1).1, up2 ((C_idle_it n o S (C_parentsOfThoseOn n o S) k1).2.1) 10 k1 0, (C_idle_it n o S (C_parentsOfThoseOn n o S) k1).2.2) := by show C_idle_b n o (C_parentsOfThoseOn n o S) k1 (C_idle_it n o S (C_parentsOfThoseOn n o S) k1) = _; first | (simp only [C_idle_b, if_neg c3]; done) | (simp only [C_idle_b, if_neg c3]; rfl)
          exact ih (k1 + 1) H locs ls (by omega) ⟨by omega, by rw [hE]; exact hP, hS, lv_sub hl [3, 4, 0] rfl⟩
        · exact absurd (by decide) c5
      · exact absurd (by decide) c4
    · refine lv_aload_n hx hb dX1_idleOneTick_38 rfl (lv_at hl 0 rfl) ?_
      refine c_dget (S := (C_idle_it n o S (C_parentsOfThoseOn n o S) k1)) (v := .int ((C_idle_it n o S (C_parentsOfThoseOn n o S) k1).2.1 9 k1)) (i := k1) hx hb hts hin0 hown hK hP (by omega) 9 (by decide) (by decide +kernel) rfl rfl dX1_idleOneTick_39 ?_
      refine lv_if_ne (tgt := 57) hx hb dX1_idleOneTick_42 (by decide) (fun c6 => ?_) (fun c6 => ?_)
      · refine lv_iconst (v := 0) hx hb dX1_idleOneTick_57 (by decide) ?_
        refine lv_istore (lv' := [(4, .int 0), (3, .ref (ad k1)), (0, .ref (h 0)), (1, .int (C_parentsOfThoseOn n o S)), (2, .int (nI k1))]) hx hb dX1_idleOneTick_58 hl (by decide) rfl (fun ls hl => ?_)
        refine lv_aload_n hx hb dX1_idleOneTick_60 rfl (lv_at hl 1 rfl) ?_
        refine lv_iload hx hb dX1_idleOneTick_61 (lv_at hl 0 rfl) ?_
        refine lv_if_eq (tgt := 75) hx hb dX1_idleOneTick_63 (by decide) (fun c7 => ?_) (fun c7 => ?_)
        · refine lv_iconst (v := 0) hx hb dX1_idleOneTick_75 (by decide) ?_
          refine c_dput ha hx hb hts hin0 hown hK hP hS (i := k1) (by omega) 10 (by decide) (by decide +kernel) ⟨rfl, rfl⟩ rfl rfl dX1_idleOneTick_76 (fun H locs hP hS => ?_)
          have hP : va_P D vwCl (cW cO h ad md n o ((C_idle_it n o S (C_parentsOfThoseOn n o S) k1).1, up2 ((C_idle_it n o S (C_parentsOfThoseOn n o S) k1).2.1) 10 k1 0, (C_idle_it n o S (C_parentsOfThoseOn n o S) k1).2.2)) H := hP
          refine lv_iload hx hb dX1_idleOneTick_79 (lv_at hl 0 rfl) ?_
          refine lv_if_eq (tgt := 108) hx hb dX1_idleOneTick_81 (by decide) (fun c8 => ?_) (fun c8 => ?_)
          · refine lv_iinc (v := nI (k1 + 1)) (lv' := [(2, .int (nI (k1 + 1))), (4, .int 0), (3, .ref (ad k1)), (0, .ref (h 0)), (1, .int (C_parentsOfThoseOn n o S))]) hx hb dX1_idleOneTick_108 hl (k := 4) rfl (nI_1 _) (by decide) rfl (fun ls hl => ?_)
            refine lv_goto (tgt := 7) hx hb dX1_idleOneTick_111 (by decide) ?_
            have hE : C_idle_it n o S (C_parentsOfThoseOn n o S) (k1 + 1) = ((C_idle_it n o S (C_parentsOfThoseOn n o S) k1).1, up2 ((C_idle_it n o S (C_parentsOfThoseOn n o S) k1).2.1) 10 k1 0, (C_idle_it n o S (C_parentsOfThoseOn n o S) k1).2.2) := by show C_idle_b n o (C_parentsOfThoseOn n o S) k1 (C_idle_it n o S (C_parentsOfThoseOn n o S) k1) = _; first | (simp only [C_idle_b, if_pos c3, if_neg c6]; done) | (simp only [C_idle_b, if_pos c3, if_neg c6]; rfl)
            exact ih (k1 + 1) H locs ls (by omega) ⟨by omega, by rw [hE]; exact hP, hS, lv_sub hl [3, 4, 0] rfl⟩
          · exact absurd (by decide) c8
        · exact absurd (by decide) c7
      · refine lv_iload_n hx hb dX1_idleOneTick_45 rfl (lv_at hl 2 rfl) ?_
        refine lv_aload_n hx hb dX1_idleOneTick_46 rfl (lv_at hl 0 rfl) ?_
        refine m_callRS (As := [.int (C_parentsOfThoseOn n o S), .ref (ad k1)]) (rest := []) ⟨hx, hb, hml, hown, hts⟩ (c_X1_holds l D cO h ad md n o ha (C_idle_it n o S (C_parentsOfThoseOn n o S) k1) hok (C_parentsOfThoseOn n o S) k1 (by omega)) (va_cwS 2 hts gX1_idleOneTick_X1_holds rfl rfl rfl (by decide +kernel) ⟨Nat.le_of_ble_eq_true rfl, Nat.le_of_ble_eq_true rfl⟩) hK hP rfl hl.1 rfl (Nat.le_of_ble_eq_true rfl) dX1_idleOneTick_47 ⟨Nat.zero_le _, Nat.zero_le _⟩ ?_
        refine lv_if_ne (tgt := 57) hx hb dX1_idleOneTick_50 (by decide) (fun c9 => ?_) (fun c9 => ?_)
        · refine lv_iconst (v := 0) hx hb dX1_idleOneTick_57 (by decide) ?_
          refine lv_istore (lv' := [(4, .int 0), (3, .ref (ad k1)), (0, .ref (h 0)), (1, .int (C_parentsOfThoseOn n o S)), (2, .int (nI k1))]) hx hb dX1_idleOneTick_58 hl (by decide) rfl (fun ls hl => ?_)
          refine lv_aload_n hx hb dX1_idleOneTick_60 rfl (lv_at hl 1 rfl) ?_
          refine lv_iload hx hb dX1_idleOneTick_61 (lv_at hl 0 rfl) ?_
          refine lv_if_eq (tgt := 75) hx hb dX1_idleOneTick_63 (by decide) (fun c10 => ?_) (fun c10 => ?_)
          · refine lv_iconst (v := 0) hx hb dX1_idleOneTick_75 (by decide) ?_
            refine c_dput ha hx hb hts hin0 hown hK hP hS (i := k1) (by omega) 10 (by decide) (by decide +kernel) ⟨rfl, rfl⟩ rfl rfl dX1_idleOneTick_76 (fun H locs hP hS => ?_)
            have hP : va_P D vwCl (cW cO h ad md n o ((C_idle_it n o S (C_parentsOfThoseOn n o S) k1).1, up2 ((C_idle_it n o S (C_parentsOfThoseOn n o S) k1).2.1) 10 k1 0, (C_idle_it n o S (C_parentsOfThoseOn n o S) k1).2.2)) H := hP
            refine lv_iload hx hb dX1_idleOneTick_79 (lv_at hl 0 rfl) ?_
            refine lv_if_eq (tgt := 108) hx hb dX1_idleOneTick_81 (by decide) (fun c11 => ?_) (fun c11 => ?_)
            · refine lv_iinc (v := nI (k1 + 1)) (lv' := [(2, .int (nI (k1 + 1))), (4, .int 0), (3, .ref (ad k1)), (0, .ref (h 0)), (1, .int (C_parentsOfThoseOn n o S))]) hx hb dX1_idleOneTick_108 hl (k := 4) rfl (nI_1 _) (by decide) rfl (fun ls hl => ?_)
              refine lv_goto (tgt := 7) hx hb dX1_idleOneTick_111 (by decide) ?_
              have hE : C_idle_it n o S (C_parentsOfThoseOn n o S) (k1 + 1) = ((C_idle_it n o S (C_parentsOfThoseOn n o S) k1).1, up2 ((C_idle_it n o S (C_parentsOfThoseOn n o S) k1).2.1) 10 k1 0, (C_idle_it n o S (C_parentsOfThoseOn n o S) k1).2.2) := by show C_idle_b n o (C_parentsOfThoseOn n o S) k1 (C_idle_it n o S (C_parentsOfThoseOn n o S) k1) = _; first | (simp only [C_idle_b, if_pos c3, if_pos c6, if_neg c9]; done) | (simp only [C_idle_b, if_pos c3, if_pos c6, if_neg c9]; rfl)
              exact ih (k1 + 1) H locs ls (by omega) ⟨by omega, by rw [hE]; exact hP, hS, lv_sub hl [3, 4, 0] rfl⟩
            · exact absurd (by decide) c11
          · exact absurd (by decide) c10
        · refine lv_iconst (v := 1) hx hb dX1_idleOneTick_53 (by decide) ?_
          refine lv_goto (tgt := 58) hx hb dX1_idleOneTick_54 (by decide) ?_
          refine lv_istore (lv' := [(4, .int 1), (3, .ref (ad k1)), (0, .ref (h 0)), (1, .int (C_parentsOfThoseOn n o S)), (2, .int (nI k1))]) hx hb dX1_idleOneTick_58 hl (by decide) rfl (fun ls hl => ?_)
          refine lv_aload_n hx hb dX1_idleOneTick_60 rfl (lv_at hl 1 rfl) ?_
          refine lv_iload hx hb dX1_idleOneTick_61 (lv_at hl 0 rfl) ?_
          refine lv_if_eq (tgt := 75) hx hb dX1_idleOneTick_63 (by decide) (fun c12 => ?_) (fun c12 => ?_)
          · exact absurd c12 (by decide)
          · refine lv_aload_n hx hb dX1_idleOneTick_66 rfl (lv_at hl 1 rfl) ?_
            refine c_dget (S := (C_idle_it n o S (C_parentsOfThoseOn n o S) k1)) (v := .int ((C_idle_it n o S (C_parentsOfThoseOn n o S) k1).2.1 10 k1)) (i := k1) hx hb hts hin0 hown hK hP (by omega) 10 (by decide) (by decide +kernel) rfl rfl dX1_idleOneTick_67 ?_
            refine lv_iconst (v := 1) hx hb dX1_idleOneTick_70 (by decide) ?_
            refine lv_iadd hx hb dX1_idleOneTick_71 ?_
            refine lv_goto (tgt := 76) hx hb dX1_idleOneTick_72 (by decide) ?_
            refine c_dput ha hx hb hts hin0 hown hK hP hS (i := k1) (by omega) 10 (by decide) (by decide +kernel) ⟨rfl, rfl⟩ rfl rfl dX1_idleOneTick_76 (fun H locs hP hS => ?_)
            have hP : va_P D vwCl (cW cO h ad md n o ((C_idle_it n o S (C_parentsOfThoseOn n o S) k1).1, up2 ((C_idle_it n o S (C_parentsOfThoseOn n o S) k1).2.1) 10 k1 (((C_idle_it n o S (C_parentsOfThoseOn n o S) k1).2.1 10 k1) + 1), (C_idle_it n o S (C_parentsOfThoseOn n o S) k1).2.2)) H := hP
            refine lv_iload hx hb dX1_idleOneTick_79 (lv_at hl 0 rfl) ?_
            refine lv_if_eq (tgt := 108) hx hb dX1_idleOneTick_81 (by decide) (fun c13 => ?_) (fun c13 => ?_)
            · exact absurd c13 (by decide)
            · refine lv_aload_n hx hb dX1_idleOneTick_84 rfl (lv_at hl 1 rfl) ?_
              refine c_dget (S := ((C_idle_it n o S (C_parentsOfThoseOn n o S) k1).1, up2 ((C_idle_it n o S (C_parentsOfThoseOn n o S) k1).2.1) 10 k1 (((C_idle_it n o S (C_parentsOfThoseOn n o S) k1).2.1 10 k1) + 1), (C_idle_it n o S (C_parentsOfThoseOn n o S) k1).2.2)) (v := .int ((C_idle_it n o S (C_parentsOfThoseOn n o S) k1).2.1 6 k1)) (i := k1) hx hb hts hin0 hown hK hP (by omega) 6 (by decide) (by decide +kernel) rfl rfl dX1_idleOneTick_85 ?_
              refine lv_if_eq (tgt := 108) hx hb dX1_idleOneTick_88 (by decide) (fun c14 => ?_) (fun c14 => ?_)
              · refine lv_iinc (v := nI (k1 + 1)) (lv' := [(2, .int (nI (k1 + 1))), (4, .int 1), (3, .ref (ad k1)), (0, .ref (h 0)), (1, .int (C_parentsOfThoseOn n o S))]) hx hb dX1_idleOneTick_108 hl (k := 4) rfl (nI_1 _) (by decide) rfl (fun ls hl => ?_)
                refine lv_goto (tgt := 7) hx hb dX1_idleOneTick_111 (by decide) ?_
                have hE : C_idle_it n o S (C_parentsOfThoseOn n o S) (k1 + 1) = ((C_idle_it n o S (C_parentsOfThoseOn n o S) k1).1, up2 ((C_idle_it n o S (C_parentsOfThoseOn n o S) k1).2.1) 10 k1 (((C_idle_it n o S (C_parentsOfThoseOn n o S) k1).2.1 10 k1) + 1), (C_idle_it n o S (C_parentsOfThoseOn n o S) k1).2.2) := by show C_idle_b n o (C_parentsOfThoseOn n o S) k1 (C_idle_it n o S (C_parentsOfThoseOn n o S) k1) = _; first | (simp only [C_idle_b, if_pos c3, if_pos c6, if_pos c9, if_pos c14]; done) | (simp only [C_idle_b, if_pos c3, if_pos c6, if_pos c9, if_pos c14]; rfl)
                exact ih (k1 + 1) H locs ls (by omega) ⟨by omega, by rw [hE]; exact hP, hS, lv_sub hl [3, 4, 0] rfl⟩
              · refine lv_aload_n hx hb dX1_idleOneTick_91 rfl (lv_at hl 1 rfl) ?_
                refine c_dget (S := ((C_idle_it n o S (C_parentsOfThoseOn n o S) k1).1, up2 ((C_idle_it n o S (C_parentsOfThoseOn n o S) k1).2.1) 10 k1 (((C_idle_it n o S (C_parentsOfThoseOn n o S) k1).2.1 10 k1) + 1), (C_idle_it n o S (C_parentsOfThoseOn n o S) k1).2.2)) (v := .int (((C_idle_it n o S (C_parentsOfThoseOn n o S) k1).2.1 10 k1) + 1)) (i := k1) hx hb hts hin0 hown hK hP (by omega) 10 (by decide) (by decide +kernel) rfl (by simp [cD, up2, va_up, upd]) dX1_idleOneTick_92 ?_
                refine lv_aload_n hx hb dX1_idleOneTick_95 rfl (lv_at hl 1 rfl) ?_
                refine c_dget (S := ((C_idle_it n o S (C_parentsOfThoseOn n o S) k1).1, up2 ((C_idle_it n o S (C_parentsOfThoseOn n o S) k1).2.1) 10 k1 (((C_idle_it n o S (C_parentsOfThoseOn n o S) k1).2.1 10 k1) + 1), (C_idle_it n o S (C_parentsOfThoseOn n o S) k1).2.2)) (v := .int ((C_idle_it n o S (C_parentsOfThoseOn n o S) k1).2.1 6 k1)) (i := k1) hx hb hts hin0 hown hK hP (by omega) 6 (by decide) (by decide +kernel) rfl rfl dX1_idleOneTick_96 ?_
                refine lv_icmp_lt (tgt := 108) hx hb dX1_idleOneTick_99 (by decide) (fun c15 => ?_) (fun c15 => ?_)
                · refine lv_iinc (v := nI (k1 + 1)) (lv' := [(2, .int (nI (k1 + 1))), (4, .int 1), (3, .ref (ad k1)), (0, .ref (h 0)), (1, .int (C_parentsOfThoseOn n o S))]) hx hb dX1_idleOneTick_108 hl (k := 4) rfl (nI_1 _) (by decide) rfl (fun ls hl => ?_)
                  refine lv_goto (tgt := 7) hx hb dX1_idleOneTick_111 (by decide) ?_
                  have hE : C_idle_it n o S (C_parentsOfThoseOn n o S) (k1 + 1) = ((C_idle_it n o S (C_parentsOfThoseOn n o S) k1).1, up2 ((C_idle_it n o S (C_parentsOfThoseOn n o S) k1).2.1) 10 k1 (((C_idle_it n o S (C_parentsOfThoseOn n o S) k1).2.1 10 k1) + 1), (C_idle_it n o S (C_parentsOfThoseOn n o S) k1).2.2) := by show C_idle_b n o (C_parentsOfThoseOn n o S) k1 (C_idle_it n o S (C_parentsOfThoseOn n o S) k1) = _; first | (simp only [C_idle_b, if_pos c3, if_pos c6, if_pos c9, if_neg c14, if_pos c15]; done) | (simp only [C_idle_b, if_pos c3, if_pos c6, if_pos c9, if_neg c14, if_pos c15]; rfl)
                  exact ih (k1 + 1) H locs ls (by omega) ⟨by omega, by rw [hE]; exact hP, hS, lv_sub hl [3, 4, 0] rfl⟩
                · refine lv_aload_n hx hb dX1_idleOneTick_102 rfl (lv_at hl 2 rfl) ?_
                  refine lv_aload_n hx hb dX1_idleOneTick_103 rfl (lv_at hl 1 rfl) ?_
                  refine lv_iconst (v := 1) hx hb dX1_idleOneTick_104 (by decide) ?_
                  refine m_callv (As := [.ref (ad k1), .int 1]) (rest := []) ⟨hx, hb, hml, hown, hts⟩ (c_X1_turn l D cO h ad md n o ha ((C_idle_it n o S (C_parentsOfThoseOn n o S) k1).1, up2 ((C_idle_it n o S (C_parentsOfThoseOn n o S) k1).2.1) 10 k1 (((C_idle_it n o S (C_parentsOfThoseOn n o S) k1).2.1 10 k1) + 1), (C_idle_it n o S (C_parentsOfThoseOn n o S) k1).2.2) hok k1 (by omega) 1) (cwV 2 hts gX1_idleOneTick_X1_turn rfl rfl rfl (by decide +kernel) ⟨Nat.le_of_ble_eq_true rfl, Nat.le_of_ble_eq_true rfl⟩) hK hP hS (fun q h => wA_up hS.1 q h) (va_recv hK hP (ci := 2) (q0 := 0) rfl rfl) rfl hl.1 rfl (Nat.le_of_ble_eq_true rfl) dX1_idleOneTick_105 ⟨Nat.zero_le _, Nat.zero_le _⟩ (fun H locs hP hS _ => ?_)
                  have hok : cOk n o (C_turn n o ((C_idle_it n o S (C_parentsOfThoseOn n o S) k1).1, up2 ((C_idle_it n o S (C_parentsOfThoseOn n o S) k1).2.1) 10 k1 (((C_idle_it n o S (C_parentsOfThoseOn n o S) k1).2.1 10 k1) + 1), (C_idle_it n o S (C_parentsOfThoseOn n o S) k1).2.2) k1 1) := (C_turn_ok n o ((C_idle_it n o S (C_parentsOfThoseOn n o S) k1).1, up2 ((C_idle_it n o S (C_parentsOfThoseOn n o S) k1).2.1) 10 k1 (((C_idle_it n o S (C_parentsOfThoseOn n o S) k1).2.1 10 k1) + 1), (C_idle_it n o S (C_parentsOfThoseOn n o S) k1).2.2) k1 1 hok)
                  refine lv_iinc (v := nI (k1 + 1)) (lv' := [(2, .int (nI (k1 + 1))), (4, .int 1), (3, .ref (ad k1)), (0, .ref (h 0)), (1, .int (C_parentsOfThoseOn n o S))]) hx hb dX1_idleOneTick_108 hl (k := 4) rfl (nI_1 _) (by decide) rfl (fun ls hl => ?_)
                  refine lv_goto (tgt := 7) hx hb dX1_idleOneTick_111 (by decide) ?_
                  have hE : C_idle_it n o S (C_parentsOfThoseOn n o S) (k1 + 1) = (C_turn n o ((C_idle_it n o S (C_parentsOfThoseOn n o S) k1).1, up2 ((C_idle_it n o S (C_parentsOfThoseOn n o S) k1).2.1) 10 k1 (((C_idle_it n o S (C_parentsOfThoseOn n o S) k1).2.1 10 k1) + 1), (C_idle_it n o S (C_parentsOfThoseOn n o S) k1).2.2) k1 1) := by show C_idle_b n o (C_parentsOfThoseOn n o S) k1 (C_idle_it n o S (C_parentsOfThoseOn n o S) k1) = _; first | (simp only [C_idle_b, if_pos c3, if_pos c6, if_pos c9, if_neg c14, if_neg c15]; done) | (simp only [C_idle_b, if_pos c3, if_pos c6, if_pos c9, if_neg c14, if_neg c15]; rfl)
                  exact ih (k1 + 1) H locs ls (by omega) ⟨by omega, by rw [hE]; exact hP, hS, lv_sub hl [3, 4, 0] rfl⟩

def C_bringNearer (n : Nat) (o : Nat → Nat) (S : cSt) (x : Nat) : cSt :=
  if (S.1 4) - 1 ≤ 0 then (if S.1 2 = 1 then (if S.2.1 11 x ≤ 0 then (C_sinkFurther n o (C_turn n o (upd (S.1) 4 ((S.1 4) - 1), S.2.1, S.2.2) x 0))
      else (C_giveUp n o (upd (S.1) 4 ((S.1 4) - 1), up2 (S.2.1) 11 x ((S.2.1 11 x) - 1), S.2.2) 1 x))
    else (C_comeFurtherBack n o (C_turn n o (upd (S.1) 4 ((S.1 4) - 1), S.2.1, S.2.2) x 2)))
  else (upd (S.1) 4 ((S.1 4) - 1), S.2.1, S.2.2)
theorem C_bringNearer_ok (n : Nat) (o : Nat → Nat) (S : cSt) (x : Nat) (hok : cOk n o S) : cOk n o (C_bringNearer n o S x) := by
  unfold C_bringNearer
  split
  · split
    · split
      · exact (C_sinkFurther_ok n o (C_turn n o (upd (S.1) 4 ((S.1 4) - 1), S.2.1, S.2.2) x 0) (C_turn_ok n o (upd (S.1) 4 ((S.1 4) - 1), S.2.1, S.2.2) x 0 (show cOk n o (upd (S.1) 4 ((S.1 4) - 1), S.2.1, S.2.2) from hok)))
      · exact (C_giveUp_ok n o (upd (S.1) 4 ((S.1 4) - 1), up2 (S.2.1) 11 x ((S.2.1 11 x) - 1), S.2.2) 1 x (show cOk n o (upd (S.1) 4 ((S.1 4) - 1), up2 (S.2.1) 11 x ((S.2.1 11 x) - 1), S.2.2) from hok))
    · exact (C_comeFurtherBack_ok n o (C_turn n o (upd (S.1) 4 ((S.1 4) - 1), S.2.1, S.2.2) x 2) (C_turn_ok n o (upd (S.1) 4 ((S.1 4) - 1), S.2.1, S.2.2) x 2 (show cOk n o (upd (S.1) 4 ((S.1 4) - 1), S.2.1, S.2.2) from hok)))
  · exact (show cOk n o (upd (S.1) 4 ((S.1 4) - 1), S.2.1, S.2.2) from hok)
set_option maxHeartbeats 4000000 in
set_option maxRecDepth 100000 in
theorem c_X1_bringNearer (l : Launch) (D : va_G) (cO : ClassId) (h ad : Nat → Nat) (md : Nat → Int32) (n : Nat) (o : Nat → Nat) (ha : (cL h ad n).Nodup) (S : cSt) (hok : cOk n o S) (x : Nat) (lt_x : x < n) : mV l yX1_bringNearer wsX1_bringNearer (rmz 6 129) D (cT cO) (cL h ad n) [.ref (h 0), .ref (ad x)] (cW cO h ad md n o S) (cW cO h ad md n o (C_bringNearer n o S x)) := by
  intro sz
  refine Met.ofW (cc := cX1_bringNearer) (maxL := 2) (ret := none) (by decide) rfl ?_
  intro p e s m args below meth c s₁ B hml hv
  obtain ⟨rfl, hsz, hP, hK⟩ := hv
  have hx := B.exec
  have hb := B.bytes
  have hr := B.returns
  have hts := atoms_spec (ws := wsX1_bringNearer) B.pre
  have hin : ∀ w ∈ wsX10, w ∈ wsX1_bringNearer := fun w h => List.mem_cons_of_mem _ (List.mem_append_left _ (List.mem_append_left _ (List.mem_append_right _ h)))
  have hin0 : ∀ w ∈ wsX00, w ∈ wsX1_bringNearer := fun w h => List.mem_cons_of_mem _ (List.mem_append_left _ (List.mem_append_right _ h))
  have hown : s.vm.findClass RX1 = some m.cls := findClass_of_methodNamed B.named
  have hlocks := B.notSynchronized
  have hn12 : n ≤ 12 := hok.1
  subst hsz
  have hS : va_S (wA (cL h ad n) s.heap.size) s.heap s.heap [] := va_S.rf
  have hl := lv_entry ([.ref (h 0), .ref (ad x)]) (n := 2) (Nat.le_of_ble_eq_true rfl)
  rw [lg_entry_eq]
  generalize (lg_sl ([.ref (h 0), .ref (ad x)]) ++ List.replicate (2 - (lg_sl ([.ref (h 0), .ref (ad x)])).length) Slot.unset).toArray = ls at hl ⊢
  have hl : lv_has ls 2 [(0, .ref (h 0)), (1, .ref (ad x))] := hl
  refine lv_aload_n hx hb dX1_bringNearer_0 rfl (lv_at hl 0 rfl) ?_
  refine lv_dup hx hb dX1_bringNearer_1 rfl ?_
  refine c_get (S := S) (v := .int (S.1 4)) hx hb hts hin hown hK hP 4 (by decide) (by decide +kernel) rfl rfl dX1_bringNearer_2 ?_
  refine lv_iconst (v := 1) hx hb dX1_bringNearer_5 (by decide) ?_
  refine lv_isub hx hb dX1_bringNearer_6 ?_
  refine c_put ha hx hb hts hin hown hK hP hS 4 (by decide) (by decide +kernel) ⟨rfl, rfl, rfl⟩ dX1_bringNearer_7 (fun H locs hP hS => ?_)
  have hP : va_P D vwCl (cW cO h ad md n o (upd (S.1) 4 ((S.1 4) - 1), S.2.1, S.2.2)) H := hP
  refine lv_aload_n hx hb dX1_bringNearer_10 rfl (lv_at hl 0 rfl) ?_
  refine c_get (S := (upd (S.1) 4 ((S.1 4) - 1), S.2.1, S.2.2)) (v := .int ((S.1 4) - 1)) hx hb hts hin hown hK hP 4 (by decide) (by decide +kernel) rfl rfl dX1_bringNearer_11 ?_
  refine lv_if_le (tgt := 18) hx hb dX1_bringNearer_14 (by decide) (fun c1 => ?_) (fun c1 => ?_)
  · refine lv_aload_n hx hb dX1_bringNearer_18 rfl (lv_at hl 0 rfl) ?_
    refine c_get (S := (upd (S.1) 4 ((S.1 4) - 1), S.2.1, S.2.2)) (v := .int (S.1 2)) hx hb hts hin hown hK hP 2 (by decide) (by decide +kernel) rfl rfl dX1_bringNearer_19 ?_
    refine lv_iconst (v := 1) hx hb dX1_bringNearer_22 (by decide) ?_
    refine lv_icmp_eq (tgt := 39) hx hb dX1_bringNearer_23 (by decide) (fun c2 => ?_) (fun c2 => ?_)
    · refine lv_aload_n hx hb dX1_bringNearer_39 rfl (lv_at hl 1 rfl) ?_
      refine c_dget (S := (upd (S.1) 4 ((S.1 4) - 1), S.2.1, S.2.2)) (v := .int (S.2.1 11 x)) (i := x) hx hb hts hin0 hown hK hP (by omega) 11 (by decide) (by decide +kernel) rfl rfl dX1_bringNearer_40 ?_
      refine lv_if_le (tgt := 65) hx hb dX1_bringNearer_43 (by decide) (fun c3 => ?_) (fun c3 => ?_)
      · refine lv_aload_n hx hb dX1_bringNearer_65 rfl (lv_at hl 0 rfl) ?_
        refine lv_aload_n hx hb dX1_bringNearer_66 rfl (lv_at hl 1 rfl) ?_
        refine lv_iconst (v := 0) hx hb dX1_bringNearer_67 (by decide) ?_
        refine m_callv (As := [.ref (ad x), .int 0]) (rest := []) ⟨hx, hb, hml, hown, hts⟩ (c_X1_turn l D cO h ad md n o ha (upd (S.1) 4 ((S.1 4) - 1), S.2.1, S.2.2) hok x (by omega) 0) (cwV 2 hts gX1_bringNearer_X1_turn rfl rfl rfl (by decide +kernel) ⟨Nat.le_of_ble_eq_true rfl, Nat.le_of_ble_eq_true rfl⟩) hK hP hS (fun q h => wA_up hS.1 q h) (va_recv hK hP (ci := 2) (q0 := 0) rfl rfl) rfl hl.1 rfl (Nat.le_of_ble_eq_true rfl) dX1_bringNearer_68 ⟨Nat.zero_le _, Nat.zero_le _⟩ (fun H locs hP hS _ => ?_)
        have hok : cOk n o (C_turn n o (upd (S.1) 4 ((S.1 4) - 1), S.2.1, S.2.2) x 0) := (C_turn_ok n o (upd (S.1) 4 ((S.1 4) - 1), S.2.1, S.2.2) x 0 hok)
        refine lv_aload_n hx hb dX1_bringNearer_71 rfl (lv_at hl 0 rfl) ?_
        refine m_callv (As := []) (rest := []) ⟨hx, hb, hml, hown, hts⟩ (c_X1_sinkFurther l D cO h ad md n o ha (C_turn n o (upd (S.1) 4 ((S.1 4) - 1), S.2.1, S.2.2) x 0) hok ) (cwV 0 hts gX1_bringNearer_X1_sinkFurther rfl rfl rfl (by decide +kernel) ⟨Nat.le_of_ble_eq_true rfl, Nat.le_of_ble_eq_true rfl⟩) hK hP hS (fun q h => wA_up hS.1 q h) (va_recv hK hP (ci := 2) (q0 := 0) rfl rfl) rfl hl.1 rfl (Nat.le_of_ble_eq_true rfl) dX1_bringNearer_72 ⟨Nat.zero_le _, Nat.zero_le _⟩ (fun H locs hP hS _ => ?_)
        have hok : cOk n o (C_sinkFurther n o (C_turn n o (upd (S.1) 4 ((S.1 4) - 1), S.2.1, S.2.2) x 0)) := (C_sinkFurther_ok n o (C_turn n o (upd (S.1) 4 ((S.1 4) - 1), S.2.1, S.2.2) x 0) hok)
        have hE : C_bringNearer n o S x = (C_sinkFurther n o (C_turn n o (upd (S.1) 4 ((S.1 4) - 1), S.2.1, S.2.2) x 0)) := by first | (simp only [C_bringNearer, if_pos c1, if_pos c2, if_pos c3]; done) | (simp only [C_bringNearer, if_pos c1, if_pos c2, if_pos c3]; rfl)
        exact W.vret hx hb hr (fun tt ht hW => ⟨⟨(), rfl, trivial, by rw [ht, hE]; exact hP, va_K.moved hW.alike hK⟩, hS.F ht⟩) hS.2.2 dX1_bringNearer_75
      · refine lv_aload_n hx hb dX1_bringNearer_46 rfl (lv_at hl 1 rfl) ?_
        refine lv_dup hx hb dX1_bringNearer_47 rfl ?_
        refine c_dget (S := (upd (S.1) 4 ((S.1 4) - 1), S.2.1, S.2.2)) (v := .int (S.2.1 11 x)) (i := x) hx hb hts hin0 hown hK hP (by omega) 11 (by decide) (by decide +kernel) rfl rfl dX1_bringNearer_48 ?_
        refine lv_iconst (v := 1) hx hb dX1_bringNearer_51 (by decide) ?_
        refine lv_isub hx hb dX1_bringNearer_52 ?_
        refine c_dput ha hx hb hts hin0 hown hK hP hS (i := x) (by omega) 11 (by decide) (by decide +kernel) ⟨rfl, rfl⟩ rfl rfl dX1_bringNearer_53 (fun H locs hP hS => ?_)
        have hP : va_P D vwCl (cW cO h ad md n o (upd (S.1) 4 ((S.1 4) - 1), up2 (S.2.1) 11 x ((S.2.1 11 x) - 1), S.2.2)) H := hP
        refine lv_aload_n hx hb dX1_bringNearer_56 rfl (lv_at hl 0 rfl) ?_
        refine lv_iconst (v := 1) hx hb dX1_bringNearer_57 (by decide) ?_
        refine lv_aload_n hx hb dX1_bringNearer_58 rfl (lv_at hl 1 rfl) ?_
        refine m_callv (As := [.int 1, .ref (ad x)]) (rest := []) ⟨hx, hb, hml, hown, hts⟩ (c_X1_giveUp l D cO h ad md n o ha (upd (S.1) 4 ((S.1 4) - 1), up2 (S.2.1) 11 x ((S.2.1 11 x) - 1), S.2.2) hok 1 x (by omega)) (cwV 2 hts gX1_bringNearer_X1_giveUp rfl rfl rfl (by decide +kernel) ⟨Nat.le_of_ble_eq_true rfl, Nat.le_of_ble_eq_true rfl⟩) hK hP hS (fun q h => wA_up hS.1 q h) (va_recv hK hP (ci := 2) (q0 := 0) rfl rfl) rfl hl.1 rfl (Nat.le_of_ble_eq_true rfl) dX1_bringNearer_59 ⟨Nat.zero_le _, Nat.zero_le _⟩ (fun H locs hP hS _ => ?_)
        have hok : cOk n o (C_giveUp n o (upd (S.1) 4 ((S.1 4) - 1), up2 (S.2.1) 11 x ((S.2.1 11 x) - 1), S.2.2) 1 x) := (C_giveUp_ok n o (upd (S.1) 4 ((S.1 4) - 1), up2 (S.2.1) 11 x ((S.2.1 11 x) - 1), S.2.2) 1 x hok)
        refine lv_goto (tgt := 75) hx hb dX1_bringNearer_62 (by decide) ?_
        have hE : C_bringNearer n o S x = (C_giveUp n o (upd (S.1) 4 ((S.1 4) - 1), up2 (S.2.1) 11 x ((S.2.1 11 x) - 1), S.2.2) 1 x) := by first | (simp only [C_bringNearer, if_pos c1, if_pos c2, if_neg c3]; done) | (simp only [C_bringNearer, if_pos c1, if_pos c2, if_neg c3]; rfl)
        exact W.vret hx hb hr (fun tt ht hW => ⟨⟨(), rfl, trivial, by rw [ht, hE]; exact hP, va_K.moved hW.alike hK⟩, hS.F ht⟩) hS.2.2 dX1_bringNearer_75
    · refine lv_aload_n hx hb dX1_bringNearer_26 rfl (lv_at hl 0 rfl) ?_
      refine lv_aload_n hx hb dX1_bringNearer_27 rfl (lv_at hl 1 rfl) ?_
      refine lv_iconst (v := 2) hx hb dX1_bringNearer_28 (by decide) ?_
      refine m_callv (As := [.ref (ad x), .int 2]) (rest := []) ⟨hx, hb, hml, hown, hts⟩ (c_X1_turn l D cO h ad md n o ha (upd (S.1) 4 ((S.1 4) - 1), S.2.1, S.2.2) hok x (by omega) 2) (cwV 2 hts gX1_bringNearer_X1_turn rfl rfl rfl (by decide +kernel) ⟨Nat.le_of_ble_eq_true rfl, Nat.le_of_ble_eq_true rfl⟩) hK hP hS (fun q h => wA_up hS.1 q h) (va_recv hK hP (ci := 2) (q0 := 0) rfl rfl) rfl hl.1 rfl (Nat.le_of_ble_eq_true rfl) dX1_bringNearer_29 ⟨Nat.zero_le _, Nat.zero_le _⟩ (fun H locs hP hS _ => ?_)
      have hok : cOk n o (C_turn n o (upd (S.1) 4 ((S.1 4) - 1), S.2.1, S.2.2) x 2) := (C_turn_ok n o (upd (S.1) 4 ((S.1 4) - 1), S.2.1, S.2.2) x 2 hok)
      refine lv_aload_n hx hb dX1_bringNearer_32 rfl (lv_at hl 0 rfl) ?_
      refine m_callv (As := []) (rest := []) ⟨hx, hb, hml, hown, hts⟩ (c_X1_comeFurtherBack l D cO h ad md n o ha (C_turn n o (upd (S.1) 4 ((S.1 4) - 1), S.2.1, S.2.2) x 2) hok ) (cwV 0 hts gX1_bringNearer_X1_comeFurtherBack rfl rfl rfl (by decide +kernel) ⟨Nat.le_of_ble_eq_true rfl, Nat.le_of_ble_eq_true rfl⟩) hK hP hS (fun q h => wA_up hS.1 q h) (va_recv hK hP (ci := 2) (q0 := 0) rfl rfl) rfl hl.1 rfl (Nat.le_of_ble_eq_true rfl) dX1_bringNearer_33 ⟨Nat.zero_le _, Nat.zero_le _⟩ (fun H locs hP hS _ => ?_)
      have hok : cOk n o (C_comeFurtherBack n o (C_turn n o (upd (S.1) 4 ((S.1 4) - 1), S.2.1, S.2.2) x 2)) := (C_comeFurtherBack_ok n o (C_turn n o (upd (S.1) 4 ((S.1 4) - 1), S.2.1, S.2.2) x 2) hok)
      refine lv_goto (tgt := 75) hx hb dX1_bringNearer_36 (by decide) ?_
      have hE : C_bringNearer n o S x = (C_comeFurtherBack n o (C_turn n o (upd (S.1) 4 ((S.1 4) - 1), S.2.1, S.2.2) x 2)) := by first | (simp only [C_bringNearer, if_pos c1, if_neg c2]; done) | (simp only [C_bringNearer, if_pos c1, if_neg c2]; rfl)
      exact W.vret hx hb hr (fun tt ht hW => ⟨⟨(), rfl, trivial, by rw [ht, hE]; exact hP, va_K.moved hW.alike hK⟩, hS.F ht⟩) hS.2.2 dX1_bringNearer_75
  · have hE : C_bringNearer n o S x = (upd (S.1) 4 ((S.1 4) - 1), S.2.1, S.2.2) := by first | (simp only [C_bringNearer, if_neg c1]; done) | (simp only [C_bringNearer, if_neg c1]; rfl)
    exact W.vret hx hb hr (fun tt ht hW => ⟨⟨(), rfl, trivial, by rw [ht, hE]; exact hP, va_K.moved hW.alike hK⟩, hS.F ht⟩) hS.2.2 dX1_bringNearer_17
