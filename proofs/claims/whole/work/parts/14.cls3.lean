def C_passOneTick (n : Nat) (o : Nat → Nat) (S : cSt) : cSt :=
  if (C_watchBites n o (upd (S.1) 5 ((S.1 5) + 1), S.2.1, S.2.2)).1 = 0 then (if (C_watchBites n o (upd (S.1) 5 ((S.1 5) + 1), S.2.1, S.2.2)).2.1 2 = 0 then (C_idleOneTick n o ((C_watchBites n o (upd (S.1) 5 ((S.1 5) + 1), S.2.1, S.2.2)).2))
    else if (C_watchBites n o (upd (S.1) 5 ((S.1 5) + 1), S.2.1, S.2.2)).2.2.2 = none then (C_watchBites n o (upd (S.1) 5 ((S.1 5) + 1), S.2.1, S.2.2)).2
    else (C_bringNearer n o ((C_watchBites n o (upd (S.1) 5 ((S.1 5) + 1), S.2.1, S.2.2)).2) ((C_watchBites n o (upd (S.1) 5 ((S.1 5) + 1), S.2.1, S.2.2)).2.2.2.getD 0)))
  else (C_resetAll n o ((C_watchBites n o (upd (S.1) 5 ((S.1 5) + 1), S.2.1, S.2.2)).2))
theorem C_passOneTick_ok (n : Nat) (o : Nat → Nat) (S : cSt) (hok : cOk n o S) : cOk n o (C_passOneTick n o S) := by
  unfold C_passOneTick
  split
  · split
    · exact (C_idleOneTick_ok n o ((C_watchBites n o (upd (S.1) 5 ((S.1 5) + 1), S.2.1, S.2.2)).2) (C_watchBites_ok n o (upd (S.1) 5 ((S.1 5) + 1), S.2.1, S.2.2) (show cOk n o (upd (S.1) 5 ((S.1 5) + 1), S.2.1, S.2.2) from hok)))
    · split
      · exact (C_watchBites_ok n o (upd (S.1) 5 ((S.1 5) + 1), S.2.1, S.2.2) (show cOk n o (upd (S.1) 5 ((S.1 5) + 1), S.2.1, S.2.2) from hok))
      · exact (C_bringNearer_ok n o ((C_watchBites n o (upd (S.1) 5 ((S.1 5) + 1), S.2.1, S.2.2)).2) ((C_watchBites n o (upd (S.1) 5 ((S.1 5) + 1), S.2.1, S.2.2)).2.2.2.getD 0) (C_watchBites_ok n o (upd (S.1) 5 ((S.1 5) + 1), S.2.1, S.2.2) (show cOk n o (upd (S.1) 5 ((S.1 5) + 1), S.2.1, S.2.2) from hok)))
  · exact (C_resetAll_ok n o ((C_watchBites n o (upd (S.1) 5 ((S.1 5) + 1), S.2.1, S.2.2)).2) (C_watchBites_ok n o (upd (S.1) 5 ((S.1 5) + 1), S.2.1, S.2.2) (show cOk n o (upd (S.1) 5 ((S.1 5) + 1), S.2.1, S.2.2) from hok)))
set_option maxHeartbeats 4000000 in
set_option maxRecDepth 100000 in
theorem c_X1_passOneTick (l : Launch) (D : va_G) (cO : ClassId) (h ad : Nat → Nat) (md : Nat → Int32) (n : Nat) (o : Nat → Nat) (ha : (cL h ad n).Nodup) (S : cSt) (hok : cOk n o S) : mV l yX1_passOneTick wsX1_passOneTick (rmz 7 150) D (cT cO) (cL h ad n) [.ref (h 0)] (cW cO h ad md n o S) (cW cO h ad md n o (C_passOneTick n o S)) := by
  intro sz
  refine Met.ofW (cc := cX1_passOneTick) (maxL := 1) (ret := none) (by decide) rfl ?_
  intro p e s m args below meth c s₁ B hml hv
  obtain ⟨rfl, hsz, hP, hK⟩ := hv
  have hx := B.exec
  have hb := B.bytes
  have hr := B.returns
  have hts := atoms_spec (ws := wsX1_passOneTick) B.pre
  have hin : ∀ w ∈ wsX10, w ∈ wsX1_passOneTick := fun w h => List.mem_cons_of_mem _ (List.mem_append_left _ (List.mem_append_left _ (List.mem_append_right _ h)))
  have hin0 : ∀ w ∈ wsX00, w ∈ wsX1_passOneTick := fun w h => List.mem_cons_of_mem _ (List.mem_append_left _ (List.mem_append_right _ h))
  have hown : s.vm.findClass RX1 = some m.cls := findClass_of_methodNamed B.named
  have hlocks := B.notSynchronized
  have hn12 : n ≤ 12 := hok.1
  subst hsz
  have hS : va_S (wA (cL h ad n) s.heap.size) s.heap s.heap [] := va_S.rf
  have hl := lv_entry ([.ref (h 0)]) (n := 1) (Nat.le_of_ble_eq_true rfl)
  rw [lg_entry_eq]
  generalize (lg_sl ([.ref (h 0)]) ++ List.replicate (1 - (lg_sl ([.ref (h 0)])).length) Slot.unset).toArray = ls at hl ⊢
  have hl : lv_has ls 1 [(0, .ref (h 0))] := hl
  refine lv_aload_n hx hb dX1_passOneTick_0 rfl (lv_at hl 0 rfl) ?_
  refine lv_dup hx hb dX1_passOneTick_1 rfl ?_
  refine c_get (S := S) (v := .int (S.1 5)) hx hb hts hin hown hK hP 5 (by decide) (by decide +kernel) rfl rfl dX1_passOneTick_2 ?_
  refine lv_iconst (v := 1) hx hb dX1_passOneTick_5 (by decide) ?_
  refine lv_iadd hx hb dX1_passOneTick_6 ?_
  refine c_put ha hx hb hts hin hown hK hP hS 5 (by decide) (by decide +kernel) ⟨rfl, rfl, rfl⟩ dX1_passOneTick_7 (fun H locs hP hS => ?_)
  have hP : va_P D vwCl (cW cO h ad md n o (upd (S.1) 5 ((S.1 5) + 1), S.2.1, S.2.2)) H := hP
  refine lv_aload_n hx hb dX1_passOneTick_10 rfl (lv_at hl 0 rfl) ?_
  refine m_calli (As := []) (rest := []) ⟨hx, hb, hml, hown, hts⟩ (c_X1_watchBites l D cO h ad md n o ha (upd (S.1) 5 ((S.1 5) + 1), S.2.1, S.2.2) hok ) (cwV 0 hts gX1_passOneTick_X1_watchBites rfl rfl rfl (by decide +kernel) ⟨Nat.le_of_ble_eq_true rfl, Nat.le_of_ble_eq_true rfl⟩) hK hP hS (fun q h => wA_up hS.1 q h) (va_recv hK hP (ci := 2) (q0 := 0) rfl rfl) rfl hl.1 rfl (Nat.le_of_ble_eq_true rfl) dX1_passOneTick_11 ⟨Nat.zero_le _, Nat.zero_le _⟩ (fun H locs hP hS _ => ?_)
  have hok : cOk n o (C_watchBites n o (upd (S.1) 5 ((S.1 5) + 1), S.2.1, S.2.2)).2 := (C_watchBites_ok n o (upd (S.1) 5 ((S.1 5) + 1), S.2.1, S.2.2) hok)
  refine lv_if_eq (tgt := 24) hx hb dX1_passOneTick_14 (by decide) (fun c1 => ?_) (fun c1 => ?_)
  · refine lv_aload_n hx hb dX1_passOneTick_24 rfl (lv_at hl 0 rfl) ?_
    refine c_get (S := (C_watchBites n o (upd (S.1) 5 ((S.1 5) + 1), S.2.1, S.2.2)).2) (v := .int ((C_watchBites n o (upd (S.1) 5 ((S.1 5) + 1), S.2.1, S.2.2)).2.1 2)) hx hb hts hin hown hK hP 2 (by decide) (by decide +kernel) rfl rfl dX1_passOneTick_25 ?_
    refine lv_if_ne (tgt := 38) hx hb dX1_passOneTick_28 (by decide) (fun c2 => ?_) (fun c2 => ?_)
    · refine lv_aload_n hx hb dX1_passOneTick_38 rfl (lv_at hl 0 rfl) ?_
      rcases hq4 : (C_watchBites n o (upd (S.1) 5 ((S.1 5) + 1), S.2.1, S.2.2)).2.2.2 with _ | u3
      · refine c_get (S := (C_watchBites n o (upd (S.1) 5 ((S.1 5) + 1), S.2.1, S.2.2)).2) (v := .null) hx hb hts hin hown hK hP 3 (by decide) (by decide +kernel) rfl (congrArg (fun z => some (va_rf (Option.map ad z))) hq4) dX1_passOneTick_39 ?_
        refine lv_ifnullN (tgt := 53) hx hb dX1_passOneTick_42 (by decide) ?_
        have hE : C_passOneTick n o S = (C_watchBites n o (upd (S.1) 5 ((S.1 5) + 1), S.2.1, S.2.2)).2 := by first | (simp only [C_passOneTick, if_pos c1, if_neg c2, if_pos hq4]; done) | (simp only [C_passOneTick, if_pos c1, if_neg c2, if_pos hq4]; rfl)
        exact W.vret hx hb hr (fun tt ht hW => ⟨⟨(), rfl, trivial, by rw [ht, hE]; exact hP, va_K.moved hW.alike hK⟩, hS.F ht⟩) hS.2.2 dX1_passOneTick_53
      · have hq4n : u3 < n := hok.2.2.2 u3 hq4
        have hq4m : ¬ (some u3 : Option Nat) = none := fun z => by cases z
        refine c_get (S := (C_watchBites n o (upd (S.1) 5 ((S.1 5) + 1), S.2.1, S.2.2)).2) (v := .ref (ad u3)) hx hb hts hin hown hK hP 3 (by decide) (by decide +kernel) rfl (congrArg (fun z => some (va_rf (Option.map ad z))) hq4) dX1_passOneTick_39 ?_
        refine lv_ifnull hx hb dX1_passOneTick_42 ?_
        refine lv_aload_n hx hb dX1_passOneTick_45 rfl (lv_at hl 0 rfl) ?_
        refine lv_aload_n hx hb dX1_passOneTick_46 rfl (lv_at hl 0 rfl) ?_
        refine c_get (S := (C_watchBites n o (upd (S.1) 5 ((S.1 5) + 1), S.2.1, S.2.2)).2) (v := .ref (ad u3)) hx hb hts hin hown hK hP 3 (by decide) (by decide +kernel) rfl (congrArg (fun z => some (va_rf (Option.map ad z))) hq4) dX1_passOneTick_47 ?_
        refine m_callv (As := [.ref (ad u3)]) (rest := []) ⟨hx, hb, hml, hown, hts⟩ (c_X1_bringNearer l D cO h ad md n o ha ((C_watchBites n o (upd (S.1) 5 ((S.1 5) + 1), S.2.1, S.2.2)).2) hok u3 (by omega)) (cwV 1 hts gX1_passOneTick_X1_bringNearer rfl rfl rfl (by decide +kernel) ⟨Nat.le_of_ble_eq_true rfl, Nat.le_of_ble_eq_true rfl⟩) hK hP hS (fun q h => wA_up hS.1 q h) (va_recv hK hP (ci := 2) (q0 := 0) rfl rfl) rfl hl.1 rfl (Nat.le_of_ble_eq_true rfl) dX1_passOneTick_50 ⟨Nat.zero_le _, Nat.zero_le _⟩ (fun H locs hP hS _ => ?_)
        have hok : cOk n o (C_bringNearer n o ((C_watchBites n o (upd (S.1) 5 ((S.1 5) + 1), S.2.1, S.2.2)).2) u3) := (C_bringNearer_ok n o ((C_watchBites n o (upd (S.1) 5 ((S.1 5) + 1), S.2.1, S.2.2)).2) u3 hok)
        have hE : C_passOneTick n o S = (C_bringNearer n o ((C_watchBites n o (upd (S.1) 5 ((S.1 5) + 1), S.2.1, S.2.2)).2) u3) := by first | (simp only [C_passOneTick, if_pos c1, if_neg c2, if_neg hq4m, hq4, Option.getD_some]; done) | (simp only [C_passOneTick, if_pos c1, if_neg c2, if_neg hq4m, hq4, Option.getD_some]; rfl)
        exact W.vret hx hb hr (fun tt ht hW => ⟨⟨(), rfl, trivial, by rw [ht, hE]; exact hP, va_K.moved hW.alike hK⟩, hS.F ht⟩) hS.2.2 dX1_passOneTick_53
    · refine lv_aload_n hx hb dX1_passOneTick_31 rfl (lv_at hl 0 rfl) ?_
      refine m_callv (As := []) (rest := []) ⟨hx, hb, hml, hown, hts⟩ (c_X1_idleOneTick l D cO h ad md n o ha ((C_watchBites n o (upd (S.1) 5 ((S.1 5) + 1), S.2.1, S.2.2)).2) hok ) (cwV 0 hts gX1_passOneTick_X1_idleOneTick rfl rfl rfl (by decide +kernel) ⟨Nat.le_of_ble_eq_true rfl, Nat.le_of_ble_eq_true rfl⟩) hK hP hS (fun q h => wA_up hS.1 q h) (va_recv hK hP (ci := 2) (q0 := 0) rfl rfl) rfl hl.1 rfl (Nat.le_of_ble_eq_true rfl) dX1_passOneTick_32 ⟨Nat.zero_le _, Nat.zero_le _⟩ (fun H locs hP hS _ => ?_)
      have hok : cOk n o (C_idleOneTick n o ((C_watchBites n o (upd (S.1) 5 ((S.1 5) + 1), S.2.1, S.2.2)).2)) := (C_idleOneTick_ok n o ((C_watchBites n o (upd (S.1) 5 ((S.1 5) + 1), S.2.1, S.2.2)).2) hok)
      refine lv_goto (tgt := 53) hx hb dX1_passOneTick_35 (by decide) ?_
      have hE : C_passOneTick n o S = (C_idleOneTick n o ((C_watchBites n o (upd (S.1) 5 ((S.1 5) + 1), S.2.1, S.2.2)).2)) := by first | (simp only [C_passOneTick, if_pos c1, if_pos c2]; done) | (simp only [C_passOneTick, if_pos c1, if_pos c2]; rfl)
      exact W.vret hx hb hr (fun tt ht hW => ⟨⟨(), rfl, trivial, by rw [ht, hE]; exact hP, va_K.moved hW.alike hK⟩, hS.F ht⟩) hS.2.2 dX1_passOneTick_53
  · refine lv_aload_n hx hb dX1_passOneTick_17 rfl (lv_at hl 0 rfl) ?_
    refine m_callv (As := []) (rest := []) ⟨hx, hb, hml, hown, hts⟩ (c_X1_resetAll l D cO h ad md n o ha ((C_watchBites n o (upd (S.1) 5 ((S.1 5) + 1), S.2.1, S.2.2)).2) hok ) (cwV 0 hts gX1_passOneTick_X1_resetAll rfl rfl rfl (by decide +kernel) ⟨Nat.le_of_ble_eq_true rfl, Nat.le_of_ble_eq_true rfl⟩) hK hP hS (fun q h => wA_up hS.1 q h) (va_recv hK hP (ci := 2) (q0 := 0) rfl rfl) rfl hl.1 rfl (Nat.le_of_ble_eq_true rfl) dX1_passOneTick_18 ⟨Nat.zero_le _, Nat.zero_le _⟩ (fun H locs hP hS _ => ?_)
    have hok : cOk n o (C_resetAll n o ((C_watchBites n o (upd (S.1) 5 ((S.1 5) + 1), S.2.1, S.2.2)).2)) := (C_resetAll_ok n o ((C_watchBites n o (upd (S.1) 5 ((S.1 5) + 1), S.2.1, S.2.2)).2) hok)
    refine lv_goto (tgt := 53) hx hb dX1_passOneTick_21 (by decide) ?_
    have hE : C_passOneTick n o S = (C_resetAll n o ((C_watchBites n o (upd (S.1) 5 ((S.1 5) + 1), S.2.1, S.2.2)).2)) := by first | (simp only [C_passOneTick, if_neg c1]; done) | (simp only [C_passOneTick, if_neg c1]; rfl)
    exact W.vret hx hb hr (fun tt ht hW => ⟨⟨(), rfl, trivial, by rw [ht, hE]; exact hP, va_K.moved hW.alike hK⟩, hS.F ht⟩) hS.2.2 dX1_passOneTick_53

def C_use (n : Nat) (o : Nat → Nat) (S : cSt) (d : Int32) : Int32 × cSt :=
  if inR n d = true then (if S.1 2 = 0 then (((C_rouse n o (S.1, up2 (S.2.1) 9 (d.toNatClampNeg) ((S.2.1 9 (d.toNatClampNeg)) + 1), S.2.2) ((S.2.1 2 (d.toNatClampNeg)) ||| (C_bit n o (S.1, up2 (S.2.1) 9 (d.toNatClampNeg) ((S.2.1 9 (d.toNatClampNeg)) + 1), S.2.2) (d.toNatClampNeg)))).1 13) - (S.1 13), (C_rouse n o (S.1, up2 (S.2.1) 9 (d.toNatClampNeg) ((S.2.1 9 (d.toNatClampNeg)) + 1), S.2.2) ((S.2.1 2 (d.toNatClampNeg)) ||| (C_bit n o (S.1, up2 (S.2.1) 9 (d.toNatClampNeg) ((S.2.1 9 (d.toNatClampNeg)) + 1), S.2.2) (d.toNatClampNeg)))))
    else ((-3), S))
  else ((-2), S)
theorem C_use_ok (n : Nat) (o : Nat → Nat) (S : cSt) (d : Int32) (hok : cOk n o S) : cOk n o (C_use n o S d).2 := by
  unfold C_use
  split
  · split
    · exact (C_rouse_ok n o (S.1, up2 (S.2.1) 9 (d.toNatClampNeg) ((S.2.1 9 (d.toNatClampNeg)) + 1), S.2.2) ((S.2.1 2 (d.toNatClampNeg)) ||| (C_bit n o (S.1, up2 (S.2.1) 9 (d.toNatClampNeg) ((S.2.1 9 (d.toNatClampNeg)) + 1), S.2.2) (d.toNatClampNeg))) (show cOk n o (S.1, up2 (S.2.1) 9 (d.toNatClampNeg) ((S.2.1 9 (d.toNatClampNeg)) + 1), S.2.2) from hok))
    · exact hok
  · exact hok
set_option maxHeartbeats 4000000 in
set_option maxRecDepth 100000 in
theorem c_X1_use (l : Launch) (D : va_G) (cO : ClassId) (h ad : Nat → Nat) (md : Nat → Int32) (n : Nat) (o : Nat → Nat) (ha : (cL h ad n).Nodup) (S : cSt) (hok : cOk n o S) (d : Int32) : mI l yX1_use wsX1_use (rmz 4 87) D (cT cO) (cL h ad n) [.ref (h 0), .int d] (cW cO h ad md n o S) (C_use n o S d).1 (cW cO h ad md n o (C_use n o S d).2) := by
  intro sz
  refine Met.ofW (cc := cX1_use) (maxL := 4) (ret := (some .int)) (by decide) rfl ?_
  intro p e s m args below meth c s₁ B hml hv
  obtain ⟨rfl, hsz, hP, hK⟩ := hv
  have hx := B.exec
  have hb := B.bytes
  have hr := B.returns
  have hts := atoms_spec (ws := wsX1_use) B.pre
  have hin : ∀ w ∈ wsX10, w ∈ wsX1_use := fun w h => List.mem_cons_of_mem _ (List.mem_append_left _ (List.mem_append_left _ (List.mem_append_right _ h)))
  have hin0 : ∀ w ∈ wsX00, w ∈ wsX1_use := fun w h => List.mem_cons_of_mem _ (List.mem_append_left _ (List.mem_append_right _ h))
  have hown : s.vm.findClass RX1 = some m.cls := findClass_of_methodNamed B.named
  have hlocks := B.notSynchronized
  have hn12 : n ≤ 12 := hok.1
  subst hsz
  have hS : va_S (wA (cL h ad n) s.heap.size) s.heap s.heap [] := va_S.rf
  have hl := lv_entry ([.ref (h 0), .int d]) (n := 4) (Nat.le_of_ble_eq_true rfl)
  rw [lg_entry_eq]
  generalize (lg_sl ([.ref (h 0), .int d]) ++ List.replicate (4 - (lg_sl ([.ref (h 0), .int d])).length) Slot.unset).toArray = ls at hl ⊢
  have hl : lv_has ls 4 [(0, .ref (h 0)), (1, .int d)] := hl
  refine lv_aload_n hx hb dX1_use_0 rfl (lv_at hl 0 rfl) ?_
  refine lv_iload_n hx hb dX1_use_1 rfl (lv_at hl 1 rfl) ?_
  refine m_callQ (As := [.int d]) (rest := []) ⟨hx, hb, hml, hown, hts⟩ (c_X1_find l D cO h ad md n o ha S hok d) (cwV 1 hts gX1_use_X1_find rfl rfl rfl (by decide +kernel) ⟨Nat.le_of_ble_eq_true rfl, Nat.le_of_ble_eq_true rfl⟩) hK hP (va_recv hK hP (ci := 2) (q0 := 0) rfl rfl) rfl hl.1 rfl (Nat.le_of_ble_eq_true rfl) dX1_use_2 ⟨Nat.zero_le _, Nat.zero_le _⟩ ?_
  by_cases hd : inR n d = true
  · obtain ⟨j, hj, rfl⟩ := inR_spec hn12 hd
    have hjc : (nI j).toNatClampNeg = j := nI_clamp (by omega)
    have hN : C_find n o S (nI j) = some j := by simp only [C_find, if_pos hd, hjc]
    rw [hN]
    refine W.eq (g2 := F0 m 5 ls (.ref (ad j) :: [])) rfl ?_
    refine lv_astore_n (lv' := [(2, .ref (ad j)), (0, .ref (h 0)), (1, .int (nI j))]) hx hb dX1_use_5 rfl hl (by decide) rfl (fun ls hl => ?_)
    refine lv_aload_n hx hb dX1_use_6 rfl (lv_at hl 0 rfl) ?_
    refine lv_ifnonnull (tgt := 13) hx hb dX1_use_7 (by decide) ?_
    refine lv_aload_n hx hb dX1_use_13 rfl (lv_at hl 1 rfl) ?_
    refine c_get (S := S) (v := .int (S.1 2)) hx hb hts hin hown hK hP 2 (by decide) (by decide +kernel) rfl rfl dX1_use_14 ?_
    refine lv_if_eq (tgt := 23) hx hb dX1_use_17 (by decide) (fun c1 => ?_) (fun c1 => ?_)
    · refine lv_aload_n hx hb dX1_use_23 rfl (lv_at hl 0 rfl) ?_
      refine lv_dup hx hb dX1_use_24 rfl ?_
      refine c_dget (S := S) (v := .int (S.2.1 9 j)) (i := j) hx hb hts hin0 hown hK hP (by omega) 9 (by decide) (by decide +kernel) rfl rfl dX1_use_25 ?_
      refine lv_iconst (v := 1) hx hb dX1_use_28 (by decide) ?_
      refine lv_iadd hx hb dX1_use_29 ?_
      refine c_dput ha hx hb hts hin0 hown hK hP hS (i := j) (by omega) 9 (by decide) (by decide +kernel) ⟨rfl, rfl⟩ rfl rfl dX1_use_30 (fun H locs hP hS => ?_)
      have hP : va_P D vwCl (cW cO h ad md n o (S.1, up2 (S.2.1) 9 j ((S.2.1 9 j) + 1), S.2.2)) H := hP
      refine lv_aload_n hx hb dX1_use_33 rfl (lv_at hl 1 rfl) ?_
      refine c_get (S := (S.1, up2 (S.2.1) 9 j ((S.2.1 9 j) + 1), S.2.2)) (v := .int (S.1 13)) hx hb hts hin hown hK hP 13 (by decide) (by decide +kernel) rfl rfl dX1_use_34 ?_
      refine lv_istore_n (lv' := [(3, .int (S.1 13)), (2, .ref (ad j)), (0, .ref (h 0)), (1, .int (nI j))]) hx hb dX1_use_37 rfl hl (by decide) rfl (fun ls hl => ?_)
      refine lv_aload_n hx hb dX1_use_38 rfl (lv_at hl 2 rfl) ?_
      refine lv_aload_n hx hb dX1_use_39 rfl (lv_at hl 1 rfl) ?_
      refine c_dget (S := (S.1, up2 (S.2.1) 9 j ((S.2.1 9 j) + 1), S.2.2)) (v := .int (S.2.1 2 j)) (i := j) hx hb hts hin0 hown hK hP (by omega) 2 (by decide) (by decide +kernel) rfl rfl dX1_use_40 ?_
      refine lv_aload_n hx hb dX1_use_43 rfl (lv_at hl 1 rfl) ?_
      refine m_callRS (As := [.ref (ad j)]) (rest := [.int (S.2.1 2 j), .ref (h 0)]) ⟨hx, hb, hml, hown, hts⟩ (c_X1_bit l D cO h ad md n o ha (S.1, up2 (S.2.1) 9 j ((S.2.1 9 j) + 1), S.2.2) hok j (by omega)) (va_cwS 1 hts gX1_use_X1_bit rfl rfl rfl (by decide +kernel) ⟨Nat.le_of_ble_eq_true rfl, Nat.le_of_ble_eq_true rfl⟩) hK hP rfl hl.1 rfl (Nat.le_of_ble_eq_true rfl) dX1_use_44 ⟨Nat.zero_le _, Nat.zero_le _⟩ ?_
      refine lv_ior hx hb dX1_use_47 ?_
      refine m_callv (As := [.int ((S.2.1 2 j) ||| (C_bit n o (S.1, up2 (S.2.1) 9 j ((S.2.1 9 j) + 1), S.2.2) j))]) (rest := []) ⟨hx, hb, hml, hown, hts⟩ (c_X1_rouse l D cO h ad md n o ha (S.1, up2 (S.2.1) 9 j ((S.2.1 9 j) + 1), S.2.2) hok ((S.2.1 2 j) ||| (C_bit n o (S.1, up2 (S.2.1) 9 j ((S.2.1 9 j) + 1), S.2.2) j))) (cwV 1 hts gX1_use_X1_rouse rfl rfl rfl (by decide +kernel) ⟨Nat.le_of_ble_eq_true rfl, Nat.le_of_ble_eq_true rfl⟩) hK hP hS (fun q h => wA_up hS.1 q h) (va_recv hK hP (ci := 2) (q0 := 0) rfl rfl) rfl hl.1 rfl (Nat.le_of_ble_eq_true rfl) dX1_use_48 ⟨Nat.zero_le _, Nat.zero_le _⟩ (fun H locs hP hS _ => ?_)
      have hok : cOk n o (C_rouse n o (S.1, up2 (S.2.1) 9 j ((S.2.1 9 j) + 1), S.2.2) ((S.2.1 2 j) ||| (C_bit n o (S.1, up2 (S.2.1) 9 j ((S.2.1 9 j) + 1), S.2.2) j))) := (C_rouse_ok n o (S.1, up2 (S.2.1) 9 j ((S.2.1 9 j) + 1), S.2.2) ((S.2.1 2 j) ||| (C_bit n o (S.1, up2 (S.2.1) 9 j ((S.2.1 9 j) + 1), S.2.2) j)) hok)
      refine lv_aload_n hx hb dX1_use_51 rfl (lv_at hl 2 rfl) ?_
      refine c_get (S := (C_rouse n o (S.1, up2 (S.2.1) 9 j ((S.2.1 9 j) + 1), S.2.2) ((S.2.1 2 j) ||| (C_bit n o (S.1, up2 (S.2.1) 9 j ((S.2.1 9 j) + 1), S.2.2) j)))) (v := .int ((C_rouse n o (S.1, up2 (S.2.1) 9 j ((S.2.1 9 j) + 1), S.2.2) ((S.2.1 2 j) ||| (C_bit n o (S.1, up2 (S.2.1) 9 j ((S.2.1 9 j) + 1), S.2.2) j))).1 13)) hx hb hts hin hown hK hP 13 (by decide) (by decide +kernel) rfl rfl dX1_use_52 ?_
      refine lv_iload_n hx hb dX1_use_55 rfl (lv_at hl 0 rfl) ?_
      refine lv_isub hx hb dX1_use_56 ?_
      have hE : C_use n o S (nI j) = (((C_rouse n o (S.1, up2 (S.2.1) 9 j ((S.2.1 9 j) + 1), S.2.2) ((S.2.1 2 j) ||| (C_bit n o (S.1, up2 (S.2.1) 9 j ((S.2.1 9 j) + 1), S.2.2) j))).1 13) - (S.1 13), (C_rouse n o (S.1, up2 (S.2.1) 9 j ((S.2.1 9 j) + 1), S.2.2) ((S.2.1 2 j) ||| (C_bit n o (S.1, up2 (S.2.1) 9 j ((S.2.1 9 j) + 1), S.2.2) j)))) := by first | (simp only [C_use, if_pos hd, if_pos c1, hjc]; done) | (simp only [C_use, if_pos hd, if_pos c1, hjc]; rfl)
      exact W.iret (v := ((C_rouse n o (S.1, up2 (S.2.1) 9 j ((S.2.1 9 j) + 1), S.2.2) ((S.2.1 2 j) ||| (C_bit n o (S.1, up2 (S.2.1) 9 j ((S.2.1 9 j) + 1), S.2.2) j))).1 13) - (S.1 13)) hx hb hr (fun tt ht hW => ⟨⟨((C_rouse n o (S.1, up2 (S.2.1) 9 j ((S.2.1 9 j) + 1), S.2.2) ((S.2.1 2 j) ||| (C_bit n o (S.1, up2 (S.2.1) 9 j ((S.2.1 9 j) + 1), S.2.2) j))).1 13) - (S.1 13), (), rfl, by rw [hE], by rw [ht, hE]; exact hP, va_K.moved hW.alike hK⟩, hS.F ht⟩) hS.2.2 dX1_use_57
    · refine lv_bipush (v := (-3)) hx hb dX1_use_20 (by decide) ?_
      have hE : C_use n o S (nI j) = ((-3), S) := by first | (simp only [C_use, if_pos hd, if_neg c1, hjc]; done) | (simp only [C_use, if_pos hd, if_neg c1, hjc]; rfl)
      exact W.iret (v := (-3)) hx hb hr (fun tt ht hW => ⟨⟨(-3), (), rfl, by rw [hE], by rw [ht, hE]; exact hP, va_K.moved hW.alike hK⟩, hS.F ht⟩) hS.2.2 dX1_use_22
  · have hN : C_find n o S d = none := by simp only [C_find, if_neg hd]
    rw [hN]
    refine W.eq (g2 := F0 m 5 ls (.null :: [])) rfl ?_
    refine lv_astore_nN (lv' := [(2, .null), (0, .ref (h 0)), (1, .int d)]) hx hb dX1_use_5 rfl hl (by decide) rfl (fun ls hl => ?_)
    refine lv_aload_nN hx hb dX1_use_6 rfl (lv_at hl 0 rfl) ?_
    refine lv_ifnonnullN hx hb dX1_use_7 ?_
    refine lv_bipush (v := (-2)) hx hb dX1_use_10 (by decide) ?_
    have hE : C_use n o S d = ((-2), S) := by first | (simp only [C_use, if_neg hd]; done) | (simp only [C_use, if_neg hd]; rfl)
    exact W.iret (v := (-2)) hx hb hr (fun tt ht hW => ⟨⟨(-2), (), rfl, by rw [hE], by rw [ht, hE]; exact hP, va_K.moved hW.alike hK⟩, hS.F ht⟩) hS.2.2 dX1_use_12

def C_release (n : Nat) (o : Nat → Nat) (S : cSt) (d : Int32) : Int32 × cSt :=
  if inR n d = true then (if S.1 2 = 0 then (if S.2.1 9 (d.toNatClampNeg) = 0 then ((-1), S)
      else ((S.2.1 9 (d.toNatClampNeg)) - 1, (S.1, up2 (S.2.1) 9 (d.toNatClampNeg) ((S.2.1 9 (d.toNatClampNeg)) - 1), S.2.2)))
    else ((-3), S))
  else ((-2), S)
theorem C_release_ok (n : Nat) (o : Nat → Nat) (S : cSt) (d : Int32) (hok : cOk n o S) : cOk n o (C_release n o S d).2 := by
  unfold C_release
  split
  · split
    · split
      · exact hok
      · exact (show cOk n o (S.1, up2 (S.2.1) 9 (d.toNatClampNeg) ((S.2.1 9 (d.toNatClampNeg)) - 1), S.2.2) from hok)
    · exact hok
  · exact hok
set_option maxHeartbeats 4000000 in
set_option maxRecDepth 100000 in
theorem c_X1_release (l : Launch) (D : va_G) (cO : ClassId) (h ad : Nat → Nat) (md : Nat → Int32) (n : Nat) (o : Nat → Nat) (ha : (cL h ad n).Nodup) (S : cSt) (hok : cOk n o S) (d : Int32) : mI l yX1_release wsX1_release (rmz 4 85) D (cT cO) (cL h ad n) [.ref (h 0), .int d] (cW cO h ad md n o S) (C_release n o S d).1 (cW cO h ad md n o (C_release n o S d).2) := by
  intro sz
  refine Met.ofW (cc := cX1_release) (maxL := 3) (ret := (some .int)) (by decide) rfl ?_
  intro p e s m args below meth c s₁ B hml hv
  obtain ⟨rfl, hsz, hP, hK⟩ := hv
  have hx := B.exec
  have hb := B.bytes
  have hr := B.returns
  have hts := atoms_spec (ws := wsX1_release) B.pre
  have hin : ∀ w ∈ wsX10, w ∈ wsX1_release := fun w h => List.mem_cons_of_mem _ (List.mem_append_left _ (List.mem_append_left _ (List.mem_append_right _ h)))
  have hin0 : ∀ w ∈ wsX00, w ∈ wsX1_release := fun w h => List.mem_cons_of_mem _ (List.mem_append_left _ (List.mem_append_right _ h))
  have hown : s.vm.findClass RX1 = some m.cls := findClass_of_methodNamed B.named
  have hlocks := B.notSynchronized
  have hn12 : n ≤ 12 := hok.1
  subst hsz
  have hS : va_S (wA (cL h ad n) s.heap.size) s.heap s.heap [] := va_S.rf
  have hl := lv_entry ([.ref (h 0), .int d]) (n := 3) (Nat.le_of_ble_eq_true rfl)
  rw [lg_entry_eq]
  generalize (lg_sl ([.ref (h 0), .int d]) ++ List.replicate (3 - (lg_sl ([.ref (h 0), .int d])).length) Slot.unset).toArray = ls at hl ⊢
  have hl : lv_has ls 3 [(0, .ref (h 0)), (1, .int d)] := hl
  refine lv_aload_n hx hb dX1_release_0 rfl (lv_at hl 0 rfl) ?_
  refine lv_iload_n hx hb dX1_release_1 rfl (lv_at hl 1 rfl) ?_
  refine m_callQ (As := [.int d]) (rest := []) ⟨hx, hb, hml, hown, hts⟩ (c_X1_find l D cO h ad md n o ha S hok d) (cwV 1 hts gX1_release_X1_find rfl rfl rfl (by decide +kernel) ⟨Nat.le_of_ble_eq_true rfl, Nat.le_of_ble_eq_true rfl⟩) hK hP (va_recv hK hP (ci := 2) (q0 := 0) rfl rfl) rfl hl.1 rfl (Nat.le_of_ble_eq_true rfl) dX1_release_2 ⟨Nat.zero_le _, Nat.zero_le _⟩ ?_
  by_cases hd : inR n d = true
  · obtain ⟨j, hj, rfl⟩ := inR_spec hn12 hd
    have hjc : (nI j).toNatClampNeg = j := nI_clamp (by omega)
    have hN : C_find n o S (nI j) = some j := by simp only [C_find, if_pos hd, hjc]
    rw [hN]
    refine W.eq (g2 := F0 m 5 ls (.ref (ad j) :: [])) rfl ?_
    refine lv_astore_n (lv' := [(2, .ref (ad j)), (0, .ref (h 0)), (1, .int (nI j))]) hx hb dX1_release_5 rfl hl (by decide) rfl (fun ls hl => ?_)
    refine lv_aload_n hx hb dX1_release_6 rfl (lv_at hl 0 rfl) ?_
    refine lv_ifnonnull (tgt := 13) hx hb dX1_release_7 (by decide) ?_
    refine lv_aload_n hx hb dX1_release_13 rfl (lv_at hl 1 rfl) ?_
    refine c_get (S := S) (v := .int (S.1 2)) hx hb hts hin hown hK hP 2 (by decide) (by decide +kernel) rfl rfl dX1_release_14 ?_
    refine lv_if_eq (tgt := 23) hx hb dX1_release_17 (by decide) (fun c1 => ?_) (fun c1 => ?_)
    · refine lv_aload_n hx hb dX1_release_23 rfl (lv_at hl 0 rfl) ?_
      refine c_dget (S := S) (v := .int (S.2.1 9 j)) (i := j) hx hb hts hin0 hown hK hP (by omega) 9 (by decide) (by decide +kernel) rfl rfl dX1_release_24 ?_
      refine lv_if_ne (tgt := 32) hx hb dX1_release_27 (by decide) (fun c2 => ?_) (fun c2 => ?_)
      · refine lv_aload_n hx hb dX1_release_32 rfl (lv_at hl 0 rfl) ?_
        refine lv_dup hx hb dX1_release_33 rfl ?_
        refine c_dget (S := S) (v := .int (S.2.1 9 j)) (i := j) hx hb hts hin0 hown hK hP (by omega) 9 (by decide) (by decide +kernel) rfl rfl dX1_release_34 ?_
        refine lv_iconst (v := 1) hx hb dX1_release_37 (by decide) ?_
        refine lv_isub hx hb dX1_release_38 ?_
        refine c_dput ha hx hb hts hin0 hown hK hP hS (i := j) (by omega) 9 (by decide) (by decide +kernel) ⟨rfl, rfl⟩ rfl rfl dX1_release_39 (fun H locs hP hS => ?_)
        have hP : va_P D vwCl (cW cO h ad md n o (S.1, up2 (S.2.1) 9 j ((S.2.1 9 j) - 1), S.2.2)) H := hP
        refine lv_aload_n hx hb dX1_release_42 rfl (lv_at hl 0 rfl) ?_
        refine c_dget (S := (S.1, up2 (S.2.1) 9 j ((S.2.1 9 j) - 1), S.2.2)) (v := .int ((S.2.1 9 j) - 1)) (i := j) hx hb hts hin0 hown hK hP (by omega) 9 (by decide) (by decide +kernel) rfl (by simp [cD, up2, va_up, upd]) dX1_release_43 ?_
        have hE : C_release n o S (nI j) = ((S.2.1 9 j) - 1, (S.1, up2 (S.2.1) 9 j ((S.2.1 9 j) - 1), S.2.2)) := by first | (simp only [C_release, if_pos hd, if_pos c1, if_neg c2, hjc]; done) | (simp only [C_release, if_pos hd, if_pos c1, if_neg c2, hjc]; rfl)
        exact W.iret (v := (S.2.1 9 j) - 1) hx hb hr (fun tt ht hW => ⟨⟨(S.2.1 9 j) - 1, (), rfl, by rw [hE], by rw [ht, hE]; exact hP, va_K.moved hW.alike hK⟩, hS.F ht⟩) hS.2.2 dX1_release_46
      · refine lv_iconst (v := (-1)) hx hb dX1_release_30 (by decide) ?_
        have hE : C_release n o S (nI j) = ((-1), S) := by first | (simp only [C_release, if_pos hd, if_pos c1, if_pos c2, hjc]; done) | (simp only [C_release, if_pos hd, if_pos c1, if_pos c2, hjc]; rfl)
        exact W.iret (v := (-1)) hx hb hr (fun tt ht hW => ⟨⟨(-1), (), rfl, by rw [hE], by rw [ht, hE]; exact hP, va_K.moved hW.alike hK⟩, hS.F ht⟩) hS.2.2 dX1_release_31
    · refine lv_bipush (v := (-3)) hx hb dX1_release_20 (by decide) ?_
      have hE : C_release n o S (nI j) = ((-3), S) := by first | (simp only [C_release, if_pos hd, if_neg c1, hjc]; done) | (simp only [C_release, if_pos hd, if_neg c1, hjc]; rfl)
      exact W.iret (v := (-3)) hx hb hr (fun tt ht hW => ⟨⟨(-3), (), rfl, by rw [hE], by rw [ht, hE]; exact hP, va_K.moved hW.alike hK⟩, hS.F ht⟩) hS.2.2 dX1_release_22
  · have hN : C_find n o S d = none := by simp only [C_find, if_neg hd]
    rw [hN]
    refine W.eq (g2 := F0 m 5 ls (.null :: [])) rfl ?_
    refine lv_astore_nN (lv' := [(2, .null), (0, .ref (h 0)), (1, .int d)]) hx hb dX1_release_5 rfl hl (by decide) rfl (fun ls hl => ?_)
    refine lv_aload_nN hx hb dX1_release_6 rfl (lv_at hl 0 rfl) ?_
    refine lv_ifnonnullN hx hb dX1_release_7 ?_
    refine lv_bipush (v := (-2)) hx hb dX1_release_10 (by decide) ?_
    have hE : C_release n o S d = ((-2), S) := by first | (simp only [C_release, if_neg hd]; done) | (simp only [C_release, if_neg hd]; rfl)
    exact W.iret (v := (-2)) hx hb hr (fun tt ht hW => ⟨⟨(-2), (), rfl, by rw [hE], by rw [ht, hE]; exact hP, va_K.moved hW.alike hK⟩, hS.F ht⟩) hS.2.2 dX1_release_12

def C_waker (n : Nat) (o : Nat → Nat) (S : cSt) (d : Int32) (on : Int32) : Int32 × cSt :=
  if inR n d = true then (1, (S.1, up2 (S.2.1) 12 (d.toNatClampNeg) on, S.2.2))
  else (0, S)
theorem C_waker_ok (n : Nat) (o : Nat → Nat) (S : cSt) (d : Int32) (on : Int32) (hok : cOk n o S) : cOk n o (C_waker n o S d on).2 := by
  unfold C_waker
  split
  · exact (show cOk n o (S.1, up2 (S.2.1) 12 (d.toNatClampNeg) on, S.2.2) from hok)
  · exact hok
set_option maxHeartbeats 4000000 in
set_option maxRecDepth 100000 in
theorem c_X1_waker (l : Launch) (D : va_G) (cO : ClassId) (h ad : Nat → Nat) (md : Nat → Int32) (n : Nat) (o : Nat → Nat) (ha : (cL h ad n).Nodup) (S : cSt) (hok : cOk n o S) (d : Int32) (on : Int32) (h01 : on = 0 ∨ on = 1) : mI l yX1_waker wsX1_waker (rmz 4 85) D (cT cO) (cL h ad n) [.ref (h 0), .int d, .int on] (cW cO h ad md n o S) (C_waker n o S d on).1 (cW cO h ad md n o (C_waker n o S d on).2) := by
  intro sz
  refine Met.ofW (cc := cX1_waker) (maxL := 4) (ret := (some .boolean)) (by decide) rfl ?_
  intro p e s m args below meth c s₁ B hml hv
  obtain ⟨rfl, hsz, hP, hK⟩ := hv
  have hx := B.exec
  have hb := B.bytes
  have hr := B.returns
  have hts := atoms_spec (ws := wsX1_waker) B.pre
  have hin : ∀ w ∈ wsX10, w ∈ wsX1_waker := fun w h => List.mem_cons_of_mem _ (List.mem_append_left _ (List.mem_append_right _ h))
  have hin0 : ∀ w ∈ wsX00, w ∈ wsX1_waker := fun w h => List.mem_cons_of_mem _ (List.mem_append_left _ (List.mem_append_left _ (List.mem_append_right _ h)))
  have hown : s.vm.findClass RX1 = some m.cls := findClass_of_methodNamed B.named
  have hlocks := B.notSynchronized
  have hn12 : n ≤ 12 := hok.1
  subst hsz
  have hS : va_S (wA (cL h ad n) s.heap.size) s.heap s.heap [] := va_S.rf
  have hl := lv_entry ([.ref (h 0), .int d, .int on]) (n := 4) (Nat.le_of_ble_eq_true rfl)
  rw [lg_entry_eq]
  generalize (lg_sl ([.ref (h 0), .int d, .int on]) ++ List.replicate (4 - (lg_sl ([.ref (h 0), .int d, .int on])).length) Slot.unset).toArray = ls at hl ⊢
  have hl : lv_has ls 4 [(0, .ref (h 0)), (1, .int d), (2, .int on)] := hl
  refine lv_aload_n hx hb dX1_waker_0 rfl (lv_at hl 0 rfl) ?_
  refine lv_iload_n hx hb dX1_waker_1 rfl (lv_at hl 1 rfl) ?_
  refine m_callQ (As := [.int d]) (rest := []) ⟨hx, hb, hml, hown, hts⟩ (c_X1_find l D cO h ad md n o ha S hok d) (cwV 1 hts gX1_waker_X1_find rfl rfl rfl (by decide +kernel) ⟨Nat.le_of_ble_eq_true rfl, Nat.le_of_ble_eq_true rfl⟩) hK hP (va_recv hK hP (ci := 2) (q0 := 0) rfl rfl) rfl hl.1 rfl (Nat.le_of_ble_eq_true rfl) dX1_waker_2 ⟨Nat.zero_le _, Nat.zero_le _⟩ ?_
  by_cases hd : inR n d = true
  · obtain ⟨j, hj, rfl⟩ := inR_spec hn12 hd
    have hjc : (nI j).toNatClampNeg = j := nI_clamp (by omega)
    have hN : C_find n o S (nI j) = some j := by simp only [C_find, if_pos hd, hjc]
    rw [hN]
    refine W.eq (g2 := F0 m 5 ls (.ref (ad j) :: [])) rfl ?_
    refine lv_astore_n (lv' := [(3, .ref (ad j)), (0, .ref (h 0)), (1, .int (nI j)), (2, .int on)]) hx hb dX1_waker_5 rfl hl (by decide) rfl (fun ls hl => ?_)
    refine lv_aload_n hx hb dX1_waker_6 rfl (lv_at hl 0 rfl) ?_
    refine lv_ifnonnull (tgt := 12) hx hb dX1_waker_7 (by decide) ?_
    refine lv_aload_n hx hb dX1_waker_12 rfl (lv_at hl 0 rfl) ?_
    refine lv_iload_n hx hb dX1_waker_13 rfl (lv_at hl 3 rfl) ?_
    refine c_dput ha hx hb hts hin0 hown hK hP hS (i := j) (by omega) 12 (by decide) (by decide +kernel) ⟨rfl, rfl⟩ (nb01 h01) (fb01 h01) dX1_waker_14 (fun H locs hP hS => ?_)
    have hP : va_P D vwCl (cW cO h ad md n o (S.1, up2 (S.2.1) 12 j on, S.2.2)) H := hP
    refine lv_iconst (v := 1) hx hb dX1_waker_17 (by decide) ?_
    have hE : C_waker n o S (nI j) on = (1, (S.1, up2 (S.2.1) 12 j on, S.2.2)) := by first | (simp only [C_waker, if_pos hd, hjc]; done) | (simp only [C_waker, if_pos hd, hjc]; rfl)
    exact W.zret (v := 1) hx hb hr rfl (fun tt ht hW => ⟨⟨1, (), rfl, by rw [hE], by rw [ht, hE]; exact hP, va_K.moved hW.alike hK⟩, hS.F ht⟩) hS.2.2 dX1_waker_18
  · have hN : C_find n o S d = none := by simp only [C_find, if_neg hd]
    rw [hN]
    refine W.eq (g2 := F0 m 5 ls (.null :: [])) rfl ?_
    refine lv_astore_nN (lv' := [(3, .null), (0, .ref (h 0)), (1, .int d), (2, .int on)]) hx hb dX1_waker_5 rfl hl (by decide) rfl (fun ls hl => ?_)
    refine lv_aload_nN hx hb dX1_waker_6 rfl (lv_at hl 0 rfl) ?_
    refine lv_ifnonnullN hx hb dX1_waker_7 ?_
    refine lv_iconst (v := 0) hx hb dX1_waker_10 (by decide) ?_
    have hE : C_waker n o S d on = (0, S) := by first | (simp only [C_waker, if_neg hd]; done) | (simp only [C_waker, if_neg hd]; rfl)
    exact W.zret (v := 0) hx hb hr rfl (fun tt ht hW => ⟨⟨0, (), rfl, by rw [hE], by rw [ht, hE]; exact hP, va_K.moved hW.alike hK⟩, hS.F ht⟩) hS.2.2 dX1_waker_11

def C_refuse (n : Nat) (o : Nat → Nat) (S : cSt) (d : Int32) (k : Int32) : Int32 × cSt :=
  if inR n d = true then (if C_isWithin n o S k 0 9 = 0 then (0, S)
    else (1, (S.1, up2 (S.2.1) 11 (d.toNatClampNeg) k, S.2.2)))
  else (0, S)
theorem C_refuse_ok (n : Nat) (o : Nat → Nat) (S : cSt) (d : Int32) (k : Int32) (hok : cOk n o S) : cOk n o (C_refuse n o S d k).2 := by
  unfold C_refuse
  split
  · split
    · exact hok
    · exact (show cOk n o (S.1, up2 (S.2.1) 11 (d.toNatClampNeg) k, S.2.2) from hok)
  · exact hok
set_option maxHeartbeats 4000000 in
set_option maxRecDepth 100000 in
theorem c_X1_refuse (l : Launch) (D : va_G) (cO : ClassId) (h ad : Nat → Nat) (md : Nat → Int32) (n : Nat) (o : Nat → Nat) (ha : (cL h ad n).Nodup) (S : cSt) (hok : cOk n o S) (d : Int32) (k : Int32) : mI l yX1_refuse wsX1_refuse (rmz 4 85) D (cT cO) (cL h ad n) [.ref (h 0), .int d, .int k] (cW cO h ad md n o S) (C_refuse n o S d k).1 (cW cO h ad md n o (C_refuse n o S d k).2) := by
  intro sz
  refine Met.ofW (cc := cX1_refuse) (maxL := 4) (ret := (some .boolean)) (by decide) rfl ?_
  intro p e s m args below meth c s₁ B hml hv
  obtain ⟨rfl, hsz, hP, hK⟩ := hv
  have hx := B.exec
  have hb := B.bytes
  have hr := B.returns
  have hts := atoms_spec (ws := wsX1_refuse) B.pre
  have hin : ∀ w ∈ wsX10, w ∈ wsX1_refuse := fun w h => List.mem_cons_of_mem _ (List.mem_append_left _ (List.mem_append_right _ h))
  have hin0 : ∀ w ∈ wsX00, w ∈ wsX1_refuse := fun w h => List.mem_cons_of_mem _ (List.mem_append_left _ (List.mem_append_left _ (List.mem_append_right _ h)))
  have hown : s.vm.findClass RX1 = some m.cls := findClass_of_methodNamed B.named
  have hlocks := B.notSynchronized
  have hn12 : n ≤ 12 := hok.1
  subst hsz
  have hS : va_S (wA (cL h ad n) s.heap.size) s.heap s.heap [] := va_S.rf
  have hl := lv_entry ([.ref (h 0), .int d, .int k]) (n := 4) (Nat.le_of_ble_eq_true rfl)
  rw [lg_entry_eq]
  generalize (lg_sl ([.ref (h 0), .int d, .int k]) ++ List.replicate (4 - (lg_sl ([.ref (h 0), .int d, .int k])).length) Slot.unset).toArray = ls at hl ⊢
  have hl : lv_has ls 4 [(0, .ref (h 0)), (1, .int d), (2, .int k)] := hl
  refine lv_aload_n hx hb dX1_refuse_0 rfl (lv_at hl 0 rfl) ?_
  refine lv_iload_n hx hb dX1_refuse_1 rfl (lv_at hl 1 rfl) ?_
  refine m_callQ (As := [.int d]) (rest := []) ⟨hx, hb, hml, hown, hts⟩ (c_X1_find l D cO h ad md n o ha S hok d) (cwV 1 hts gX1_refuse_X1_find rfl rfl rfl (by decide +kernel) ⟨Nat.le_of_ble_eq_true rfl, Nat.le_of_ble_eq_true rfl⟩) hK hP (va_recv hK hP (ci := 2) (q0 := 0) rfl rfl) rfl hl.1 rfl (Nat.le_of_ble_eq_true rfl) dX1_refuse_2 ⟨Nat.zero_le _, Nat.zero_le _⟩ ?_
  by_cases hd : inR n d = true
  · obtain ⟨j, hj, rfl⟩ := inR_spec hn12 hd
    have hjc : (nI j).toNatClampNeg = j := nI_clamp (by omega)
    have hN : C_find n o S (nI j) = some j := by simp only [C_find, if_pos hd, hjc]
    rw [hN]
    refine W.eq (g2 := F0 m 5 ls (.ref (ad j) :: [])) rfl ?_
    refine lv_astore_n (lv' := [(3, .ref (ad j)), (0, .ref (h 0)), (1, .int (nI j)), (2, .int k)]) hx hb dX1_refuse_5 rfl hl (by decide) rfl (fun ls hl => ?_)
    refine lv_aload_n hx hb dX1_refuse_6 rfl (lv_at hl 0 rfl) ?_
    refine lv_ifnull hx hb dX1_refuse_7 ?_
    refine lv_iload_n hx hb dX1_refuse_10 rfl (lv_at hl 3 rfl) ?_
    refine lv_iconst (v := 0) hx hb dX1_refuse_11 (by decide) ?_
    refine lv_bipush (v := 9) hx hb dX1_refuse_12 (by decide) ?_
    refine m_callRS (As := [.int k, .int 0, .int 9]) (rest := []) ⟨hx, hb, hml, hown, hts⟩ (c_X1_isWithin l D cO h ad md n o ha S hok k 0 9) (va_cwS 3 hts gX1_refuse_X1_isWithin rfl rfl rfl (by decide +kernel) ⟨Nat.le_of_ble_eq_true rfl, Nat.le_of_ble_eq_true rfl⟩) hK hP rfl hl.1 rfl (Nat.le_of_ble_eq_true rfl) dX1_refuse_14 ⟨Nat.zero_le _, Nat.zero_le _⟩ ?_
    refine lv_if_ne (tgt := 22) hx hb dX1_refuse_17 (by decide) (fun c1 => ?_) (fun c1 => ?_)
    · refine lv_aload_n hx hb dX1_refuse_22 rfl (lv_at hl 0 rfl) ?_
      refine lv_iload_n hx hb dX1_refuse_23 rfl (lv_at hl 3 rfl) ?_
      refine c_dput ha hx hb hts hin0 hown hK hP hS (i := j) (by omega) 11 (by decide) (by decide +kernel) ⟨rfl, rfl⟩ rfl rfl dX1_refuse_24 (fun H locs hP hS => ?_)
      have hP : va_P D vwCl (cW cO h ad md n o (S.1, up2 (S.2.1) 11 j k, S.2.2)) H := hP
      refine lv_iconst (v := 1) hx hb dX1_refuse_27 (by decide) ?_
      have hE : C_refuse n o S (nI j) k = (1, (S.1, up2 (S.2.1) 11 j k, S.2.2)) := by first | (simp only [C_refuse, if_pos hd, if_neg c1, hjc]; done) | (simp only [C_refuse, if_pos hd, if_neg c1, hjc]; rfl)
      exact W.zret (v := 1) hx hb hr rfl (fun tt ht hW => ⟨⟨1, (), rfl, by rw [hE], by rw [ht, hE]; exact hP, va_K.moved hW.alike hK⟩, hS.F ht⟩) hS.2.2 dX1_refuse_28
    · refine lv_iconst (v := 0) hx hb dX1_refuse_20 (by decide) ?_
      have hE : C_refuse n o S (nI j) k = (0, S) := by first | (simp only [C_refuse, if_pos hd, if_pos c1, hjc]; done) | (simp only [C_refuse, if_pos hd, if_pos c1, hjc]; rfl)
      exact W.zret (v := 0) hx hb hr rfl (fun tt ht hW => ⟨⟨0, (), rfl, by rw [hE], by rw [ht, hE]; exact hP, va_K.moved hW.alike hK⟩, hS.F ht⟩) hS.2.2 dX1_refuse_21
  · have hN : C_find n o S d = none := by simp only [C_find, if_neg hd]
    rw [hN]
    refine W.eq (g2 := F0 m 5 ls (.null :: [])) rfl ?_
    refine lv_astore_nN (lv' := [(3, .null), (0, .ref (h 0)), (1, .int d), (2, .int k)]) hx hb dX1_refuse_5 rfl hl (by decide) rfl (fun ls hl => ?_)
    refine lv_aload_nN hx hb dX1_refuse_6 rfl (lv_at hl 0 rfl) ?_
    refine lv_ifnullN (tgt := 20) hx hb dX1_refuse_7 (by decide) ?_
    refine lv_iconst (v := 0) hx hb dX1_refuse_20 (by decide) ?_
    have hE : C_refuse n o S d k = (0, S) := by first | (simp only [C_refuse, if_neg hd]; done) | (simp only [C_refuse, if_neg hd]; rfl)
    exact W.zret (v := 0) hx hb hr rfl (fun tt ht hW => ⟨⟨0, (), rfl, by rw [hE], by rw [ht, hE]; exact hP, va_K.moved hW.alike hK⟩, hS.F ht⟩) hS.2.2 dX1_refuse_21

def C_signal (n : Nat) (o : Nat → Nat) (S : cSt) (d : Int32) : Int32 × cSt :=
  if inR n d = true then (if S.2.1 12 (d.toNatClampNeg) = 0 then (0, S)
    else if S.1 2 = 2 then (1, (C_comeBack n o S 3))
    else if S.1 2 = 1 then (1, (C_giveUp n o S 2 (d.toNatClampNeg)))
    else (0, S))
  else ((-2), S)
theorem C_signal_ok (n : Nat) (o : Nat → Nat) (S : cSt) (d : Int32) (hok : cOk n o S) : cOk n o (C_signal n o S d).2 := by
  unfold C_signal
  split
  · split
    · exact hok
    · split
      · exact (C_comeBack_ok n o S 3 hok)
      · split
        · exact (C_giveUp_ok n o S 2 (d.toNatClampNeg) hok)
        · exact hok
  · exact hok
set_option maxHeartbeats 4000000 in
set_option maxRecDepth 100000 in
theorem c_X1_signal (l : Launch) (D : va_G) (cO : ClassId) (h ad : Nat → Nat) (md : Nat → Int32) (n : Nat) (o : Nat → Nat) (ha : (cL h ad n).Nodup) (S : cSt) (hok : cOk n o S) (d : Int32) : mI l yX1_signal wsX1_signal (rmz 6 129) D (cT cO) (cL h ad n) [.ref (h 0), .int d] (cW cO h ad md n o S) (C_signal n o S d).1 (cW cO h ad md n o (C_signal n o S d).2) := by
  intro sz
  refine Met.ofW (cc := cX1_signal) (maxL := 3) (ret := (some .int)) (by decide) rfl ?_
  intro p e s m args below meth c s₁ B hml hv
  obtain ⟨rfl, hsz, hP, hK⟩ := hv
  have hx := B.exec
  have hb := B.bytes
  have hr := B.returns
  have hts := atoms_spec (ws := wsX1_signal) B.pre
  have hin : ∀ w ∈ wsX10, w ∈ wsX1_signal := fun w h => List.mem_cons_of_mem _ (List.mem_append_left _ (List.mem_append_right _ h))
  have hin0 : ∀ w ∈ wsX00, w ∈ wsX1_signal := fun w h => List.mem_cons_of_mem _ (List.mem_append_left _ (List.mem_append_left _ (List.mem_append_right _ h)))
  have hown : s.vm.findClass RX1 = some m.cls := findClass_of_methodNamed B.named
  have hlocks := B.notSynchronized
  have hn12 : n ≤ 12 := hok.1
  subst hsz
  have hS : va_S (wA (cL h ad n) s.heap.size) s.heap s.heap [] := va_S.rf
  have hl := lv_entry ([.ref (h 0), .int d]) (n := 3) (Nat.le_of_ble_eq_true rfl)
  rw [lg_entry_eq]
  generalize (lg_sl ([.ref (h 0), .int d]) ++ List.replicate (3 - (lg_sl ([.ref (h 0), .int d])).length) Slot.unset).toArray = ls at hl ⊢
  have hl : lv_has ls 3 [(0, .ref (h 0)), (1, .int d)] := hl
  refine lv_aload_n hx hb dX1_signal_0 rfl (lv_at hl 0 rfl) ?_
  refine lv_iload_n hx hb dX1_signal_1 rfl (lv_at hl 1 rfl) ?_
  refine m_callQ (As := [.int d]) (rest := []) ⟨hx, hb, hml, hown, hts⟩ (c_X1_find l D cO h ad md n o ha S hok d) (cwV 1 hts gX1_signal_X1_find rfl rfl rfl (by decide +kernel) ⟨Nat.le_of_ble_eq_true rfl, Nat.le_of_ble_eq_true rfl⟩) hK hP (va_recv hK hP (ci := 2) (q0 := 0) rfl rfl) rfl hl.1 rfl (Nat.le_of_ble_eq_true rfl) dX1_signal_2 ⟨Nat.zero_le _, Nat.zero_le _⟩ ?_
  by_cases hd : inR n d = true
  · obtain ⟨j, hj, rfl⟩ := inR_spec hn12 hd
    have hjc : (nI j).toNatClampNeg = j := nI_clamp (by omega)
    have hN : C_find n o S (nI j) = some j := by simp only [C_find, if_pos hd, hjc]
    rw [hN]
    refine W.eq (g2 := F0 m 5 ls (.ref (ad j) :: [])) rfl ?_
    refine lv_astore_n (lv' := [(2, .ref (ad j)), (0, .ref (h 0)), (1, .int (nI j))]) hx hb dX1_signal_5 rfl hl (by decide) rfl (fun ls hl => ?_)
    refine lv_aload_n hx hb dX1_signal_6 rfl (lv_at hl 0 rfl) ?_
    refine lv_ifnonnull (tgt := 13) hx hb dX1_signal_7 (by decide) ?_
    refine lv_aload_n hx hb dX1_signal_13 rfl (lv_at hl 0 rfl) ?_
    refine c_dget (S := S) (v := .int (S.2.1 12 j)) (i := j) hx hb hts hin0 hown hK hP (by omega) 12 (by decide) (by decide +kernel) rfl rfl dX1_signal_14 ?_
    refine lv_if_eq (tgt := 35) hx hb dX1_signal_17 (by decide) (fun c1 => ?_) (fun c1 => ?_)
    · refine lv_aload_n hx hb dX1_signal_35 rfl (lv_at hl 0 rfl) ?_
      refine c_dget (S := S) (v := .int (S.2.1 12 j)) (i := j) hx hb hts hin0 hown hK hP (by omega) 12 (by decide) (by decide +kernel) rfl rfl dX1_signal_36 ?_
      refine lv_if_eq (tgt := 58) hx hb dX1_signal_39 (by decide) (fun c2 => ?_) (fun c2 => ?_)
      · refine lv_iconst (v := 0) hx hb dX1_signal_58 (by decide) ?_
        have hE : C_signal n o S (nI j) = (0, S) := by first | (simp only [C_signal, if_pos hd, if_pos c1, hjc]; done) | (simp only [C_signal, if_pos hd, if_pos c1, hjc]; rfl)
        exact W.iret (v := 0) hx hb hr (fun tt ht hW => ⟨⟨0, (), rfl, by rw [hE], by rw [ht, hE]; exact hP, va_K.moved hW.alike hK⟩, hS.F ht⟩) hS.2.2 dX1_signal_59
      · exact absurd c1 c2
    · refine lv_aload_n hx hb dX1_signal_20 rfl (lv_at hl 1 rfl) ?_
      refine c_get (S := S) (v := .int (S.1 2)) hx hb hts hin hown hK hP 2 (by decide) (by decide +kernel) rfl rfl dX1_signal_21 ?_
      refine lv_iconst (v := 2) hx hb dX1_signal_24 (by decide) ?_
      refine lv_icmp_ne (tgt := 35) hx hb dX1_signal_25 (by decide) (fun c3 => ?_) (fun c3 => ?_)
      · refine lv_aload_n hx hb dX1_signal_35 rfl (lv_at hl 0 rfl) ?_
        refine c_dget (S := S) (v := .int (S.2.1 12 j)) (i := j) hx hb hts hin0 hown hK hP (by omega) 12 (by decide) (by decide +kernel) rfl rfl dX1_signal_36 ?_
        refine lv_if_eq (tgt := 58) hx hb dX1_signal_39 (by decide) (fun c4 => ?_) (fun c4 => ?_)
        · exact absurd c4 c1
        · refine lv_aload_n hx hb dX1_signal_42 rfl (lv_at hl 1 rfl) ?_
          refine c_get (S := S) (v := .int (S.1 2)) hx hb hts hin hown hK hP 2 (by decide) (by decide +kernel) rfl rfl dX1_signal_43 ?_
          refine lv_iconst (v := 1) hx hb dX1_signal_46 (by decide) ?_
          refine lv_icmp_ne (tgt := 58) hx hb dX1_signal_47 (by decide) (fun c5 => ?_) (fun c5 => ?_)
          · refine lv_iconst (v := 0) hx hb dX1_signal_58 (by decide) ?_
            have hE : C_signal n o S (nI j) = (0, S) := by first | (simp only [C_signal, if_pos hd, if_neg c1, if_neg c3, if_neg c5, hjc]; done) | (simp only [C_signal, if_pos hd, if_neg c1, if_neg c3, if_neg c5, hjc]; rfl)
            exact W.iret (v := 0) hx hb hr (fun tt ht hW => ⟨⟨0, (), rfl, by rw [hE], by rw [ht, hE]; exact hP, va_K.moved hW.alike hK⟩, hS.F ht⟩) hS.2.2 dX1_signal_59
          · refine lv_aload_n hx hb dX1_signal_50 rfl (lv_at hl 1 rfl) ?_
            refine lv_iconst (v := 2) hx hb dX1_signal_51 (by decide) ?_
            refine lv_aload_n hx hb dX1_signal_52 rfl (lv_at hl 0 rfl) ?_
            refine m_callv (As := [.int 2, .ref (ad j)]) (rest := []) ⟨hx, hb, hml, hown, hts⟩ (c_X1_giveUp l D cO h ad md n o ha S hok 2 j (by omega)) (cwV 2 hts gX1_signal_X1_giveUp rfl rfl rfl (by decide +kernel) ⟨Nat.le_of_ble_eq_true rfl, Nat.le_of_ble_eq_true rfl⟩) hK hP hS (fun q h => wA_up hS.1 q h) (va_recv hK hP (ci := 2) (q0 := 0) rfl rfl) rfl hl.1 rfl (Nat.le_of_ble_eq_true rfl) dX1_signal_53 ⟨Nat.zero_le _, Nat.zero_le _⟩ (fun H locs hP hS _ => ?_)
            have hok : cOk n o (C_giveUp n o S 2 j) := (C_giveUp_ok n o S 2 j hok)
            refine lv_iconst (v := 1) hx hb dX1_signal_56 (by decide) ?_
            have hE : C_signal n o S (nI j) = (1, (C_giveUp n o S 2 j)) := by first | (simp only [C_signal, if_pos hd, if_neg c1, if_neg c3, if_pos c5, hjc]; done) | (simp only [C_signal, if_pos hd, if_neg c1, if_neg c3, if_pos c5, hjc]; rfl)
            exact W.iret (v := 1) hx hb hr (fun tt ht hW => ⟨⟨1, (), rfl, by rw [hE], by rw [ht, hE]; exact hP, va_K.moved hW.alike hK⟩, hS.F ht⟩) hS.2.2 dX1_signal_57
      · refine lv_aload_n hx hb dX1_signal_28 rfl (lv_at hl 1 rfl) ?_
        refine lv_iconst (v := 3) hx hb dX1_signal_29 (by decide) ?_
        refine m_callv (As := [.int 3]) (rest := []) ⟨hx, hb, hml, hown, hts⟩ (c_X1_comeBack l D cO h ad md n o ha S hok 3) (cwV 1 hts gX1_signal_X1_comeBack rfl rfl rfl (by decide +kernel) ⟨Nat.le_of_ble_eq_true rfl, Nat.le_of_ble_eq_true rfl⟩) hK hP hS (fun q h => wA_up hS.1 q h) (va_recv hK hP (ci := 2) (q0 := 0) rfl rfl) rfl hl.1 rfl (Nat.le_of_ble_eq_true rfl) dX1_signal_30 ⟨Nat.zero_le _, Nat.zero_le _⟩ (fun H locs hP hS _ => ?_)
        have hok : cOk n o (C_comeBack n o S 3) := (C_comeBack_ok n o S 3 hok)
        refine lv_iconst (v := 1) hx hb dX1_signal_33 (by decide) ?_
        have hE : C_signal n o S (nI j) = (1, (C_comeBack n o S 3)) := by first | (simp only [C_signal, if_pos hd, if_neg c1, if_pos c3, hjc]; done) | (simp only [C_signal, if_pos hd, if_neg c1, if_pos c3, hjc]; rfl)
        exact W.iret (v := 1) hx hb hr (fun tt ht hW => ⟨⟨1, (), rfl, by rw [hE], by rw [ht, hE]; exact hP, va_K.moved hW.alike hK⟩, hS.F ht⟩) hS.2.2 dX1_signal_34
  · have hN : C_find n o S d = none := by simp only [C_find, if_neg hd]
    rw [hN]
    refine W.eq (g2 := F0 m 5 ls (.null :: [])) rfl ?_
    refine lv_astore_nN (lv' := [(2, .null), (0, .ref (h 0)), (1, .int d)]) hx hb dX1_signal_5 rfl hl (by decide) rfl (fun ls hl => ?_)
    refine lv_aload_nN hx hb dX1_signal_6 rfl (lv_at hl 0 rfl) ?_
    refine lv_ifnonnullN hx hb dX1_signal_7 ?_
    refine lv_bipush (v := (-2)) hx hb dX1_signal_10 (by decide) ?_
    have hE : C_signal n o S d = ((-2), S) := by first | (simp only [C_signal, if_neg hd]; done) | (simp only [C_signal, if_neg hd]; rfl)
    exact W.iret (v := (-2)) hx hb hr (fun tt ht hW => ⟨⟨(-2), (), rfl, by rw [hE], by rw [ht, hE]; exact hP, va_K.moved hW.alike hK⟩, hS.F ht⟩) hS.2.2 dX1_signal_12

def C_sleep_b (n : Nat) (o : Nat → Nat) (k2 : Nat) (Z : cSt) : cSt :=
  (Z.1, up2 (Z.2.1) 8 k2 (Z.2.1 7 k2), Z.2.2)
theorem C_sleep_b_ok (n : Nat) (o : Nat → Nat) (k2 : Nat) (Z : cSt) (hok : cOk n o Z) : cOk n o (C_sleep_b n o k2 Z) := by
  unfold C_sleep_b
  exact (show cOk n o (Z.1, up2 (Z.2.1) 8 k2 (Z.2.1 7 k2), Z.2.2) from hok)
def C_sleep_it (n : Nat) (o : Nat → Nat) (S : cSt) : Nat → cSt
  | 0 => S
  | k2 + 1 => C_sleep_b n o k2 (C_sleep_it n o S k2)
theorem C_sleep_it_ok (n : Nat) (o : Nat → Nat) (S : cSt) : ∀ (k : Nat) (hok : cOk n o S), cOk n o (C_sleep_it n o S k)
  | 0, hok => hok
  | k + 1, hok => C_sleep_b_ok n o k _ (C_sleep_it_ok n o S k hok)
def C_sleep (n : Nat) (o : Nat → Nat) (S : cSt) : Int32 × cSt :=
  if S.1 2 = 0 then ((C_sinkFurther n o (upd ((C_sleep_it n o S n).1) 2 1, (C_sleep_it n o S n).2.1, (C_sleep_it n o S n).2.2)).1 2, (C_sinkFurther n o (upd ((C_sleep_it n o S n).1) 2 1, (C_sleep_it n o S n).2.1, (C_sleep_it n o S n).2.2)))
  else ((-3), S)
theorem C_sleep_ok (n : Nat) (o : Nat → Nat) (S : cSt) (hok : cOk n o S) : cOk n o (C_sleep n o S).2 := by
  unfold C_sleep
  split
  · exact (C_sinkFurther_ok n o (upd ((C_sleep_it n o S n).1) 2 1, (C_sleep_it n o S n).2.1, (C_sleep_it n o S n).2.2) (show cOk n o (upd ((C_sleep_it n o S n).1) 2 1, (C_sleep_it n o S n).2.1, (C_sleep_it n o S n).2.2) from (C_sleep_it_ok n o S n hok)))
  · exact hok
set_option maxHeartbeats 4000000 in
set_option maxRecDepth 100000 in
theorem c_X1_sleep (l : Launch) (D : va_G) (cO : ClassId) (h ad : Nat → Nat) (md : Nat → Int32) (n : Nat) (o : Nat → Nat) (ha : (cL h ad n).Nodup) (S : cSt) (hok : cOk n o S) : mI l yX1_sleep wsX1_sleep (rmz 4 86) D (cT cO) (cL h ad n) [.ref (h 0)] (cW cO h ad md n o S) (C_sleep n o S).1 (cW cO h ad md n o (C_sleep n o S).2) := by
  intro sz
  refine Met.ofW (cc := cX1_sleep) (maxL := 3) (ret := (some .int)) (by decide) rfl ?_
  intro p e s m args below meth c s₁ B hml hv
  obtain ⟨rfl, hsz, hP, hK⟩ := hv
  have hx := B.exec
  have hb := B.bytes
  have hr := B.returns
  have hts := atoms_spec (ws := wsX1_sleep) B.pre
  have hin : ∀ w ∈ wsX10, w ∈ wsX1_sleep := fun w h => List.mem_cons_of_mem _ (List.mem_append_left _ (List.mem_append_left _ (List.mem_append_right _ h)))
  have hin0 : ∀ w ∈ wsX00, w ∈ wsX1_sleep := fun w h => List.mem_cons_of_mem _ (List.mem_append_left _ (List.mem_append_right _ h))
  have hown : s.vm.findClass RX1 = some m.cls := findClass_of_methodNamed B.named
  have hlocks := B.notSynchronized
  have hn12 : n ≤ 12 := hok.1
  subst hsz
  have hS : va_S (wA (cL h ad n) s.heap.size) s.heap s.heap [] := va_S.rf
  have hl := lv_entry ([.ref (h 0)]) (n := 3) (Nat.le_of_ble_eq_true rfl)
  rw [lg_entry_eq]
  generalize (lg_sl ([.ref (h 0)]) ++ List.replicate (3 - (lg_sl ([.ref (h 0)])).length) Slot.unset).toArray = ls at hl ⊢
  have hl : lv_has ls 3 [(0, .ref (h 0))] := hl
  have hok0 := hok
  refine lv_aload_n hx hb dX1_sleep_0 rfl (lv_at hl 0 rfl) ?_
  refine c_get (S := S) (v := .int (S.1 2)) hx hb hts hin hown hK hP 2 (by decide) (by decide +kernel) rfl rfl dX1_sleep_1 ?_
  refine lv_if_eq (tgt := 10) hx hb dX1_sleep_4 (by decide) (fun c1 => ?_) (fun c1 => ?_)
  · refine lv_iconst (v := 0) hx hb dX1_sleep_10 (by decide) ?_
    refine lv_istore_n (lv' := [(1, .int 0), (0, .ref (h 0))]) hx hb dX1_sleep_11 rfl hl (by decide) rfl (fun ls hl => ?_)
    refine w_loop (σ := Nat) (I := fun k2 H locs ls => k2 ≤ n ∧ va_P D vwCl (cW cO h ad md n o (C_sleep_it n o S k2)) H ∧ va_S (wA (cL h ad n) s.heap.size) s.heap H locs ∧ lv_has ls 3 [(0, .ref (h 0)), (1, .int (nI k2))]) (fun k2 => n - k2) ?_ 0 ⟨Nat.zero_le _, hP, hS, lv_sub hl [1, 0] rfl⟩
    intro k2 H locs ls hI ih
    obtain ⟨hk, hP, hS, hl⟩ := hI
    have hok : cOk n o (C_sleep_it n o S k2) := C_sleep_it_ok n o S k2 hok0
    refine lv_iload_n hx hb dX1_sleep_12 rfl (lv_at hl 1 rfl) ?_
    refine lv_aload_n hx hb dX1_sleep_13 rfl (lv_at hl 0 rfl) ?_
    refine c_get (S := (C_sleep_it n o S k2)) (v := .ref (h 1)) hx hb hts hin hown hK hP 0 (by decide) (by decide +kernel) rfl rfl dX1_sleep_14 ?_
    refine m_callR (As := []) (rest := [.int (nI k2)]) ⟨hx, hb, hml, hown, hts⟩ (c_J_size l D (cT cO) (cW cO h ad md n o (C_sleep_it n o S k2)) (h 1) 1 (h 3) (md 1) (nI n) rfl) (cwV 0 hts gX1_sleep_Jx4a65c_size_8abf5 rfl rfl rfl (by decide +kernel) ⟨Nat.le_of_ble_eq_true rfl, Nat.le_of_ble_eq_true rfl⟩) hK hP (va_recv hK hP (ci := 0) (q0 := 1) rfl rfl) rfl hl.1 rfl (Nat.le_of_ble_eq_true rfl) dX1_sleep_17 ⟨Nat.zero_le _, Nat.zero_le _⟩ ?_
    refine lv_icmp_ge (tgt := 49) hx hb dX1_sleep_20 (by decide) (fun c3 => ?_) (fun c3 => ?_)
    · have hkn : k2 = n := Nat.le_antisymm hk ((nI_leI (by omega) (by omega)).mp c3)
      rw [hkn] at hP hl
      have hok : cOk n o (C_sleep_it n o S n) := C_sleep_it_ok n o S n hok0
      refine lv_aload_n hx hb dX1_sleep_49 rfl (lv_at hl 0 rfl) ?_
      refine lv_iconst (v := 1) hx hb dX1_sleep_50 (by decide) ?_
      refine c_put ha hx hb hts hin hown hK hP hS 2 (by decide) (by decide +kernel) ⟨rfl, rfl, rfl⟩ dX1_sleep_51 (fun H locs hP hS => ?_)
      have hP : va_P D vwCl (cW cO h ad md n o (upd ((C_sleep_it n o S n).1) 2 1, (C_sleep_it n o S n).2.1, (C_sleep_it n o S n).2.2)) H := hP
      refine lv_aload_n hx hb dX1_sleep_54 rfl (lv_at hl 0 rfl) ?_
      refine m_callv (As := []) (rest := []) ⟨hx, hb, hml, hown, hts⟩ (c_X1_sinkFurther l D cO h ad md n o ha (upd ((C_sleep_it n o S n).1) 2 1, (C_sleep_it n o S n).2.1, (C_sleep_it n o S n).2.2) hok ) (cwV 0 hts gX1_sleep_X1_sinkFurther rfl rfl rfl (by decide +kernel) ⟨Nat.le_of_ble_eq_true rfl, Nat.le_of_ble_eq_true rfl⟩) hK hP hS (fun q h => wA_up hS.1 q h) (va_recv hK hP (ci := 2) (q0 := 0) rfl rfl) rfl hl.1 rfl (Nat.le_of_ble_eq_true rfl) dX1_sleep_55 ⟨Nat.zero_le _, Nat.zero_le _⟩ (fun H locs hP hS _ => ?_)
      have hok : cOk n o (C_sinkFurther n o (upd ((C_sleep_it n o S n).1) 2 1, (C_sleep_it n o S n).2.1, (C_sleep_it n o S n).2.2)) := (C_sinkFurther_ok n o (upd ((C_sleep_it n o S n).1) 2 1, (C_sleep_it n o S n).2.1, (C_sleep_it n o S n).2.2) hok)
      refine lv_aload_n hx hb dX1_sleep_58 rfl (lv_at hl 0 rfl) ?_
      refine c_get (S := (C_sinkFurther n o (upd ((C_sleep_it n o S n).1) 2 1, (C_sleep_it n o S n).2.1, (C_sleep_it n o S n).2.2))) (v := .int ((C_sinkFurther n o (upd ((C_sleep_it n o S n).1) 2 1, (C_sleep_it n o S n).2.1, (C_sleep_it n o S n).2.2)).1 2)) hx hb hts hin hown hK hP 2 (by decide) (by decide +kernel) rfl rfl dX1_sleep_59 ?_
      have hE : C_sleep n o S = ((C_sinkFurther n o (upd ((C_sleep_it n o S n).1) 2 1, (C_sleep_it n o S n).2.1, (C_sleep_it n o S n).2.2)).1 2, (C_sinkFurther n o (upd ((C_sleep_it n o S n).1) 2 1, (C_sleep_it n o S n).2.1, (C_sleep_it n o S n).2.2))) := by first | (simp only [C_sleep, if_pos c1]; done) | (simp only [C_sleep, if_pos c1]; rfl)
      exact W.iret (v := (C_sinkFurther n o (upd ((C_sleep_it n o S n).1) 2 1, (C_sleep_it n o S n).2.1, (C_sleep_it n o S n).2.2)).1 2) hx hb hr (fun tt ht hW => ⟨⟨(C_sinkFurther n o (upd ((C_sleep_it n o S n).1) 2 1, (C_sleep_it n o S n).2.1, (C_sleep_it n o S n).2.2)).1 2, (), rfl, by rw [hE], by rw [ht, hE]; exact hP, va_K.moved hW.alike hK⟩, hS.F ht⟩) hS.2.2 dX1_sleep_62
    · have hlt : k2 < n := Nat.lt_of_not_le (fun z => c3 ((nI_leI (by omega) (by omega)).mpr z))
      refine lv_aload_n hx hb dX1_sleep_23 rfl (lv_at hl 0 rfl) ?_
      refine c_get (S := (C_sleep_it n o S k2)) (v := .ref (h 1)) hx hb hts hin hown hK hP 0 (by decide) (by decide +kernel) rfl rfl dX1_sleep_24 ?_
      refine lv_iload_n hx hb dX1_sleep_27 rfl (lv_at hl 1 rfl) ?_
      refine m_callQr (As := [.int (nI k2)]) (rest := []) ⟨hx, hb, hml, hown, hts⟩ (c_J_get1 l D cO h ad md n o (C_sleep_it n o S k2) k2 hn12 (by omega)) (cwV 1 hts gX1_sleep_Jx4a65c_get_915e3 rfl rfl rfl (by decide +kernel) ⟨Nat.le_of_ble_eq_true rfl, Nat.le_of_ble_eq_true rfl⟩) hK hP (va_recv hK hP (ci := 0) (q0 := 1) rfl rfl) rfl hl.1 rfl (Nat.le_of_ble_eq_true rfl) dX1_sleep_28 ⟨Nat.zero_le _, Nat.zero_le _⟩ ?_
      refine c_cast hx hb hts hown hK hP (i := k2) (by omega) (by decide +kernel) dX1_sleep_31 ?_
      refine lv_astore_n (lv' := [(2, .ref (ad k2)), (0, .ref (h 0)), (1, .int (nI k2))]) hx hb dX1_sleep_34 rfl hl (by decide) rfl (fun ls hl => ?_)
      refine lv_aload_n hx hb dX1_sleep_35 rfl (lv_at hl 0 rfl) ?_
      refine lv_aload_n hx hb dX1_sleep_36 rfl (lv_at hl 0 rfl) ?_
      refine c_dget (S := (C_sleep_it n o S k2)) (v := .int ((C_sleep_it n o S k2).2.1 7 k2)) (i := k2) hx hb hts hin0 hown hK hP (by omega) 7 (by decide) (by decide +kernel) rfl rfl dX1_sleep_37 ?_
      refine c_dput ha hx hb hts hin0 hown hK hP hS (i := k2) (by omega) 8 (by decide) (by decide +kernel) ⟨rfl, rfl⟩ rfl rfl dX1_sleep_40 (fun H locs hP hS => ?_)
      have hP : va_P D vwCl (cW cO h ad md n o ((C_sleep_it n o S k2).1, up2 ((C_sleep_it n o S k2).2.1) 8 k2 ((C_sleep_it n o S k2).2.1 7 k2), (C_sleep_it n o S k2).2.2)) H := hP
      refine lv_iinc (v := nI (k2 + 1)) (lv' := [(1, .int (nI (k2 + 1))), (2, .ref (ad k2)), (0, .ref (h 0))]) hx hb dX1_sleep_43 hl (k := 2) rfl (nI_1 _) (by decide) rfl (fun ls hl => ?_)
      refine lv_goto (tgt := 12) hx hb dX1_sleep_46 (by decide) ?_
      have hE : C_sleep_it n o S (k2 + 1) = ((C_sleep_it n o S k2).1, up2 ((C_sleep_it n o S k2).2.1) 8 k2 ((C_sleep_it n o S k2).2.1 7 k2), (C_sleep_it n o S k2).2.2) := by show C_sleep_b n o k2 (C_sleep_it n o S k2) = _; first | (simp only [C_sleep_b]; done) | (simp only [C_sleep_b]; rfl)
      exact ih (k2 + 1) H locs ls (by omega) ⟨by omega, by rw [hE]; exact hP, hS, lv_sub hl [2, 0] rfl⟩
  · refine lv_bipush (v := (-3)) hx hb dX1_sleep_7 (by decide) ?_
    have hE : C_sleep n o S = ((-3), S) := by first | (simp only [C_sleep, if_neg c1]; done) | (simp only [C_sleep, if_neg c1]; rfl)
    exact W.iret (v := (-3)) hx hb hr (fun tt ht hW => ⟨⟨(-3), (), rfl, by rw [hE], by rw [ht, hE]; exact hP, va_K.moved hW.alike hK⟩, hS.F ht⟩) hS.2.2 dX1_sleep_9

def C_watch (n : Nat) (o : Nat → Nat) (S : cSt) (lim : Int32) : Int32 × cSt :=
  if C_isWithin n o S lim 0 100 = 0 then (0, S)
  else (1, (upd (upd (S.1) 6 lim) 7 0, S.2.1, S.2.2))
theorem C_watch_ok (n : Nat) (o : Nat → Nat) (S : cSt) (lim : Int32) (hok : cOk n o S) : cOk n o (C_watch n o S lim).2 := by
  unfold C_watch
  split
  · exact hok
  · exact (show cOk n o (upd (upd (S.1) 6 lim) 7 0, S.2.1, S.2.2) from hok)
set_option maxHeartbeats 4000000 in
set_option maxRecDepth 100000 in
theorem c_X1_watch (l : Launch) (D : va_G) (cO : ClassId) (h ad : Nat → Nat) (md : Nat → Int32) (n : Nat) (o : Nat → Nat) (ha : (cL h ad n).Nodup) (S : cSt) (hok : cOk n o S) (lim : Int32) : mI l yX1_watch wsX1_watch (rmz 1 22) D (cT cO) (cL h ad n) [.ref (h 0), .int lim] (cW cO h ad md n o S) (C_watch n o S lim).1 (cW cO h ad md n o (C_watch n o S lim).2) := by
  intro sz
  refine Met.ofW (cc := cX1_watch) (maxL := 2) (ret := (some .boolean)) (by decide) rfl ?_
  intro p e s m args below meth c s₁ B hml hv
  obtain ⟨rfl, hsz, hP, hK⟩ := hv
  have hx := B.exec
  have hb := B.bytes
  have hr := B.returns
  have hts := atoms_spec (ws := wsX1_watch) B.pre
  have hin : ∀ w ∈ wsX10, w ∈ wsX1_watch := fun w h => List.mem_cons_of_mem _ (List.mem_append_right _ h)
  have hown : s.vm.findClass RX1 = some m.cls := findClass_of_methodNamed B.named
  have hlocks := B.notSynchronized
  have hn12 : n ≤ 12 := hok.1
  subst hsz
  have hS : va_S (wA (cL h ad n) s.heap.size) s.heap s.heap [] := va_S.rf
  have hl := lv_entry ([.ref (h 0), .int lim]) (n := 2) (Nat.le_of_ble_eq_true rfl)
  rw [lg_entry_eq]
  generalize (lg_sl ([.ref (h 0), .int lim]) ++ List.replicate (2 - (lg_sl ([.ref (h 0), .int lim])).length) Slot.unset).toArray = ls at hl ⊢
  have hl : lv_has ls 2 [(0, .ref (h 0)), (1, .int lim)] := hl
  refine lv_iload_n hx hb dX1_watch_0 rfl (lv_at hl 1 rfl) ?_
  refine lv_iconst (v := 0) hx hb dX1_watch_1 (by decide) ?_
  refine lv_bipush (v := 100) hx hb dX1_watch_2 (by decide) ?_
  refine m_callRS (As := [.int lim, .int 0, .int 100]) (rest := []) ⟨hx, hb, hml, hown, hts⟩ (c_X1_isWithin l D cO h ad md n o ha S hok lim 0 100) (va_cwS 3 hts gX1_watch_X1_isWithin rfl rfl rfl (by decide +kernel) ⟨Nat.le_of_ble_eq_true rfl, Nat.le_of_ble_eq_true rfl⟩) hK hP rfl hl.1 rfl (Nat.le_of_ble_eq_true rfl) dX1_watch_4 ⟨Nat.zero_le _, Nat.zero_le _⟩ ?_
  refine lv_if_ne (tgt := 12) hx hb dX1_watch_7 (by decide) (fun c1 => ?_) (fun c1 => ?_)
  · refine lv_aload_n hx hb dX1_watch_12 rfl (lv_at hl 0 rfl) ?_
    refine lv_iload_n hx hb dX1_watch_13 rfl (lv_at hl 1 rfl) ?_
    refine c_put ha hx hb hts hin hown hK hP hS 6 (by decide) (by decide +kernel) ⟨rfl, rfl, rfl⟩ dX1_watch_14 (fun H locs hP hS => ?_)
    have hP : va_P D vwCl (cW cO h ad md n o (upd (S.1) 6 lim, S.2.1, S.2.2)) H := hP
    refine lv_aload_n hx hb dX1_watch_17 rfl (lv_at hl 0 rfl) ?_
    refine lv_iconst (v := 0) hx hb dX1_watch_18 (by decide) ?_
    refine c_put ha hx hb hts hin hown hK hP hS 7 (by decide) (by decide +kernel) ⟨rfl, rfl, rfl⟩ dX1_watch_19 (fun H locs hP hS => ?_)
    have hP : va_P D vwCl (cW cO h ad md n o (upd (upd (S.1) 6 lim) 7 0, S.2.1, S.2.2)) H := hP
    refine lv_iconst (v := 1) hx hb dX1_watch_22 (by decide) ?_
    have hE : C_watch n o S lim = (1, (upd (upd (S.1) 6 lim) 7 0, S.2.1, S.2.2)) := by first | (simp only [C_watch, if_neg c1]; done) | (simp only [C_watch, if_neg c1]; rfl)
    exact W.zret (v := 1) hx hb hr rfl (fun tt ht hW => ⟨⟨1, (), rfl, by rw [hE], by rw [ht, hE]; exact hP, va_K.moved hW.alike hK⟩, hS.F ht⟩) hS.2.2 dX1_watch_23
  · refine lv_iconst (v := 0) hx hb dX1_watch_10 (by decide) ?_
    have hE : C_watch n o S lim = (0, S) := by first | (simp only [C_watch, if_pos c1]; done) | (simp only [C_watch, if_pos c1]; rfl)
    exact W.zret (v := 0) hx hb hr rfl (fun tt ht hW => ⟨⟨0, (), rfl, by rw [hE], by rw [ht, hE]; exact hP, va_K.moved hW.alike hK⟩, hS.F ht⟩) hS.2.2 dX1_watch_11

def C_kick (n : Nat) (o : Nat → Nat) (S : cSt) : Int32 × cSt :=
  (S.1 7, (upd (S.1) 7 0, S.2.1, S.2.2))
theorem C_kick_ok (n : Nat) (o : Nat → Nat) (S : cSt) (hok : cOk n o S) : cOk n o (C_kick n o S).2 := by
  unfold C_kick
  exact (show cOk n o (upd (S.1) 7 0, S.2.1, S.2.2) from hok)
set_option maxHeartbeats 4000000 in
set_option maxRecDepth 100000 in
theorem c_X1_kick (l : Launch) (D : va_G) (cO : ClassId) (h ad : Nat → Nat) (md : Nat → Int32) (n : Nat) (o : Nat → Nat) (ha : (cL h ad n).Nodup) (S : cSt) (hok : cOk n o S) : mI l yX1_kick wsX1_kick (rmz 0 0) D (cT cO) (cL h ad n) [.ref (h 0)] (cW cO h ad md n o S) (C_kick n o S).1 (cW cO h ad md n o (C_kick n o S).2) := by
  intro sz
  refine Met.ofW (cc := cX1_kick) (maxL := 2) (ret := (some .int)) (by decide) rfl ?_
  intro p e s m args below meth c s₁ B hml hv
  obtain ⟨rfl, hsz, hP, hK⟩ := hv
  have hx := B.exec
  have hb := B.bytes
  have hr := B.returns
  have hts := atoms_spec (ws := wsX1_kick) B.pre
  have hin : ∀ w ∈ wsX10, w ∈ wsX1_kick := fun w h => List.mem_cons_of_mem _ (List.mem_append_right _ h)
  have hown : s.vm.findClass RX1 = some m.cls := findClass_of_methodNamed B.named
  have hlocks := B.notSynchronized
  have hn12 : n ≤ 12 := hok.1
  subst hsz
  have hS : va_S (wA (cL h ad n) s.heap.size) s.heap s.heap [] := va_S.rf
  have hl := lv_entry ([.ref (h 0)]) (n := 2) (Nat.le_of_ble_eq_true rfl)
  rw [lg_entry_eq]
  generalize (lg_sl ([.ref (h 0)]) ++ List.replicate (2 - (lg_sl ([.ref (h 0)])).length) Slot.unset).toArray = ls at hl ⊢
  have hl : lv_has ls 2 [(0, .ref (h 0))] := hl
  refine lv_aload_n hx hb dX1_kick_0 rfl (lv_at hl 0 rfl) ?_
  refine c_get (S := S) (v := .int (S.1 7)) hx hb hts hin hown hK hP 7 (by decide) (by decide +kernel) rfl rfl dX1_kick_1 ?_
  refine lv_istore_n (lv' := [(1, .int (S.1 7)), (0, .ref (h 0))]) hx hb dX1_kick_4 rfl hl (by decide) rfl (fun ls hl => ?_)
  refine lv_aload_n hx hb dX1_kick_5 rfl (lv_at hl 1 rfl) ?_
  refine lv_iconst (v := 0) hx hb dX1_kick_6 (by decide) ?_
  refine c_put ha hx hb hts hin hown hK hP hS 7 (by decide) (by decide +kernel) ⟨rfl, rfl, rfl⟩ dX1_kick_7 (fun H locs hP hS => ?_)
  have hP : va_P D vwCl (cW cO h ad md n o (upd (S.1) 7 0, S.2.1, S.2.2)) H := hP
  refine lv_iload_n hx hb dX1_kick_10 rfl (lv_at hl 0 rfl) ?_
  have hE : C_kick n o S = (S.1 7, (upd (S.1) 7 0, S.2.1, S.2.2)) := by first | (simp only [C_kick]; done) | (simp only [C_kick]; rfl)
  exact W.iret (v := S.1 7) hx hb hr (fun tt ht hW => ⟨⟨S.1 7, (), rfl, by rw [hE], by rw [ht, hE]; exact hP, va_K.moved hW.alike hK⟩, hS.F ht⟩) hS.2.2 dX1_kick_11

def C_phase (n : Nat) (o : Nat → Nat) (S : cSt) : Int32 :=
  S.1 2
set_option maxHeartbeats 4000000 in
set_option maxRecDepth 100000 in
theorem c_X1_phase (l : Launch) (D : va_G) (cO : ClassId) (h ad : Nat → Nat) (md : Nat → Int32) (n : Nat) (o : Nat → Nat) (ha : (cL h ad n).Nodup) (S : cSt) (hok : cOk n o S) : mR l yX1_phase wsX1_phase (rmz 0 0) D (cT cO) [.ref (h 0)] (cW cO h ad md n o S) (C_phase n o S) := by
  refine Met.ofW (cc := cX1_phase) (maxL := 1) (ret := (some .int)) (by decide) rfl ?_
  intro p e s m args below meth c s₁ B hml hv
  obtain ⟨rfl, hP, hK⟩ := hv
  have hx := B.exec
  have hb := B.bytes
  have hr := B.returns
  have hts := atoms_spec (ws := wsX1_phase) B.pre
  have hin : ∀ w ∈ wsX10, w ∈ wsX1_phase := fun w h => List.mem_cons_of_mem _ (List.mem_append_right _ h)
  have hown : s.vm.findClass RX1 = some m.cls := findClass_of_methodNamed B.named
  have hlocks := B.notSynchronized
  have hn12 : n ≤ 12 := hok.1
  have hl := lv_entry ([.ref (h 0)]) (n := 1) (Nat.le_of_ble_eq_true rfl)
  rw [lg_entry_eq]
  generalize (lg_sl ([.ref (h 0)]) ++ List.replicate (1 - (lg_sl ([.ref (h 0)])).length) Slot.unset).toArray = ls at hl ⊢
  have hl : lv_has ls 1 [(0, .ref (h 0))] := hl
  refine lv_aload_n hx hb dX1_phase_0 rfl (lv_at hl 0 rfl) ?_
  refine c_get (S := S) (v := .int (S.1 2)) hx hb hts hin hown hK hP 2 (by decide) (by decide +kernel) rfl rfl dX1_phase_1 ?_
  have hE : C_phase n o S = S.1 2 := by first | (simp only [C_phase]; done) | (simp only [C_phase]; rfl)
  exact W.iret (v := S.1 2) hx hb hr (fun tt ht hW => ⟨S.1 2, rfl, hE.symm, ht⟩) (fun q hq => by cases hq) dX1_phase_4

def C_left (n : Nat) (o : Nat → Nat) (S : cSt) : Int32 :=
  S.1 4
set_option maxHeartbeats 4000000 in
set_option maxRecDepth 100000 in
theorem c_X1_left (l : Launch) (D : va_G) (cO : ClassId) (h ad : Nat → Nat) (md : Nat → Int32) (n : Nat) (o : Nat → Nat) (ha : (cL h ad n).Nodup) (S : cSt) (hok : cOk n o S) : mR l yX1_left wsX1_left (rmz 0 0) D (cT cO) [.ref (h 0)] (cW cO h ad md n o S) (C_left n o S) := by
  refine Met.ofW (cc := cX1_left) (maxL := 1) (ret := (some .int)) (by decide) rfl ?_
  intro p e s m args below meth c s₁ B hml hv
  obtain ⟨rfl, hP, hK⟩ := hv
  have hx := B.exec
  have hb := B.bytes
  have hr := B.returns
  have hts := atoms_spec (ws := wsX1_left) B.pre
  have hin : ∀ w ∈ wsX10, w ∈ wsX1_left := fun w h => List.mem_cons_of_mem _ (List.mem_append_right _ h)
  have hown : s.vm.findClass RX1 = some m.cls := findClass_of_methodNamed B.named
  have hlocks := B.notSynchronized
  have hn12 : n ≤ 12 := hok.1
  have hl := lv_entry ([.ref (h 0)]) (n := 1) (Nat.le_of_ble_eq_true rfl)
  rw [lg_entry_eq]
  generalize (lg_sl ([.ref (h 0)]) ++ List.replicate (1 - (lg_sl ([.ref (h 0)])).length) Slot.unset).toArray = ls at hl ⊢
  have hl : lv_has ls 1 [(0, .ref (h 0))] := hl
  refine lv_aload_n hx hb dX1_left_0 rfl (lv_at hl 0 rfl) ?_
  refine c_get (S := S) (v := .int (S.1 4)) hx hb hts hin hown hK hP 4 (by decide) (by decide +kernel) rfl rfl dX1_left_1 ?_
  have hE : C_left n o S = S.1 4 := by first | (simp only [C_left]; done) | (simp only [C_left]; rfl)
  exact W.iret (v := S.1 4) hx hb hr (fun tt ht hW => ⟨S.1 4, rfl, hE.symm, ht⟩) (fun q hq => by cases hq) dX1_left_4

def C_named (n : Nat) (o : Nat → Nat) (S : cSt) : Int32 :=
  S.1 12
set_option maxHeartbeats 4000000 in
set_option maxRecDepth 100000 in
theorem c_X1_named (l : Launch) (D : va_G) (cO : ClassId) (h ad : Nat → Nat) (md : Nat → Int32) (n : Nat) (o : Nat → Nat) (ha : (cL h ad n).Nodup) (S : cSt) (hok : cOk n o S) : mR l yX1_named wsX1_named (rmz 0 0) D (cT cO) [.ref (h 0)] (cW cO h ad md n o S) (C_named n o S) := by
  refine Met.ofW (cc := cX1_named) (maxL := 1) (ret := (some .int)) (by decide) rfl ?_
  intro p e s m args below meth c s₁ B hml hv
  obtain ⟨rfl, hP, hK⟩ := hv
  have hx := B.exec
  have hb := B.bytes
  have hr := B.returns
  have hts := atoms_spec (ws := wsX1_named) B.pre
  have hin : ∀ w ∈ wsX10, w ∈ wsX1_named := fun w h => List.mem_cons_of_mem _ (List.mem_append_right _ h)
  have hown : s.vm.findClass RX1 = some m.cls := findClass_of_methodNamed B.named
  have hlocks := B.notSynchronized
  have hn12 : n ≤ 12 := hok.1
  have hl := lv_entry ([.ref (h 0)]) (n := 1) (Nat.le_of_ble_eq_true rfl)
  rw [lg_entry_eq]
  generalize (lg_sl ([.ref (h 0)]) ++ List.replicate (1 - (lg_sl ([.ref (h 0)])).length) Slot.unset).toArray = ls at hl ⊢
  have hl : lv_has ls 1 [(0, .ref (h 0))] := hl
  refine lv_aload_n hx hb dX1_named_0 rfl (lv_at hl 0 rfl) ?_
  refine c_get (S := S) (v := .int (S.1 12)) hx hb hts hin hown hK hP 12 (by decide) (by decide +kernel) rfl rfl dX1_named_1 ?_
  have hE : C_named n o S = S.1 12 := by first | (simp only [C_named]; done) | (simp only [C_named]; rfl)
  exact W.iret (v := S.1 12) hx hb hr (fun tt ht hW => ⟨S.1 12, rfl, hE.symm, ht⟩) (fun q hq => by cases hq) dX1_named_4

def C_due (n : Nat) (o : Nat → Nat) (S : cSt) : Int32 :=
  if S.2.2 = none then (-1)
  else nI (S.2.2.getD 0)
set_option maxHeartbeats 4000000 in
set_option maxRecDepth 100000 in
theorem c_X1_due (l : Launch) (D : va_G) (cO : ClassId) (h ad : Nat → Nat) (md : Nat → Int32) (n : Nat) (o : Nat → Nat) (ha : (cL h ad n).Nodup) (S : cSt) (hok : cOk n o S) : mR l yX1_due wsX1_due (rmz 0 0) D (cT cO) [.ref (h 0)] (cW cO h ad md n o S) (C_due n o S) := by
  refine Met.ofW (cc := cX1_due) (maxL := 1) (ret := (some .int)) (by decide) rfl ?_
  intro p e s m args below meth c s₁ B hml hv
  obtain ⟨rfl, hP, hK⟩ := hv
  have hx := B.exec
  have hb := B.bytes
  have hr := B.returns
  have hts := atoms_spec (ws := wsX1_due) B.pre
  have hin : ∀ w ∈ wsX10, w ∈ wsX1_due := fun w h => List.mem_cons_of_mem _ (List.mem_append_left _ (List.mem_append_right _ h))
  have hin0 : ∀ w ∈ wsX00, w ∈ wsX1_due := fun w h => List.mem_cons_of_mem _ (List.mem_append_right _ h)
  have hown : s.vm.findClass RX1 = some m.cls := findClass_of_methodNamed B.named
  have hlocks := B.notSynchronized
  have hn12 : n ≤ 12 := hok.1
  have hl := lv_entry ([.ref (h 0)]) (n := 1) (Nat.le_of_ble_eq_true rfl)
  rw [lg_entry_eq]
  generalize (lg_sl ([.ref (h 0)]) ++ List.replicate (1 - (lg_sl ([.ref (h 0)])).length) Slot.unset).toArray = ls at hl ⊢
  have hl : lv_has ls 1 [(0, .ref (h 0))] := hl
  refine lv_aload_n hx hb dX1_due_0 rfl (lv_at hl 0 rfl) ?_
  rcases hq2 : S.2.2 with _ | u1
  · refine c_get (S := S) (v := .null) hx hb hts hin hown hK hP 3 (by decide) (by decide +kernel) rfl (congrArg (fun z => some (va_rf (Option.map ad z))) hq2) dX1_due_1 ?_
    refine lv_ifnonnullN hx hb dX1_due_4 ?_
    refine lv_iconst (v := (-1)) hx hb dX1_due_7 (by decide) ?_
    refine lv_goto (tgt := 18) hx hb dX1_due_8 (by decide) ?_
    have hE : C_due n o S = (-1) := by first | (simp only [C_due, if_pos hq2]; done) | (simp only [C_due, if_pos hq2]; rfl)
    exact W.iret (v := (-1)) hx hb hr (fun tt ht hW => ⟨(-1), rfl, hE.symm, ht⟩) (fun q hq => by cases hq) dX1_due_18
  · have hq2n : u1 < n := hok.2.2.2 u1 hq2
    have hq2m : ¬ (some u1 : Option Nat) = none := fun z => by cases z
    refine c_get (S := S) (v := .ref (ad u1)) hx hb hts hin hown hK hP 3 (by decide) (by decide +kernel) rfl (congrArg (fun z => some (va_rf (Option.map ad z))) hq2) dX1_due_1 ?_
    refine lv_ifnonnull (tgt := 11) hx hb dX1_due_4 (by decide) ?_
    refine lv_aload_n hx hb dX1_due_11 rfl (lv_at hl 0 rfl) ?_
    refine c_get (S := S) (v := .ref (ad u1)) hx hb hts hin hown hK hP 3 (by decide) (by decide +kernel) rfl (congrArg (fun z => some (va_rf (Option.map ad z))) hq2) dX1_due_12 ?_
    refine c_dget (S := S) (v := .int (nI u1)) (i := u1) hx hb hts hin0 hown hK hP (by omega) 0 (by decide) (by decide +kernel) rfl (congrArg (fun z => some (Value.int z)) (hok.2.2.1 u1 (by omega))) dX1_due_15 ?_
    have hE : C_due n o S = nI u1 := by first | (simp only [C_due, if_neg hq2m, hq2, Option.getD_some]; done) | (simp only [C_due, if_neg hq2m, hq2, Option.getD_some]; rfl)
    exact W.iret (v := nI u1) hx hb hr (fun tt ht hW => ⟨nI u1, rfl, hE.symm, ht⟩) (fun q hq => by cases hq) dX1_due_18

def C_state (n : Nat) (o : Nat → Nat) (S : cSt) (d : Int32) : Int32 :=
  if inR n d = true then S.2.1 7 (d.toNatClampNeg)
  else (-2)
set_option maxHeartbeats 4000000 in
set_option maxRecDepth 100000 in
theorem c_X1_state (l : Launch) (D : va_G) (cO : ClassId) (h ad : Nat → Nat) (md : Nat → Int32) (n : Nat) (o : Nat → Nat) (ha : (cL h ad n).Nodup) (S : cSt) (hok : cOk n o S) (d : Int32) : mR l yX1_state wsX1_state (rmz 4 85) D (cT cO) [.ref (h 0), .int d] (cW cO h ad md n o S) (C_state n o S d) := by
  refine Met.ofW (cc := cX1_state) (maxL := 3) (ret := (some .int)) (by decide) rfl ?_
  intro p e s m args below meth c s₁ B hml hv
  obtain ⟨rfl, hP, hK⟩ := hv
  have hx := B.exec
  have hb := B.bytes
  have hr := B.returns
  have hts := atoms_spec (ws := wsX1_state) B.pre
  have hin : ∀ w ∈ wsX10, w ∈ wsX1_state := fun w h => List.mem_cons_of_mem _ (List.mem_append_left _ (List.mem_append_right _ h))
  have hin0 : ∀ w ∈ wsX00, w ∈ wsX1_state := fun w h => List.mem_cons_of_mem _ (List.mem_append_left _ (List.mem_append_left _ (List.mem_append_right _ h)))
  have hown : s.vm.findClass RX1 = some m.cls := findClass_of_methodNamed B.named
  have hlocks := B.notSynchronized
  have hn12 : n ≤ 12 := hok.1
  have hl := lv_entry ([.ref (h 0), .int d]) (n := 3) (Nat.le_of_ble_eq_true rfl)
  rw [lg_entry_eq]
  generalize (lg_sl ([.ref (h 0), .int d]) ++ List.replicate (3 - (lg_sl ([.ref (h 0), .int d])).length) Slot.unset).toArray = ls at hl ⊢
  have hl : lv_has ls 3 [(0, .ref (h 0)), (1, .int d)] := hl
  refine lv_aload_n hx hb dX1_state_0 rfl (lv_at hl 0 rfl) ?_
  refine lv_iload_n hx hb dX1_state_1 rfl (lv_at hl 1 rfl) ?_
  refine m_callQ (As := [.int d]) (rest := []) ⟨hx, hb, hml, hown, hts⟩ (c_X1_find l D cO h ad md n o ha S hok d) (cwV 1 hts gX1_state_X1_find rfl rfl rfl (by decide +kernel) ⟨Nat.le_of_ble_eq_true rfl, Nat.le_of_ble_eq_true rfl⟩) hK hP (va_recv hK hP (ci := 2) (q0 := 0) rfl rfl) rfl hl.1 rfl (Nat.le_of_ble_eq_true rfl) dX1_state_2 ⟨Nat.zero_le _, Nat.zero_le _⟩ ?_
  by_cases hd : inR n d = true
  · obtain ⟨j, hj, rfl⟩ := inR_spec hn12 hd
    have hjc : (nI j).toNatClampNeg = j := nI_clamp (by omega)
    have hN : C_find n o S (nI j) = some j := by simp only [C_find, if_pos hd, hjc]
    rw [hN]
    refine W.eq (g2 := F0 m 5 ls (.ref (ad j) :: [])) rfl ?_
    refine lv_astore_n (lv' := [(2, .ref (ad j)), (0, .ref (h 0)), (1, .int (nI j))]) hx hb dX1_state_5 rfl hl (by decide) rfl (fun ls hl => ?_)
    refine lv_aload_n hx hb dX1_state_6 rfl (lv_at hl 0 rfl) ?_
    refine lv_ifnonnull (tgt := 15) hx hb dX1_state_7 (by decide) ?_
    refine lv_aload_n hx hb dX1_state_15 rfl (lv_at hl 0 rfl) ?_
    refine c_dget (S := S) (v := .int (S.2.1 7 j)) (i := j) hx hb hts hin0 hown hK hP (by omega) 7 (by decide) (by decide +kernel) rfl rfl dX1_state_16 ?_
    have hE : C_state n o S (nI j) = S.2.1 7 j := by first | (simp only [C_state, if_pos hd, hjc]; done) | (simp only [C_state, if_pos hd, hjc]; rfl)
    exact W.iret (v := S.2.1 7 j) hx hb hr (fun tt ht hW => ⟨S.2.1 7 j, rfl, hE.symm, ht⟩) (fun q hq => by cases hq) dX1_state_19
  · have hN : C_find n o S d = none := by simp only [C_find, if_neg hd]
    rw [hN]
    refine W.eq (g2 := F0 m 5 ls (.null :: [])) rfl ?_
    refine lv_astore_nN (lv' := [(2, .null), (0, .ref (h 0)), (1, .int d)]) hx hb dX1_state_5 rfl hl (by decide) rfl (fun ls hl => ?_)
    refine lv_aload_nN hx hb dX1_state_6 rfl (lv_at hl 0 rfl) ?_
    refine lv_ifnonnullN hx hb dX1_state_7 ?_
    refine lv_bipush (v := (-2)) hx hb dX1_state_10 (by decide) ?_
    refine lv_goto (tgt := 19) hx hb dX1_state_12 (by decide) ?_
    have hE : C_state n o S d = (-2) := by first | (simp only [C_state, if_neg hd]; done) | (simp only [C_state, if_neg hd]; rfl)
    exact W.iret (v := (-2)) hx hb hr (fun tt ht hW => ⟨(-2), rfl, hE.symm, ht⟩) (fun q hq => by cases hq) dX1_state_19

def C_uses (n : Nat) (o : Nat → Nat) (S : cSt) (d : Int32) : Int32 :=
  if inR n d = true then S.2.1 9 (d.toNatClampNeg)
  else (-2)
set_option maxHeartbeats 4000000 in
set_option maxRecDepth 100000 in
theorem c_X1_uses (l : Launch) (D : va_G) (cO : ClassId) (h ad : Nat → Nat) (md : Nat → Int32) (n : Nat) (o : Nat → Nat) (ha : (cL h ad n).Nodup) (S : cSt) (hok : cOk n o S) (d : Int32) : mR l yX1_uses wsX1_uses (rmz 4 85) D (cT cO) [.ref (h 0), .int d] (cW cO h ad md n o S) (C_uses n o S d) := by
  refine Met.ofW (cc := cX1_uses) (maxL := 3) (ret := (some .int)) (by decide) rfl ?_
  intro p e s m args below meth c s₁ B hml hv
  obtain ⟨rfl, hP, hK⟩ := hv
  have hx := B.exec
  have hb := B.bytes
  have hr := B.returns
  have hts := atoms_spec (ws := wsX1_uses) B.pre
  have hin : ∀ w ∈ wsX10, w ∈ wsX1_uses := fun w h => List.mem_cons_of_mem _ (List.mem_append_left _ (List.mem_append_right _ h))
  have hin0 : ∀ w ∈ wsX00, w ∈ wsX1_uses := fun w h => List.mem_cons_of_mem _ (List.mem_append_left _ (List.mem_append_left _ (List.mem_append_right _ h)))
  have hown : s.vm.findClass RX1 = some m.cls := findClass_of_methodNamed B.named
  have hlocks := B.notSynchronized
  have hn12 : n ≤ 12 := hok.1
  have hl := lv_entry ([.ref (h 0), .int d]) (n := 3) (Nat.le_of_ble_eq_true rfl)
  rw [lg_entry_eq]
  generalize (lg_sl ([.ref (h 0), .int d]) ++ List.replicate (3 - (lg_sl ([.ref (h 0), .int d])).length) Slot.unset).toArray = ls at hl ⊢
  have hl : lv_has ls 3 [(0, .ref (h 0)), (1, .int d)] := hl
  refine lv_aload_n hx hb dX1_uses_0 rfl (lv_at hl 0 rfl) ?_
  refine lv_iload_n hx hb dX1_uses_1 rfl (lv_at hl 1 rfl) ?_
  refine m_callQ (As := [.int d]) (rest := []) ⟨hx, hb, hml, hown, hts⟩ (c_X1_find l D cO h ad md n o ha S hok d) (cwV 1 hts gX1_uses_X1_find rfl rfl rfl (by decide +kernel) ⟨Nat.le_of_ble_eq_true rfl, Nat.le_of_ble_eq_true rfl⟩) hK hP (va_recv hK hP (ci := 2) (q0 := 0) rfl rfl) rfl hl.1 rfl (Nat.le_of_ble_eq_true rfl) dX1_uses_2 ⟨Nat.zero_le _, Nat.zero_le _⟩ ?_
  by_cases hd : inR n d = true
  · obtain ⟨j, hj, rfl⟩ := inR_spec hn12 hd
    have hjc : (nI j).toNatClampNeg = j := nI_clamp (by omega)
    have hN : C_find n o S (nI j) = some j := by simp only [C_find, if_pos hd, hjc]
    rw [hN]
    refine W.eq (g2 := F0 m 5 ls (.ref (ad j) :: [])) rfl ?_
    refine lv_astore_n (lv' := [(2, .ref (ad j)), (0, .ref (h 0)), (1, .int (nI j))]) hx hb dX1_uses_5 rfl hl (by decide) rfl (fun ls hl => ?_)
    refine lv_aload_n hx hb dX1_uses_6 rfl (lv_at hl 0 rfl) ?_
    refine lv_ifnonnull (tgt := 15) hx hb dX1_uses_7 (by decide) ?_
    refine lv_aload_n hx hb dX1_uses_15 rfl (lv_at hl 0 rfl) ?_
    refine c_dget (S := S) (v := .int (S.2.1 9 j)) (i := j) hx hb hts hin0 hown hK hP (by omega) 9 (by decide) (by decide +kernel) rfl rfl dX1_uses_16 ?_
    have hE : C_uses n o S (nI j) = S.2.1 9 j := by first | (simp only [C_uses, if_pos hd, hjc]; done) | (simp only [C_uses, if_pos hd, hjc]; rfl)
    exact W.iret (v := S.2.1 9 j) hx hb hr (fun tt ht hW => ⟨S.2.1 9 j, rfl, hE.symm, ht⟩) (fun q hq => by cases hq) dX1_uses_19
  · have hN : C_find n o S d = none := by simp only [C_find, if_neg hd]
    rw [hN]
    refine W.eq (g2 := F0 m 5 ls (.null :: [])) rfl ?_
    refine lv_astore_nN (lv' := [(2, .null), (0, .ref (h 0)), (1, .int d)]) hx hb dX1_uses_5 rfl hl (by decide) rfl (fun ls hl => ?_)
    refine lv_aload_nN hx hb dX1_uses_6 rfl (lv_at hl 0 rfl) ?_
    refine lv_ifnonnullN hx hb dX1_uses_7 ?_
    refine lv_bipush (v := (-2)) hx hb dX1_uses_10 (by decide) ?_
    refine lv_goto (tgt := 19) hx hb dX1_uses_12 (by decide) ?_
    have hE : C_uses n o S d = (-2) := by first | (simp only [C_uses, if_neg hd]; done) | (simp only [C_uses, if_neg hd]; rfl)
    exact W.iret (v := (-2)) hx hb hr (fun tt ht hW => ⟨(-2), rfl, hE.symm, ht⟩) (fun q hq => by cases hq) dX1_uses_19

def C_idle (n : Nat) (o : Nat → Nat) (S : cSt) (d : Int32) : Int32 :=
  if inR n d = true then S.2.1 10 (d.toNatClampNeg)
  else (-2)
set_option maxHeartbeats 4000000 in
set_option maxRecDepth 100000 in
theorem c_X1_idle (l : Launch) (D : va_G) (cO : ClassId) (h ad : Nat → Nat) (md : Nat → Int32) (n : Nat) (o : Nat → Nat) (ha : (cL h ad n).Nodup) (S : cSt) (hok : cOk n o S) (d : Int32) : mR l yX1_idle wsX1_idle (rmz 4 85) D (cT cO) [.ref (h 0), .int d] (cW cO h ad md n o S) (C_idle n o S d) := by
  refine Met.ofW (cc := cX1_idle) (maxL := 3) (ret := (some .int)) (by decide) rfl ?_
  intro p e s m args below meth c s₁ B hml hv
  obtain ⟨rfl, hP, hK⟩ := hv
  have hx := B.exec
  have hb := B.bytes
  have hr := B.returns
  have hts := atoms_spec (ws := wsX1_idle) B.pre
  have hin : ∀ w ∈ wsX10, w ∈ wsX1_idle := fun w h => List.mem_cons_of_mem _ (List.mem_append_left _ (List.mem_append_right _ h))
  have hin0 : ∀ w ∈ wsX00, w ∈ wsX1_idle := fun w h => List.mem_cons_of_mem _ (List.mem_append_left _ (List.mem_append_left _ (List.mem_append_right _ h)))
  have hown : s.vm.findClass RX1 = some m.cls := findClass_of_methodNamed B.named
  have hlocks := B.notSynchronized
  have hn12 : n ≤ 12 := hok.1
  have hl := lv_entry ([.ref (h 0), .int d]) (n := 3) (Nat.le_of_ble_eq_true rfl)
  rw [lg_entry_eq]
  generalize (lg_sl ([.ref (h 0), .int d]) ++ List.replicate (3 - (lg_sl ([.ref (h 0), .int d])).length) Slot.unset).toArray = ls at hl ⊢
  have hl : lv_has ls 3 [(0, .ref (h 0)), (1, .int d)] := hl
  refine lv_aload_n hx hb dX1_idle_0 rfl (lv_at hl 0 rfl) ?_
  refine lv_iload_n hx hb dX1_idle_1 rfl (lv_at hl 1 rfl) ?_
  refine m_callQ (As := [.int d]) (rest := []) ⟨hx, hb, hml, hown, hts⟩ (c_X1_find l D cO h ad md n o ha S hok d) (cwV 1 hts gX1_idle_X1_find rfl rfl rfl (by decide +kernel) ⟨Nat.le_of_ble_eq_true rfl, Nat.le_of_ble_eq_true rfl⟩) hK hP (va_recv hK hP (ci := 2) (q0 := 0) rfl rfl) rfl hl.1 rfl (Nat.le_of_ble_eq_true rfl) dX1_idle_2 ⟨Nat.zero_le _, Nat.zero_le _⟩ ?_
  by_cases hd : inR n d = true
  · obtain ⟨j, hj, rfl⟩ := inR_spec hn12 hd
    have hjc : (nI j).toNatClampNeg = j := nI_clamp (by omega)
    have hN : C_find n o S (nI j) = some j := by simp only [C_find, if_pos hd, hjc]
    rw [hN]
    refine W.eq (g2 := F0 m 5 ls (.ref (ad j) :: [])) rfl ?_
    refine lv_astore_n (lv' := [(2, .ref (ad j)), (0, .ref (h 0)), (1, .int (nI j))]) hx hb dX1_idle_5 rfl hl (by decide) rfl (fun ls hl => ?_)
    refine lv_aload_n hx hb dX1_idle_6 rfl (lv_at hl 0 rfl) ?_
    refine lv_ifnonnull (tgt := 15) hx hb dX1_idle_7 (by decide) ?_
    refine lv_aload_n hx hb dX1_idle_15 rfl (lv_at hl 0 rfl) ?_
    refine c_dget (S := S) (v := .int (S.2.1 10 j)) (i := j) hx hb hts hin0 hown hK hP (by omega) 10 (by decide) (by decide +kernel) rfl rfl dX1_idle_16 ?_
    have hE : C_idle n o S (nI j) = S.2.1 10 j := by first | (simp only [C_idle, if_pos hd, hjc]; done) | (simp only [C_idle, if_pos hd, hjc]; rfl)
    exact W.iret (v := S.2.1 10 j) hx hb hr (fun tt ht hW => ⟨S.2.1 10 j, rfl, hE.symm, ht⟩) (fun q hq => by cases hq) dX1_idle_19
  · have hN : C_find n o S d = none := by simp only [C_find, if_neg hd]
    rw [hN]
    refine W.eq (g2 := F0 m 5 ls (.null :: [])) rfl ?_
    refine lv_astore_nN (lv' := [(2, .null), (0, .ref (h 0)), (1, .int d)]) hx hb dX1_idle_5 rfl hl (by decide) rfl (fun ls hl => ?_)
    refine lv_aload_nN hx hb dX1_idle_6 rfl (lv_at hl 0 rfl) ?_
    refine lv_ifnonnullN hx hb dX1_idle_7 ?_
    refine lv_bipush (v := (-2)) hx hb dX1_idle_10 (by decide) ?_
    refine lv_goto (tgt := 19) hx hb dX1_idle_12 (by decide) ?_
    have hE : C_idle n o S d = (-2) := by first | (simp only [C_idle, if_neg hd]; done) | (simp only [C_idle, if_neg hd]; rfl)
    exact W.iret (v := (-2)) hx hb hr (fun tt ht hW => ⟨(-2), rfl, hE.symm, ht⟩) (fun q hq => by cases hq) dX1_idle_19

def C_refusals (n : Nat) (o : Nat → Nat) (S : cSt) (d : Int32) : Int32 :=
  if inR n d = true then S.2.1 11 (d.toNatClampNeg)
  else (-2)
set_option maxHeartbeats 4000000 in
set_option maxRecDepth 100000 in
theorem c_X1_refusals (l : Launch) (D : va_G) (cO : ClassId) (h ad : Nat → Nat) (md : Nat → Int32) (n : Nat) (o : Nat → Nat) (ha : (cL h ad n).Nodup) (S : cSt) (hok : cOk n o S) (d : Int32) : mR l yX1_refusals wsX1_refusals (rmz 4 85) D (cT cO) [.ref (h 0), .int d] (cW cO h ad md n o S) (C_refusals n o S d) := by
  refine Met.ofW (cc := cX1_refusals) (maxL := 3) (ret := (some .int)) (by decide) rfl ?_
  intro p e s m args below meth c s₁ B hml hv
  obtain ⟨rfl, hP, hK⟩ := hv
  have hx := B.exec
  have hb := B.bytes
  have hr := B.returns
  have hts := atoms_spec (ws := wsX1_refusals) B.pre
  have hin : ∀ w ∈ wsX10, w ∈ wsX1_refusals := fun w h => List.mem_cons_of_mem _ (List.mem_append_left _ (List.mem_append_right _ h))
  have hin0 : ∀ w ∈ wsX00, w ∈ wsX1_refusals := fun w h => List.mem_cons_of_mem _ (List.mem_append_left _ (List.mem_append_left _ (List.mem_append_right _ h)))
  have hown : s.vm.findClass RX1 = some m.cls := findClass_of_methodNamed B.named
  have hlocks := B.notSynchronized
  have hn12 : n ≤ 12 := hok.1
  have hl := lv_entry ([.ref (h 0), .int d]) (n := 3) (Nat.le_of_ble_eq_true rfl)
  rw [lg_entry_eq]
  generalize (lg_sl ([.ref (h 0), .int d]) ++ List.replicate (3 - (lg_sl ([.ref (h 0), .int d])).length) Slot.unset).toArray = ls at hl ⊢
  have hl : lv_has ls 3 [(0, .ref (h 0)), (1, .int d)] := hl
  refine lv_aload_n hx hb dX1_refusals_0 rfl (lv_at hl 0 rfl) ?_
  refine lv_iload_n hx hb dX1_refusals_1 rfl (lv_at hl 1 rfl) ?_
  refine m_callQ (As := [.int d]) (rest := []) ⟨hx, hb, hml, hown, hts⟩ (c_X1_find l D cO h ad md n o ha S hok d) (cwV 1 hts gX1_refusals_X1_find rfl rfl rfl (by decide +kernel) ⟨Nat.le_of_ble_eq_true rfl, Nat.le_of_ble_eq_true rfl⟩) hK hP (va_recv hK hP (ci := 2) (q0 := 0) rfl rfl) rfl hl.1 rfl (Nat.le_of_ble_eq_true rfl) dX1_refusals_2 ⟨Nat.zero_le _, Nat.zero_le _⟩ ?_
  by_cases hd : inR n d = true
  · obtain ⟨j, hj, rfl⟩ := inR_spec hn12 hd
    have hjc : (nI j).toNatClampNeg = j := nI_clamp (by omega)
    have hN : C_find n o S (nI j) = some j := by simp only [C_find, if_pos hd, hjc]
    rw [hN]
    refine W.eq (g2 := F0 m 5 ls (.ref (ad j) :: [])) rfl ?_
    refine lv_astore_n (lv' := [(2, .ref (ad j)), (0, .ref (h 0)), (1, .int (nI j))]) hx hb dX1_refusals_5 rfl hl (by decide) rfl (fun ls hl => ?_)
    refine lv_aload_n hx hb dX1_refusals_6 rfl (lv_at hl 0 rfl) ?_
    refine lv_ifnonnull (tgt := 15) hx hb dX1_refusals_7 (by decide) ?_
    refine lv_aload_n hx hb dX1_refusals_15 rfl (lv_at hl 0 rfl) ?_
    refine c_dget (S := S) (v := .int (S.2.1 11 j)) (i := j) hx hb hts hin0 hown hK hP (by omega) 11 (by decide) (by decide +kernel) rfl rfl dX1_refusals_16 ?_
    have hE : C_refusals n o S (nI j) = S.2.1 11 j := by first | (simp only [C_refusals, if_pos hd, hjc]; done) | (simp only [C_refusals, if_pos hd, hjc]; rfl)
    exact W.iret (v := S.2.1 11 j) hx hb hr (fun tt ht hW => ⟨S.2.1 11 j, rfl, hE.symm, ht⟩) (fun q hq => by cases hq) dX1_refusals_19
  · have hN : C_find n o S d = none := by simp only [C_find, if_neg hd]
    rw [hN]
    refine W.eq (g2 := F0 m 5 ls (.null :: [])) rfl ?_
    refine lv_astore_nN (lv' := [(2, .null), (0, .ref (h 0)), (1, .int d)]) hx hb dX1_refusals_5 rfl hl (by decide) rfl (fun ls hl => ?_)
    refine lv_aload_nN hx hb dX1_refusals_6 rfl (lv_at hl 0 rfl) ?_
    refine lv_ifnonnullN hx hb dX1_refusals_7 ?_
    refine lv_bipush (v := (-2)) hx hb dX1_refusals_10 (by decide) ?_
    refine lv_goto (tgt := 19) hx hb dX1_refusals_12 (by decide) ?_
    have hE : C_refusals n o S d = (-2) := by first | (simp only [C_refusals, if_neg hd]; done) | (simp only [C_refusals, if_neg hd]; rfl)
    exact W.iret (v := (-2)) hx hb hr (fun tt ht hW => ⟨(-2), rfl, hE.symm, ht⟩) (fun q hq => by cases hq) dX1_refusals_19

def C_tick_b (n : Nat) (o : Nat → Nat) (k : Nat) (Z : cSt) : cSt := C_passOneTick n o Z
def C_tick_it (n : Nat) (o : Nat → Nat) (S : cSt) : Nat → cSt
  | 0 => S
  | k + 1 => C_tick_b n o k (C_tick_it n o S k)
theorem C_tick_it_ok (n : Nat) (o : Nat → Nat) (S : cSt) : ∀ (k : Nat) (hok : cOk n o S), cOk n o (C_tick_it n o S k)
  | 0, hok => hok
  | k + 1, hok => C_passOneTick_ok n o _ (C_tick_it_ok n o S k hok)
def C_tick (n : Nat) (o : Nat → Nat) (S : cSt) (k : Int32) : Int32 × cSt := if C_isWithin n o S k 0 200 = 0 then (-2, S) else ((C_tick_it n o S k.toNatClampNeg).1 13 - S.1 13, C_tick_it n o S k.toNatClampNeg)
theorem C_tick_ok (n : Nat) (o : Nat → Nat) (S : cSt) (k : Int32) (hok : cOk n o S) : cOk n o (C_tick n o S k).2 := by
  unfold C_tick
  split
  · exact hok
  · exact C_tick_it_ok n o S _ hok

set_option maxHeartbeats 4000000 in
set_option maxRecDepth 100000 in
theorem c_X1_tick (l : Launch) (D : va_G) (cO : ClassId) (h ad : Nat → Nat) (md : Nat → Int32) (n : Nat) (o : Nat → Nat) (ha : (cL h ad n).Nodup) (S : cSt) (hok : cOk n o S) (k : Int32) : mI l yX1_tick wsX1_tick (rmz 8 170) D (cT cO) (cL h ad n) [.ref (h 0), .int k] (cW cO h ad md n o S) (C_tick n o S k).1 (cW cO h ad md n o (C_tick n o S k).2) := by
  intro sz
  refine Met.ofW (cc := cX1_tick) (maxL := 4) (ret := (some .int)) (by decide) rfl ?_
  intro p e s m args below meth c s₁ B hml hv
  obtain ⟨rfl, hsz, hP, hK⟩ := hv
  have hx := B.exec
  have hb := B.bytes
  have hr := B.returns
  have hts := atoms_spec (ws := wsX1_tick) B.pre
  have hin : ∀ w ∈ wsX10, w ∈ wsX1_tick := fun w h => List.mem_cons_of_mem _ (List.mem_append_left _ (List.mem_append_left _ (List.mem_append_right _ h)))
  have hin0 : ∀ w ∈ wsX00, w ∈ wsX1_tick := fun w h => List.mem_cons_of_mem _ (List.mem_append_left _ (List.mem_append_right _ h))
  have hown : s.vm.findClass RX1 = some m.cls := findClass_of_methodNamed B.named
  have hlocks := B.notSynchronized
  have hn12 : n ≤ 12 := hok.1
  subst hsz
  have hS : va_S (wA (cL h ad n) s.heap.size) s.heap s.heap [] := va_S.rf
  have hl := lv_entry ([.ref (h 0), .int k]) (n := 4) (Nat.le_of_ble_eq_true rfl)
  rw [lg_entry_eq]
  generalize (lg_sl ([.ref (h 0), .int k]) ++ List.replicate (4 - (lg_sl ([.ref (h 0), .int k])).length) Slot.unset).toArray = ls at hl ⊢
  have hl : lv_has ls 4 [(0, .ref (h 0)), (1, .int k)] := hl
  have hok0 := hok
  refine lv_iload_n hx hb dX1_tick_0 rfl (lv_at hl 1 rfl) ?_
  refine lv_iconst (v := 0) hx hb dX1_tick_1 (by decide) ?_
  refine lv_sipush (v := 200) hx hb dX1_tick_2 (by decide) ?_
  refine m_callRS (As := [.int k, .int 0, .int 200]) (rest := []) ⟨hx, hb, hml, hown, hts⟩ (c_X1_isWithin l D cO h ad md n o ha S hok k 0 200) (va_cwS 3 hts gX1_tick_X1_isWithin rfl rfl rfl (by decide +kernel) ⟨Nat.le_of_ble_eq_true rfl, Nat.le_of_ble_eq_true rfl⟩) hK hP rfl hl.1 rfl (Nat.le_of_ble_eq_true rfl) dX1_tick_5 ⟨Nat.zero_le _, Nat.zero_le _⟩ ?_
  refine lv_if_ne (tgt := 14) hx hb dX1_tick_8 (by decide) (fun c1 => ?_) (fun c1 => ?_)
  · obtain ⟨t, ht, hkt⟩ := C_within_of c1
    subst hkt
    have htc : (nI t).toNatClampNeg = t := nI_clamp (by omega)
    refine lv_aload_n hx hb dX1_tick_14 rfl (lv_at hl 0 rfl) ?_
    refine c_get (S := S) (v := .int (S.1 13)) hx hb hts hin hown hK hP 13 (by decide) (by decide +kernel) rfl rfl dX1_tick_15 ?_
    refine lv_istore_n (lv' := [(2, .int (S.1 13)), (0, .ref (h 0)), (1, .int (nI t))]) hx hb dX1_tick_18 rfl hl (by decide) rfl (fun ls hl => ?_)
    refine lv_iconst (v := 0) hx hb dX1_tick_19 (by decide) ?_
    refine lv_istore_n (lv' := [(3, .int 0), (2, .int (S.1 13)), (0, .ref (h 0)), (1, .int (nI t))]) hx hb dX1_tick_20 rfl hl (by decide) rfl (fun ls hl => ?_)
    refine w_loop (σ := Nat) (I := fun k2 H locs ls => k2 ≤ t ∧ va_P D vwCl (cW cO h ad md n o (C_tick_it n o S k2)) H ∧ va_S (wA (cL h ad n) s.heap.size) s.heap H locs ∧ lv_has ls 4 [(0, .ref (h 0)), (1, .int (nI t)), (2, .int (S.1 13)), (3, .int (nI k2))]) (fun k2 => t - k2) ?_ 0 ⟨Nat.zero_le _, hP, hS, lv_sub hl [2, 3, 1, 0] rfl⟩
    intro k2 H locs ls hI ih
    obtain ⟨hk, hP, hS, hl⟩ := hI
    have hok : cOk n o (C_tick_it n o S k2) := C_tick_it_ok n o S k2 hok0
    refine lv_iload_n hx hb dX1_tick_21 rfl (lv_at hl 3 rfl) ?_
    refine lv_iload_n hx hb dX1_tick_22 rfl (lv_at hl 1 rfl) ?_
    refine lv_icmp_ge (tgt := 36) hx hb dX1_tick_23 (by decide) (fun c3 => ?_) (fun c3 => ?_)
    · have hkn : k2 = t := Nat.le_antisymm hk ((nI_leI (by omega) (by omega)).mp c3)
      rw [hkn] at hP hl
      have hok : cOk n o (C_tick_it n o S t) := C_tick_it_ok n o S t hok0
      refine lv_aload_n hx hb dX1_tick_36 rfl (lv_at hl 0 rfl) ?_
      refine c_get (S := (C_tick_it n o S t)) (v := .int ((C_tick_it n o S t).1 13)) hx hb hts hin hown hK hP 13 (by decide) (by decide +kernel) rfl rfl dX1_tick_37 ?_
      refine lv_iload_n hx hb dX1_tick_40 rfl (lv_at hl 2 rfl) ?_
      refine lv_isub hx hb dX1_tick_41 ?_
      have hE : C_tick n o S (nI t) = (((C_tick_it n o S t).1 13) - (S.1 13), (C_tick_it n o S t)) := by first | (simp only [C_tick, if_neg c1, htc]; done) | (simp only [C_tick, if_neg c1, htc]; rfl)
      exact W.iret (v := ((C_tick_it n o S t).1 13) - (S.1 13)) hx hb hr (fun tt ht hW => ⟨⟨((C_tick_it n o S t).1 13) - (S.1 13), (), rfl, by rw [hE], by rw [ht, hE]; exact hP, va_K.moved hW.alike hK⟩, hS.F ht⟩) hS.2.2 dX1_tick_42
    · have hlt : k2 < t := Nat.lt_of_not_le (fun z => c3 ((nI_leI (by omega) (by omega)).mpr z))
      refine lv_aload_n hx hb dX1_tick_26 rfl (lv_at hl 0 rfl) ?_
      refine m_callv (As := []) (rest := []) ⟨hx, hb, hml, hown, hts⟩ (c_X1_passOneTick l D cO h ad md n o ha (C_tick_it n o S k2) hok ) (cwV 0 hts gX1_tick_X1_passOneTick rfl rfl rfl (by decide +kernel) ⟨Nat.le_of_ble_eq_true rfl, Nat.le_of_ble_eq_true rfl⟩) hK hP hS (fun q h => wA_up hS.1 q h) (va_recv hK hP (ci := 2) (q0 := 0) rfl rfl) rfl hl.1 rfl (Nat.le_of_ble_eq_true rfl) dX1_tick_27 ⟨Nat.zero_le _, Nat.zero_le _⟩ (fun H locs hP hS _ => ?_)
      have hok : cOk n o (C_passOneTick n o (C_tick_it n o S k2)) := (C_passOneTick_ok n o (C_tick_it n o S k2) hok)
      refine lv_iinc (v := nI (k2 + 1)) (lv' := [(3, .int (nI (k2 + 1))), (0, .ref (h 0)), (1, .int (nI t)), (2, .int (S.1 13))]) hx hb dX1_tick_30 hl (k := 3) rfl (nI_1 _) (by decide) rfl (fun ls hl => ?_)
      refine lv_goto (tgt := 21) hx hb dX1_tick_33 (by decide) ?_
      have hE : C_tick_it n o S (k2 + 1) = (C_passOneTick n o (C_tick_it n o S k2)) := by show C_tick_b n o k2 (C_tick_it n o S k2) = _; first | (simp only [C_tick_b, htc]; done) | (simp only [C_tick_b, htc]; rfl)
      exact ih (k2 + 1) H locs ls (by omega) ⟨by omega, by rw [hE]; exact hP, hS, lv_sub hl [1, 2, 3, 0] rfl⟩
  · refine lv_bipush (v := (-2)) hx hb dX1_tick_11 (by decide) ?_
    have hE : C_tick n o S k = ((-2), S) := by first | (simp only [C_tick, if_pos c1]; done) | (simp only [C_tick, if_pos c1]; rfl)
    exact W.iret (v := (-2)) hx hb hr (fun tt ht hW => ⟨⟨(-2), (), rfl, by rw [hE], by rw [ht, hE]; exact hP, va_K.moved hW.alike hK⟩, hS.F ht⟩) hS.2.2 dX1_tick_13

def C_figure (n : Nat) (o : Nat → Nat) (S : cSt) (k : Int32) : Int32 :=
  if k = 0 then S.1 5
  else if k = 1 then S.1 7
  else if k = 2 then S.1 8
  else if k = 3 then S.1 9
  else if k = 4 then S.1 10
  else if k = 5 then S.1 11
  else if k = 6 then nI n
  else (-2)
set_option maxHeartbeats 4000000 in
set_option maxRecDepth 100000 in
theorem c_X1_figure (l : Launch) (D : va_G) (cO : ClassId) (h ad : Nat → Nat) (md : Nat → Int32) (n : Nat) (o : Nat → Nat) (ha : (cL h ad n).Nodup) (S : cSt) (hok : cOk n o S) (k : Int32) : mR l yX1_figure wsX1_figure (rmz 1 20) D (cT cO) [.ref (h 0), .int k] (cW cO h ad md n o S) (C_figure n o S k) := by
  refine Met.ofW (cc := cX1_figure) (maxL := 2) (ret := (some .int)) (by decide) rfl ?_
  intro p e s m args below meth c s₁ B hml hv
  obtain ⟨rfl, hP, hK⟩ := hv
  have hx := B.exec
  have hb := B.bytes
  have hr := B.returns
  have hts := atoms_spec (ws := wsX1_figure) B.pre
  have hin : ∀ w ∈ wsX10, w ∈ wsX1_figure := fun w h => List.mem_cons_of_mem _ (List.mem_append_left _ (List.mem_append_right _ h))
  have hown : s.vm.findClass RX1 = some m.cls := findClass_of_methodNamed B.named
  have hlocks := B.notSynchronized
  have hn12 : n ≤ 12 := hok.1
  have hl := lv_entry ([.ref (h 0), .int k]) (n := 2) (Nat.le_of_ble_eq_true rfl)
  rw [lg_entry_eq]
  generalize (lg_sl ([.ref (h 0), .int k]) ++ List.replicate (2 - (lg_sl ([.ref (h 0), .int k])).length) Slot.unset).toArray = ls at hl ⊢
  have hl : lv_has ls 2 [(0, .ref (h 0)), (1, .int k)] := hl
  refine lv_iload_n hx hb dX1_figure_0 rfl (lv_at hl 1 rfl) ?_
  by_cases h0 : k = 0
  · subst h0
    refine lv_tableIn (off := 43) (tgt := 44) hx hb dX1_figure_1 (by decide) (by decide) (by decide) (by decide) ?_
    refine lv_aload_n hx hb dX1_figure_44 rfl (lv_at hl 0 rfl) ?_
    refine c_get (S := S) (v := .int (S.1 5)) hx hb hts hin hown hK hP 5 (by decide) (by decide +kernel) rfl rfl dX1_figure_45 ?_
    have hE : C_figure n o S 0 = S.1 5 := by first | rfl | (simp [C_figure]; done)
    exact W.iret (v := S.1 5) hx hb hr (fun tt ht hW => ⟨S.1 5, rfl, hE.symm, ht⟩) (fun q hq => by cases hq) dX1_figure_48
  · by_cases h1 : k = 1
    · subst h1
      refine lv_tableIn (off := 48) (tgt := 49) hx hb dX1_figure_1 (by decide) (by decide) (by decide) (by decide) ?_
      refine lv_aload_n hx hb dX1_figure_49 rfl (lv_at hl 0 rfl) ?_
      refine c_get (S := S) (v := .int (S.1 7)) hx hb hts hin hown hK hP 7 (by decide) (by decide +kernel) rfl rfl dX1_figure_50 ?_
      have hE : C_figure n o S 1 = S.1 7 := by first | rfl | (simp [C_figure]; done)
      exact W.iret (v := S.1 7) hx hb hr (fun tt ht hW => ⟨S.1 7, rfl, hE.symm, ht⟩) (fun q hq => by cases hq) dX1_figure_53
    · by_cases h2 : k = 2
      · subst h2
        refine lv_tableIn (off := 53) (tgt := 54) hx hb dX1_figure_1 (by decide) (by decide) (by decide) (by decide) ?_
        refine lv_aload_n hx hb dX1_figure_54 rfl (lv_at hl 0 rfl) ?_
        refine c_get (S := S) (v := .int (S.1 8)) hx hb hts hin hown hK hP 8 (by decide) (by decide +kernel) rfl rfl dX1_figure_55 ?_
        have hE : C_figure n o S 2 = S.1 8 := by first | rfl | (simp [C_figure]; done)
        exact W.iret (v := S.1 8) hx hb hr (fun tt ht hW => ⟨S.1 8, rfl, hE.symm, ht⟩) (fun q hq => by cases hq) dX1_figure_58
      · by_cases h3 : k = 3
        · subst h3
          refine lv_tableIn (off := 58) (tgt := 59) hx hb dX1_figure_1 (by decide) (by decide) (by decide) (by decide) ?_
          refine lv_aload_n hx hb dX1_figure_59 rfl (lv_at hl 0 rfl) ?_
          refine c_get (S := S) (v := .int (S.1 9)) hx hb hts hin hown hK hP 9 (by decide) (by decide +kernel) rfl rfl dX1_figure_60 ?_
          have hE : C_figure n o S 3 = S.1 9 := by first | rfl | (simp [C_figure]; done)
          exact W.iret (v := S.1 9) hx hb hr (fun tt ht hW => ⟨S.1 9, rfl, hE.symm, ht⟩) (fun q hq => by cases hq) dX1_figure_63
        · by_cases h4 : k = 4
          · subst h4
            refine lv_tableIn (off := 63) (tgt := 64) hx hb dX1_figure_1 (by decide) (by decide) (by decide) (by decide) ?_
            refine lv_aload_n hx hb dX1_figure_64 rfl (lv_at hl 0 rfl) ?_
            refine c_get (S := S) (v := .int (S.1 10)) hx hb hts hin hown hK hP 10 (by decide) (by decide +kernel) rfl rfl dX1_figure_65 ?_
            have hE : C_figure n o S 4 = S.1 10 := by first | rfl | (simp [C_figure]; done)
            exact W.iret (v := S.1 10) hx hb hr (fun tt ht hW => ⟨S.1 10, rfl, hE.symm, ht⟩) (fun q hq => by cases hq) dX1_figure_68
          · by_cases h5 : k = 5
            · subst h5
              refine lv_tableIn (off := 68) (tgt := 69) hx hb dX1_figure_1 (by decide) (by decide) (by decide) (by decide) ?_
              refine lv_aload_n hx hb dX1_figure_69 rfl (lv_at hl 0 rfl) ?_
              refine c_get (S := S) (v := .int (S.1 11)) hx hb hts hin hown hK hP 11 (by decide) (by decide +kernel) rfl rfl dX1_figure_70 ?_
              have hE : C_figure n o S 5 = S.1 11 := by first | rfl | (simp [C_figure]; done)
              exact W.iret (v := S.1 11) hx hb hr (fun tt ht hW => ⟨S.1 11, rfl, hE.symm, ht⟩) (fun q hq => by cases hq) dX1_figure_73
            · by_cases h6 : k = 6
              · subst h6
                refine lv_tableIn (off := 73) (tgt := 74) hx hb dX1_figure_1 (by decide) (by decide) (by decide) (by decide) ?_
                refine lv_aload_n hx hb dX1_figure_74 rfl (lv_at hl 0 rfl) ?_
                refine c_get (S := S) (v := .ref (h 1)) hx hb hts hin hown hK hP 0 (by decide) (by decide +kernel) rfl rfl dX1_figure_75 ?_
                refine m_callR (As := []) (rest := []) ⟨hx, hb, hml, hown, hts⟩ (c_J_size l D (cT cO) (cW cO h ad md n o S) (h 1) 1 (h 3) (md 1) (nI n) rfl) (cwV 0 hts gX1_figure_Jx4a65c_size_8abf5 rfl rfl rfl (by decide +kernel) ⟨Nat.le_of_ble_eq_true rfl, Nat.le_of_ble_eq_true rfl⟩) hK hP (va_recv hK hP (ci := 0) (q0 := 1) rfl rfl) rfl hl.1 rfl (Nat.le_of_ble_eq_true rfl) dX1_figure_78 ⟨Nat.zero_le _, Nat.zero_le _⟩ ?_
                have hE : C_figure n o S 6 = nI n := by first | rfl | (simp [C_figure]; done)
                exact W.iret (v := nI n) hx hb hr (fun tt ht hW => ⟨nI n, rfl, hE.symm, ht⟩) (fun q hq => by cases hq) dX1_figure_81
              · refine lv_tableOut (tgt := 82) hx hb dX1_figure_1 (fig_out h0 h1 h2 h3 h4 h5 h6) (by decide) ?_
                refine lv_bipush (v := (-2)) hx hb dX1_figure_82 (by decide) ?_
                have hE : C_figure n o S k = (-2) := by first | (simp only [C_figure, if_neg h0, if_neg h1, if_neg h2, if_neg h3, if_neg h4, if_neg h5, if_neg h6]; done) | (simp only [C_figure, if_neg h0, if_neg h1, if_neg h2, if_neg h3, if_neg h4, if_neg h5, if_neg h6]; rfl)
                exact W.iret (v := (-2)) hx hb hr (fun tt ht hW => ⟨(-2), rfl, hE.symm, ht⟩) (fun q hq => by cases hq) dX1_figure_84
