def R_sleep_b (k2 : Nat) (Z : rSt) : rSt :=
  (Z.1, up2 (Z.2) 6 k2 (Z.2 5 k2))
theorem R_sleep_b_sm (k2 : Nat) (Z : rSt) : rSm Z (R_sleep_b k2 Z) := by
  unfold R_sleep_b
  exact (show rSm Z (Z.1, up2 (Z.2) 6 k2 (Z.2 5 k2)) from ⟨rfl, rfl⟩)
def R_sleep_it (n : Nat) (S : rSt) : Nat → rSt
  | 0 => S
  | k2 + 1 => R_sleep_b k2 (R_sleep_it n S k2)
theorem R_sleep_it_sm (n : Nat) (S : rSt) : ∀ k, rSm S (R_sleep_it n S k)
  | 0 => rSm.rf
  | k + 1 => (R_sleep_it_sm n S k).tr (R_sleep_b_sm  k _)
theorem R_sleep_it_ok (n : Nat) (S : rSt) (k : Nat) (hok : rOk n S) : rOk n (R_sleep_it n S k) := rOk_of (R_sleep_it_sm n S k) hok
def R_sleep (n : Nat) (S : rSt) : Int32 × rSt :=
  if S.1 12 = 0 then ((R_follow n (upd ((R_sleep_it n S n).1) 12 1, (R_sleep_it n S n).2)).1 12, (R_follow n (upd ((R_sleep_it n S n).1) 12 1, (R_sleep_it n S n).2)))
  else ((-3), S)
theorem R_sleep_sm (n : Nat) (S : rSt) : rSm S (R_sleep n S).2 := by
  unfold R_sleep
  split
  · exact ((R_sleep_it_sm n S n).tr (show rSm (R_sleep_it n S n) (upd ((R_sleep_it n S n).1) 12 1, (R_sleep_it n S n).2) from ⟨rfl, rfl⟩)).tr (R_follow_sm n (upd ((R_sleep_it n S n).1) 12 1, (R_sleep_it n S n).2))
  · exact rSm.rf
theorem R_sleep_ok (n : Nat) (S : rSt) (hok : rOk n S) : rOk n (R_sleep n S).2 := rOk_of (R_sleep_sm n S) hok
set_option maxHeartbeats 4000000 in
set_option maxRecDepth 100000 in
theorem c_X2_sleep (l : Launch) (D : va_G) (cI cZ : ClassId) (a : Nat → Nat) (ha : (rL a).Nodup) (n : Nat) (S : rSt) (hok : rOk n S) : mI l yX2_sleep wsX2_sleep (rmz 5 113) D (rT cI cZ) (rL a) [.ref (a 0)] (rW cI cZ a S) (R_sleep n S).1 (rW cI cZ a (R_sleep n S).2) := by
  intro sz
  refine Met.ofW (cc := cX2_sleep) (maxL := 2) (ret := (some .int)) (by decide) rfl ?_
  intro p e s m args below meth c s₁ B hml hv
  obtain ⟨rfl, hsz, hP, hK⟩ := hv
  have hx := B.exec
  have hb := B.bytes
  have hr := B.returns
  have hts := atoms_spec (ws := wsX2_sleep) B.pre
  have hin : ∀ w ∈ wsX20, w ∈ wsX2_sleep := fun w h => List.mem_cons_of_mem _ (List.mem_append_right _ h)
  have hown : s.vm.findClass RX2 = some m.cls := findClass_of_methodNamed B.named
  have hlocks := B.notSynchronized
  have hn12 : n ≤ 12 := hok.2.1
  subst hsz
  have hS : va_S (wA (rL a) s.heap.size) s.heap s.heap [] := va_S.rf
  have hl := lv_entry ([.ref (a 0)]) (n := 2) (Nat.le_of_ble_eq_true rfl)
  rw [lg_entry_eq]
  generalize (lg_sl ([.ref (a 0)]) ++ List.replicate (2 - (lg_sl ([.ref (a 0)])).length) Slot.unset).toArray = ls at hl ⊢
  have hl : lv_has ls 2 [(0, .ref (a 0))] := hl
  have hok0 := hok
  refine lv_aload_n hx hb dX2_sleep_0 rfl (lv_at hl 0 rfl) ?_
  refine r_get (S := S) (v := .int (S.1 12)) hx hb hts hin hown hK hP 12 (by decide) (by decide +kernel) rfl rfl dX2_sleep_1 ?_
  refine lv_if_eq (tgt := 10) hx hb dX2_sleep_4 (by decide) (fun c1 => ?_) (fun c1 => ?_)
  · refine lv_iconst (v := 0) hx hb dX2_sleep_10 (by decide) ?_
    refine lv_istore_n (lv' := [(1, .int 0), (0, .ref (a 0))]) hx hb dX2_sleep_11 rfl hl (by decide) rfl (fun ls hl => ?_)
    refine w_loop (σ := Nat) (I := fun k2 H locs ls => k2 ≤ n ∧ va_P D vwCl (rW cI cZ a (R_sleep_it n S k2)) H ∧ va_S (wA (rL a) s.heap.size) s.heap H locs ∧ lv_has ls 2 [(0, .ref (a 0)), (1, .int (nI k2))]) (fun k2 => n - k2) ?_ 0 ⟨Nat.zero_le _, hP, hS, lv_sub hl [1, 0] rfl⟩
    intro k2 H locs ls hI ih
    obtain ⟨hk, hP, hS, hl⟩ := hI
    have hok : rOk n (R_sleep_it n S k2) := R_sleep_it_ok n S k2 hok0
    refine lv_iload_n hx hb dX2_sleep_12 rfl (lv_at hl 1 rfl) ?_
    refine lv_aload_n hx hb dX2_sleep_13 rfl (lv_at hl 0 rfl) ?_
    refine r_get (S := (R_sleep_it n S k2)) (v := .int (nI n)) hx hb hts hin hown hK hP 0 (by decide) (by decide +kernel) rfl (congrArg (fun z => some (Value.int z)) hok.1) dX2_sleep_14 ?_
    refine lv_icmp_ge (tgt := 38) hx hb dX2_sleep_17 (by decide) (fun c3 => ?_) (fun c3 => ?_)
    · have hkn : k2 = n := Nat.le_antisymm hk ((nI_leI (by omega) (by omega)).mp c3)
      rw [hkn] at hP hl
      have hok : rOk n (R_sleep_it n S n) := R_sleep_it_ok n S n hok0
      refine lv_aload_n hx hb dX2_sleep_38 rfl (lv_at hl 0 rfl) ?_
      refine lv_iconst (v := 1) hx hb dX2_sleep_39 (by decide) ?_
      refine r_put ha hx hb hts hin hown hK hP hS 12 (by decide) (by decide +kernel) ⟨rfl, rfl, rfl⟩ dX2_sleep_40 (fun H locs hP hS => ?_)
      have hP : va_P D vwCl (rW cI cZ a (upd ((R_sleep_it n S n).1) 12 1, (R_sleep_it n S n).2)) H := hP
      refine lv_aload_n hx hb dX2_sleep_43 rfl (lv_at hl 0 rfl) ?_
      refine m_callv (As := []) (rest := []) ⟨hx, hb, hml, hown, hts⟩ (c_X2_follow l D cI cZ a ha n (upd ((R_sleep_it n S n).1) 12 1, (R_sleep_it n S n).2) hok ) (cwV 0 hts gX2_sleep_X2_follow rfl rfl rfl (by decide +kernel) ⟨Nat.le_of_ble_eq_true rfl, Nat.le_of_ble_eq_true rfl⟩) hK hP hS (fun q h => wA_up hS.1 q h) (va_recv hK hP (ci := 3) (q0 := 0) rfl rfl) rfl hl.1 rfl (Nat.le_of_ble_eq_true rfl) dX2_sleep_44 ⟨Nat.zero_le _, Nat.zero_le _⟩ (fun H locs hP hS _ => ?_)
      have hok : rOk n (R_follow n (upd ((R_sleep_it n S n).1) 12 1, (R_sleep_it n S n).2)) := R_follow_ok n (upd ((R_sleep_it n S n).1) 12 1, (R_sleep_it n S n).2) hok
      refine lv_aload_n hx hb dX2_sleep_47 rfl (lv_at hl 0 rfl) ?_
      refine r_get (S := (R_follow n (upd ((R_sleep_it n S n).1) 12 1, (R_sleep_it n S n).2))) (v := .int ((R_follow n (upd ((R_sleep_it n S n).1) 12 1, (R_sleep_it n S n).2)).1 12)) hx hb hts hin hown hK hP 12 (by decide) (by decide +kernel) rfl rfl dX2_sleep_48 ?_
      have hE : R_sleep n S = ((R_follow n (upd ((R_sleep_it n S n).1) 12 1, (R_sleep_it n S n).2)).1 12, (R_follow n (upd ((R_sleep_it n S n).1) 12 1, (R_sleep_it n S n).2))) := by first | (simp only [R_sleep, if_pos c1]; done) | (simp only [R_sleep, if_pos c1]; rfl)
      exact W.iret (v := (R_follow n (upd ((R_sleep_it n S n).1) 12 1, (R_sleep_it n S n).2)).1 12) hx hb hr (fun tt ht hW => ⟨⟨(R_follow n (upd ((R_sleep_it n S n).1) 12 1, (R_sleep_it n S n).2)).1 12, (), rfl, by rw [hE], by rw [ht, hE]; exact hP, va_K.moved hW.alike hK⟩, hS.F ht⟩) hS.2.2 dX2_sleep_51
    · have hlt : k2 < n := Nat.lt_of_not_le (fun z => c3 ((nI_leI (by omega) (by omega)).mpr z))
      refine lv_aload_n hx hb dX2_sleep_20 rfl (lv_at hl 0 rfl) ?_
      refine r_get (S := (R_sleep_it n S k2)) (v := .ref (a 6)) hx hb hts hin hown hK hP 6 (by decide) (by decide +kernel) rfl rfl dX2_sleep_21 ?_
      refine lv_iload_n hx hb dX2_sleep_24 rfl (lv_at hl 1 rfl) ?_
      refine lv_aload_n hx hb dX2_sleep_25 rfl (lv_at hl 0 rfl) ?_
      refine r_get (S := (R_sleep_it n S k2)) (v := .ref (a 5)) hx hb hts hin hown hK hP 5 (by decide) (by decide +kernel) rfl rfl dX2_sleep_26 ?_
      refine lv_iload_n hx hb dX2_sleep_29 rfl (lv_at hl 1 rfl) ?_
      refine r_ald (S := (R_sleep_it n S k2)) (x := (R_sleep_it n S k2).2 5 k2) hx hb hK hP 5 (by decide) (j := k2) (by omega) rfl dX2_sleep_30 ?_
      refine r_ast ha hx hb hK hP hS 6 (by decide) (j := k2) (by omega) dX2_sleep_31 (fun H locs hP hS => ?_)
      have hP : va_P D vwCl (rW cI cZ a ((R_sleep_it n S k2).1, up2 ((R_sleep_it n S k2).2) 6 k2 ((R_sleep_it n S k2).2 5 k2))) H := hP
      refine lv_iinc (v := nI (k2 + 1)) (lv' := [(1, .int (nI (k2 + 1))), (0, .ref (a 0))]) hx hb dX2_sleep_32 hl (k := 1) rfl (nI_1 _) (by decide) rfl (fun ls hl => ?_)
      refine lv_goto (tgt := 12) hx hb dX2_sleep_35 (by decide) ?_
      have hE : R_sleep_it n S (k2 + 1) = ((R_sleep_it n S k2).1, up2 ((R_sleep_it n S k2).2) 6 k2 ((R_sleep_it n S k2).2 5 k2)) := by show R_sleep_b k2 (R_sleep_it n S k2) = _; first | (simp only [R_sleep_b]; done) | (simp only [R_sleep_b]; rfl)
      exact ih (k2 + 1) H locs ls (by omega) ⟨by omega, by rw [hE]; exact hP, hS, by exact lv_sub hl [1, 0] rfl⟩
  · refine lv_bipush (v := (-3)) hx hb dX2_sleep_7 (by decide) ?_
    have hE : R_sleep n S = ((-3), S) := by first | (simp only [R_sleep, if_neg c1]; done) | (simp only [R_sleep, if_neg c1]; rfl)
    exact W.iret (v := (-3)) hx hb hr (fun tt ht hW => ⟨⟨(-3), (), rfl, by rw [hE], by rw [ht, hE]; exact hP, va_K.moved hW.alike hK⟩, hS.F ht⟩) hS.2.2 dX2_sleep_9

def R_signal (n : Nat) (S : rSt) (d : Int32) : Int32 × rSt :=
  if inR n d = true then (if S.2 10 (d.toNatClampNeg) = 0 then (0, S)
    else if S.1 12 = 1 then (if S.1 12 = 2 then (1, (R_follow n (upd (S.1) 12 3, S.2)))
      else (1, (R_follow n (R_giveUp n S 2 d))))
    else if S.1 12 = 2 then (1, (R_follow n (upd (S.1) 12 3, S.2)))
    else (0, S))
  else ((-2), S)
theorem R_signal_sm (n : Nat) (S : rSt) (d : Int32) : rSm S (R_signal n S d).2 := by
  unfold R_signal
  split
  · split
    · exact rSm.rf
    · split
      · split
        · exact ((show rSm S (upd (S.1) 12 3, S.2) from ⟨rfl, rfl⟩)).tr (R_follow_sm n (upd (S.1) 12 3, S.2))
        · exact ((R_giveUp_sm n S 2 d)).tr (R_follow_sm n (R_giveUp n S 2 d))
      · split
        · exact ((show rSm S (upd (S.1) 12 3, S.2) from ⟨rfl, rfl⟩)).tr (R_follow_sm n (upd (S.1) 12 3, S.2))
        · exact rSm.rf
  · exact rSm.rf
theorem R_signal_ok (n : Nat) (S : rSt) (d : Int32) (hok : rOk n S) : rOk n (R_signal n S d).2 := rOk_of (R_signal_sm n S d) hok
set_option maxHeartbeats 4000000 in
set_option maxRecDepth 100000 in
theorem c_X2_signal (l : Launch) (D : va_G) (cI cZ : ClassId) (a : Nat → Nat) (ha : (rL a).Nodup) (n : Nat) (S : rSt) (hok : rOk n S) (d : Int32) : mI l yX2_signal wsX2_signal (rmz 5 113) D (rT cI cZ) (rL a) [.ref (a 0), .int d] (rW cI cZ a S) (R_signal n S d).1 (rW cI cZ a (R_signal n S d).2) := by
  intro sz
  refine Met.ofW (cc := cX2_signal) (maxL := 3) (ret := (some .int)) (by decide) rfl ?_
  intro p e s m args below meth c s₁ B hml hv
  obtain ⟨rfl, hsz, hP, hK⟩ := hv
  have hx := B.exec
  have hb := B.bytes
  have hr := B.returns
  have hts := atoms_spec (ws := wsX2_signal) B.pre
  have hin : ∀ w ∈ wsX20, w ∈ wsX2_signal := fun w h => List.mem_cons_of_mem _ (List.mem_append_right _ h)
  have hown : s.vm.findClass RX2 = some m.cls := findClass_of_methodNamed B.named
  have hlocks := B.notSynchronized
  have hn12 : n ≤ 12 := hok.2.1
  subst hsz
  have hS : va_S (wA (rL a) s.heap.size) s.heap s.heap [] := va_S.rf
  have hl := lv_entry ([.ref (a 0), .int d]) (n := 3) (Nat.le_of_ble_eq_true rfl)
  rw [lg_entry_eq]
  generalize (lg_sl ([.ref (a 0), .int d]) ++ List.replicate (3 - (lg_sl ([.ref (a 0), .int d])).length) Slot.unset).toArray = ls at hl ⊢
  have hl : lv_has ls 3 [(0, .ref (a 0)), (1, .int d)] := hl
  refine lv_aload_n hx hb dX2_signal_0 rfl (lv_at hl 0 rfl) ?_
  refine lv_iload_n hx hb dX2_signal_1 rfl (lv_at hl 1 rfl) ?_
  refine m_callR (As := [.int d]) (rest := []) ⟨hx, hb, hml, hown, hts⟩ (c_X2_none l D cI cZ a ha n S hok d) (cwV 1 hts gX2_signal_X2_none rfl rfl rfl (by decide +kernel) ⟨Nat.le_of_ble_eq_true rfl, Nat.le_of_ble_eq_true rfl⟩) hK hP (va_recv hK hP (ci := 3) (q0 := 0) rfl rfl) rfl hl.1 rfl (Nat.le_of_ble_eq_true rfl) dX2_signal_2 ⟨Nat.zero_le _, Nat.zero_le _⟩ ?_
  by_cases hd : inR n d = true
  · obtain ⟨j, hj, rfl⟩ := inR_spec hn12 hd
    have hjc : (nI j).toNatClampNeg = j := nI_clamp (by omega)
    have hN : R_none n S (nI j) = 0 := if_pos hd
    rw [hN]
    refine lv_if_eq (tgt := 11) hx hb dX2_signal_5 (by decide) (fun c1 => ?_) (fun c1 => ?_)
    · refine lv_aload_n hx hb dX2_signal_11 rfl (lv_at hl 0 rfl) ?_
      refine r_get (S := S) (v := .ref (a 10)) hx hb hts hin hown hK hP 10 (by decide) (by decide +kernel) rfl rfl dX2_signal_12 ?_
      refine lv_iload_n hx hb dX2_signal_15 rfl (lv_at hl 1 rfl) ?_
      refine r_zald (S := S) (x := S.2 10 j) hx hb hK hP 10 (by decide) (j := j) (by omega) rfl dX2_signal_16 ?_
      refine lv_if_eq (tgt := 40) hx hb dX2_signal_17 (by decide) (fun c2 => ?_) (fun c2 => ?_)
      · refine lv_iconst (v := 0) hx hb dX2_signal_40 (by decide) ?_
        refine lv_istore_n (lv' := [(2, .int 0), (0, .ref (a 0)), (1, .int (nI j))]) hx hb dX2_signal_41 rfl hl (by decide) rfl (fun ls hl => ?_)
        refine lv_iload_n hx hb dX2_signal_42 rfl (lv_at hl 0 rfl) ?_
        refine lv_if_ne (tgt := 48) hx hb dX2_signal_43 (by decide) (fun c3 => ?_) (fun c3 => ?_)
        · exact absurd (by decide) c3
        · refine lv_iconst (v := 0) hx hb dX2_signal_46 (by decide) ?_
          have hE : R_signal n S (nI j) = (0, S) := by first | (simp only [R_signal, if_pos hd, if_pos c2, hjc]; done) | (simp only [R_signal, if_pos hd, if_pos c2, hjc]; rfl)
          exact W.iret (v := 0) hx hb hr (fun tt ht hW => ⟨⟨0, (), rfl, by rw [hE], by rw [ht, hE]; exact hP, va_K.moved hW.alike hK⟩, hS.F ht⟩) hS.2.2 dX2_signal_47
      · refine lv_aload_n hx hb dX2_signal_20 rfl (lv_at hl 0 rfl) ?_
        refine r_get (S := S) (v := .int (S.1 12)) hx hb hts hin hown hK hP 12 (by decide) (by decide +kernel) rfl rfl dX2_signal_21 ?_
        refine lv_iconst (v := 1) hx hb dX2_signal_24 (by decide) ?_
        refine lv_icmp_eq (tgt := 36) hx hb dX2_signal_25 (by decide) (fun c4 => ?_) (fun c4 => ?_)
        · refine lv_iconst (v := 1) hx hb dX2_signal_36 (by decide) ?_
          refine lv_goto (tgt := 41) hx hb dX2_signal_37 (by decide) ?_
          refine lv_istore_n (lv' := [(2, .int 1), (0, .ref (a 0)), (1, .int (nI j))]) hx hb dX2_signal_41 rfl hl (by decide) rfl (fun ls hl => ?_)
          refine lv_iload_n hx hb dX2_signal_42 rfl (lv_at hl 0 rfl) ?_
          refine lv_if_ne (tgt := 48) hx hb dX2_signal_43 (by decide) (fun c5 => ?_) (fun c5 => ?_)
          · refine lv_aload_n hx hb dX2_signal_48 rfl (lv_at hl 1 rfl) ?_
            refine r_get (S := S) (v := .int (S.1 12)) hx hb hts hin hown hK hP 12 (by decide) (by decide +kernel) rfl rfl dX2_signal_49 ?_
            refine lv_iconst (v := 2) hx hb dX2_signal_52 (by decide) ?_
            refine lv_icmp_ne (tgt := 64) hx hb dX2_signal_53 (by decide) (fun c6 => ?_) (fun c6 => ?_)
            · refine lv_aload_n hx hb dX2_signal_64 rfl (lv_at hl 1 rfl) ?_
              refine lv_iconst (v := 2) hx hb dX2_signal_65 (by decide) ?_
              refine lv_iload_n hx hb dX2_signal_66 rfl (lv_at hl 2 rfl) ?_
              refine m_callv (As := [.int 2, .int (nI j)]) (rest := []) ⟨hx, hb, hml, hown, hts⟩ (c_X2_giveUp l D cI cZ a ha n S hok 2 (nI j)) (cwV 2 hts gX2_signal_X2_giveUp rfl rfl rfl (by decide +kernel) ⟨Nat.le_of_ble_eq_true rfl, Nat.le_of_ble_eq_true rfl⟩) hK hP hS (fun q h => wA_up hS.1 q h) (va_recv hK hP (ci := 3) (q0 := 0) rfl rfl) rfl hl.1 rfl (Nat.le_of_ble_eq_true rfl) dX2_signal_67 ⟨Nat.zero_le _, Nat.zero_le _⟩ (fun H locs hP hS _ => ?_)
              have hok : rOk n (R_giveUp n S 2 (nI j)) := R_giveUp_ok n S 2 (nI j) hok
              refine lv_aload_n hx hb dX2_signal_70 rfl (lv_at hl 1 rfl) ?_
              refine m_callv (As := []) (rest := []) ⟨hx, hb, hml, hown, hts⟩ (c_X2_follow l D cI cZ a ha n (R_giveUp n S 2 (nI j)) hok ) (cwV 0 hts gX2_signal_X2_follow rfl rfl rfl (by decide +kernel) ⟨Nat.le_of_ble_eq_true rfl, Nat.le_of_ble_eq_true rfl⟩) hK hP hS (fun q h => wA_up hS.1 q h) (va_recv hK hP (ci := 3) (q0 := 0) rfl rfl) rfl hl.1 rfl (Nat.le_of_ble_eq_true rfl) dX2_signal_71 ⟨Nat.zero_le _, Nat.zero_le _⟩ (fun H locs hP hS _ => ?_)
              have hok : rOk n (R_follow n (R_giveUp n S 2 (nI j))) := R_follow_ok n (R_giveUp n S 2 (nI j)) hok
              refine lv_iconst (v := 1) hx hb dX2_signal_74 (by decide) ?_
              have hE : R_signal n S (nI j) = (1, (R_follow n (R_giveUp n S 2 (nI j)))) := by first | (simp only [R_signal, if_pos hd, if_neg c2, if_pos c4, if_neg c6, hjc]; done) | (simp only [R_signal, if_pos hd, if_neg c2, if_pos c4, if_neg c6, hjc]; rfl)
              exact W.iret (v := 1) hx hb hr (fun tt ht hW => ⟨⟨1, (), rfl, by rw [hE], by rw [ht, hE]; exact hP, va_K.moved hW.alike hK⟩, hS.F ht⟩) hS.2.2 dX2_signal_75
            · refine lv_aload_n hx hb dX2_signal_56 rfl (lv_at hl 1 rfl) ?_
              refine lv_iconst (v := 3) hx hb dX2_signal_57 (by decide) ?_
              refine r_put ha hx hb hts hin hown hK hP hS 12 (by decide) (by decide +kernel) ⟨rfl, rfl, rfl⟩ dX2_signal_58 (fun H locs hP hS => ?_)
              have hP : va_P D vwCl (rW cI cZ a (upd (S.1) 12 3, S.2)) H := hP
              refine lv_goto (tgt := 70) hx hb dX2_signal_61 (by decide) ?_
              refine lv_aload_n hx hb dX2_signal_70 rfl (lv_at hl 1 rfl) ?_
              refine m_callv (As := []) (rest := []) ⟨hx, hb, hml, hown, hts⟩ (c_X2_follow l D cI cZ a ha n (upd (S.1) 12 3, S.2) hok ) (cwV 0 hts gX2_signal_X2_follow rfl rfl rfl (by decide +kernel) ⟨Nat.le_of_ble_eq_true rfl, Nat.le_of_ble_eq_true rfl⟩) hK hP hS (fun q h => wA_up hS.1 q h) (va_recv hK hP (ci := 3) (q0 := 0) rfl rfl) rfl hl.1 rfl (Nat.le_of_ble_eq_true rfl) dX2_signal_71 ⟨Nat.zero_le _, Nat.zero_le _⟩ (fun H locs hP hS _ => ?_)
              have hok : rOk n (R_follow n (upd (S.1) 12 3, S.2)) := R_follow_ok n (upd (S.1) 12 3, S.2) hok
              refine lv_iconst (v := 1) hx hb dX2_signal_74 (by decide) ?_
              have hE : R_signal n S (nI j) = (1, (R_follow n (upd (S.1) 12 3, S.2))) := by first | (simp only [R_signal, if_pos hd, if_neg c2, if_pos c4, if_pos c6, hjc]; done) | (simp only [R_signal, if_pos hd, if_neg c2, if_pos c4, if_pos c6, hjc]; rfl)
              exact W.iret (v := 1) hx hb hr (fun tt ht hW => ⟨⟨1, (), rfl, by rw [hE], by rw [ht, hE]; exact hP, va_K.moved hW.alike hK⟩, hS.F ht⟩) hS.2.2 dX2_signal_75
          · exact absurd c5 (by decide)
        · refine lv_aload_n hx hb dX2_signal_28 rfl (lv_at hl 0 rfl) ?_
          refine r_get (S := S) (v := .int (S.1 12)) hx hb hts hin hown hK hP 12 (by decide) (by decide +kernel) rfl rfl dX2_signal_29 ?_
          refine lv_iconst (v := 2) hx hb dX2_signal_32 (by decide) ?_
          refine lv_icmp_ne (tgt := 40) hx hb dX2_signal_33 (by decide) (fun c7 => ?_) (fun c7 => ?_)
          · refine lv_iconst (v := 0) hx hb dX2_signal_40 (by decide) ?_
            refine lv_istore_n (lv' := [(2, .int 0), (0, .ref (a 0)), (1, .int (nI j))]) hx hb dX2_signal_41 rfl hl (by decide) rfl (fun ls hl => ?_)
            refine lv_iload_n hx hb dX2_signal_42 rfl (lv_at hl 0 rfl) ?_
            refine lv_if_ne (tgt := 48) hx hb dX2_signal_43 (by decide) (fun c8 => ?_) (fun c8 => ?_)
            · exact absurd (by decide) c8
            · refine lv_iconst (v := 0) hx hb dX2_signal_46 (by decide) ?_
              have hE : R_signal n S (nI j) = (0, S) := by first | (simp only [R_signal, if_pos hd, if_neg c2, if_neg c4, if_neg c7, hjc]; done) | (simp only [R_signal, if_pos hd, if_neg c2, if_neg c4, if_neg c7, hjc]; rfl)
              exact W.iret (v := 0) hx hb hr (fun tt ht hW => ⟨⟨0, (), rfl, by rw [hE], by rw [ht, hE]; exact hP, va_K.moved hW.alike hK⟩, hS.F ht⟩) hS.2.2 dX2_signal_47
          · refine lv_iconst (v := 1) hx hb dX2_signal_36 (by decide) ?_
            refine lv_goto (tgt := 41) hx hb dX2_signal_37 (by decide) ?_
            refine lv_istore_n (lv' := [(2, .int 1), (0, .ref (a 0)), (1, .int (nI j))]) hx hb dX2_signal_41 rfl hl (by decide) rfl (fun ls hl => ?_)
            refine lv_iload_n hx hb dX2_signal_42 rfl (lv_at hl 0 rfl) ?_
            refine lv_if_ne (tgt := 48) hx hb dX2_signal_43 (by decide) (fun c9 => ?_) (fun c9 => ?_)
            · refine lv_aload_n hx hb dX2_signal_48 rfl (lv_at hl 1 rfl) ?_
              refine r_get (S := S) (v := .int (S.1 12)) hx hb hts hin hown hK hP 12 (by decide) (by decide +kernel) rfl rfl dX2_signal_49 ?_
              refine lv_iconst (v := 2) hx hb dX2_signal_52 (by decide) ?_
              refine lv_icmp_ne (tgt := 64) hx hb dX2_signal_53 (by decide) (fun c10 => ?_) (fun c10 => ?_)
              · exact absurd c7 c10
              · refine lv_aload_n hx hb dX2_signal_56 rfl (lv_at hl 1 rfl) ?_
                refine lv_iconst (v := 3) hx hb dX2_signal_57 (by decide) ?_
                refine r_put ha hx hb hts hin hown hK hP hS 12 (by decide) (by decide +kernel) ⟨rfl, rfl, rfl⟩ dX2_signal_58 (fun H locs hP hS => ?_)
                have hP : va_P D vwCl (rW cI cZ a (upd (S.1) 12 3, S.2)) H := hP
                refine lv_goto (tgt := 70) hx hb dX2_signal_61 (by decide) ?_
                refine lv_aload_n hx hb dX2_signal_70 rfl (lv_at hl 1 rfl) ?_
                refine m_callv (As := []) (rest := []) ⟨hx, hb, hml, hown, hts⟩ (c_X2_follow l D cI cZ a ha n (upd (S.1) 12 3, S.2) hok ) (cwV 0 hts gX2_signal_X2_follow rfl rfl rfl (by decide +kernel) ⟨Nat.le_of_ble_eq_true rfl, Nat.le_of_ble_eq_true rfl⟩) hK hP hS (fun q h => wA_up hS.1 q h) (va_recv hK hP (ci := 3) (q0 := 0) rfl rfl) rfl hl.1 rfl (Nat.le_of_ble_eq_true rfl) dX2_signal_71 ⟨Nat.zero_le _, Nat.zero_le _⟩ (fun H locs hP hS _ => ?_)
                have hok : rOk n (R_follow n (upd (S.1) 12 3, S.2)) := R_follow_ok n (upd (S.1) 12 3, S.2) hok
                refine lv_iconst (v := 1) hx hb dX2_signal_74 (by decide) ?_
                have hE : R_signal n S (nI j) = (1, (R_follow n (upd (S.1) 12 3, S.2))) := by first | (simp only [R_signal, if_pos hd, if_neg c2, if_neg c4, if_pos c7, hjc]; done) | (simp only [R_signal, if_pos hd, if_neg c2, if_neg c4, if_pos c7, hjc]; rfl)
                exact W.iret (v := 1) hx hb hr (fun tt ht hW => ⟨⟨1, (), rfl, by rw [hE], by rw [ht, hE]; exact hP, va_K.moved hW.alike hK⟩, hS.F ht⟩) hS.2.2 dX2_signal_75
            · exact absurd c9 (by decide)
    · exact absurd (by decide) c1
  · have hN : R_none n S d = 1 := if_neg hd
    rw [hN]
    refine lv_if_eq (tgt := 11) hx hb dX2_signal_5 (by decide) (fun c11 => ?_) (fun c11 => ?_)
    · exact absurd c11 (by decide)
    · refine lv_bipush (v := (-2)) hx hb dX2_signal_8 (by decide) ?_
      have hE : R_signal n S d = ((-2), S) := by first | (simp only [R_signal, if_neg hd]; done) | (simp only [R_signal, if_neg hd]; rfl)
      exact W.iret (v := (-2)) hx hb hr (fun tt ht hW => ⟨⟨(-2), (), rfl, by rw [hE], by rw [ht, hE]; exact hP, va_K.moved hW.alike hK⟩, hS.F ht⟩) hS.2.2 dX2_signal_10

def R_reset_b (k1 : Nat) (Z : rSt) : rSt :=
  if Z.2 5 k1 = 2 then (upd (Z.1) 23 (Z.1 23), up2 (up2 (up2 (Z.2) 5 k1 2) 7 k1 0) 8 k1 0)
  else (upd (Z.1) 23 ((Z.1 23) + 1), up2 (up2 (up2 (Z.2) 5 k1 2) 7 k1 0) 8 k1 0)
theorem R_reset_b_sm (k1 : Nat) (Z : rSt) : rSm Z (R_reset_b k1 Z) := by
  unfold R_reset_b
  split
  · exact (show rSm Z (upd (Z.1) 23 (Z.1 23), up2 (up2 (up2 (Z.2) 5 k1 2) 7 k1 0) 8 k1 0) from ⟨rfl, rfl⟩)
  · exact (show rSm Z (upd (Z.1) 23 ((Z.1 23) + 1), up2 (up2 (up2 (Z.2) 5 k1 2) 7 k1 0) 8 k1 0) from ⟨rfl, rfl⟩)
def R_reset_it (n : Nat) (S : rSt) : Nat → rSt
  | 0 => S
  | k1 + 1 => R_reset_b k1 (R_reset_it n S k1)
theorem R_reset_it_sm (n : Nat) (S : rSt) : ∀ k, rSm S (R_reset_it n S k)
  | 0 => rSm.rf
  | k + 1 => (R_reset_it_sm n S k).tr (R_reset_b_sm  k _)
theorem R_reset_it_ok (n : Nat) (S : rSt) (k : Nat) (hok : rOk n S) : rOk n (R_reset_it n S k) := rOk_of (R_reset_it_sm n S k) hok
def R_reset (n : Nat) (S : rSt) : rSt :=
  (upd (upd (upd (upd (upd (upd ((R_reset_it n S n).1) 12 0) 13 (-1)) 15 (-1)) 16 0) 19 0) 20 (((R_reset_it n S n).1 20) + 1), (R_reset_it n S n).2)
theorem R_reset_sm (n : Nat) (S : rSt) : rSm S (R_reset n S) := by
  unfold R_reset
  exact (R_reset_it_sm n S n).tr (show rSm (R_reset_it n S n) (upd (upd (upd (upd (upd (upd ((R_reset_it n S n).1) 12 0) 13 (-1)) 15 (-1)) 16 0) 19 0) 20 (((R_reset_it n S n).1 20) + 1), (R_reset_it n S n).2) from ⟨rfl, rfl⟩)
theorem R_reset_ok (n : Nat) (S : rSt) (hok : rOk n S) : rOk n (R_reset n S) := rOk_of (R_reset_sm n S) hok
set_option maxHeartbeats 4000000 in
set_option maxRecDepth 100000 in
theorem c_X2_reset (l : Launch) (D : va_G) (cI cZ : ClassId) (a : Nat → Nat) (ha : (rL a).Nodup) (n : Nat) (S : rSt) (hok : rOk n S) : mV l yX2_reset wsX2_reset (rmz 0 0) D (rT cI cZ) (rL a) [.ref (a 0)] (rW cI cZ a S) (rW cI cZ a (R_reset n S)) := by
  intro sz
  refine Met.ofW (cc := cX2_reset) (maxL := 2) (ret := none) (by decide) rfl ?_
  intro p e s m args below meth c s₁ B hml hv
  obtain ⟨rfl, hsz, hP, hK⟩ := hv
  have hx := B.exec
  have hb := B.bytes
  have hr := B.returns
  have hts := atoms_spec (ws := wsX2_reset) B.pre
  have hin : ∀ w ∈ wsX20, w ∈ wsX2_reset := fun w h => List.mem_cons_of_mem _ (List.mem_append_right _ h)
  have hown : s.vm.findClass RX2 = some m.cls := findClass_of_methodNamed B.named
  have hlocks := B.notSynchronized
  have hn12 : n ≤ 12 := hok.2.1
  subst hsz
  have hS : va_S (wA (rL a) s.heap.size) s.heap s.heap [] := va_S.rf
  have hl := lv_entry ([.ref (a 0)]) (n := 2) (Nat.le_of_ble_eq_true rfl)
  rw [lg_entry_eq]
  generalize (lg_sl ([.ref (a 0)]) ++ List.replicate (2 - (lg_sl ([.ref (a 0)])).length) Slot.unset).toArray = ls at hl ⊢
  have hl : lv_has ls 2 [(0, .ref (a 0))] := hl
  have hok0 := hok
  refine lv_iconst (v := 0) hx hb dX2_reset_0 (by decide) ?_
  refine lv_istore_n (lv' := [(1, .int 0), (0, .ref (a 0))]) hx hb dX2_reset_1 rfl hl (by decide) rfl (fun ls hl => ?_)
  refine w_loop (σ := Nat) (I := fun k1 H locs ls => k1 ≤ n ∧ va_P D vwCl (rW cI cZ a (R_reset_it n S k1)) H ∧ va_S (wA (rL a) s.heap.size) s.heap H locs ∧ lv_has ls 2 [(0, .ref (a 0)), (1, .int (nI k1))]) (fun k1 => n - k1) ?_ 0 ⟨Nat.zero_le _, hP, hS, lv_sub hl [1, 0] rfl⟩
  intro k1 H locs ls hI ih
  obtain ⟨hk, hP, hS, hl⟩ := hI
  have hok : rOk n (R_reset_it n S k1) := R_reset_it_ok n S k1 hok0
  refine lv_iload_n hx hb dX2_reset_2 rfl (lv_at hl 1 rfl) ?_
  refine lv_aload_n hx hb dX2_reset_3 rfl (lv_at hl 0 rfl) ?_
  refine r_get (S := (R_reset_it n S k1)) (v := .int (nI n)) hx hb hts hin hown hK hP 0 (by decide) (by decide +kernel) rfl (congrArg (fun z => some (Value.int z)) hok.1) dX2_reset_4 ?_
  refine lv_icmp_ge (tgt := 64) hx hb dX2_reset_7 (by decide) (fun c2 => ?_) (fun c2 => ?_)
  · have hkn : k1 = n := Nat.le_antisymm hk ((nI_leI (by omega) (by omega)).mp c2)
    rw [hkn] at hP hl
    have hok : rOk n (R_reset_it n S n) := R_reset_it_ok n S n hok0
    refine lv_aload_n hx hb dX2_reset_64 rfl (lv_at hl 0 rfl) ?_
    refine lv_iconst (v := 0) hx hb dX2_reset_65 (by decide) ?_
    refine r_put ha hx hb hts hin hown hK hP hS 12 (by decide) (by decide +kernel) ⟨rfl, rfl, rfl⟩ dX2_reset_66 (fun H locs hP hS => ?_)
    have hP : va_P D vwCl (rW cI cZ a (upd ((R_reset_it n S n).1) 12 0, (R_reset_it n S n).2)) H := hP
    refine lv_aload_n hx hb dX2_reset_69 rfl (lv_at hl 0 rfl) ?_
    refine lv_iconst (v := (-1)) hx hb dX2_reset_70 (by decide) ?_
    refine r_put ha hx hb hts hin hown hK hP hS 13 (by decide) (by decide +kernel) ⟨rfl, rfl, rfl⟩ dX2_reset_71 (fun H locs hP hS => ?_)
    have hP : va_P D vwCl (rW cI cZ a (upd (upd ((R_reset_it n S n).1) 12 0) 13 (-1), (R_reset_it n S n).2)) H := hP
    refine lv_aload_n hx hb dX2_reset_74 rfl (lv_at hl 0 rfl) ?_
    refine lv_iconst (v := (-1)) hx hb dX2_reset_75 (by decide) ?_
    refine r_put ha hx hb hts hin hown hK hP hS 15 (by decide) (by decide +kernel) ⟨rfl, rfl, rfl⟩ dX2_reset_76 (fun H locs hP hS => ?_)
    have hP : va_P D vwCl (rW cI cZ a (upd (upd (upd ((R_reset_it n S n).1) 12 0) 13 (-1)) 15 (-1), (R_reset_it n S n).2)) H := hP
    refine lv_aload_n hx hb dX2_reset_79 rfl (lv_at hl 0 rfl) ?_
    refine lv_iconst (v := 0) hx hb dX2_reset_80 (by decide) ?_
    refine r_put ha hx hb hts hin hown hK hP hS 16 (by decide) (by decide +kernel) ⟨rfl, rfl, rfl⟩ dX2_reset_81 (fun H locs hP hS => ?_)
    have hP : va_P D vwCl (rW cI cZ a (upd (upd (upd (upd ((R_reset_it n S n).1) 12 0) 13 (-1)) 15 (-1)) 16 0, (R_reset_it n S n).2)) H := hP
    refine lv_aload_n hx hb dX2_reset_84 rfl (lv_at hl 0 rfl) ?_
    refine lv_iconst (v := 0) hx hb dX2_reset_85 (by decide) ?_
    refine r_put ha hx hb hts hin hown hK hP hS 19 (by decide) (by decide +kernel) ⟨rfl, rfl, rfl⟩ dX2_reset_86 (fun H locs hP hS => ?_)
    have hP : va_P D vwCl (rW cI cZ a (upd (upd (upd (upd (upd ((R_reset_it n S n).1) 12 0) 13 (-1)) 15 (-1)) 16 0) 19 0, (R_reset_it n S n).2)) H := hP
    refine lv_aload_n hx hb dX2_reset_89 rfl (lv_at hl 0 rfl) ?_
    refine lv_dup hx hb dX2_reset_90 rfl ?_
    refine r_get (S := (upd (upd (upd (upd (upd ((R_reset_it n S n).1) 12 0) 13 (-1)) 15 (-1)) 16 0) 19 0, (R_reset_it n S n).2)) (v := .int ((R_reset_it n S n).1 20)) hx hb hts hin hown hK hP 20 (by decide) (by decide +kernel) rfl rfl dX2_reset_91 ?_
    refine lv_iconst (v := 1) hx hb dX2_reset_94 (by decide) ?_
    refine lv_iadd hx hb dX2_reset_95 ?_
    refine r_put ha hx hb hts hin hown hK hP hS 20 (by decide) (by decide +kernel) ⟨rfl, rfl, rfl⟩ dX2_reset_96 (fun H locs hP hS => ?_)
    have hP : va_P D vwCl (rW cI cZ a (upd (upd (upd (upd (upd (upd ((R_reset_it n S n).1) 12 0) 13 (-1)) 15 (-1)) 16 0) 19 0) 20 (((R_reset_it n S n).1 20) + 1), (R_reset_it n S n).2)) H := hP
    have hE : R_reset n S = (upd (upd (upd (upd (upd (upd ((R_reset_it n S n).1) 12 0) 13 (-1)) 15 (-1)) 16 0) 19 0) 20 (((R_reset_it n S n).1 20) + 1), (R_reset_it n S n).2) := by first | (simp only [R_reset]; done) | (simp only [R_reset]; rfl)
    exact W.vret hx hb hr (fun tt ht hW => ⟨⟨(), rfl, trivial, by rw [ht, hE]; exact hP, va_K.moved hW.alike hK⟩, hS.F ht⟩) hS.2.2 dX2_reset_99
  · have hlt : k1 < n := Nat.lt_of_not_le (fun z => c2 ((nI_leI (by omega) (by omega)).mpr z))
    refine lv_aload_n hx hb dX2_reset_10 rfl (lv_at hl 0 rfl) ?_
    refine lv_aload_n hx hb dX2_reset_11 rfl (lv_at hl 0 rfl) ?_
    refine r_get (S := (R_reset_it n S k1)) (v := .ref (a 5)) hx hb hts hin hown hK hP 5 (by decide) (by decide +kernel) rfl rfl dX2_reset_12 ?_
    refine lv_iload_n hx hb dX2_reset_15 rfl (lv_at hl 1 rfl) ?_
    refine r_ald (S := (R_reset_it n S k1)) (x := (R_reset_it n S k1).2 5 k1) hx hb hK hP 5 (by decide) (j := k1) (by omega) rfl dX2_reset_16 ?_
    refine lv_iconst (v := 2) hx hb dX2_reset_17 (by decide) ?_
    refine lv_icmp_ne (tgt := 28) hx hb dX2_reset_18 (by decide) (fun c3 => ?_) (fun c3 => ?_)
    · refine lv_aload_n hx hb dX2_reset_28 rfl (lv_at hl 0 rfl) ?_
      refine r_get (S := (R_reset_it n S k1)) (v := .int ((R_reset_it n S k1).1 23)) hx hb hts hin hown hK hP 23 (by decide) (by decide +kernel) rfl rfl dX2_reset_29 ?_
      refine lv_iconst (v := 1) hx hb dX2_reset_32 (by decide) ?_
      refine lv_iadd hx hb dX2_reset_33 ?_
      refine r_put ha hx hb hts hin hown hK hP hS 23 (by decide) (by decide +kernel) ⟨rfl, rfl, rfl⟩ dX2_reset_34 (fun H locs hP hS => ?_)
      have hP : va_P D vwCl (rW cI cZ a (upd ((R_reset_it n S k1).1) 23 (((R_reset_it n S k1).1 23) + 1), (R_reset_it n S k1).2)) H := hP
      refine lv_aload_n hx hb dX2_reset_37 rfl (lv_at hl 0 rfl) ?_
      refine r_get (S := (upd ((R_reset_it n S k1).1) 23 (((R_reset_it n S k1).1 23) + 1), (R_reset_it n S k1).2)) (v := .ref (a 5)) hx hb hts hin hown hK hP 5 (by decide) (by decide +kernel) rfl rfl dX2_reset_38 ?_
      refine lv_iload_n hx hb dX2_reset_41 rfl (lv_at hl 1 rfl) ?_
      refine lv_iconst (v := 2) hx hb dX2_reset_42 (by decide) ?_
      refine r_ast ha hx hb hK hP hS 5 (by decide) (j := k1) (by omega) dX2_reset_43 (fun H locs hP hS => ?_)
      have hP : va_P D vwCl (rW cI cZ a (upd ((R_reset_it n S k1).1) 23 (((R_reset_it n S k1).1 23) + 1), up2 ((R_reset_it n S k1).2) 5 k1 2)) H := hP
      refine lv_aload_n hx hb dX2_reset_44 rfl (lv_at hl 0 rfl) ?_
      refine r_get (S := (upd ((R_reset_it n S k1).1) 23 (((R_reset_it n S k1).1 23) + 1), up2 ((R_reset_it n S k1).2) 5 k1 2)) (v := .ref (a 7)) hx hb hts hin hown hK hP 7 (by decide) (by decide +kernel) rfl rfl dX2_reset_45 ?_
      refine lv_iload_n hx hb dX2_reset_48 rfl (lv_at hl 1 rfl) ?_
      refine lv_iconst (v := 0) hx hb dX2_reset_49 (by decide) ?_
      refine r_ast ha hx hb hK hP hS 7 (by decide) (j := k1) (by omega) dX2_reset_50 (fun H locs hP hS => ?_)
      have hP : va_P D vwCl (rW cI cZ a (upd ((R_reset_it n S k1).1) 23 (((R_reset_it n S k1).1 23) + 1), up2 (up2 ((R_reset_it n S k1).2) 5 k1 2) 7 k1 0)) H := hP
      refine lv_aload_n hx hb dX2_reset_51 rfl (lv_at hl 0 rfl) ?_
      refine r_get (S := (upd ((R_reset_it n S k1).1) 23 (((R_reset_it n S k1).1 23) + 1), up2 (up2 ((R_reset_it n S k1).2) 5 k1 2) 7 k1 0)) (v := .ref (a 8)) hx hb hts hin hown hK hP 8 (by decide) (by decide +kernel) rfl rfl dX2_reset_52 ?_
      refine lv_iload_n hx hb dX2_reset_55 rfl (lv_at hl 1 rfl) ?_
      refine lv_iconst (v := 0) hx hb dX2_reset_56 (by decide) ?_
      refine r_ast ha hx hb hK hP hS 8 (by decide) (j := k1) (by omega) dX2_reset_57 (fun H locs hP hS => ?_)
      have hP : va_P D vwCl (rW cI cZ a (upd ((R_reset_it n S k1).1) 23 (((R_reset_it n S k1).1 23) + 1), up2 (up2 (up2 ((R_reset_it n S k1).2) 5 k1 2) 7 k1 0) 8 k1 0)) H := hP
      refine lv_iinc (v := nI (k1 + 1)) (lv' := [(1, .int (nI (k1 + 1))), (0, .ref (a 0))]) hx hb dX2_reset_58 hl (k := 1) rfl (nI_1 _) (by decide) rfl (fun ls hl => ?_)
      refine lv_goto (tgt := 2) hx hb dX2_reset_61 (by decide) ?_
      have hE : R_reset_it n S (k1 + 1) = (upd ((R_reset_it n S k1).1) 23 (((R_reset_it n S k1).1 23) + 1), up2 (up2 (up2 ((R_reset_it n S k1).2) 5 k1 2) 7 k1 0) 8 k1 0) := by show R_reset_b k1 (R_reset_it n S k1) = _; first | (simp only [R_reset_b, if_neg c3]; done) | (simp only [R_reset_b, if_neg c3]; rfl)
      exact ih (k1 + 1) H locs ls (by omega) ⟨by omega, by rw [hE]; exact hP, hS, by exact lv_sub hl [1, 0] rfl⟩
    · refine lv_aload_n hx hb dX2_reset_21 rfl (lv_at hl 0 rfl) ?_
      refine r_get (S := (R_reset_it n S k1)) (v := .int ((R_reset_it n S k1).1 23)) hx hb hts hin hown hK hP 23 (by decide) (by decide +kernel) rfl rfl dX2_reset_22 ?_
      refine lv_goto (tgt := 34) hx hb dX2_reset_25 (by decide) ?_
      refine r_put ha hx hb hts hin hown hK hP hS 23 (by decide) (by decide +kernel) ⟨rfl, rfl, rfl⟩ dX2_reset_34 (fun H locs hP hS => ?_)
      have hP : va_P D vwCl (rW cI cZ a (upd ((R_reset_it n S k1).1) 23 ((R_reset_it n S k1).1 23), (R_reset_it n S k1).2)) H := hP
      refine lv_aload_n hx hb dX2_reset_37 rfl (lv_at hl 0 rfl) ?_
      refine r_get (S := (upd ((R_reset_it n S k1).1) 23 ((R_reset_it n S k1).1 23), (R_reset_it n S k1).2)) (v := .ref (a 5)) hx hb hts hin hown hK hP 5 (by decide) (by decide +kernel) rfl rfl dX2_reset_38 ?_
      refine lv_iload_n hx hb dX2_reset_41 rfl (lv_at hl 1 rfl) ?_
      refine lv_iconst (v := 2) hx hb dX2_reset_42 (by decide) ?_
      refine r_ast ha hx hb hK hP hS 5 (by decide) (j := k1) (by omega) dX2_reset_43 (fun H locs hP hS => ?_)
      have hP : va_P D vwCl (rW cI cZ a (upd ((R_reset_it n S k1).1) 23 ((R_reset_it n S k1).1 23), up2 ((R_reset_it n S k1).2) 5 k1 2)) H := hP
      refine lv_aload_n hx hb dX2_reset_44 rfl (lv_at hl 0 rfl) ?_
      refine r_get (S := (upd ((R_reset_it n S k1).1) 23 ((R_reset_it n S k1).1 23), up2 ((R_reset_it n S k1).2) 5 k1 2)) (v := .ref (a 7)) hx hb hts hin hown hK hP 7 (by decide) (by decide +kernel) rfl rfl dX2_reset_45 ?_
      refine lv_iload_n hx hb dX2_reset_48 rfl (lv_at hl 1 rfl) ?_
      refine lv_iconst (v := 0) hx hb dX2_reset_49 (by decide) ?_
      refine r_ast ha hx hb hK hP hS 7 (by decide) (j := k1) (by omega) dX2_reset_50 (fun H locs hP hS => ?_)
      have hP : va_P D vwCl (rW cI cZ a (upd ((R_reset_it n S k1).1) 23 ((R_reset_it n S k1).1 23), up2 (up2 ((R_reset_it n S k1).2) 5 k1 2) 7 k1 0)) H := hP
      refine lv_aload_n hx hb dX2_reset_51 rfl (lv_at hl 0 rfl) ?_
      refine r_get (S := (upd ((R_reset_it n S k1).1) 23 ((R_reset_it n S k1).1 23), up2 (up2 ((R_reset_it n S k1).2) 5 k1 2) 7 k1 0)) (v := .ref (a 8)) hx hb hts hin hown hK hP 8 (by decide) (by decide +kernel) rfl rfl dX2_reset_52 ?_
      refine lv_iload_n hx hb dX2_reset_55 rfl (lv_at hl 1 rfl) ?_
      refine lv_iconst (v := 0) hx hb dX2_reset_56 (by decide) ?_
      refine r_ast ha hx hb hK hP hS 8 (by decide) (j := k1) (by omega) dX2_reset_57 (fun H locs hP hS => ?_)
      have hP : va_P D vwCl (rW cI cZ a (upd ((R_reset_it n S k1).1) 23 ((R_reset_it n S k1).1 23), up2 (up2 (up2 ((R_reset_it n S k1).2) 5 k1 2) 7 k1 0) 8 k1 0)) H := hP
      refine lv_iinc (v := nI (k1 + 1)) (lv' := [(1, .int (nI (k1 + 1))), (0, .ref (a 0))]) hx hb dX2_reset_58 hl (k := 1) rfl (nI_1 _) (by decide) rfl (fun ls hl => ?_)
      refine lv_goto (tgt := 2) hx hb dX2_reset_61 (by decide) ?_
      have hE : R_reset_it n S (k1 + 1) = (upd ((R_reset_it n S k1).1) 23 ((R_reset_it n S k1).1 23), up2 (up2 (up2 ((R_reset_it n S k1).2) 5 k1 2) 7 k1 0) 8 k1 0) := by show R_reset_b k1 (R_reset_it n S k1) = _; first | (simp only [R_reset_b, if_pos c3]; done) | (simp only [R_reset_b, if_pos c3]; rfl)
      exact ih (k1 + 1) H locs ls (by omega) ⟨by omega, by rw [hE]; exact hP, hS, by exact lv_sub hl [1, 0] rfl⟩

def R_childOn_b (S : rSt) (d : Nat) (k1 : Nat) (x2 : Int32) : Int32 :=
  if x2 = 0 then (if ((S.2 1 (d + 1 + k1)) >>> ((nI d) &&& 31)) &&& 1 = 1 then (if S.2 5 (d + 1 + k1) = 2 then 1
      else 0)
    else 0)
  else 1
def R_childOn_it (S : rSt) (d : Nat) : Nat → Int32
  | 0 => 0
  | k1 + 1 => R_childOn_b S d k1 (R_childOn_it S d k1)
theorem nb01 {x : Int32} (h : x = 0 ∨ x = 1) : narrow .boolean (.int x) = .int x := by rcases h with rfl | rfl <;> rfl
theorem R_childOn_01 (S : rSt) (d : Nat) : ∀ k, R_childOn_it S d k = 0 ∨ R_childOn_it S d k = 1
  | 0 => Or.inl rfl
  | k + 1 => by
    have ih := R_childOn_01 S d k
    show R_childOn_b S d k (R_childOn_it S d k) = 0 ∨ R_childOn_b S d k (R_childOn_it S d k) = 1
    unfold R_childOn_b
    repeat' split
    all_goals first | exact Or.inl rfl | exact Or.inr rfl | exact ih
def R_childOn (n : Nat) (S : rSt) (d : Nat) : Int32 :=
  (R_childOn_it S d (n - (d + 1)))
set_option maxHeartbeats 4000000 in
set_option maxRecDepth 100000 in
theorem c_X2_childOn (l : Launch) (D : va_G) (cI cZ : ClassId) (a : Nat → Nat) (ha : (rL a).Nodup) (n : Nat) (S : rSt) (hok : rOk n S) (d : Nat) (hd : d < n) : mR l yX2_childOn wsX2_childOn (rmz 0 0) D (rT cI cZ) [.ref (a 0), .int (nI d)] (rW cI cZ a S) (R_childOn n S d) := by
  refine Met.ofW (cc := cX2_childOn) (maxL := 4) (ret := (some .boolean)) (by decide) rfl ?_
  intro p e s m args below meth c s₁ B hml hv
  obtain ⟨rfl, hP, hK⟩ := hv
  have hx := B.exec
  have hb := B.bytes
  have hr := B.returns
  have hts := atoms_spec (ws := wsX2_childOn) B.pre
  have hin : ∀ w ∈ wsX20, w ∈ wsX2_childOn := fun w h => List.mem_cons_of_mem _ (List.mem_append_right _ h)
  have hown : s.vm.findClass RX2 = some m.cls := findClass_of_methodNamed B.named
  have hlocks := B.notSynchronized
  have hn12 : n ≤ 12 := hok.2.1
  have hl := lv_entry ([.ref (a 0), .int (nI d)]) (n := 4) (Nat.le_of_ble_eq_true rfl)
  rw [lg_entry_eq]
  generalize (lg_sl ([.ref (a 0), .int (nI d)]) ++ List.replicate (4 - (lg_sl ([.ref (a 0), .int (nI d)])).length) Slot.unset).toArray = ls at hl ⊢
  have hl : lv_has ls 4 [(0, .ref (a 0)), (1, .int (nI d))] := hl
  refine lv_iconst (v := 0) hx hb dX2_childOn_0 (by decide) ?_
  refine lv_istore_n (lv' := [(2, .int 0), (0, .ref (a 0)), (1, .int (nI d))]) hx hb dX2_childOn_1 rfl hl (by decide) rfl (fun ls hl => ?_)
  refine lv_iload_n hx hb dX2_childOn_2 rfl (lv_at hl 2 rfl) ?_
  refine lv_iconst (v := 1) hx hb dX2_childOn_3 (by decide) ?_
  refine lv_iadd hx hb dX2_childOn_4 ?_
  refine lv_istore_n (lv' := [(3, .int ((nI d) + 1)), (2, .int 0), (0, .ref (a 0)), (1, .int (nI d))]) hx hb dX2_childOn_5 rfl hl (by decide) rfl (fun ls hl => ?_)
  have e0 : nI d + 1 = nI (d + 1 + 0) := nI_1 d
  rw [e0] at hl
  refine w_loop (σ := Nat) (I := fun k1 H locs ls => d + 1 + k1 ≤ n ∧ H = s.heap ∧ locs = [] ∧ lv_has ls 4 [(0, .ref (a 0)), (1, .int (nI d)), (2, .int ((R_childOn_it S d k1))), (3, .int (nI (d + 1 + k1)))]) (fun k1 => n - (d + 1 + k1)) ?_ 0 ⟨by omega, rfl, rfl, lv_sub hl [2, 3, 1, 0] rfl⟩
  intro k1 H locs ls hI ih
  obtain ⟨hk, rfl, rfl, hl⟩ := hI
  refine lv_iload_n hx hb dX2_childOn_6 rfl (lv_at hl 3 rfl) ?_
  refine lv_aload_n hx hb dX2_childOn_7 rfl (lv_at hl 0 rfl) ?_
  refine r_get (S := S) (v := .int (nI n)) hx hb hts hin hown hK hP 0 (by decide) (by decide +kernel) rfl (congrArg (fun z => some (Value.int z)) hok.1) dX2_childOn_8 ?_
  refine lv_icmp_ge (tgt := 54) hx hb dX2_childOn_11 (by decide) (fun c2 => ?_) (fun c2 => ?_)
  · have hkm : n ≤ d + 1 + k1 := (nI_leI (by omega) (by omega)).mp c2
    have hkn : k1 = (n - (d + 1)) := by omega
    rw [hkn] at hl
    refine lv_iload_n hx hb dX2_childOn_54 rfl (lv_at hl 2 rfl) ?_
    have hE : R_childOn n S d = (R_childOn_it S d (n - (d + 1))) := by first | (simp only [R_childOn]; done) | (simp only [R_childOn]; rfl)
    exact W.zret (v := (R_childOn_it S d (n - (d + 1)))) hx hb hr (nb01 (R_childOn_01 S d _)) (fun tt ht hW => ⟨(R_childOn_it S d (n - (d + 1))), rfl, hE.symm, ht⟩) (fun q hq => by cases hq) dX2_childOn_55
  · have hlt : d + 1 + k1 < n := Nat.lt_of_not_le (fun z => c2 ((nI_leI (by omega) (by omega)).mpr z))
    refine lv_iload_n hx hb dX2_childOn_14 rfl (lv_at hl 2 rfl) ?_
    refine lv_if_ne (tgt := 42) hx hb dX2_childOn_15 (by decide) (fun c3 => ?_) (fun c3 => ?_)
    · refine lv_iconst (v := 1) hx hb dX2_childOn_42 (by decide) ?_
      refine lv_goto (tgt := 47) hx hb dX2_childOn_43 (by decide) ?_
      refine lv_istore_n (lv' := [(2, .int 1), (0, .ref (a 0)), (1, .int (nI d)), (3, .int (nI (d + 1 + k1)))]) hx hb dX2_childOn_47 rfl hl (by decide) rfl (fun ls hl => ?_)
      refine lv_iinc (v := nI ((d + 1 + k1) + 1)) (lv' := [(3, .int (nI ((d + 1 + k1) + 1))), (2, .int 1), (0, .ref (a 0)), (1, .int (nI d))]) hx hb dX2_childOn_48 hl (k := 3) rfl (nI_1 _) (by decide) rfl (fun ls hl => ?_)
      refine lv_goto (tgt := 6) hx hb dX2_childOn_51 (by decide) ?_
      have hE : R_childOn_it S d (k1 + 1) = 1 := by show R_childOn_b S d k1 (R_childOn_it S d k1) = _; first | (simp only [R_childOn_b, if_neg c3]; done) | (simp only [R_childOn_b, if_neg c3]; rfl)
      exact ih (k1 + 1) _ _ ls (by omega) ⟨by omega, rfl, rfl, by rw [hE]; exact lv_sub hl [2, 3, 1, 0] rfl⟩
    · refine lv_aload_n hx hb dX2_childOn_18 rfl (lv_at hl 0 rfl) ?_
      refine r_get (S := S) (v := .ref (a 1)) hx hb hts hin hown hK hP 1 (by decide) (by decide +kernel) rfl rfl dX2_childOn_19 ?_
      refine lv_iload_n hx hb dX2_childOn_22 rfl (lv_at hl 3 rfl) ?_
      refine r_ald (S := S) (x := S.2 1 (d + 1 + k1)) hx hb hK hP 1 (by decide) (j := (d + 1 + k1)) (by omega) rfl dX2_childOn_23 ?_
      refine lv_iload_n hx hb dX2_childOn_24 rfl (lv_at hl 1 rfl) ?_
      refine lv_ishr hx hb dX2_childOn_25 ?_
      refine lv_iconst (v := 1) hx hb dX2_childOn_26 (by decide) ?_
      refine lv_iand hx hb dX2_childOn_27 ?_
      refine lv_iconst (v := 1) hx hb dX2_childOn_28 (by decide) ?_
      refine lv_icmp_ne (tgt := 46) hx hb dX2_childOn_29 (by decide) (fun c4 => ?_) (fun c4 => ?_)
      · refine lv_iconst (v := 0) hx hb dX2_childOn_46 (by decide) ?_
        refine lv_istore_n (lv' := [(2, .int 0), (0, .ref (a 0)), (1, .int (nI d)), (3, .int (nI (d + 1 + k1)))]) hx hb dX2_childOn_47 rfl hl (by decide) rfl (fun ls hl => ?_)
        refine lv_iinc (v := nI ((d + 1 + k1) + 1)) (lv' := [(3, .int (nI ((d + 1 + k1) + 1))), (2, .int 0), (0, .ref (a 0)), (1, .int (nI d))]) hx hb dX2_childOn_48 hl (k := 3) rfl (nI_1 _) (by decide) rfl (fun ls hl => ?_)
        refine lv_goto (tgt := 6) hx hb dX2_childOn_51 (by decide) ?_
        have hE : R_childOn_it S d (k1 + 1) = 0 := by show R_childOn_b S d k1 (R_childOn_it S d k1) = _; first | (simp only [R_childOn_b, if_pos c3, if_neg c4]; done) | (simp only [R_childOn_b, if_pos c3, if_neg c4]; rfl)
        exact ih (k1 + 1) _ _ ls (by omega) ⟨by omega, rfl, rfl, by rw [hE]; exact lv_sub hl [2, 3, 1, 0] rfl⟩
      · refine lv_aload_n hx hb dX2_childOn_32 rfl (lv_at hl 0 rfl) ?_
        refine r_get (S := S) (v := .ref (a 5)) hx hb hts hin hown hK hP 5 (by decide) (by decide +kernel) rfl rfl dX2_childOn_33 ?_
        refine lv_iload_n hx hb dX2_childOn_36 rfl (lv_at hl 3 rfl) ?_
        refine r_ald (S := S) (x := S.2 5 (d + 1 + k1)) hx hb hK hP 5 (by decide) (j := (d + 1 + k1)) (by omega) rfl dX2_childOn_37 ?_
        refine lv_iconst (v := 2) hx hb dX2_childOn_38 (by decide) ?_
        refine lv_icmp_ne (tgt := 46) hx hb dX2_childOn_39 (by decide) (fun c5 => ?_) (fun c5 => ?_)
        · refine lv_iconst (v := 0) hx hb dX2_childOn_46 (by decide) ?_
          refine lv_istore_n (lv' := [(2, .int 0), (0, .ref (a 0)), (1, .int (nI d)), (3, .int (nI (d + 1 + k1)))]) hx hb dX2_childOn_47 rfl hl (by decide) rfl (fun ls hl => ?_)
          refine lv_iinc (v := nI ((d + 1 + k1) + 1)) (lv' := [(3, .int (nI ((d + 1 + k1) + 1))), (2, .int 0), (0, .ref (a 0)), (1, .int (nI d))]) hx hb dX2_childOn_48 hl (k := 3) rfl (nI_1 _) (by decide) rfl (fun ls hl => ?_)
          refine lv_goto (tgt := 6) hx hb dX2_childOn_51 (by decide) ?_
          have hE : R_childOn_it S d (k1 + 1) = 0 := by show R_childOn_b S d k1 (R_childOn_it S d k1) = _; first | (simp only [R_childOn_b, if_pos c3, if_pos c4, if_neg c5]; done) | (simp only [R_childOn_b, if_pos c3, if_pos c4, if_neg c5]; rfl)
          exact ih (k1 + 1) _ _ ls (by omega) ⟨by omega, rfl, rfl, by rw [hE]; exact lv_sub hl [2, 3, 1, 0] rfl⟩
        · refine lv_iconst (v := 1) hx hb dX2_childOn_42 (by decide) ?_
          refine lv_goto (tgt := 47) hx hb dX2_childOn_43 (by decide) ?_
          refine lv_istore_n (lv' := [(2, .int 1), (0, .ref (a 0)), (1, .int (nI d)), (3, .int (nI (d + 1 + k1)))]) hx hb dX2_childOn_47 rfl hl (by decide) rfl (fun ls hl => ?_)
          refine lv_iinc (v := nI ((d + 1 + k1) + 1)) (lv' := [(3, .int (nI ((d + 1 + k1) + 1))), (2, .int 1), (0, .ref (a 0)), (1, .int (nI d))]) hx hb dX2_childOn_48 hl (k := 3) rfl (nI_1 _) (by decide) rfl (fun ls hl => ?_)
          refine lv_goto (tgt := 6) hx hb dX2_childOn_51 (by decide) ?_
          have hE : R_childOn_it S d (k1 + 1) = 1 := by show R_childOn_b S d k1 (R_childOn_it S d k1) = _; first | (simp only [R_childOn_b, if_pos c3, if_pos c4, if_pos c5]; done) | (simp only [R_childOn_b, if_pos c3, if_pos c4, if_pos c5]; rfl)
          exact ih (k1 + 1) _ _ ls (by omega) ⟨by omega, rfl, rfl, by rw [hE]; exact lv_sub hl [2, 3, 1, 0] rfl⟩

def R_doze1_b (n : Nat) (k1 : Nat) (Z : rSt) : rSt :=
  if Z.2 5 k1 = 2 then (if Z.2 7 k1 = 0 then (if R_childOn n Z k1 = 0 then (Z.1, up2 (Z.2) 11 k1 1)
      else (Z.1, up2 (Z.2) 11 k1 0))
    else (Z.1, up2 (Z.2) 11 k1 0))
  else (Z.1, up2 (Z.2) 11 k1 0)
theorem R_doze1_b_sm (n : Nat) (k1 : Nat) (Z : rSt) : rSm Z (R_doze1_b n k1 Z) := by
  unfold R_doze1_b
  split
  · split
    · split
      · exact (show rSm Z (Z.1, up2 (Z.2) 11 k1 1) from ⟨rfl, rfl⟩)
      · exact (show rSm Z (Z.1, up2 (Z.2) 11 k1 0) from ⟨rfl, rfl⟩)
    · exact (show rSm Z (Z.1, up2 (Z.2) 11 k1 0) from ⟨rfl, rfl⟩)
  · exact (show rSm Z (Z.1, up2 (Z.2) 11 k1 0) from ⟨rfl, rfl⟩)
def R_doze1_it (n : Nat) (S : rSt) : Nat → rSt
  | 0 => S
  | k1 + 1 => R_doze1_b n k1 (R_doze1_it n S k1)
theorem R_doze1_it_sm (n : Nat) (S : rSt) : ∀ k, rSm S (R_doze1_it n S k)
  | 0 => rSm.rf
  | k + 1 => (R_doze1_it_sm n S k).tr (R_doze1_b_sm n k _)
theorem R_doze1_it_ok (n : Nat) (S : rSt) (k : Nat) (hok : rOk n S) : rOk n (R_doze1_it n S k) := rOk_of (R_doze1_it_sm n S k) hok
def R_doze2_b (k3 : Nat) (Z : rSt) : rSt :=
  if Z.2 11 k3 = 0 then (Z.1, up2 (Z.2) 8 k3 0)
  else (Z.1, up2 (Z.2) 8 k3 ((Z.2 8 k3) + 1))
theorem R_doze2_b_sm (k3 : Nat) (Z : rSt) : rSm Z (R_doze2_b k3 Z) := by
  unfold R_doze2_b
  split
  · exact (show rSm Z (Z.1, up2 (Z.2) 8 k3 0) from ⟨rfl, rfl⟩)
  · exact (show rSm Z (Z.1, up2 (Z.2) 8 k3 ((Z.2 8 k3) + 1)) from ⟨rfl, rfl⟩)
def R_doze2_it (n : Nat) (S : rSt) : Nat → rSt
  | 0 => S
  | k3 + 1 => R_doze2_b k3 (R_doze2_it n S k3)
theorem R_doze2_it_sm (n : Nat) (S : rSt) : ∀ k, rSm S (R_doze2_it n S k)
  | 0 => rSm.rf
  | k + 1 => (R_doze2_it_sm n S k).tr (R_doze2_b_sm  k _)
theorem R_doze2_it_ok (n : Nat) (S : rSt) (k : Nat) (hok : rOk n S) : rOk n (R_doze2_it n S k) := rOk_of (R_doze2_it_sm n S k) hok
def R_doze3_b (n : Nat) (k5 : Nat) (Z : rSt) : rSt :=
  if Z.2 5 k5 = 2 then (if Z.2 4 k5 ≤ 0 then Z
    else if Z.2 8 k5 < Z.2 4 k5 then Z
    else (R_become n Z k5 1))
  else Z
theorem R_doze3_b_sm (n : Nat) (k5 : Nat) (Z : rSt) : rSm Z (R_doze3_b n k5 Z) := by
  unfold R_doze3_b
  split
  · split
    · exact rSm.rf
    · split
      · exact rSm.rf
      · exact (R_become_sm n Z k5 1)
  · exact rSm.rf
def R_doze3_it (n : Nat) (S : rSt) : Nat → rSt
  | 0 => S
  | k5 + 1 => R_doze3_b n k5 (R_doze3_it n S k5)
theorem R_doze3_it_sm (n : Nat) (S : rSt) : ∀ k, rSm S (R_doze3_it n S k)
  | 0 => rSm.rf
  | k + 1 => (R_doze3_it_sm n S k).tr (R_doze3_b_sm n k _)
theorem R_doze3_it_ok (n : Nat) (S : rSt) (k : Nat) (hok : rOk n S) : rOk n (R_doze3_it n S k) := rOk_of (R_doze3_it_sm n S k) hok
def R_doze (n : Nat) (S : rSt) : rSt :=
  (R_doze3_it n (R_doze2_it n (R_doze1_it n S n) n) n)
theorem R_doze_sm (n : Nat) (S : rSt) : rSm S (R_doze n S) := by
  unfold R_doze
  exact (R_doze1_it_sm n S n).tr ((R_doze2_it_sm n (R_doze1_it n S n) n).tr (R_doze3_it_sm n (R_doze2_it n (R_doze1_it n S n) n) n))
theorem R_doze_ok (n : Nat) (S : rSt) (hok : rOk n S) : rOk n (R_doze n S) := rOk_of (R_doze_sm n S) hok
set_option maxHeartbeats 4000000 in
set_option maxRecDepth 100000 in
theorem c_X2_doze (l : Launch) (D : va_G) (cI cZ : ClassId) (a : Nat → Nat) (ha : (rL a).Nodup) (n : Nat) (S : rSt) (hok : rOk n S) : mV l yX2_doze wsX2_doze (rmz 1 23) D (rT cI cZ) (rL a) [.ref (a 0)] (rW cI cZ a S) (rW cI cZ a (R_doze n S)) := by
  intro sz
  refine Met.ofW (cc := cX2_doze) (maxL := 2) (ret := none) (by decide) rfl ?_
  intro p e s m args below meth c s₁ B hml hv
  obtain ⟨rfl, hsz, hP, hK⟩ := hv
  have hx := B.exec
  have hb := B.bytes
  have hr := B.returns
  have hts := atoms_spec (ws := wsX2_doze) B.pre
  have hin : ∀ w ∈ wsX20, w ∈ wsX2_doze := fun w h => List.mem_cons_of_mem _ (List.mem_append_right _ h)
  have hown : s.vm.findClass RX2 = some m.cls := findClass_of_methodNamed B.named
  have hlocks := B.notSynchronized
  have hn12 : n ≤ 12 := hok.2.1
  subst hsz
  have hS : va_S (wA (rL a) s.heap.size) s.heap s.heap [] := va_S.rf
  have hl := lv_entry ([.ref (a 0)]) (n := 2) (Nat.le_of_ble_eq_true rfl)
  rw [lg_entry_eq]
  generalize (lg_sl ([.ref (a 0)]) ++ List.replicate (2 - (lg_sl ([.ref (a 0)])).length) Slot.unset).toArray = ls at hl ⊢
  have hl : lv_has ls 2 [(0, .ref (a 0))] := hl
  have hok0 := hok
  refine lv_iconst (v := 0) hx hb dX2_doze_0 (by decide) ?_
  refine lv_istore_n (lv' := [(1, .int 0), (0, .ref (a 0))]) hx hb dX2_doze_1 rfl hl (by decide) rfl (fun ls hl => ?_)
  refine w_loop (σ := Nat) (I := fun k1 H locs ls => k1 ≤ n ∧ va_P D vwCl (rW cI cZ a (R_doze1_it n S k1)) H ∧ va_S (wA (rL a) s.heap.size) s.heap H locs ∧ lv_has ls 2 [(0, .ref (a 0)), (1, .int (nI k1))]) (fun k1 => n - k1) ?_ 0 ⟨Nat.zero_le _, hP, hS, lv_sub hl [1, 0] rfl⟩
  intro k1 H locs ls hI ih
  obtain ⟨hk, hP, hS, hl⟩ := hI
  have hok : rOk n (R_doze1_it n S k1) := R_doze1_it_ok n S k1 hok0
  refine lv_iload_n hx hb dX2_doze_2 rfl (lv_at hl 1 rfl) ?_
  refine lv_aload_n hx hb dX2_doze_3 rfl (lv_at hl 0 rfl) ?_
  refine r_get (S := (R_doze1_it n S k1)) (v := .int (nI n)) hx hb hts hin hown hK hP 0 (by decide) (by decide +kernel) rfl (congrArg (fun z => some (Value.int z)) hok.1) dX2_doze_4 ?_
  refine lv_icmp_ge (tgt := 54) hx hb dX2_doze_7 (by decide) (fun c2 => ?_) (fun c2 => ?_)
  · have hkn : k1 = n := Nat.le_antisymm hk ((nI_leI (by omega) (by omega)).mp c2)
    rw [hkn] at hP hl
    have hok : rOk n (R_doze1_it n S n) := R_doze1_it_ok n S n hok0
    refine lv_iconst (v := 0) hx hb dX2_doze_54 (by decide) ?_
    refine lv_istore_n (lv' := [(1, .int 0), (0, .ref (a 0))]) hx hb dX2_doze_55 rfl hl (by decide) rfl (fun ls hl => ?_)
    refine w_loop (σ := Nat) (I := fun k3 H locs ls => k3 ≤ n ∧ va_P D vwCl (rW cI cZ a (R_doze2_it n (R_doze1_it n S n) k3)) H ∧ va_S (wA (rL a) s.heap.size) s.heap H locs ∧ lv_has ls 2 [(0, .ref (a 0)), (1, .int (nI k3))]) (fun k3 => n - k3) ?_ 0 ⟨Nat.zero_le _, hP, hS, lv_sub hl [1, 0] rfl⟩
    intro k3 H locs ls hI ih
    obtain ⟨hk, hP, hS, hl⟩ := hI
    have hok : rOk n (R_doze2_it n (R_doze1_it n S n) k3) := R_doze2_it_ok n _ k3 (R_doze1_it_ok n S n hok0)
    refine lv_iload_n hx hb dX2_doze_56 rfl (lv_at hl 1 rfl) ?_
    refine lv_aload_n hx hb dX2_doze_57 rfl (lv_at hl 0 rfl) ?_
    refine r_get (S := (R_doze2_it n (R_doze1_it n S n) k3)) (v := .int (nI n)) hx hb hts hin hown hK hP 0 (by decide) (by decide +kernel) rfl (congrArg (fun z => some (Value.int z)) hok.1) dX2_doze_58 ?_
    refine lv_icmp_ge (tgt := 97) hx hb dX2_doze_61 (by decide) (fun c4 => ?_) (fun c4 => ?_)
    · have hkn : k3 = n := Nat.le_antisymm hk ((nI_leI (by omega) (by omega)).mp c4)
      rw [hkn] at hP hl
      have hok : rOk n (R_doze2_it n (R_doze1_it n S n) n) := R_doze2_it_ok n _ n (R_doze1_it_ok n S n hok0)
      refine lv_iconst (v := 0) hx hb dX2_doze_97 (by decide) ?_
      refine lv_istore_n (lv' := [(1, .int 0), (0, .ref (a 0))]) hx hb dX2_doze_98 rfl hl (by decide) rfl (fun ls hl => ?_)
      refine w_loop (σ := Nat) (I := fun k5 H locs ls => k5 ≤ n ∧ va_P D vwCl (rW cI cZ a (R_doze3_it n (R_doze2_it n (R_doze1_it n S n) n) k5)) H ∧ va_S (wA (rL a) s.heap.size) s.heap H locs ∧ lv_has ls 2 [(0, .ref (a 0)), (1, .int (nI k5))]) (fun k5 => n - k5) ?_ 0 ⟨Nat.zero_le _, hP, hS, lv_sub hl [1, 0] rfl⟩
      intro k5 H locs ls hI ih
      obtain ⟨hk, hP, hS, hl⟩ := hI
      have hok : rOk n (R_doze3_it n (R_doze2_it n (R_doze1_it n S n) n) k5) := R_doze3_it_ok n _ k5 (R_doze2_it_ok n _ n (R_doze1_it_ok n S n hok0))
      refine lv_iload_n hx hb dX2_doze_99 rfl (lv_at hl 1 rfl) ?_
      refine lv_aload_n hx hb dX2_doze_100 rfl (lv_at hl 0 rfl) ?_
      refine r_get (S := (R_doze3_it n (R_doze2_it n (R_doze1_it n S n) n) k5)) (v := .int (nI n)) hx hb hts hin hown hK hP 0 (by decide) (by decide +kernel) rfl (congrArg (fun z => some (Value.int z)) hok.1) dX2_doze_101 ?_
      refine lv_icmp_ge (tgt := 153) hx hb dX2_doze_104 (by decide) (fun c6 => ?_) (fun c6 => ?_)
      · have hkn : k5 = n := Nat.le_antisymm hk ((nI_leI (by omega) (by omega)).mp c6)
        rw [hkn] at hP hl
        have hok : rOk n (R_doze3_it n (R_doze2_it n (R_doze1_it n S n) n) n) := R_doze3_it_ok n _ n (R_doze2_it_ok n _ n (R_doze1_it_ok n S n hok0))
        have hE : R_doze n S = (R_doze3_it n (R_doze2_it n (R_doze1_it n S n) n) n) := by first | (simp only [R_doze]; done) | (simp only [R_doze]; rfl)
        exact W.vret hx hb hr (fun tt ht hW => ⟨⟨(), rfl, trivial, by rw [ht, hE]; exact hP, va_K.moved hW.alike hK⟩, hS.F ht⟩) hS.2.2 dX2_doze_153
      · have hlt : k5 < n := Nat.lt_of_not_le (fun z => c6 ((nI_leI (by omega) (by omega)).mpr z))
        refine lv_aload_n hx hb dX2_doze_107 rfl (lv_at hl 0 rfl) ?_
        refine r_get (S := (R_doze3_it n (R_doze2_it n (R_doze1_it n S n) n) k5)) (v := .ref (a 5)) hx hb hts hin hown hK hP 5 (by decide) (by decide +kernel) rfl rfl dX2_doze_108 ?_
        refine lv_iload_n hx hb dX2_doze_111 rfl (lv_at hl 1 rfl) ?_
        refine r_ald (S := (R_doze3_it n (R_doze2_it n (R_doze1_it n S n) n) k5)) (x := (R_doze3_it n (R_doze2_it n (R_doze1_it n S n) n) k5).2 5 k5) hx hb hK hP 5 (by decide) (j := k5) (by omega) rfl dX2_doze_112 ?_
        refine lv_iconst (v := 2) hx hb dX2_doze_113 (by decide) ?_
        refine lv_icmp_ne (tgt := 147) hx hb dX2_doze_114 (by decide) (fun c7 => ?_) (fun c7 => ?_)
        · refine lv_iinc (v := nI (k5 + 1)) (lv' := [(1, .int (nI (k5 + 1))), (0, .ref (a 0))]) hx hb dX2_doze_147 hl (k := 1) rfl (nI_1 _) (by decide) rfl (fun ls hl => ?_)
          refine lv_goto (tgt := 99) hx hb dX2_doze_150 (by decide) ?_
          have hE : R_doze3_it n (R_doze2_it n (R_doze1_it n S n) n) (k5 + 1) = (R_doze3_it n (R_doze2_it n (R_doze1_it n S n) n) k5) := by show R_doze3_b n k5 (R_doze3_it n (R_doze2_it n (R_doze1_it n S n) n) k5) = _; first | (simp only [R_doze3_b, if_neg c7]; done) | (simp only [R_doze3_b, if_neg c7]; rfl)
          exact ih (k5 + 1) H locs ls (by omega) ⟨by omega, by rw [hE]; exact hP, hS, by exact lv_sub hl [1, 0] rfl⟩
        · refine lv_aload_n hx hb dX2_doze_117 rfl (lv_at hl 0 rfl) ?_
          refine r_get (S := (R_doze3_it n (R_doze2_it n (R_doze1_it n S n) n) k5)) (v := .ref (a 4)) hx hb hts hin hown hK hP 4 (by decide) (by decide +kernel) rfl rfl dX2_doze_118 ?_
          refine lv_iload_n hx hb dX2_doze_121 rfl (lv_at hl 1 rfl) ?_
          refine r_ald (S := (R_doze3_it n (R_doze2_it n (R_doze1_it n S n) n) k5)) (x := (R_doze3_it n (R_doze2_it n (R_doze1_it n S n) n) k5).2 4 k5) hx hb hK hP 4 (by decide) (j := k5) (by omega) rfl dX2_doze_122 ?_
          refine lv_if_le (tgt := 147) hx hb dX2_doze_123 (by decide) (fun c8 => ?_) (fun c8 => ?_)
          · refine lv_iinc (v := nI (k5 + 1)) (lv' := [(1, .int (nI (k5 + 1))), (0, .ref (a 0))]) hx hb dX2_doze_147 hl (k := 1) rfl (nI_1 _) (by decide) rfl (fun ls hl => ?_)
            refine lv_goto (tgt := 99) hx hb dX2_doze_150 (by decide) ?_
            have hE : R_doze3_it n (R_doze2_it n (R_doze1_it n S n) n) (k5 + 1) = (R_doze3_it n (R_doze2_it n (R_doze1_it n S n) n) k5) := by show R_doze3_b n k5 (R_doze3_it n (R_doze2_it n (R_doze1_it n S n) n) k5) = _; first | (simp only [R_doze3_b, if_pos c7, if_pos c8]; done) | (simp only [R_doze3_b, if_pos c7, if_pos c8]; rfl)
            exact ih (k5 + 1) H locs ls (by omega) ⟨by omega, by rw [hE]; exact hP, hS, by exact lv_sub hl [1, 0] rfl⟩
          · refine lv_aload_n hx hb dX2_doze_126 rfl (lv_at hl 0 rfl) ?_
            refine r_get (S := (R_doze3_it n (R_doze2_it n (R_doze1_it n S n) n) k5)) (v := .ref (a 8)) hx hb hts hin hown hK hP 8 (by decide) (by decide +kernel) rfl rfl dX2_doze_127 ?_
            refine lv_iload_n hx hb dX2_doze_130 rfl (lv_at hl 1 rfl) ?_
            refine r_ald (S := (R_doze3_it n (R_doze2_it n (R_doze1_it n S n) n) k5)) (x := (R_doze3_it n (R_doze2_it n (R_doze1_it n S n) n) k5).2 8 k5) hx hb hK hP 8 (by decide) (j := k5) (by omega) rfl dX2_doze_131 ?_
            refine lv_aload_n hx hb dX2_doze_132 rfl (lv_at hl 0 rfl) ?_
            refine r_get (S := (R_doze3_it n (R_doze2_it n (R_doze1_it n S n) n) k5)) (v := .ref (a 4)) hx hb hts hin hown hK hP 4 (by decide) (by decide +kernel) rfl rfl dX2_doze_133 ?_
            refine lv_iload_n hx hb dX2_doze_136 rfl (lv_at hl 1 rfl) ?_
            refine r_ald (S := (R_doze3_it n (R_doze2_it n (R_doze1_it n S n) n) k5)) (x := (R_doze3_it n (R_doze2_it n (R_doze1_it n S n) n) k5).2 4 k5) hx hb hK hP 4 (by decide) (j := k5) (by omega) rfl dX2_doze_137 ?_
            refine lv_icmp_lt (tgt := 147) hx hb dX2_doze_138 (by decide) (fun c9 => ?_) (fun c9 => ?_)
            · refine lv_iinc (v := nI (k5 + 1)) (lv' := [(1, .int (nI (k5 + 1))), (0, .ref (a 0))]) hx hb dX2_doze_147 hl (k := 1) rfl (nI_1 _) (by decide) rfl (fun ls hl => ?_)
              refine lv_goto (tgt := 99) hx hb dX2_doze_150 (by decide) ?_
              have hE : R_doze3_it n (R_doze2_it n (R_doze1_it n S n) n) (k5 + 1) = (R_doze3_it n (R_doze2_it n (R_doze1_it n S n) n) k5) := by show R_doze3_b n k5 (R_doze3_it n (R_doze2_it n (R_doze1_it n S n) n) k5) = _; first | (simp only [R_doze3_b, if_pos c7, if_neg c8, if_pos c9]; done) | (simp only [R_doze3_b, if_pos c7, if_neg c8, if_pos c9]; rfl)
              exact ih (k5 + 1) H locs ls (by omega) ⟨by omega, by rw [hE]; exact hP, hS, by exact lv_sub hl [1, 0] rfl⟩
            · refine lv_aload_n hx hb dX2_doze_141 rfl (lv_at hl 0 rfl) ?_
              refine lv_iload_n hx hb dX2_doze_142 rfl (lv_at hl 1 rfl) ?_
              refine lv_iconst (v := 1) hx hb dX2_doze_143 (by decide) ?_
              refine m_callv (As := [.int (nI k5), .int 1]) (rest := []) ⟨hx, hb, hml, hown, hts⟩ (c_X2_become l D cI cZ a ha n (R_doze3_it n (R_doze2_it n (R_doze1_it n S n) n) k5) hok k5 (by omega) 1) (cwV 2 hts gX2_doze_X2_become rfl rfl rfl (by decide +kernel) ⟨Nat.le_of_ble_eq_true rfl, Nat.le_of_ble_eq_true rfl⟩) hK hP hS (fun q h => wA_up hS.1 q h) (va_recv hK hP (ci := 3) (q0 := 0) rfl rfl) rfl hl.1 rfl (Nat.le_of_ble_eq_true rfl) dX2_doze_144 ⟨Nat.zero_le _, Nat.zero_le _⟩ (fun H locs hP hS _ => ?_)
              have hok : rOk n (R_become n (R_doze3_it n (R_doze2_it n (R_doze1_it n S n) n) k5) k5 1) := R_become_ok n (R_doze3_it n (R_doze2_it n (R_doze1_it n S n) n) k5) k5 1 hok
              refine lv_iinc (v := nI (k5 + 1)) (lv' := [(1, .int (nI (k5 + 1))), (0, .ref (a 0))]) hx hb dX2_doze_147 hl (k := 1) rfl (nI_1 _) (by decide) rfl (fun ls hl => ?_)
              refine lv_goto (tgt := 99) hx hb dX2_doze_150 (by decide) ?_
              have hE : R_doze3_it n (R_doze2_it n (R_doze1_it n S n) n) (k5 + 1) = (R_become n (R_doze3_it n (R_doze2_it n (R_doze1_it n S n) n) k5) k5 1) := by show R_doze3_b n k5 (R_doze3_it n (R_doze2_it n (R_doze1_it n S n) n) k5) = _; first | (simp only [R_doze3_b, if_pos c7, if_neg c8, if_neg c9]; done) | (simp only [R_doze3_b, if_pos c7, if_neg c8, if_neg c9]; rfl)
              exact ih (k5 + 1) H locs ls (by omega) ⟨by omega, by rw [hE]; exact hP, hS, by exact lv_sub hl [1, 0] rfl⟩
    · have hlt : k3 < n := Nat.lt_of_not_le (fun z => c4 ((nI_leI (by omega) (by omega)).mpr z))
      refine lv_aload_n hx hb dX2_doze_64 rfl (lv_at hl 0 rfl) ?_
      refine r_get (S := (R_doze2_it n (R_doze1_it n S n) k3)) (v := .ref (a 8)) hx hb hts hin hown hK hP 8 (by decide) (by decide +kernel) rfl rfl dX2_doze_65 ?_
      refine lv_iload_n hx hb dX2_doze_68 rfl (lv_at hl 1 rfl) ?_
      refine lv_aload_n hx hb dX2_doze_69 rfl (lv_at hl 0 rfl) ?_
      refine r_get (S := (R_doze2_it n (R_doze1_it n S n) k3)) (v := .ref (a 11)) hx hb hts hin hown hK hP 11 (by decide) (by decide +kernel) rfl rfl dX2_doze_70 ?_
      refine lv_iload_n hx hb dX2_doze_73 rfl (lv_at hl 1 rfl) ?_
      refine r_zald (S := (R_doze2_it n (R_doze1_it n S n) k3)) (x := (R_doze2_it n (R_doze1_it n S n) k3).2 11 k3) hx hb hK hP 11 (by decide) (j := k3) (by omega) rfl dX2_doze_74 ?_
      refine lv_if_eq (tgt := 89) hx hb dX2_doze_75 (by decide) (fun c10 => ?_) (fun c10 => ?_)
      · refine lv_iconst (v := 0) hx hb dX2_doze_89 (by decide) ?_
        refine r_ast ha hx hb hK hP hS 8 (by decide) (j := k3) (by omega) dX2_doze_90 (fun H locs hP hS => ?_)
        have hP : va_P D vwCl (rW cI cZ a ((R_doze2_it n (R_doze1_it n S n) k3).1, up2 ((R_doze2_it n (R_doze1_it n S n) k3).2) 8 k3 0)) H := hP
        refine lv_iinc (v := nI (k3 + 1)) (lv' := [(1, .int (nI (k3 + 1))), (0, .ref (a 0))]) hx hb dX2_doze_91 hl (k := 1) rfl (nI_1 _) (by decide) rfl (fun ls hl => ?_)
        refine lv_goto (tgt := 56) hx hb dX2_doze_94 (by decide) ?_
        have hE : R_doze2_it n (R_doze1_it n S n) (k3 + 1) = ((R_doze2_it n (R_doze1_it n S n) k3).1, up2 ((R_doze2_it n (R_doze1_it n S n) k3).2) 8 k3 0) := by show R_doze2_b k3 (R_doze2_it n (R_doze1_it n S n) k3) = _; first | (simp only [R_doze2_b, if_pos c10]; done) | (simp only [R_doze2_b, if_pos c10]; rfl)
        exact ih (k3 + 1) H locs ls (by omega) ⟨by omega, by rw [hE]; exact hP, hS, by exact lv_sub hl [1, 0] rfl⟩
      · refine lv_aload_n hx hb dX2_doze_78 rfl (lv_at hl 0 rfl) ?_
        refine r_get (S := (R_doze2_it n (R_doze1_it n S n) k3)) (v := .ref (a 8)) hx hb hts hin hown hK hP 8 (by decide) (by decide +kernel) rfl rfl dX2_doze_79 ?_
        refine lv_iload_n hx hb dX2_doze_82 rfl (lv_at hl 1 rfl) ?_
        refine r_ald (S := (R_doze2_it n (R_doze1_it n S n) k3)) (x := (R_doze2_it n (R_doze1_it n S n) k3).2 8 k3) hx hb hK hP 8 (by decide) (j := k3) (by omega) rfl dX2_doze_83 ?_
        refine lv_iconst (v := 1) hx hb dX2_doze_84 (by decide) ?_
        refine lv_iadd hx hb dX2_doze_85 ?_
        refine lv_goto (tgt := 90) hx hb dX2_doze_86 (by decide) ?_
        refine r_ast ha hx hb hK hP hS 8 (by decide) (j := k3) (by omega) dX2_doze_90 (fun H locs hP hS => ?_)
        have hP : va_P D vwCl (rW cI cZ a ((R_doze2_it n (R_doze1_it n S n) k3).1, up2 ((R_doze2_it n (R_doze1_it n S n) k3).2) 8 k3 (((R_doze2_it n (R_doze1_it n S n) k3).2 8 k3) + 1))) H := hP
        refine lv_iinc (v := nI (k3 + 1)) (lv' := [(1, .int (nI (k3 + 1))), (0, .ref (a 0))]) hx hb dX2_doze_91 hl (k := 1) rfl (nI_1 _) (by decide) rfl (fun ls hl => ?_)
        refine lv_goto (tgt := 56) hx hb dX2_doze_94 (by decide) ?_
        have hE : R_doze2_it n (R_doze1_it n S n) (k3 + 1) = ((R_doze2_it n (R_doze1_it n S n) k3).1, up2 ((R_doze2_it n (R_doze1_it n S n) k3).2) 8 k3 (((R_doze2_it n (R_doze1_it n S n) k3).2 8 k3) + 1)) := by show R_doze2_b k3 (R_doze2_it n (R_doze1_it n S n) k3) = _; first | (simp only [R_doze2_b, if_neg c10]; done) | (simp only [R_doze2_b, if_neg c10]; rfl)
        exact ih (k3 + 1) H locs ls (by omega) ⟨by omega, by rw [hE]; exact hP, hS, by exact lv_sub hl [1, 0] rfl⟩
  · have hlt : k1 < n := Nat.lt_of_not_le (fun z => c2 ((nI_leI (by omega) (by omega)).mpr z))
    refine lv_aload_n hx hb dX2_doze_10 rfl (lv_at hl 0 rfl) ?_
    refine r_get (S := (R_doze1_it n S k1)) (v := .ref (a 11)) hx hb hts hin hown hK hP 11 (by decide) (by decide +kernel) rfl rfl dX2_doze_11 ?_
    refine lv_iload_n hx hb dX2_doze_14 rfl (lv_at hl 1 rfl) ?_
    refine lv_aload_n hx hb dX2_doze_15 rfl (lv_at hl 0 rfl) ?_
    refine r_get (S := (R_doze1_it n S k1)) (v := .ref (a 5)) hx hb hts hin hown hK hP 5 (by decide) (by decide +kernel) rfl rfl dX2_doze_16 ?_
    refine lv_iload_n hx hb dX2_doze_19 rfl (lv_at hl 1 rfl) ?_
    refine r_ald (S := (R_doze1_it n S k1)) (x := (R_doze1_it n S k1).2 5 k1) hx hb hK hP 5 (by decide) (j := k1) (by omega) rfl dX2_doze_20 ?_
    refine lv_iconst (v := 2) hx hb dX2_doze_21 (by decide) ?_
    refine lv_icmp_ne (tgt := 46) hx hb dX2_doze_22 (by decide) (fun c11 => ?_) (fun c11 => ?_)
    · refine lv_iconst (v := 0) hx hb dX2_doze_46 (by decide) ?_
      refine r_zast ha hx hb hK hP hS 11 (by decide) (j := k1) (by omega) (Or.inl rfl) dX2_doze_47 (fun H locs hP hS => ?_)
      have hP : va_P D vwCl (rW cI cZ a ((R_doze1_it n S k1).1, up2 ((R_doze1_it n S k1).2) 11 k1 0)) H := hP
      refine lv_iinc (v := nI (k1 + 1)) (lv' := [(1, .int (nI (k1 + 1))), (0, .ref (a 0))]) hx hb dX2_doze_48 hl (k := 1) rfl (nI_1 _) (by decide) rfl (fun ls hl => ?_)
      refine lv_goto (tgt := 2) hx hb dX2_doze_51 (by decide) ?_
      have hE : R_doze1_it n S (k1 + 1) = ((R_doze1_it n S k1).1, up2 ((R_doze1_it n S k1).2) 11 k1 0) := by show R_doze1_b n k1 (R_doze1_it n S k1) = _; first | (simp only [R_doze1_b, if_neg c11]; done) | (simp only [R_doze1_b, if_neg c11]; rfl)
      exact ih (k1 + 1) H locs ls (by omega) ⟨by omega, by rw [hE]; exact hP, hS, by exact lv_sub hl [1, 0] rfl⟩
    · refine lv_aload_n hx hb dX2_doze_25 rfl (lv_at hl 0 rfl) ?_
      refine r_get (S := (R_doze1_it n S k1)) (v := .ref (a 7)) hx hb hts hin hown hK hP 7 (by decide) (by decide +kernel) rfl rfl dX2_doze_26 ?_
      refine lv_iload_n hx hb dX2_doze_29 rfl (lv_at hl 1 rfl) ?_
      refine r_ald (S := (R_doze1_it n S k1)) (x := (R_doze1_it n S k1).2 7 k1) hx hb hK hP 7 (by decide) (j := k1) (by omega) rfl dX2_doze_30 ?_
      refine lv_if_ne (tgt := 46) hx hb dX2_doze_31 (by decide) (fun c12 => ?_) (fun c12 => ?_)
      · refine lv_iconst (v := 0) hx hb dX2_doze_46 (by decide) ?_
        refine r_zast ha hx hb hK hP hS 11 (by decide) (j := k1) (by omega) (Or.inl rfl) dX2_doze_47 (fun H locs hP hS => ?_)
        have hP : va_P D vwCl (rW cI cZ a ((R_doze1_it n S k1).1, up2 ((R_doze1_it n S k1).2) 11 k1 0)) H := hP
        refine lv_iinc (v := nI (k1 + 1)) (lv' := [(1, .int (nI (k1 + 1))), (0, .ref (a 0))]) hx hb dX2_doze_48 hl (k := 1) rfl (nI_1 _) (by decide) rfl (fun ls hl => ?_)
        refine lv_goto (tgt := 2) hx hb dX2_doze_51 (by decide) ?_
        have hE : R_doze1_it n S (k1 + 1) = ((R_doze1_it n S k1).1, up2 ((R_doze1_it n S k1).2) 11 k1 0) := by show R_doze1_b n k1 (R_doze1_it n S k1) = _; first | (simp only [R_doze1_b, if_pos c11, if_neg c12]; done) | (simp only [R_doze1_b, if_pos c11, if_neg c12]; rfl)
        exact ih (k1 + 1) H locs ls (by omega) ⟨by omega, by rw [hE]; exact hP, hS, by exact lv_sub hl [1, 0] rfl⟩
      · refine lv_aload_n hx hb dX2_doze_34 rfl (lv_at hl 0 rfl) ?_
        refine lv_iload_n hx hb dX2_doze_35 rfl (lv_at hl 1 rfl) ?_
        refine m_callR (As := [.int (nI k1)]) (rest := [.int (nI k1), .ref (a 11)]) ⟨hx, hb, hml, hown, hts⟩ (c_X2_childOn l D cI cZ a ha n (R_doze1_it n S k1) hok k1 (by omega)) (cwV 1 hts gX2_doze_X2_childOn rfl rfl rfl (by decide +kernel) ⟨Nat.le_of_ble_eq_true rfl, Nat.le_of_ble_eq_true rfl⟩) hK hP (va_recv hK hP (ci := 3) (q0 := 0) rfl rfl) rfl hl.1 rfl (Nat.le_of_ble_eq_true rfl) dX2_doze_36 ⟨Nat.zero_le _, Nat.zero_le _⟩ ?_
        refine lv_if_ne (tgt := 46) hx hb dX2_doze_39 (by decide) (fun c13 => ?_) (fun c13 => ?_)
        · refine lv_iconst (v := 0) hx hb dX2_doze_46 (by decide) ?_
          refine r_zast ha hx hb hK hP hS 11 (by decide) (j := k1) (by omega) (Or.inl rfl) dX2_doze_47 (fun H locs hP hS => ?_)
          have hP : va_P D vwCl (rW cI cZ a ((R_doze1_it n S k1).1, up2 ((R_doze1_it n S k1).2) 11 k1 0)) H := hP
          refine lv_iinc (v := nI (k1 + 1)) (lv' := [(1, .int (nI (k1 + 1))), (0, .ref (a 0))]) hx hb dX2_doze_48 hl (k := 1) rfl (nI_1 _) (by decide) rfl (fun ls hl => ?_)
          refine lv_goto (tgt := 2) hx hb dX2_doze_51 (by decide) ?_
          have hE : R_doze1_it n S (k1 + 1) = ((R_doze1_it n S k1).1, up2 ((R_doze1_it n S k1).2) 11 k1 0) := by show R_doze1_b n k1 (R_doze1_it n S k1) = _; first | (simp only [R_doze1_b, if_pos c11, if_pos c12, if_neg c13]; done) | (simp only [R_doze1_b, if_pos c11, if_pos c12, if_neg c13]; rfl)
          exact ih (k1 + 1) H locs ls (by omega) ⟨by omega, by rw [hE]; exact hP, hS, by exact lv_sub hl [1, 0] rfl⟩
        · refine lv_iconst (v := 1) hx hb dX2_doze_42 (by decide) ?_
          refine lv_goto (tgt := 47) hx hb dX2_doze_43 (by decide) ?_
          refine r_zast ha hx hb hK hP hS 11 (by decide) (j := k1) (by omega) (Or.inr rfl) dX2_doze_47 (fun H locs hP hS => ?_)
          have hP : va_P D vwCl (rW cI cZ a ((R_doze1_it n S k1).1, up2 ((R_doze1_it n S k1).2) 11 k1 1)) H := hP
          refine lv_iinc (v := nI (k1 + 1)) (lv' := [(1, .int (nI (k1 + 1))), (0, .ref (a 0))]) hx hb dX2_doze_48 hl (k := 1) rfl (nI_1 _) (by decide) rfl (fun ls hl => ?_)
          refine lv_goto (tgt := 2) hx hb dX2_doze_51 (by decide) ?_
          have hE : R_doze1_it n S (k1 + 1) = ((R_doze1_it n S k1).1, up2 ((R_doze1_it n S k1).2) 11 k1 1) := by show R_doze1_b n k1 (R_doze1_it n S k1) = _; first | (simp only [R_doze1_b, if_pos c11, if_pos c12, if_pos c13]; done) | (simp only [R_doze1_b, if_pos c11, if_pos c12, if_pos c13]; rfl)
          exact ih (k1 + 1) H locs ls (by omega) ⟨by omega, by rw [hE]; exact hP, hS, by exact lv_sub hl [1, 0] rfl⟩

def R_work (n : Nat) (S : rSt) : rSt :=
  if (S.1 14) - 1 ≤ 0 then (if S.1 12 = 1 then (if S.2 9 ((S.1 13).toNatClampNeg) ≤ 0 then (R_follow n (R_become n (upd (upd (S.1) 14 ((S.1 14) - 1)) 13 (-1), S.2) ((S.1 13).toNatClampNeg) 0))
      else (R_follow n (R_giveUp n (upd (upd (S.1) 14 ((S.1 14) - 1)) 13 (-1), up2 (S.2) 9 ((S.1 13).toNatClampNeg) ((S.2 9 ((S.1 13).toNatClampNeg)) - 1)) 1 (S.1 13))))
    else (R_follow n (R_become n (upd (upd (S.1) 14 ((S.1 14) - 1)) 13 (-1), S.2) ((S.1 13).toNatClampNeg) 2)))
  else (upd (S.1) 14 ((S.1 14) - 1), S.2)
theorem R_work_sm (n : Nat) (S : rSt) : rSm S (R_work n S) := by
  unfold R_work
  split
  · split
    · split
      · exact (((show rSm S (upd (upd (S.1) 14 ((S.1 14) - 1)) 13 (-1), S.2) from ⟨rfl, rfl⟩)).tr (R_become_sm n (upd (upd (S.1) 14 ((S.1 14) - 1)) 13 (-1), S.2) ((S.1 13).toNatClampNeg) 0)).tr (R_follow_sm n (R_become n (upd (upd (S.1) 14 ((S.1 14) - 1)) 13 (-1), S.2) ((S.1 13).toNatClampNeg) 0))
      · exact (((show rSm S (upd (upd (S.1) 14 ((S.1 14) - 1)) 13 (-1), up2 (S.2) 9 ((S.1 13).toNatClampNeg) ((S.2 9 ((S.1 13).toNatClampNeg)) - 1)) from ⟨rfl, rfl⟩)).tr (R_giveUp_sm n (upd (upd (S.1) 14 ((S.1 14) - 1)) 13 (-1), up2 (S.2) 9 ((S.1 13).toNatClampNeg) ((S.2 9 ((S.1 13).toNatClampNeg)) - 1)) 1 (S.1 13))).tr (R_follow_sm n (R_giveUp n (upd (upd (S.1) 14 ((S.1 14) - 1)) 13 (-1), up2 (S.2) 9 ((S.1 13).toNatClampNeg) ((S.2 9 ((S.1 13).toNatClampNeg)) - 1)) 1 (S.1 13)))
    · exact (((show rSm S (upd (upd (S.1) 14 ((S.1 14) - 1)) 13 (-1), S.2) from ⟨rfl, rfl⟩)).tr (R_become_sm n (upd (upd (S.1) 14 ((S.1 14) - 1)) 13 (-1), S.2) ((S.1 13).toNatClampNeg) 2)).tr (R_follow_sm n (R_become n (upd (upd (S.1) 14 ((S.1 14) - 1)) 13 (-1), S.2) ((S.1 13).toNatClampNeg) 2))
  · exact (show rSm S (upd (S.1) 14 ((S.1 14) - 1), S.2) from ⟨rfl, rfl⟩)
theorem R_work_ok (n : Nat) (S : rSt) (hok : rOk n S) : rOk n (R_work n S) := rOk_of (R_work_sm n S) hok
set_option maxHeartbeats 4000000 in
set_option maxRecDepth 100000 in
theorem c_X2_work (l : Launch) (D : va_G) (cI cZ : ClassId) (a : Nat → Nat) (ha : (rL a).Nodup) (n : Nat) (S : rSt) (hok : rOk n S) (j : Nat) (hj : j < n) (hdj : S.1 13 = nI j) : mV l yX2_work wsX2_work (rmz 5 113) D (rT cI cZ) (rL a) [.ref (a 0)] (rW cI cZ a S) (rW cI cZ a (R_work n S)) := by
  intro sz
  refine Met.ofW (cc := cX2_work) (maxL := 2) (ret := none) (by decide) rfl ?_
  intro p e s m args below meth c s₁ B hml hv
  obtain ⟨rfl, hsz, hP, hK⟩ := hv
  have hx := B.exec
  have hb := B.bytes
  have hr := B.returns
  have hts := atoms_spec (ws := wsX2_work) B.pre
  have hin : ∀ w ∈ wsX20, w ∈ wsX2_work := fun w h => List.mem_cons_of_mem _ (List.mem_append_right _ h)
  have hown : s.vm.findClass RX2 = some m.cls := findClass_of_methodNamed B.named
  have hlocks := B.notSynchronized
  have hn12 : n ≤ 12 := hok.2.1
  subst hsz
  have hS : va_S (wA (rL a) s.heap.size) s.heap s.heap [] := va_S.rf
  have hl := lv_entry ([.ref (a 0)]) (n := 2) (Nat.le_of_ble_eq_true rfl)
  rw [lg_entry_eq]
  generalize (lg_sl ([.ref (a 0)]) ++ List.replicate (2 - (lg_sl ([.ref (a 0)])).length) Slot.unset).toArray = ls at hl ⊢
  have hl : lv_has ls 2 [(0, .ref (a 0))] := hl
  refine lv_aload_n hx hb dX2_work_0 rfl (lv_at hl 0 rfl) ?_
  refine lv_dup hx hb dX2_work_1 rfl ?_
  refine r_get (S := S) (v := .int (S.1 14)) hx hb hts hin hown hK hP 14 (by decide) (by decide +kernel) rfl rfl dX2_work_2 ?_
  refine lv_iconst (v := 1) hx hb dX2_work_5 (by decide) ?_
  refine lv_isub hx hb dX2_work_6 ?_
  refine r_put ha hx hb hts hin hown hK hP hS 14 (by decide) (by decide +kernel) ⟨rfl, rfl, rfl⟩ dX2_work_7 (fun H locs hP hS => ?_)
  have hP : va_P D vwCl (rW cI cZ a (upd (S.1) 14 ((S.1 14) - 1), S.2)) H := hP
  refine lv_aload_n hx hb dX2_work_10 rfl (lv_at hl 0 rfl) ?_
  refine r_get (S := (upd (S.1) 14 ((S.1 14) - 1), S.2)) (v := .int ((S.1 14) - 1)) hx hb hts hin hown hK hP 14 (by decide) (by decide +kernel) rfl rfl dX2_work_11 ?_
  refine lv_if_le (tgt := 18) hx hb dX2_work_14 (by decide) (fun c1 => ?_) (fun c1 => ?_)
  · refine lv_aload_n hx hb dX2_work_18 rfl (lv_at hl 0 rfl) ?_
    refine r_get (S := (upd (S.1) 14 ((S.1 14) - 1), S.2)) (v := .int (nI j)) hx hb hts hin hown hK hP 13 (by decide) (by decide +kernel) rfl (congrArg (fun z => some (Value.int z)) hdj) dX2_work_19 ?_
    refine lv_istore_n (lv' := [(1, .int (nI j)), (0, .ref (a 0))]) hx hb dX2_work_22 rfl hl (by decide) rfl (fun ls hl => ?_)
    refine lv_aload_n hx hb dX2_work_23 rfl (lv_at hl 1 rfl) ?_
    refine lv_iconst (v := (-1)) hx hb dX2_work_24 (by decide) ?_
    refine r_put ha hx hb hts hin hown hK hP hS 13 (by decide) (by decide +kernel) ⟨rfl, rfl, rfl⟩ dX2_work_25 (fun H locs hP hS => ?_)
    have hP : va_P D vwCl (rW cI cZ a (upd (upd (S.1) 14 ((S.1 14) - 1)) 13 (-1), S.2)) H := hP
    refine lv_aload_n hx hb dX2_work_28 rfl (lv_at hl 1 rfl) ?_
    refine r_get (S := (upd (upd (S.1) 14 ((S.1 14) - 1)) 13 (-1), S.2)) (v := .int (S.1 12)) hx hb hts hin hown hK hP 12 (by decide) (by decide +kernel) rfl rfl dX2_work_29 ?_
    refine lv_iconst (v := 1) hx hb dX2_work_32 (by decide) ?_
    refine lv_icmp_eq (tgt := 45) hx hb dX2_work_33 (by decide) (fun c2 => ?_) (fun c2 => ?_)
    · refine lv_aload_n hx hb dX2_work_45 rfl (lv_at hl 1 rfl) ?_
      refine r_get (S := (upd (upd (S.1) 14 ((S.1 14) - 1)) 13 (-1), S.2)) (v := .ref (a 9)) hx hb hts hin hown hK hP 9 (by decide) (by decide +kernel) rfl rfl dX2_work_46 ?_
      refine lv_iload_n hx hb dX2_work_49 rfl (lv_at hl 0 rfl) ?_
      refine r_ald (S := (upd (upd (S.1) 14 ((S.1 14) - 1)) 13 (-1), S.2)) (x := S.2 9 j) hx hb hK hP 9 (by decide) (j := j) (by omega) rfl dX2_work_50 ?_
      refine lv_if_le (tgt := 73) hx hb dX2_work_51 (by decide) (fun c3 => ?_) (fun c3 => ?_)
      · refine lv_aload_n hx hb dX2_work_73 rfl (lv_at hl 1 rfl) ?_
        refine lv_iload_n hx hb dX2_work_74 rfl (lv_at hl 0 rfl) ?_
        refine lv_iconst (v := 0) hx hb dX2_work_75 (by decide) ?_
        refine m_callv (As := [.int (nI j), .int 0]) (rest := []) ⟨hx, hb, hml, hown, hts⟩ (c_X2_become l D cI cZ a ha n (upd (upd (S.1) 14 ((S.1 14) - 1)) 13 (-1), S.2) hok j (by omega) 0) (cwV 2 hts gX2_work_X2_become rfl rfl rfl (by decide +kernel) ⟨Nat.le_of_ble_eq_true rfl, Nat.le_of_ble_eq_true rfl⟩) hK hP hS (fun q h => wA_up hS.1 q h) (va_recv hK hP (ci := 3) (q0 := 0) rfl rfl) rfl hl.1 rfl (Nat.le_of_ble_eq_true rfl) dX2_work_76 ⟨Nat.zero_le _, Nat.zero_le _⟩ (fun H locs hP hS _ => ?_)
        have hok : rOk n (R_become n (upd (upd (S.1) 14 ((S.1 14) - 1)) 13 (-1), S.2) j 0) := R_become_ok n (upd (upd (S.1) 14 ((S.1 14) - 1)) 13 (-1), S.2) j 0 hok
        refine lv_aload_n hx hb dX2_work_79 rfl (lv_at hl 1 rfl) ?_
        refine m_callv (As := []) (rest := []) ⟨hx, hb, hml, hown, hts⟩ (c_X2_follow l D cI cZ a ha n (R_become n (upd (upd (S.1) 14 ((S.1 14) - 1)) 13 (-1), S.2) j 0) hok ) (cwV 0 hts gX2_work_X2_follow rfl rfl rfl (by decide +kernel) ⟨Nat.le_of_ble_eq_true rfl, Nat.le_of_ble_eq_true rfl⟩) hK hP hS (fun q h => wA_up hS.1 q h) (va_recv hK hP (ci := 3) (q0 := 0) rfl rfl) rfl hl.1 rfl (Nat.le_of_ble_eq_true rfl) dX2_work_80 ⟨Nat.zero_le _, Nat.zero_le _⟩ (fun H locs hP hS _ => ?_)
        have hok : rOk n (R_follow n (R_become n (upd (upd (S.1) 14 ((S.1 14) - 1)) 13 (-1), S.2) j 0)) := R_follow_ok n (R_become n (upd (upd (S.1) 14 ((S.1 14) - 1)) 13 (-1), S.2) j 0) hok
        have hE : R_work n S = (R_follow n (R_become n (upd (upd (S.1) 14 ((S.1 14) - 1)) 13 (-1), S.2) j 0)) := by first | (simp only [R_work, if_pos c1, if_pos c2, if_pos c3, hdj, nI_clamp (n := j) (by omega)]; done) | (simp only [R_work, if_pos c1, if_pos c2, if_pos c3, hdj, nI_clamp (n := j) (by omega)]; rfl)
        exact W.vret hx hb hr (fun tt ht hW => ⟨⟨(), rfl, trivial, by rw [ht, hE]; exact hP, va_K.moved hW.alike hK⟩, hS.F ht⟩) hS.2.2 dX2_work_83
      · refine lv_aload_n hx hb dX2_work_54 rfl (lv_at hl 1 rfl) ?_
        refine r_get (S := (upd (upd (S.1) 14 ((S.1 14) - 1)) 13 (-1), S.2)) (v := .ref (a 9)) hx hb hts hin hown hK hP 9 (by decide) (by decide +kernel) rfl rfl dX2_work_55 ?_
        refine lv_iload_n hx hb dX2_work_58 rfl (lv_at hl 0 rfl) ?_
        refine lv_dup2_11 hx hb dX2_work_59 rfl rfl ?_
        refine r_ald (S := (upd (upd (S.1) 14 ((S.1 14) - 1)) 13 (-1), S.2)) (x := S.2 9 j) hx hb hK hP 9 (by decide) (j := j) (by omega) rfl dX2_work_60 ?_
        refine lv_iconst (v := 1) hx hb dX2_work_61 (by decide) ?_
        refine lv_isub hx hb dX2_work_62 ?_
        refine r_ast ha hx hb hK hP hS 9 (by decide) (j := j) (by omega) dX2_work_63 (fun H locs hP hS => ?_)
        have hP : va_P D vwCl (rW cI cZ a (upd (upd (S.1) 14 ((S.1 14) - 1)) 13 (-1), up2 (S.2) 9 j ((S.2 9 j) - 1))) H := hP
        refine lv_aload_n hx hb dX2_work_64 rfl (lv_at hl 1 rfl) ?_
        refine lv_iconst (v := 1) hx hb dX2_work_65 (by decide) ?_
        refine lv_iload_n hx hb dX2_work_66 rfl (lv_at hl 0 rfl) ?_
        refine m_callv (As := [.int 1, .int (nI j)]) (rest := []) ⟨hx, hb, hml, hown, hts⟩ (c_X2_giveUp l D cI cZ a ha n (upd (upd (S.1) 14 ((S.1 14) - 1)) 13 (-1), up2 (S.2) 9 j ((S.2 9 j) - 1)) hok 1 (nI j)) (cwV 2 hts gX2_work_X2_giveUp rfl rfl rfl (by decide +kernel) ⟨Nat.le_of_ble_eq_true rfl, Nat.le_of_ble_eq_true rfl⟩) hK hP hS (fun q h => wA_up hS.1 q h) (va_recv hK hP (ci := 3) (q0 := 0) rfl rfl) rfl hl.1 rfl (Nat.le_of_ble_eq_true rfl) dX2_work_67 ⟨Nat.zero_le _, Nat.zero_le _⟩ (fun H locs hP hS _ => ?_)
        have hok : rOk n (R_giveUp n (upd (upd (S.1) 14 ((S.1 14) - 1)) 13 (-1), up2 (S.2) 9 j ((S.2 9 j) - 1)) 1 (nI j)) := R_giveUp_ok n (upd (upd (S.1) 14 ((S.1 14) - 1)) 13 (-1), up2 (S.2) 9 j ((S.2 9 j) - 1)) 1 (nI j) hok
        refine lv_goto (tgt := 79) hx hb dX2_work_70 (by decide) ?_
        refine lv_aload_n hx hb dX2_work_79 rfl (lv_at hl 1 rfl) ?_
        refine m_callv (As := []) (rest := []) ⟨hx, hb, hml, hown, hts⟩ (c_X2_follow l D cI cZ a ha n (R_giveUp n (upd (upd (S.1) 14 ((S.1 14) - 1)) 13 (-1), up2 (S.2) 9 j ((S.2 9 j) - 1)) 1 (nI j)) hok ) (cwV 0 hts gX2_work_X2_follow rfl rfl rfl (by decide +kernel) ⟨Nat.le_of_ble_eq_true rfl, Nat.le_of_ble_eq_true rfl⟩) hK hP hS (fun q h => wA_up hS.1 q h) (va_recv hK hP (ci := 3) (q0 := 0) rfl rfl) rfl hl.1 rfl (Nat.le_of_ble_eq_true rfl) dX2_work_80 ⟨Nat.zero_le _, Nat.zero_le _⟩ (fun H locs hP hS _ => ?_)
        have hok : rOk n (R_follow n (R_giveUp n (upd (upd (S.1) 14 ((S.1 14) - 1)) 13 (-1), up2 (S.2) 9 j ((S.2 9 j) - 1)) 1 (nI j))) := R_follow_ok n (R_giveUp n (upd (upd (S.1) 14 ((S.1 14) - 1)) 13 (-1), up2 (S.2) 9 j ((S.2 9 j) - 1)) 1 (nI j)) hok
        have hE : R_work n S = (R_follow n (R_giveUp n (upd (upd (S.1) 14 ((S.1 14) - 1)) 13 (-1), up2 (S.2) 9 j ((S.2 9 j) - 1)) 1 (nI j))) := by first | (simp only [R_work, if_pos c1, if_pos c2, if_neg c3, hdj, nI_clamp (n := j) (by omega)]; done) | (simp only [R_work, if_pos c1, if_pos c2, if_neg c3, hdj, nI_clamp (n := j) (by omega)]; rfl)
        exact W.vret hx hb hr (fun tt ht hW => ⟨⟨(), rfl, trivial, by rw [ht, hE]; exact hP, va_K.moved hW.alike hK⟩, hS.F ht⟩) hS.2.2 dX2_work_83
    · refine lv_aload_n hx hb dX2_work_36 rfl (lv_at hl 1 rfl) ?_
      refine lv_iload_n hx hb dX2_work_37 rfl (lv_at hl 0 rfl) ?_
      refine lv_iconst (v := 2) hx hb dX2_work_38 (by decide) ?_
      refine m_callv (As := [.int (nI j), .int 2]) (rest := []) ⟨hx, hb, hml, hown, hts⟩ (c_X2_become l D cI cZ a ha n (upd (upd (S.1) 14 ((S.1 14) - 1)) 13 (-1), S.2) hok j (by omega) 2) (cwV 2 hts gX2_work_X2_become rfl rfl rfl (by decide +kernel) ⟨Nat.le_of_ble_eq_true rfl, Nat.le_of_ble_eq_true rfl⟩) hK hP hS (fun q h => wA_up hS.1 q h) (va_recv hK hP (ci := 3) (q0 := 0) rfl rfl) rfl hl.1 rfl (Nat.le_of_ble_eq_true rfl) dX2_work_39 ⟨Nat.zero_le _, Nat.zero_le _⟩ (fun H locs hP hS _ => ?_)
      have hok : rOk n (R_become n (upd (upd (S.1) 14 ((S.1 14) - 1)) 13 (-1), S.2) j 2) := R_become_ok n (upd (upd (S.1) 14 ((S.1 14) - 1)) 13 (-1), S.2) j 2 hok
      refine lv_goto (tgt := 79) hx hb dX2_work_42 (by decide) ?_
      refine lv_aload_n hx hb dX2_work_79 rfl (lv_at hl 1 rfl) ?_
      refine m_callv (As := []) (rest := []) ⟨hx, hb, hml, hown, hts⟩ (c_X2_follow l D cI cZ a ha n (R_become n (upd (upd (S.1) 14 ((S.1 14) - 1)) 13 (-1), S.2) j 2) hok ) (cwV 0 hts gX2_work_X2_follow rfl rfl rfl (by decide +kernel) ⟨Nat.le_of_ble_eq_true rfl, Nat.le_of_ble_eq_true rfl⟩) hK hP hS (fun q h => wA_up hS.1 q h) (va_recv hK hP (ci := 3) (q0 := 0) rfl rfl) rfl hl.1 rfl (Nat.le_of_ble_eq_true rfl) dX2_work_80 ⟨Nat.zero_le _, Nat.zero_le _⟩ (fun H locs hP hS _ => ?_)
      have hok : rOk n (R_follow n (R_become n (upd (upd (S.1) 14 ((S.1 14) - 1)) 13 (-1), S.2) j 2)) := R_follow_ok n (R_become n (upd (upd (S.1) 14 ((S.1 14) - 1)) 13 (-1), S.2) j 2) hok
      have hE : R_work n S = (R_follow n (R_become n (upd (upd (S.1) 14 ((S.1 14) - 1)) 13 (-1), S.2) j 2)) := by first | (simp only [R_work, if_pos c1, if_neg c2, hdj, nI_clamp (n := j) (by omega)]; done) | (simp only [R_work, if_pos c1, if_neg c2, hdj, nI_clamp (n := j) (by omega)]; rfl)
      exact W.vret hx hb hr (fun tt ht hW => ⟨⟨(), rfl, trivial, by rw [ht, hE]; exact hP, va_K.moved hW.alike hK⟩, hS.F ht⟩) hS.2.2 dX2_work_83
  · have hE : R_work n S = (upd (S.1) 14 ((S.1 14) - 1), S.2) := by first | (simp only [R_work, if_neg c1, hdj, nI_clamp (n := j) (by omega)]; done) | (simp only [R_work, if_neg c1, hdj, nI_clamp (n := j) (by omega)]; rfl)
    exact W.vret hx hb hr (fun tt ht hW => ⟨⟨(), rfl, trivial, by rw [ht, hE]; exact hP, va_K.moved hW.alike hK⟩, hS.F ht⟩) hS.2.2 dX2_work_17

def rDue (n : Nat) (S : rSt) : Prop := S.1 12 = 0 ∨ S.1 12 = 2 ∨ ∃ j, j < n ∧ S.1 13 = nI j
theorem rDue_w {n : Nat} {S : rSt} (h : rDue n S) (h0 : ¬ S.1 12 = 0) (h2 : ¬ S.1 12 = 2) : ∃ j, j < n ∧ S.1 13 = nI j := h.elim (fun z => absurd z h0) (fun h => h.elim (fun z => absurd z h2) id)

def R_once (n : Nat) (S : rSt) : rSt :=
  if S.1 18 ≤ 0 then (if S.1 12 = 0 then (R_doze n (upd (S.1) 17 ((S.1 17) + 1), S.2))
    else if S.1 12 = 2 then (upd (S.1) 17 ((S.1 17) + 1), S.2)
    else (R_work n (upd (S.1) 17 ((S.1 17) + 1), S.2)))
  else if S.1 12 = 2 then (if S.1 12 = 0 then (R_doze n (upd (S.1) 17 ((S.1 17) + 1), S.2))
    else (upd (S.1) 17 ((S.1 17) + 1), S.2))
  else if (S.1 19) + 1 ≤ S.1 18 then (if S.1 12 = 0 then (R_doze n (upd (upd (S.1) 17 ((S.1 17) + 1)) 19 ((S.1 19) + 1), S.2))
    else (R_work n (upd (upd (S.1) 17 ((S.1 17) + 1)) 19 ((S.1 19) + 1), S.2)))
  else (R_reset n (upd (upd (S.1) 17 ((S.1 17) + 1)) 19 ((S.1 19) + 1), S.2))
theorem R_once_sm (n : Nat) (S : rSt) : rSm S (R_once n S) := by
  unfold R_once
  split
  · split
    · exact ((show rSm S (upd (S.1) 17 ((S.1 17) + 1), S.2) from ⟨rfl, rfl⟩)).tr (R_doze_sm n (upd (S.1) 17 ((S.1 17) + 1), S.2))
    · split
      · exact (show rSm S (upd (S.1) 17 ((S.1 17) + 1), S.2) from ⟨rfl, rfl⟩)
      · exact ((show rSm S (upd (S.1) 17 ((S.1 17) + 1), S.2) from ⟨rfl, rfl⟩)).tr (R_work_sm n (upd (S.1) 17 ((S.1 17) + 1), S.2))
  · split
    · split
      · exact ((show rSm S (upd (S.1) 17 ((S.1 17) + 1), S.2) from ⟨rfl, rfl⟩)).tr (R_doze_sm n (upd (S.1) 17 ((S.1 17) + 1), S.2))
      · exact (show rSm S (upd (S.1) 17 ((S.1 17) + 1), S.2) from ⟨rfl, rfl⟩)
    · split
      · split
        · exact ((show rSm S (upd (upd (S.1) 17 ((S.1 17) + 1)) 19 ((S.1 19) + 1), S.2) from ⟨rfl, rfl⟩)).tr (R_doze_sm n (upd (upd (S.1) 17 ((S.1 17) + 1)) 19 ((S.1 19) + 1), S.2))
        · exact ((show rSm S (upd (upd (S.1) 17 ((S.1 17) + 1)) 19 ((S.1 19) + 1), S.2) from ⟨rfl, rfl⟩)).tr (R_work_sm n (upd (upd (S.1) 17 ((S.1 17) + 1)) 19 ((S.1 19) + 1), S.2))
      · exact ((show rSm S (upd (upd (S.1) 17 ((S.1 17) + 1)) 19 ((S.1 19) + 1), S.2) from ⟨rfl, rfl⟩)).tr (R_reset_sm n (upd (upd (S.1) 17 ((S.1 17) + 1)) 19 ((S.1 19) + 1), S.2))
theorem R_once_ok (n : Nat) (S : rSt) (hok : rOk n S) : rOk n (R_once n S) := rOk_of (R_once_sm n S) hok
set_option maxHeartbeats 4000000 in
set_option maxRecDepth 100000 in
theorem c_X2_once (l : Launch) (D : va_G) (cI cZ : ClassId) (a : Nat → Nat) (ha : (rL a).Nodup) (n : Nat) (S : rSt) (hok : rOk n S) (hdu : rDue n S) : mV l yX2_once wsX2_once (rmz 6 134) D (rT cI cZ) (rL a) [.ref (a 0)] (rW cI cZ a S) (rW cI cZ a (R_once n S)) := by
  intro sz
  refine Met.ofW (cc := cX2_once) (maxL := 1) (ret := none) (by decide) rfl ?_
  intro p e s m args below meth c s₁ B hml hv
  obtain ⟨rfl, hsz, hP, hK⟩ := hv
  have hx := B.exec
  have hb := B.bytes
  have hr := B.returns
  have hts := atoms_spec (ws := wsX2_once) B.pre
  have hin : ∀ w ∈ wsX20, w ∈ wsX2_once := fun w h => List.mem_cons_of_mem _ (List.mem_append_right _ h)
  have hown : s.vm.findClass RX2 = some m.cls := findClass_of_methodNamed B.named
  have hlocks := B.notSynchronized
  have hn12 : n ≤ 12 := hok.2.1
  subst hsz
  have hS : va_S (wA (rL a) s.heap.size) s.heap s.heap [] := va_S.rf
  have hl := lv_entry ([.ref (a 0)]) (n := 1) (Nat.le_of_ble_eq_true rfl)
  rw [lg_entry_eq]
  generalize (lg_sl ([.ref (a 0)]) ++ List.replicate (1 - (lg_sl ([.ref (a 0)])).length) Slot.unset).toArray = ls at hl ⊢
  have hl : lv_has ls 1 [(0, .ref (a 0))] := hl
  refine lv_aload_n hx hb dX2_once_0 rfl (lv_at hl 0 rfl) ?_
  refine lv_dup hx hb dX2_once_1 rfl ?_
  refine r_get (S := S) (v := .int (S.1 17)) hx hb hts hin hown hK hP 17 (by decide) (by decide +kernel) rfl rfl dX2_once_2 ?_
  refine lv_iconst (v := 1) hx hb dX2_once_5 (by decide) ?_
  refine lv_iadd hx hb dX2_once_6 ?_
  refine r_put ha hx hb hts hin hown hK hP hS 17 (by decide) (by decide +kernel) ⟨rfl, rfl, rfl⟩ dX2_once_7 (fun H locs hP hS => ?_)
  have hP : va_P D vwCl (rW cI cZ a (upd (S.1) 17 ((S.1 17) + 1), S.2)) H := hP
  refine lv_aload_n hx hb dX2_once_10 rfl (lv_at hl 0 rfl) ?_
  refine r_get (S := (upd (S.1) 17 ((S.1 17) + 1), S.2)) (v := .int (S.1 18)) hx hb hts hin hown hK hP 18 (by decide) (by decide +kernel) rfl rfl dX2_once_11 ?_
  refine lv_if_le (tgt := 51) hx hb dX2_once_14 (by decide) (fun c1 => ?_) (fun c1 => ?_)
  · refine lv_aload_n hx hb dX2_once_51 rfl (lv_at hl 0 rfl) ?_
    refine r_get (S := (upd (S.1) 17 ((S.1 17) + 1), S.2)) (v := .int (S.1 12)) hx hb hts hin hown hK hP 12 (by decide) (by decide +kernel) rfl rfl dX2_once_52 ?_
    refine lv_if_ne (tgt := 65) hx hb dX2_once_55 (by decide) (fun c2 => ?_) (fun c2 => ?_)
    · refine lv_aload_n hx hb dX2_once_65 rfl (lv_at hl 0 rfl) ?_
      refine r_get (S := (upd (S.1) 17 ((S.1 17) + 1), S.2)) (v := .int (S.1 12)) hx hb hts hin hown hK hP 12 (by decide) (by decide +kernel) rfl rfl dX2_once_66 ?_
      refine lv_iconst (v := 2) hx hb dX2_once_69 (by decide) ?_
      refine lv_icmp_eq (tgt := 77) hx hb dX2_once_70 (by decide) (fun c3 => ?_) (fun c3 => ?_)
      · have hE : R_once n S = (upd (S.1) 17 ((S.1 17) + 1), S.2) := by first | (simp only [R_once, if_pos c1, if_neg c2, if_pos c3]; done) | (simp only [R_once, if_pos c1, if_neg c2, if_pos c3]; rfl)
        exact W.vret hx hb hr (fun tt ht hW => ⟨⟨(), rfl, trivial, by rw [ht, hE]; exact hP, va_K.moved hW.alike hK⟩, hS.F ht⟩) hS.2.2 dX2_once_77
      · refine lv_aload_n hx hb dX2_once_73 rfl (lv_at hl 0 rfl) ?_
        obtain ⟨j, hj, hdj⟩ := rDue_w hdu c2 c3
        refine m_callv (As := []) (rest := []) ⟨hx, hb, hml, hown, hts⟩ (c_X2_work l D cI cZ a ha n (upd (S.1) 17 ((S.1 17) + 1), S.2) hok  j hj hdj) (cwV 0 hts gX2_once_X2_work rfl rfl rfl (by decide +kernel) ⟨Nat.le_of_ble_eq_true rfl, Nat.le_of_ble_eq_true rfl⟩) hK hP hS (fun q h => wA_up hS.1 q h) (va_recv hK hP (ci := 3) (q0 := 0) rfl rfl) rfl hl.1 rfl (Nat.le_of_ble_eq_true rfl) dX2_once_74 ⟨Nat.zero_le _, Nat.zero_le _⟩ (fun H locs hP hS _ => ?_)
        have hok : rOk n (R_work n (upd (S.1) 17 ((S.1 17) + 1), S.2)) := R_work_ok n (upd (S.1) 17 ((S.1 17) + 1), S.2) hok
        have hE : R_once n S = (R_work n (upd (S.1) 17 ((S.1 17) + 1), S.2)) := by first | (simp only [R_once, if_pos c1, if_neg c2, if_neg c3]; done) | (simp only [R_once, if_pos c1, if_neg c2, if_neg c3]; rfl)
        exact W.vret hx hb hr (fun tt ht hW => ⟨⟨(), rfl, trivial, by rw [ht, hE]; exact hP, va_K.moved hW.alike hK⟩, hS.F ht⟩) hS.2.2 dX2_once_77
    · refine lv_aload_n hx hb dX2_once_58 rfl (lv_at hl 0 rfl) ?_
      refine m_callv (As := []) (rest := []) ⟨hx, hb, hml, hown, hts⟩ (c_X2_doze l D cI cZ a ha n (upd (S.1) 17 ((S.1 17) + 1), S.2) hok ) (cwV 0 hts gX2_once_X2_doze rfl rfl rfl (by decide +kernel) ⟨Nat.le_of_ble_eq_true rfl, Nat.le_of_ble_eq_true rfl⟩) hK hP hS (fun q h => wA_up hS.1 q h) (va_recv hK hP (ci := 3) (q0 := 0) rfl rfl) rfl hl.1 rfl (Nat.le_of_ble_eq_true rfl) dX2_once_59 ⟨Nat.zero_le _, Nat.zero_le _⟩ (fun H locs hP hS _ => ?_)
      have hok : rOk n (R_doze n (upd (S.1) 17 ((S.1 17) + 1), S.2)) := R_doze_ok n (upd (S.1) 17 ((S.1 17) + 1), S.2) hok
      refine lv_goto (tgt := 77) hx hb dX2_once_62 (by decide) ?_
      have hE : R_once n S = (R_doze n (upd (S.1) 17 ((S.1 17) + 1), S.2)) := by first | (simp only [R_once, if_pos c1, if_pos c2]; done) | (simp only [R_once, if_pos c1, if_pos c2]; rfl)
      exact W.vret hx hb hr (fun tt ht hW => ⟨⟨(), rfl, trivial, by rw [ht, hE]; exact hP, va_K.moved hW.alike hK⟩, hS.F ht⟩) hS.2.2 dX2_once_77
  · refine lv_aload_n hx hb dX2_once_17 rfl (lv_at hl 0 rfl) ?_
    refine r_get (S := (upd (S.1) 17 ((S.1 17) + 1), S.2)) (v := .int (S.1 12)) hx hb hts hin hown hK hP 12 (by decide) (by decide +kernel) rfl rfl dX2_once_18 ?_
    refine lv_iconst (v := 2) hx hb dX2_once_21 (by decide) ?_
    refine lv_icmp_eq (tgt := 51) hx hb dX2_once_22 (by decide) (fun c4 => ?_) (fun c4 => ?_)
    · refine lv_aload_n hx hb dX2_once_51 rfl (lv_at hl 0 rfl) ?_
      refine r_get (S := (upd (S.1) 17 ((S.1 17) + 1), S.2)) (v := .int (S.1 12)) hx hb hts hin hown hK hP 12 (by decide) (by decide +kernel) rfl rfl dX2_once_52 ?_
      refine lv_if_ne (tgt := 65) hx hb dX2_once_55 (by decide) (fun c5 => ?_) (fun c5 => ?_)
      · refine lv_aload_n hx hb dX2_once_65 rfl (lv_at hl 0 rfl) ?_
        refine r_get (S := (upd (S.1) 17 ((S.1 17) + 1), S.2)) (v := .int (S.1 12)) hx hb hts hin hown hK hP 12 (by decide) (by decide +kernel) rfl rfl dX2_once_66 ?_
        refine lv_iconst (v := 2) hx hb dX2_once_69 (by decide) ?_
        refine lv_icmp_eq (tgt := 77) hx hb dX2_once_70 (by decide) (fun c6 => ?_) (fun c6 => ?_)
        · have hE : R_once n S = (upd (S.1) 17 ((S.1 17) + 1), S.2) := by first | (simp only [R_once, if_neg c1, if_pos c4, if_neg c5]; done) | (simp only [R_once, if_neg c1, if_pos c4, if_neg c5]; rfl)
          exact W.vret hx hb hr (fun tt ht hW => ⟨⟨(), rfl, trivial, by rw [ht, hE]; exact hP, va_K.moved hW.alike hK⟩, hS.F ht⟩) hS.2.2 dX2_once_77
        · exact absurd c4 c6
      · refine lv_aload_n hx hb dX2_once_58 rfl (lv_at hl 0 rfl) ?_
        refine m_callv (As := []) (rest := []) ⟨hx, hb, hml, hown, hts⟩ (c_X2_doze l D cI cZ a ha n (upd (S.1) 17 ((S.1 17) + 1), S.2) hok ) (cwV 0 hts gX2_once_X2_doze rfl rfl rfl (by decide +kernel) ⟨Nat.le_of_ble_eq_true rfl, Nat.le_of_ble_eq_true rfl⟩) hK hP hS (fun q h => wA_up hS.1 q h) (va_recv hK hP (ci := 3) (q0 := 0) rfl rfl) rfl hl.1 rfl (Nat.le_of_ble_eq_true rfl) dX2_once_59 ⟨Nat.zero_le _, Nat.zero_le _⟩ (fun H locs hP hS _ => ?_)
        have hok : rOk n (R_doze n (upd (S.1) 17 ((S.1 17) + 1), S.2)) := R_doze_ok n (upd (S.1) 17 ((S.1 17) + 1), S.2) hok
        refine lv_goto (tgt := 77) hx hb dX2_once_62 (by decide) ?_
        have hE : R_once n S = (R_doze n (upd (S.1) 17 ((S.1 17) + 1), S.2)) := by first | (simp only [R_once, if_neg c1, if_pos c4, if_pos c5]; done) | (simp only [R_once, if_neg c1, if_pos c4, if_pos c5]; rfl)
        exact W.vret hx hb hr (fun tt ht hW => ⟨⟨(), rfl, trivial, by rw [ht, hE]; exact hP, va_K.moved hW.alike hK⟩, hS.F ht⟩) hS.2.2 dX2_once_77
    · refine lv_aload_n hx hb dX2_once_25 rfl (lv_at hl 0 rfl) ?_
      refine lv_dup hx hb dX2_once_26 rfl ?_
      refine r_get (S := (upd (S.1) 17 ((S.1 17) + 1), S.2)) (v := .int (S.1 19)) hx hb hts hin hown hK hP 19 (by decide) (by decide +kernel) rfl rfl dX2_once_27 ?_
      refine lv_iconst (v := 1) hx hb dX2_once_30 (by decide) ?_
      refine lv_iadd hx hb dX2_once_31 ?_
      refine r_put ha hx hb hts hin hown hK hP hS 19 (by decide) (by decide +kernel) ⟨rfl, rfl, rfl⟩ dX2_once_32 (fun H locs hP hS => ?_)
      have hP : va_P D vwCl (rW cI cZ a (upd (upd (S.1) 17 ((S.1 17) + 1)) 19 ((S.1 19) + 1), S.2)) H := hP
      refine lv_aload_n hx hb dX2_once_35 rfl (lv_at hl 0 rfl) ?_
      refine r_get (S := (upd (upd (S.1) 17 ((S.1 17) + 1)) 19 ((S.1 19) + 1), S.2)) (v := .int ((S.1 19) + 1)) hx hb hts hin hown hK hP 19 (by decide) (by decide +kernel) rfl rfl dX2_once_36 ?_
      refine lv_aload_n hx hb dX2_once_39 rfl (lv_at hl 0 rfl) ?_
      refine r_get (S := (upd (upd (S.1) 17 ((S.1 17) + 1)) 19 ((S.1 19) + 1), S.2)) (v := .int (S.1 18)) hx hb hts hin hown hK hP 18 (by decide) (by decide +kernel) rfl rfl dX2_once_40 ?_
      refine lv_icmp_le (tgt := 51) hx hb dX2_once_43 (by decide) (fun c7 => ?_) (fun c7 => ?_)
      · refine lv_aload_n hx hb dX2_once_51 rfl (lv_at hl 0 rfl) ?_
        refine r_get (S := (upd (upd (S.1) 17 ((S.1 17) + 1)) 19 ((S.1 19) + 1), S.2)) (v := .int (S.1 12)) hx hb hts hin hown hK hP 12 (by decide) (by decide +kernel) rfl rfl dX2_once_52 ?_
        refine lv_if_ne (tgt := 65) hx hb dX2_once_55 (by decide) (fun c8 => ?_) (fun c8 => ?_)
        · refine lv_aload_n hx hb dX2_once_65 rfl (lv_at hl 0 rfl) ?_
          refine r_get (S := (upd (upd (S.1) 17 ((S.1 17) + 1)) 19 ((S.1 19) + 1), S.2)) (v := .int (S.1 12)) hx hb hts hin hown hK hP 12 (by decide) (by decide +kernel) rfl rfl dX2_once_66 ?_
          refine lv_iconst (v := 2) hx hb dX2_once_69 (by decide) ?_
          refine lv_icmp_eq (tgt := 77) hx hb dX2_once_70 (by decide) (fun c9 => ?_) (fun c9 => ?_)
          · exact absurd c9 c4
          · refine lv_aload_n hx hb dX2_once_73 rfl (lv_at hl 0 rfl) ?_
            obtain ⟨j, hj, hdj⟩ := rDue_w hdu c8 c4
            refine m_callv (As := []) (rest := []) ⟨hx, hb, hml, hown, hts⟩ (c_X2_work l D cI cZ a ha n (upd (upd (S.1) 17 ((S.1 17) + 1)) 19 ((S.1 19) + 1), S.2) hok  j hj hdj) (cwV 0 hts gX2_once_X2_work rfl rfl rfl (by decide +kernel) ⟨Nat.le_of_ble_eq_true rfl, Nat.le_of_ble_eq_true rfl⟩) hK hP hS (fun q h => wA_up hS.1 q h) (va_recv hK hP (ci := 3) (q0 := 0) rfl rfl) rfl hl.1 rfl (Nat.le_of_ble_eq_true rfl) dX2_once_74 ⟨Nat.zero_le _, Nat.zero_le _⟩ (fun H locs hP hS _ => ?_)
            have hok : rOk n (R_work n (upd (upd (S.1) 17 ((S.1 17) + 1)) 19 ((S.1 19) + 1), S.2)) := R_work_ok n (upd (upd (S.1) 17 ((S.1 17) + 1)) 19 ((S.1 19) + 1), S.2) hok
            have hE : R_once n S = (R_work n (upd (upd (S.1) 17 ((S.1 17) + 1)) 19 ((S.1 19) + 1), S.2)) := by first | (simp only [R_once, if_neg c1, if_neg c4, if_pos c7, if_neg c8]; done) | (simp only [R_once, if_neg c1, if_neg c4, if_pos c7, if_neg c8]; rfl)
            exact W.vret hx hb hr (fun tt ht hW => ⟨⟨(), rfl, trivial, by rw [ht, hE]; exact hP, va_K.moved hW.alike hK⟩, hS.F ht⟩) hS.2.2 dX2_once_77
        · refine lv_aload_n hx hb dX2_once_58 rfl (lv_at hl 0 rfl) ?_
          refine m_callv (As := []) (rest := []) ⟨hx, hb, hml, hown, hts⟩ (c_X2_doze l D cI cZ a ha n (upd (upd (S.1) 17 ((S.1 17) + 1)) 19 ((S.1 19) + 1), S.2) hok ) (cwV 0 hts gX2_once_X2_doze rfl rfl rfl (by decide +kernel) ⟨Nat.le_of_ble_eq_true rfl, Nat.le_of_ble_eq_true rfl⟩) hK hP hS (fun q h => wA_up hS.1 q h) (va_recv hK hP (ci := 3) (q0 := 0) rfl rfl) rfl hl.1 rfl (Nat.le_of_ble_eq_true rfl) dX2_once_59 ⟨Nat.zero_le _, Nat.zero_le _⟩ (fun H locs hP hS _ => ?_)
          have hok : rOk n (R_doze n (upd (upd (S.1) 17 ((S.1 17) + 1)) 19 ((S.1 19) + 1), S.2)) := R_doze_ok n (upd (upd (S.1) 17 ((S.1 17) + 1)) 19 ((S.1 19) + 1), S.2) hok
          refine lv_goto (tgt := 77) hx hb dX2_once_62 (by decide) ?_
          have hE : R_once n S = (R_doze n (upd (upd (S.1) 17 ((S.1 17) + 1)) 19 ((S.1 19) + 1), S.2)) := by first | (simp only [R_once, if_neg c1, if_neg c4, if_pos c7, if_pos c8]; done) | (simp only [R_once, if_neg c1, if_neg c4, if_pos c7, if_pos c8]; rfl)
          exact W.vret hx hb hr (fun tt ht hW => ⟨⟨(), rfl, trivial, by rw [ht, hE]; exact hP, va_K.moved hW.alike hK⟩, hS.F ht⟩) hS.2.2 dX2_once_77
      · refine lv_aload_n hx hb dX2_once_46 rfl (lv_at hl 0 rfl) ?_
        refine m_callv (As := []) (rest := []) ⟨hx, hb, hml, hown, hts⟩ (c_X2_reset l D cI cZ a ha n (upd (upd (S.1) 17 ((S.1 17) + 1)) 19 ((S.1 19) + 1), S.2) hok ) (cwV 0 hts gX2_once_X2_reset rfl rfl rfl (by decide +kernel) ⟨Nat.le_of_ble_eq_true rfl, Nat.le_of_ble_eq_true rfl⟩) hK hP hS (fun q h => wA_up hS.1 q h) (va_recv hK hP (ci := 3) (q0 := 0) rfl rfl) rfl hl.1 rfl (Nat.le_of_ble_eq_true rfl) dX2_once_47 ⟨Nat.zero_le _, Nat.zero_le _⟩ (fun H locs hP hS _ => ?_)
        have hok : rOk n (R_reset n (upd (upd (S.1) 17 ((S.1 17) + 1)) 19 ((S.1 19) + 1), S.2)) := R_reset_ok n (upd (upd (S.1) 17 ((S.1 17) + 1)) 19 ((S.1 19) + 1), S.2) hok
        have hE : R_once n S = (R_reset n (upd (upd (S.1) 17 ((S.1 17) + 1)) 19 ((S.1 19) + 1), S.2)) := by first | (simp only [R_once, if_neg c1, if_neg c4, if_neg c7]; done) | (simp only [R_once, if_neg c1, if_neg c4, if_neg c7]; rfl)
        exact W.vret hx hb hr (fun tt ht hW => ⟨⟨(), rfl, trivial, by rw [ht, hE]; exact hP, va_K.moved hW.alike hK⟩, hS.F ht⟩) hS.2.2 dX2_once_50

def R_tick_b (n : Nat) (k : Nat) (Z : rSt) : rSt := R_once n Z
def R_tick_it (n : Nat) (S : rSt) : Nat → rSt
  | 0 => (upd S.1 23 0, S.2)
  | k + 1 => R_tick_b n k (R_tick_it n S k)
def R_tick (n : Nat) (S : rSt) (k : Int32) : Int32 × rSt := if k < 0 then (-2, S) else if k ≤ 200 then ((R_tick_it n S k.toNatClampNeg).1 23, R_tick_it n S k.toNatClampNeg) else (-2, S)
theorem R_tick_it_sm (n : Nat) (S : rSt) : ∀ k, rSm S (R_tick_it n S k)
  | 0 => ⟨rfl, rfl⟩
  | k + 1 => (R_tick_it_sm n S k).tr (R_once_sm n _)
theorem R_tick_it_ok (n : Nat) (S : rSt) (k : Nat) (hok : rOk n S) : rOk n (R_tick_it n S k) := rOk_of (R_tick_it_sm n S k) hok
theorem R_tick_sm (n : Nat) (S : rSt) (k : Int32) : rSm S (R_tick n S k).2 := by
  unfold R_tick
  repeat' split
  all_goals first | exact rSm.rf | exact R_tick_it_sm n S _
theorem R_tick_ok (n : Nat) (S : rSt) (k : Int32) (hok : rOk n S) : rOk n (R_tick n S k).2 := rOk_of (R_tick_sm n S k) hok

set_option maxHeartbeats 4000000 in
set_option maxRecDepth 100000 in
theorem c_X2_tick (l : Launch) (D : va_G) (cI cZ : ClassId) (a : Nat → Nat) (ha : (rL a).Nodup) (n : Nat) (S : rSt) (hok : rOk n S) (k : Int32) (hdu : ∀ i, i < k.toNatClampNeg → rDue n (R_tick_it n S i)) : mI l yX2_tick wsX2_tick (rmz 7 154) D (rT cI cZ) (rL a) [.ref (a 0), .int k] (rW cI cZ a S) (R_tick n S k).1 (rW cI cZ a (R_tick n S k).2) := by
  intro sz
  refine Met.ofW (cc := cX2_tick) (maxL := 3) (ret := (some .int)) (by decide) rfl ?_
  intro p e s m args below meth c s₁ B hml hv
  obtain ⟨rfl, hsz, hP, hK⟩ := hv
  have hx := B.exec
  have hb := B.bytes
  have hr := B.returns
  have hts := atoms_spec (ws := wsX2_tick) B.pre
  have hin : ∀ w ∈ wsX20, w ∈ wsX2_tick := fun w h => List.mem_cons_of_mem _ (List.mem_append_right _ h)
  have hown : s.vm.findClass RX2 = some m.cls := findClass_of_methodNamed B.named
  have hlocks := B.notSynchronized
  have hn12 : n ≤ 12 := hok.2.1
  subst hsz
  have hS : va_S (wA (rL a) s.heap.size) s.heap s.heap [] := va_S.rf
  have hl := lv_entry ([.ref (a 0), .int k]) (n := 3) (Nat.le_of_ble_eq_true rfl)
  rw [lg_entry_eq]
  generalize (lg_sl ([.ref (a 0), .int k]) ++ List.replicate (3 - (lg_sl ([.ref (a 0), .int k])).length) Slot.unset).toArray = ls at hl ⊢
  have hl : lv_has ls 3 [(0, .ref (a 0)), (1, .int k)] := hl
  have hok0 := hok
  refine lv_iload_n hx hb dX2_tick_0 rfl (lv_at hl 1 rfl) ?_
  refine lv_if_lt (tgt := 11) hx hb dX2_tick_1 (by decide) (fun c1 => ?_) (fun c1 => ?_)
  · refine lv_bipush (v := (-2)) hx hb dX2_tick_11 (by decide) ?_
    have hE : R_tick n S k = ((-2), S) := by first | (simp only [R_tick, if_pos c1]; done) | (simp only [R_tick, if_pos c1]; rfl)
    exact W.iret (v := (-2)) hx hb hr (fun tt ht hW => ⟨⟨(-2), (), rfl, by rw [hE], by rw [ht, hE]; exact hP, va_K.moved hW.alike hK⟩, hS.F ht⟩) hS.2.2 dX2_tick_13
  · refine lv_iload_n hx hb dX2_tick_4 rfl (lv_at hl 1 rfl) ?_
    refine lv_sipush (v := 200) hx hb dX2_tick_5 (by decide) ?_
    refine lv_icmp_le (tgt := 14) hx hb dX2_tick_8 (by decide) (fun c2 => ?_) (fun c2 => ?_)
    · obtain ⟨t, ht, hkt⟩ := nI_of2 (M := 200) (n := 200) rfl c1 c2
      subst hkt
      have htc : (nI t).toNatClampNeg = t := nI_clamp (by omega)
      rw [htc] at hdu
      refine lv_aload_n hx hb dX2_tick_14 rfl (lv_at hl 0 rfl) ?_
      refine lv_iconst (v := 0) hx hb dX2_tick_15 (by decide) ?_
      refine r_put ha hx hb hts hin hown hK hP hS 23 (by decide) (by decide +kernel) ⟨rfl, rfl, rfl⟩ dX2_tick_16 (fun H locs hP hS => ?_)
      have hP : va_P D vwCl (rW cI cZ a (upd (S.1) 23 0, S.2)) H := hP
      refine lv_iconst (v := 0) hx hb dX2_tick_19 (by decide) ?_
      refine lv_istore_n (lv' := [(2, .int 0), (0, .ref (a 0)), (1, .int (nI t))]) hx hb dX2_tick_20 rfl hl (by decide) rfl (fun ls hl => ?_)
      refine w_loop (σ := Nat) (I := fun k3 H locs ls => k3 ≤ t ∧ va_P D vwCl (rW cI cZ a (R_tick_it n S k3)) H ∧ va_S (wA (rL a) s.heap.size) s.heap H locs ∧ lv_has ls 3 [(0, .ref (a 0)), (1, .int (nI t)), (2, .int (nI k3))]) (fun k3 => t - k3) ?_ 0 ⟨Nat.zero_le _, hP, hS, lv_sub hl [1, 2, 0] rfl⟩
      intro k3 H locs ls hI ih
      obtain ⟨hk, hP, hS, hl⟩ := hI
      have hok : rOk n (R_tick_it n S k3) := R_tick_it_ok n S k3 hok0
      refine lv_iload_n hx hb dX2_tick_21 rfl (lv_at hl 2 rfl) ?_
      refine lv_iload_n hx hb dX2_tick_22 rfl (lv_at hl 1 rfl) ?_
      refine lv_icmp_ge (tgt := 36) hx hb dX2_tick_23 (by decide) (fun c4 => ?_) (fun c4 => ?_)
      · have hkn : k3 = t := Nat.le_antisymm hk ((nI_leI (by omega) (by omega)).mp c4)
        rw [hkn] at hP hl
        have hok : rOk n (R_tick_it n S t) := R_tick_it_ok n S t hok0
        refine lv_aload_n hx hb dX2_tick_36 rfl (lv_at hl 0 rfl) ?_
        refine r_get (S := (R_tick_it n S t)) (v := .int ((R_tick_it n S t).1 23)) hx hb hts hin hown hK hP 23 (by decide) (by decide +kernel) rfl rfl dX2_tick_37 ?_
        have hE : R_tick n S (nI t) = ((R_tick_it n S t).1 23, (R_tick_it n S t)) := by first | (simp only [R_tick, if_neg c1, if_pos c2, htc]; done) | (simp only [R_tick, if_neg c1, if_pos c2, htc]; rfl)
        exact W.iret (v := (R_tick_it n S t).1 23) hx hb hr (fun tt ht hW => ⟨⟨(R_tick_it n S t).1 23, (), rfl, by rw [hE], by rw [ht, hE]; exact hP, va_K.moved hW.alike hK⟩, hS.F ht⟩) hS.2.2 dX2_tick_40
      · have hlt : k3 < t := Nat.lt_of_not_le (fun z => c4 ((nI_leI (by omega) (by omega)).mpr z))
        refine lv_aload_n hx hb dX2_tick_26 rfl (lv_at hl 0 rfl) ?_
        refine m_callv (As := []) (rest := []) ⟨hx, hb, hml, hown, hts⟩ (c_X2_once l D cI cZ a ha n (R_tick_it n S k3) hok  (hdu k3 hlt)) (cwV 0 hts gX2_tick_X2_once rfl rfl rfl (by decide +kernel) ⟨Nat.le_of_ble_eq_true rfl, Nat.le_of_ble_eq_true rfl⟩) hK hP hS (fun q h => wA_up hS.1 q h) (va_recv hK hP (ci := 3) (q0 := 0) rfl rfl) rfl hl.1 rfl (Nat.le_of_ble_eq_true rfl) dX2_tick_27 ⟨Nat.zero_le _, Nat.zero_le _⟩ (fun H locs hP hS _ => ?_)
        have hok : rOk n (R_once n (R_tick_it n S k3)) := R_once_ok n (R_tick_it n S k3) hok
        refine lv_iinc (v := nI (k3 + 1)) (lv' := [(2, .int (nI (k3 + 1))), (0, .ref (a 0)), (1, .int (nI t))]) hx hb dX2_tick_30 hl (k := 2) rfl (nI_1 _) (by decide) rfl (fun ls hl => ?_)
        refine lv_goto (tgt := 21) hx hb dX2_tick_33 (by decide) ?_
        have hE : R_tick_it n S (k3 + 1) = (R_once n (R_tick_it n S k3)) := by show R_tick_b n k3 (R_tick_it n S k3) = _; first | (simp only [R_tick_b, htc]; done) | (simp only [R_tick_b, htc]; rfl)
        exact ih (k3 + 1) H locs ls (by omega) ⟨by omega, by rw [hE]; exact hP, hS, by exact lv_sub hl [1, 2, 0] rfl⟩
    · refine lv_bipush (v := (-2)) hx hb dX2_tick_11 (by decide) ?_
      have hE : R_tick n S k = ((-2), S) := by first | (simp only [R_tick, if_neg c1, if_neg c2]; done) | (simp only [R_tick, if_neg c1, if_neg c2]; rfl)
      exact W.iret (v := (-2)) hx hb hr (fun tt ht hW => ⟨⟨(-2), (), rfl, by rw [hE], by rw [ht, hE]; exact hP, va_K.moved hW.alike hK⟩, hS.F ht⟩) hS.2.2 dX2_tick_13

theorem nI_back (n : Nat) : nI n + 1 - 1 = nI n := by rw [nI_1, nI_pred]
theorem R_dev_ok {n : Nat} {S T : rSt} {above : Int32} (hok : rOk n S) (hn : n < 12) (hsh : above >>> (nI n &&& 31) = 0) (h0 : T.1 0 = nI n + 1) (h1 : T.2 1 = upd (S.2 1) n above) : rOk (n + 1) T := by
  refine ⟨h0.trans (nI_1 n), by omega, fun p hp => ?_⟩
  rw [h1]
  by_cases h : p = n
  · subst h; simp only [upd, if_true]; exact lb_shr (by omega) hsh
  · simp only [upd, if_neg h]; exact hok.2.2 p (by omega)

def R_device (n : Nat) (S : rSt) (above : Int32) (down : Int32) (up : Int32) (delay : Int32) : Int32 × rSt :=
  if above < 0 then ((-2), S)
  else if above >>> ((nI n) &&& 31) = 0 then (if down < 1 then ((-2), S)
    else if 20 < down then ((-2), S)
    else if up < 1 then ((-2), S)
    else if 20 < up then ((-2), S)
    else if delay < 0 then ((-2), S)
    else if delay ≤ 50 then (if S.1 12 = 0 then (if nI n = 12 then ((-4), S)
        else (nI n, (R_rouse (n + 1) (upd (S.1) 0 ((nI n) + 1), up2 (up2 (up2 (up2 (up2 (up2 (up2 (up2 (up2 (S.2) 1 n above) 2 n down) 3 n up) 4 n delay) 5 n 2) 7 n 0) 8 n 0) 9 n 0) 10 n 0) (R_line (n + 1) (upd (S.1) 0 ((nI n) + 1), up2 (up2 (up2 (up2 (up2 (up2 (up2 (up2 (up2 (S.2) 1 n above) 2 n down) 3 n up) 4 n delay) 5 n 2) 7 n 0) 8 n 0) 9 n 0) 10 n 0) n)).2))
      else ((-3), S))
    else ((-2), S))
  else ((-2), S)
set_option maxHeartbeats 4000000 in
set_option maxRecDepth 100000 in
theorem c_X2_device (l : Launch) (D : va_G) (cI cZ : ClassId) (a : Nat → Nat) (ha : (rL a).Nodup) (n : Nat) (S : rSt) (hok : rOk n S) (above : Int32) (down : Int32) (up : Int32) (delay : Int32) : mI l yX2_device wsX2_device (rmz 1 23) D (rT cI cZ) (rL a) [.ref (a 0), .int above, .int down, .int up, .int delay] (rW cI cZ a S) (R_device n S above down up delay).1 (rW cI cZ a (R_device n S above down up delay).2) := by
  intro sz
  refine Met.ofW (cc := cX2_device) (maxL := 5) (ret := (some .int)) (by decide) rfl ?_
  intro p e s m args below meth c s₁ B hml hv
  obtain ⟨rfl, hsz, hP, hK⟩ := hv
  have hx := B.exec
  have hb := B.bytes
  have hr := B.returns
  have hts := atoms_spec (ws := wsX2_device) B.pre
  have hin : ∀ w ∈ wsX20, w ∈ wsX2_device := fun w h => List.mem_cons_of_mem _ (List.mem_append_right _ h)
  have hown : s.vm.findClass RX2 = some m.cls := findClass_of_methodNamed B.named
  have hlocks := B.notSynchronized
  have hn12 : n ≤ 12 := hok.2.1
  subst hsz
  have hS : va_S (wA (rL a) s.heap.size) s.heap s.heap [] := va_S.rf
  have hl := lv_entry ([.ref (a 0), .int above, .int down, .int up, .int delay]) (n := 5) (Nat.le_of_ble_eq_true rfl)
  rw [lg_entry_eq]
  generalize (lg_sl ([.ref (a 0), .int above, .int down, .int up, .int delay]) ++ List.replicate (5 - (lg_sl ([.ref (a 0), .int above, .int down, .int up, .int delay])).length) Slot.unset).toArray = ls at hl ⊢
  have hl : lv_has ls 5 [(0, .ref (a 0)), (1, .int above), (2, .int down), (3, .int up), (4, .int delay)] := hl
  refine lv_iload_n hx hb dX2_device_0 rfl (lv_at hl 1 rfl) ?_
  refine lv_if_lt (tgt := 47) hx hb dX2_device_1 (by decide) (fun c1 => ?_) (fun c1 => ?_)
  · refine lv_bipush (v := (-2)) hx hb dX2_device_47 (by decide) ?_
    have hE : R_device n S above down up delay = ((-2), S) := by first | (simp only [R_device, if_pos c1]; done) | (simp only [R_device, if_pos c1]; rfl)
    exact W.iret (v := (-2)) hx hb hr (fun tt ht hW => ⟨⟨(-2), (), rfl, by rw [hE], by rw [ht, hE]; exact hP, va_K.moved hW.alike hK⟩, hS.F ht⟩) hS.2.2 dX2_device_49
  · refine lv_iload_n hx hb dX2_device_4 rfl (lv_at hl 1 rfl) ?_
    refine lv_aload_n hx hb dX2_device_5 rfl (lv_at hl 0 rfl) ?_
    refine r_get (S := S) (v := .int (nI n)) hx hb hts hin hown hK hP 0 (by decide) (by decide +kernel) rfl (congrArg (fun z => some (Value.int z)) hok.1) dX2_device_6 ?_
    refine lv_ishr hx hb dX2_device_9 ?_
    refine lv_if_ne (tgt := 47) hx hb dX2_device_10 (by decide) (fun c2 => ?_) (fun c2 => ?_)
    · refine lv_bipush (v := (-2)) hx hb dX2_device_47 (by decide) ?_
      have hE : R_device n S above down up delay = ((-2), S) := by first | (simp only [R_device, if_neg c1, if_neg c2]; done) | (simp only [R_device, if_neg c1, if_neg c2]; rfl)
      exact W.iret (v := (-2)) hx hb hr (fun tt ht hW => ⟨⟨(-2), (), rfl, by rw [hE], by rw [ht, hE]; exact hP, va_K.moved hW.alike hK⟩, hS.F ht⟩) hS.2.2 dX2_device_49
    · refine lv_iload_n hx hb dX2_device_13 rfl (lv_at hl 2 rfl) ?_
      refine lv_iconst (v := 1) hx hb dX2_device_14 (by decide) ?_
      refine lv_icmp_lt (tgt := 47) hx hb dX2_device_15 (by decide) (fun c3 => ?_) (fun c3 => ?_)
      · refine lv_bipush (v := (-2)) hx hb dX2_device_47 (by decide) ?_
        have hE : R_device n S above down up delay = ((-2), S) := by first | (simp only [R_device, if_neg c1, if_pos c2, if_pos c3]; done) | (simp only [R_device, if_neg c1, if_pos c2, if_pos c3]; rfl)
        exact W.iret (v := (-2)) hx hb hr (fun tt ht hW => ⟨⟨(-2), (), rfl, by rw [hE], by rw [ht, hE]; exact hP, va_K.moved hW.alike hK⟩, hS.F ht⟩) hS.2.2 dX2_device_49
      · refine lv_iload_n hx hb dX2_device_18 rfl (lv_at hl 2 rfl) ?_
        refine lv_bipush (v := 20) hx hb dX2_device_19 (by decide) ?_
        refine lv_icmp_gt (tgt := 47) hx hb dX2_device_21 (by decide) (fun c4 => ?_) (fun c4 => ?_)
        · refine lv_bipush (v := (-2)) hx hb dX2_device_47 (by decide) ?_
          have hE : R_device n S above down up delay = ((-2), S) := by first | (simp only [R_device, if_neg c1, if_pos c2, if_neg c3, if_pos c4]; done) | (simp only [R_device, if_neg c1, if_pos c2, if_neg c3, if_pos c4]; rfl)
          exact W.iret (v := (-2)) hx hb hr (fun tt ht hW => ⟨⟨(-2), (), rfl, by rw [hE], by rw [ht, hE]; exact hP, va_K.moved hW.alike hK⟩, hS.F ht⟩) hS.2.2 dX2_device_49
        · refine lv_iload_n hx hb dX2_device_24 rfl (lv_at hl 3 rfl) ?_
          refine lv_iconst (v := 1) hx hb dX2_device_25 (by decide) ?_
          refine lv_icmp_lt (tgt := 47) hx hb dX2_device_26 (by decide) (fun c5 => ?_) (fun c5 => ?_)
          · refine lv_bipush (v := (-2)) hx hb dX2_device_47 (by decide) ?_
            have hE : R_device n S above down up delay = ((-2), S) := by first | (simp only [R_device, if_neg c1, if_pos c2, if_neg c3, if_neg c4, if_pos c5]; done) | (simp only [R_device, if_neg c1, if_pos c2, if_neg c3, if_neg c4, if_pos c5]; rfl)
            exact W.iret (v := (-2)) hx hb hr (fun tt ht hW => ⟨⟨(-2), (), rfl, by rw [hE], by rw [ht, hE]; exact hP, va_K.moved hW.alike hK⟩, hS.F ht⟩) hS.2.2 dX2_device_49
          · refine lv_iload_n hx hb dX2_device_29 rfl (lv_at hl 3 rfl) ?_
            refine lv_bipush (v := 20) hx hb dX2_device_30 (by decide) ?_
            refine lv_icmp_gt (tgt := 47) hx hb dX2_device_32 (by decide) (fun c6 => ?_) (fun c6 => ?_)
            · refine lv_bipush (v := (-2)) hx hb dX2_device_47 (by decide) ?_
              have hE : R_device n S above down up delay = ((-2), S) := by first | (simp only [R_device, if_neg c1, if_pos c2, if_neg c3, if_neg c4, if_neg c5, if_pos c6]; done) | (simp only [R_device, if_neg c1, if_pos c2, if_neg c3, if_neg c4, if_neg c5, if_pos c6]; rfl)
              exact W.iret (v := (-2)) hx hb hr (fun tt ht hW => ⟨⟨(-2), (), rfl, by rw [hE], by rw [ht, hE]; exact hP, va_K.moved hW.alike hK⟩, hS.F ht⟩) hS.2.2 dX2_device_49
            · refine lv_iload hx hb dX2_device_35 (lv_at hl 4 rfl) ?_
              refine lv_if_lt (tgt := 47) hx hb dX2_device_37 (by decide) (fun c7 => ?_) (fun c7 => ?_)
              · refine lv_bipush (v := (-2)) hx hb dX2_device_47 (by decide) ?_
                have hE : R_device n S above down up delay = ((-2), S) := by first | (simp only [R_device, if_neg c1, if_pos c2, if_neg c3, if_neg c4, if_neg c5, if_neg c6, if_pos c7]; done) | (simp only [R_device, if_neg c1, if_pos c2, if_neg c3, if_neg c4, if_neg c5, if_neg c6, if_pos c7]; rfl)
                exact W.iret (v := (-2)) hx hb hr (fun tt ht hW => ⟨⟨(-2), (), rfl, by rw [hE], by rw [ht, hE]; exact hP, va_K.moved hW.alike hK⟩, hS.F ht⟩) hS.2.2 dX2_device_49
              · refine lv_iload hx hb dX2_device_40 (lv_at hl 4 rfl) ?_
                refine lv_bipush (v := 50) hx hb dX2_device_42 (by decide) ?_
                refine lv_icmp_le (tgt := 50) hx hb dX2_device_44 (by decide) (fun c8 => ?_) (fun c8 => ?_)
                · refine lv_aload_n hx hb dX2_device_50 rfl (lv_at hl 0 rfl) ?_
                  refine r_get (S := S) (v := .int (S.1 12)) hx hb hts hin hown hK hP 12 (by decide) (by decide +kernel) rfl rfl dX2_device_51 ?_
                  refine lv_if_eq (tgt := 60) hx hb dX2_device_54 (by decide) (fun c9 => ?_) (fun c9 => ?_)
                  · refine lv_aload_n hx hb dX2_device_60 rfl (lv_at hl 0 rfl) ?_
                    refine r_get (S := S) (v := .int (nI n)) hx hb hts hin hown hK hP 0 (by decide) (by decide +kernel) rfl (congrArg (fun z => some (Value.int z)) hok.1) dX2_device_61 ?_
                    refine lv_bipush (v := 12) hx hb dX2_device_64 (by decide) ?_
                    refine lv_icmp_ne (tgt := 72) hx hb dX2_device_66 (by decide) (fun c10 => ?_) (fun c10 => ?_)
                    · have c10n : ¬ n = 12 := fun z => c10 ((nI_eq (b := 12) (by omega) (by omega)).mpr z)
                      refine lv_aload_n hx hb dX2_device_72 rfl (lv_at hl 0 rfl) ?_
                      refine r_get (S := S) (v := .ref (a 1)) hx hb hts hin hown hK hP 1 (by decide) (by decide +kernel) rfl rfl dX2_device_73 ?_
                      refine lv_aload_n hx hb dX2_device_76 rfl (lv_at hl 0 rfl) ?_
                      refine r_get (S := S) (v := .int (nI n)) hx hb hts hin hown hK hP 0 (by decide) (by decide +kernel) rfl (congrArg (fun z => some (Value.int z)) hok.1) dX2_device_77 ?_
                      refine lv_iload_n hx hb dX2_device_80 rfl (lv_at hl 1 rfl) ?_
                      refine r_ast ha hx hb hK hP hS 1 (by decide) (j := n) (by omega) dX2_device_81 (fun H locs hP hS => ?_)
                      have hP : va_P D vwCl (rW cI cZ a (S.1, up2 (S.2) 1 n above)) H := hP
                      refine lv_aload_n hx hb dX2_device_82 rfl (lv_at hl 0 rfl) ?_
                      refine r_get (S := (S.1, up2 (S.2) 1 n above)) (v := .ref (a 2)) hx hb hts hin hown hK hP 2 (by decide) (by decide +kernel) rfl rfl dX2_device_83 ?_
                      refine lv_aload_n hx hb dX2_device_86 rfl (lv_at hl 0 rfl) ?_
                      refine r_get (S := (S.1, up2 (S.2) 1 n above)) (v := .int (nI n)) hx hb hts hin hown hK hP 0 (by decide) (by decide +kernel) rfl (congrArg (fun z => some (Value.int z)) hok.1) dX2_device_87 ?_
                      refine lv_iload_n hx hb dX2_device_90 rfl (lv_at hl 2 rfl) ?_
                      refine r_ast ha hx hb hK hP hS 2 (by decide) (j := n) (by omega) dX2_device_91 (fun H locs hP hS => ?_)
                      have hP : va_P D vwCl (rW cI cZ a (S.1, up2 (up2 (S.2) 1 n above) 2 n down)) H := hP
                      refine lv_aload_n hx hb dX2_device_92 rfl (lv_at hl 0 rfl) ?_
                      refine r_get (S := (S.1, up2 (up2 (S.2) 1 n above) 2 n down)) (v := .ref (a 3)) hx hb hts hin hown hK hP 3 (by decide) (by decide +kernel) rfl rfl dX2_device_93 ?_
                      refine lv_aload_n hx hb dX2_device_96 rfl (lv_at hl 0 rfl) ?_
                      refine r_get (S := (S.1, up2 (up2 (S.2) 1 n above) 2 n down)) (v := .int (nI n)) hx hb hts hin hown hK hP 0 (by decide) (by decide +kernel) rfl (congrArg (fun z => some (Value.int z)) hok.1) dX2_device_97 ?_
                      refine lv_iload_n hx hb dX2_device_100 rfl (lv_at hl 3 rfl) ?_
                      refine r_ast ha hx hb hK hP hS 3 (by decide) (j := n) (by omega) dX2_device_101 (fun H locs hP hS => ?_)
                      have hP : va_P D vwCl (rW cI cZ a (S.1, up2 (up2 (up2 (S.2) 1 n above) 2 n down) 3 n up)) H := hP
                      refine lv_aload_n hx hb dX2_device_102 rfl (lv_at hl 0 rfl) ?_
                      refine r_get (S := (S.1, up2 (up2 (up2 (S.2) 1 n above) 2 n down) 3 n up)) (v := .ref (a 4)) hx hb hts hin hown hK hP 4 (by decide) (by decide +kernel) rfl rfl dX2_device_103 ?_
                      refine lv_aload_n hx hb dX2_device_106 rfl (lv_at hl 0 rfl) ?_
                      refine r_get (S := (S.1, up2 (up2 (up2 (S.2) 1 n above) 2 n down) 3 n up)) (v := .int (nI n)) hx hb hts hin hown hK hP 0 (by decide) (by decide +kernel) rfl (congrArg (fun z => some (Value.int z)) hok.1) dX2_device_107 ?_
                      refine lv_iload hx hb dX2_device_110 (lv_at hl 4 rfl) ?_
                      refine r_ast ha hx hb hK hP hS 4 (by decide) (j := n) (by omega) dX2_device_112 (fun H locs hP hS => ?_)
                      have hP : va_P D vwCl (rW cI cZ a (S.1, up2 (up2 (up2 (up2 (S.2) 1 n above) 2 n down) 3 n up) 4 n delay)) H := hP
                      refine lv_aload_n hx hb dX2_device_113 rfl (lv_at hl 0 rfl) ?_
                      refine r_get (S := (S.1, up2 (up2 (up2 (up2 (S.2) 1 n above) 2 n down) 3 n up) 4 n delay)) (v := .ref (a 5)) hx hb hts hin hown hK hP 5 (by decide) (by decide +kernel) rfl rfl dX2_device_114 ?_
                      refine lv_aload_n hx hb dX2_device_117 rfl (lv_at hl 0 rfl) ?_
                      refine r_get (S := (S.1, up2 (up2 (up2 (up2 (S.2) 1 n above) 2 n down) 3 n up) 4 n delay)) (v := .int (nI n)) hx hb hts hin hown hK hP 0 (by decide) (by decide +kernel) rfl (congrArg (fun z => some (Value.int z)) hok.1) dX2_device_118 ?_
                      refine lv_iconst (v := 2) hx hb dX2_device_121 (by decide) ?_
                      refine r_ast ha hx hb hK hP hS 5 (by decide) (j := n) (by omega) dX2_device_122 (fun H locs hP hS => ?_)
                      have hP : va_P D vwCl (rW cI cZ a (S.1, up2 (up2 (up2 (up2 (up2 (S.2) 1 n above) 2 n down) 3 n up) 4 n delay) 5 n 2)) H := hP
                      refine lv_aload_n hx hb dX2_device_123 rfl (lv_at hl 0 rfl) ?_
                      refine r_get (S := (S.1, up2 (up2 (up2 (up2 (up2 (S.2) 1 n above) 2 n down) 3 n up) 4 n delay) 5 n 2)) (v := .ref (a 7)) hx hb hts hin hown hK hP 7 (by decide) (by decide +kernel) rfl rfl dX2_device_124 ?_
                      refine lv_aload_n hx hb dX2_device_127 rfl (lv_at hl 0 rfl) ?_
                      refine r_get (S := (S.1, up2 (up2 (up2 (up2 (up2 (S.2) 1 n above) 2 n down) 3 n up) 4 n delay) 5 n 2)) (v := .int (nI n)) hx hb hts hin hown hK hP 0 (by decide) (by decide +kernel) rfl (congrArg (fun z => some (Value.int z)) hok.1) dX2_device_128 ?_
                      refine lv_iconst (v := 0) hx hb dX2_device_131 (by decide) ?_
                      refine r_ast ha hx hb hK hP hS 7 (by decide) (j := n) (by omega) dX2_device_132 (fun H locs hP hS => ?_)
                      have hP : va_P D vwCl (rW cI cZ a (S.1, up2 (up2 (up2 (up2 (up2 (up2 (S.2) 1 n above) 2 n down) 3 n up) 4 n delay) 5 n 2) 7 n 0)) H := hP
                      refine lv_aload_n hx hb dX2_device_133 rfl (lv_at hl 0 rfl) ?_
                      refine r_get (S := (S.1, up2 (up2 (up2 (up2 (up2 (up2 (S.2) 1 n above) 2 n down) 3 n up) 4 n delay) 5 n 2) 7 n 0)) (v := .ref (a 8)) hx hb hts hin hown hK hP 8 (by decide) (by decide +kernel) rfl rfl dX2_device_134 ?_
                      refine lv_aload_n hx hb dX2_device_137 rfl (lv_at hl 0 rfl) ?_
                      refine r_get (S := (S.1, up2 (up2 (up2 (up2 (up2 (up2 (S.2) 1 n above) 2 n down) 3 n up) 4 n delay) 5 n 2) 7 n 0)) (v := .int (nI n)) hx hb hts hin hown hK hP 0 (by decide) (by decide +kernel) rfl (congrArg (fun z => some (Value.int z)) hok.1) dX2_device_138 ?_
                      refine lv_iconst (v := 0) hx hb dX2_device_141 (by decide) ?_
                      refine r_ast ha hx hb hK hP hS 8 (by decide) (j := n) (by omega) dX2_device_142 (fun H locs hP hS => ?_)
                      have hP : va_P D vwCl (rW cI cZ a (S.1, up2 (up2 (up2 (up2 (up2 (up2 (up2 (S.2) 1 n above) 2 n down) 3 n up) 4 n delay) 5 n 2) 7 n 0) 8 n 0)) H := hP
                      refine lv_aload_n hx hb dX2_device_143 rfl (lv_at hl 0 rfl) ?_
                      refine r_get (S := (S.1, up2 (up2 (up2 (up2 (up2 (up2 (up2 (S.2) 1 n above) 2 n down) 3 n up) 4 n delay) 5 n 2) 7 n 0) 8 n 0)) (v := .ref (a 9)) hx hb hts hin hown hK hP 9 (by decide) (by decide +kernel) rfl rfl dX2_device_144 ?_
                      refine lv_aload_n hx hb dX2_device_147 rfl (lv_at hl 0 rfl) ?_
                      refine r_get (S := (S.1, up2 (up2 (up2 (up2 (up2 (up2 (up2 (S.2) 1 n above) 2 n down) 3 n up) 4 n delay) 5 n 2) 7 n 0) 8 n 0)) (v := .int (nI n)) hx hb hts hin hown hK hP 0 (by decide) (by decide +kernel) rfl (congrArg (fun z => some (Value.int z)) hok.1) dX2_device_148 ?_
                      refine lv_iconst (v := 0) hx hb dX2_device_151 (by decide) ?_
                      refine r_ast ha hx hb hK hP hS 9 (by decide) (j := n) (by omega) dX2_device_152 (fun H locs hP hS => ?_)
                      have hP : va_P D vwCl (rW cI cZ a (S.1, up2 (up2 (up2 (up2 (up2 (up2 (up2 (up2 (S.2) 1 n above) 2 n down) 3 n up) 4 n delay) 5 n 2) 7 n 0) 8 n 0) 9 n 0)) H := hP
                      refine lv_aload_n hx hb dX2_device_153 rfl (lv_at hl 0 rfl) ?_
                      refine r_get (S := (S.1, up2 (up2 (up2 (up2 (up2 (up2 (up2 (up2 (S.2) 1 n above) 2 n down) 3 n up) 4 n delay) 5 n 2) 7 n 0) 8 n 0) 9 n 0)) (v := .ref (a 10)) hx hb hts hin hown hK hP 10 (by decide) (by decide +kernel) rfl rfl dX2_device_154 ?_
                      refine lv_aload_n hx hb dX2_device_157 rfl (lv_at hl 0 rfl) ?_
                      refine r_get (S := (S.1, up2 (up2 (up2 (up2 (up2 (up2 (up2 (up2 (S.2) 1 n above) 2 n down) 3 n up) 4 n delay) 5 n 2) 7 n 0) 8 n 0) 9 n 0)) (v := .int (nI n)) hx hb hts hin hown hK hP 0 (by decide) (by decide +kernel) rfl (congrArg (fun z => some (Value.int z)) hok.1) dX2_device_158 ?_
                      refine lv_iconst (v := 0) hx hb dX2_device_161 (by decide) ?_
                      refine r_zast ha hx hb hK hP hS 10 (by decide) (j := n) (by omega) (Or.inl rfl) dX2_device_162 (fun H locs hP hS => ?_)
                      have hP : va_P D vwCl (rW cI cZ a (S.1, up2 (up2 (up2 (up2 (up2 (up2 (up2 (up2 (up2 (S.2) 1 n above) 2 n down) 3 n up) 4 n delay) 5 n 2) 7 n 0) 8 n 0) 9 n 0) 10 n 0)) H := hP
                      refine lv_aload_n hx hb dX2_device_163 rfl (lv_at hl 0 rfl) ?_
                      refine lv_dup hx hb dX2_device_164 rfl ?_
                      refine r_get (S := (S.1, up2 (up2 (up2 (up2 (up2 (up2 (up2 (up2 (up2 (S.2) 1 n above) 2 n down) 3 n up) 4 n delay) 5 n 2) 7 n 0) 8 n 0) 9 n 0) 10 n 0)) (v := .int (nI n)) hx hb hts hin hown hK hP 0 (by decide) (by decide +kernel) rfl (congrArg (fun z => some (Value.int z)) hok.1) dX2_device_165 ?_
                      refine lv_iconst (v := 1) hx hb dX2_device_168 (by decide) ?_
                      refine lv_iadd hx hb dX2_device_169 ?_
                      refine r_put ha hx hb hts hin hown hK hP hS 0 (by decide) (by decide +kernel) ⟨rfl, rfl, rfl⟩ dX2_device_170 (fun H locs hP hS => ?_)
                      have hP : va_P D vwCl (rW cI cZ a (upd (S.1) 0 ((nI n) + 1), up2 (up2 (up2 (up2 (up2 (up2 (up2 (up2 (up2 (S.2) 1 n above) 2 n down) 3 n up) 4 n delay) 5 n 2) 7 n 0) 8 n 0) 9 n 0) 10 n 0)) H := hP
                      have hok : rOk (n + 1) (upd (S.1) 0 ((nI n) + 1), up2 (up2 (up2 (up2 (up2 (up2 (up2 (up2 (up2 (S.2) 1 n above) 2 n down) 3 n up) 4 n delay) 5 n 2) 7 n 0) 8 n 0) 9 n 0) 10 n 0) := R_dev_ok hok (by omega) c2 rfl rfl
                      refine lv_aload_n hx hb dX2_device_173 rfl (lv_at hl 0 rfl) ?_
                      refine lv_aload_n hx hb dX2_device_174 rfl (lv_at hl 0 rfl) ?_
                      refine lv_aload_n hx hb dX2_device_175 rfl (lv_at hl 0 rfl) ?_
                      refine r_get (S := (upd (S.1) 0 ((nI n) + 1), up2 (up2 (up2 (up2 (up2 (up2 (up2 (up2 (up2 (S.2) 1 n above) 2 n down) 3 n up) 4 n delay) 5 n 2) 7 n 0) 8 n 0) 9 n 0) 10 n 0)) (v := .int ((nI n) + 1)) hx hb hts hin hown hK hP 0 (by decide) (by decide +kernel) rfl rfl dX2_device_176 ?_
                      refine lv_iconst (v := 1) hx hb dX2_device_179 (by decide) ?_
                      refine lv_isub hx hb dX2_device_180 ?_
                      rw [nI_back n]
                      refine m_callR (As := [.int (nI n)]) (rest := [.ref (a 0)]) ⟨hx, hb, hml, hown, hts⟩ (c_X2_line l D cI cZ a ha (n + 1) (upd (S.1) 0 ((nI n) + 1), up2 (up2 (up2 (up2 (up2 (up2 (up2 (up2 (up2 (S.2) 1 n above) 2 n down) 3 n up) 4 n delay) 5 n 2) 7 n 0) 8 n 0) 9 n 0) 10 n 0) hok n (by omega)) (cwV 1 hts gX2_device_X2_line rfl rfl rfl (by decide +kernel) ⟨Nat.le_of_ble_eq_true rfl, Nat.le_of_ble_eq_true rfl⟩) hK hP (va_recv hK hP (ci := 3) (q0 := 0) rfl rfl) rfl hl.1 rfl (Nat.le_of_ble_eq_true rfl) dX2_device_181 ⟨Nat.zero_le _, Nat.zero_le _⟩ ?_
                      refine m_calli (As := [.int (R_line (n + 1) (upd (S.1) 0 ((nI n) + 1), up2 (up2 (up2 (up2 (up2 (up2 (up2 (up2 (up2 (S.2) 1 n above) 2 n down) 3 n up) 4 n delay) 5 n 2) 7 n 0) 8 n 0) 9 n 0) 10 n 0) n)]) (rest := []) ⟨hx, hb, hml, hown, hts⟩ (c_X2_rouse l D cI cZ a ha (n + 1) (upd (S.1) 0 ((nI n) + 1), up2 (up2 (up2 (up2 (up2 (up2 (up2 (up2 (up2 (S.2) 1 n above) 2 n down) 3 n up) 4 n delay) 5 n 2) 7 n 0) 8 n 0) 9 n 0) 10 n 0) hok (R_line (n + 1) (upd (S.1) 0 ((nI n) + 1), up2 (up2 (up2 (up2 (up2 (up2 (up2 (up2 (up2 (S.2) 1 n above) 2 n down) 3 n up) 4 n delay) 5 n 2) 7 n 0) 8 n 0) 9 n 0) 10 n 0) n)) (cwV 1 hts gX2_device_X2_rouse rfl rfl rfl (by decide +kernel) ⟨Nat.le_of_ble_eq_true rfl, Nat.le_of_ble_eq_true rfl⟩) hK hP hS (fun q h => wA_up hS.1 q h) (va_recv hK hP (ci := 3) (q0 := 0) rfl rfl) rfl hl.1 rfl (Nat.le_of_ble_eq_true rfl) dX2_device_184 ⟨Nat.zero_le _, Nat.zero_le _⟩ (fun H locs hP hS _ => ?_)
                      have hok : rOk (n + 1) (R_rouse (n + 1) (upd (S.1) 0 ((nI n) + 1), up2 (up2 (up2 (up2 (up2 (up2 (up2 (up2 (up2 (S.2) 1 n above) 2 n down) 3 n up) 4 n delay) 5 n 2) 7 n 0) 8 n 0) 9 n 0) 10 n 0) (R_line (n + 1) (upd (S.1) 0 ((nI n) + 1), up2 (up2 (up2 (up2 (up2 (up2 (up2 (up2 (up2 (S.2) 1 n above) 2 n down) 3 n up) 4 n delay) 5 n 2) 7 n 0) 8 n 0) 9 n 0) 10 n 0) n)).2 := R_rouse_ok (n + 1) (upd (S.1) 0 ((nI n) + 1), up2 (up2 (up2 (up2 (up2 (up2 (up2 (up2 (up2 (S.2) 1 n above) 2 n down) 3 n up) 4 n delay) 5 n 2) 7 n 0) 8 n 0) 9 n 0) 10 n 0) (R_line (n + 1) (upd (S.1) 0 ((nI n) + 1), up2 (up2 (up2 (up2 (up2 (up2 (up2 (up2 (up2 (S.2) 1 n above) 2 n down) 3 n up) 4 n delay) 5 n 2) 7 n 0) 8 n 0) 9 n 0) 10 n 0) n) hok
                      refine lv_pop hx hb dX2_device_187 rfl ?_
                      refine lv_aload_n hx hb dX2_device_188 rfl (lv_at hl 0 rfl) ?_
                      refine r_get (S := (R_rouse (n + 1) (upd (S.1) 0 ((nI n) + 1), up2 (up2 (up2 (up2 (up2 (up2 (up2 (up2 (up2 (S.2) 1 n above) 2 n down) 3 n up) 4 n delay) 5 n 2) 7 n 0) 8 n 0) 9 n 0) 10 n 0) (R_line (n + 1) (upd (S.1) 0 ((nI n) + 1), up2 (up2 (up2 (up2 (up2 (up2 (up2 (up2 (up2 (S.2) 1 n above) 2 n down) 3 n up) 4 n delay) 5 n 2) 7 n 0) 8 n 0) 9 n 0) 10 n 0) n)).2) (v := .int (nI (n + 1))) hx hb hts hin hown hK hP 0 (by decide) (by decide +kernel) rfl (congrArg (fun z => some (Value.int z)) hok.1) dX2_device_189 ?_
                      refine lv_iconst (v := 1) hx hb dX2_device_192 (by decide) ?_
                      refine lv_isub hx hb dX2_device_193 ?_
                      rw [nI_pred]
                      have hE : R_device n S above down up delay = (nI n, (R_rouse (n + 1) (upd (S.1) 0 ((nI n) + 1), up2 (up2 (up2 (up2 (up2 (up2 (up2 (up2 (up2 (S.2) 1 n above) 2 n down) 3 n up) 4 n delay) 5 n 2) 7 n 0) 8 n 0) 9 n 0) 10 n 0) (R_line (n + 1) (upd (S.1) 0 ((nI n) + 1), up2 (up2 (up2 (up2 (up2 (up2 (up2 (up2 (up2 (S.2) 1 n above) 2 n down) 3 n up) 4 n delay) 5 n 2) 7 n 0) 8 n 0) 9 n 0) 10 n 0) n)).2) := by first | (simp only [R_device, if_neg c1, if_pos c2, if_neg c3, if_neg c4, if_neg c5, if_neg c6, if_neg c7, if_pos c8, if_pos c9, if_neg c10]; done) | (simp only [R_device, if_neg c1, if_pos c2, if_neg c3, if_neg c4, if_neg c5, if_neg c6, if_neg c7, if_pos c8, if_pos c9, if_neg c10]; rfl)
                      exact W.iret (v := nI n) hx hb hr (fun tt ht hW => ⟨⟨nI n, (), rfl, by rw [hE], by rw [ht, hE]; exact hP, va_K.moved hW.alike hK⟩, hS.F ht⟩) hS.2.2 dX2_device_194
                    · have c10n : n = 12 := (nI_eq (b := 12) (by omega) (by omega)).mp c10
                      refine lv_bipush (v := (-4)) hx hb dX2_device_69 (by decide) ?_
                      have hE : R_device n S above down up delay = ((-4), S) := by first | (simp only [R_device, if_neg c1, if_pos c2, if_neg c3, if_neg c4, if_neg c5, if_neg c6, if_neg c7, if_pos c8, if_pos c9, if_pos c10]; done) | (simp only [R_device, if_neg c1, if_pos c2, if_neg c3, if_neg c4, if_neg c5, if_neg c6, if_neg c7, if_pos c8, if_pos c9, if_pos c10]; rfl)
                      exact W.iret (v := (-4)) hx hb hr (fun tt ht hW => ⟨⟨(-4), (), rfl, by rw [hE], by rw [ht, hE]; exact hP, va_K.moved hW.alike hK⟩, hS.F ht⟩) hS.2.2 dX2_device_71
                  · refine lv_bipush (v := (-3)) hx hb dX2_device_57 (by decide) ?_
                    have hE : R_device n S above down up delay = ((-3), S) := by first | (simp only [R_device, if_neg c1, if_pos c2, if_neg c3, if_neg c4, if_neg c5, if_neg c6, if_neg c7, if_pos c8, if_neg c9]; done) | (simp only [R_device, if_neg c1, if_pos c2, if_neg c3, if_neg c4, if_neg c5, if_neg c6, if_neg c7, if_pos c8, if_neg c9]; rfl)
                    exact W.iret (v := (-3)) hx hb hr (fun tt ht hW => ⟨⟨(-3), (), rfl, by rw [hE], by rw [ht, hE]; exact hP, va_K.moved hW.alike hK⟩, hS.F ht⟩) hS.2.2 dX2_device_59
                · refine lv_bipush (v := (-2)) hx hb dX2_device_47 (by decide) ?_
                  have hE : R_device n S above down up delay = ((-2), S) := by first | (simp only [R_device, if_neg c1, if_pos c2, if_neg c3, if_neg c4, if_neg c5, if_neg c6, if_neg c7, if_neg c8]; done) | (simp only [R_device, if_neg c1, if_pos c2, if_neg c3, if_neg c4, if_neg c5, if_neg c6, if_neg c7, if_neg c8]; rfl)
                  exact W.iret (v := (-2)) hx hb hr (fun tt ht hW => ⟨⟨(-2), (), rfl, by rw [hE], by rw [ht, hE]; exact hP, va_K.moved hW.alike hK⟩, hS.F ht⟩) hS.2.2 dX2_device_49

theorem fig_out {k : Int32} (h0 : ¬ k = 0) (h1 : ¬ k = 1) (h2 : ¬ k = 2) (h3 : ¬ k = 3) (h4 : ¬ k = 4) (h5 : ¬ k = 5) (h6 : ¬ k = 6) : k.toInt < 0 ∨ 6 < k.toInt := by
  rcases Int.lt_or_le k.toInt 0 with h | h
  · exact Or.inl h
  · refine Or.inr ?_
    have key : ∀ j : Nat, j < 7 → k.toInt ≠ (j : Int) := by
      intro j hj q
      have e : k = nI j := Int32.toInt_inj.mp (q.trans (nI_toInt (by omega)).symm)
      have hjj : j = 0 ∨ j = 1 ∨ j = 2 ∨ j = 3 ∨ j = 4 ∨ j = 5 ∨ j = 6 := by omega
      rcases hjj with rfl | rfl | rfl | rfl | rfl | rfl | rfl
      · exact h0 e
      · exact h1 e
      · exact h2 e
      · exact h3 e
      · exact h4 e
      · exact h5 e
      · exact h6 e
    have k0 := key 0 (by omega); have k1 := key 1 (by omega); have k2 := key 2 (by omega); have k3 := key 3 (by omega); have k4 := key 4 (by omega); have k5 := key 5 (by omega); have k6 := key 6 (by omega)
    omega

def R_figure (n : Nat) (S : rSt) (k : Int32) : Int32 :=
  if k = 0 then S.1 17
  else if k = 1 then S.1 19
  else if k = 2 then S.1 20
  else if k = 3 then S.1 21
  else if k = 4 then S.1 22
  else if k = 5 then S.1 16
  else if k = 6 then nI n
  else (-2)
set_option maxHeartbeats 4000000 in
set_option maxRecDepth 100000 in
theorem c_X2_figure (l : Launch) (D : va_G) (cI cZ : ClassId) (a : Nat → Nat) (ha : (rL a).Nodup) (n : Nat) (S : rSt) (hok : rOk n S) (k : Int32) : mR l yX2_figure wsX2_figure (rmz 0 0) D (rT cI cZ) [.ref (a 0), .int k] (rW cI cZ a S) (R_figure n S k) := by
  refine Met.ofW (cc := cX2_figure) (maxL := 2) (ret := (some .int)) (by decide) rfl ?_
  intro p e s m args below meth c s₁ B hml hv
  obtain ⟨rfl, hP, hK⟩ := hv
  have hx := B.exec
  have hb := B.bytes
  have hr := B.returns
  have hts := atoms_spec (ws := wsX2_figure) B.pre
  have hin : ∀ w ∈ wsX20, w ∈ wsX2_figure := fun w h => List.mem_cons_of_mem _ (List.mem_append_right _ h)
  have hown : s.vm.findClass RX2 = some m.cls := findClass_of_methodNamed B.named
  have hlocks := B.notSynchronized
  have hn12 : n ≤ 12 := hok.2.1
  have hl := lv_entry ([.ref (a 0), .int k]) (n := 2) (Nat.le_of_ble_eq_true rfl)
  rw [lg_entry_eq]
  generalize (lg_sl ([.ref (a 0), .int k]) ++ List.replicate (2 - (lg_sl ([.ref (a 0), .int k])).length) Slot.unset).toArray = ls at hl ⊢
  have hl : lv_has ls 2 [(0, .ref (a 0)), (1, .int k)] := hl
  refine lv_iload_n hx hb dX2_figure_0 rfl (lv_at hl 1 rfl) ?_
  by_cases h0 : k = 0
  · subst h0
    refine lv_tableIn (off := 43) (tgt := 44) hx hb dX2_figure_1 (by decide) (by decide) (by decide) (by decide) ?_
    refine lv_aload_n hx hb dX2_figure_44 rfl (lv_at hl 0 rfl) ?_
    refine r_get (S := S) (v := .int (S.1 17)) hx hb hts hin hown hK hP 17 (by decide) (by decide +kernel) rfl rfl dX2_figure_45 ?_
    have hE : R_figure n S 0 = S.1 17 := by first | rfl | (simp [R_figure]; done) | (simp [C_figure]; done)
    exact W.iret (v := S.1 17) hx hb hr (fun tt ht hW => ⟨S.1 17, rfl, hE.symm, ht⟩) (fun q hq => by cases hq) dX2_figure_48
  · by_cases h1 : k = 1
    · subst h1
      refine lv_tableIn (off := 48) (tgt := 49) hx hb dX2_figure_1 (by decide) (by decide) (by decide) (by decide) ?_
      refine lv_aload_n hx hb dX2_figure_49 rfl (lv_at hl 0 rfl) ?_
      refine r_get (S := S) (v := .int (S.1 19)) hx hb hts hin hown hK hP 19 (by decide) (by decide +kernel) rfl rfl dX2_figure_50 ?_
      have hE : R_figure n S 1 = S.1 19 := by first | rfl | (simp [R_figure]; done) | (simp [C_figure]; done)
      exact W.iret (v := S.1 19) hx hb hr (fun tt ht hW => ⟨S.1 19, rfl, hE.symm, ht⟩) (fun q hq => by cases hq) dX2_figure_53
    · by_cases h2 : k = 2
      · subst h2
        refine lv_tableIn (off := 53) (tgt := 54) hx hb dX2_figure_1 (by decide) (by decide) (by decide) (by decide) ?_
        refine lv_aload_n hx hb dX2_figure_54 rfl (lv_at hl 0 rfl) ?_
        refine r_get (S := S) (v := .int (S.1 20)) hx hb hts hin hown hK hP 20 (by decide) (by decide +kernel) rfl rfl dX2_figure_55 ?_
        have hE : R_figure n S 2 = S.1 20 := by first | rfl | (simp [R_figure]; done) | (simp [C_figure]; done)
        exact W.iret (v := S.1 20) hx hb hr (fun tt ht hW => ⟨S.1 20, rfl, hE.symm, ht⟩) (fun q hq => by cases hq) dX2_figure_58
      · by_cases h3 : k = 3
        · subst h3
          refine lv_tableIn (off := 58) (tgt := 59) hx hb dX2_figure_1 (by decide) (by decide) (by decide) (by decide) ?_
          refine lv_aload_n hx hb dX2_figure_59 rfl (lv_at hl 0 rfl) ?_
          refine r_get (S := S) (v := .int (S.1 21)) hx hb hts hin hown hK hP 21 (by decide) (by decide +kernel) rfl rfl dX2_figure_60 ?_
          have hE : R_figure n S 3 = S.1 21 := by first | rfl | (simp [R_figure]; done) | (simp [C_figure]; done)
          exact W.iret (v := S.1 21) hx hb hr (fun tt ht hW => ⟨S.1 21, rfl, hE.symm, ht⟩) (fun q hq => by cases hq) dX2_figure_63
        · by_cases h4 : k = 4
          · subst h4
            refine lv_tableIn (off := 63) (tgt := 64) hx hb dX2_figure_1 (by decide) (by decide) (by decide) (by decide) ?_
            refine lv_aload_n hx hb dX2_figure_64 rfl (lv_at hl 0 rfl) ?_
            refine r_get (S := S) (v := .int (S.1 22)) hx hb hts hin hown hK hP 22 (by decide) (by decide +kernel) rfl rfl dX2_figure_65 ?_
            have hE : R_figure n S 4 = S.1 22 := by first | rfl | (simp [R_figure]; done) | (simp [C_figure]; done)
            exact W.iret (v := S.1 22) hx hb hr (fun tt ht hW => ⟨S.1 22, rfl, hE.symm, ht⟩) (fun q hq => by cases hq) dX2_figure_68
          · by_cases h5 : k = 5
            · subst h5
              refine lv_tableIn (off := 68) (tgt := 69) hx hb dX2_figure_1 (by decide) (by decide) (by decide) (by decide) ?_
              refine lv_aload_n hx hb dX2_figure_69 rfl (lv_at hl 0 rfl) ?_
              refine r_get (S := S) (v := .int (S.1 16)) hx hb hts hin hown hK hP 16 (by decide) (by decide +kernel) rfl rfl dX2_figure_70 ?_
              have hE : R_figure n S 5 = S.1 16 := by first | rfl | (simp [R_figure]; done) | (simp [C_figure]; done)
              exact W.iret (v := S.1 16) hx hb hr (fun tt ht hW => ⟨S.1 16, rfl, hE.symm, ht⟩) (fun q hq => by cases hq) dX2_figure_73
            · by_cases h6 : k = 6
              · subst h6
                refine lv_tableIn (off := 73) (tgt := 74) hx hb dX2_figure_1 (by decide) (by decide) (by decide) (by decide) ?_
                refine lv_aload_n hx hb dX2_figure_74 rfl (lv_at hl 0 rfl) ?_
                refine r_get (S := S) (v := .int (nI n)) hx hb hts hin hown hK hP 0 (by decide) (by decide +kernel) rfl (congrArg (fun z => some (Value.int z)) hok.1) dX2_figure_75 ?_
                have hE : R_figure n S 6 = nI n := by first | rfl | (simp [R_figure]; done) | (simp [C_figure]; done)
                exact W.iret (v := nI n) hx hb hr (fun tt ht hW => ⟨nI n, rfl, hE.symm, ht⟩) (fun q hq => by cases hq) dX2_figure_78
              · refine lv_tableOut (tgt := 79) hx hb dX2_figure_1 (fig_out h0 h1 h2 h3 h4 h5 h6) (by decide) ?_
                refine lv_bipush (v := (-2)) hx hb dX2_figure_79 (by decide) ?_
                have hE : R_figure n S k = (-2) := by first | (simp only [R_figure, if_neg h0, if_neg h1, if_neg h2, if_neg h3, if_neg h4, if_neg h5, if_neg h6]; done) | (simp only [R_figure, if_neg h0, if_neg h1, if_neg h2, if_neg h3, if_neg h4, if_neg h5, if_neg h6]; rfl)
                exact W.iret (v := (-2)) hx hb hr (fun tt ht hW => ⟨(-2), rfl, hE.symm, ht⟩) (fun q hq => by cases hq) dX2_figure_81
