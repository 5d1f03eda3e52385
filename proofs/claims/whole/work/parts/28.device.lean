def C_device (n : Nat) (o : Nat → Nat) (S : cSt) (p dn up dl : Int32) : Int32 × Nat × (Nat → Nat) × cSt :=
  if C_areDevices n o S p = 0 then ((-2), n, o, S)
  else if C_isWithin n o S dn 1 20 = 0 then ((-2), n, o, S)
  else if C_isWithin n o S up 1 20 = 0 then ((-2), n, o, S)
  else if C_isWithin n o S dl 0 50 = 0 then ((-2), n, o, S)
  else if S.1 2 = 0 then (if nI n < 12 then (nI n, n + 1, C_dO n (C_dK n o S p) o, C_rouse (n + 1) (C_dO n (C_dK n o S p) o) (C_dS n o S p dn up dl) (C_withAncestors n o S p))
    else ((-4), n, o, S))
  else ((-3), n, o, S)
set_option maxHeartbeats 8000000 in
set_option maxRecDepth 100000 in
theorem c_X1_device (l : Launch) (D : va_G) (cO : ClassId) (mi e0 : Nat) (h ad : Nat → Nat) (md : Nat → Int32) (n : Nat) (o : Nat → Nat) (ha : (cL h ad n).Nodup) (S : cSt) (hok : cOk n o S) (he : n = 0 → h 3 = e0 ∧ h 4 = e0) (p dn up dl : Int32) (sz : Nat) : Met l yX1_device wsX1_device ({ frames := 7, cells := 3, slots := 43, locals := 157 }) (va_Pc [.ref (h 0), .int p, .int dn, .int up, .int dl] (fun U => U.heap.size = sz ∧ va_P D vwCl (cW cO h ad md n o S) U.heap ∧ va_K D vwCl (cT cO) U ∧ jE mi U ∧ jS e0 (wA (cL h ad n) sz) U U.heap)) (va_Qi (fun r (u : (Nat → Nat) × (Nat → Nat) × (Nat → Int32)) => r = (C_device n o S p dn up dl).1 ∧ (cL u.1 u.2.1 (C_device n o S p dn up dl).2.1).Nodup ∧ u.1 0 = h 0 ∧ ((C_device n o S p dn up dl).2.1 = 0 → u.1 3 = e0 ∧ u.1 4 = e0) ∧ ∀ q ∈ cL u.1 u.2.1 (C_device n o S p dn up dl).2.1, q ∈ cL h ad n ∨ sz ≤ q) (fun u t => va_P D vwCl (cW cO u.1 u.2.1 u.2.2 (C_device n o S p dn up dl).2.1 (C_device n o S p dn up dl).2.2.1 (C_device n o S p dn up dl).2.2.2) t.heap ∧ va_K D vwCl (cT cO) t) (wA (cL h ad n) sz)) 3 43 (wA (cL h ad n) sz) := by
  refine Met.ofW (cc := cX1_device) (maxL := 6) (ret := (some .int)) (by decide) rfl ?_
  intro prog e s m args below meth c s₁ B hml hv
  obtain ⟨rfl, hsz, hP, hK, hJE, hJZ⟩ := hv
  have hx := B.exec
  have hb := B.bytes
  have hr := B.returns
  have hts := atoms_spec (ws := wsX1_device) B.pre
  have hin : ∀ w ∈ wsX10, w ∈ wsX1_device := fun w h => List.mem_cons_of_mem _ (List.mem_append_left _ (List.mem_append_left _ (List.mem_append_right _ h)))
  have hin0 : ∀ w ∈ wsX00, w ∈ wsX1_device := fun w h => List.mem_cons_of_mem _ (List.mem_append_left _ (List.mem_append_right _ h))
  have hown : s.vm.findClass RX1 = some m.cls := findClass_of_methodNamed B.named
  have hlocks := B.notSynchronized
  have hn12 : n ≤ 12 := hok.1
  subst hsz
  have hS : va_S (wA (cL h ad n) s.heap.size) s.heap s.heap [] := va_S.rf
  have hl := lv_entry ([.ref (h 0), .int p, .int dn, .int up, .int dl]) (n := 6) (Nat.le_of_ble_eq_true rfl)
  rw [lg_entry_eq]
  generalize (lg_sl ([.ref (h 0), .int p, .int dn, .int up, .int dl]) ++ List.replicate (6 - (lg_sl ([.ref (h 0), .int p, .int dn, .int up, .int dl])).length) Slot.unset).toArray = ls at hl ⊢
  have hl : lv_has ls 6 [(0, .ref (h 0)), (1, .int p), (2, .int dn), (3, .int up), (4, .int dl)] := hl
  refine lv_aload_n hx hb dX1_device_0 rfl (lv_at hl 0 rfl) ?_
  refine lv_iload_n hx hb dX1_device_1 rfl (lv_at hl 1 rfl) ?_
  refine m_callR (As := [.int p]) (rest := []) ⟨hx, hb, hml, hown, hts⟩ (c_X1_areDevices l D cO h ad md n o ha S hok p) (cwV 1 hts gX1_device_X1_areDevices rfl rfl rfl (by decide +kernel) ⟨Nat.le_of_ble_eq_true rfl, Nat.le_of_ble_eq_true rfl⟩) hK hP (va_recv hK hP (ci := 2) (q0 := 0) rfl rfl) rfl hl.1 rfl (Nat.le_of_ble_eq_true rfl) dX1_device_2 ⟨Nat.zero_le _, Nat.zero_le _⟩ ?_
  refine lv_if_eq (tgt := 39) hx hb dX1_device_5 (by decide) (fun c1 => ?_) (fun c1 => ?_)
  · refine lv_bipush (v := (-2)) hx hb dX1_device_39 (by decide) ?_
    have hE : C_device n o S p dn up dl = ((-2), n, o, S) := by first | (simp only [C_device, if_pos c1]; done) | (simp only [C_device, if_pos c1]; rfl)
    refine W.widen (k := 3) (n := 43) (by omega) (by omega) ?_
    exact W.iret (v := (-2)) hx hb hr (fun tt ht hW => ⟨⟨(-2), (h, ad, md), rfl, ⟨by rw [hE], by rw [hE]; exact ha, rfl, by rw [hE]; exact he, by rw [hE]; exact fun q hq => Or.inl hq⟩, by rw [ht, hE]; exact hP, va_K.moved hW.alike hK⟩, hS.F ht⟩) hS.2.2 dX1_device_41
  · refine lv_iload_n hx hb dX1_device_8 rfl (lv_at hl 2 rfl) ?_
    refine lv_iconst (v := 1) hx hb dX1_device_9 (by decide) ?_
    refine lv_bipush (v := 20) hx hb dX1_device_10 (by decide) ?_
    refine m_callRS (As := [.int dn, .int 1, .int 20]) (rest := []) ⟨hx, hb, hml, hown, hts⟩ (c_X1_isWithin l D cO h ad md n o ha S hok dn 1 20) (va_cwS 3 hts gX1_device_X1_isWithin rfl rfl rfl (by decide +kernel) ⟨Nat.le_of_ble_eq_true rfl, Nat.le_of_ble_eq_true rfl⟩) hK hP rfl hl.1 rfl (Nat.le_of_ble_eq_true rfl) dX1_device_12 ⟨Nat.zero_le _, Nat.zero_le _⟩ ?_
    refine lv_if_eq (tgt := 39) hx hb dX1_device_15 (by decide) (fun c2 => ?_) (fun c2 => ?_)
    · refine lv_bipush (v := (-2)) hx hb dX1_device_39 (by decide) ?_
      have hE : C_device n o S p dn up dl = ((-2), n, o, S) := by first | (simp only [C_device, if_neg c1, if_pos c2]; done) | (simp only [C_device, if_neg c1, if_pos c2]; rfl)
      refine W.widen (k := 3) (n := 43) (by omega) (by omega) ?_
      exact W.iret (v := (-2)) hx hb hr (fun tt ht hW => ⟨⟨(-2), (h, ad, md), rfl, ⟨by rw [hE], by rw [hE]; exact ha, rfl, by rw [hE]; exact he, by rw [hE]; exact fun q hq => Or.inl hq⟩, by rw [ht, hE]; exact hP, va_K.moved hW.alike hK⟩, hS.F ht⟩) hS.2.2 dX1_device_41
    · refine lv_iload_n hx hb dX1_device_18 rfl (lv_at hl 3 rfl) ?_
      refine lv_iconst (v := 1) hx hb dX1_device_19 (by decide) ?_
      refine lv_bipush (v := 20) hx hb dX1_device_20 (by decide) ?_
      refine m_callRS (As := [.int up, .int 1, .int 20]) (rest := []) ⟨hx, hb, hml, hown, hts⟩ (c_X1_isWithin l D cO h ad md n o ha S hok up 1 20) (va_cwS 3 hts gX1_device_X1_isWithin rfl rfl rfl (by decide +kernel) ⟨Nat.le_of_ble_eq_true rfl, Nat.le_of_ble_eq_true rfl⟩) hK hP rfl hl.1 rfl (Nat.le_of_ble_eq_true rfl) dX1_device_22 ⟨Nat.zero_le _, Nat.zero_le _⟩ ?_
      refine lv_if_eq (tgt := 39) hx hb dX1_device_25 (by decide) (fun c3 => ?_) (fun c3 => ?_)
      · refine lv_bipush (v := (-2)) hx hb dX1_device_39 (by decide) ?_
        have hE : C_device n o S p dn up dl = ((-2), n, o, S) := by first | (simp only [C_device, if_neg c1, if_neg c2, if_pos c3]; done) | (simp only [C_device, if_neg c1, if_neg c2, if_pos c3]; rfl)
        refine W.widen (k := 3) (n := 43) (by omega) (by omega) ?_
        exact W.iret (v := (-2)) hx hb hr (fun tt ht hW => ⟨⟨(-2), (h, ad, md), rfl, ⟨by rw [hE], by rw [hE]; exact ha, rfl, by rw [hE]; exact he, by rw [hE]; exact fun q hq => Or.inl hq⟩, by rw [ht, hE]; exact hP, va_K.moved hW.alike hK⟩, hS.F ht⟩) hS.2.2 dX1_device_41
      · refine lv_iload hx hb dX1_device_28 (lv_at hl 4 rfl) ?_
        refine lv_iconst (v := 0) hx hb dX1_device_30 (by decide) ?_
        refine lv_bipush (v := 50) hx hb dX1_device_31 (by decide) ?_
        refine m_callRS (As := [.int dl, .int 0, .int 50]) (rest := []) ⟨hx, hb, hml, hown, hts⟩ (c_X1_isWithin l D cO h ad md n o ha S hok dl 0 50) (va_cwS 3 hts gX1_device_X1_isWithin rfl rfl rfl (by decide +kernel) ⟨Nat.le_of_ble_eq_true rfl, Nat.le_of_ble_eq_true rfl⟩) hK hP rfl hl.1 rfl (Nat.le_of_ble_eq_true rfl) dX1_device_33 ⟨Nat.zero_le _, Nat.zero_le _⟩ ?_
        refine lv_if_ne (tgt := 42) hx hb dX1_device_36 (by decide) (fun c4 => ?_) (fun c4 => ?_)
        · refine lv_aload_n hx hb dX1_device_42 rfl (lv_at hl 0 rfl) ?_
          refine c_get (S := S) (v := .int (S.1 2)) hx hb hts hin hown hK hP 2 (by decide) (by decide +kernel) rfl rfl dX1_device_43 ?_
          refine lv_if_eq (tgt := 52) hx hb dX1_device_46 (by decide) (fun c5 => ?_) (fun c5 => ?_)
          · refine lv_aload_n hx hb dX1_device_52 rfl (lv_at hl 0 rfl) ?_
            refine c_get (S := S) (v := .ref (h 1)) hx hb hts hin hown hK hP 0 (by decide) (by decide +kernel) rfl rfl dX1_device_53 ?_
            refine m_callR (As := []) (rest := []) ⟨hx, hb, hml, hown, hts⟩ (c_J_size l D (cT cO) (cW cO h ad md n o S) (h 1) 1 (h 3) (md 1) (nI n) rfl) (cwV 0 hts gX1_device_Jx4a65c_size_8abf5 rfl rfl rfl (by decide +kernel) ⟨Nat.le_of_ble_eq_true rfl, Nat.le_of_ble_eq_true rfl⟩) hK hP (va_recv hK hP (ci := 0) (q0 := 1) rfl rfl) rfl hl.1 rfl (Nat.le_of_ble_eq_true rfl) dX1_device_56 ⟨Nat.zero_le _, Nat.zero_le _⟩ ?_
            refine lv_bipush (v := 12) hx hb dX1_device_59 (by decide) ?_
            refine lv_icmp_lt (tgt := 67) hx hb dX1_device_61 (by decide) (fun c6 => ?_) (fun c6 => ?_)
            · have hn11 : n < 12 := (nI_ltI (b := 12) (by omega) (by omega)).mp c6
              have hlt0 := hP.lt'
              rw [cW_L] at hlt0
              have hD0 : va_D (wA (cL h ad n) s.heap.size) (cW cO h ad md n o S) := wD cW_L ha (fun _ h => Or.inl h)
              have hA : ∀ zz : Nat, s.heap.size ≤ zz → (wA (cL h ad n) s.heap.size) zz := fun zz hz => Or.inr hz
              refine va_new (ci := 1) (fs := [.int 0, .int 0, .int 0, .int 0, .int 0, .int 0, .int 0, .int 0, .int 0, .int 0, .int 0, .int 0, .int 0]) (C := RX0) (T := TX0) (N := 13) hx hb hts hin0 tyX0 tyX0_ok hown (hts (.classLink RX1 69 RX0) (by decide +kernel)) (hts (.instantiable RX0 13) (by decide +kernel)) (hts (.initialized RX0) (by decide +kernel)) hK hP hD0 hS hA rfl (fun j hj => by rcases (show j = 0 ∨ j = 1 ∨ j = 2 ∨ j = 3 ∨ j = 4 ∨ j = 5 ∨ j = 6 ∨ j = 7 ∨ j = 8 ∨ j = 9 ∨ j = 10 ∨ j = 11 ∨ j = 12 by omega) with rfl | rfl | rfl | rfl | rfl | rfl | rfl | rfl | rfl | rfl | rfl | rfl | rfl <;> rfl) (Nat.le_of_ble_eq_true rfl) (Nat.le_of_ble_eq_true rfl) dX1_device_67 (fun d H hP hD hS => ?_)
              have hfd : s.heap.size ≤ d := hD.fresh (fun x hx => by rw [cW_L]; exact hx)
              have hdn : d ∉ cL h ad n := fun z => by have := hlt0 d z; omega
              refine W.widen (k := 1) (n := 13) (by omega) (by omega) ?_
              have hPw : va_P D vwCl (cW cO h ad md n o S) H := hP.mem (fun x hx => List.mem_append_left _ hx)
              have hPd : va_P D vwCl [(d, .inr (1, [.int 0, .int 0, .int 0, .int 0, .int 0, .int 0, .int 0, .int 0, .int 0, .int 0, .int 0, .int 0, .int 0]))] H := hP.mem (fun x hx => List.mem_append_right _ hx)
              refine lv_dup hx hb dX1_device_70 rfl ?_
              refine lv_aload_n hx hb dX1_device_71 rfl (lv_at hl 0 rfl) ?_
              refine c_get (S := S) (v := .ref (h 1)) hx hb hts hin hown hK hPw 0 (by decide) (by decide +kernel) rfl rfl dX1_device_72 ?_
              refine m_callR (As := []) (rest := [.ref d, .ref d]) ⟨hx, hb, hml, hown, hts⟩ (c_J_size l D (cT cO) (cW cO h ad md n o S) (h 1) 1 (h 3) (md 1) (nI n) rfl) (cwV 0 hts gX1_device_Jx4a65c_size_8abf5 rfl rfl rfl (by decide +kernel) ⟨Nat.le_of_ble_eq_true rfl, Nat.le_of_ble_eq_true rfl⟩) hK hPw (va_recv hK hPw (ci := 0) (q0 := 1) rfl rfl) rfl hl.1 rfl (Nat.le_of_ble_eq_true rfl) dX1_device_75 ⟨Nat.le_of_ble_eq_true rfl, Nat.le_of_ble_eq_true rfl⟩ ?_
              refine lv_iload_n hx hb dX1_device_78 rfl (lv_at hl 1 rfl) ?_
              refine lv_aload_n hx hb dX1_device_79 rfl (lv_at hl 0 rfl) ?_
              refine lv_iload_n hx hb dX1_device_80 rfl (lv_at hl 1 rfl) ?_
              refine m_callR (As := [.int p]) (rest := [.int p, .int (nI n), .ref d, .ref d]) ⟨hx, hb, hml, hown, hts⟩ (c_X1_withAncestors l D cO h ad md n o ha S hok p) (cwV 1 hts gX1_device_X1_withAncestors rfl rfl rfl (by decide +kernel) ⟨Nat.le_of_ble_eq_true rfl, Nat.le_of_ble_eq_true rfl⟩) hK hPw (va_recv hK hPw (ci := 2) (q0 := 0) rfl rfl) rfl hl.1 rfl (Nat.le_of_ble_eq_true rfl) dX1_device_81 ⟨Nat.le_of_ble_eq_true rfl, Nat.le_of_ble_eq_true rfl⟩ ?_
              refine lv_aload_n hx hb dX1_device_84 rfl (lv_at hl 0 rfl) ?_
              refine lv_iload_n hx hb dX1_device_85 rfl (lv_at hl 1 rfl) ?_
              refine m_callR (As := [.int p]) (rest := [.int (C_withAncestors n o S p), .int p, .int (nI n), .ref d, .ref d]) ⟨hx, hb, hml, hown, hts⟩ (c_X1_depthUnder l D cO h ad md n o ha S hok p) (cwV 1 hts gX1_device_X1_depthUnder rfl rfl rfl (by decide +kernel) ⟨Nat.le_of_ble_eq_true rfl, Nat.le_of_ble_eq_true rfl⟩) hK hPw (va_recv hK hPw (ci := 2) (q0 := 0) rfl rfl) rfl hl.1 rfl (Nat.le_of_ble_eq_true rfl) dX1_device_86 ⟨Nat.le_of_ble_eq_true rfl, Nat.le_of_ble_eq_true rfl⟩ ?_
              refine lv_iload_n hx hb dX1_device_89 rfl (lv_at hl 2 rfl) ?_
              refine lv_iload_n hx hb dX1_device_90 rfl (lv_at hl 3 rfl) ?_
              refine lv_iload hx hb dX1_device_91 (lv_at hl 4 rfl) ?_
              have hAd : ∀ zz : Nat, wA [d] H.size zz → (wA (cL h ad n) s.heap.size) zz := fun zz hz => hz.elim (fun h1 => by rw [List.mem_singleton.mp h1]; exact Or.inr hfd) (fun h1 => Or.inr (Nat.le_trans hS.1 h1))
              refine va_callv (va_runI (As := [.int (nI n), .int p, .int (C_withAncestors n o S p), .int (C_depthUnder n o S p), .int dn, .int up, .int dl]) (rest := [.ref d]) ⟨hx, hb, hml, hown, hts⟩ (c_X0_init l D (cT cO) d (nI n) p (C_withAncestors n o S p) (C_depthUnder n o S p) dn up dl H.size) (cwI 7 hts gX1_device_X0_init rfl rfl rfl (hts (.initialized RX0) (by decide +kernel)) (hts (.methodLink RX1 78 yX0_init) (by decide +kernel)) (hts (.instanceMethod yX0_init) (by decide +kernel)) rfl (by decide +kernel) ⟨Nat.le_of_ble_eq_true rfl, Nat.le_of_ble_eq_true rfl⟩) ⟨m_blind, fun U hU hw => ⟨rfl, by rw [hU], by rw [hU]; exact hPd, va_K.moved hw.alike hK⟩⟩ rfl rfl hl.1 rfl (lv_room (Nat.le_of_ble_eq_true rfl)) dX1_device_93 ⟨Nat.le_of_ble_eq_true rfl, Nat.le_of_ble_eq_true rfl⟩) hS (fun q _ h => hAd q h) hAd (fun u t H1 locs ht hvm hw hB hz1 hk1 hS => ?_)
              obtain ⟨hPd1, hK1⟩ := hB
              rw [ht] at hPd1
              have hPw1 : va_P D vwCl (cW cO h ad md n o S) H1 := m_join hPw hk1 (fun x hx hx2 => by rw [cW_L] at hx; rw [List.mem_singleton.mp hx2] at hx; exact hdn hx)
              refine lv_astore (lv' := [(5, .ref d), (0, .ref (h 0)), (1, .int p), (2, .int dn), (3, .int up), (4, .int dl)]) hx hb dX1_device_96 hl (by decide) rfl (fun ls hl => ?_)
              refine lv_aload_n hx hb dX1_device_98 rfl (lv_at hl 1 rfl) ?_
              refine c_get (S := S) (v := .ref (h 1)) hx hb hts hin hown hK hPw1 0 (by decide) (by decide +kernel) rfl rfl dX1_device_99 ?_
              refine lv_aload hx hb dX1_device_102 (lv_at hl 0 rfl) ?_
              obtain ⟨dev, hdev⟩ : ∃ dev : List Value, dev = [.int (nI n), .int p, .int (C_withAncestors n o S p), .int (C_depthUnder n o S p), .int dn, .int up, .int dl, .int 2, .int 2, .int 0, .int 0, .int 0, .int 0] := ⟨_, rfl⟩
              rw [← hdev] at hPd1
              have hdc : dev = cD (C_dS n o S p dn up dl).2.1 n := by rw [hdev]; exact C_dCell.symm
              have hPa : va_P D vwCl ((h 1, lcell (md 1) (h 3) n) :: lT cO (dR1 cO h ad md n o S d dev) (h 3) n (cR1 ad n)) H1 := (hPw1.app hPd1).mem dv_m1
              have hnd1 := dv_nd1 (cO := cO) (md := md) (o := o) (S := S) (dev := dev) ha hdn
              have hdr : ∃ (k : Nat) (vs : List Value), (dR1 cO h ad md n o S d dev)[k]? = some (d, dcell vs) := by
                obtain ⟨k, hk⟩ := List.getElem?_of_mem (show (d, dcell dev) ∈ dR1 cO h ad md n o S d dev by simp [dR1])
                exact ⟨k, dev, hk⟩
              have hdv : ∀ i, i < n → (ad i, dcell (cD S.2.1 i)) ∈ cDv ad n S.2.1 := fun i hi => List.mem_map.mpr ⟨i, List.mem_range.mpr hi, rfl⟩
              have hel1 : ∀ i, i < n → ∀ y : Nat, cR1 ad n i = some y → ∃ (k : Nat) (vs : List Value), (dR1 cO h ad md n o S d dev)[k]? = some (y, dcell vs) := fun i hi y hy => by
                rw [show cR1 ad n i = some (ad i) from if_pos hi] at hy
                cases hy
                obtain ⟨k, hk⟩ := List.getElem?_of_mem (show (ad i, dcell (cD S.2.1 i)) ∈ dR1 cO h ad md n o S d dev by simp only [dR1, List.mem_cons, List.mem_append]; exact Or.inr (Or.inr (Or.inl (hdv i hi))))
                exact ⟨k, _, hk⟩
              have hadr : ∀ x ∈ (((h 1, lcell (md 1) (h 3) n) :: lT cO (dR1 cO h ad md n o S d dev) (h 3) n (cR1 ad n) : va_W).map (fun q => q.1)), (wA (cL h ad n) s.heap.size) x := fun x hx => by
                obtain ⟨z, hz, rfl⟩ := List.mem_map.mp hx
                rcases List.mem_append.mp (dv_m1 z hz) with h1 | h1
                · exact Or.inl (by rw [← cW_L (cO := cO) (md := md) (o := o) (S := S)]; exact List.mem_map.mpr ⟨z, h1, rfl⟩)
                · rw [List.mem_singleton.mp h1]; exact Or.inr hfd
              have hA1 : ∀ zz : Nat, wA (((h 1, lcell (md 1) (h 3) n) :: lT cO (dR1 cO h ad md n o S d dev) (h 3) n (cR1 ad n) : va_W).map (fun q => q.1)) H1.size zz → (wA (cL h ad n) s.heap.size) zz := fun zz hz => hz.elim (hadr zz) (fun h1 => Or.inr (Nat.le_trans hS.1 h1))
              have hlt1 := hPa.lt'
              refine m_callAi (As := [.ref d]) (rest := []) ⟨hx, hb, hml, hown, hts⟩ (c_J_add1 l D cO mi e0 (h 1) (h 3) d n (md 1) (cR1 ad n) (dR1 cO h ad md n o S d dev) (by omega) (fun z => (he z).1) (fun i hi => if_neg (by omega)) hnd1 hdr hel1) (cwV 1 hts gX1_device_Jx4a65c_add_9ea2d rfl rfl rfl (by decide +kernel) ⟨Nat.le_of_ble_eq_true rfl, Nat.le_of_ble_eq_true rfl⟩) hK hPa hS hA1 hJE hJZ (va_recv hK hPa (ci := 0) (q0 := 0) rfl rfl) rfl hl.1 rfl (Nat.le_of_ble_eq_true rfl) dX1_device_104 ⟨Nat.le_of_ble_eq_true rfl, Nat.le_of_ble_eq_true rfl⟩ (fun a1 H2 locs hpa1 hPb hS hz2 _ => ?_)
              have hd1lt : d < H1.size := hPd1.lt' d (by simp)
              have hin1 : ∀ x ∈ cL h ad n, x < H1.size := fun x hx => Nat.lt_of_lt_of_le (hlt0 x hx) (Nat.le_trans (Nat.le_refl _) (by have := hS.1; have := hz1; omega))
              have ha1 : (¬ n = 0 ∧ a1 = h 3) ∨ (a1 ∉ cL h ad n ∧ ¬ a1 = d) := hpa1.elim Or.inl (fun z => Or.inr ⟨fun q => by have := hin1 a1 q; omega, fun q => by omega⟩)
              refine lv_pop hx hb dX1_device_107 rfl ?_
              refine lv_aload_n hx hb dX1_device_108 rfl (lv_at hl 1 rfl) ?_
              refine va_get (ci := 2) (v := .ref (h 2)) (C := RX1) (T := TX1) (N := 14) hx hb hts hin hown hK hPb 1 rfl rfl 1 (by decide) (hts (.fieldLink RX1 16 "DozingDevices" "order" "Ljava/util/ArrayList;") (by decide +kernel)) (fun _ h9 => h9) rfl dX1_device_109 ?_
              refine lv_aload_n hx hb dX1_device_112 rfl (lv_at hl 1 rfl) ?_
              refine lv_aload hx hb dX1_device_113 (lv_at hl 0 rfl) ?_
              obtain ⟨i5, hi5⟩ := List.getElem?_of_mem (show (d, dcell dev) ∈ ((h 1, lcell (md 1 + 1) a1 (n + 1)) :: (dR1 cO h ad md n o S d dev ++ [(a1, ocell cO (cap (n + 1)) (va_up (cR1 ad n) n (some d)))]) : va_W) by simp [dR1])
              refine va_get (ci := 1) (v := .int (C_depthUnder n o S p)) (C := RX0) (T := TX0) (N := 13) hx hb hts hin0 hown hK hPb i5 hi5 rfl 3 (by decide) (hts (.fieldLink RX1 85 "DozingDevices$Device" "depth" "I") (by decide +kernel)) (fun _ h9 => h9) (by rw [hdev]; rfl) dX1_device_115 ?_
              have hq2 : ∃ q2 : Nat, ((h 1, lcell (md 1 + 1) a1 (n + 1)) :: (dR1 cO h ad md n o S d dev ++ [(a1, ocell cO (cap (n + 1)) (va_up (cR1 ad n) n (some d)))]) : va_W)[q2]? = some (h 2, lcell (md 2) (h 4) n) := ⟨2, rfl⟩
              obtain ⟨q3, hq3⟩ : ∃ q3 : Nat, 0 < n → ((h 1, lcell (md 1 + 1) a1 (n + 1)) :: (dR1 cO h ad md n o S d dev ++ [(a1, ocell cO (cap (n + 1)) (va_up (cR1 ad n) n (some d)))]) : va_W)[q3]? = some (h 4, ocell cO (cap n) (cR2 ad n o)) := by
                by_cases h0 : n = 0
                · exact ⟨0, fun z => absurd h0 (by omega)⟩
                · obtain ⟨q, hq⟩ := List.getElem?_of_mem (show (h 4, ocell cO (cap n) (cR2 ad n o)) ∈ ((h 1, lcell (md 1 + 1) a1 (n + 1)) :: (dR1 cO h ad md n o S d dev ++ [(a1, ocell cO (cap (n + 1)) (va_up (cR1 ad n) n (some d)))]) : va_W) by simp [dR1, dA2, h0])
                  exact ⟨q, fun _ => hq⟩
              have hdo : ∀ i, i < n → ∃ k : Nat, ((h 1, lcell (md 1 + 1) a1 (n + 1)) :: (dR1 cO h ad md n o S d dev ++ [(a1, ocell cO (cap (n + 1)) (va_up (cR1 ad n) n (some d)))]) : va_W)[k]? = some (ad (o i), dcell (cD S.2.1 (o i))) := fun i hi => by
                apply List.getElem?_of_mem
                simp only [dR1, List.mem_cons, List.mem_append]
                exact Or.inr (Or.inl (Or.inr (Or.inr (Or.inl (hdv (o i) (hok.2.1 i hi))))))
              refine m_callR (As := [.int (C_depthUnder n o S p)]) (rest := [.ref (h 2)]) ⟨hx, hb, hml, hown, hts⟩ (c_placeForG l D cO _ (h 0) (h 2) (h 4) n (cap n) 1 2 q3 (cF h ad S) (md 2) ad o S (C_depthUnder n o S p) rfl rfl rfl hq3 hdo hn12 (cap_ge hn12) cap_lt) (cwV 1 hts gX1_device_X1_placeFor rfl rfl rfl (by decide +kernel) ⟨Nat.le_of_ble_eq_true rfl, Nat.le_of_ble_eq_true rfl⟩) hK hPb (va_recv hK hPb (ci := 2) (q0 := 1) rfl rfl) rfl hl.1 rfl (Nat.le_of_ble_eq_true rfl) dX1_device_118 ⟨Nat.le_of_ble_eq_true rfl, Nat.le_of_ble_eq_true rfl⟩ ?_
              obtain ⟨hkn, hke⟩ := C_dK_le (o := o) (S := S) (p := p) hn12
              rw [hke]
              refine lv_aload hx hb dX1_device_121 (lv_at hl 0 rfl) ?_
              have hPc : va_P D vwCl ((h 2, lcell (md 2) (h 4) n) :: lT cO (dR2 cO h ad md n S d dev a1 (va_up (cR1 ad n) n (some d))) (h 4) n (cR2 ad n o)) H2 := hPb.mem dv_m2
              have hnd2 := dv_nd2 (cO := cO) (md := md) (o := o) (S := S) (dev := dev) (f1 := va_up (cR1 ad n) n (some d)) ha hdn ha1
              have hdr2 : ∃ (k : Nat) (vs : List Value), (dR2 cO h ad md n S d dev a1 (va_up (cR1 ad n) n (some d)))[k]? = some (d, dcell vs) := by
                obtain ⟨k, hk⟩ := List.getElem?_of_mem (show (d, dcell dev) ∈ dR2 cO h ad md n S d dev a1 (va_up (cR1 ad n) n (some d)) by simp [dR2])
                exact ⟨k, dev, hk⟩
              have hel2 : ∀ i, i < n → ∀ y : Nat, cR2 ad n o i = some y → ∃ (k : Nat) (vs : List Value), (dR2 cO h ad md n S d dev a1 (va_up (cR1 ad n) n (some d)))[k]? = some (y, dcell vs) := fun i hi y hy => by
                rw [show cR2 ad n o i = some (ad (o i)) from if_pos hi] at hy
                cases hy
                obtain ⟨k, hk⟩ := List.getElem?_of_mem (show (ad (o i), dcell (cD S.2.1 (o i))) ∈ dR2 cO h ad md n S d dev a1 (va_up (cR1 ad n) n (some d)) by simp only [dR2, List.mem_cons, List.mem_append]; exact Or.inr (Or.inr (Or.inl (hdv (o i) (hok.2.1 i hi)))))
                exact ⟨k, _, hk⟩
              have ha1A : (wA (cL h ad n) s.heap.size) a1 := hpa1.elim (fun z => Or.inl (by rw [z.2]; simp [cL, z.1])) (fun z => Or.inr (by have := hz1; have := hin1; omega))
              have hA2 : ∀ zz : Nat, wA (((h 2, lcell (md 2) (h 4) n) :: lT cO (dR2 cO h ad md n S d dev a1 (va_up (cR1 ad n) n (some d))) (h 4) n (cR2 ad n o) : va_W).map (fun q => q.1)) H2.size zz → (wA (cL h ad n) s.heap.size) zz := fun zz hz => hz.elim (fun hx => by
                obtain ⟨z, hzm, rfl⟩ := List.mem_map.mp hx
                have hz2 := dv_m2 z hzm
                rcases List.mem_cons.mp hz2 with h1 | h1
                · rw [h1]; exact hadr _ (by simp)
                · rcases List.mem_append.mp h1 with h1 | h1
                  · refine hadr _ ?_
                    refine List.mem_map.mpr ⟨z, ?_, rfl⟩
                    unfold lT
                    split
                    · exact List.mem_cons_of_mem _ h1
                    · exact List.mem_cons_of_mem _ (List.mem_append_left _ h1)
                  · rw [List.mem_singleton.mp h1]; exact ha1A) (fun h1 => Or.inr (Nat.le_trans hS.1 h1))
              refine m_callA (As := [.int (nI (C_dK n o S p)), .ref d]) (rest := []) ⟨hx, hb, hml, hown, hts⟩ (c_J_add2 l D cO mi e0 (h 2) (h 4) d n (C_dK n o S p) (md 2) (cR2 ad n o) (dR2 cO h ad md n S d dev a1 (va_up (cR1 ad n) n (some d))) hkn (by omega) (fun z => (he z).2) (fun i hi => if_neg (by omega)) hnd2 hdr2 hel2) (cwV 2 hts gX1_device_Jx4a65c_add_7a177 rfl rfl rfl (by decide +kernel) ⟨Nat.le_of_ble_eq_true rfl, Nat.le_of_ble_eq_true rfl⟩) hK hPc hS hA2 hJE hJZ (va_recv hK hPc (ci := 0) (q0 := 0) rfl rfl) rfl hl.1 rfl (Nat.le_of_ble_eq_true rfl) dX1_device_123 ⟨Nat.le_of_ble_eq_true rfl, Nat.le_of_ble_eq_true rfl⟩ (fun a2 H3 locs hpa2 hPe hS hz3 _ => ?_)
              have ha1lt : a1 < H2.size := hPb.lt' a1 (by simp)
              have ha2 : (¬ n = 0 ∧ a2 = h 4) ∨ (a2 ∉ cL h ad n ∧ ¬ a2 = d ∧ ¬ a2 = a1) := hpa2.elim Or.inl (fun z => Or.inr ⟨fun q => by have := hin1 a2 q; omega, fun q => by omega, fun q => by omega⟩)
              have ha2A : (wA (cL h ad n) s.heap.size) a2 := hpa2.elim (fun z => Or.inl (by rw [z.2]; simp [cL, z.1])) (fun z => Or.inr (by omega))
              have hPn : va_P D vwCl (cW cO (dH h a1 a2) (va_up ad n d) (dM md) (n + 1) (C_dO n (C_dK n o S p) o) (C_dS n o S p dn up dl)) H3 := hPe.mem (dv_m3 hok hkn hdc rfl rfl)
              have hnn := dv_nd3 ha hdn ha1 ha2
              have hokn : cOk (n + 1) (C_dO n (C_dK n o S p) o) (C_dS n o S p dn up dl) := C_dev_ok hok (by omega) hkn
              have hsub : ∀ q ∈ cL (dH h a1 a2) (va_up ad n d) (n + 1), (wA (cL h ad n) s.heap.size) q := fun q hq => by
                rw [dL] at hq
                simp only [List.mem_append, List.mem_cons, List.not_mem_nil, or_false] at hq
                rcases hq with h1 | (h1 | h1) | h1 | h1
                · exact Or.inl (by simp only [cL, List.mem_append, List.mem_cons, List.not_mem_nil, or_false]; exact Or.inl h1)
                · exact Or.inl (by simp only [cL, List.mem_append]; exact Or.inr (Or.inl h1))
                · rw [h1]; exact Or.inr hfd
                · rw [h1]; exact ha1A
                · rw [h1]; exact ha2A
              refine lv_aload_n hx hb dX1_device_126 rfl (lv_at hl 1 rfl) ?_
              have hl : lv_has ls 6 [(5, .ref ((va_up ad n d) n)), (0, .ref ((dH h a1 a2) 0)), (1, .int p), (2, .int dn), (3, .int up), (4, .int dl)] := by rw [va_up_self]; exact hl
              refine lv_aload hx hb dX1_device_127 (lv_at hl 0 rfl) ?_
              refine c_dget (S := C_dS n o S p dn up dl) (v := .int (C_withAncestors n o S p)) (i := n) hx hb hts hin0 hown hK hPn (by omega) 2 (by decide) (by decide +kernel) rfl (by rw [← hdc, hdev]; rfl) dX1_device_129 ?_
              refine m_callv (As := [.int (C_withAncestors n o S p)]) (rest := []) ⟨hx, hb, hml, hown, hts⟩ (c_X1_rouse l D cO (dH h a1 a2) (va_up ad n d) (dM md) (n + 1) (C_dO n (C_dK n o S p) o) hnn (C_dS n o S p dn up dl) hokn (C_withAncestors n o S p)) (cwV 1 hts gX1_device_X1_rouse rfl rfl rfl (by decide +kernel) ⟨Nat.le_of_ble_eq_true rfl, Nat.le_of_ble_eq_true rfl⟩) hK hPn hS (fun q hq => hq.elim (hsub q) (fun h1 => Or.inr (Nat.le_trans hS.1 h1))) (va_recv hK hPn (ci := 2) (q0 := 0) rfl rfl) rfl hl.1 rfl (Nat.le_of_ble_eq_true rfl) dX1_device_132 ⟨Nat.le_of_ble_eq_true rfl, Nat.le_of_ble_eq_true rfl⟩ (fun H locs hP hS _ => ?_)
              have hokr := C_rouse_ok (n + 1) (C_dO n (C_dK n o S p) o) (C_dS n o S p dn up dl) (C_withAncestors n o S p) hokn
              refine lv_aload hx hb dX1_device_135 (lv_at hl 0 rfl) ?_
              refine c_dget (S := C_rouse (n + 1) (C_dO n (C_dK n o S p) o) (C_dS n o S p dn up dl) (C_withAncestors n o S p)) (v := .int (nI n)) (i := n) hx hb hts hin0 hown hK hP (by omega) 0 (by decide) (by decide +kernel) rfl (congrArg (fun z => some (Value.int z)) (hokr.2.2.1 n (by omega))) dX1_device_137 ?_
              have hE : C_device n o S p dn up dl = (nI n, n + 1, C_dO n (C_dK n o S p) o, C_rouse (n + 1) (C_dO n (C_dK n o S p) o) (C_dS n o S p dn up dl) (C_withAncestors n o S p)) := by first | (simp only [C_device, if_neg c1, if_neg c2, if_neg c3, if_neg c4, if_pos c5, if_pos c6]; done) | (simp only [C_device, if_neg c1, if_neg c2, if_neg c3, if_neg c4, if_pos c5, if_pos c6]; rfl)
              exact W.iret (v := nI n) hx hb hr (fun tt ht hW => ⟨⟨nI n, (dH h a1 a2, va_up ad n d, dM md), rfl, ⟨by rw [hE], by rw [hE]; exact hnn, rfl, by rw [hE]; exact fun z => absurd z (Nat.succ_ne_zero n), by rw [hE]; exact hsub⟩, by rw [ht, hE]; exact hP, va_K.moved hW.alike hK⟩, hS.F ht⟩) hS.2.2 dX1_device_140
            · refine lv_bipush (v := (-4)) hx hb dX1_device_64 (by decide) ?_
              have hE : C_device n o S p dn up dl = ((-4), n, o, S) := by first | (simp only [C_device, if_neg c1, if_neg c2, if_neg c3, if_neg c4, if_pos c5, if_neg c6]; done) | (simp only [C_device, if_neg c1, if_neg c2, if_neg c3, if_neg c4, if_pos c5, if_neg c6]; rfl)
              refine W.widen (k := 3) (n := 43) (by omega) (by omega) ?_
              exact W.iret (v := (-4)) hx hb hr (fun tt ht hW => ⟨⟨(-4), (h, ad, md), rfl, ⟨by rw [hE], by rw [hE]; exact ha, rfl, by rw [hE]; exact he, by rw [hE]; exact fun q hq => Or.inl hq⟩, by rw [ht, hE]; exact hP, va_K.moved hW.alike hK⟩, hS.F ht⟩) hS.2.2 dX1_device_66
          · refine lv_bipush (v := (-3)) hx hb dX1_device_49 (by decide) ?_
            have hE : C_device n o S p dn up dl = ((-3), n, o, S) := by first | (simp only [C_device, if_neg c1, if_neg c2, if_neg c3, if_neg c4, if_neg c5]; done) | (simp only [C_device, if_neg c1, if_neg c2, if_neg c3, if_neg c4, if_neg c5]; rfl)
            refine W.widen (k := 3) (n := 43) (by omega) (by omega) ?_
            exact W.iret (v := (-3)) hx hb hr (fun tt ht hW => ⟨⟨(-3), (h, ad, md), rfl, ⟨by rw [hE], by rw [hE]; exact ha, rfl, by rw [hE]; exact he, by rw [hE]; exact fun q hq => Or.inl hq⟩, by rw [ht, hE]; exact hP, va_K.moved hW.alike hK⟩, hS.F ht⟩) hS.2.2 dX1_device_51
        · refine lv_bipush (v := (-2)) hx hb dX1_device_39 (by decide) ?_
          have hE : C_device n o S p dn up dl = ((-2), n, o, S) := by first | (simp only [C_device, if_neg c1, if_neg c2, if_neg c3, if_pos c4]; done) | (simp only [C_device, if_neg c1, if_neg c2, if_neg c3, if_pos c4]; rfl)
          refine W.widen (k := 3) (n := 43) (by omega) (by omega) ?_
          exact W.iret (v := (-2)) hx hb hr (fun tt ht hW => ⟨⟨(-2), (h, ad, md), rfl, ⟨by rw [hE], by rw [hE]; exact ha, rfl, by rw [hE]; exact he, by rw [hE]; exact fun q hq => Or.inl hq⟩, by rw [ht, hE]; exact hP, va_K.moved hW.alike hK⟩, hS.F ht⟩) hS.2.2 dX1_device_41
