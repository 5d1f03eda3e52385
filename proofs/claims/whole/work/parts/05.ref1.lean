/-! the reference: pure pictures of its methods, and their contracts -/
def rOk (n : Nat) (S : rSt) : Prop := S.1 0 = nI n ∧ n ≤ 12 ∧ ∀ p, p < n → lb (S.2 1 p) p
def rSm (S T : rSt) : Prop := T.1 0 = S.1 0 ∧ T.2 1 = S.2 1
theorem rOk_of {n : Nat} {S T : rSt} (h : rSm S T) (hok : rOk n S) : rOk n T := ⟨h.1.trans hok.1, hok.2.1, by rw [h.2]; exact hok.2.2⟩
theorem rSm.rf {S : rSt} : rSm S S := ⟨rfl, rfl⟩
theorem rSm.tr {S T U : rSt} (h : rSm S T) (h2 : rSm T U) : rSm S U := ⟨h2.1.trans h.1, h2.2.trans h.2⟩
def inR (n : Nat) (d : Int32) : Bool := decide (0 ≤ d.toInt) && decide (d.toInt < n)
theorem inR_spec {n : Nat} {d : Int32} (hn : n ≤ 12) (h : inR n d = true) : ∃ j, j < n ∧ d = nI j := by
  simp only [inR, Bool.and_eq_true, decide_eq_true_eq] at h
  refine ⟨d.toInt.toNat, by omega, Int32.toInt_inj.mp ?_⟩
  rw [nI_toInt (by omega)]; omega
theorem inR_iff {n : Nat} {d : Int32} (hn : n ≤ 12) : inR n d = true ↔ (¬ d < 0 ∧ d < nI n) := by
  simp only [inR, Bool.and_eq_true, decide_eq_true_eq, Int32.lt_iff_toInt_lt, Int32.toInt_zero, nI_toInt (show n < 2 ^ 31 by omega)]
  omega
theorem inR_nI {n j : Nat} (hn : n ≤ 12) (h : j < n) : inR n (nI j) = true := by
  simp only [inR, Bool.and_eq_true, decide_eq_true_eq, nI_toInt (show j < 2 ^ 31 by omega)]; omega
def R_none (n : Nat) (S : rSt) (d : Int32) : Int32 := if inR n d = true then 0 else 1

set_option maxHeartbeats 4000000 in
set_option maxRecDepth 100000 in
theorem c_X2_none (l : Launch) (D : va_G) (cI cZ : ClassId) (a : Nat → Nat) (ha : (rL a).Nodup) (n : Nat) (S : rSt) (hok : rOk n S) (d : Int32) : mR l yX2_none wsX2_none (rmz 0 0) D (rT cI cZ) [.ref (a 0), .int d] (rW cI cZ a S) (R_none n S d) := by
  refine Met.ofW (cc := cX2_none) (maxL := 2) (ret := (some .boolean)) (by decide) rfl ?_
  intro p e s m args below meth c s₁ B hml hv
  obtain ⟨rfl, hP, hK⟩ := hv
  have hx := B.exec
  have hb := B.bytes
  have hr := B.returns
  have hts := atoms_spec (ws := wsX2_none) B.pre
  have hin : ∀ w ∈ wsX20, w ∈ wsX2_none := fun w h => List.mem_cons_of_mem _ (List.mem_append_right _ h)
  have hown : s.vm.findClass RX2 = some m.cls := findClass_of_methodNamed B.named
  have hlocks := B.notSynchronized
  have hn12 : n ≤ 12 := hok.2.1
  have hl := lv_entry ([.ref (a 0), .int d]) (n := 2) (Nat.le_of_ble_eq_true rfl)
  rw [lg_entry_eq]
  generalize (lg_sl ([.ref (a 0), .int d]) ++ List.replicate (2 - (lg_sl ([.ref (a 0), .int d])).length) Slot.unset).toArray = ls at hl ⊢
  have hl : lv_has ls 2 [(0, .ref (a 0)), (1, .int d)] := hl
  refine lv_iload_n hx hb dX2_none_0 rfl (lv_at hl 1 rfl) ?_
  refine lv_if_lt (tgt := 12) hx hb dX2_none_1 (by decide) (fun c1 => ?_) (fun c1 => ?_)
  · refine lv_iconst (v := 1) hx hb dX2_none_12 (by decide) ?_
    refine lv_goto (tgt := 17) hx hb dX2_none_13 (by decide) ?_
    have hE : R_none n S d = 1 := by unfold R_none; first | exact if_pos ((inR_iff hn12).mpr ⟨by assumption, by assumption⟩) | exact if_neg (fun h => absurd (by assumption) ((inR_iff hn12).mp h).1) | exact if_neg (fun h => absurd ((inR_iff hn12).mp h).2 (by assumption))
    exact W.zret (v := 1) hx hb hr rfl (fun tt ht hW => ⟨1, rfl, hE.symm, ht⟩) (fun q hq => by cases hq) dX2_none_17
  · refine lv_iload_n hx hb dX2_none_4 rfl (lv_at hl 1 rfl) ?_
    refine lv_aload_n hx hb dX2_none_5 rfl (lv_at hl 0 rfl) ?_
    refine r_get (S := S) (v := .int (nI n)) hx hb hts hin hown hK hP 0 (by decide) (by decide +kernel) rfl (congrArg (fun z => some (Value.int z)) hok.1) dX2_none_6 ?_
    refine lv_icmp_lt (tgt := 16) hx hb dX2_none_9 (by decide) (fun c2 => ?_) (fun c2 => ?_)
    · refine lv_iconst (v := 0) hx hb dX2_none_16 (by decide) ?_
      have hE : R_none n S d = 0 := by unfold R_none; first | exact if_pos ((inR_iff hn12).mpr ⟨by assumption, by assumption⟩) | exact if_neg (fun h => absurd (by assumption) ((inR_iff hn12).mp h).1) | exact if_neg (fun h => absurd ((inR_iff hn12).mp h).2 (by assumption))
      exact W.zret (v := 0) hx hb hr rfl (fun tt ht hW => ⟨0, rfl, hE.symm, ht⟩) (fun q hq => by cases hq) dX2_none_17
    · refine lv_iconst (v := 1) hx hb dX2_none_12 (by decide) ?_
      refine lv_goto (tgt := 17) hx hb dX2_none_13 (by decide) ?_
      have hE : R_none n S d = 1 := by unfold R_none; first | exact if_pos ((inR_iff hn12).mpr ⟨by assumption, by assumption⟩) | exact if_neg (fun h => absurd (by assumption) ((inR_iff hn12).mp h).1) | exact if_neg (fun h => absurd ((inR_iff hn12).mp h).2 (by assumption))
      exact W.zret (v := 1) hx hb hr rfl (fun tt ht hW => ⟨1, rfl, hE.symm, ht⟩) (fun q hq => by cases hq) dX2_none_17


def R_rouse_b (set : Int32) (k1 : Nat) (x2 : Int32) (Z : rSt) : Int32 × rSt :=
  if (set >>> ((nI k1) &&& 31)) &&& 1 = 1 then (if Z.2 5 k1 = 2 then (x2, (Z.1, up2 (up2 (Z.2) 5 k1 2) 8 k1 0))
    else ((x2) + 1, (Z.1, up2 (up2 (Z.2) 5 k1 2) 8 k1 0)))
  else (x2, Z)
theorem R_rouse_b_sm (set : Int32) (k1 : Nat) (x2 : Int32) (Z : rSt) : rSm Z (R_rouse_b set k1 x2 Z).2 := by
  unfold R_rouse_b
  split
  · split
    · exact (show rSm (Z) (Z.1, up2 (up2 (Z.2) 5 k1 2) 8 k1 0) from ⟨rfl, rfl⟩)
    · exact (show rSm (Z) (Z.1, up2 (up2 (Z.2) 5 k1 2) 8 k1 0) from ⟨rfl, rfl⟩)
  · exact rSm.rf
def R_rouse_it (n : Nat) (S : rSt) (set : Int32) : Nat → Int32 × rSt
  | 0 => (0, S)
  | k1 + 1 => R_rouse_b set k1 ((R_rouse_it n S set k1).1) ((R_rouse_it n S set k1).2)
def R_rouse (n : Nat) (S : rSt) (set : Int32) : Int32 × rSt :=
  ((R_rouse_it n S set n).1, (R_rouse_it n S set n).2)
theorem R_rouse_it_sm (n : Nat) (S : rSt) (set : Int32) (k : Nat) : rSm S (R_rouse_it n S set k).2 := by
  induction k with
  | zero => exact rSm.rf
  | succ k ih =>
    refine ih.tr ?_
    show rSm _ (R_rouse_b set k _ _).2
    unfold R_rouse_b
    repeat' split
    all_goals exact ⟨rfl, rfl⟩
theorem R_rouse_it_ok (n : Nat) (S : rSt) (set : Int32) (k : Nat) (hok : rOk n S) : rOk n (R_rouse_it n S set k).2 := rOk_of (R_rouse_it_sm n S set k) hok
theorem R_rouse_ok (n : Nat) (S : rSt) (set : Int32) (hok : rOk n S) : rOk n (R_rouse n S set).2 := R_rouse_it_ok n S set n hok
set_option maxHeartbeats 4000000 in
set_option maxRecDepth 100000 in
theorem c_X2_rouse (l : Launch) (D : va_G) (cI cZ : ClassId) (a : Nat → Nat) (ha : (rL a).Nodup) (n : Nat) (S : rSt) (hok : rOk n S) (set : Int32) : mI l yX2_rouse wsX2_rouse (rmz 0 0) D (rT cI cZ) (rL a) [.ref (a 0), .int set] (rW cI cZ a S) (R_rouse n S set).1 (rW cI cZ a (R_rouse n S set).2) := by
  intro sz
  refine Met.ofW (cc := cX2_rouse) (maxL := 4) (ret := (some .int)) (by decide) rfl ?_
  intro p e s m args below meth c s₁ B hml hv
  obtain ⟨rfl, hsz, hP, hK⟩ := hv
  have hx := B.exec
  have hb := B.bytes
  have hr := B.returns
  have hts := atoms_spec (ws := wsX2_rouse) B.pre
  have hin : ∀ w ∈ wsX20, w ∈ wsX2_rouse := fun w h => List.mem_cons_of_mem _ (List.mem_append_right _ h)
  have hown : s.vm.findClass RX2 = some m.cls := findClass_of_methodNamed B.named
  have hlocks := B.notSynchronized
  have hn12 : n ≤ 12 := hok.2.1
  subst hsz
  have hS : va_S (wA (rL a) s.heap.size) s.heap s.heap [] := va_S.rf
  have hl := lv_entry ([.ref (a 0), .int set]) (n := 4) (Nat.le_of_ble_eq_true rfl)
  rw [lg_entry_eq]
  generalize (lg_sl ([.ref (a 0), .int set]) ++ List.replicate (4 - (lg_sl ([.ref (a 0), .int set])).length) Slot.unset).toArray = ls at hl ⊢
  have hl : lv_has ls 4 [(0, .ref (a 0)), (1, .int set)] := hl
  have hok0 := hok
  refine lv_iconst (v := 0) hx hb dX2_rouse_0 (by decide) ?_
  refine lv_istore_n (lv' := [(2, .int 0), (0, .ref (a 0)), (1, .int set)]) hx hb dX2_rouse_1 rfl hl (by decide) rfl (fun ls hl => ?_)
  refine lv_iconst (v := 0) hx hb dX2_rouse_2 (by decide) ?_
  refine lv_istore_n (lv' := [(3, .int 0), (2, .int 0), (0, .ref (a 0)), (1, .int set)]) hx hb dX2_rouse_3 rfl hl (by decide) rfl (fun ls hl => ?_)
  refine w_loop (σ := Nat) (I := fun k1 H locs ls => k1 ≤ n ∧ va_P D vwCl (rW cI cZ a ((R_rouse_it n S set k1).2)) H ∧ va_S (wA (rL a) s.heap.size) s.heap H locs ∧ lv_has ls 4 [(0, .ref (a 0)), (1, .int set), (2, .int ((R_rouse_it n S set k1).1)), (3, .int (nI k1))]) (fun k1 => n - k1) ?_ 0 ⟨Nat.zero_le _, hP, hS, lv_sub hl [2, 3, 1, 0] rfl⟩
  intro k1 H locs ls hI ih
  obtain ⟨hk, hP, hS, hl⟩ := hI
  have hok : rOk n (R_rouse_it n S set k1).2 := R_rouse_it_ok n S set k1 hok0
  refine lv_iload_n hx hb dX2_rouse_4 rfl (lv_at hl 3 rfl) ?_
  refine lv_aload_n hx hb dX2_rouse_5 rfl (lv_at hl 0 rfl) ?_
  refine r_get (S := (R_rouse_it n S set k1).2) (v := .int (nI n)) hx hb hts hin hown hK hP 0 (by decide) (by decide +kernel) rfl (congrArg (fun z => some (Value.int z)) hok.1) dX2_rouse_6 ?_
  refine lv_icmp_ge (tgt := 59) hx hb dX2_rouse_9 (by decide) (fun c2 => ?_) (fun c2 => ?_)
  · have hkn : k1 = n := Nat.le_antisymm hk ((nI_leI (by omega) (by omega)).mp c2)
    rw [hkn] at hP hl
    have hok : rOk n (R_rouse_it n S set n).2 := R_rouse_it_ok n S set n hok0
    refine lv_iload_n hx hb dX2_rouse_59 rfl (lv_at hl 2 rfl) ?_
    have hE : R_rouse n S set = ((R_rouse_it n S set n).1, (R_rouse_it n S set n).2) := by first | (simp only [R_rouse]; done) | (simp only [R_rouse]; rfl)
    exact W.iret (v := (R_rouse_it n S set n).1) hx hb hr (fun tt ht hW => ⟨⟨(R_rouse_it n S set n).1, (), rfl, by rw [hE], by rw [ht, hE]; exact hP, va_K.moved hW.alike hK⟩, hS.F ht⟩) hS.2.2 dX2_rouse_60
  · have hlt : k1 < n := Nat.lt_of_not_le (fun z => c2 ((nI_leI (by omega) (by omega)).mpr z))
    refine lv_iload_n hx hb dX2_rouse_12 rfl (lv_at hl 1 rfl) ?_
    refine lv_iload_n hx hb dX2_rouse_13 rfl (lv_at hl 3 rfl) ?_
    refine lv_ishr hx hb dX2_rouse_14 ?_
    refine lv_iconst (v := 1) hx hb dX2_rouse_15 (by decide) ?_
    refine lv_iand hx hb dX2_rouse_16 ?_
    refine lv_iconst (v := 1) hx hb dX2_rouse_17 (by decide) ?_
    refine lv_icmp_ne (tgt := 53) hx hb dX2_rouse_18 (by decide) (fun c3 => ?_) (fun c3 => ?_)
    · refine lv_iinc (v := nI (k1 + 1)) (lv' := [(3, .int (nI (k1 + 1))), (0, .ref (a 0)), (1, .int set), (2, .int ((R_rouse_it n S set k1).1))]) hx hb dX2_rouse_53 hl (k := 3) rfl (nI_1 _) (by decide) rfl (fun ls hl => ?_)
      refine lv_goto (tgt := 4) hx hb dX2_rouse_56 (by decide) ?_
      have hE : R_rouse_it n S set (k1 + 1) = ((R_rouse_it n S set k1).1, (R_rouse_it n S set k1).2) := by show R_rouse_b set k1 ((R_rouse_it n S set k1).1) ((R_rouse_it n S set k1).2) = _; first | (simp only [R_rouse_b, if_neg c3]; done) | (simp only [R_rouse_b, if_neg c3]; rfl)
      exact ih (k1 + 1) H locs ls (by omega) ⟨by omega, by rw [hE]; exact hP, hS, by rw [hE]; exact lv_sub hl [1, 2, 3, 0] rfl⟩
    · refine lv_aload_n hx hb dX2_rouse_21 rfl (lv_at hl 0 rfl) ?_
      refine r_get (S := (R_rouse_it n S set k1).2) (v := .ref (a 5)) hx hb hts hin hown hK hP 5 (by decide) (by decide +kernel) rfl rfl dX2_rouse_22 ?_
      refine lv_iload_n hx hb dX2_rouse_25 rfl (lv_at hl 3 rfl) ?_
      refine r_ald (S := (R_rouse_it n S set k1).2) (x := (R_rouse_it n S set k1).2.2 5 k1) hx hb hK hP 5 (by decide) (j := k1) (by omega) rfl dX2_rouse_26 ?_
      refine lv_iconst (v := 2) hx hb dX2_rouse_27 (by decide) ?_
      refine lv_icmp_ne (tgt := 35) hx hb dX2_rouse_28 (by decide) (fun c4 => ?_) (fun c4 => ?_)
      · refine lv_iload_n hx hb dX2_rouse_35 rfl (lv_at hl 2 rfl) ?_
        refine lv_iconst (v := 1) hx hb dX2_rouse_36 (by decide) ?_
        refine lv_iadd hx hb dX2_rouse_37 ?_
        refine lv_istore_n (lv' := [(2, .int (((R_rouse_it n S set k1).1) + 1)), (0, .ref (a 0)), (1, .int set), (3, .int (nI k1))]) hx hb dX2_rouse_38 rfl hl (by decide) rfl (fun ls hl => ?_)
        refine lv_aload_n hx hb dX2_rouse_39 rfl (lv_at hl 1 rfl) ?_
        refine r_get (S := (R_rouse_it n S set k1).2) (v := .ref (a 5)) hx hb hts hin hown hK hP 5 (by decide) (by decide +kernel) rfl rfl dX2_rouse_40 ?_
        refine lv_iload_n hx hb dX2_rouse_43 rfl (lv_at hl 3 rfl) ?_
        refine lv_iconst (v := 2) hx hb dX2_rouse_44 (by decide) ?_
        refine r_ast ha hx hb hK hP hS 5 (by decide) (j := k1) (by omega) dX2_rouse_45 (fun H locs hP hS => ?_)
        have hP : va_P D vwCl (rW cI cZ a ((R_rouse_it n S set k1).2.1, up2 ((R_rouse_it n S set k1).2.2) 5 k1 2)) H := hP
        refine lv_aload_n hx hb dX2_rouse_46 rfl (lv_at hl 1 rfl) ?_
        refine r_get (S := ((R_rouse_it n S set k1).2.1, up2 ((R_rouse_it n S set k1).2.2) 5 k1 2)) (v := .ref (a 8)) hx hb hts hin hown hK hP 8 (by decide) (by decide +kernel) rfl rfl dX2_rouse_47 ?_
        refine lv_iload_n hx hb dX2_rouse_50 rfl (lv_at hl 3 rfl) ?_
        refine lv_iconst (v := 0) hx hb dX2_rouse_51 (by decide) ?_
        refine r_ast ha hx hb hK hP hS 8 (by decide) (j := k1) (by omega) dX2_rouse_52 (fun H locs hP hS => ?_)
        have hP : va_P D vwCl (rW cI cZ a ((R_rouse_it n S set k1).2.1, up2 (up2 ((R_rouse_it n S set k1).2.2) 5 k1 2) 8 k1 0)) H := hP
        refine lv_iinc (v := nI (k1 + 1)) (lv' := [(3, .int (nI (k1 + 1))), (2, .int (((R_rouse_it n S set k1).1) + 1)), (0, .ref (a 0)), (1, .int set)]) hx hb dX2_rouse_53 hl (k := 3) rfl (nI_1 _) (by decide) rfl (fun ls hl => ?_)
        refine lv_goto (tgt := 4) hx hb dX2_rouse_56 (by decide) ?_
        have hE : R_rouse_it n S set (k1 + 1) = (((R_rouse_it n S set k1).1) + 1, ((R_rouse_it n S set k1).2.1, up2 (up2 ((R_rouse_it n S set k1).2.2) 5 k1 2) 8 k1 0)) := by show R_rouse_b set k1 ((R_rouse_it n S set k1).1) ((R_rouse_it n S set k1).2) = _; first | (simp only [R_rouse_b, if_pos c3, if_neg c4]; done) | (simp only [R_rouse_b, if_pos c3, if_neg c4]; rfl)
        exact ih (k1 + 1) H locs ls (by omega) ⟨by omega, by rw [hE]; exact hP, hS, by rw [hE]; exact lv_sub hl [2, 3, 1, 0] rfl⟩
      · refine lv_iload_n hx hb dX2_rouse_31 rfl (lv_at hl 2 rfl) ?_
        refine lv_goto (tgt := 38) hx hb dX2_rouse_32 (by decide) ?_
        refine lv_istore_n (lv' := [(2, .int ((R_rouse_it n S set k1).1)), (0, .ref (a 0)), (1, .int set), (3, .int (nI k1))]) hx hb dX2_rouse_38 rfl hl (by decide) rfl (fun ls hl => ?_)
        refine lv_aload_n hx hb dX2_rouse_39 rfl (lv_at hl 1 rfl) ?_
        refine r_get (S := (R_rouse_it n S set k1).2) (v := .ref (a 5)) hx hb hts hin hown hK hP 5 (by decide) (by decide +kernel) rfl rfl dX2_rouse_40 ?_
        refine lv_iload_n hx hb dX2_rouse_43 rfl (lv_at hl 3 rfl) ?_
        refine lv_iconst (v := 2) hx hb dX2_rouse_44 (by decide) ?_
        refine r_ast ha hx hb hK hP hS 5 (by decide) (j := k1) (by omega) dX2_rouse_45 (fun H locs hP hS => ?_)
        have hP : va_P D vwCl (rW cI cZ a ((R_rouse_it n S set k1).2.1, up2 ((R_rouse_it n S set k1).2.2) 5 k1 2)) H := hP
        refine lv_aload_n hx hb dX2_rouse_46 rfl (lv_at hl 1 rfl) ?_
        refine r_get (S := ((R_rouse_it n S set k1).2.1, up2 ((R_rouse_it n S set k1).2.2) 5 k1 2)) (v := .ref (a 8)) hx hb hts hin hown hK hP 8 (by decide) (by decide +kernel) rfl rfl dX2_rouse_47 ?_
        refine lv_iload_n hx hb dX2_rouse_50 rfl (lv_at hl 3 rfl) ?_
        refine lv_iconst (v := 0) hx hb dX2_rouse_51 (by decide) ?_
        refine r_ast ha hx hb hK hP hS 8 (by decide) (j := k1) (by omega) dX2_rouse_52 (fun H locs hP hS => ?_)
        have hP : va_P D vwCl (rW cI cZ a ((R_rouse_it n S set k1).2.1, up2 (up2 ((R_rouse_it n S set k1).2.2) 5 k1 2) 8 k1 0)) H := hP
        refine lv_iinc (v := nI (k1 + 1)) (lv' := [(3, .int (nI (k1 + 1))), (2, .int ((R_rouse_it n S set k1).1)), (0, .ref (a 0)), (1, .int set)]) hx hb dX2_rouse_53 hl (k := 3) rfl (nI_1 _) (by decide) rfl (fun ls hl => ?_)
        refine lv_goto (tgt := 4) hx hb dX2_rouse_56 (by decide) ?_
        have hE : R_rouse_it n S set (k1 + 1) = ((R_rouse_it n S set k1).1, ((R_rouse_it n S set k1).2.1, up2 (up2 ((R_rouse_it n S set k1).2.2) 5 k1 2) 8 k1 0)) := by show R_rouse_b set k1 ((R_rouse_it n S set k1).1) ((R_rouse_it n S set k1).2) = _; first | (simp only [R_rouse_b, if_pos c3, if_pos c4]; done) | (simp only [R_rouse_b, if_pos c3, if_pos c4]; rfl)
        exact ih (k1 + 1) H locs ls (by omega) ⟨by omega, by rw [hE]; exact hP, hS, by rw [hE]; exact lv_sub hl [2, 3, 1, 0] rfl⟩

def R_become (n : Nat) (S : rSt) (d : Nat) (to : Int32) : rSt :=
  (upd (S.1) 23 ((S.1 23) + 1), up2 (S.2) 5 d to)
theorem R_become_sm (n : Nat) (S : rSt) (d : Nat) (to : Int32) : rSm S ((R_become n S d to)) := by
  unfold R_become
  repeat' split
  all_goals exact ⟨rfl, rfl⟩
theorem R_become_ok (n : Nat) (S : rSt) (d : Nat) (to : Int32) (hok : rOk n S) : rOk n ((R_become n S d to)) := rOk_of (R_become_sm n S d to) hok
set_option maxHeartbeats 4000000 in
set_option maxRecDepth 100000 in
theorem c_X2_become (l : Launch) (D : va_G) (cI cZ : ClassId) (a : Nat → Nat) (ha : (rL a).Nodup) (n : Nat) (S : rSt) (hok : rOk n S) (d : Nat) (hd : d < n) (to : Int32) : mV l yX2_become wsX2_become (rmz 0 0) D (rT cI cZ) (rL a) [.ref (a 0), .int (nI d), .int to] (rW cI cZ a S) (rW cI cZ a (R_become n S d to)) := by
  intro sz
  refine Met.ofW (cc := cX2_become) (maxL := 3) (ret := none) (by decide) rfl ?_
  intro p e s m args below meth c s₁ B hml hv
  obtain ⟨rfl, hsz, hP, hK⟩ := hv
  have hx := B.exec
  have hb := B.bytes
  have hr := B.returns
  have hts := atoms_spec (ws := wsX2_become) B.pre
  have hin : ∀ w ∈ wsX20, w ∈ wsX2_become := fun w h => List.mem_cons_of_mem _ (List.mem_append_right _ h)
  have hown : s.vm.findClass RX2 = some m.cls := findClass_of_methodNamed B.named
  have hlocks := B.notSynchronized
  have hn12 : n ≤ 12 := hok.2.1
  subst hsz
  have hS : va_S (wA (rL a) s.heap.size) s.heap s.heap [] := va_S.rf
  have hl := lv_entry ([.ref (a 0), .int (nI d), .int to]) (n := 3) (Nat.le_of_ble_eq_true rfl)
  rw [lg_entry_eq]
  generalize (lg_sl ([.ref (a 0), .int (nI d), .int to]) ++ List.replicate (3 - (lg_sl ([.ref (a 0), .int (nI d), .int to])).length) Slot.unset).toArray = ls at hl ⊢
  have hl : lv_has ls 3 [(0, .ref (a 0)), (1, .int (nI d)), (2, .int to)] := hl
  refine lv_aload_n hx hb dX2_become_0 rfl (lv_at hl 0 rfl) ?_
  refine r_get (S := S) (v := .ref (a 5)) hx hb hts hin hown hK hP 5 (by decide) (by decide +kernel) rfl rfl dX2_become_1 ?_
  refine lv_iload_n hx hb dX2_become_4 rfl (lv_at hl 1 rfl) ?_
  refine lv_iload_n hx hb dX2_become_5 rfl (lv_at hl 2 rfl) ?_
  refine r_ast ha hx hb hK hP hS 5 (by decide) (j := d) (by omega) dX2_become_6 (fun H locs hP hS => ?_)
  have hP : va_P D vwCl (rW cI cZ a (S.1, up2 (S.2) 5 d to)) H := hP
  refine lv_aload_n hx hb dX2_become_7 rfl (lv_at hl 0 rfl) ?_
  refine lv_dup hx hb dX2_become_8 rfl ?_
  refine r_get (S := (S.1, up2 (S.2) 5 d to)) (v := .int (S.1 23)) hx hb hts hin hown hK hP 23 (by decide) (by decide +kernel) rfl rfl dX2_become_9 ?_
  refine lv_iconst (v := 1) hx hb dX2_become_12 (by decide) ?_
  refine lv_iadd hx hb dX2_become_13 ?_
  refine r_put ha hx hb hts hin hown hK hP hS 23 (by decide) (by decide +kernel) ⟨rfl, rfl, rfl⟩ dX2_become_14 (fun H locs hP hS => ?_)
  have hP : va_P D vwCl (rW cI cZ a (upd (S.1) 23 ((S.1 23) + 1), up2 (S.2) 5 d to)) H := hP
  have hE : R_become n S d to = (upd (S.1) 23 ((S.1 23) + 1), up2 (S.2) 5 d to) := by first | (simp only [R_become]; done) | (simp only [R_become]; rfl)
  exact W.vret hx hb hr (fun tt ht hW => ⟨⟨(), rfl, trivial, by rw [ht, hE]; exact hP, va_K.moved hW.alike hK⟩, hS.F ht⟩) hS.2.2 dX2_become_17

def R_giveUp (n : Nat) (S : rSt) (why : Int32) (d : Int32) : rSt :=
  (upd (upd (upd (upd (upd (S.1) 12 4) 13 (-1)) 15 d) 16 why) 22 ((S.1 22) + 1), S.2)
theorem R_giveUp_sm (n : Nat) (S : rSt) (why : Int32) (d : Int32) : rSm S ((R_giveUp n S why d)) := by
  unfold R_giveUp
  repeat' split
  all_goals exact ⟨rfl, rfl⟩
theorem R_giveUp_ok (n : Nat) (S : rSt) (why : Int32) (d : Int32) (hok : rOk n S) : rOk n ((R_giveUp n S why d)) := rOk_of (R_giveUp_sm n S why d) hok
set_option maxHeartbeats 4000000 in
set_option maxRecDepth 100000 in
theorem c_X2_giveUp (l : Launch) (D : va_G) (cI cZ : ClassId) (a : Nat → Nat) (ha : (rL a).Nodup) (n : Nat) (S : rSt) (hok : rOk n S) (why : Int32) (d : Int32) : mV l yX2_giveUp wsX2_giveUp (rmz 0 0) D (rT cI cZ) (rL a) [.ref (a 0), .int why, .int d] (rW cI cZ a S) (rW cI cZ a (R_giveUp n S why d)) := by
  intro sz
  refine Met.ofW (cc := cX2_giveUp) (maxL := 3) (ret := none) (by decide) rfl ?_
  intro p e s m args below meth c s₁ B hml hv
  obtain ⟨rfl, hsz, hP, hK⟩ := hv
  have hx := B.exec
  have hb := B.bytes
  have hr := B.returns
  have hts := atoms_spec (ws := wsX2_giveUp) B.pre
  have hin : ∀ w ∈ wsX20, w ∈ wsX2_giveUp := fun w h => List.mem_cons_of_mem _ (List.mem_append_right _ h)
  have hown : s.vm.findClass RX2 = some m.cls := findClass_of_methodNamed B.named
  have hlocks := B.notSynchronized
  have hn12 : n ≤ 12 := hok.2.1
  subst hsz
  have hS : va_S (wA (rL a) s.heap.size) s.heap s.heap [] := va_S.rf
  have hl := lv_entry ([.ref (a 0), .int why, .int d]) (n := 3) (Nat.le_of_ble_eq_true rfl)
  rw [lg_entry_eq]
  generalize (lg_sl ([.ref (a 0), .int why, .int d]) ++ List.replicate (3 - (lg_sl ([.ref (a 0), .int why, .int d])).length) Slot.unset).toArray = ls at hl ⊢
  have hl : lv_has ls 3 [(0, .ref (a 0)), (1, .int why), (2, .int d)] := hl
  refine lv_aload_n hx hb dX2_giveUp_0 rfl (lv_at hl 0 rfl) ?_
  refine lv_iconst (v := 4) hx hb dX2_giveUp_1 (by decide) ?_
  refine r_put ha hx hb hts hin hown hK hP hS 12 (by decide) (by decide +kernel) ⟨rfl, rfl, rfl⟩ dX2_giveUp_2 (fun H locs hP hS => ?_)
  have hP : va_P D vwCl (rW cI cZ a (upd (S.1) 12 4, S.2)) H := hP
  refine lv_aload_n hx hb dX2_giveUp_5 rfl (lv_at hl 0 rfl) ?_
  refine lv_iconst (v := (-1)) hx hb dX2_giveUp_6 (by decide) ?_
  refine r_put ha hx hb hts hin hown hK hP hS 13 (by decide) (by decide +kernel) ⟨rfl, rfl, rfl⟩ dX2_giveUp_7 (fun H locs hP hS => ?_)
  have hP : va_P D vwCl (rW cI cZ a (upd (upd (S.1) 12 4) 13 (-1), S.2)) H := hP
  refine lv_aload_n hx hb dX2_giveUp_10 rfl (lv_at hl 0 rfl) ?_
  refine lv_iload_n hx hb dX2_giveUp_11 rfl (lv_at hl 2 rfl) ?_
  refine r_put ha hx hb hts hin hown hK hP hS 15 (by decide) (by decide +kernel) ⟨rfl, rfl, rfl⟩ dX2_giveUp_12 (fun H locs hP hS => ?_)
  have hP : va_P D vwCl (rW cI cZ a (upd (upd (upd (S.1) 12 4) 13 (-1)) 15 d, S.2)) H := hP
  refine lv_aload_n hx hb dX2_giveUp_15 rfl (lv_at hl 0 rfl) ?_
  refine lv_iload_n hx hb dX2_giveUp_16 rfl (lv_at hl 1 rfl) ?_
  refine r_put ha hx hb hts hin hown hK hP hS 16 (by decide) (by decide +kernel) ⟨rfl, rfl, rfl⟩ dX2_giveUp_17 (fun H locs hP hS => ?_)
  have hP : va_P D vwCl (rW cI cZ a (upd (upd (upd (upd (S.1) 12 4) 13 (-1)) 15 d) 16 why, S.2)) H := hP
  refine lv_aload_n hx hb dX2_giveUp_20 rfl (lv_at hl 0 rfl) ?_
  refine lv_dup hx hb dX2_giveUp_21 rfl ?_
  refine r_get (S := (upd (upd (upd (upd (S.1) 12 4) 13 (-1)) 15 d) 16 why, S.2)) (v := .int (S.1 22)) hx hb hts hin hown hK hP 22 (by decide) (by decide +kernel) rfl rfl dX2_giveUp_22 ?_
  refine lv_iconst (v := 1) hx hb dX2_giveUp_25 (by decide) ?_
  refine lv_iadd hx hb dX2_giveUp_26 ?_
  refine r_put ha hx hb hts hin hown hK hP hS 22 (by decide) (by decide +kernel) ⟨rfl, rfl, rfl⟩ dX2_giveUp_27 (fun H locs hP hS => ?_)
  have hP : va_P D vwCl (rW cI cZ a (upd (upd (upd (upd (upd (S.1) 12 4) 13 (-1)) 15 d) 16 why) 22 ((S.1 22) + 1), S.2)) H := hP
  have hE : R_giveUp n S why d = (upd (upd (upd (upd (upd (S.1) 12 4) 13 (-1)) 15 d) 16 why) 22 ((S.1 22) + 1), S.2) := by first | (simp only [R_giveUp]; done) | (simp only [R_giveUp]; rfl)
  exact W.vret hx hb hr (fun tt ht hW => ⟨⟨(), rfl, trivial, by rw [ht, hE]; exact hP, va_K.moved hW.alike hK⟩, hS.F ht⟩) hS.2.2 dX2_giveUp_30

def R_watch (n : Nat) (S : rSt) (ticks : Int32) : Int32 × rSt :=
  if ticks < 0 then (0, S)
  else if ticks ≤ 100 then (1, (upd (upd (S.1) 18 ticks) 19 0, S.2))
  else (0, S)
theorem R_watch_sm (n : Nat) (S : rSt) (ticks : Int32) : rSm S ((R_watch n S ticks).2) := by
  unfold R_watch
  repeat' split
  all_goals exact ⟨rfl, rfl⟩
theorem R_watch_ok (n : Nat) (S : rSt) (ticks : Int32) (hok : rOk n S) : rOk n ((R_watch n S ticks).2) := rOk_of (R_watch_sm n S ticks) hok
set_option maxHeartbeats 4000000 in
set_option maxRecDepth 100000 in
theorem c_X2_watch (l : Launch) (D : va_G) (cI cZ : ClassId) (a : Nat → Nat) (ha : (rL a).Nodup) (n : Nat) (S : rSt) (hok : rOk n S) (ticks : Int32) : mI l yX2_watch wsX2_watch (rmz 0 0) D (rT cI cZ) (rL a) [.ref (a 0), .int ticks] (rW cI cZ a S) (R_watch n S ticks).1 (rW cI cZ a (R_watch n S ticks).2) := by
  intro sz
  refine Met.ofW (cc := cX2_watch) (maxL := 2) (ret := (some .boolean)) (by decide) rfl ?_
  intro p e s m args below meth c s₁ B hml hv
  obtain ⟨rfl, hsz, hP, hK⟩ := hv
  have hx := B.exec
  have hb := B.bytes
  have hr := B.returns
  have hts := atoms_spec (ws := wsX2_watch) B.pre
  have hin : ∀ w ∈ wsX20, w ∈ wsX2_watch := fun w h => List.mem_cons_of_mem _ (List.mem_append_right _ h)
  have hown : s.vm.findClass RX2 = some m.cls := findClass_of_methodNamed B.named
  have hlocks := B.notSynchronized
  have hn12 : n ≤ 12 := hok.2.1
  subst hsz
  have hS : va_S (wA (rL a) s.heap.size) s.heap s.heap [] := va_S.rf
  have hl := lv_entry ([.ref (a 0), .int ticks]) (n := 2) (Nat.le_of_ble_eq_true rfl)
  rw [lg_entry_eq]
  generalize (lg_sl ([.ref (a 0), .int ticks]) ++ List.replicate (2 - (lg_sl ([.ref (a 0), .int ticks])).length) Slot.unset).toArray = ls at hl ⊢
  have hl : lv_has ls 2 [(0, .ref (a 0)), (1, .int ticks)] := hl
  refine lv_iload_n hx hb dX2_watch_0 rfl (lv_at hl 1 rfl) ?_
  refine lv_if_lt (tgt := 10) hx hb dX2_watch_1 (by decide) (fun c1 => ?_) (fun c1 => ?_)
  · refine lv_iconst (v := 0) hx hb dX2_watch_10 (by decide) ?_
    have hE : R_watch n S ticks = (0, S) := by first | (simp only [R_watch, if_pos c1]; done) | (simp only [R_watch, if_pos c1]; rfl)
    exact W.zret (v := 0) hx hb hr rfl (fun tt ht hW => ⟨⟨0, (), rfl, by rw [hE], by rw [ht, hE]; exact hP, va_K.moved hW.alike hK⟩, hS.F ht⟩) hS.2.2 dX2_watch_11
  · refine lv_iload_n hx hb dX2_watch_4 rfl (lv_at hl 1 rfl) ?_
    refine lv_bipush (v := 100) hx hb dX2_watch_5 (by decide) ?_
    refine lv_icmp_le (tgt := 12) hx hb dX2_watch_7 (by decide) (fun c2 => ?_) (fun c2 => ?_)
    · refine lv_aload_n hx hb dX2_watch_12 rfl (lv_at hl 0 rfl) ?_
      refine lv_iload_n hx hb dX2_watch_13 rfl (lv_at hl 1 rfl) ?_
      refine r_put ha hx hb hts hin hown hK hP hS 18 (by decide) (by decide +kernel) ⟨rfl, rfl, rfl⟩ dX2_watch_14 (fun H locs hP hS => ?_)
      have hP : va_P D vwCl (rW cI cZ a (upd (S.1) 18 ticks, S.2)) H := hP
      refine lv_aload_n hx hb dX2_watch_17 rfl (lv_at hl 0 rfl) ?_
      refine lv_iconst (v := 0) hx hb dX2_watch_18 (by decide) ?_
      refine r_put ha hx hb hts hin hown hK hP hS 19 (by decide) (by decide +kernel) ⟨rfl, rfl, rfl⟩ dX2_watch_19 (fun H locs hP hS => ?_)
      have hP : va_P D vwCl (rW cI cZ a (upd (upd (S.1) 18 ticks) 19 0, S.2)) H := hP
      refine lv_iconst (v := 1) hx hb dX2_watch_22 (by decide) ?_
      have hE : R_watch n S ticks = (1, (upd (upd (S.1) 18 ticks) 19 0, S.2)) := by first | (simp only [R_watch, if_neg c1, if_pos c2]; done) | (simp only [R_watch, if_neg c1, if_pos c2]; rfl)
      exact W.zret (v := 1) hx hb hr rfl (fun tt ht hW => ⟨⟨1, (), rfl, by rw [hE], by rw [ht, hE]; exact hP, va_K.moved hW.alike hK⟩, hS.F ht⟩) hS.2.2 dX2_watch_23
    · refine lv_iconst (v := 0) hx hb dX2_watch_10 (by decide) ?_
      have hE : R_watch n S ticks = (0, S) := by first | (simp only [R_watch, if_neg c1, if_neg c2]; done) | (simp only [R_watch, if_neg c1, if_neg c2]; rfl)
      exact W.zret (v := 0) hx hb hr rfl (fun tt ht hW => ⟨⟨0, (), rfl, by rw [hE], by rw [ht, hE]; exact hP, va_K.moved hW.alike hK⟩, hS.F ht⟩) hS.2.2 dX2_watch_11

def R_kick (n : Nat) (S : rSt) : Int32 × rSt :=
  (S.1 19, (upd (S.1) 19 0, S.2))
theorem R_kick_sm (n : Nat) (S : rSt) : rSm S ((R_kick n S).2) := by
  unfold R_kick
  repeat' split
  all_goals exact ⟨rfl, rfl⟩
theorem R_kick_ok (n : Nat) (S : rSt) (hok : rOk n S) : rOk n ((R_kick n S).2) := rOk_of (R_kick_sm n S) hok
set_option maxHeartbeats 4000000 in
set_option maxRecDepth 100000 in
theorem c_X2_kick (l : Launch) (D : va_G) (cI cZ : ClassId) (a : Nat → Nat) (ha : (rL a).Nodup) (n : Nat) (S : rSt) (hok : rOk n S) : mI l yX2_kick wsX2_kick (rmz 0 0) D (rT cI cZ) (rL a) [.ref (a 0)] (rW cI cZ a S) (R_kick n S).1 (rW cI cZ a (R_kick n S).2) := by
  intro sz
  refine Met.ofW (cc := cX2_kick) (maxL := 2) (ret := (some .int)) (by decide) rfl ?_
  intro p e s m args below meth c s₁ B hml hv
  obtain ⟨rfl, hsz, hP, hK⟩ := hv
  have hx := B.exec
  have hb := B.bytes
  have hr := B.returns
  have hts := atoms_spec (ws := wsX2_kick) B.pre
  have hin : ∀ w ∈ wsX20, w ∈ wsX2_kick := fun w h => List.mem_cons_of_mem _ (List.mem_append_right _ h)
  have hown : s.vm.findClass RX2 = some m.cls := findClass_of_methodNamed B.named
  have hlocks := B.notSynchronized
  have hn12 : n ≤ 12 := hok.2.1
  subst hsz
  have hS : va_S (wA (rL a) s.heap.size) s.heap s.heap [] := va_S.rf
  have hl := lv_entry ([.ref (a 0)]) (n := 2) (Nat.le_of_ble_eq_true rfl)
  rw [lg_entry_eq]
  generalize (lg_sl ([.ref (a 0)]) ++ List.replicate (2 - (lg_sl ([.ref (a 0)])).length) Slot.unset).toArray = ls at hl ⊢
  have hl : lv_has ls 2 [(0, .ref (a 0))] := hl
  refine lv_aload_n hx hb dX2_kick_0 rfl (lv_at hl 0 rfl) ?_
  refine r_get (S := S) (v := .int (S.1 19)) hx hb hts hin hown hK hP 19 (by decide) (by decide +kernel) rfl rfl dX2_kick_1 ?_
  refine lv_istore_n (lv' := [(1, .int (S.1 19)), (0, .ref (a 0))]) hx hb dX2_kick_4 rfl hl (by decide) rfl (fun ls hl => ?_)
  refine lv_aload_n hx hb dX2_kick_5 rfl (lv_at hl 1 rfl) ?_
  refine lv_iconst (v := 0) hx hb dX2_kick_6 (by decide) ?_
  refine r_put ha hx hb hts hin hown hK hP hS 19 (by decide) (by decide +kernel) ⟨rfl, rfl, rfl⟩ dX2_kick_7 (fun H locs hP hS => ?_)
  have hP : va_P D vwCl (rW cI cZ a (upd (S.1) 19 0, S.2)) H := hP
  refine lv_iload_n hx hb dX2_kick_10 rfl (lv_at hl 0 rfl) ?_
  have hE : R_kick n S = (S.1 19, (upd (S.1) 19 0, S.2)) := by first | (simp only [R_kick]; done) | (simp only [R_kick]; rfl)
  exact W.iret (v := S.1 19) hx hb hr (fun tt ht hW => ⟨⟨S.1 19, (), rfl, by rw [hE], by rw [ht, hE]; exact hP, va_K.moved hW.alike hK⟩, hS.F ht⟩) hS.2.2 dX2_kick_11

def R_phase (n : Nat) (S : rSt) : Int32 :=
  S.1 12
set_option maxHeartbeats 4000000 in
set_option maxRecDepth 100000 in
theorem c_X2_phase (l : Launch) (D : va_G) (cI cZ : ClassId) (a : Nat → Nat) (ha : (rL a).Nodup) (n : Nat) (S : rSt) (hok : rOk n S) : mR l yX2_phase wsX2_phase (rmz 0 0) D (rT cI cZ) [.ref (a 0)] (rW cI cZ a S) (R_phase n S) := by
  refine Met.ofW (cc := cX2_phase) (maxL := 1) (ret := (some .int)) (by decide) rfl ?_
  intro p e s m args below meth c s₁ B hml hv
  obtain ⟨rfl, hP, hK⟩ := hv
  have hx := B.exec
  have hb := B.bytes
  have hr := B.returns
  have hts := atoms_spec (ws := wsX2_phase) B.pre
  have hin : ∀ w ∈ wsX20, w ∈ wsX2_phase := fun w h => List.mem_cons_of_mem _ (List.mem_append_right _ h)
  have hown : s.vm.findClass RX2 = some m.cls := findClass_of_methodNamed B.named
  have hlocks := B.notSynchronized
  have hn12 : n ≤ 12 := hok.2.1
  have hl := lv_entry ([.ref (a 0)]) (n := 1) (Nat.le_of_ble_eq_true rfl)
  rw [lg_entry_eq]
  generalize (lg_sl ([.ref (a 0)]) ++ List.replicate (1 - (lg_sl ([.ref (a 0)])).length) Slot.unset).toArray = ls at hl ⊢
  have hl : lv_has ls 1 [(0, .ref (a 0))] := hl
  refine lv_aload_n hx hb dX2_phase_0 rfl (lv_at hl 0 rfl) ?_
  refine r_get (S := S) (v := .int (S.1 12)) hx hb hts hin hown hK hP 12 (by decide) (by decide +kernel) rfl rfl dX2_phase_1 ?_
  have hE : R_phase n S = S.1 12 := by first | (simp only [R_phase]; done) | (simp only [R_phase]; rfl)
  exact W.iret (v := S.1 12) hx hb hr (fun tt ht hW => ⟨S.1 12, rfl, hE.symm, ht⟩) (fun q hq => by cases hq) dX2_phase_4

def R_due (n : Nat) (S : rSt) : Int32 :=
  S.1 13
set_option maxHeartbeats 4000000 in
set_option maxRecDepth 100000 in
theorem c_X2_due (l : Launch) (D : va_G) (cI cZ : ClassId) (a : Nat → Nat) (ha : (rL a).Nodup) (n : Nat) (S : rSt) (hok : rOk n S) : mR l yX2_due wsX2_due (rmz 0 0) D (rT cI cZ) [.ref (a 0)] (rW cI cZ a S) (R_due n S) := by
  refine Met.ofW (cc := cX2_due) (maxL := 1) (ret := (some .int)) (by decide) rfl ?_
  intro p e s m args below meth c s₁ B hml hv
  obtain ⟨rfl, hP, hK⟩ := hv
  have hx := B.exec
  have hb := B.bytes
  have hr := B.returns
  have hts := atoms_spec (ws := wsX2_due) B.pre
  have hin : ∀ w ∈ wsX20, w ∈ wsX2_due := fun w h => List.mem_cons_of_mem _ (List.mem_append_right _ h)
  have hown : s.vm.findClass RX2 = some m.cls := findClass_of_methodNamed B.named
  have hlocks := B.notSynchronized
  have hn12 : n ≤ 12 := hok.2.1
  have hl := lv_entry ([.ref (a 0)]) (n := 1) (Nat.le_of_ble_eq_true rfl)
  rw [lg_entry_eq]
  generalize (lg_sl ([.ref (a 0)]) ++ List.replicate (1 - (lg_sl ([.ref (a 0)])).length) Slot.unset).toArray = ls at hl ⊢
  have hl : lv_has ls 1 [(0, .ref (a 0))] := hl
  refine lv_aload_n hx hb dX2_due_0 rfl (lv_at hl 0 rfl) ?_
  refine r_get (S := S) (v := .int (S.1 13)) hx hb hts hin hown hK hP 13 (by decide) (by decide +kernel) rfl rfl dX2_due_1 ?_
  have hE : R_due n S = S.1 13 := by first | (simp only [R_due]; done) | (simp only [R_due]; rfl)
  exact W.iret (v := S.1 13) hx hb hr (fun tt ht hW => ⟨S.1 13, rfl, hE.symm, ht⟩) (fun q hq => by cases hq) dX2_due_4

def R_left (n : Nat) (S : rSt) : Int32 :=
  if 0 ≤ S.1 13 then S.1 14
  else 0
set_option maxHeartbeats 4000000 in
set_option maxRecDepth 100000 in
theorem c_X2_left (l : Launch) (D : va_G) (cI cZ : ClassId) (a : Nat → Nat) (ha : (rL a).Nodup) (n : Nat) (S : rSt) (hok : rOk n S) : mR l yX2_left wsX2_left (rmz 0 0) D (rT cI cZ) [.ref (a 0)] (rW cI cZ a S) (R_left n S) := by
  refine Met.ofW (cc := cX2_left) (maxL := 1) (ret := (some .int)) (by decide) rfl ?_
  intro p e s m args below meth c s₁ B hml hv
  obtain ⟨rfl, hP, hK⟩ := hv
  have hx := B.exec
  have hb := B.bytes
  have hr := B.returns
  have hts := atoms_spec (ws := wsX2_left) B.pre
  have hin : ∀ w ∈ wsX20, w ∈ wsX2_left := fun w h => List.mem_cons_of_mem _ (List.mem_append_right _ h)
  have hown : s.vm.findClass RX2 = some m.cls := findClass_of_methodNamed B.named
  have hlocks := B.notSynchronized
  have hn12 : n ≤ 12 := hok.2.1
  have hl := lv_entry ([.ref (a 0)]) (n := 1) (Nat.le_of_ble_eq_true rfl)
  rw [lg_entry_eq]
  generalize (lg_sl ([.ref (a 0)]) ++ List.replicate (1 - (lg_sl ([.ref (a 0)])).length) Slot.unset).toArray = ls at hl ⊢
  have hl : lv_has ls 1 [(0, .ref (a 0))] := hl
  refine lv_aload_n hx hb dX2_left_0 rfl (lv_at hl 0 rfl) ?_
  refine r_get (S := S) (v := .int (S.1 13)) hx hb hts hin hown hK hP 13 (by decide) (by decide +kernel) rfl rfl dX2_left_1 ?_
  refine lv_if_ge (tgt := 11) hx hb dX2_left_4 (by decide) (fun c1 => ?_) (fun c1 => ?_)
  · refine lv_aload_n hx hb dX2_left_11 rfl (lv_at hl 0 rfl) ?_
    refine r_get (S := S) (v := .int (S.1 14)) hx hb hts hin hown hK hP 14 (by decide) (by decide +kernel) rfl rfl dX2_left_12 ?_
    have hE : R_left n S = S.1 14 := by first | (simp only [R_left, if_pos c1]; done) | (simp only [R_left, if_pos c1]; rfl)
    exact W.iret (v := S.1 14) hx hb hr (fun tt ht hW => ⟨S.1 14, rfl, hE.symm, ht⟩) (fun q hq => by cases hq) dX2_left_15
  · refine lv_iconst (v := 0) hx hb dX2_left_7 (by decide) ?_
    refine lv_goto (tgt := 15) hx hb dX2_left_8 (by decide) ?_
    have hE : R_left n S = 0 := by first | (simp only [R_left, if_neg c1]; done) | (simp only [R_left, if_neg c1]; rfl)
    exact W.iret (v := 0) hx hb hr (fun tt ht hW => ⟨0, rfl, hE.symm, ht⟩) (fun q hq => by cases hq) dX2_left_15

def R_named (n : Nat) (S : rSt) : Int32 :=
  S.1 15
set_option maxHeartbeats 4000000 in
set_option maxRecDepth 100000 in
theorem c_X2_named (l : Launch) (D : va_G) (cI cZ : ClassId) (a : Nat → Nat) (ha : (rL a).Nodup) (n : Nat) (S : rSt) (hok : rOk n S) : mR l yX2_named wsX2_named (rmz 0 0) D (rT cI cZ) [.ref (a 0)] (rW cI cZ a S) (R_named n S) := by
  refine Met.ofW (cc := cX2_named) (maxL := 1) (ret := (some .int)) (by decide) rfl ?_
  intro p e s m args below meth c s₁ B hml hv
  obtain ⟨rfl, hP, hK⟩ := hv
  have hx := B.exec
  have hb := B.bytes
  have hr := B.returns
  have hts := atoms_spec (ws := wsX2_named) B.pre
  have hin : ∀ w ∈ wsX20, w ∈ wsX2_named := fun w h => List.mem_cons_of_mem _ (List.mem_append_right _ h)
  have hown : s.vm.findClass RX2 = some m.cls := findClass_of_methodNamed B.named
  have hlocks := B.notSynchronized
  have hn12 : n ≤ 12 := hok.2.1
  have hl := lv_entry ([.ref (a 0)]) (n := 1) (Nat.le_of_ble_eq_true rfl)
  rw [lg_entry_eq]
  generalize (lg_sl ([.ref (a 0)]) ++ List.replicate (1 - (lg_sl ([.ref (a 0)])).length) Slot.unset).toArray = ls at hl ⊢
  have hl : lv_has ls 1 [(0, .ref (a 0))] := hl
  refine lv_aload_n hx hb dX2_named_0 rfl (lv_at hl 0 rfl) ?_
  refine r_get (S := S) (v := .int (S.1 15)) hx hb hts hin hown hK hP 15 (by decide) (by decide +kernel) rfl rfl dX2_named_1 ?_
  have hE : R_named n S = S.1 15 := by first | (simp only [R_named]; done) | (simp only [R_named]; rfl)
  exact W.iret (v := S.1 15) hx hb hr (fun tt ht hW => ⟨S.1 15, rfl, hE.symm, ht⟩) (fun q hq => by cases hq) dX2_named_4

def R_state (n : Nat) (S : rSt) (d : Int32) : Int32 :=
  if inR n d = true then S.2 5 (d.toNatClampNeg)
  else (-2)
set_option maxHeartbeats 4000000 in
set_option maxRecDepth 100000 in
theorem c_X2_state (l : Launch) (D : va_G) (cI cZ : ClassId) (a : Nat → Nat) (ha : (rL a).Nodup) (n : Nat) (S : rSt) (hok : rOk n S) (d : Int32) : mR l yX2_state wsX2_state (rmz 1 21) D (rT cI cZ) [.ref (a 0), .int d] (rW cI cZ a S) (R_state n S d) := by
  refine Met.ofW (cc := cX2_state) (maxL := 2) (ret := (some .int)) (by decide) rfl ?_
  intro p e s m args below meth c s₁ B hml hv
  obtain ⟨rfl, hP, hK⟩ := hv
  have hx := B.exec
  have hb := B.bytes
  have hr := B.returns
  have hts := atoms_spec (ws := wsX2_state) B.pre
  have hin : ∀ w ∈ wsX20, w ∈ wsX2_state := fun w h => List.mem_cons_of_mem _ (List.mem_append_right _ h)
  have hown : s.vm.findClass RX2 = some m.cls := findClass_of_methodNamed B.named
  have hlocks := B.notSynchronized
  have hn12 : n ≤ 12 := hok.2.1
  have hl := lv_entry ([.ref (a 0), .int d]) (n := 2) (Nat.le_of_ble_eq_true rfl)
  rw [lg_entry_eq]
  generalize (lg_sl ([.ref (a 0), .int d]) ++ List.replicate (2 - (lg_sl ([.ref (a 0), .int d])).length) Slot.unset).toArray = ls at hl ⊢
  have hl : lv_has ls 2 [(0, .ref (a 0)), (1, .int d)] := hl
  refine lv_aload_n hx hb dX2_state_0 rfl (lv_at hl 0 rfl) ?_
  refine lv_iload_n hx hb dX2_state_1 rfl (lv_at hl 1 rfl) ?_
  refine m_callR (As := [.int d]) (rest := []) ⟨hx, hb, hml, hown, hts⟩ (c_X2_none l D cI cZ a ha n S hok d) (cwV 1 hts gX2_state_X2_none rfl rfl rfl (by decide +kernel) ⟨Nat.le_of_ble_eq_true rfl, Nat.le_of_ble_eq_true rfl⟩) hK hP (va_recv hK hP (ci := 3) (q0 := 0) rfl rfl) rfl hl.1 rfl (Nat.le_of_ble_eq_true rfl) dX2_state_2 ⟨Nat.zero_le _, Nat.zero_le _⟩ ?_
  by_cases hd : inR n d = true
  · obtain ⟨j, hj, rfl⟩ := inR_spec hn12 hd
    have hjc : (nI j).toNatClampNeg = j := nI_clamp (by omega)
    have hN : R_none n S (nI j) = 0 := if_pos hd
    rw [hN]
    refine lv_if_eq (tgt := 13) hx hb dX2_state_5 (by decide) (fun c1 => ?_) (fun c1 => ?_)
    · refine lv_aload_n hx hb dX2_state_13 rfl (lv_at hl 0 rfl) ?_
      refine r_get (S := S) (v := .ref (a 5)) hx hb hts hin hown hK hP 5 (by decide) (by decide +kernel) rfl rfl dX2_state_14 ?_
      refine lv_iload_n hx hb dX2_state_17 rfl (lv_at hl 1 rfl) ?_
      refine r_ald (S := S) (x := S.2 5 j) hx hb hK hP 5 (by decide) (j := j) (by omega) rfl dX2_state_18 ?_
      have hE : R_state n S (nI j) = S.2 5 j := by first | (simp only [R_state, if_pos hd, hjc]; done) | (simp only [R_state, if_pos hd, hjc]; rfl)
      exact W.iret (v := S.2 5 j) hx hb hr (fun tt ht hW => ⟨S.2 5 j, rfl, hE.symm, ht⟩) (fun q hq => by cases hq) dX2_state_19
    · exact absurd (by decide) c1
  · have hN : R_none n S d = 1 := if_neg hd
    rw [hN]
    refine lv_if_eq (tgt := 13) hx hb dX2_state_5 (by decide) (fun c2 => ?_) (fun c2 => ?_)
    · exact absurd c2 (by decide)
    · refine lv_bipush (v := (-2)) hx hb dX2_state_8 (by decide) ?_
      refine lv_goto (tgt := 19) hx hb dX2_state_10 (by decide) ?_
      have hE : R_state n S d = (-2) := by first | (simp only [R_state, if_neg hd]; done) | (simp only [R_state, if_neg hd]; rfl)
      exact W.iret (v := (-2)) hx hb hr (fun tt ht hW => ⟨(-2), rfl, hE.symm, ht⟩) (fun q hq => by cases hq) dX2_state_19

def R_uses (n : Nat) (S : rSt) (d : Int32) : Int32 :=
  if inR n d = true then S.2 7 (d.toNatClampNeg)
  else (-2)
set_option maxHeartbeats 4000000 in
set_option maxRecDepth 100000 in
theorem c_X2_uses (l : Launch) (D : va_G) (cI cZ : ClassId) (a : Nat → Nat) (ha : (rL a).Nodup) (n : Nat) (S : rSt) (hok : rOk n S) (d : Int32) : mR l yX2_uses wsX2_uses (rmz 1 21) D (rT cI cZ) [.ref (a 0), .int d] (rW cI cZ a S) (R_uses n S d) := by
  refine Met.ofW (cc := cX2_uses) (maxL := 2) (ret := (some .int)) (by decide) rfl ?_
  intro p e s m args below meth c s₁ B hml hv
  obtain ⟨rfl, hP, hK⟩ := hv
  have hx := B.exec
  have hb := B.bytes
  have hr := B.returns
  have hts := atoms_spec (ws := wsX2_uses) B.pre
  have hin : ∀ w ∈ wsX20, w ∈ wsX2_uses := fun w h => List.mem_cons_of_mem _ (List.mem_append_right _ h)
  have hown : s.vm.findClass RX2 = some m.cls := findClass_of_methodNamed B.named
  have hlocks := B.notSynchronized
  have hn12 : n ≤ 12 := hok.2.1
  have hl := lv_entry ([.ref (a 0), .int d]) (n := 2) (Nat.le_of_ble_eq_true rfl)
  rw [lg_entry_eq]
  generalize (lg_sl ([.ref (a 0), .int d]) ++ List.replicate (2 - (lg_sl ([.ref (a 0), .int d])).length) Slot.unset).toArray = ls at hl ⊢
  have hl : lv_has ls 2 [(0, .ref (a 0)), (1, .int d)] := hl
  refine lv_aload_n hx hb dX2_uses_0 rfl (lv_at hl 0 rfl) ?_
  refine lv_iload_n hx hb dX2_uses_1 rfl (lv_at hl 1 rfl) ?_
  refine m_callR (As := [.int d]) (rest := []) ⟨hx, hb, hml, hown, hts⟩ (c_X2_none l D cI cZ a ha n S hok d) (cwV 1 hts gX2_uses_X2_none rfl rfl rfl (by decide +kernel) ⟨Nat.le_of_ble_eq_true rfl, Nat.le_of_ble_eq_true rfl⟩) hK hP (va_recv hK hP (ci := 3) (q0 := 0) rfl rfl) rfl hl.1 rfl (Nat.le_of_ble_eq_true rfl) dX2_uses_2 ⟨Nat.zero_le _, Nat.zero_le _⟩ ?_
  by_cases hd : inR n d = true
  · obtain ⟨j, hj, rfl⟩ := inR_spec hn12 hd
    have hjc : (nI j).toNatClampNeg = j := nI_clamp (by omega)
    have hN : R_none n S (nI j) = 0 := if_pos hd
    rw [hN]
    refine lv_if_eq (tgt := 13) hx hb dX2_uses_5 (by decide) (fun c1 => ?_) (fun c1 => ?_)
    · refine lv_aload_n hx hb dX2_uses_13 rfl (lv_at hl 0 rfl) ?_
      refine r_get (S := S) (v := .ref (a 7)) hx hb hts hin hown hK hP 7 (by decide) (by decide +kernel) rfl rfl dX2_uses_14 ?_
      refine lv_iload_n hx hb dX2_uses_17 rfl (lv_at hl 1 rfl) ?_
      refine r_ald (S := S) (x := S.2 7 j) hx hb hK hP 7 (by decide) (j := j) (by omega) rfl dX2_uses_18 ?_
      have hE : R_uses n S (nI j) = S.2 7 j := by first | (simp only [R_uses, if_pos hd, hjc]; done) | (simp only [R_uses, if_pos hd, hjc]; rfl)
      exact W.iret (v := S.2 7 j) hx hb hr (fun tt ht hW => ⟨S.2 7 j, rfl, hE.symm, ht⟩) (fun q hq => by cases hq) dX2_uses_19
    · exact absurd (by decide) c1
  · have hN : R_none n S d = 1 := if_neg hd
    rw [hN]
    refine lv_if_eq (tgt := 13) hx hb dX2_uses_5 (by decide) (fun c2 => ?_) (fun c2 => ?_)
    · exact absurd c2 (by decide)
    · refine lv_bipush (v := (-2)) hx hb dX2_uses_8 (by decide) ?_
      refine lv_goto (tgt := 19) hx hb dX2_uses_10 (by decide) ?_
      have hE : R_uses n S d = (-2) := by first | (simp only [R_uses, if_neg hd]; done) | (simp only [R_uses, if_neg hd]; rfl)
      exact W.iret (v := (-2)) hx hb hr (fun tt ht hW => ⟨(-2), rfl, hE.symm, ht⟩) (fun q hq => by cases hq) dX2_uses_19

def R_idle (n : Nat) (S : rSt) (d : Int32) : Int32 :=
  if inR n d = true then S.2 8 (d.toNatClampNeg)
  else (-2)
set_option maxHeartbeats 4000000 in
set_option maxRecDepth 100000 in
theorem c_X2_idle (l : Launch) (D : va_G) (cI cZ : ClassId) (a : Nat → Nat) (ha : (rL a).Nodup) (n : Nat) (S : rSt) (hok : rOk n S) (d : Int32) : mR l yX2_idle wsX2_idle (rmz 1 21) D (rT cI cZ) [.ref (a 0), .int d] (rW cI cZ a S) (R_idle n S d) := by
  refine Met.ofW (cc := cX2_idle) (maxL := 2) (ret := (some .int)) (by decide) rfl ?_
  intro p e s m args below meth c s₁ B hml hv
  obtain ⟨rfl, hP, hK⟩ := hv
  have hx := B.exec
  have hb := B.bytes
  have hr := B.returns
  have hts := atoms_spec (ws := wsX2_idle) B.pre
  have hin : ∀ w ∈ wsX20, w ∈ wsX2_idle := fun w h => List.mem_cons_of_mem _ (List.mem_append_right _ h)
  have hown : s.vm.findClass RX2 = some m.cls := findClass_of_methodNamed B.named
  have hlocks := B.notSynchronized
  have hn12 : n ≤ 12 := hok.2.1
  have hl := lv_entry ([.ref (a 0), .int d]) (n := 2) (Nat.le_of_ble_eq_true rfl)
  rw [lg_entry_eq]
  generalize (lg_sl ([.ref (a 0), .int d]) ++ List.replicate (2 - (lg_sl ([.ref (a 0), .int d])).length) Slot.unset).toArray = ls at hl ⊢
  have hl : lv_has ls 2 [(0, .ref (a 0)), (1, .int d)] := hl
  refine lv_aload_n hx hb dX2_idle_0 rfl (lv_at hl 0 rfl) ?_
  refine lv_iload_n hx hb dX2_idle_1 rfl (lv_at hl 1 rfl) ?_
  refine m_callR (As := [.int d]) (rest := []) ⟨hx, hb, hml, hown, hts⟩ (c_X2_none l D cI cZ a ha n S hok d) (cwV 1 hts gX2_idle_X2_none rfl rfl rfl (by decide +kernel) ⟨Nat.le_of_ble_eq_true rfl, Nat.le_of_ble_eq_true rfl⟩) hK hP (va_recv hK hP (ci := 3) (q0 := 0) rfl rfl) rfl hl.1 rfl (Nat.le_of_ble_eq_true rfl) dX2_idle_2 ⟨Nat.zero_le _, Nat.zero_le _⟩ ?_
  by_cases hd : inR n d = true
  · obtain ⟨j, hj, rfl⟩ := inR_spec hn12 hd
    have hjc : (nI j).toNatClampNeg = j := nI_clamp (by omega)
    have hN : R_none n S (nI j) = 0 := if_pos hd
    rw [hN]
    refine lv_if_eq (tgt := 13) hx hb dX2_idle_5 (by decide) (fun c1 => ?_) (fun c1 => ?_)
    · refine lv_aload_n hx hb dX2_idle_13 rfl (lv_at hl 0 rfl) ?_
      refine r_get (S := S) (v := .ref (a 8)) hx hb hts hin hown hK hP 8 (by decide) (by decide +kernel) rfl rfl dX2_idle_14 ?_
      refine lv_iload_n hx hb dX2_idle_17 rfl (lv_at hl 1 rfl) ?_
      refine r_ald (S := S) (x := S.2 8 j) hx hb hK hP 8 (by decide) (j := j) (by omega) rfl dX2_idle_18 ?_
      have hE : R_idle n S (nI j) = S.2 8 j := by first | (simp only [R_idle, if_pos hd, hjc]; done) | (simp only [R_idle, if_pos hd, hjc]; rfl)
      exact W.iret (v := S.2 8 j) hx hb hr (fun tt ht hW => ⟨S.2 8 j, rfl, hE.symm, ht⟩) (fun q hq => by cases hq) dX2_idle_19
    · exact absurd (by decide) c1
  · have hN : R_none n S d = 1 := if_neg hd
    rw [hN]
    refine lv_if_eq (tgt := 13) hx hb dX2_idle_5 (by decide) (fun c2 => ?_) (fun c2 => ?_)
    · exact absurd c2 (by decide)
    · refine lv_bipush (v := (-2)) hx hb dX2_idle_8 (by decide) ?_
      refine lv_goto (tgt := 19) hx hb dX2_idle_10 (by decide) ?_
      have hE : R_idle n S d = (-2) := by first | (simp only [R_idle, if_neg hd]; done) | (simp only [R_idle, if_neg hd]; rfl)
      exact W.iret (v := (-2)) hx hb hr (fun tt ht hW => ⟨(-2), rfl, hE.symm, ht⟩) (fun q hq => by cases hq) dX2_idle_19

def R_refusals (n : Nat) (S : rSt) (d : Int32) : Int32 :=
  if inR n d = true then S.2 9 (d.toNatClampNeg)
  else (-2)
set_option maxHeartbeats 4000000 in
set_option maxRecDepth 100000 in
theorem c_X2_refusals (l : Launch) (D : va_G) (cI cZ : ClassId) (a : Nat → Nat) (ha : (rL a).Nodup) (n : Nat) (S : rSt) (hok : rOk n S) (d : Int32) : mR l yX2_refusals wsX2_refusals (rmz 1 21) D (rT cI cZ) [.ref (a 0), .int d] (rW cI cZ a S) (R_refusals n S d) := by
  refine Met.ofW (cc := cX2_refusals) (maxL := 2) (ret := (some .int)) (by decide) rfl ?_
  intro p e s m args below meth c s₁ B hml hv
  obtain ⟨rfl, hP, hK⟩ := hv
  have hx := B.exec
  have hb := B.bytes
  have hr := B.returns
  have hts := atoms_spec (ws := wsX2_refusals) B.pre
  have hin : ∀ w ∈ wsX20, w ∈ wsX2_refusals := fun w h => List.mem_cons_of_mem _ (List.mem_append_right _ h)
  have hown : s.vm.findClass RX2 = some m.cls := findClass_of_methodNamed B.named
  have hlocks := B.notSynchronized
  have hn12 : n ≤ 12 := hok.2.1
  have hl := lv_entry ([.ref (a 0), .int d]) (n := 2) (Nat.le_of_ble_eq_true rfl)
  rw [lg_entry_eq]
  generalize (lg_sl ([.ref (a 0), .int d]) ++ List.replicate (2 - (lg_sl ([.ref (a 0), .int d])).length) Slot.unset).toArray = ls at hl ⊢
  have hl : lv_has ls 2 [(0, .ref (a 0)), (1, .int d)] := hl
  refine lv_aload_n hx hb dX2_refusals_0 rfl (lv_at hl 0 rfl) ?_
  refine lv_iload_n hx hb dX2_refusals_1 rfl (lv_at hl 1 rfl) ?_
  refine m_callR (As := [.int d]) (rest := []) ⟨hx, hb, hml, hown, hts⟩ (c_X2_none l D cI cZ a ha n S hok d) (cwV 1 hts gX2_refusals_X2_none rfl rfl rfl (by decide +kernel) ⟨Nat.le_of_ble_eq_true rfl, Nat.le_of_ble_eq_true rfl⟩) hK hP (va_recv hK hP (ci := 3) (q0 := 0) rfl rfl) rfl hl.1 rfl (Nat.le_of_ble_eq_true rfl) dX2_refusals_2 ⟨Nat.zero_le _, Nat.zero_le _⟩ ?_
  by_cases hd : inR n d = true
  · obtain ⟨j, hj, rfl⟩ := inR_spec hn12 hd
    have hjc : (nI j).toNatClampNeg = j := nI_clamp (by omega)
    have hN : R_none n S (nI j) = 0 := if_pos hd
    rw [hN]
    refine lv_if_eq (tgt := 13) hx hb dX2_refusals_5 (by decide) (fun c1 => ?_) (fun c1 => ?_)
    · refine lv_aload_n hx hb dX2_refusals_13 rfl (lv_at hl 0 rfl) ?_
      refine r_get (S := S) (v := .ref (a 9)) hx hb hts hin hown hK hP 9 (by decide) (by decide +kernel) rfl rfl dX2_refusals_14 ?_
      refine lv_iload_n hx hb dX2_refusals_17 rfl (lv_at hl 1 rfl) ?_
      refine r_ald (S := S) (x := S.2 9 j) hx hb hK hP 9 (by decide) (j := j) (by omega) rfl dX2_refusals_18 ?_
      have hE : R_refusals n S (nI j) = S.2 9 j := by first | (simp only [R_refusals, if_pos hd, hjc]; done) | (simp only [R_refusals, if_pos hd, hjc]; rfl)
      exact W.iret (v := S.2 9 j) hx hb hr (fun tt ht hW => ⟨S.2 9 j, rfl, hE.symm, ht⟩) (fun q hq => by cases hq) dX2_refusals_19
    · exact absurd (by decide) c1
  · have hN : R_none n S d = 1 := if_neg hd
    rw [hN]
    refine lv_if_eq (tgt := 13) hx hb dX2_refusals_5 (by decide) (fun c2 => ?_) (fun c2 => ?_)
    · exact absurd c2 (by decide)
    · refine lv_bipush (v := (-2)) hx hb dX2_refusals_8 (by decide) ?_
      refine lv_goto (tgt := 19) hx hb dX2_refusals_10 (by decide) ?_
      have hE : R_refusals n S d = (-2) := by first | (simp only [R_refusals, if_neg hd]; done) | (simp only [R_refusals, if_neg hd]; rfl)
      exact W.iret (v := (-2)) hx hb hr (fun tt ht hW => ⟨(-2), rfl, hE.symm, ht⟩) (fun q hq => by cases hq) dX2_refusals_19

def R_release (n : Nat) (S : rSt) (d : Int32) : Int32 × rSt :=
  if inR n d = true then (if S.1 12 = 0 then (if S.2 7 (d.toNatClampNeg) = 0 then ((-1), S)
      else ((S.2 7 (d.toNatClampNeg)) - 1, (S.1, up2 (S.2) 7 (d.toNatClampNeg) ((S.2 7 (d.toNatClampNeg)) - 1))))
    else ((-3), S))
  else ((-2), S)
theorem R_release_sm (n : Nat) (S : rSt) (d : Int32) : rSm S ((R_release n S d).2) := by
  unfold R_release
  repeat' split
  all_goals exact ⟨rfl, rfl⟩
theorem R_release_ok (n : Nat) (S : rSt) (d : Int32) (hok : rOk n S) : rOk n ((R_release n S d).2) := rOk_of (R_release_sm n S d) hok
set_option maxHeartbeats 4000000 in
set_option maxRecDepth 100000 in
theorem c_X2_release (l : Launch) (D : va_G) (cI cZ : ClassId) (a : Nat → Nat) (ha : (rL a).Nodup) (n : Nat) (S : rSt) (hok : rOk n S) (d : Int32) : mI l yX2_release wsX2_release (rmz 1 21) D (rT cI cZ) (rL a) [.ref (a 0), .int d] (rW cI cZ a S) (R_release n S d).1 (rW cI cZ a (R_release n S d).2) := by
  intro sz
  refine Met.ofW (cc := cX2_release) (maxL := 2) (ret := (some .int)) (by decide) rfl ?_
  intro p e s m args below meth c s₁ B hml hv
  obtain ⟨rfl, hsz, hP, hK⟩ := hv
  have hx := B.exec
  have hb := B.bytes
  have hr := B.returns
  have hts := atoms_spec (ws := wsX2_release) B.pre
  have hin : ∀ w ∈ wsX20, w ∈ wsX2_release := fun w h => List.mem_cons_of_mem _ (List.mem_append_right _ h)
  have hown : s.vm.findClass RX2 = some m.cls := findClass_of_methodNamed B.named
  have hlocks := B.notSynchronized
  have hn12 : n ≤ 12 := hok.2.1
  subst hsz
  have hS : va_S (wA (rL a) s.heap.size) s.heap s.heap [] := va_S.rf
  have hl := lv_entry ([.ref (a 0), .int d]) (n := 2) (Nat.le_of_ble_eq_true rfl)
  rw [lg_entry_eq]
  generalize (lg_sl ([.ref (a 0), .int d]) ++ List.replicate (2 - (lg_sl ([.ref (a 0), .int d])).length) Slot.unset).toArray = ls at hl ⊢
  have hl : lv_has ls 2 [(0, .ref (a 0)), (1, .int d)] := hl
  refine lv_aload_n hx hb dX2_release_0 rfl (lv_at hl 0 rfl) ?_
  refine lv_iload_n hx hb dX2_release_1 rfl (lv_at hl 1 rfl) ?_
  refine m_callR (As := [.int d]) (rest := []) ⟨hx, hb, hml, hown, hts⟩ (c_X2_none l D cI cZ a ha n S hok d) (cwV 1 hts gX2_release_X2_none rfl rfl rfl (by decide +kernel) ⟨Nat.le_of_ble_eq_true rfl, Nat.le_of_ble_eq_true rfl⟩) hK hP (va_recv hK hP (ci := 3) (q0 := 0) rfl rfl) rfl hl.1 rfl (Nat.le_of_ble_eq_true rfl) dX2_release_2 ⟨Nat.zero_le _, Nat.zero_le _⟩ ?_
  by_cases hd : inR n d = true
  · obtain ⟨j, hj, rfl⟩ := inR_spec hn12 hd
    have hjc : (nI j).toNatClampNeg = j := nI_clamp (by omega)
    have hN : R_none n S (nI j) = 0 := if_pos hd
    rw [hN]
    refine lv_if_eq (tgt := 11) hx hb dX2_release_5 (by decide) (fun c1 => ?_) (fun c1 => ?_)
    · refine lv_aload_n hx hb dX2_release_11 rfl (lv_at hl 0 rfl) ?_
      refine r_get (S := S) (v := .int (S.1 12)) hx hb hts hin hown hK hP 12 (by decide) (by decide +kernel) rfl rfl dX2_release_12 ?_
      refine lv_if_eq (tgt := 21) hx hb dX2_release_15 (by decide) (fun c2 => ?_) (fun c2 => ?_)
      · refine lv_aload_n hx hb dX2_release_21 rfl (lv_at hl 0 rfl) ?_
        refine r_get (S := S) (v := .ref (a 7)) hx hb hts hin hown hK hP 7 (by decide) (by decide +kernel) rfl rfl dX2_release_22 ?_
        refine lv_iload_n hx hb dX2_release_25 rfl (lv_at hl 1 rfl) ?_
        refine r_ald (S := S) (x := S.2 7 j) hx hb hK hP 7 (by decide) (j := j) (by omega) rfl dX2_release_26 ?_
        refine lv_if_ne (tgt := 32) hx hb dX2_release_27 (by decide) (fun c3 => ?_) (fun c3 => ?_)
        · refine lv_aload_n hx hb dX2_release_32 rfl (lv_at hl 0 rfl) ?_
          refine r_get (S := S) (v := .ref (a 7)) hx hb hts hin hown hK hP 7 (by decide) (by decide +kernel) rfl rfl dX2_release_33 ?_
          refine lv_iload_n hx hb dX2_release_36 rfl (lv_at hl 1 rfl) ?_
          refine lv_dup2_11 hx hb dX2_release_37 rfl rfl ?_
          refine r_ald (S := S) (x := S.2 7 j) hx hb hK hP 7 (by decide) (j := j) (by omega) rfl dX2_release_38 ?_
          refine lv_iconst (v := 1) hx hb dX2_release_39 (by decide) ?_
          refine lv_isub hx hb dX2_release_40 ?_
          refine r_ast ha hx hb hK hP hS 7 (by decide) (j := j) (by omega) dX2_release_41 (fun H locs hP hS => ?_)
          have hP : va_P D vwCl (rW cI cZ a (S.1, up2 (S.2) 7 j ((S.2 7 j) - 1))) H := hP
          refine lv_aload_n hx hb dX2_release_42 rfl (lv_at hl 0 rfl) ?_
          refine r_get (S := (S.1, up2 (S.2) 7 j ((S.2 7 j) - 1))) (v := .ref (a 7)) hx hb hts hin hown hK hP 7 (by decide) (by decide +kernel) rfl rfl dX2_release_43 ?_
          refine lv_iload_n hx hb dX2_release_46 rfl (lv_at hl 1 rfl) ?_
          refine r_ald (S := (S.1, up2 (S.2) 7 j ((S.2 7 j) - 1))) (x := (S.2 7 j) - 1) hx hb hK hP 7 (by decide) (j := j) (by omega) (by simp [up2, va_up, upd]) dX2_release_47 ?_
          have hE : R_release n S (nI j) = ((S.2 7 j) - 1, (S.1, up2 (S.2) 7 j ((S.2 7 j) - 1))) := by first | (simp only [R_release, if_pos hd, if_pos c2, if_neg c3, hjc]; done) | (simp only [R_release, if_pos hd, if_pos c2, if_neg c3, hjc]; rfl)
          exact W.iret (v := (S.2 7 j) - 1) hx hb hr (fun tt ht hW => ⟨⟨(S.2 7 j) - 1, (), rfl, by rw [hE], by rw [ht, hE]; exact hP, va_K.moved hW.alike hK⟩, hS.F ht⟩) hS.2.2 dX2_release_48
        · refine lv_iconst (v := (-1)) hx hb dX2_release_30 (by decide) ?_
          have hE : R_release n S (nI j) = ((-1), S) := by first | (simp only [R_release, if_pos hd, if_pos c2, if_pos c3, hjc]; done) | (simp only [R_release, if_pos hd, if_pos c2, if_pos c3, hjc]; rfl)
          exact W.iret (v := (-1)) hx hb hr (fun tt ht hW => ⟨⟨(-1), (), rfl, by rw [hE], by rw [ht, hE]; exact hP, va_K.moved hW.alike hK⟩, hS.F ht⟩) hS.2.2 dX2_release_31
      · refine lv_bipush (v := (-3)) hx hb dX2_release_18 (by decide) ?_
        have hE : R_release n S (nI j) = ((-3), S) := by first | (simp only [R_release, if_pos hd, if_neg c2, hjc]; done) | (simp only [R_release, if_pos hd, if_neg c2, hjc]; rfl)
        exact W.iret (v := (-3)) hx hb hr (fun tt ht hW => ⟨⟨(-3), (), rfl, by rw [hE], by rw [ht, hE]; exact hP, va_K.moved hW.alike hK⟩, hS.F ht⟩) hS.2.2 dX2_release_20
    · exact absurd (by decide) c1
  · have hN : R_none n S d = 1 := if_neg hd
    rw [hN]
    refine lv_if_eq (tgt := 11) hx hb dX2_release_5 (by decide) (fun c4 => ?_) (fun c4 => ?_)
    · exact absurd c4 (by decide)
    · refine lv_bipush (v := (-2)) hx hb dX2_release_8 (by decide) ?_
      have hE : R_release n S d = ((-2), S) := by first | (simp only [R_release, if_neg hd]; done) | (simp only [R_release, if_neg hd]; rfl)
      exact W.iret (v := (-2)) hx hb hr (fun tt ht hW => ⟨⟨(-2), (), rfl, by rw [hE], by rw [ht, hE]; exact hP, va_K.moved hW.alike hK⟩, hS.F ht⟩) hS.2.2 dX2_release_10

def R_refuse (n : Nat) (S : rSt) (d : Int32) (k : Int32) : Int32 × rSt :=
  if inR n d = true then (if k < 0 then (0, S)
    else if k ≤ 9 then (1, (S.1, up2 (S.2) 9 (d.toNatClampNeg) k))
    else (0, S))
  else (0, S)
theorem R_refuse_sm (n : Nat) (S : rSt) (d : Int32) (k : Int32) : rSm S ((R_refuse n S d k).2) := by
  unfold R_refuse
  repeat' split
  all_goals exact ⟨rfl, rfl⟩
theorem R_refuse_ok (n : Nat) (S : rSt) (d : Int32) (k : Int32) (hok : rOk n S) : rOk n ((R_refuse n S d k).2) := rOk_of (R_refuse_sm n S d k) hok
set_option maxHeartbeats 4000000 in
set_option maxRecDepth 100000 in
theorem c_X2_refuse (l : Launch) (D : va_G) (cI cZ : ClassId) (a : Nat → Nat) (ha : (rL a).Nodup) (n : Nat) (S : rSt) (hok : rOk n S) (d : Int32) (k : Int32) : mI l yX2_refuse wsX2_refuse (rmz 1 21) D (rT cI cZ) (rL a) [.ref (a 0), .int d, .int k] (rW cI cZ a S) (R_refuse n S d k).1 (rW cI cZ a (R_refuse n S d k).2) := by
  intro sz
  refine Met.ofW (cc := cX2_refuse) (maxL := 3) (ret := (some .boolean)) (by decide) rfl ?_
  intro p e s m args below meth c s₁ B hml hv
  obtain ⟨rfl, hsz, hP, hK⟩ := hv
  have hx := B.exec
  have hb := B.bytes
  have hr := B.returns
  have hts := atoms_spec (ws := wsX2_refuse) B.pre
  have hin : ∀ w ∈ wsX20, w ∈ wsX2_refuse := fun w h => List.mem_cons_of_mem _ (List.mem_append_right _ h)
  have hown : s.vm.findClass RX2 = some m.cls := findClass_of_methodNamed B.named
  have hlocks := B.notSynchronized
  have hn12 : n ≤ 12 := hok.2.1
  subst hsz
  have hS : va_S (wA (rL a) s.heap.size) s.heap s.heap [] := va_S.rf
  have hl := lv_entry ([.ref (a 0), .int d, .int k]) (n := 3) (Nat.le_of_ble_eq_true rfl)
  rw [lg_entry_eq]
  generalize (lg_sl ([.ref (a 0), .int d, .int k]) ++ List.replicate (3 - (lg_sl ([.ref (a 0), .int d, .int k])).length) Slot.unset).toArray = ls at hl ⊢
  have hl : lv_has ls 3 [(0, .ref (a 0)), (1, .int d), (2, .int k)] := hl
  refine lv_aload_n hx hb dX2_refuse_0 rfl (lv_at hl 0 rfl) ?_
  refine lv_iload_n hx hb dX2_refuse_1 rfl (lv_at hl 1 rfl) ?_
  refine m_callR (As := [.int d]) (rest := []) ⟨hx, hb, hml, hown, hts⟩ (c_X2_none l D cI cZ a ha n S hok d) (cwV 1 hts gX2_refuse_X2_none rfl rfl rfl (by decide +kernel) ⟨Nat.le_of_ble_eq_true rfl, Nat.le_of_ble_eq_true rfl⟩) hK hP (va_recv hK hP (ci := 3) (q0 := 0) rfl rfl) rfl hl.1 rfl (Nat.le_of_ble_eq_true rfl) dX2_refuse_2 ⟨Nat.zero_le _, Nat.zero_le _⟩ ?_
  by_cases hd : inR n d = true
  · obtain ⟨j, hj, rfl⟩ := inR_spec hn12 hd
    have hjc : (nI j).toNatClampNeg = j := nI_clamp (by omega)
    have hN : R_none n S (nI j) = 0 := if_pos hd
    rw [hN]
    refine lv_if_ne (tgt := 18) hx hb dX2_refuse_5 (by decide) (fun c1 => ?_) (fun c1 => ?_)
    · exact absurd (by decide) c1
    · refine lv_iload_n hx hb dX2_refuse_8 rfl (lv_at hl 2 rfl) ?_
      refine lv_if_lt (tgt := 18) hx hb dX2_refuse_9 (by decide) (fun c2 => ?_) (fun c2 => ?_)
      · refine lv_iconst (v := 0) hx hb dX2_refuse_18 (by decide) ?_
        have hE : R_refuse n S (nI j) k = (0, S) := by first | (simp only [R_refuse, if_pos hd, if_pos c2, hjc]; done) | (simp only [R_refuse, if_pos hd, if_pos c2, hjc]; rfl)
        exact W.zret (v := 0) hx hb hr rfl (fun tt ht hW => ⟨⟨0, (), rfl, by rw [hE], by rw [ht, hE]; exact hP, va_K.moved hW.alike hK⟩, hS.F ht⟩) hS.2.2 dX2_refuse_19
      · refine lv_iload_n hx hb dX2_refuse_12 rfl (lv_at hl 2 rfl) ?_
        refine lv_bipush (v := 9) hx hb dX2_refuse_13 (by decide) ?_
        refine lv_icmp_le (tgt := 20) hx hb dX2_refuse_15 (by decide) (fun c3 => ?_) (fun c3 => ?_)
        · refine lv_aload_n hx hb dX2_refuse_20 rfl (lv_at hl 0 rfl) ?_
          refine r_get (S := S) (v := .ref (a 9)) hx hb hts hin hown hK hP 9 (by decide) (by decide +kernel) rfl rfl dX2_refuse_21 ?_
          refine lv_iload_n hx hb dX2_refuse_24 rfl (lv_at hl 1 rfl) ?_
          refine lv_iload_n hx hb dX2_refuse_25 rfl (lv_at hl 2 rfl) ?_
          refine r_ast ha hx hb hK hP hS 9 (by decide) (j := j) (by omega) dX2_refuse_26 (fun H locs hP hS => ?_)
          have hP : va_P D vwCl (rW cI cZ a (S.1, up2 (S.2) 9 j k)) H := hP
          refine lv_iconst (v := 1) hx hb dX2_refuse_27 (by decide) ?_
          have hE : R_refuse n S (nI j) k = (1, (S.1, up2 (S.2) 9 j k)) := by first | (simp only [R_refuse, if_pos hd, if_neg c2, if_pos c3, hjc]; done) | (simp only [R_refuse, if_pos hd, if_neg c2, if_pos c3, hjc]; rfl)
          exact W.zret (v := 1) hx hb hr rfl (fun tt ht hW => ⟨⟨1, (), rfl, by rw [hE], by rw [ht, hE]; exact hP, va_K.moved hW.alike hK⟩, hS.F ht⟩) hS.2.2 dX2_refuse_28
        · refine lv_iconst (v := 0) hx hb dX2_refuse_18 (by decide) ?_
          have hE : R_refuse n S (nI j) k = (0, S) := by first | (simp only [R_refuse, if_pos hd, if_neg c2, if_neg c3, hjc]; done) | (simp only [R_refuse, if_pos hd, if_neg c2, if_neg c3, hjc]; rfl)
          exact W.zret (v := 0) hx hb hr rfl (fun tt ht hW => ⟨⟨0, (), rfl, by rw [hE], by rw [ht, hE]; exact hP, va_K.moved hW.alike hK⟩, hS.F ht⟩) hS.2.2 dX2_refuse_19
  · have hN : R_none n S d = 1 := if_neg hd
    rw [hN]
    refine lv_if_ne (tgt := 18) hx hb dX2_refuse_5 (by decide) (fun c4 => ?_) (fun c4 => ?_)
    · refine lv_iconst (v := 0) hx hb dX2_refuse_18 (by decide) ?_
      have hE : R_refuse n S d k = (0, S) := by first | (simp only [R_refuse, if_neg hd]; done) | (simp only [R_refuse, if_neg hd]; rfl)
      exact W.zret (v := 0) hx hb hr rfl (fun tt ht hW => ⟨⟨0, (), rfl, by rw [hE], by rw [ht, hE]; exact hP, va_K.moved hW.alike hK⟩, hS.F ht⟩) hS.2.2 dX2_refuse_19
    · exact absurd c4 (by decide)

def R_waker (n : Nat) (S : rSt) (d : Int32) (on : Int32) : Int32 × rSt :=
  if inR n d = true then (1, (S.1, up2 (S.2) 10 (d.toNatClampNeg) on))
  else (0, S)
theorem R_waker_sm (n : Nat) (S : rSt) (d : Int32) (on : Int32) : rSm S ((R_waker n S d on).2) := by
  unfold R_waker
  repeat' split
  all_goals exact ⟨rfl, rfl⟩
theorem R_waker_ok (n : Nat) (S : rSt) (d : Int32) (on : Int32) (hok : rOk n S) : rOk n ((R_waker n S d on).2) := rOk_of (R_waker_sm n S d on) hok
set_option maxHeartbeats 4000000 in
set_option maxRecDepth 100000 in
theorem c_X2_waker (l : Launch) (D : va_G) (cI cZ : ClassId) (a : Nat → Nat) (ha : (rL a).Nodup) (n : Nat) (S : rSt) (hok : rOk n S) (d : Int32) (on : Int32) (h01 : on = 0 ∨ on = 1) : mI l yX2_waker wsX2_waker (rmz 1 21) D (rT cI cZ) (rL a) [.ref (a 0), .int d, .int on] (rW cI cZ a S) (R_waker n S d on).1 (rW cI cZ a (R_waker n S d on).2) := by
  intro sz
  refine Met.ofW (cc := cX2_waker) (maxL := 3) (ret := (some .boolean)) (by decide) rfl ?_
  intro p e s m args below meth c s₁ B hml hv
  obtain ⟨rfl, hsz, hP, hK⟩ := hv
  have hx := B.exec
  have hb := B.bytes
  have hr := B.returns
  have hts := atoms_spec (ws := wsX2_waker) B.pre
  have hin : ∀ w ∈ wsX20, w ∈ wsX2_waker := fun w h => List.mem_cons_of_mem _ (List.mem_append_right _ h)
  have hown : s.vm.findClass RX2 = some m.cls := findClass_of_methodNamed B.named
  have hlocks := B.notSynchronized
  have hn12 : n ≤ 12 := hok.2.1
  subst hsz
  have hS : va_S (wA (rL a) s.heap.size) s.heap s.heap [] := va_S.rf
  have hl := lv_entry ([.ref (a 0), .int d, .int on]) (n := 3) (Nat.le_of_ble_eq_true rfl)
  rw [lg_entry_eq]
  generalize (lg_sl ([.ref (a 0), .int d, .int on]) ++ List.replicate (3 - (lg_sl ([.ref (a 0), .int d, .int on])).length) Slot.unset).toArray = ls at hl ⊢
  have hl : lv_has ls 3 [(0, .ref (a 0)), (1, .int d), (2, .int on)] := hl
  refine lv_aload_n hx hb dX2_waker_0 rfl (lv_at hl 0 rfl) ?_
  refine lv_iload_n hx hb dX2_waker_1 rfl (lv_at hl 1 rfl) ?_
  refine m_callR (As := [.int d]) (rest := []) ⟨hx, hb, hml, hown, hts⟩ (c_X2_none l D cI cZ a ha n S hok d) (cwV 1 hts gX2_waker_X2_none rfl rfl rfl (by decide +kernel) ⟨Nat.le_of_ble_eq_true rfl, Nat.le_of_ble_eq_true rfl⟩) hK hP (va_recv hK hP (ci := 3) (q0 := 0) rfl rfl) rfl hl.1 rfl (Nat.le_of_ble_eq_true rfl) dX2_waker_2 ⟨Nat.zero_le _, Nat.zero_le _⟩ ?_
  by_cases hd : inR n d = true
  · obtain ⟨j, hj, rfl⟩ := inR_spec hn12 hd
    have hjc : (nI j).toNatClampNeg = j := nI_clamp (by omega)
    have hN : R_none n S (nI j) = 0 := if_pos hd
    rw [hN]
    refine lv_if_eq (tgt := 10) hx hb dX2_waker_5 (by decide) (fun c1 => ?_) (fun c1 => ?_)
    · refine lv_aload_n hx hb dX2_waker_10 rfl (lv_at hl 0 rfl) ?_
      refine r_get (S := S) (v := .ref (a 10)) hx hb hts hin hown hK hP 10 (by decide) (by decide +kernel) rfl rfl dX2_waker_11 ?_
      refine lv_iload_n hx hb dX2_waker_14 rfl (lv_at hl 1 rfl) ?_
      refine lv_iload_n hx hb dX2_waker_15 rfl (lv_at hl 2 rfl) ?_
      refine r_zast ha hx hb hK hP hS 10 (by decide) (j := j) (by omega) h01 dX2_waker_16 (fun H locs hP hS => ?_)
      have hP : va_P D vwCl (rW cI cZ a (S.1, up2 (S.2) 10 j on)) H := hP
      refine lv_iconst (v := 1) hx hb dX2_waker_17 (by decide) ?_
      have hE : R_waker n S (nI j) on = (1, (S.1, up2 (S.2) 10 j on)) := by first | (simp only [R_waker, if_pos hd, hjc]; done) | (simp only [R_waker, if_pos hd, hjc]; rfl)
      exact W.zret (v := 1) hx hb hr rfl (fun tt ht hW => ⟨⟨1, (), rfl, by rw [hE], by rw [ht, hE]; exact hP, va_K.moved hW.alike hK⟩, hS.F ht⟩) hS.2.2 dX2_waker_18
    · exact absurd (by decide) c1
  · have hN : R_none n S d = 1 := if_neg hd
    rw [hN]
    refine lv_if_eq (tgt := 10) hx hb dX2_waker_5 (by decide) (fun c2 => ?_) (fun c2 => ?_)
    · exact absurd c2 (by decide)
    · refine lv_iconst (v := 0) hx hb dX2_waker_8 (by decide) ?_
      have hE : R_waker n S d on = (0, S) := by first | (simp only [R_waker, if_neg hd]; done) | (simp only [R_waker, if_neg hd]; rfl)
      exact W.zret (v := 0) hx hb hr rfl (fun tt ht hW => ⟨⟨0, (), rfl, by rw [hE], by rw [ht, hE]; exact hP, va_K.moved hW.alike hK⟩, hS.F ht⟩) hS.2.2 dX2_waker_9
