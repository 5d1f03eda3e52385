set_option maxHeartbeats 4000000 in
set_option maxRecDepth 100000 in
theorem c_placeForG (l : Launch) (D : va_G) (cO : ClassId) (w : va_W) (h0 l2 e2 n cp q0 q2 q3 : Nat) (fs : List Value) (md2 : Int32) (ad o : Nat → Nat) (S : cSt) (dep : Int32) (hw0 : w[q0]? = some (h0, .inr (2, fs))) (hf1 : fs[1]? = some (.ref l2)) (hq2 : w[q2]? = some (l2, lcell md2 e2 n)) (hq3 : 0 < n → w[q3]? = some (e2, ocell cO cp (cR2 ad n o))) (hdv : ∀ i, i < n → ∃ k : Nat, w[k]? = some (ad (o i), dcell (cD S.2.1 (o i)))) (hn12 : n ≤ 12) (hcp : n ≤ cp) (hcp2 : cp < 2 ^ 31) : mR l yX1_placeFor wsX1_placeFor (rmz 3 64) D (cT cO) [.ref h0, .int dep] w (C_placeFor n o S dep) := by
  refine Met.ofW (cc := cX1_placeFor) (maxL := 4) (ret := (some .int)) (by decide) rfl ?_
  intro p e s m args below meth c s₁ B hml hv
  obtain ⟨rfl, hP, hK⟩ := hv
  have hx := B.exec
  have hb := B.bytes
  have hr := B.returns
  have hts := atoms_spec (ws := wsX1_placeFor) B.pre
  have hin : ∀ w ∈ wsX10, w ∈ wsX1_placeFor := fun w h => List.mem_cons_of_mem _ (List.mem_append_left _ (List.mem_append_left _ (List.mem_append_right _ h)))
  have hin0 : ∀ w ∈ wsX00, w ∈ wsX1_placeFor := fun w h => List.mem_cons_of_mem _ (List.mem_append_left _ (List.mem_append_right _ h))
  have hown : s.vm.findClass RX1 = some m.cls := findClass_of_methodNamed B.named
  have hlocks := B.notSynchronized
  have hl := lv_entry ([.ref h0, .int dep]) (n := 4) (Nat.le_of_ble_eq_true rfl)
  rw [lg_entry_eq]
  generalize (lg_sl ([.ref h0, .int dep]) ++ List.replicate (4 - (lg_sl ([.ref h0, .int dep])).length) Slot.unset).toArray = ls at hl ⊢
  have hl : lv_has ls 4 [(0, .ref h0), (1, .int dep)] := hl
  refine lv_iconst (v := 0) hx hb dX1_placeFor_0 (by decide) ?_
  refine lv_istore_n (lv' := [(2, .int 0), (0, .ref h0), (1, .int dep)]) hx hb dX1_placeFor_1 rfl hl (by decide) rfl (fun ls hl => ?_)
  refine lv_iconst (v := 0) hx hb dX1_placeFor_2 (by decide) ?_
  refine lv_istore_n (lv' := [(3, .int 0), (2, .int 0), (0, .ref h0), (1, .int dep)]) hx hb dX1_placeFor_3 rfl hl (by decide) rfl (fun ls hl => ?_)
  refine w_loop (σ := Nat) (I := fun k1 H locs ls => k1 ≤ n ∧ H = s.heap ∧ locs = [] ∧ lv_has ls 4 [(0, .ref h0), (1, .int dep), (2, .int ((C_placeFor_it n o S dep k1))), (3, .int (nI k1))]) (fun k1 => n - k1) ?_ 0 ⟨Nat.zero_le _, rfl, rfl, lv_sub hl [2, 3, 1, 0] rfl⟩
  intro k1 H locs ls hI ih
  obtain ⟨hk, rfl, rfl, hl⟩ := hI
  refine lv_iload_n hx hb dX1_placeFor_4 rfl (lv_at hl 3 rfl) ?_
  refine lv_aload_n hx hb dX1_placeFor_5 rfl (lv_at hl 0 rfl) ?_
  refine va_get (ci := 2) (v := .ref l2) (C := RX1) (T := TX1) (N := 14) hx hb hts hin hown hK hP q0 hw0 rfl 1 (by decide) (hts (.fieldLink RX1 16 "DozingDevices" "order" "Ljava/util/ArrayList;") (by decide +kernel)) (fun _ h9 => h9) hf1 dX1_placeFor_6 ?_
  refine m_callR (As := []) (rest := [.int (nI k1)]) ⟨hx, hb, hml, hown, hts⟩ (c_J_size l D (cT cO) w l2 q2 e2 md2 (nI n) hq2) (cwV 0 hts gX1_placeFor_Jx4a65c_size_8abf5 rfl rfl rfl (by decide +kernel) ⟨Nat.le_of_ble_eq_true rfl, Nat.le_of_ble_eq_true rfl⟩) hK hP (va_recv hK hP (ci := 0) (q0 := q2) rfl hq2) rfl hl.1 rfl (Nat.le_of_ble_eq_true rfl) dX1_placeFor_9 ⟨Nat.zero_le _, Nat.zero_le _⟩ ?_
  refine lv_icmp_ge (tgt := 43) hx hb dX1_placeFor_12 (by decide) (fun c2 => ?_) (fun c2 => ?_)
  · have hkn : k1 = n := Nat.le_antisymm hk ((nI_leI (by omega) (by omega)).mp c2)
    rw [hkn] at hl
    refine lv_iload_n hx hb dX1_placeFor_43 rfl (lv_at hl 2 rfl) ?_
    have hE : C_placeFor n o S dep = (C_placeFor_it n o S dep n) := by first | (simp only [C_placeFor]; done) | (simp only [C_placeFor]; rfl)
    exact W.iret (v := (C_placeFor_it n o S dep n)) hx hb hr (fun tt ht hW => ⟨(C_placeFor_it n o S dep n), rfl, hE.symm, ht⟩) (fun q hq => by cases hq) dX1_placeFor_44
  · have hlt : k1 < n := Nat.lt_of_not_le (fun z => c2 ((nI_leI (by omega) (by omega)).mpr z))
    refine lv_aload_n hx hb dX1_placeFor_15 rfl (lv_at hl 0 rfl) ?_
    refine va_get (ci := 2) (v := .ref l2) (C := RX1) (T := TX1) (N := 14) hx hb hts hin hown hK hP q0 hw0 rfl 1 (by decide) (hts (.fieldLink RX1 16 "DozingDevices" "order" "Ljava/util/ArrayList;") (by decide +kernel)) (fun _ h9 => h9) hf1 dX1_placeFor_16 ?_
    refine lv_iload_n hx hb dX1_placeFor_19 rfl (lv_at hl 3 rfl) ?_
    obtain ⟨kd, hkd⟩ := hdv k1 hlt
    have hg := c_J_get l D (cT cO) w l2 q2 e2 q3 0 cp k1 n cO (cR2 ad n o) md2 hq2 (hq3 (by omega)) rfl hlt hcp hcp2
    rw [show cR2 ad n o k1 = some (ad (o k1)) from if_pos hlt] at hg
    refine m_callQr (As := [.int (nI k1)]) (rest := []) ⟨hx, hb, hml, hown, hts⟩ hg (cwV 1 hts gX1_placeFor_Jx4a65c_get_915e3 rfl rfl rfl (by decide +kernel) ⟨Nat.le_of_ble_eq_true rfl, Nat.le_of_ble_eq_true rfl⟩) hK hP (va_recv hK hP (ci := 0) (q0 := q2) rfl hq2) rfl hl.1 rfl (Nat.le_of_ble_eq_true rfl) dX1_placeFor_20 ⟨Nat.zero_le _, Nat.zero_le _⟩ ?_
    refine va_castS (nm := "DozingDevices$Device") (cC := D.1 1) hx hb hown (hts (.classLink RX1 69 "DozingDevices$Device") (by decide +kernel)) (hK.1 1 (RX0, TX0, 13) rfl).2 (va_recv (ci := 1) (q0 := kd) hK hP rfl hkd) dX1_placeFor_23 ?_
    refine va_get (ci := 1) (v := .int (S.2.1 3 (o k1))) (C := RX0) (T := TX0) (N := 13) hx hb hts hin0 hown hK hP kd hkd rfl 3 (by decide) (hts (.fieldLink RX1 85 "DozingDevices$Device" "depth" "I") (by decide +kernel)) (fun _ h9 => h9) rfl dX1_placeFor_26 ?_
    refine lv_iload_n hx hb dX1_placeFor_29 rfl (lv_at hl 1 rfl) ?_
    refine lv_icmp_gt (tgt := 37) hx hb dX1_placeFor_30 (by decide) (fun c3 => ?_) (fun c3 => ?_)
    · refine lv_iinc (v := nI (k1 + 1)) (lv' := [(3, .int (nI (k1 + 1))), (0, .ref h0), (1, .int dep), (2, .int ((C_placeFor_it n o S dep k1)))]) hx hb dX1_placeFor_37 hl (k := 3) rfl (nI_1 _) (by decide) rfl (fun ls hl => ?_)
      refine lv_goto (tgt := 4) hx hb dX1_placeFor_40 (by decide) ?_
      have hE : C_placeFor_it n o S dep (k1 + 1) = (C_placeFor_it n o S dep k1) := by show C_placeFor_b n o S dep k1 (C_placeFor_it n o S dep k1) = _; first | (simp only [C_placeFor_b, if_pos c3]; done) | (simp only [C_placeFor_b, if_pos c3]; rfl)
      exact ih (k1 + 1) _ _ ls (by omega) ⟨by omega, rfl, rfl, by rw [hE]; exact lv_sub hl [1, 2, 3, 0] rfl⟩
    · refine lv_iload_n hx hb dX1_placeFor_33 rfl (lv_at hl 3 rfl) ?_
      refine lv_iconst (v := 1) hx hb dX1_placeFor_34 (by decide) ?_
      refine lv_iadd hx hb dX1_placeFor_35 ?_
      refine lv_istore_n (lv' := [(2, .int ((nI k1) + 1)), (0, .ref h0), (1, .int dep), (3, .int (nI k1))]) hx hb dX1_placeFor_36 rfl hl (by decide) rfl (fun ls hl => ?_)
      refine lv_iinc (v := nI (k1 + 1)) (lv' := [(3, .int (nI (k1 + 1))), (2, .int ((nI k1) + 1)), (0, .ref h0), (1, .int dep)]) hx hb dX1_placeFor_37 hl (k := 3) rfl (nI_1 _) (by decide) rfl (fun ls hl => ?_)
      refine lv_goto (tgt := 4) hx hb dX1_placeFor_40 (by decide) ?_
      have hE : C_placeFor_it n o S dep (k1 + 1) = (nI k1) + 1 := by show C_placeFor_b n o S dep k1 (C_placeFor_it n o S dep k1) = _; first | (simp only [C_placeFor_b, if_neg c3]; done) | (simp only [C_placeFor_b, if_neg c3]; rfl)
      exact ih (k1 + 1) _ _ ls (by omega) ⟨by omega, rfl, rfl, by rw [hE]; exact lv_sub hl [2, 3, 1, 0] rfl⟩

theorem C_place_le (n : Nat) (o : Nat → Nat) (S : cSt) (dep : Int32) : ∀ m, m ≤ n → ∃ k, k ≤ m ∧ C_placeFor_it n o S dep m = nI k
  | 0, _ => ⟨0, Nat.le_refl 0, rfl⟩
  | m + 1, hm => by
    obtain ⟨k, hk, e⟩ := C_place_le n o S dep m (by omega)
    show ∃ k, k ≤ m + 1 ∧ C_placeFor_b n o S dep m (C_placeFor_it n o S dep m) = nI k
    unfold C_placeFor_b
    split
    · exact ⟨k, by omega, e⟩
    · exact ⟨m + 1, Nat.le_refl _, nI_1 m⟩
/-- the order, the devices and the state behind device() -/
def C_dO (n k : Nat) (o : Nat → Nat) : Nat → Nat := fun i => if i < k then o i else if i = k then n else o (i - 1)
def C_dV (x1 x2 x3 x4 x5 x6 x7 : Int32) : Nat → Int32 := fun q => ([x1, x2, x3, x4, x5, x6, x7, 2, 2, 0, 0, 0, 0] : List Int32).getD q 0
def C_dF (n : Nat) (F : Nat → Nat → Int32) (v : Nat → Int32) : Nat → Nat → Int32 := fun q i => if i = n then v q else F q i
def C_dK (n : Nat) (o : Nat → Nat) (S : cSt) (p : Int32) : Nat := (C_placeFor n o S (C_depthUnder n o S p)).toNatClampNeg
def C_dS (n : Nat) (o : Nat → Nat) (S : cSt) (p dn up dl : Int32) : cSt := (S.1, C_dF n S.2.1 (C_dV (nI n) p (C_withAncestors n o S p) (C_depthUnder n o S p) dn up dl), S.2.2)
theorem C_dK_le {n : Nat} {o : Nat → Nat} {S : cSt} {p : Int32} (hn : n ≤ 12) : C_dK n o S p ≤ n ∧ C_placeFor n o S (C_depthUnder n o S p) = nI (C_dK n o S p) := by
  obtain ⟨k, hk, e⟩ := C_place_le n o S (C_depthUnder n o S p) n (Nat.le_refl n)
  have e2 : C_placeFor n o S (C_depthUnder n o S p) = nI k := e
  have e3 : C_dK n o S p = k := by unfold C_dK; rw [e2]; exact nI_clamp (by omega)
  rw [e3]; exact ⟨hk, e2⟩
theorem C_dev_ok {n : Nat} {o : Nat → Nat} {S : cSt} {p dn up dl : Int32} (hok : cOk n o S) (hn : n < 12) {k : Nat} (hk : k ≤ n) : cOk (n + 1) (C_dO n k o) (C_dS n o S p dn up dl) := by
  refine ⟨by omega, fun i hi => ?_, fun i hi => ?_, fun i hi => Nat.lt_succ_of_lt (hok.2.2.2 i hi)⟩
  · unfold C_dO
    split
    · exact Nat.lt_succ_of_lt (hok.2.1 i (by omega))
    · split
      · omega
      · exact Nat.lt_succ_of_lt (hok.2.1 (i - 1) (by omega))
  · show C_dF n S.2.1 _ 0 i = nI i
    unfold C_dF
    split
    · rename_i h; rw [h]; rfl
    · exact hok.2.2.1 i (by omega)
theorem C_dR1 {n d : Nat} {ad : Nat → Nat} : va_up (cR1 ad n) n (some d) = cR1 (va_up ad n d) (n + 1) := by
  funext i
  unfold cR1 va_up
  by_cases h : i = n
  · subst h; simp
  · by_cases h2 : i < n
    · simp [h, h2, Nat.lt_succ_of_lt h2]
    · have h3 : ¬ i < n + 1 := by omega
      simp [h, h2, h3]
theorem C_dR2 {n d k : Nat} {ad o : Nat → Nat} (hk : k ≤ n) (ho : ∀ i, i < n → o i < n) : va_up (va_cpy (cR2 ad n o) (cR2 ad n o) k (k + 1) (n - k)) k (some d) = cR2 (va_up ad n d) (n + 1) (C_dO n k o) := by
  funext i
  by_cases h : i = k
  · subst h
    rw [va_up_self]
    unfold cR2 C_dO
    rw [if_pos (by omega), if_neg (by omega), if_pos rfl, va_up_self]
  · rw [va_up_ne _ _ h]
    by_cases h1 : i < k
    · rw [pk_cpy_out (by omega)]
      unfold cR2 C_dO
      rw [if_pos (by omega), if_pos (by omega), if_pos h1, va_up_ne _ _ (by have := ho i (by omega); omega)]
    · by_cases h2 : i < n + 1
      · rw [pk_cpy_in (by omega) (by omega)]
        unfold cR2 C_dO
        rw [if_pos (by omega), if_pos h2, if_neg h1, if_neg h, show k + (i - (k + 1)) = i - 1 by omega, va_up_ne _ _ (by have := ho (i - 1) (by omega); omega)]
      · rw [pk_cpy_out (by omega)]
        unfold cR2
        rw [if_neg (by omega), if_neg h2]
theorem C_dDv {n d : Nat} {ad : Nat → Nat} {F : Nat → Nat → Int32} {v : Nat → Int32} : cDv (va_up ad n d) (n + 1) (C_dF n F v) = cDv ad n F ++ [(d, dcell (cD (C_dF n F v) n))] := by
  unfold cDv
  rw [List.range_succ, List.map_append]
  congr 1
  · apply List.map_congr_left
    intro i hi
    have hi : i < n := List.mem_range.mp hi
    have e1 : va_up ad n d i = ad i := va_up_ne _ _ (by omega)
    have e2 : cD (C_dF n F v) i = cD F i := by unfold cD C_dF; simp [show ¬ i = n by omega]
    rw [e1, e2]
  · simp [va_up_self]
theorem C_dCell {n : Nat} {F : Nat → Nat → Int32} {x1 x2 x3 x4 x5 x6 x7 : Int32} : cD (C_dF n F (C_dV x1 x2 x3 x4 x5 x6 x7)) n = [.int x1, .int x2, .int x3, .int x4, .int x5, .int x6, .int x7, .int 2, .int 2, .int 0, .int 0, .int 0, .int 0] := by
  unfold cD C_dF C_dV; simp
