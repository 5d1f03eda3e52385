theorem cOk_of {n : Nat} {o : Nat → Nat} {S T : cSt} (h : cOk n o S) (h0 : T.2.1 0 = S.2.1 0) (hd : ∀ i, T.2.2 = some i → i < n) : cOk n o T := ⟨h.1, h.2.1, by rw [h0]; exact h.2.2.1, hd⟩
theorem fb01 {x : Int32} (h : x = 0 ∨ x = 1) : fits .boolean (.int x) = true := by rcases h with rfl | rfl <;> rfl
def C_find (n : Nat) (o : Nat → Nat) (S : cSt) (d : Int32) : Option Nat := if inR n d = true then some d.toNatClampNeg else none

def C_isWithin (n : Nat) (o : Nat → Nat) (S : cSt) (num : Int32) (least : Int32) (most : Int32) : Int32 :=
  if num < least then 0
  else if most < num then 0
  else 1
set_option maxHeartbeats 4000000 in
set_option maxRecDepth 100000 in
theorem c_X1_isWithin (l : Launch) (D : va_G) (cO : ClassId) (h ad : Nat → Nat) (md : Nat → Int32) (n : Nat) (o : Nat → Nat) (ha : (cL h ad n).Nodup) (S : cSt) (hok : cOk n o S) (num : Int32) (least : Int32) (most : Int32) : mR l yX1_isWithin wsX1_isWithin (rmz 0 0) D (cT cO) [.int num, .int least, .int most] (cW cO h ad md n o S) (C_isWithin n o S num least most) := by
  refine Met.ofW (cc := cX1_isWithin) (maxL := 3) (ret := (some .boolean)) (by decide) rfl ?_
  intro p e s m args below meth c s₁ B hml hv
  obtain ⟨rfl, hP, hK⟩ := hv
  have hx := B.exec
  have hb := B.bytes
  have hr := B.returns
  have hts := atoms_spec (ws := wsX1_isWithin) B.pre
  have hown : s.vm.findClass RX1 = some m.cls := findClass_of_methodNamed B.named
  have hlocks := B.notSynchronized
  have hn12 : n ≤ 12 := hok.1
  have hl := lv_entry ([.int num, .int least, .int most]) (n := 3) (Nat.le_of_ble_eq_true rfl)
  rw [lg_entry_eq]
  generalize (lg_sl ([.int num, .int least, .int most]) ++ List.replicate (3 - (lg_sl ([.int num, .int least, .int most])).length) Slot.unset).toArray = ls at hl ⊢
  have hl : lv_has ls 3 [(0, .int num), (1, .int least), (2, .int most)] := hl
  refine lv_iload_n hx hb dX1_isWithin_0 rfl (lv_at hl 0 rfl) ?_
  refine lv_iload_n hx hb dX1_isWithin_1 rfl (lv_at hl 1 rfl) ?_
  refine lv_icmp_lt (tgt := 14) hx hb dX1_isWithin_2 (by decide) (fun c1 => ?_) (fun c1 => ?_)
  · refine lv_iconst (v := 0) hx hb dX1_isWithin_14 (by decide) ?_
    have hE : C_isWithin n o S num least most = 0 := by first | (simp only [C_isWithin, if_pos c1]; done) | (simp only [C_isWithin, if_pos c1]; rfl)
    exact W.zret (v := 0) hx hb hr rfl (fun tt ht hW => ⟨0, rfl, hE.symm, ht⟩) (fun q hq => by cases hq) dX1_isWithin_15
  · refine lv_iload_n hx hb dX1_isWithin_5 rfl (lv_at hl 0 rfl) ?_
    refine lv_iload_n hx hb dX1_isWithin_6 rfl (lv_at hl 2 rfl) ?_
    refine lv_icmp_gt (tgt := 14) hx hb dX1_isWithin_7 (by decide) (fun c2 => ?_) (fun c2 => ?_)
    · refine lv_iconst (v := 0) hx hb dX1_isWithin_14 (by decide) ?_
      have hE : C_isWithin n o S num least most = 0 := by first | (simp only [C_isWithin, if_neg c1, if_pos c2]; done) | (simp only [C_isWithin, if_neg c1, if_pos c2]; rfl)
      exact W.zret (v := 0) hx hb hr rfl (fun tt ht hW => ⟨0, rfl, hE.symm, ht⟩) (fun q hq => by cases hq) dX1_isWithin_15
    · refine lv_iconst (v := 1) hx hb dX1_isWithin_10 (by decide) ?_
      refine lv_goto (tgt := 15) hx hb dX1_isWithin_11 (by decide) ?_
      have hE : C_isWithin n o S num least most = 1 := by first | (simp only [C_isWithin, if_neg c1, if_neg c2]; done) | (simp only [C_isWithin, if_neg c1, if_neg c2]; rfl)
      exact W.zret (v := 1) hx hb hr rfl (fun tt ht hW => ⟨1, rfl, hE.symm, ht⟩) (fun q hq => by cases hq) dX1_isWithin_15

theorem C_within_in {n : Nat} {o : Nat → Nat} {S : cSt} {d : Int32} (hn : n ≤ 12) : C_isWithin n o S d 0 ((nI n) - 1) = if inR n d = true then 1 else 0 := by
  have hn1 : ((nI n) - 1).toInt = (n : Int) - 1 := by
    rcases n with _ | n
    · decide
    · rw [nI_pred, nI_toInt (by omega)]; omega
  unfold C_isWithin
  by_cases hd : inR n d = true
  · obtain ⟨j, hj, rfl⟩ := inR_spec hn hd
    rw [if_pos hd, if_neg (nI_pos (by omega)), if_neg (by rw [Int32.lt_iff_toInt_lt, hn1, nI_toInt (by omega)]; omega)]
  · rw [if_neg hd]
    by_cases h1 : d < 0
    · rw [if_pos h1]
    · rw [if_neg h1, if_pos]
      rw [Int32.lt_iff_toInt_lt, hn1]
      rw [Int32.lt_iff_toInt_lt, Int32.toInt_zero] at h1
      simp only [inR, Bool.and_eq_true, decide_eq_true_eq] at hd
      omega
theorem C_within_of {n : Nat} {o : Nat → Nat} {S : cSt} {k : Int32} (h : ¬ C_isWithin n o S k 0 200 = 0) : ∃ t, t ≤ 200 ∧ k = nI t := by
  unfold C_isWithin at h
  by_cases h1 : k < 0
  · rw [if_pos h1] at h; exact absurd rfl h
  · rw [if_neg h1] at h
    by_cases h2 : 200 < k
    · rw [if_pos h2] at h; exact absurd rfl h
    · exact nI_of2 (M := 200) (n := 200) rfl h1 (by rw [Int32.lt_iff_toInt_lt] at h2; rw [Int32.le_iff_toInt_le]; omega)

def C_bit (n : Nat) (o : Nat → Nat) (S : cSt) (x : Nat) : Int32 :=
  1 <<< ((nI x) &&& 31)
set_option maxHeartbeats 4000000 in
set_option maxRecDepth 100000 in
theorem c_X1_bit (l : Launch) (D : va_G) (cO : ClassId) (h ad : Nat → Nat) (md : Nat → Int32) (n : Nat) (o : Nat → Nat) (ha : (cL h ad n).Nodup) (S : cSt) (hok : cOk n o S) (x : Nat) (lt_x : x < n) : mR l yX1_bit wsX1_bit (rmz 0 0) D (cT cO) [.ref (ad x)] (cW cO h ad md n o S) (C_bit n o S x) := by
  refine Met.ofW (cc := cX1_bit) (maxL := 1) (ret := (some .int)) (by decide) rfl ?_
  intro p e s m args below meth c s₁ B hml hv
  obtain ⟨rfl, hP, hK⟩ := hv
  have hx := B.exec
  have hb := B.bytes
  have hr := B.returns
  have hts := atoms_spec (ws := wsX1_bit) B.pre
  have hin0 : ∀ w ∈ wsX00, w ∈ wsX1_bit := fun w h => List.mem_cons_of_mem _ (List.mem_append_right _ h)
  have hown : s.vm.findClass RX1 = some m.cls := findClass_of_methodNamed B.named
  have hlocks := B.notSynchronized
  have hn12 : n ≤ 12 := hok.1
  have hl := lv_entry ([.ref (ad x)]) (n := 1) (Nat.le_of_ble_eq_true rfl)
  rw [lg_entry_eq]
  generalize (lg_sl ([.ref (ad x)]) ++ List.replicate (1 - (lg_sl ([.ref (ad x)])).length) Slot.unset).toArray = ls at hl ⊢
  have hl : lv_has ls 1 [(0, .ref (ad x))] := hl
  refine lv_iconst (v := 1) hx hb dX1_bit_0 (by decide) ?_
  refine lv_aload_n hx hb dX1_bit_1 rfl (lv_at hl 0 rfl) ?_
  refine c_dget (S := S) (v := .int (nI x)) (i := x) hx hb hts hin0 hown hK hP (by omega) 0 (by decide) (by decide +kernel) rfl (congrArg (fun z => some (Value.int z)) (hok.2.2.1 x (by omega))) dX1_bit_2 ?_
  refine lv_ishl hx hb dX1_bit_5 ?_
  have hE : C_bit n o S x = 1 <<< ((nI x) &&& 31) := by first | (simp only [C_bit]; done) | (simp only [C_bit]; rfl)
  exact W.iret (v := 1 <<< ((nI x) &&& 31)) hx hb hr (fun tt ht hW => ⟨1 <<< ((nI x) &&& 31), rfl, hE.symm, ht⟩) (fun q hq => by cases hq) dX1_bit_6

def C_holds (n : Nat) (o : Nat → Nat) (S : cSt) (set : Int32) (x : Nat) : Int32 :=
  if set &&& (C_bit n o S x) = 0 then 0
  else 1
set_option maxHeartbeats 4000000 in
set_option maxRecDepth 100000 in
theorem c_X1_holds (l : Launch) (D : va_G) (cO : ClassId) (h ad : Nat → Nat) (md : Nat → Int32) (n : Nat) (o : Nat → Nat) (ha : (cL h ad n).Nodup) (S : cSt) (hok : cOk n o S) (set : Int32) (x : Nat) (lt_x : x < n) : mR l yX1_holds wsX1_holds (rmz 1 20) D (cT cO) [.int set, .ref (ad x)] (cW cO h ad md n o S) (C_holds n o S set x) := by
  refine Met.ofW (cc := cX1_holds) (maxL := 2) (ret := (some .boolean)) (by decide) rfl ?_
  intro p e s m args below meth c s₁ B hml hv
  obtain ⟨rfl, hP, hK⟩ := hv
  have hx := B.exec
  have hb := B.bytes
  have hr := B.returns
  have hts := atoms_spec (ws := wsX1_holds) B.pre
  have hin0 : ∀ w ∈ wsX00, w ∈ wsX1_holds := fun w h => List.mem_cons_of_mem _ (List.mem_append_right _ h)
  have hown : s.vm.findClass RX1 = some m.cls := findClass_of_methodNamed B.named
  have hlocks := B.notSynchronized
  have hn12 : n ≤ 12 := hok.1
  have hl := lv_entry ([.int set, .ref (ad x)]) (n := 2) (Nat.le_of_ble_eq_true rfl)
  rw [lg_entry_eq]
  generalize (lg_sl ([.int set, .ref (ad x)]) ++ List.replicate (2 - (lg_sl ([.int set, .ref (ad x)])).length) Slot.unset).toArray = ls at hl ⊢
  have hl : lv_has ls 2 [(0, .int set), (1, .ref (ad x))] := hl
  refine lv_iload_n hx hb dX1_holds_0 rfl (lv_at hl 0 rfl) ?_
  refine lv_aload_n hx hb dX1_holds_1 rfl (lv_at hl 1 rfl) ?_
  refine m_callRS (As := [.ref (ad x)]) (rest := [.int set]) ⟨hx, hb, hml, hown, hts⟩ (c_X1_bit l D cO h ad md n o ha S hok x (by omega)) (va_cwS 1 hts gX1_holds_X1_bit rfl rfl rfl (by decide +kernel) ⟨Nat.le_of_ble_eq_true rfl, Nat.le_of_ble_eq_true rfl⟩) hK hP rfl hl.1 rfl (Nat.le_of_ble_eq_true rfl) dX1_holds_2 ⟨Nat.zero_le _, Nat.zero_le _⟩ ?_
  refine lv_iand hx hb dX1_holds_5 ?_
  refine lv_if_eq (tgt := 13) hx hb dX1_holds_6 (by decide) (fun c1 => ?_) (fun c1 => ?_)
  · refine lv_iconst (v := 0) hx hb dX1_holds_13 (by decide) ?_
    have hE : C_holds n o S set x = 0 := by first | (simp only [C_holds, if_pos c1]; done) | (simp only [C_holds, if_pos c1]; rfl)
    exact W.zret (v := 0) hx hb hr rfl (fun tt ht hW => ⟨0, rfl, hE.symm, ht⟩) (fun q hq => by cases hq) dX1_holds_14
  · refine lv_iconst (v := 1) hx hb dX1_holds_9 (by decide) ?_
    refine lv_goto (tgt := 14) hx hb dX1_holds_10 (by decide) ?_
    have hE : C_holds n o S set x = 1 := by first | (simp only [C_holds, if_neg c1]; done) | (simp only [C_holds, if_neg c1]; rfl)
    exact W.zret (v := 1) hx hb hr rfl (fun tt ht hW => ⟨1, rfl, hE.symm, ht⟩) (fun q hq => by cases hq) dX1_holds_14

def C_areDevices (n : Nat) (o : Nat → Nat) (S : cSt) (set : Int32) : Int32 :=
  if set < 0 then 0
  else if set >>> ((nI n) &&& 31) = 0 then 1
  else 0
set_option maxHeartbeats 4000000 in
set_option maxRecDepth 100000 in
theorem c_X1_areDevices (l : Launch) (D : va_G) (cO : ClassId) (h ad : Nat → Nat) (md : Nat → Int32) (n : Nat) (o : Nat → Nat) (ha : (cL h ad n).Nodup) (S : cSt) (hok : cOk n o S) (set : Int32) : mR l yX1_areDevices wsX1_areDevices (rmz 1 20) D (cT cO) [.ref (h 0), .int set] (cW cO h ad md n o S) (C_areDevices n o S set) := by
  refine Met.ofW (cc := cX1_areDevices) (maxL := 2) (ret := (some .boolean)) (by decide) rfl ?_
  intro p e s m args below meth c s₁ B hml hv
  obtain ⟨rfl, hP, hK⟩ := hv
  have hx := B.exec
  have hb := B.bytes
  have hr := B.returns
  have hts := atoms_spec (ws := wsX1_areDevices) B.pre
  have hin : ∀ w ∈ wsX10, w ∈ wsX1_areDevices := fun w h => List.mem_cons_of_mem _ (List.mem_append_left _ (List.mem_append_right _ h))
  have hown : s.vm.findClass RX1 = some m.cls := findClass_of_methodNamed B.named
  have hlocks := B.notSynchronized
  have hn12 : n ≤ 12 := hok.1
  have hl := lv_entry ([.ref (h 0), .int set]) (n := 2) (Nat.le_of_ble_eq_true rfl)
  rw [lg_entry_eq]
  generalize (lg_sl ([.ref (h 0), .int set]) ++ List.replicate (2 - (lg_sl ([.ref (h 0), .int set])).length) Slot.unset).toArray = ls at hl ⊢
  have hl : lv_has ls 2 [(0, .ref (h 0)), (1, .int set)] := hl
  refine lv_iload_n hx hb dX1_areDevices_0 rfl (lv_at hl 1 rfl) ?_
  refine lv_if_lt (tgt := 20) hx hb dX1_areDevices_1 (by decide) (fun c1 => ?_) (fun c1 => ?_)
  · refine lv_iconst (v := 0) hx hb dX1_areDevices_20 (by decide) ?_
    have hE : C_areDevices n o S set = 0 := by first | (simp only [C_areDevices, if_pos c1]; done) | (simp only [C_areDevices, if_pos c1]; rfl)
    exact W.zret (v := 0) hx hb hr rfl (fun tt ht hW => ⟨0, rfl, hE.symm, ht⟩) (fun q hq => by cases hq) dX1_areDevices_21
  · refine lv_iload_n hx hb dX1_areDevices_4 rfl (lv_at hl 1 rfl) ?_
    refine lv_aload_n hx hb dX1_areDevices_5 rfl (lv_at hl 0 rfl) ?_
    refine c_get (S := S) (v := .ref (h 1)) hx hb hts hin hown hK hP 0 (by decide) (by decide +kernel) rfl rfl dX1_areDevices_6 ?_
    refine m_callR (As := []) (rest := [.int set]) ⟨hx, hb, hml, hown, hts⟩ (c_J_size l D (cT cO) (cW cO h ad md n o S) (h 1) 1 (h 3) (md 1) (nI n) rfl) (cwV 0 hts gX1_areDevices_Jx4a65c_size_8abf5 rfl rfl rfl (by decide +kernel) ⟨Nat.le_of_ble_eq_true rfl, Nat.le_of_ble_eq_true rfl⟩) hK hP (va_recv hK hP (ci := 0) (q0 := 1) rfl rfl) rfl hl.1 rfl (Nat.le_of_ble_eq_true rfl) dX1_areDevices_9 ⟨Nat.zero_le _, Nat.zero_le _⟩ ?_
    refine lv_ishr hx hb dX1_areDevices_12 ?_
    refine lv_if_ne (tgt := 20) hx hb dX1_areDevices_13 (by decide) (fun c2 => ?_) (fun c2 => ?_)
    · refine lv_iconst (v := 0) hx hb dX1_areDevices_20 (by decide) ?_
      have hE : C_areDevices n o S set = 0 := by first | (simp only [C_areDevices, if_neg c1, if_neg c2]; done) | (simp only [C_areDevices, if_neg c1, if_neg c2]; rfl)
      exact W.zret (v := 0) hx hb hr rfl (fun tt ht hW => ⟨0, rfl, hE.symm, ht⟩) (fun q hq => by cases hq) dX1_areDevices_21
    · refine lv_iconst (v := 1) hx hb dX1_areDevices_16 (by decide) ?_
      refine lv_goto (tgt := 21) hx hb dX1_areDevices_17 (by decide) ?_
      have hE : C_areDevices n o S set = 1 := by first | (simp only [C_areDevices, if_neg c1, if_pos c2]; done) | (simp only [C_areDevices, if_neg c1, if_pos c2]; rfl)
      exact W.zret (v := 1) hx hb hr rfl (fun tt ht hW => ⟨1, rfl, hE.symm, ht⟩) (fun q hq => by cases hq) dX1_areDevices_21

set_option maxHeartbeats 4000000 in
set_option maxRecDepth 100000 in
theorem c_X1_find (l : Launch) (D : va_G) (cO : ClassId) (h ad : Nat → Nat) (md : Nat → Int32) (n : Nat) (o : Nat → Nat) (ha : (cL h ad n).Nodup) (S : cSt) (hok : cOk n o S) (d : Int32) : mQ l yX1_find wsX1_find (rmz 3 64) D (cT cO) [.ref (h 0), .int d] (cW cO h ad md n o S) ((C_find n o S d).map ad) := by
  refine Met.ofW (cc := cX1_find) (maxL := 2) (ret := (some (.object "DozingDevices$Device"))) (by decide) rfl ?_
  intro p e s m args below meth c s₁ B hml hv
  obtain ⟨rfl, hP, hK⟩ := hv
  have hx := B.exec
  have hb := B.bytes
  have hr := B.returns
  have hts := atoms_spec (ws := wsX1_find) B.pre
  have hin : ∀ w ∈ wsX10, w ∈ wsX1_find := fun w h => List.mem_cons_of_mem _ (List.mem_append_left _ (List.mem_append_right _ h))
  have hown : s.vm.findClass RX1 = some m.cls := findClass_of_methodNamed B.named
  have hlocks := B.notSynchronized
  have hn12 : n ≤ 12 := hok.1
  have hl := lv_entry ([.ref (h 0), .int d]) (n := 2) (Nat.le_of_ble_eq_true rfl)
  rw [lg_entry_eq]
  generalize (lg_sl ([.ref (h 0), .int d]) ++ List.replicate (2 - (lg_sl ([.ref (h 0), .int d])).length) Slot.unset).toArray = ls at hl ⊢
  have hl : lv_has ls 2 [(0, .ref (h 0)), (1, .int d)] := hl
  refine lv_iload_n hx hb dX1_find_0 rfl (lv_at hl 1 rfl) ?_
  refine lv_iconst (v := 0) hx hb dX1_find_1 (by decide) ?_
  refine lv_aload_n hx hb dX1_find_2 rfl (lv_at hl 0 rfl) ?_
  refine c_get (S := S) (v := .ref (h 1)) hx hb hts hin hown hK hP 0 (by decide) (by decide +kernel) rfl rfl dX1_find_3 ?_
  refine m_callR (As := []) (rest := [.int 0, .int d]) ⟨hx, hb, hml, hown, hts⟩ (c_J_size l D (cT cO) (cW cO h ad md n o S) (h 1) 1 (h 3) (md 1) (nI n) rfl) (cwV 0 hts gX1_find_Jx4a65c_size_8abf5 rfl rfl rfl (by decide +kernel) ⟨Nat.le_of_ble_eq_true rfl, Nat.le_of_ble_eq_true rfl⟩) hK hP (va_recv hK hP (ci := 0) (q0 := 1) rfl rfl) rfl hl.1 rfl (Nat.le_of_ble_eq_true rfl) dX1_find_6 ⟨Nat.zero_le _, Nat.zero_le _⟩ ?_
  refine lv_iconst (v := 1) hx hb dX1_find_9 (by decide) ?_
  refine lv_isub hx hb dX1_find_10 ?_
  refine m_callRS (As := [.int d, .int 0, .int ((nI n) - 1)]) (rest := []) ⟨hx, hb, hml, hown, hts⟩ (c_X1_isWithin l D cO h ad md n o ha S hok d 0 ((nI n) - 1)) (va_cwS 3 hts gX1_find_X1_isWithin rfl rfl rfl (by decide +kernel) ⟨Nat.le_of_ble_eq_true rfl, Nat.le_of_ble_eq_true rfl⟩) hK hP rfl hl.1 rfl (Nat.le_of_ble_eq_true rfl) dX1_find_11 ⟨Nat.zero_le _, Nat.zero_le _⟩ ?_
  rw [C_within_in hn12]
  by_cases hd : inR n d = true
  · obtain ⟨j, hj, rfl⟩ := inR_spec hn12 hd
    have hjc : (nI j).toNatClampNeg = j := nI_clamp (by omega)
    rw [if_pos hd]
    refine lv_if_eq (tgt := 31) hx hb dX1_find_14 (by decide) (fun c1 => ?_) (fun c1 => ?_)
    · exact absurd c1 (by decide)
    · refine lv_aload_n hx hb dX1_find_17 rfl (lv_at hl 0 rfl) ?_
      refine c_get (S := S) (v := .ref (h 1)) hx hb hts hin hown hK hP 0 (by decide) (by decide +kernel) rfl rfl dX1_find_18 ?_
      refine lv_iload_n hx hb dX1_find_21 rfl (lv_at hl 1 rfl) ?_
      refine m_callQr (As := [.int (nI j)]) (rest := []) ⟨hx, hb, hml, hown, hts⟩ (c_J_get1 l D cO h ad md n o S j hn12 (by omega)) (cwV 1 hts gX1_find_Jx4a65c_get_915e3 rfl rfl rfl (by decide +kernel) ⟨Nat.le_of_ble_eq_true rfl, Nat.le_of_ble_eq_true rfl⟩) hK hP (va_recv hK hP (ci := 0) (q0 := 1) rfl rfl) rfl hl.1 rfl (Nat.le_of_ble_eq_true rfl) dX1_find_22 ⟨Nat.zero_le _, Nat.zero_le _⟩ ?_
      refine c_cast hx hb hts hown hK hP (i := j) (by omega) (by decide +kernel) dX1_find_25 ?_
      refine lv_goto (tgt := 32) hx hb dX1_find_28 (by decide) ?_
      have hE : C_find n o S (nI j) = some j := by simp only [C_find, if_pos hd, hjc]
      exact W.aret (v := .ref (ad j)) hx hb hr (Or.inl ⟨_, rfl⟩) (Or.inr ⟨_, rfl⟩) (fun tt ht hW => ⟨(some j : Option Nat).map ad, rfl, by rw [hE], ht⟩) (fun q hq => by cases hq) dX1_find_32
  · rw [if_neg hd]
    refine lv_if_eq (tgt := 31) hx hb dX1_find_14 (by decide) (fun c2 => ?_) (fun c2 => ?_)
    · refine lv_null hx hb dX1_find_31 ?_
      have hE : C_find n o S d = none := by simp only [C_find, if_neg hd]
      exact W.aret (v := .null) hx hb hr (Or.inl ⟨_, rfl⟩) (Or.inl rfl) (fun tt ht hW => ⟨(none : Option Nat).map ad, rfl, by rw [hE], ht⟩) (fun q hq => by cases hq) dX1_find_32
    · exact absurd (by decide) c2

def C_withAncestors_b (n : Nat) (o : Nat → Nat) (S : cSt) (set : Int32) (k1 : Nat) (x2 : Int32) : Int32 :=
  if C_holds n o S set k1 = 0 then x2
  else x2 ||| (S.2.1 2 k1)
def C_withAncestors_it (n : Nat) (o : Nat → Nat) (S : cSt) (set : Int32) : Nat → Int32
  | 0 => set
  | k1 + 1 => C_withAncestors_b n o S set k1 (C_withAncestors_it n o S set k1)
def C_withAncestors (n : Nat) (o : Nat → Nat) (S : cSt) (set : Int32) : Int32 :=
  (C_withAncestors_it n o S set n)
set_option maxHeartbeats 4000000 in
set_option maxRecDepth 100000 in
theorem c_X1_withAncestors (l : Launch) (D : va_G) (cO : ClassId) (h ad : Nat → Nat) (md : Nat → Int32) (n : Nat) (o : Nat → Nat) (ha : (cL h ad n).Nodup) (S : cSt) (hok : cOk n o S) (set : Int32) : mR l yX1_withAncestors wsX1_withAncestors (rmz 3 64) D (cT cO) [.ref (h 0), .int set] (cW cO h ad md n o S) (C_withAncestors n o S set) := by
  refine Met.ofW (cc := cX1_withAncestors) (maxL := 5) (ret := (some .int)) (by decide) rfl ?_
  intro p e s m args below meth c s₁ B hml hv
  obtain ⟨rfl, hP, hK⟩ := hv
  have hx := B.exec
  have hb := B.bytes
  have hr := B.returns
  have hts := atoms_spec (ws := wsX1_withAncestors) B.pre
  have hin : ∀ w ∈ wsX10, w ∈ wsX1_withAncestors := fun w h => List.mem_cons_of_mem _ (List.mem_append_left _ (List.mem_append_left _ (List.mem_append_right _ h)))
  have hin0 : ∀ w ∈ wsX00, w ∈ wsX1_withAncestors := fun w h => List.mem_cons_of_mem _ (List.mem_append_left _ (List.mem_append_right _ h))
  have hown : s.vm.findClass RX1 = some m.cls := findClass_of_methodNamed B.named
  have hlocks := B.notSynchronized
  have hn12 : n ≤ 12 := hok.1
  have hl := lv_entry ([.ref (h 0), .int set]) (n := 5) (Nat.le_of_ble_eq_true rfl)
  rw [lg_entry_eq]
  generalize (lg_sl ([.ref (h 0), .int set]) ++ List.replicate (5 - (lg_sl ([.ref (h 0), .int set])).length) Slot.unset).toArray = ls at hl ⊢
  have hl : lv_has ls 5 [(0, .ref (h 0)), (1, .int set)] := hl
  refine lv_iload_n hx hb dX1_withAncestors_0 rfl (lv_at hl 1 rfl) ?_
  refine lv_istore_n (lv' := [(2, .int set), (0, .ref (h 0)), (1, .int set)]) hx hb dX1_withAncestors_1 rfl hl (by decide) rfl (fun ls hl => ?_)
  refine lv_iconst (v := 0) hx hb dX1_withAncestors_2 (by decide) ?_
  refine lv_istore_n (lv' := [(3, .int 0), (2, .int set), (0, .ref (h 0)), (1, .int set)]) hx hb dX1_withAncestors_3 rfl hl (by decide) rfl (fun ls hl => ?_)
  refine w_loop (σ := Nat) (I := fun k1 H locs ls => k1 ≤ n ∧ H = s.heap ∧ locs = [] ∧ lv_has ls 5 [(0, .ref (h 0)), (1, .int set), (2, .int ((C_withAncestors_it n o S set k1))), (3, .int (nI k1))]) (fun k1 => n - k1) ?_ 0 ⟨Nat.zero_le _, rfl, rfl, lv_sub hl [2, 3, 1, 0] rfl⟩
  intro k1 H locs ls hI ih
  obtain ⟨hk, rfl, rfl, hl⟩ := hI
  refine lv_iload_n hx hb dX1_withAncestors_4 rfl (lv_at hl 3 rfl) ?_
  refine lv_aload_n hx hb dX1_withAncestors_5 rfl (lv_at hl 0 rfl) ?_
  refine c_get (S := S) (v := .ref (h 1)) hx hb hts hin hown hK hP 0 (by decide) (by decide +kernel) rfl rfl dX1_withAncestors_6 ?_
  refine m_callR (As := []) (rest := [.int (nI k1)]) ⟨hx, hb, hml, hown, hts⟩ (c_J_size l D (cT cO) (cW cO h ad md n o S) (h 1) 1 (h 3) (md 1) (nI n) rfl) (cwV 0 hts gX1_withAncestors_Jx4a65c_size_8abf5 rfl rfl rfl (by decide +kernel) ⟨Nat.le_of_ble_eq_true rfl, Nat.le_of_ble_eq_true rfl⟩) hK hP (va_recv hK hP (ci := 0) (q0 := 1) rfl rfl) rfl hl.1 rfl (Nat.le_of_ble_eq_true rfl) dX1_withAncestors_9 ⟨Nat.zero_le _, Nat.zero_le _⟩ ?_
  refine lv_icmp_ge (tgt := 51) hx hb dX1_withAncestors_12 (by decide) (fun c2 => ?_) (fun c2 => ?_)
  · have hkn : k1 = n := Nat.le_antisymm hk ((nI_leI (by omega) (by omega)).mp c2)
    rw [hkn] at hl
    refine lv_iload_n hx hb dX1_withAncestors_51 rfl (lv_at hl 2 rfl) ?_
    have hE : C_withAncestors n o S set = (C_withAncestors_it n o S set n) := by first | (simp only [C_withAncestors]; done) | (simp only [C_withAncestors]; rfl)
    exact W.iret (v := (C_withAncestors_it n o S set n)) hx hb hr (fun tt ht hW => ⟨(C_withAncestors_it n o S set n), rfl, hE.symm, ht⟩) (fun q hq => by cases hq) dX1_withAncestors_52
  · have hlt : k1 < n := Nat.lt_of_not_le (fun z => c2 ((nI_leI (by omega) (by omega)).mpr z))
    refine lv_aload_n hx hb dX1_withAncestors_15 rfl (lv_at hl 0 rfl) ?_
    refine c_get (S := S) (v := .ref (h 1)) hx hb hts hin hown hK hP 0 (by decide) (by decide +kernel) rfl rfl dX1_withAncestors_16 ?_
    refine lv_iload_n hx hb dX1_withAncestors_19 rfl (lv_at hl 3 rfl) ?_
    refine m_callQr (As := [.int (nI k1)]) (rest := []) ⟨hx, hb, hml, hown, hts⟩ (c_J_get1 l D cO h ad md n o S k1 hn12 (by omega)) (cwV 1 hts gX1_withAncestors_Jx4a65c_get_915e3 rfl rfl rfl (by decide +kernel) ⟨Nat.le_of_ble_eq_true rfl, Nat.le_of_ble_eq_true rfl⟩) hK hP (va_recv hK hP (ci := 0) (q0 := 1) rfl rfl) rfl hl.1 rfl (Nat.le_of_ble_eq_true rfl) dX1_withAncestors_20 ⟨Nat.zero_le _, Nat.zero_le _⟩ ?_
    refine c_cast hx hb hts hown hK hP (i := k1) (by omega) (by decide +kernel) dX1_withAncestors_23 ?_
    refine lv_astore (lv' := [(4, .ref (ad k1)), (0, .ref (h 0)), (1, .int set), (2, .int ((C_withAncestors_it n o S set k1))), (3, .int (nI k1))]) hx hb dX1_withAncestors_26 hl (by decide) rfl (fun ls hl => ?_)
    refine lv_iload_n hx hb dX1_withAncestors_28 rfl (lv_at hl 2 rfl) ?_
    refine lv_aload hx hb dX1_withAncestors_29 (lv_at hl 0 rfl) ?_
    refine m_callRS (As := [.int set, .ref (ad k1)]) (rest := []) ⟨hx, hb, hml, hown, hts⟩ (c_X1_holds l D cO h ad md n o ha S hok set k1 (by omega)) (va_cwS 2 hts gX1_withAncestors_X1_holds rfl rfl rfl (by decide +kernel) ⟨Nat.le_of_ble_eq_true rfl, Nat.le_of_ble_eq_true rfl⟩) hK hP rfl hl.1 rfl (Nat.le_of_ble_eq_true rfl) dX1_withAncestors_31 ⟨Nat.zero_le _, Nat.zero_le _⟩ ?_
    refine lv_if_eq (tgt := 45) hx hb dX1_withAncestors_34 (by decide) (fun c3 => ?_) (fun c3 => ?_)
    · refine lv_iinc (v := nI (k1 + 1)) (lv' := [(3, .int (nI (k1 + 1))), (4, .ref (ad k1)), (0, .ref (h 0)), (1, .int set), (2, .int ((C_withAncestors_it n o S set k1)))]) hx hb dX1_withAncestors_45 hl (k := 4) rfl (nI_1 _) (by decide) rfl (fun ls hl => ?_)
      refine lv_goto (tgt := 4) hx hb dX1_withAncestors_48 (by decide) ?_
      have hE : C_withAncestors_it n o S set (k1 + 1) = (C_withAncestors_it n o S set k1) := by show C_withAncestors_b n o S set k1 (C_withAncestors_it n o S set k1) = _; first | (simp only [C_withAncestors_b, if_pos c3]; done) | (simp only [C_withAncestors_b, if_pos c3]; rfl)
      exact ih (k1 + 1) _ _ ls (by omega) ⟨by omega, rfl, rfl, by rw [hE]; exact lv_sub hl [2, 3, 4, 0] rfl⟩
    · refine lv_iload_n hx hb dX1_withAncestors_37 rfl (lv_at hl 3 rfl) ?_
      refine lv_aload hx hb dX1_withAncestors_38 (lv_at hl 0 rfl) ?_
      refine c_dget (S := S) (v := .int (S.2.1 2 k1)) (i := k1) hx hb hts hin0 hown hK hP (by omega) 2 (by decide) (by decide +kernel) rfl rfl dX1_withAncestors_40 ?_
      refine lv_ior hx hb dX1_withAncestors_43 ?_
      refine lv_istore_n (lv' := [(2, .int ((C_withAncestors_it n o S set k1) ||| (S.2.1 2 k1))), (4, .ref (ad k1)), (0, .ref (h 0)), (1, .int set), (3, .int (nI k1))]) hx hb dX1_withAncestors_44 rfl hl (by decide) rfl (fun ls hl => ?_)
      refine lv_iinc (v := nI (k1 + 1)) (lv' := [(3, .int (nI (k1 + 1))), (2, .int ((C_withAncestors_it n o S set k1) ||| (S.2.1 2 k1))), (4, .ref (ad k1)), (0, .ref (h 0)), (1, .int set)]) hx hb dX1_withAncestors_45 hl (k := 4) rfl (nI_1 _) (by decide) rfl (fun ls hl => ?_)
      refine lv_goto (tgt := 4) hx hb dX1_withAncestors_48 (by decide) ?_
      have hE : C_withAncestors_it n o S set (k1 + 1) = (C_withAncestors_it n o S set k1) ||| (S.2.1 2 k1) := by show C_withAncestors_b n o S set k1 (C_withAncestors_it n o S set k1) = _; first | (simp only [C_withAncestors_b, if_neg c3]; done) | (simp only [C_withAncestors_b, if_neg c3]; rfl)
      exact ih (k1 + 1) _ _ ls (by omega) ⟨by omega, rfl, rfl, by rw [hE]; exact lv_sub hl [3, 4, 1, 0] rfl⟩

def C_depthUnder_b (n : Nat) (o : Nat → Nat) (S : cSt) (par : Int32) (k1 : Nat) (x2 : Int32) : Int32 :=
  if C_holds n o S par k1 = 0 then x2
  else if x2 < (S.2.1 3 k1) + 1 then (S.2.1 3 k1) + 1 else x2
def C_depthUnder_it (n : Nat) (o : Nat → Nat) (S : cSt) (par : Int32) : Nat → Int32
  | 0 => 0
  | k1 + 1 => C_depthUnder_b n o S par k1 (C_depthUnder_it n o S par k1)
def C_depthUnder (n : Nat) (o : Nat → Nat) (S : cSt) (par : Int32) : Int32 :=
  (C_depthUnder_it n o S par n)
set_option maxHeartbeats 4000000 in
set_option maxRecDepth 100000 in
theorem c_X1_depthUnder (l : Launch) (D : va_G) (cO : ClassId) (h ad : Nat → Nat) (md : Nat → Int32) (n : Nat) (o : Nat → Nat) (ha : (cL h ad n).Nodup) (S : cSt) (hok : cOk n o S) (par : Int32) : mR l yX1_depthUnder wsX1_depthUnder (rmz 3 64) D (cT cO) [.ref (h 0), .int par] (cW cO h ad md n o S) (C_depthUnder n o S par) := by
  refine Met.ofW (cc := cX1_depthUnder) (maxL := 5) (ret := (some .int)) (by decide) rfl ?_
  intro p e s m args below meth c s₁ B hml hv
  obtain ⟨rfl, hP, hK⟩ := hv
  have hx := B.exec
  have hb := B.bytes
  have hr := B.returns
  have hts := atoms_spec (ws := wsX1_depthUnder) B.pre
  have hin : ∀ w ∈ wsX10, w ∈ wsX1_depthUnder := fun w h => List.mem_cons_of_mem _ (List.mem_append_left _ (List.mem_append_left _ (List.mem_append_right _ h)))
  have hin0 : ∀ w ∈ wsX00, w ∈ wsX1_depthUnder := fun w h => List.mem_cons_of_mem _ (List.mem_append_left _ (List.mem_append_right _ h))
  have hown : s.vm.findClass RX1 = some m.cls := findClass_of_methodNamed B.named
  have hlocks := B.notSynchronized
  have hn12 : n ≤ 12 := hok.1
  have hl := lv_entry ([.ref (h 0), .int par]) (n := 5) (Nat.le_of_ble_eq_true rfl)
  rw [lg_entry_eq]
  generalize (lg_sl ([.ref (h 0), .int par]) ++ List.replicate (5 - (lg_sl ([.ref (h 0), .int par])).length) Slot.unset).toArray = ls at hl ⊢
  have hl : lv_has ls 5 [(0, .ref (h 0)), (1, .int par)] := hl
  refine lv_iconst (v := 0) hx hb dX1_depthUnder_0 (by decide) ?_
  refine lv_istore_n (lv' := [(2, .int 0), (0, .ref (h 0)), (1, .int par)]) hx hb dX1_depthUnder_1 rfl hl (by decide) rfl (fun ls hl => ?_)
  refine lv_iconst (v := 0) hx hb dX1_depthUnder_2 (by decide) ?_
  refine lv_istore_n (lv' := [(3, .int 0), (2, .int 0), (0, .ref (h 0)), (1, .int par)]) hx hb dX1_depthUnder_3 rfl hl (by decide) rfl (fun ls hl => ?_)
  refine w_loop (σ := Nat) (I := fun k1 H locs ls => k1 ≤ n ∧ H = s.heap ∧ locs = [] ∧ lv_has ls 5 [(0, .ref (h 0)), (1, .int par), (2, .int ((C_depthUnder_it n o S par k1))), (3, .int (nI k1))]) (fun k1 => n - k1) ?_ 0 ⟨Nat.zero_le _, rfl, rfl, lv_sub hl [2, 3, 1, 0] rfl⟩
  intro k1 H locs ls hI ih
  obtain ⟨hk, rfl, rfl, hl⟩ := hI
  refine lv_iload_n hx hb dX1_depthUnder_4 rfl (lv_at hl 3 rfl) ?_
  refine lv_aload_n hx hb dX1_depthUnder_5 rfl (lv_at hl 0 rfl) ?_
  refine c_get (S := S) (v := .ref (h 1)) hx hb hts hin hown hK hP 0 (by decide) (by decide +kernel) rfl rfl dX1_depthUnder_6 ?_
  refine m_callR (As := []) (rest := [.int (nI k1)]) ⟨hx, hb, hml, hown, hts⟩ (c_J_size l D (cT cO) (cW cO h ad md n o S) (h 1) 1 (h 3) (md 1) (nI n) rfl) (cwV 0 hts gX1_depthUnder_Jx4a65c_size_8abf5 rfl rfl rfl (by decide +kernel) ⟨Nat.le_of_ble_eq_true rfl, Nat.le_of_ble_eq_true rfl⟩) hK hP (va_recv hK hP (ci := 0) (q0 := 1) rfl rfl) rfl hl.1 rfl (Nat.le_of_ble_eq_true rfl) dX1_depthUnder_9 ⟨Nat.zero_le _, Nat.zero_le _⟩ ?_
  refine lv_icmp_ge (tgt := 55) hx hb dX1_depthUnder_12 (by decide) (fun c2 => ?_) (fun c2 => ?_)
  · have hkn : k1 = n := Nat.le_antisymm hk ((nI_leI (by omega) (by omega)).mp c2)
    rw [hkn] at hl
    refine lv_iload_n hx hb dX1_depthUnder_55 rfl (lv_at hl 2 rfl) ?_
    have hE : C_depthUnder n o S par = (C_depthUnder_it n o S par n) := by first | (simp only [C_depthUnder]; done) | (simp only [C_depthUnder]; rfl)
    exact W.iret (v := (C_depthUnder_it n o S par n)) hx hb hr (fun tt ht hW => ⟨(C_depthUnder_it n o S par n), rfl, hE.symm, ht⟩) (fun q hq => by cases hq) dX1_depthUnder_56
  · have hlt : k1 < n := Nat.lt_of_not_le (fun z => c2 ((nI_leI (by omega) (by omega)).mpr z))
    refine lv_aload_n hx hb dX1_depthUnder_15 rfl (lv_at hl 0 rfl) ?_
    refine c_get (S := S) (v := .ref (h 1)) hx hb hts hin hown hK hP 0 (by decide) (by decide +kernel) rfl rfl dX1_depthUnder_16 ?_
    refine lv_iload_n hx hb dX1_depthUnder_19 rfl (lv_at hl 3 rfl) ?_
    refine m_callQr (As := [.int (nI k1)]) (rest := []) ⟨hx, hb, hml, hown, hts⟩ (c_J_get1 l D cO h ad md n o S k1 hn12 (by omega)) (cwV 1 hts gX1_depthUnder_Jx4a65c_get_915e3 rfl rfl rfl (by decide +kernel) ⟨Nat.le_of_ble_eq_true rfl, Nat.le_of_ble_eq_true rfl⟩) hK hP (va_recv hK hP (ci := 0) (q0 := 1) rfl rfl) rfl hl.1 rfl (Nat.le_of_ble_eq_true rfl) dX1_depthUnder_20 ⟨Nat.zero_le _, Nat.zero_le _⟩ ?_
    refine c_cast hx hb hts hown hK hP (i := k1) (by omega) (by decide +kernel) dX1_depthUnder_23 ?_
    refine lv_astore (lv' := [(4, .ref (ad k1)), (0, .ref (h 0)), (1, .int par), (2, .int ((C_depthUnder_it n o S par k1))), (3, .int (nI k1))]) hx hb dX1_depthUnder_26 hl (by decide) rfl (fun ls hl => ?_)
    refine lv_iload_n hx hb dX1_depthUnder_28 rfl (lv_at hl 2 rfl) ?_
    refine lv_aload hx hb dX1_depthUnder_29 (lv_at hl 0 rfl) ?_
    refine m_callRS (As := [.int par, .ref (ad k1)]) (rest := []) ⟨hx, hb, hml, hown, hts⟩ (c_X1_holds l D cO h ad md n o ha S hok par k1 (by omega)) (va_cwS 2 hts gX1_depthUnder_X1_holds rfl rfl rfl (by decide +kernel) ⟨Nat.le_of_ble_eq_true rfl, Nat.le_of_ble_eq_true rfl⟩) hK hP rfl hl.1 rfl (Nat.le_of_ble_eq_true rfl) dX1_depthUnder_31 ⟨Nat.zero_le _, Nat.zero_le _⟩ ?_
    refine lv_if_eq (tgt := 49) hx hb dX1_depthUnder_34 (by decide) (fun c3 => ?_) (fun c3 => ?_)
    · refine lv_iinc (v := nI (k1 + 1)) (lv' := [(3, .int (nI (k1 + 1))), (4, .ref (ad k1)), (0, .ref (h 0)), (1, .int par), (2, .int ((C_depthUnder_it n o S par k1)))]) hx hb dX1_depthUnder_49 hl (k := 4) rfl (nI_1 _) (by decide) rfl (fun ls hl => ?_)
      refine lv_goto (tgt := 4) hx hb dX1_depthUnder_52 (by decide) ?_
      have hE : C_depthUnder_it n o S par (k1 + 1) = (C_depthUnder_it n o S par k1) := by show C_depthUnder_b n o S par k1 (C_depthUnder_it n o S par k1) = _; first | (simp only [C_depthUnder_b, if_pos c3]; done) | (simp only [C_depthUnder_b, if_pos c3]; rfl)
      exact ih (k1 + 1) _ _ ls (by omega) ⟨by omega, rfl, rfl, by rw [hE]; exact lv_sub hl [2, 3, 4, 0] rfl⟩
    · refine lv_iload_n hx hb dX1_depthUnder_37 rfl (lv_at hl 3 rfl) ?_
      refine lv_aload hx hb dX1_depthUnder_38 (lv_at hl 0 rfl) ?_
      refine c_dget (S := S) (v := .int (S.2.1 3 k1)) (i := k1) hx hb hts hin0 hown hK hP (by omega) 3 (by decide) (by decide +kernel) rfl rfl dX1_depthUnder_40 ?_
      refine lv_iconst (v := 1) hx hb dX1_depthUnder_43 (by decide) ?_
      refine lv_iadd hx hb dX1_depthUnder_44 ?_
      refine va_mmax hx hb (hml.trans hl.1.symm) hown (hts (.methodLink RX1 152 Lib.Math.max.name) (by decide +kernel)) (hts (.static Lib.Math.max.name) (by decide +kernel)) (hts (.initialized "java/lang/Math") (by decide +kernel)) (hts (.code Lib.Math.max.name Lib.Math.max.code 2 (some .int)) (by decide +kernel)) (Nat.le_of_ble_eq_true rfl) (Nat.le_of_ble_eq_true rfl) (Nat.zero_le _) (Nat.zero_le _) dX1_depthUnder_45 ?_
      refine lv_istore_n (lv' := [(2, .int (if (C_depthUnder_it n o S par k1) < (S.2.1 3 k1) + 1 then (S.2.1 3 k1) + 1 else (C_depthUnder_it n o S par k1))), (4, .ref (ad k1)), (0, .ref (h 0)), (1, .int par), (3, .int (nI k1))]) hx hb dX1_depthUnder_48 rfl hl (by decide) rfl (fun ls hl => ?_)
      refine lv_iinc (v := nI (k1 + 1)) (lv' := [(3, .int (nI (k1 + 1))), (2, .int (if (C_depthUnder_it n o S par k1) < (S.2.1 3 k1) + 1 then (S.2.1 3 k1) + 1 else (C_depthUnder_it n o S par k1))), (4, .ref (ad k1)), (0, .ref (h 0)), (1, .int par)]) hx hb dX1_depthUnder_49 hl (k := 4) rfl (nI_1 _) (by decide) rfl (fun ls hl => ?_)
      refine lv_goto (tgt := 4) hx hb dX1_depthUnder_52 (by decide) ?_
      have hE : C_depthUnder_it n o S par (k1 + 1) = if (C_depthUnder_it n o S par k1) < (S.2.1 3 k1) + 1 then (S.2.1 3 k1) + 1 else (C_depthUnder_it n o S par k1) := by show C_depthUnder_b n o S par k1 (C_depthUnder_it n o S par k1) = _; first | (simp only [C_depthUnder_b, if_neg c3]; done) | (simp only [C_depthUnder_b, if_neg c3]; rfl)
      exact ih (k1 + 1) _ _ ls (by omega) ⟨by omega, rfl, rfl, by rw [hE]; exact lv_sub hl [3, 4, 1, 0] rfl⟩

def C_placeFor_b (n : Nat) (o : Nat → Nat) (S : cSt) (dep : Int32) (k1 : Nat) (x2 : Int32) : Int32 :=
  if dep < S.2.1 3 (o k1) then x2
  else (nI k1) + 1
def C_placeFor_it (n : Nat) (o : Nat → Nat) (S : cSt) (dep : Int32) : Nat → Int32
  | 0 => 0
  | k1 + 1 => C_placeFor_b n o S dep k1 (C_placeFor_it n o S dep k1)
def C_placeFor (n : Nat) (o : Nat → Nat) (S : cSt) (dep : Int32) : Int32 :=
  (C_placeFor_it n o S dep n)
set_option maxHeartbeats 4000000 in
set_option maxRecDepth 100000 in
theorem c_X1_placeFor (l : Launch) (D : va_G) (cO : ClassId) (h ad : Nat → Nat) (md : Nat → Int32) (n : Nat) (o : Nat → Nat) (ha : (cL h ad n).Nodup) (S : cSt) (hok : cOk n o S) (dep : Int32) : mR l yX1_placeFor wsX1_placeFor (rmz 3 64) D (cT cO) [.ref (h 0), .int dep] (cW cO h ad md n o S) (C_placeFor n o S dep) := by
  refine Met.ofW (cc := cX1_placeFor) (maxL := 4) (ret := (some .int)) (by decide) rfl ?_
  intro p e s m args below meth c s₁ B hml hv
  obtain ⟨rfl, hP, hK⟩ := hv
  have hx := B.exec
  have hb := B.bytes
  have hr := B.returns
  have hts := atoms_spec (ws := wsX1_placeFor) B.pre
  have hin : ∀ w ∈ wsX10, w ∈ wsX1_placeFor := fun w h => List.mem_cons_of_mem _ (List.mem_append_left _ (List.mem_append_left _ (List.mem_append_right _ h)))
  have hin0 : ∀ w ∈ wsX00, w ∈ wsX1_placeFor := fun w h => List.mem_cons_of_mem _ (List.mem_append_left _ (List.mem_append_right _ h))
  have hown : s.vm.findClass RX1 = some m.cls := findClass_of_methodNamed B.named
  have hlocks := B.notSynchronized
  have hn12 : n ≤ 12 := hok.1
  have hl := lv_entry ([.ref (h 0), .int dep]) (n := 4) (Nat.le_of_ble_eq_true rfl)
  rw [lg_entry_eq]
  generalize (lg_sl ([.ref (h 0), .int dep]) ++ List.replicate (4 - (lg_sl ([.ref (h 0), .int dep])).length) Slot.unset).toArray = ls at hl ⊢
  have hl : lv_has ls 4 [(0, .ref (h 0)), (1, .int dep)] := hl
  refine lv_iconst (v := 0) hx hb dX1_placeFor_0 (by decide) ?_
  refine lv_istore_n (lv' := [(2, .int 0), (0, .ref (h 0)), (1, .int dep)]) hx hb dX1_placeFor_1 rfl hl (by decide) rfl (fun ls hl => ?_)
  refine lv_iconst (v := 0) hx hb dX1_placeFor_2 (by decide) ?_
  refine lv_istore_n (lv' := [(3, .int 0), (2, .int 0), (0, .ref (h 0)), (1, .int dep)]) hx hb dX1_placeFor_3 rfl hl (by decide) rfl (fun ls hl => ?_)
  refine w_loop (σ := Nat) (I := fun k1 H locs ls => k1 ≤ n ∧ H = s.heap ∧ locs = [] ∧ lv_has ls 4 [(0, .ref (h 0)), (1, .int dep), (2, .int ((C_placeFor_it n o S dep k1))), (3, .int (nI k1))]) (fun k1 => n - k1) ?_ 0 ⟨Nat.zero_le _, rfl, rfl, lv_sub hl [2, 3, 1, 0] rfl⟩
  intro k1 H locs ls hI ih
  obtain ⟨hk, rfl, rfl, hl⟩ := hI
  refine lv_iload_n hx hb dX1_placeFor_4 rfl (lv_at hl 3 rfl) ?_
  refine lv_aload_n hx hb dX1_placeFor_5 rfl (lv_at hl 0 rfl) ?_
  refine c_get (S := S) (v := .ref (h 2)) hx hb hts hin hown hK hP 1 (by decide) (by decide +kernel) rfl rfl dX1_placeFor_6 ?_
  refine m_callR (As := []) (rest := [.int (nI k1)]) ⟨hx, hb, hml, hown, hts⟩ (c_J_size l D (cT cO) (cW cO h ad md n o S) (h 2) 2 (h 4) (md 2) (nI n) rfl) (cwV 0 hts gX1_placeFor_Jx4a65c_size_8abf5 rfl rfl rfl (by decide +kernel) ⟨Nat.le_of_ble_eq_true rfl, Nat.le_of_ble_eq_true rfl⟩) hK hP (va_recv hK hP (ci := 0) (q0 := 2) rfl rfl) rfl hl.1 rfl (Nat.le_of_ble_eq_true rfl) dX1_placeFor_9 ⟨Nat.zero_le _, Nat.zero_le _⟩ ?_
  refine lv_icmp_ge (tgt := 43) hx hb dX1_placeFor_12 (by decide) (fun c2 => ?_) (fun c2 => ?_)
  · have hkn : k1 = n := Nat.le_antisymm hk ((nI_leI (by omega) (by omega)).mp c2)
    rw [hkn] at hl
    refine lv_iload_n hx hb dX1_placeFor_43 rfl (lv_at hl 2 rfl) ?_
    have hE : C_placeFor n o S dep = (C_placeFor_it n o S dep n) := by first | (simp only [C_placeFor]; done) | (simp only [C_placeFor]; rfl)
    exact W.iret (v := (C_placeFor_it n o S dep n)) hx hb hr (fun tt ht hW => ⟨(C_placeFor_it n o S dep n), rfl, hE.symm, ht⟩) (fun q hq => by cases hq) dX1_placeFor_44
  · have hlt : k1 < n := Nat.lt_of_not_le (fun z => c2 ((nI_leI (by omega) (by omega)).mpr z))
    refine lv_aload_n hx hb dX1_placeFor_15 rfl (lv_at hl 0 rfl) ?_
    refine c_get (S := S) (v := .ref (h 2)) hx hb hts hin hown hK hP 1 (by decide) (by decide +kernel) rfl rfl dX1_placeFor_16 ?_
    refine lv_iload_n hx hb dX1_placeFor_19 rfl (lv_at hl 3 rfl) ?_
    have hoi : o k1 < n := hok.2.1 k1 (by omega)
    refine m_callQr (As := [.int (nI k1)]) (rest := []) ⟨hx, hb, hml, hown, hts⟩ (c_J_get2 l D cO h ad md n o S k1 hn12 (by omega)) (cwV 1 hts gX1_placeFor_Jx4a65c_get_915e3 rfl rfl rfl (by decide +kernel) ⟨Nat.le_of_ble_eq_true rfl, Nat.le_of_ble_eq_true rfl⟩) hK hP (va_recv hK hP (ci := 0) (q0 := 2) rfl rfl) rfl hl.1 rfl (Nat.le_of_ble_eq_true rfl) dX1_placeFor_20 ⟨Nat.zero_le _, Nat.zero_le _⟩ ?_
    refine c_cast hx hb hts hown hK hP (i := (o k1)) (by omega) (by decide +kernel) dX1_placeFor_23 ?_
    refine c_dget (S := S) (v := .int (S.2.1 3 (o k1))) (i := (o k1)) hx hb hts hin0 hown hK hP (by omega) 3 (by decide) (by decide +kernel) rfl rfl dX1_placeFor_26 ?_
    refine lv_iload_n hx hb dX1_placeFor_29 rfl (lv_at hl 1 rfl) ?_
    refine lv_icmp_gt (tgt := 37) hx hb dX1_placeFor_30 (by decide) (fun c3 => ?_) (fun c3 => ?_)
    · refine lv_iinc (v := nI (k1 + 1)) (lv' := [(3, .int (nI (k1 + 1))), (0, .ref (h 0)), (1, .int dep), (2, .int ((C_placeFor_it n o S dep k1)))]) hx hb dX1_placeFor_37 hl (k := 3) rfl (nI_1 _) (by decide) rfl (fun ls hl => ?_)
      refine lv_goto (tgt := 4) hx hb dX1_placeFor_40 (by decide) ?_
      have hE : C_placeFor_it n o S dep (k1 + 1) = (C_placeFor_it n o S dep k1) := by show C_placeFor_b n o S dep k1 (C_placeFor_it n o S dep k1) = _; first | (simp only [C_placeFor_b, if_pos c3]; done) | (simp only [C_placeFor_b, if_pos c3]; rfl)
      exact ih (k1 + 1) _ _ ls (by omega) ⟨by omega, rfl, rfl, by rw [hE]; exact lv_sub hl [1, 2, 3, 0] rfl⟩
    · refine lv_iload_n hx hb dX1_placeFor_33 rfl (lv_at hl 3 rfl) ?_
      refine lv_iconst (v := 1) hx hb dX1_placeFor_34 (by decide) ?_
      refine lv_iadd hx hb dX1_placeFor_35 ?_
      refine lv_istore_n (lv' := [(2, .int ((nI k1) + 1)), (0, .ref (h 0)), (1, .int dep), (3, .int (nI k1))]) hx hb dX1_placeFor_36 rfl hl (by decide) rfl (fun ls hl => ?_)
      refine lv_iinc (v := nI (k1 + 1)) (lv' := [(3, .int (nI (k1 + 1))), (2, .int ((nI k1) + 1)), (0, .ref (h 0)), (1, .int dep)]) hx hb dX1_placeFor_37 hl (k := 3) rfl (nI_1 _) (by decide) rfl (fun ls hl => ?_)
      refine lv_goto (tgt := 4) hx hb dX1_placeFor_40 (by decide) ?_
      have hE : C_placeFor_it n o S dep (k1 + 1) = (nI k1) + 1 := by show C_placeFor_b n o S dep k1 (C_placeFor_it n o S dep k1) = _; first | (simp only [C_placeFor_b, if_neg c3]; done) | (simp only [C_placeFor_b, if_neg c3]; rfl)
      exact ih (k1 + 1) _ _ ls (by omega) ⟨by omega, rfl, rfl, by rw [hE]; exact lv_sub hl [2, 3, 1, 0] rfl⟩

def C_parentsOn_b (n : Nat) (o : Nat → Nat) (S : cSt) (k1 : Nat) (x1 : Int32) : Int32 :=
  if S.2.1 7 k1 = 2 then x1 ||| (S.2.1 1 k1)
  else x1
def C_parentsOn_it (n : Nat) (o : Nat → Nat) (S : cSt) : Nat → Int32
  | 0 => 0
  | k1 + 1 => C_parentsOn_b n o S k1 (C_parentsOn_it n o S k1)
def C_parentsOfThoseOn (n : Nat) (o : Nat → Nat) (S : cSt) : Int32 :=
  (C_parentsOn_it n o S n)
set_option maxHeartbeats 4000000 in
set_option maxRecDepth 100000 in
theorem c_X1_parentsOfThoseOn (l : Launch) (D : va_G) (cO : ClassId) (h ad : Nat → Nat) (md : Nat → Int32) (n : Nat) (o : Nat → Nat) (ha : (cL h ad n).Nodup) (S : cSt) (hok : cOk n o S) : mR l yX1_parentsOfThoseOn wsX1_parentsOfThoseOn (rmz 3 64) D (cT cO) [.ref (h 0)] (cW cO h ad md n o S) (C_parentsOfThoseOn n o S) := by
  refine Met.ofW (cc := cX1_parentsOfThoseOn) (maxL := 4) (ret := (some .int)) (by decide) rfl ?_
  intro p e s m args below meth c s₁ B hml hv
  obtain ⟨rfl, hP, hK⟩ := hv
  have hx := B.exec
  have hb := B.bytes
  have hr := B.returns
  have hts := atoms_spec (ws := wsX1_parentsOfThoseOn) B.pre
  have hin : ∀ w ∈ wsX10, w ∈ wsX1_parentsOfThoseOn := fun w h => List.mem_cons_of_mem _ (List.mem_append_left _ (List.mem_append_left _ (List.mem_append_right _ h)))
  have hin0 : ∀ w ∈ wsX00, w ∈ wsX1_parentsOfThoseOn := fun w h => List.mem_cons_of_mem _ (List.mem_append_left _ (List.mem_append_right _ h))
  have hown : s.vm.findClass RX1 = some m.cls := findClass_of_methodNamed B.named
  have hlocks := B.notSynchronized
  have hn12 : n ≤ 12 := hok.1
  have hl := lv_entry ([.ref (h 0)]) (n := 4) (Nat.le_of_ble_eq_true rfl)
  rw [lg_entry_eq]
  generalize (lg_sl ([.ref (h 0)]) ++ List.replicate (4 - (lg_sl ([.ref (h 0)])).length) Slot.unset).toArray = ls at hl ⊢
  have hl : lv_has ls 4 [(0, .ref (h 0))] := hl
  refine lv_iconst (v := 0) hx hb dX1_parentsOfThoseOn_0 (by decide) ?_
  refine lv_istore_n (lv' := [(1, .int 0), (0, .ref (h 0))]) hx hb dX1_parentsOfThoseOn_1 rfl hl (by decide) rfl (fun ls hl => ?_)
  refine lv_iconst (v := 0) hx hb dX1_parentsOfThoseOn_2 (by decide) ?_
  refine lv_istore_n (lv' := [(2, .int 0), (1, .int 0), (0, .ref (h 0))]) hx hb dX1_parentsOfThoseOn_3 rfl hl (by decide) rfl (fun ls hl => ?_)
  refine w_loop (σ := Nat) (I := fun k1 H locs ls => k1 ≤ n ∧ H = s.heap ∧ locs = [] ∧ lv_has ls 4 [(0, .ref (h 0)), (1, .int ((C_parentsOn_it n o S k1))), (2, .int (nI k1))]) (fun k1 => n - k1) ?_ 0 ⟨Nat.zero_le _, rfl, rfl, lv_sub hl [2, 1, 0] rfl⟩
  intro k1 H locs ls hI ih
  obtain ⟨hk, rfl, rfl, hl⟩ := hI
  refine lv_iload_n hx hb dX1_parentsOfThoseOn_4 rfl (lv_at hl 2 rfl) ?_
  refine lv_aload_n hx hb dX1_parentsOfThoseOn_5 rfl (lv_at hl 0 rfl) ?_
  refine c_get (S := S) (v := .ref (h 1)) hx hb hts hin hown hK hP 0 (by decide) (by decide +kernel) rfl rfl dX1_parentsOfThoseOn_6 ?_
  refine m_callR (As := []) (rest := [.int (nI k1)]) ⟨hx, hb, hml, hown, hts⟩ (c_J_size l D (cT cO) (cW cO h ad md n o S) (h 1) 1 (h 3) (md 1) (nI n) rfl) (cwV 0 hts gX1_parentsOfThoseOn_Jx4a65c_size_8abf5 rfl rfl rfl (by decide +kernel) ⟨Nat.le_of_ble_eq_true rfl, Nat.le_of_ble_eq_true rfl⟩) hK hP (va_recv hK hP (ci := 0) (q0 := 1) rfl rfl) rfl hl.1 rfl (Nat.le_of_ble_eq_true rfl) dX1_parentsOfThoseOn_9 ⟨Nat.zero_le _, Nat.zero_le _⟩ ?_
  refine lv_icmp_ge (tgt := 48) hx hb dX1_parentsOfThoseOn_12 (by decide) (fun c2 => ?_) (fun c2 => ?_)
  · have hkn : k1 = n := Nat.le_antisymm hk ((nI_leI (by omega) (by omega)).mp c2)
    rw [hkn] at hl
    refine lv_iload_n hx hb dX1_parentsOfThoseOn_48 rfl (lv_at hl 1 rfl) ?_
    have hE : C_parentsOfThoseOn n o S = (C_parentsOn_it n o S n) := by first | (simp only [C_parentsOfThoseOn]; done) | (simp only [C_parentsOfThoseOn]; rfl)
    exact W.iret (v := (C_parentsOn_it n o S n)) hx hb hr (fun tt ht hW => ⟨(C_parentsOn_it n o S n), rfl, hE.symm, ht⟩) (fun q hq => by cases hq) dX1_parentsOfThoseOn_49
  · have hlt : k1 < n := Nat.lt_of_not_le (fun z => c2 ((nI_leI (by omega) (by omega)).mpr z))
    refine lv_aload_n hx hb dX1_parentsOfThoseOn_15 rfl (lv_at hl 0 rfl) ?_
    refine c_get (S := S) (v := .ref (h 1)) hx hb hts hin hown hK hP 0 (by decide) (by decide +kernel) rfl rfl dX1_parentsOfThoseOn_16 ?_
    refine lv_iload_n hx hb dX1_parentsOfThoseOn_19 rfl (lv_at hl 2 rfl) ?_
    refine m_callQr (As := [.int (nI k1)]) (rest := []) ⟨hx, hb, hml, hown, hts⟩ (c_J_get1 l D cO h ad md n o S k1 hn12 (by omega)) (cwV 1 hts gX1_parentsOfThoseOn_Jx4a65c_get_915e3 rfl rfl rfl (by decide +kernel) ⟨Nat.le_of_ble_eq_true rfl, Nat.le_of_ble_eq_true rfl⟩) hK hP (va_recv hK hP (ci := 0) (q0 := 1) rfl rfl) rfl hl.1 rfl (Nat.le_of_ble_eq_true rfl) dX1_parentsOfThoseOn_20 ⟨Nat.zero_le _, Nat.zero_le _⟩ ?_
    refine c_cast hx hb hts hown hK hP (i := k1) (by omega) (by decide +kernel) dX1_parentsOfThoseOn_23 ?_
    refine lv_astore_n (lv' := [(3, .ref (ad k1)), (0, .ref (h 0)), (1, .int ((C_parentsOn_it n o S k1))), (2, .int (nI k1))]) hx hb dX1_parentsOfThoseOn_26 rfl hl (by decide) rfl (fun ls hl => ?_)
    refine lv_aload_n hx hb dX1_parentsOfThoseOn_27 rfl (lv_at hl 0 rfl) ?_
    refine c_dget (S := S) (v := .int (S.2.1 7 k1)) (i := k1) hx hb hts hin0 hown hK hP (by omega) 7 (by decide) (by decide +kernel) rfl rfl dX1_parentsOfThoseOn_28 ?_
    refine lv_iconst (v := 2) hx hb dX1_parentsOfThoseOn_31 (by decide) ?_
    refine lv_icmp_ne (tgt := 42) hx hb dX1_parentsOfThoseOn_32 (by decide) (fun c3 => ?_) (fun c3 => ?_)
    · refine lv_iinc (v := nI (k1 + 1)) (lv' := [(2, .int (nI (k1 + 1))), (3, .ref (ad k1)), (0, .ref (h 0)), (1, .int ((C_parentsOn_it n o S k1)))]) hx hb dX1_parentsOfThoseOn_42 hl (k := 3) rfl (nI_1 _) (by decide) rfl (fun ls hl => ?_)
      refine lv_goto (tgt := 4) hx hb dX1_parentsOfThoseOn_45 (by decide) ?_
      have hE : C_parentsOn_it n o S (k1 + 1) = (C_parentsOn_it n o S k1) := by show C_parentsOn_b n o S k1 (C_parentsOn_it n o S k1) = _; first | (simp only [C_parentsOn_b, if_neg c3]; done) | (simp only [C_parentsOn_b, if_neg c3]; rfl)
      exact ih (k1 + 1) _ _ ls (by omega) ⟨by omega, rfl, rfl, by rw [hE]; exact lv_sub hl [2, 3, 0] rfl⟩
    · refine lv_iload_n hx hb dX1_parentsOfThoseOn_35 rfl (lv_at hl 2 rfl) ?_
      refine lv_aload_n hx hb dX1_parentsOfThoseOn_36 rfl (lv_at hl 0 rfl) ?_
      refine c_dget (S := S) (v := .int (S.2.1 1 k1)) (i := k1) hx hb hts hin0 hown hK hP (by omega) 1 (by decide) (by decide +kernel) rfl rfl dX1_parentsOfThoseOn_37 ?_
      refine lv_ior hx hb dX1_parentsOfThoseOn_40 ?_
      refine lv_istore_n (lv' := [(1, .int ((C_parentsOn_it n o S k1) ||| (S.2.1 1 k1))), (3, .ref (ad k1)), (0, .ref (h 0)), (2, .int (nI k1))]) hx hb dX1_parentsOfThoseOn_41 rfl hl (by decide) rfl (fun ls hl => ?_)
      refine lv_iinc (v := nI (k1 + 1)) (lv' := [(2, .int (nI (k1 + 1))), (1, .int ((C_parentsOn_it n o S k1) ||| (S.2.1 1 k1))), (3, .ref (ad k1)), (0, .ref (h 0))]) hx hb dX1_parentsOfThoseOn_42 hl (k := 3) rfl (nI_1 _) (by decide) rfl (fun ls hl => ?_)
      refine lv_goto (tgt := 4) hx hb dX1_parentsOfThoseOn_45 (by decide) ?_
      have hE : C_parentsOn_it n o S (k1 + 1) = (C_parentsOn_it n o S k1) ||| (S.2.1 1 k1) := by show C_parentsOn_b n o S k1 (C_parentsOn_it n o S k1) = _; first | (simp only [C_parentsOn_b, if_pos c3]; done) | (simp only [C_parentsOn_b, if_pos c3]; rfl)
      exact ih (k1 + 1) _ _ ls (by omega) ⟨by omega, rfl, rfl, by rw [hE]; exact lv_sub hl [3, 1, 0] rfl⟩

def C_turn (n : Nat) (o : Nat → Nat) (S : cSt) (x : Nat) (to : Int32) : cSt :=
  if S.2.1 7 x = to then S
  else (upd (S.1) 13 ((S.1 13) + 1), up2 (S.2.1) 7 x to, S.2.2)
theorem C_turn_ok (n : Nat) (o : Nat → Nat) (S : cSt) (x : Nat) (to : Int32) (hok : cOk n o S) : cOk n o (C_turn n o S x to) := by
  unfold C_turn
  split
  · exact hok
  · exact (show cOk n o (upd (S.1) 13 ((S.1 13) + 1), up2 (S.2.1) 7 x to, S.2.2) from hok)
set_option maxHeartbeats 4000000 in
set_option maxRecDepth 100000 in
theorem c_X1_turn (l : Launch) (D : va_G) (cO : ClassId) (h ad : Nat → Nat) (md : Nat → Int32) (n : Nat) (o : Nat → Nat) (ha : (cL h ad n).Nodup) (S : cSt) (hok : cOk n o S) (x : Nat) (lt_x : x < n) (to : Int32) : mV l yX1_turn wsX1_turn (rmz 0 0) D (cT cO) (cL h ad n) [.ref (h 0), .ref (ad x), .int to] (cW cO h ad md n o S) (cW cO h ad md n o (C_turn n o S x to)) := by
  intro sz
  refine Met.ofW (cc := cX1_turn) (maxL := 3) (ret := none) (by decide) rfl ?_
  intro p e s m args below meth c s₁ B hml hv
  obtain ⟨rfl, hsz, hP, hK⟩ := hv
  have hx := B.exec
  have hb := B.bytes
  have hr := B.returns
  have hts := atoms_spec (ws := wsX1_turn) B.pre
  have hin : ∀ w ∈ wsX10, w ∈ wsX1_turn := fun w h => List.mem_cons_of_mem _ (List.mem_append_right _ h)
  have hin0 : ∀ w ∈ wsX00, w ∈ wsX1_turn := fun w h => List.mem_cons_of_mem _ (List.mem_append_left _ (List.mem_append_right _ h))
  have hown : s.vm.findClass RX1 = some m.cls := findClass_of_methodNamed B.named
  have hlocks := B.notSynchronized
  have hn12 : n ≤ 12 := hok.1
  subst hsz
  have hS : va_S (wA (cL h ad n) s.heap.size) s.heap s.heap [] := va_S.rf
  have hl := lv_entry ([.ref (h 0), .ref (ad x), .int to]) (n := 3) (Nat.le_of_ble_eq_true rfl)
  rw [lg_entry_eq]
  generalize (lg_sl ([.ref (h 0), .ref (ad x), .int to]) ++ List.replicate (3 - (lg_sl ([.ref (h 0), .ref (ad x), .int to])).length) Slot.unset).toArray = ls at hl ⊢
  have hl : lv_has ls 3 [(0, .ref (h 0)), (1, .ref (ad x)), (2, .int to)] := hl
  refine lv_aload_n hx hb dX1_turn_0 rfl (lv_at hl 1 rfl) ?_
  refine c_dget (S := S) (v := .int (S.2.1 7 x)) (i := x) hx hb hts hin0 hown hK hP (by omega) 7 (by decide) (by decide +kernel) rfl rfl dX1_turn_1 ?_
  refine lv_iload_n hx hb dX1_turn_4 rfl (lv_at hl 2 rfl) ?_
  refine lv_icmp_eq (tgt := 23) hx hb dX1_turn_5 (by decide) (fun c1 => ?_) (fun c1 => ?_)
  · have hE : C_turn n o S x to = S := by first | (simp only [C_turn, if_pos c1]; done) | (simp only [C_turn, if_pos c1]; rfl)
    exact W.vret hx hb hr (fun tt ht hW => ⟨⟨(), rfl, trivial, by rw [ht, hE]; exact hP, va_K.moved hW.alike hK⟩, hS.F ht⟩) hS.2.2 dX1_turn_23
  · refine lv_aload_n hx hb dX1_turn_8 rfl (lv_at hl 1 rfl) ?_
    refine lv_iload_n hx hb dX1_turn_9 rfl (lv_at hl 2 rfl) ?_
    refine c_dput ha hx hb hts hin0 hown hK hP hS (i := x) (by omega) 7 (by decide) (by decide +kernel) ⟨rfl, rfl⟩ rfl rfl dX1_turn_10 (fun H locs hP hS => ?_)
    have hP : va_P D vwCl (cW cO h ad md n o (S.1, up2 (S.2.1) 7 x to, S.2.2)) H := hP
    refine lv_aload_n hx hb dX1_turn_13 rfl (lv_at hl 0 rfl) ?_
    refine lv_dup hx hb dX1_turn_14 rfl ?_
    refine c_get (S := (S.1, up2 (S.2.1) 7 x to, S.2.2)) (v := .int (S.1 13)) hx hb hts hin hown hK hP 13 (by decide) (by decide +kernel) rfl rfl dX1_turn_15 ?_
    refine lv_iconst (v := 1) hx hb dX1_turn_18 (by decide) ?_
    refine lv_iadd hx hb dX1_turn_19 ?_
    refine c_put ha hx hb hts hin hown hK hP hS 13 (by decide) (by decide +kernel) ⟨rfl, rfl, rfl⟩ dX1_turn_20 (fun H locs hP hS => ?_)
    have hP : va_P D vwCl (cW cO h ad md n o (upd (S.1) 13 ((S.1 13) + 1), up2 (S.2.1) 7 x to, S.2.2)) H := hP
    have hE : C_turn n o S x to = (upd (S.1) 13 ((S.1 13) + 1), up2 (S.2.1) 7 x to, S.2.2) := by first | (simp only [C_turn, if_neg c1]; done) | (simp only [C_turn, if_neg c1]; rfl)
    exact W.vret hx hb hr (fun tt ht hW => ⟨⟨(), rfl, trivial, by rw [ht, hE]; exact hP, va_K.moved hW.alike hK⟩, hS.F ht⟩) hS.2.2 dX1_turn_23

def C_rouse_b (n : Nat) (o : Nat → Nat) (set : Int32) (k1 : Nat) (Z : cSt) : cSt :=
  if C_holds n o Z set k1 = 0 then Z
  else ((C_turn n o Z k1 2).1, up2 ((C_turn n o Z k1 2).2.1) 10 k1 0, (C_turn n o Z k1 2).2.2)
theorem C_rouse_b_ok (n : Nat) (o : Nat → Nat) (set : Int32) (k1 : Nat) (Z : cSt) (hok : cOk n o Z) : cOk n o (C_rouse_b n o set k1 Z) := by
  unfold C_rouse_b
  split
  · exact hok
  · exact (show cOk n o ((C_turn n o Z k1 2).1, up2 ((C_turn n o Z k1 2).2.1) 10 k1 0, (C_turn n o Z k1 2).2.2) from (C_turn_ok n o Z k1 2 hok))
def C_rouse_it (n : Nat) (o : Nat → Nat) (S : cSt) (set : Int32) : Nat → cSt
  | 0 => S
  | k1 + 1 => C_rouse_b n o set k1 (C_rouse_it n o S set k1)
theorem C_rouse_it_ok (n : Nat) (o : Nat → Nat) (S : cSt) (set : Int32) : ∀ (k : Nat) (hok : cOk n o S), cOk n o (C_rouse_it n o S set k)
  | 0, hok => hok
  | k + 1, hok => C_rouse_b_ok n o set k _ (C_rouse_it_ok n o S set k hok)
def C_rouse (n : Nat) (o : Nat → Nat) (S : cSt) (set : Int32) : cSt :=
  (C_rouse_it n o S set n)
theorem C_rouse_ok (n : Nat) (o : Nat → Nat) (S : cSt) (set : Int32) (hok : cOk n o S) : cOk n o (C_rouse n o S set) := by
  unfold C_rouse
  exact (C_rouse_it_ok n o S set n hok)
set_option maxHeartbeats 4000000 in
set_option maxRecDepth 100000 in
theorem c_X1_rouse (l : Launch) (D : va_G) (cO : ClassId) (h ad : Nat → Nat) (md : Nat → Int32) (n : Nat) (o : Nat → Nat) (ha : (cL h ad n).Nodup) (S : cSt) (hok : cOk n o S) (set : Int32) : mV l yX1_rouse wsX1_rouse (rmz 3 64) D (cT cO) (cL h ad n) [.ref (h 0), .int set] (cW cO h ad md n o S) (cW cO h ad md n o (C_rouse n o S set)) := by
  intro sz
  refine Met.ofW (cc := cX1_rouse) (maxL := 4) (ret := none) (by decide) rfl ?_
  intro p e s m args below meth c s₁ B hml hv
  obtain ⟨rfl, hsz, hP, hK⟩ := hv
  have hx := B.exec
  have hb := B.bytes
  have hr := B.returns
  have hts := atoms_spec (ws := wsX1_rouse) B.pre
  have hin : ∀ w ∈ wsX10, w ∈ wsX1_rouse := fun w h => List.mem_cons_of_mem _ (List.mem_append_left _ (List.mem_append_left _ (List.mem_append_right _ h)))
  have hin0 : ∀ w ∈ wsX00, w ∈ wsX1_rouse := fun w h => List.mem_cons_of_mem _ (List.mem_append_left _ (List.mem_append_right _ h))
  have hown : s.vm.findClass RX1 = some m.cls := findClass_of_methodNamed B.named
  have hlocks := B.notSynchronized
  have hn12 : n ≤ 12 := hok.1
  subst hsz
  have hS : va_S (wA (cL h ad n) s.heap.size) s.heap s.heap [] := va_S.rf
  have hl := lv_entry ([.ref (h 0), .int set]) (n := 4) (Nat.le_of_ble_eq_true rfl)
  rw [lg_entry_eq]
  generalize (lg_sl ([.ref (h 0), .int set]) ++ List.replicate (4 - (lg_sl ([.ref (h 0), .int set])).length) Slot.unset).toArray = ls at hl ⊢
  have hl : lv_has ls 4 [(0, .ref (h 0)), (1, .int set)] := hl
  have hok0 := hok
  refine lv_iconst (v := 0) hx hb dX1_rouse_0 (by decide) ?_
  refine lv_istore_n (lv' := [(2, .int 0), (0, .ref (h 0)), (1, .int set)]) hx hb dX1_rouse_1 rfl hl (by decide) rfl (fun ls hl => ?_)
  refine w_loop (σ := Nat) (I := fun k1 H locs ls => k1 ≤ n ∧ va_P D vwCl (cW cO h ad md n o (C_rouse_it n o S set k1)) H ∧ va_S (wA (cL h ad n) s.heap.size) s.heap H locs ∧ lv_has ls 4 [(0, .ref (h 0)), (1, .int set), (2, .int (nI k1))]) (fun k1 => n - k1) ?_ 0 ⟨Nat.zero_le _, hP, hS, lv_sub hl [1, 2, 0] rfl⟩
  intro k1 H locs ls hI ih
  obtain ⟨hk, hP, hS, hl⟩ := hI
  have hok : cOk n o (C_rouse_it n o S set k1) := C_rouse_it_ok n o S set k1 hok0
  refine lv_iload_n hx hb dX1_rouse_2 rfl (lv_at hl 2 rfl) ?_
  refine lv_aload_n hx hb dX1_rouse_3 rfl (lv_at hl 0 rfl) ?_
  refine c_get (S := (C_rouse_it n o S set k1)) (v := .ref (h 1)) hx hb hts hin hown hK hP 0 (by decide) (by decide +kernel) rfl rfl dX1_rouse_4 ?_
  refine m_callR (As := []) (rest := [.int (nI k1)]) ⟨hx, hb, hml, hown, hts⟩ (c_J_size l D (cT cO) (cW cO h ad md n o (C_rouse_it n o S set k1)) (h 1) 1 (h 3) (md 1) (nI n) rfl) (cwV 0 hts gX1_rouse_Jx4a65c_size_8abf5 rfl rfl rfl (by decide +kernel) ⟨Nat.le_of_ble_eq_true rfl, Nat.le_of_ble_eq_true rfl⟩) hK hP (va_recv hK hP (ci := 0) (q0 := 1) rfl rfl) rfl hl.1 rfl (Nat.le_of_ble_eq_true rfl) dX1_rouse_7 ⟨Nat.zero_le _, Nat.zero_le _⟩ ?_
  refine lv_icmp_ge (tgt := 50) hx hb dX1_rouse_10 (by decide) (fun c2 => ?_) (fun c2 => ?_)
  · have hkn : k1 = n := Nat.le_antisymm hk ((nI_leI (by omega) (by omega)).mp c2)
    rw [hkn] at hP hl
    have hok : cOk n o (C_rouse_it n o S set n) := C_rouse_it_ok n o S set n hok0
    have hE : C_rouse n o S set = (C_rouse_it n o S set n) := by first | (simp only [C_rouse]; done) | (simp only [C_rouse]; rfl)
    exact W.vret hx hb hr (fun tt ht hW => ⟨⟨(), rfl, trivial, by rw [ht, hE]; exact hP, va_K.moved hW.alike hK⟩, hS.F ht⟩) hS.2.2 dX1_rouse_50
  · have hlt : k1 < n := Nat.lt_of_not_le (fun z => c2 ((nI_leI (by omega) (by omega)).mpr z))
    refine lv_aload_n hx hb dX1_rouse_13 rfl (lv_at hl 0 rfl) ?_
    refine c_get (S := (C_rouse_it n o S set k1)) (v := .ref (h 1)) hx hb hts hin hown hK hP 0 (by decide) (by decide +kernel) rfl rfl dX1_rouse_14 ?_
    refine lv_iload_n hx hb dX1_rouse_17 rfl (lv_at hl 2 rfl) ?_
    refine m_callQr (As := [.int (nI k1)]) (rest := []) ⟨hx, hb, hml, hown, hts⟩ (c_J_get1 l D cO h ad md n o (C_rouse_it n o S set k1) k1 hn12 (by omega)) (cwV 1 hts gX1_rouse_Jx4a65c_get_915e3 rfl rfl rfl (by decide +kernel) ⟨Nat.le_of_ble_eq_true rfl, Nat.le_of_ble_eq_true rfl⟩) hK hP (va_recv hK hP (ci := 0) (q0 := 1) rfl rfl) rfl hl.1 rfl (Nat.le_of_ble_eq_true rfl) dX1_rouse_18 ⟨Nat.zero_le _, Nat.zero_le _⟩ ?_
    refine c_cast hx hb hts hown hK hP (i := k1) (by omega) (by decide +kernel) dX1_rouse_21 ?_
    refine lv_astore_n (lv' := [(3, .ref (ad k1)), (0, .ref (h 0)), (1, .int set), (2, .int (nI k1))]) hx hb dX1_rouse_24 rfl hl (by decide) rfl (fun ls hl => ?_)
    refine lv_iload_n hx hb dX1_rouse_25 rfl (lv_at hl 2 rfl) ?_
    refine lv_aload_n hx hb dX1_rouse_26 rfl (lv_at hl 0 rfl) ?_
    refine m_callRS (As := [.int set, .ref (ad k1)]) (rest := []) ⟨hx, hb, hml, hown, hts⟩ (c_X1_holds l D cO h ad md n o ha (C_rouse_it n o S set k1) hok set k1 (by omega)) (va_cwS 2 hts gX1_rouse_X1_holds rfl rfl rfl (by decide +kernel) ⟨Nat.le_of_ble_eq_true rfl, Nat.le_of_ble_eq_true rfl⟩) hK hP rfl hl.1 rfl (Nat.le_of_ble_eq_true rfl) dX1_rouse_27 ⟨Nat.zero_le _, Nat.zero_le _⟩ ?_
    refine lv_if_eq (tgt := 44) hx hb dX1_rouse_30 (by decide) (fun c3 => ?_) (fun c3 => ?_)
    · refine lv_iinc (v := nI (k1 + 1)) (lv' := [(2, .int (nI (k1 + 1))), (3, .ref (ad k1)), (0, .ref (h 0)), (1, .int set)]) hx hb dX1_rouse_44 hl (k := 3) rfl (nI_1 _) (by decide) rfl (fun ls hl => ?_)
      refine lv_goto (tgt := 2) hx hb dX1_rouse_47 (by decide) ?_
      have hE : C_rouse_it n o S set (k1 + 1) = (C_rouse_it n o S set k1) := by show C_rouse_b n o set k1 (C_rouse_it n o S set k1) = _; first | (simp only [C_rouse_b, if_pos c3]; done) | (simp only [C_rouse_b, if_pos c3]; rfl)
      exact ih (k1 + 1) H locs ls (by omega) ⟨by omega, by rw [hE]; exact hP, hS, lv_sub hl [2, 3, 0] rfl⟩
    · refine lv_aload_n hx hb dX1_rouse_33 rfl (lv_at hl 1 rfl) ?_
      refine lv_aload_n hx hb dX1_rouse_34 rfl (lv_at hl 0 rfl) ?_
      refine lv_iconst (v := 2) hx hb dX1_rouse_35 (by decide) ?_
      refine m_callv (As := [.ref (ad k1), .int 2]) (rest := []) ⟨hx, hb, hml, hown, hts⟩ (c_X1_turn l D cO h ad md n o ha (C_rouse_it n o S set k1) hok k1 (by omega) 2) (cwV 2 hts gX1_rouse_X1_turn rfl rfl rfl (by decide +kernel) ⟨Nat.le_of_ble_eq_true rfl, Nat.le_of_ble_eq_true rfl⟩) hK hP hS (fun q h => wA_up hS.1 q h) (va_recv hK hP (ci := 2) (q0 := 0) rfl rfl) rfl hl.1 rfl (Nat.le_of_ble_eq_true rfl) dX1_rouse_36 ⟨Nat.zero_le _, Nat.zero_le _⟩ (fun H locs hP hS _ => ?_)
      have hok : cOk n o (C_turn n o (C_rouse_it n o S set k1) k1 2) := (C_turn_ok n o (C_rouse_it n o S set k1) k1 2 hok)
      refine lv_aload_n hx hb dX1_rouse_39 rfl (lv_at hl 0 rfl) ?_
      refine lv_iconst (v := 0) hx hb dX1_rouse_40 (by decide) ?_
      refine c_dput ha hx hb hts hin0 hown hK hP hS (i := k1) (by omega) 10 (by decide) (by decide +kernel) ⟨rfl, rfl⟩ rfl rfl dX1_rouse_41 (fun H locs hP hS => ?_)
      have hP : va_P D vwCl (cW cO h ad md n o ((C_turn n o (C_rouse_it n o S set k1) k1 2).1, up2 ((C_turn n o (C_rouse_it n o S set k1) k1 2).2.1) 10 k1 0, (C_turn n o (C_rouse_it n o S set k1) k1 2).2.2)) H := hP
      refine lv_iinc (v := nI (k1 + 1)) (lv' := [(2, .int (nI (k1 + 1))), (3, .ref (ad k1)), (0, .ref (h 0)), (1, .int set)]) hx hb dX1_rouse_44 hl (k := 3) rfl (nI_1 _) (by decide) rfl (fun ls hl => ?_)
      refine lv_goto (tgt := 2) hx hb dX1_rouse_47 (by decide) ?_
      have hE : C_rouse_it n o S set (k1 + 1) = ((C_turn n o (C_rouse_it n o S set k1) k1 2).1, up2 ((C_turn n o (C_rouse_it n o S set k1) k1 2).2.1) 10 k1 0, (C_turn n o (C_rouse_it n o S set k1) k1 2).2.2) := by show C_rouse_b n o set k1 (C_rouse_it n o S set k1) = _; first | (simp only [C_rouse_b, if_neg c3]; done) | (simp only [C_rouse_b, if_neg c3]; rfl)
      exact ih (k1 + 1) H locs ls (by omega) ⟨by omega, by rw [hE]; exact hP, hS, lv_sub hl [2, 3, 0] rfl⟩

def C_makeDue (n : Nat) (o : Nat → Nat) (S : cSt) (x : Nat) (ticks : Int32) : cSt :=
  (upd (S.1) 4 ticks, S.2.1, some x)
theorem C_makeDue_ok (n : Nat) (o : Nat → Nat) (S : cSt) (x : Nat) (ticks : Int32) (hok : cOk n o S) (lt_x : x < n) : cOk n o (C_makeDue n o S x ticks) := by
  unfold C_makeDue
  exact (show cOk n o (upd (S.1) 4 ticks, S.2.1, some x) from (show cOk n o (S.1, S.2.1, some x) from cOk_of hok rfl (fun i q => by cases q; exact lt_x)))
set_option maxHeartbeats 4000000 in
set_option maxRecDepth 100000 in
theorem c_X1_makeDue (l : Launch) (D : va_G) (cO : ClassId) (h ad : Nat → Nat) (md : Nat → Int32) (n : Nat) (o : Nat → Nat) (ha : (cL h ad n).Nodup) (S : cSt) (hok : cOk n o S) (x : Nat) (lt_x : x < n) (ticks : Int32) : mV l yX1_makeDue wsX1_makeDue (rmz 0 0) D (cT cO) (cL h ad n) [.ref (h 0), .ref (ad x), .int ticks] (cW cO h ad md n o S) (cW cO h ad md n o (C_makeDue n o S x ticks)) := by
  intro sz
  refine Met.ofW (cc := cX1_makeDue) (maxL := 3) (ret := none) (by decide) rfl ?_
  intro p e s m args below meth c s₁ B hml hv
  obtain ⟨rfl, hsz, hP, hK⟩ := hv
  have hx := B.exec
  have hb := B.bytes
  have hr := B.returns
  have hts := atoms_spec (ws := wsX1_makeDue) B.pre
  have hin : ∀ w ∈ wsX10, w ∈ wsX1_makeDue := fun w h => List.mem_cons_of_mem _ (List.mem_append_right _ h)
  have hown : s.vm.findClass RX1 = some m.cls := findClass_of_methodNamed B.named
  have hlocks := B.notSynchronized
  have hn12 : n ≤ 12 := hok.1
  subst hsz
  have hS : va_S (wA (cL h ad n) s.heap.size) s.heap s.heap [] := va_S.rf
  have hl := lv_entry ([.ref (h 0), .ref (ad x), .int ticks]) (n := 3) (Nat.le_of_ble_eq_true rfl)
  rw [lg_entry_eq]
  generalize (lg_sl ([.ref (h 0), .ref (ad x), .int ticks]) ++ List.replicate (3 - (lg_sl ([.ref (h 0), .ref (ad x), .int ticks])).length) Slot.unset).toArray = ls at hl ⊢
  have hl : lv_has ls 3 [(0, .ref (h 0)), (1, .ref (ad x)), (2, .int ticks)] := hl
  refine lv_aload_n hx hb dX1_makeDue_0 rfl (lv_at hl 0 rfl) ?_
  refine lv_aload_n hx hb dX1_makeDue_1 rfl (lv_at hl 1 rfl) ?_
  refine c_putd (some x) ha hx hb hts hin hown hK hP hS (by decide +kernel) dX1_makeDue_2 (fun H locs hP hS => ?_)
  have hP : va_P D vwCl (cW cO h ad md n o (S.1, S.2.1, some x)) H := hP
  have hok : cOk n o (S.1, S.2.1, some x) := cOk_of hok rfl (fun i q => by cases q; exact lt_x)
  refine lv_aload_n hx hb dX1_makeDue_5 rfl (lv_at hl 0 rfl) ?_
  refine lv_iload_n hx hb dX1_makeDue_6 rfl (lv_at hl 2 rfl) ?_
  refine c_put ha hx hb hts hin hown hK hP hS 4 (by decide) (by decide +kernel) ⟨rfl, rfl, rfl⟩ dX1_makeDue_7 (fun H locs hP hS => ?_)
  have hP : va_P D vwCl (cW cO h ad md n o (upd (S.1) 4 ticks, S.2.1, some x)) H := hP
  have hE : C_makeDue n o S x ticks = (upd (S.1) 4 ticks, S.2.1, some x) := by first | (simp only [C_makeDue]; done) | (simp only [C_makeDue]; rfl)
  exact W.vret hx hb hr (fun tt ht hW => ⟨⟨(), rfl, trivial, by rw [ht, hE]; exact hP, va_K.moved hW.alike hK⟩, hS.F ht⟩) hS.2.2 dX1_makeDue_10

def C_endDue (n : Nat) (o : Nat → Nat) (S : cSt) : cSt :=
  (upd (S.1) 4 0, S.2.1, none)
theorem C_endDue_ok (n : Nat) (o : Nat → Nat) (S : cSt) (hok : cOk n o S) : cOk n o (C_endDue n o S) := by
  unfold C_endDue
  exact (show cOk n o (upd (S.1) 4 0, S.2.1, none) from (show cOk n o (S.1, S.2.1, none) from cOk_of hok rfl (fun i q => by cases q)))
set_option maxHeartbeats 4000000 in
set_option maxRecDepth 100000 in
theorem c_X1_endDue (l : Launch) (D : va_G) (cO : ClassId) (h ad : Nat → Nat) (md : Nat → Int32) (n : Nat) (o : Nat → Nat) (ha : (cL h ad n).Nodup) (S : cSt) (hok : cOk n o S) : mV l yX1_endDue wsX1_endDue (rmz 0 0) D (cT cO) (cL h ad n) [.ref (h 0)] (cW cO h ad md n o S) (cW cO h ad md n o (C_endDue n o S)) := by
  intro sz
  refine Met.ofW (cc := cX1_endDue) (maxL := 1) (ret := none) (by decide) rfl ?_
  intro p e s m args below meth c s₁ B hml hv
  obtain ⟨rfl, hsz, hP, hK⟩ := hv
  have hx := B.exec
  have hb := B.bytes
  have hr := B.returns
  have hts := atoms_spec (ws := wsX1_endDue) B.pre
  have hin : ∀ w ∈ wsX10, w ∈ wsX1_endDue := fun w h => List.mem_cons_of_mem _ (List.mem_append_right _ h)
  have hown : s.vm.findClass RX1 = some m.cls := findClass_of_methodNamed B.named
  have hlocks := B.notSynchronized
  have hn12 : n ≤ 12 := hok.1
  subst hsz
  have hS : va_S (wA (cL h ad n) s.heap.size) s.heap s.heap [] := va_S.rf
  have hl := lv_entry ([.ref (h 0)]) (n := 1) (Nat.le_of_ble_eq_true rfl)
  rw [lg_entry_eq]
  generalize (lg_sl ([.ref (h 0)]) ++ List.replicate (1 - (lg_sl ([.ref (h 0)])).length) Slot.unset).toArray = ls at hl ⊢
  have hl : lv_has ls 1 [(0, .ref (h 0))] := hl
  refine lv_aload_n hx hb dX1_endDue_0 rfl (lv_at hl 0 rfl) ?_
  refine lv_null hx hb dX1_endDue_1 ?_
  refine c_putd (none) ha hx hb hts hin hown hK hP hS (by decide +kernel) dX1_endDue_2 (fun H locs hP hS => ?_)
  have hP : va_P D vwCl (cW cO h ad md n o (S.1, S.2.1, none)) H := hP
  have hok : cOk n o (S.1, S.2.1, none) := cOk_of hok rfl (fun i q => by cases q)
  refine lv_aload_n hx hb dX1_endDue_5 rfl (lv_at hl 0 rfl) ?_
  refine lv_iconst (v := 0) hx hb dX1_endDue_6 (by decide) ?_
  refine c_put ha hx hb hts hin hown hK hP hS 4 (by decide) (by decide +kernel) ⟨rfl, rfl, rfl⟩ dX1_endDue_7 (fun H locs hP hS => ?_)
  have hP : va_P D vwCl (cW cO h ad md n o (upd (S.1) 4 0, S.2.1, none)) H := hP
  have hE : C_endDue n o S = (upd (S.1) 4 0, S.2.1, none) := by first | (simp only [C_endDue]; done) | (simp only [C_endDue]; rfl)
  exact W.vret hx hb hr (fun tt ht hW => ⟨⟨(), rfl, trivial, by rw [ht, hE]; exact hP, va_K.moved hW.alike hK⟩, hS.F ht⟩) hS.2.2 dX1_endDue_10
