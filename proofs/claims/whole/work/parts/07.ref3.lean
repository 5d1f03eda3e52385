def R_last_b (n : Nat) (S : rSt) (k : Nat) (x : Int32) : Int32 := if S.2 5 k = 0 then x else if x < 0 then nI k else if R_earlier n S x.toNatClampNeg k = 0 then x else nI k
def R_last_it (n : Nat) (S : rSt) : Nat → Int32
  | 0 => -1
  | k + 1 => R_last_b n S k (R_last_it n S k)
def R_lastAwake (n : Nat) (S : rSt) : Int32 := R_last_it n S n
theorem R_last_cases (n : Nat) (S : rSt) : ∀ k, R_last_it n S k = -1 ∨ ∃ b, b < k ∧ R_last_it n S k = nI b
  | 0 => Or.inl rfl
  | k + 1 => by
    have ih := R_last_cases n S k
    show R_last_b n S k (R_last_it n S k) = -1 ∨ ∃ b, b < k + 1 ∧ R_last_b n S k (R_last_it n S k) = nI b
    have h2 : R_last_it n S k = -1 ∨ ∃ b, b < k + 1 ∧ R_last_it n S k = nI b := ih.elim Or.inl (fun ⟨b, h1, h2⟩ => Or.inr ⟨b, by omega, h2⟩)
    unfold R_last_b
    repeat' split
    all_goals first | exact h2 | exact Or.inr ⟨k, Nat.lt_succ_self k, rfl⟩

set_option maxHeartbeats 4000000 in
set_option maxRecDepth 100000 in
theorem c_X2_lastAwake (l : Launch) (D : va_G) (cI cZ : ClassId) (a : Nat → Nat) (ha : (rL a).Nodup) (n : Nat) (S : rSt) (hok : rOk n S) : mR l yX2_lastAwake wsX2_lastAwake (rmz 2 49) D (rT cI cZ) [.ref (a 0)] (rW cI cZ a S) (R_lastAwake n S) := by
  refine Met.ofW (cc := cX2_lastAwake) (maxL := 3) (ret := (some .int)) (by decide) rfl ?_
  intro p e s m args below meth c s₁ B hml hv
  obtain ⟨rfl, hP, hK⟩ := hv
  have hx := B.exec
  have hb := B.bytes
  have hr := B.returns
  have hts := atoms_spec (ws := wsX2_lastAwake) B.pre
  have hin : ∀ w ∈ wsX20, w ∈ wsX2_lastAwake := fun w h => List.mem_cons_of_mem _ (List.mem_append_right _ h)
  have hown : s.vm.findClass RX2 = some m.cls := findClass_of_methodNamed B.named
  have hlocks := B.notSynchronized
  have hn12 : n ≤ 12 := hok.2.1
  have hl := lv_entry ([.ref (a 0)]) (n := 3) (Nat.le_of_ble_eq_true rfl)
  rw [lg_entry_eq]
  generalize (lg_sl ([.ref (a 0)]) ++ List.replicate (3 - (lg_sl ([.ref (a 0)])).length) Slot.unset).toArray = ls at hl ⊢
  have hl : lv_has ls 3 [(0, .ref (a 0))] := hl
  refine lv_iconst (v := (-1)) hx hb dX2_lastAwake_0 (by decide) ?_
  refine lv_istore_n (lv' := [(1, .int ((-1))), (0, .ref (a 0))]) hx hb dX2_lastAwake_1 rfl hl (by decide) rfl (fun ls hl => ?_)
  refine lv_iconst (v := 0) hx hb dX2_lastAwake_2 (by decide) ?_
  refine lv_istore_n (lv' := [(2, .int 0), (1, .int ((-1))), (0, .ref (a 0))]) hx hb dX2_lastAwake_3 rfl hl (by decide) rfl (fun ls hl => ?_)
  refine w_loop (σ := Nat) (I := fun k1 H locs ls => k1 ≤ n ∧ H = s.heap ∧ locs = [] ∧ lv_has ls 3 [(0, .ref (a 0)), (1, .int ((R_last_it n S k1))), (2, .int (nI k1))]) (fun k1 => n - k1) ?_ 0 ⟨Nat.zero_le _, rfl, rfl, lv_sub hl [2, 1, 0] rfl⟩
  intro k1 H locs ls hI ih
  obtain ⟨hk, rfl, rfl, hl⟩ := hI
  refine lv_iload_n hx hb dX2_lastAwake_4 rfl (lv_at hl 2 rfl) ?_
  refine lv_aload_n hx hb dX2_lastAwake_5 rfl (lv_at hl 0 rfl) ?_
  refine r_get (S := S) (v := .int (nI n)) hx hb hts hin hown hK hP 0 (by decide) (by decide +kernel) rfl (congrArg (fun z => some (Value.int z)) hok.1) dX2_lastAwake_6 ?_
  refine lv_icmp_ge (tgt := 42) hx hb dX2_lastAwake_9 (by decide) (fun c2 => ?_) (fun c2 => ?_)
  · have hkn : k1 = n := Nat.le_antisymm hk ((nI_leI (by omega) (by omega)).mp c2)
    rw [hkn] at hl
    refine lv_iload_n hx hb dX2_lastAwake_42 rfl (lv_at hl 1 rfl) ?_
    have hE : R_lastAwake n S = (R_last_it n S n) := by first | (simp only [R_lastAwake]; done) | (simp only [R_lastAwake]; rfl)
    exact W.iret (v := (R_last_it n S n)) hx hb hr (fun tt ht hW => ⟨(R_last_it n S n), rfl, hE.symm, ht⟩) (fun q hq => by cases hq) dX2_lastAwake_43
  · have hlt : k1 < n := Nat.lt_of_not_le (fun z => c2 ((nI_leI (by omega) (by omega)).mpr z))
    refine lv_aload_n hx hb dX2_lastAwake_12 rfl (lv_at hl 0 rfl) ?_
    refine r_get (S := S) (v := .ref (a 5)) hx hb hts hin hown hK hP 5 (by decide) (by decide +kernel) rfl rfl dX2_lastAwake_13 ?_
    refine lv_iload_n hx hb dX2_lastAwake_16 rfl (lv_at hl 2 rfl) ?_
    refine r_ald (S := S) (x := S.2 5 k1) hx hb hK hP 5 (by decide) (j := k1) (by omega) rfl dX2_lastAwake_17 ?_
    refine lv_if_eq (tgt := 36) hx hb dX2_lastAwake_18 (by decide) (fun c3 => ?_) (fun c3 => ?_)
    · refine lv_iinc (v := nI (k1 + 1)) (lv' := [(2, .int (nI (k1 + 1))), (0, .ref (a 0)), (1, .int ((R_last_it n S k1)))]) hx hb dX2_lastAwake_36 hl (k := 2) rfl (nI_1 _) (by decide) rfl (fun ls hl => ?_)
      refine lv_goto (tgt := 4) hx hb dX2_lastAwake_39 (by decide) ?_
      have hE : R_last_it n S (k1 + 1) = (R_last_it n S k1) := by show R_last_b n S k1 (R_last_it n S k1) = _; first | (simp only [R_last_b, if_pos c3]; done) | (simp only [R_last_b, if_pos c3]; rfl)
      exact ih (k1 + 1) _ _ ls (by omega) ⟨by omega, rfl, rfl, by rw [hE]; exact lv_sub hl [1, 2, 0] rfl⟩
    · rcases R_last_cases n S k1 with hq | ⟨b, hb2, hq⟩
      · rw [hq] at hl
        refine lv_iload_n hx hb dX2_lastAwake_21 rfl (lv_at hl 1 rfl) ?_
        refine lv_if_lt (tgt := 34) hx hb dX2_lastAwake_22 (by decide) (fun c4 => ?_) (fun c4 => ?_)
        · refine lv_iload_n hx hb dX2_lastAwake_34 rfl (lv_at hl 2 rfl) ?_
          refine lv_istore_n (lv' := [(1, .int (nI k1)), (0, .ref (a 0)), (2, .int (nI k1))]) hx hb dX2_lastAwake_35 rfl hl (by decide) rfl (fun ls hl => ?_)
          refine lv_iinc (v := nI (k1 + 1)) (lv' := [(2, .int (nI (k1 + 1))), (1, .int (nI k1)), (0, .ref (a 0))]) hx hb dX2_lastAwake_36 hl (k := 2) rfl (nI_1 _) (by decide) rfl (fun ls hl => ?_)
          refine lv_goto (tgt := 4) hx hb dX2_lastAwake_39 (by decide) ?_
          have hE : R_last_it n S (k1 + 1) = nI k1 := by show R_last_b n S k1 (R_last_it n S k1) = _; first | (simp only [R_last_b, if_neg c3, hq, if_pos (show (-1 : Int32) < 0 from by decide)]; done) | (simp only [R_last_b, if_neg c3, hq, if_pos (show (-1 : Int32) < 0 from by decide)]; rfl)
          exact ih (k1 + 1) _ _ ls (by omega) ⟨by omega, rfl, rfl, by rw [hE]; exact lv_sub hl [2, 1, 0] rfl⟩
        · exact absurd (by decide) c4
      · rw [hq] at hl
        refine lv_iload_n hx hb dX2_lastAwake_21 rfl (lv_at hl 1 rfl) ?_
        refine lv_if_lt (tgt := 34) hx hb dX2_lastAwake_22 (by decide) (fun c5 => ?_) (fun c5 => ?_)
        · exact absurd c5 (nI_pos (by omega))
        · refine lv_aload_n hx hb dX2_lastAwake_25 rfl (lv_at hl 0 rfl) ?_
          refine lv_iload_n hx hb dX2_lastAwake_26 rfl (lv_at hl 1 rfl) ?_
          refine lv_iload_n hx hb dX2_lastAwake_27 rfl (lv_at hl 2 rfl) ?_
          refine m_callR (As := [.int (nI b), .int (nI k1)]) (rest := []) ⟨hx, hb, hml, hown, hts⟩ (c_X2_earlier l D cI cZ a ha n S hok b (by omega) k1 (by omega)) (cwV 2 hts gX2_lastAwake_X2_earlier rfl rfl rfl (by decide +kernel) ⟨Nat.le_of_ble_eq_true rfl, Nat.le_of_ble_eq_true rfl⟩) hK hP (va_recv hK hP (ci := 3) (q0 := 0) rfl rfl) rfl hl.1 rfl (Nat.le_of_ble_eq_true rfl) dX2_lastAwake_28 ⟨Nat.zero_le _, Nat.zero_le _⟩ ?_
          refine lv_if_eq (tgt := 36) hx hb dX2_lastAwake_31 (by decide) (fun c6 => ?_) (fun c6 => ?_)
          · refine lv_iinc (v := nI (k1 + 1)) (lv' := [(2, .int (nI (k1 + 1))), (0, .ref (a 0)), (1, .int (nI b))]) hx hb dX2_lastAwake_36 hl (k := 2) rfl (nI_1 _) (by decide) rfl (fun ls hl => ?_)
            refine lv_goto (tgt := 4) hx hb dX2_lastAwake_39 (by decide) ?_
            have hE : R_last_it n S (k1 + 1) = nI b := by show R_last_b n S k1 (R_last_it n S k1) = _; first | (simp only [R_last_b, if_neg c3, if_pos c6, hq, if_neg (nI_pos (n := b) (by omega)), nI_clamp (n := b) (by omega)]; done) | (simp only [R_last_b, if_neg c3, if_pos c6, hq, if_neg (nI_pos (n := b) (by omega)), nI_clamp (n := b) (by omega)]; rfl)
            exact ih (k1 + 1) _ _ ls (by omega) ⟨by omega, rfl, rfl, by rw [hE]; exact lv_sub hl [1, 2, 0] rfl⟩
          · refine lv_iload_n hx hb dX2_lastAwake_34 rfl (lv_at hl 2 rfl) ?_
            refine lv_istore_n (lv' := [(1, .int (nI k1)), (0, .ref (a 0)), (2, .int (nI k1))]) hx hb dX2_lastAwake_35 rfl hl (by decide) rfl (fun ls hl => ?_)
            refine lv_iinc (v := nI (k1 + 1)) (lv' := [(2, .int (nI (k1 + 1))), (1, .int (nI k1)), (0, .ref (a 0))]) hx hb dX2_lastAwake_36 hl (k := 2) rfl (nI_1 _) (by decide) rfl (fun ls hl => ?_)
            refine lv_goto (tgt := 4) hx hb dX2_lastAwake_39 (by decide) ?_
            have hE : R_last_it n S (k1 + 1) = nI k1 := by show R_last_b n S k1 (R_last_it n S k1) = _; first | (simp only [R_last_b, if_neg c3, if_neg c6, hq, if_neg (nI_pos (n := b) (by omega)), nI_clamp (n := b) (by omega)]; done) | (simp only [R_last_b, if_neg c3, if_neg c6, hq, if_neg (nI_pos (n := b) (by omega)), nI_clamp (n := b) (by omega)]; rfl)
            exact ih (k1 + 1) _ _ ls (by omega) ⟨by omega, rfl, rfl, by rw [hE]; exact lv_sub hl [2, 1, 0] rfl⟩

def R_first_b (n : Nat) (S : rSt) (k : Nat) (x : Int32) : Int32 := if S.2 5 k = 0 then (if x < 0 then nI k else if R_earlier n S k x.toNatClampNeg = 0 then x else nI k) else x
def R_first_it (n : Nat) (S : rSt) : Nat → Int32
  | 0 => -1
  | k + 1 => R_first_b n S k (R_first_it n S k)
def R_firstOff (n : Nat) (S : rSt) : Int32 := R_first_it n S n
theorem R_first_cases (n : Nat) (S : rSt) : ∀ k, R_first_it n S k = -1 ∨ ∃ b, b < k ∧ R_first_it n S k = nI b
  | 0 => Or.inl rfl
  | k + 1 => by
    have ih := R_first_cases n S k
    show R_first_b n S k (R_first_it n S k) = -1 ∨ ∃ b, b < k + 1 ∧ R_first_b n S k (R_first_it n S k) = nI b
    have h2 : R_first_it n S k = -1 ∨ ∃ b, b < k + 1 ∧ R_first_it n S k = nI b := ih.elim Or.inl (fun ⟨b, h1, h2⟩ => Or.inr ⟨b, by omega, h2⟩)
    unfold R_first_b
    repeat' split
    all_goals first | exact h2 | exact Or.inr ⟨k, Nat.lt_succ_self k, rfl⟩

set_option maxHeartbeats 4000000 in
set_option maxRecDepth 100000 in
theorem c_X2_firstOff (l : Launch) (D : va_G) (cI cZ : ClassId) (a : Nat → Nat) (ha : (rL a).Nodup) (n : Nat) (S : rSt) (hok : rOk n S) : mR l yX2_firstOff wsX2_firstOff (rmz 2 49) D (rT cI cZ) [.ref (a 0)] (rW cI cZ a S) (R_firstOff n S) := by
  refine Met.ofW (cc := cX2_firstOff) (maxL := 3) (ret := (some .int)) (by decide) rfl ?_
  intro p e s m args below meth c s₁ B hml hv
  obtain ⟨rfl, hP, hK⟩ := hv
  have hx := B.exec
  have hb := B.bytes
  have hr := B.returns
  have hts := atoms_spec (ws := wsX2_firstOff) B.pre
  have hin : ∀ w ∈ wsX20, w ∈ wsX2_firstOff := fun w h => List.mem_cons_of_mem _ (List.mem_append_right _ h)
  have hown : s.vm.findClass RX2 = some m.cls := findClass_of_methodNamed B.named
  have hlocks := B.notSynchronized
  have hn12 : n ≤ 12 := hok.2.1
  have hl := lv_entry ([.ref (a 0)]) (n := 3) (Nat.le_of_ble_eq_true rfl)
  rw [lg_entry_eq]
  generalize (lg_sl ([.ref (a 0)]) ++ List.replicate (3 - (lg_sl ([.ref (a 0)])).length) Slot.unset).toArray = ls at hl ⊢
  have hl : lv_has ls 3 [(0, .ref (a 0))] := hl
  refine lv_iconst (v := (-1)) hx hb dX2_firstOff_0 (by decide) ?_
  refine lv_istore_n (lv' := [(1, .int ((-1))), (0, .ref (a 0))]) hx hb dX2_firstOff_1 rfl hl (by decide) rfl (fun ls hl => ?_)
  refine lv_iconst (v := 0) hx hb dX2_firstOff_2 (by decide) ?_
  refine lv_istore_n (lv' := [(2, .int 0), (1, .int ((-1))), (0, .ref (a 0))]) hx hb dX2_firstOff_3 rfl hl (by decide) rfl (fun ls hl => ?_)
  refine w_loop (σ := Nat) (I := fun k1 H locs ls => k1 ≤ n ∧ H = s.heap ∧ locs = [] ∧ lv_has ls 3 [(0, .ref (a 0)), (1, .int ((R_first_it n S k1))), (2, .int (nI k1))]) (fun k1 => n - k1) ?_ 0 ⟨Nat.zero_le _, rfl, rfl, lv_sub hl [2, 1, 0] rfl⟩
  intro k1 H locs ls hI ih
  obtain ⟨hk, rfl, rfl, hl⟩ := hI
  refine lv_iload_n hx hb dX2_firstOff_4 rfl (lv_at hl 2 rfl) ?_
  refine lv_aload_n hx hb dX2_firstOff_5 rfl (lv_at hl 0 rfl) ?_
  refine r_get (S := S) (v := .int (nI n)) hx hb hts hin hown hK hP 0 (by decide) (by decide +kernel) rfl (congrArg (fun z => some (Value.int z)) hok.1) dX2_firstOff_6 ?_
  refine lv_icmp_ge (tgt := 42) hx hb dX2_firstOff_9 (by decide) (fun c2 => ?_) (fun c2 => ?_)
  · have hkn : k1 = n := Nat.le_antisymm hk ((nI_leI (by omega) (by omega)).mp c2)
    rw [hkn] at hl
    refine lv_iload_n hx hb dX2_firstOff_42 rfl (lv_at hl 1 rfl) ?_
    have hE : R_firstOff n S = (R_first_it n S n) := by first | (simp only [R_firstOff]; done) | (simp only [R_firstOff]; rfl)
    exact W.iret (v := (R_first_it n S n)) hx hb hr (fun tt ht hW => ⟨(R_first_it n S n), rfl, hE.symm, ht⟩) (fun q hq => by cases hq) dX2_firstOff_43
  · have hlt : k1 < n := Nat.lt_of_not_le (fun z => c2 ((nI_leI (by omega) (by omega)).mpr z))
    refine lv_aload_n hx hb dX2_firstOff_12 rfl (lv_at hl 0 rfl) ?_
    refine r_get (S := S) (v := .ref (a 5)) hx hb hts hin hown hK hP 5 (by decide) (by decide +kernel) rfl rfl dX2_firstOff_13 ?_
    refine lv_iload_n hx hb dX2_firstOff_16 rfl (lv_at hl 2 rfl) ?_
    refine r_ald (S := S) (x := S.2 5 k1) hx hb hK hP 5 (by decide) (j := k1) (by omega) rfl dX2_firstOff_17 ?_
    refine lv_if_ne (tgt := 36) hx hb dX2_firstOff_18 (by decide) (fun c3 => ?_) (fun c3 => ?_)
    · refine lv_iinc (v := nI (k1 + 1)) (lv' := [(2, .int (nI (k1 + 1))), (0, .ref (a 0)), (1, .int ((R_first_it n S k1)))]) hx hb dX2_firstOff_36 hl (k := 2) rfl (nI_1 _) (by decide) rfl (fun ls hl => ?_)
      refine lv_goto (tgt := 4) hx hb dX2_firstOff_39 (by decide) ?_
      have hE : R_first_it n S (k1 + 1) = (R_first_it n S k1) := by show R_first_b n S k1 (R_first_it n S k1) = _; first | (simp only [R_first_b, if_neg c3]; done) | (simp only [R_first_b, if_neg c3]; rfl)
      exact ih (k1 + 1) _ _ ls (by omega) ⟨by omega, rfl, rfl, by rw [hE]; exact lv_sub hl [1, 2, 0] rfl⟩
    · rcases R_first_cases n S k1 with hq | ⟨b, hb2, hq⟩
      · rw [hq] at hl
        refine lv_iload_n hx hb dX2_firstOff_21 rfl (lv_at hl 1 rfl) ?_
        refine lv_if_lt (tgt := 34) hx hb dX2_firstOff_22 (by decide) (fun c4 => ?_) (fun c4 => ?_)
        · refine lv_iload_n hx hb dX2_firstOff_34 rfl (lv_at hl 2 rfl) ?_
          refine lv_istore_n (lv' := [(1, .int (nI k1)), (0, .ref (a 0)), (2, .int (nI k1))]) hx hb dX2_firstOff_35 rfl hl (by decide) rfl (fun ls hl => ?_)
          refine lv_iinc (v := nI (k1 + 1)) (lv' := [(2, .int (nI (k1 + 1))), (1, .int (nI k1)), (0, .ref (a 0))]) hx hb dX2_firstOff_36 hl (k := 2) rfl (nI_1 _) (by decide) rfl (fun ls hl => ?_)
          refine lv_goto (tgt := 4) hx hb dX2_firstOff_39 (by decide) ?_
          have hE : R_first_it n S (k1 + 1) = nI k1 := by show R_first_b n S k1 (R_first_it n S k1) = _; first | (simp only [R_first_b, if_pos c3, hq, if_pos (show (-1 : Int32) < 0 from by decide)]; done) | (simp only [R_first_b, if_pos c3, hq, if_pos (show (-1 : Int32) < 0 from by decide)]; rfl)
          exact ih (k1 + 1) _ _ ls (by omega) ⟨by omega, rfl, rfl, by rw [hE]; exact lv_sub hl [2, 1, 0] rfl⟩
        · exact absurd (by decide) c4
      · rw [hq] at hl
        refine lv_iload_n hx hb dX2_firstOff_21 rfl (lv_at hl 1 rfl) ?_
        refine lv_if_lt (tgt := 34) hx hb dX2_firstOff_22 (by decide) (fun c5 => ?_) (fun c5 => ?_)
        · exact absurd c5 (nI_pos (by omega))
        · refine lv_aload_n hx hb dX2_firstOff_25 rfl (lv_at hl 0 rfl) ?_
          refine lv_iload_n hx hb dX2_firstOff_26 rfl (lv_at hl 2 rfl) ?_
          refine lv_iload_n hx hb dX2_firstOff_27 rfl (lv_at hl 1 rfl) ?_
          refine m_callR (As := [.int (nI k1), .int (nI b)]) (rest := []) ⟨hx, hb, hml, hown, hts⟩ (c_X2_earlier l D cI cZ a ha n S hok k1 (by omega) b (by omega)) (cwV 2 hts gX2_firstOff_X2_earlier rfl rfl rfl (by decide +kernel) ⟨Nat.le_of_ble_eq_true rfl, Nat.le_of_ble_eq_true rfl⟩) hK hP (va_recv hK hP (ci := 3) (q0 := 0) rfl rfl) rfl hl.1 rfl (Nat.le_of_ble_eq_true rfl) dX2_firstOff_28 ⟨Nat.zero_le _, Nat.zero_le _⟩ ?_
          refine lv_if_eq (tgt := 36) hx hb dX2_firstOff_31 (by decide) (fun c6 => ?_) (fun c6 => ?_)
          · refine lv_iinc (v := nI (k1 + 1)) (lv' := [(2, .int (nI (k1 + 1))), (0, .ref (a 0)), (1, .int (nI b))]) hx hb dX2_firstOff_36 hl (k := 2) rfl (nI_1 _) (by decide) rfl (fun ls hl => ?_)
            refine lv_goto (tgt := 4) hx hb dX2_firstOff_39 (by decide) ?_
            have hE : R_first_it n S (k1 + 1) = nI b := by show R_first_b n S k1 (R_first_it n S k1) = _; first | (simp only [R_first_b, if_pos c3, if_pos c6, hq, if_neg (nI_pos (n := b) (by omega)), nI_clamp (n := b) (by omega)]; done) | (simp only [R_first_b, if_pos c3, if_pos c6, hq, if_neg (nI_pos (n := b) (by omega)), nI_clamp (n := b) (by omega)]; rfl)
            exact ih (k1 + 1) _ _ ls (by omega) ⟨by omega, rfl, rfl, by rw [hE]; exact lv_sub hl [1, 2, 0] rfl⟩
          · refine lv_iload_n hx hb dX2_firstOff_34 rfl (lv_at hl 2 rfl) ?_
            refine lv_istore_n (lv' := [(1, .int (nI k1)), (0, .ref (a 0)), (2, .int (nI k1))]) hx hb dX2_firstOff_35 rfl hl (by decide) rfl (fun ls hl => ?_)
            refine lv_iinc (v := nI (k1 + 1)) (lv' := [(2, .int (nI (k1 + 1))), (1, .int (nI k1)), (0, .ref (a 0))]) hx hb dX2_firstOff_36 hl (k := 2) rfl (nI_1 _) (by decide) rfl (fun ls hl => ?_)
            refine lv_goto (tgt := 4) hx hb dX2_firstOff_39 (by decide) ?_
            have hE : R_first_it n S (k1 + 1) = nI k1 := by show R_first_b n S k1 (R_first_it n S k1) = _; first | (simp only [R_first_b, if_pos c3, if_neg c6, hq, if_neg (nI_pos (n := b) (by omega)), nI_clamp (n := b) (by omega)]; done) | (simp only [R_first_b, if_pos c3, if_neg c6, hq, if_neg (nI_pos (n := b) (by omega)), nI_clamp (n := b) (by omega)]; rfl)
            exact ih (k1 + 1) _ _ ls (by omega) ⟨by omega, rfl, rfl, by rw [hE]; exact lv_sub hl [2, 1, 0] rfl⟩

theorem nI_nem {d : Nat} (h : d < 2 ^ 31) : ¬ nI d = (-1) := fun q => nI_pos h (by rw [q]; decide)

def R_sink (n : Nat) (S : rSt) : rSt :=
  if R_lastAwake n S = (-1) then (upd (upd (S.1) 12 2) 21 ((S.1 21) + 1), S.2)
  else if S.2 5 (R_lastAwake n S).toNatClampNeg = 1 then (R_become n S (R_lastAwake n S).toNatClampNeg 0)
  else (upd (upd (S.1) 13 (R_lastAwake n S)) 14 (S.2 2 (R_lastAwake n S).toNatClampNeg), S.2)
theorem R_sink_sm (n : Nat) (S : rSt) : rSm S ((R_sink n S)) := by
  unfold R_sink
  repeat' split
  all_goals exact ⟨rfl, rfl⟩
theorem R_sink_ok (n : Nat) (S : rSt) (hok : rOk n S) : rOk n ((R_sink n S)) := rOk_of (R_sink_sm n S) hok
set_option maxHeartbeats 4000000 in
set_option maxRecDepth 100000 in
theorem c_X2_sink (l : Launch) (D : va_G) (cI cZ : ClassId) (a : Nat → Nat) (ha : (rL a).Nodup) (n : Nat) (S : rSt) (hok : rOk n S) : mV l yX2_sink wsX2_sink (rmz 3 71) D (rT cI cZ) (rL a) [.ref (a 0)] (rW cI cZ a S) (rW cI cZ a (R_sink n S)) := by
  intro sz
  refine Met.ofW (cc := cX2_sink) (maxL := 2) (ret := none) (by decide) rfl ?_
  intro p e s m args below meth c s₁ B hml hv
  obtain ⟨rfl, hsz, hP, hK⟩ := hv
  have hx := B.exec
  have hb := B.bytes
  have hr := B.returns
  have hts := atoms_spec (ws := wsX2_sink) B.pre
  have hin : ∀ w ∈ wsX20, w ∈ wsX2_sink := fun w h => List.mem_cons_of_mem _ (List.mem_append_right _ h)
  have hown : s.vm.findClass RX2 = some m.cls := findClass_of_methodNamed B.named
  have hlocks := B.notSynchronized
  have hn12 : n ≤ 12 := hok.2.1
  subst hsz
  have hS : va_S (wA (rL a) s.heap.size) s.heap s.heap [] := va_S.rf
  have hl := lv_entry ([.ref (a 0)]) (n := 2) (Nat.le_of_ble_eq_true rfl)
  rw [lg_entry_eq]
  generalize (lg_sl ([.ref (a 0)]) ++ List.replicate (2 - (lg_sl ([.ref (a 0)])).length) Slot.unset).toArray = ls at hl ⊢
  have hl : lv_has ls 2 [(0, .ref (a 0))] := hl
  refine lv_aload_n hx hb dX2_sink_0 rfl (lv_at hl 0 rfl) ?_
  refine m_callR (As := []) (rest := []) ⟨hx, hb, hml, hown, hts⟩ (c_X2_lastAwake l D cI cZ a ha n S hok ) (cwV 0 hts gX2_sink_X2_lastAwake rfl rfl rfl (by decide +kernel) ⟨Nat.le_of_ble_eq_true rfl, Nat.le_of_ble_eq_true rfl⟩) hK hP (va_recv hK hP (ci := 3) (q0 := 0) rfl rfl) rfl hl.1 rfl (Nat.le_of_ble_eq_true rfl) dX2_sink_1 ⟨Nat.zero_le _, Nat.zero_le _⟩ ?_
  rcases R_last_cases n S n with hq | ⟨d, hd, hq⟩
  · have hq : R_lastAwake n S = (-1) := hq
    rw [hq]
    refine lv_istore_n (lv' := [(1, .int ((-1))), (0, .ref (a 0))]) hx hb dX2_sink_4 rfl hl (by decide) rfl (fun ls hl => ?_)
    refine lv_iload_n hx hb dX2_sink_5 rfl (lv_at hl 0 rfl) ?_
    refine lv_if_ge (tgt := 27) hx hb dX2_sink_6 (by decide) (fun c1 => ?_) (fun c1 => ?_)
    · exact absurd c1 (by decide)
    · refine lv_aload_n hx hb dX2_sink_9 rfl (lv_at hl 1 rfl) ?_
      refine lv_iconst (v := 2) hx hb dX2_sink_10 (by decide) ?_
      refine r_put ha hx hb hts hin hown hK hP hS 12 (by decide) (by decide +kernel) ⟨rfl, rfl, rfl⟩ dX2_sink_11 (fun H locs hP hS => ?_)
      have hP : va_P D vwCl (rW cI cZ a (upd (S.1) 12 2, S.2)) H := hP
      refine lv_aload_n hx hb dX2_sink_14 rfl (lv_at hl 1 rfl) ?_
      refine lv_dup hx hb dX2_sink_15 rfl ?_
      refine r_get (S := (upd (S.1) 12 2, S.2)) (v := .int (S.1 21)) hx hb hts hin hown hK hP 21 (by decide) (by decide +kernel) rfl rfl dX2_sink_16 ?_
      refine lv_iconst (v := 1) hx hb dX2_sink_19 (by decide) ?_
      refine lv_iadd hx hb dX2_sink_20 ?_
      refine r_put ha hx hb hts hin hown hK hP hS 21 (by decide) (by decide +kernel) ⟨rfl, rfl, rfl⟩ dX2_sink_21 (fun H locs hP hS => ?_)
      have hP : va_P D vwCl (rW cI cZ a (upd (upd (S.1) 12 2) 21 ((S.1 21) + 1), S.2)) H := hP
      refine lv_goto (tgt := 61) hx hb dX2_sink_24 (by decide) ?_
      have hE : R_sink n S = (upd (upd (S.1) 12 2) 21 ((S.1 21) + 1), S.2) := by first | (simp only [R_sink, if_pos hq]; done) | (simp only [R_sink, if_pos hq]; rfl)
      exact W.vret hx hb hr (fun tt ht hW => ⟨⟨(), rfl, trivial, by rw [ht, hE]; exact hP, va_K.moved hW.alike hK⟩, hS.F ht⟩) hS.2.2 dX2_sink_61
  · have hq : R_lastAwake n S = nI d := hq
    rw [hq]
    have hne : ¬ nI d = (-1) := nI_nem (by omega)
    refine lv_istore_n (lv' := [(1, .int (nI d)), (0, .ref (a 0))]) hx hb dX2_sink_4 rfl hl (by decide) rfl (fun ls hl => ?_)
    refine lv_iload_n hx hb dX2_sink_5 rfl (lv_at hl 0 rfl) ?_
    refine lv_if_ge (tgt := 27) hx hb dX2_sink_6 (by decide) (fun c2 => ?_) (fun c2 => ?_)
    · refine lv_aload_n hx hb dX2_sink_27 rfl (lv_at hl 1 rfl) ?_
      refine r_get (S := S) (v := .ref (a 5)) hx hb hts hin hown hK hP 5 (by decide) (by decide +kernel) rfl rfl dX2_sink_28 ?_
      refine lv_iload_n hx hb dX2_sink_31 rfl (lv_at hl 0 rfl) ?_
      refine r_ald (S := S) (x := S.2 5 d) hx hb hK hP 5 (by decide) (j := d) (by omega) rfl dX2_sink_32 ?_
      refine lv_iconst (v := 1) hx hb dX2_sink_33 (by decide) ?_
      refine lv_icmp_ne (tgt := 46) hx hb dX2_sink_34 (by decide) (fun c3 => ?_) (fun c3 => ?_)
      · refine lv_aload_n hx hb dX2_sink_46 rfl (lv_at hl 1 rfl) ?_
        refine lv_iload_n hx hb dX2_sink_47 rfl (lv_at hl 0 rfl) ?_
        refine r_put ha hx hb hts hin hown hK hP hS 13 (by decide) (by decide +kernel) ⟨rfl, rfl, rfl⟩ dX2_sink_48 (fun H locs hP hS => ?_)
        have hP : va_P D vwCl (rW cI cZ a (upd (S.1) 13 (nI d), S.2)) H := hP
        refine lv_aload_n hx hb dX2_sink_51 rfl (lv_at hl 1 rfl) ?_
        refine lv_aload_n hx hb dX2_sink_52 rfl (lv_at hl 1 rfl) ?_
        refine r_get (S := (upd (S.1) 13 (nI d), S.2)) (v := .ref (a 2)) hx hb hts hin hown hK hP 2 (by decide) (by decide +kernel) rfl rfl dX2_sink_53 ?_
        refine lv_iload_n hx hb dX2_sink_56 rfl (lv_at hl 0 rfl) ?_
        refine r_ald (S := (upd (S.1) 13 (nI d), S.2)) (x := S.2 2 d) hx hb hK hP 2 (by decide) (j := d) (by omega) rfl dX2_sink_57 ?_
        refine r_put ha hx hb hts hin hown hK hP hS 14 (by decide) (by decide +kernel) ⟨rfl, rfl, rfl⟩ dX2_sink_58 (fun H locs hP hS => ?_)
        have hP : va_P D vwCl (rW cI cZ a (upd (upd (S.1) 13 (nI d)) 14 (S.2 2 d), S.2)) H := hP
        have hE : R_sink n S = (upd (upd (S.1) 13 (nI d)) 14 (S.2 2 d), S.2) := by first | (simp only [R_sink, if_neg hne, if_neg c3, hq, nI_clamp (n := d) (by omega)]; done) | (simp only [R_sink, if_neg hne, if_neg c3, hq, nI_clamp (n := d) (by omega)]; rfl)
        exact W.vret hx hb hr (fun tt ht hW => ⟨⟨(), rfl, trivial, by rw [ht, hE]; exact hP, va_K.moved hW.alike hK⟩, hS.F ht⟩) hS.2.2 dX2_sink_61
      · refine lv_aload_n hx hb dX2_sink_37 rfl (lv_at hl 1 rfl) ?_
        refine lv_iload_n hx hb dX2_sink_38 rfl (lv_at hl 0 rfl) ?_
        refine lv_iconst (v := 0) hx hb dX2_sink_39 (by decide) ?_
        refine m_callv (As := [.int (nI d), .int 0]) (rest := []) ⟨hx, hb, hml, hown, hts⟩ (c_X2_become l D cI cZ a ha n S hok d (by omega) 0) (cwV 2 hts gX2_sink_X2_become rfl rfl rfl (by decide +kernel) ⟨Nat.le_of_ble_eq_true rfl, Nat.le_of_ble_eq_true rfl⟩) hK hP hS (fun q h => wA_up hS.1 q h) (va_recv hK hP (ci := 3) (q0 := 0) rfl rfl) rfl hl.1 rfl (Nat.le_of_ble_eq_true rfl) dX2_sink_40 ⟨Nat.zero_le _, Nat.zero_le _⟩ (fun H locs hP hS _ => ?_)
        have hok : rOk n (R_become n S d 0) := R_become_ok n S d 0 hok
        refine lv_goto (tgt := 61) hx hb dX2_sink_43 (by decide) ?_
        have hE : R_sink n S = (R_become n S d 0) := by first | (simp only [R_sink, if_neg hne, if_pos c3, hq, nI_clamp (n := d) (by omega)]; done) | (simp only [R_sink, if_neg hne, if_pos c3, hq, nI_clamp (n := d) (by omega)]; rfl)
        exact W.vret hx hb hr (fun tt ht hW => ⟨⟨(), rfl, trivial, by rw [ht, hE]; exact hP, va_K.moved hW.alike hK⟩, hS.F ht⟩) hS.2.2 dX2_sink_61
    · exact absurd (nI_pos' (by omega)) c2

def R_rise (n : Nat) (S : rSt) : rSt :=
  if R_firstOff n S = (-1) then (upd (S.1) 12 0, S.2)
  else if S.2 6 (R_firstOff n S).toNatClampNeg = 1 then (R_become n S (R_firstOff n S).toNatClampNeg 1)
  else (upd (upd (S.1) 13 (R_firstOff n S)) 14 (S.2 3 (R_firstOff n S).toNatClampNeg), S.2)
theorem R_rise_sm (n : Nat) (S : rSt) : rSm S ((R_rise n S)) := by
  unfold R_rise
  repeat' split
  all_goals exact ⟨rfl, rfl⟩
theorem R_rise_ok (n : Nat) (S : rSt) (hok : rOk n S) : rOk n ((R_rise n S)) := rOk_of (R_rise_sm n S) hok
set_option maxHeartbeats 4000000 in
set_option maxRecDepth 100000 in
theorem c_X2_rise (l : Launch) (D : va_G) (cI cZ : ClassId) (a : Nat → Nat) (ha : (rL a).Nodup) (n : Nat) (S : rSt) (hok : rOk n S) : mV l yX2_rise wsX2_rise (rmz 3 71) D (rT cI cZ) (rL a) [.ref (a 0)] (rW cI cZ a S) (rW cI cZ a (R_rise n S)) := by
  intro sz
  refine Met.ofW (cc := cX2_rise) (maxL := 2) (ret := none) (by decide) rfl ?_
  intro p e s m args below meth c s₁ B hml hv
  obtain ⟨rfl, hsz, hP, hK⟩ := hv
  have hx := B.exec
  have hb := B.bytes
  have hr := B.returns
  have hts := atoms_spec (ws := wsX2_rise) B.pre
  have hin : ∀ w ∈ wsX20, w ∈ wsX2_rise := fun w h => List.mem_cons_of_mem _ (List.mem_append_right _ h)
  have hown : s.vm.findClass RX2 = some m.cls := findClass_of_methodNamed B.named
  have hlocks := B.notSynchronized
  have hn12 : n ≤ 12 := hok.2.1
  subst hsz
  have hS : va_S (wA (rL a) s.heap.size) s.heap s.heap [] := va_S.rf
  have hl := lv_entry ([.ref (a 0)]) (n := 2) (Nat.le_of_ble_eq_true rfl)
  rw [lg_entry_eq]
  generalize (lg_sl ([.ref (a 0)]) ++ List.replicate (2 - (lg_sl ([.ref (a 0)])).length) Slot.unset).toArray = ls at hl ⊢
  have hl : lv_has ls 2 [(0, .ref (a 0))] := hl
  refine lv_aload_n hx hb dX2_rise_0 rfl (lv_at hl 0 rfl) ?_
  refine m_callR (As := []) (rest := []) ⟨hx, hb, hml, hown, hts⟩ (c_X2_firstOff l D cI cZ a ha n S hok ) (cwV 0 hts gX2_rise_X2_firstOff rfl rfl rfl (by decide +kernel) ⟨Nat.le_of_ble_eq_true rfl, Nat.le_of_ble_eq_true rfl⟩) hK hP (va_recv hK hP (ci := 3) (q0 := 0) rfl rfl) rfl hl.1 rfl (Nat.le_of_ble_eq_true rfl) dX2_rise_1 ⟨Nat.zero_le _, Nat.zero_le _⟩ ?_
  rcases R_first_cases n S n with hq | ⟨d, hd, hq⟩
  · have hq : R_firstOff n S = (-1) := hq
    rw [hq]
    refine lv_istore_n (lv' := [(1, .int ((-1))), (0, .ref (a 0))]) hx hb dX2_rise_4 rfl hl (by decide) rfl (fun ls hl => ?_)
    refine lv_iload_n hx hb dX2_rise_5 rfl (lv_at hl 0 rfl) ?_
    refine lv_if_ge (tgt := 17) hx hb dX2_rise_6 (by decide) (fun c1 => ?_) (fun c1 => ?_)
    · exact absurd c1 (by decide)
    · refine lv_aload_n hx hb dX2_rise_9 rfl (lv_at hl 1 rfl) ?_
      refine lv_iconst (v := 0) hx hb dX2_rise_10 (by decide) ?_
      refine r_put ha hx hb hts hin hown hK hP hS 12 (by decide) (by decide +kernel) ⟨rfl, rfl, rfl⟩ dX2_rise_11 (fun H locs hP hS => ?_)
      have hP : va_P D vwCl (rW cI cZ a (upd (S.1) 12 0, S.2)) H := hP
      refine lv_goto (tgt := 51) hx hb dX2_rise_14 (by decide) ?_
      have hE : R_rise n S = (upd (S.1) 12 0, S.2) := by first | (simp only [R_rise, if_pos hq]; done) | (simp only [R_rise, if_pos hq]; rfl)
      exact W.vret hx hb hr (fun tt ht hW => ⟨⟨(), rfl, trivial, by rw [ht, hE]; exact hP, va_K.moved hW.alike hK⟩, hS.F ht⟩) hS.2.2 dX2_rise_51
  · have hq : R_firstOff n S = nI d := hq
    rw [hq]
    have hne : ¬ nI d = (-1) := nI_nem (by omega)
    refine lv_istore_n (lv' := [(1, .int (nI d)), (0, .ref (a 0))]) hx hb dX2_rise_4 rfl hl (by decide) rfl (fun ls hl => ?_)
    refine lv_iload_n hx hb dX2_rise_5 rfl (lv_at hl 0 rfl) ?_
    refine lv_if_ge (tgt := 17) hx hb dX2_rise_6 (by decide) (fun c2 => ?_) (fun c2 => ?_)
    · refine lv_aload_n hx hb dX2_rise_17 rfl (lv_at hl 1 rfl) ?_
      refine r_get (S := S) (v := .ref (a 6)) hx hb hts hin hown hK hP 6 (by decide) (by decide +kernel) rfl rfl dX2_rise_18 ?_
      refine lv_iload_n hx hb dX2_rise_21 rfl (lv_at hl 0 rfl) ?_
      refine r_ald (S := S) (x := S.2 6 d) hx hb hK hP 6 (by decide) (j := d) (by omega) rfl dX2_rise_22 ?_
      refine lv_iconst (v := 1) hx hb dX2_rise_23 (by decide) ?_
      refine lv_icmp_ne (tgt := 36) hx hb dX2_rise_24 (by decide) (fun c3 => ?_) (fun c3 => ?_)
      · refine lv_aload_n hx hb dX2_rise_36 rfl (lv_at hl 1 rfl) ?_
        refine lv_iload_n hx hb dX2_rise_37 rfl (lv_at hl 0 rfl) ?_
        refine r_put ha hx hb hts hin hown hK hP hS 13 (by decide) (by decide +kernel) ⟨rfl, rfl, rfl⟩ dX2_rise_38 (fun H locs hP hS => ?_)
        have hP : va_P D vwCl (rW cI cZ a (upd (S.1) 13 (nI d), S.2)) H := hP
        refine lv_aload_n hx hb dX2_rise_41 rfl (lv_at hl 1 rfl) ?_
        refine lv_aload_n hx hb dX2_rise_42 rfl (lv_at hl 1 rfl) ?_
        refine r_get (S := (upd (S.1) 13 (nI d), S.2)) (v := .ref (a 3)) hx hb hts hin hown hK hP 3 (by decide) (by decide +kernel) rfl rfl dX2_rise_43 ?_
        refine lv_iload_n hx hb dX2_rise_46 rfl (lv_at hl 0 rfl) ?_
        refine r_ald (S := (upd (S.1) 13 (nI d), S.2)) (x := S.2 3 d) hx hb hK hP 3 (by decide) (j := d) (by omega) rfl dX2_rise_47 ?_
        refine r_put ha hx hb hts hin hown hK hP hS 14 (by decide) (by decide +kernel) ⟨rfl, rfl, rfl⟩ dX2_rise_48 (fun H locs hP hS => ?_)
        have hP : va_P D vwCl (rW cI cZ a (upd (upd (S.1) 13 (nI d)) 14 (S.2 3 d), S.2)) H := hP
        have hE : R_rise n S = (upd (upd (S.1) 13 (nI d)) 14 (S.2 3 d), S.2) := by first | (simp only [R_rise, if_neg hne, if_neg c3, hq, nI_clamp (n := d) (by omega)]; done) | (simp only [R_rise, if_neg hne, if_neg c3, hq, nI_clamp (n := d) (by omega)]; rfl)
        exact W.vret hx hb hr (fun tt ht hW => ⟨⟨(), rfl, trivial, by rw [ht, hE]; exact hP, va_K.moved hW.alike hK⟩, hS.F ht⟩) hS.2.2 dX2_rise_51
      · refine lv_aload_n hx hb dX2_rise_27 rfl (lv_at hl 1 rfl) ?_
        refine lv_iload_n hx hb dX2_rise_28 rfl (lv_at hl 0 rfl) ?_
        refine lv_iconst (v := 1) hx hb dX2_rise_29 (by decide) ?_
        refine m_callv (As := [.int (nI d), .int 1]) (rest := []) ⟨hx, hb, hml, hown, hts⟩ (c_X2_become l D cI cZ a ha n S hok d (by omega) 1) (cwV 2 hts gX2_rise_X2_become rfl rfl rfl (by decide +kernel) ⟨Nat.le_of_ble_eq_true rfl, Nat.le_of_ble_eq_true rfl⟩) hK hP hS (fun q h => wA_up hS.1 q h) (va_recv hK hP (ci := 3) (q0 := 0) rfl rfl) rfl hl.1 rfl (Nat.le_of_ble_eq_true rfl) dX2_rise_30 ⟨Nat.zero_le _, Nat.zero_le _⟩ (fun H locs hP hS _ => ?_)
        have hok : rOk n (R_become n S d 1) := R_become_ok n S d 1 hok
        refine lv_goto (tgt := 51) hx hb dX2_rise_33 (by decide) ?_
        have hE : R_rise n S = (R_become n S d 1) := by first | (simp only [R_rise, if_neg hne, if_pos c3, hq, nI_clamp (n := d) (by omega)]; done) | (simp only [R_rise, if_neg hne, if_pos c3, hq, nI_clamp (n := d) (by omega)]; rfl)
        exact W.vret hx hb hr (fun tt ht hW => ⟨⟨(), rfl, trivial, by rw [ht, hE]; exact hP, va_K.moved hW.alike hK⟩, hS.F ht⟩) hS.2.2 dX2_rise_51
    · exact absurd (nI_pos' (by omega)) c2

def R_follow_w (n : Nat) : Nat → rSt → rSt
  | 0, S => S
  | f + 1, S => if 0 ≤ S.1 13 then S else if S.1 12 = 1 then R_follow_w n f (R_sink n S) else if S.1 12 ≤ 2 then S else R_follow_w n f (R_rise n S)
def R_follow (n : Nat) (S : rSt) : rSt := R_follow_w n 40 S
theorem R_follow_w_sm (n : Nat) : ∀ (f : Nat) (S : rSt), rSm S (R_follow_w n f S)
  | 0, S => rSm.rf
  | f + 1, S => by
    unfold R_follow_w
    repeat' split
    all_goals first | exact rSm.rf | exact (R_sink_sm n S).tr (R_follow_w_sm n f _) | exact (R_rise_sm n S).tr (R_follow_w_sm n f _)
theorem R_follow_sm (n : Nat) (S : rSt) : rSm S (R_follow n S) := R_follow_w_sm n 40 S
theorem R_follow_ok (n : Nat) (S : rSt) (hok : rOk n S) : rOk n (R_follow n S) := rOk_of (R_follow_sm n S) hok

set_option maxHeartbeats 4000000 in
set_option maxRecDepth 100000 in
theorem c_X2_follow (l : Launch) (D : va_G) (cI cZ : ClassId) (a : Nat → Nat) (ha : (rL a).Nodup) (n : Nat) (S : rSt) (hok : rOk n S) : mV l yX2_follow wsX2_follow (rmz 4 92) D (rT cI cZ) (rL a) [.ref (a 0)] (rW cI cZ a S) (rW cI cZ a (R_follow n S)) := by
  intro sz
  refine Met.ofW (cc := cX2_follow) (maxL := 2) (ret := none) (by decide) rfl ?_
  intro p e s m args below meth c s₁ B hml hv
  obtain ⟨rfl, hsz, hP, hK⟩ := hv
  have hx := B.exec
  have hb := B.bytes
  have hr := B.returns
  have hts := atoms_spec (ws := wsX2_follow) B.pre
  have hin : ∀ w ∈ wsX20, w ∈ wsX2_follow := fun w h => List.mem_cons_of_mem _ (List.mem_append_right _ h)
  have hown : s.vm.findClass RX2 = some m.cls := findClass_of_methodNamed B.named
  have hlocks := B.notSynchronized
  have hn12 : n ≤ 12 := hok.2.1
  subst hsz
  have hS : va_S (wA (rL a) s.heap.size) s.heap s.heap [] := va_S.rf
  have hl := lv_entry ([.ref (a 0)]) (n := 2) (Nat.le_of_ble_eq_true rfl)
  rw [lg_entry_eq]
  generalize (lg_sl ([.ref (a 0)]) ++ List.replicate (2 - (lg_sl ([.ref (a 0)])).length) Slot.unset).toArray = ls at hl ⊢
  have hl : lv_has ls 2 [(0, .ref (a 0))] := hl
  refine lv_iconst (v := 0) hx hb dX2_follow_0 (by decide) ?_
  refine lv_istore_n (lv' := [(1, .int 0), (0, .ref (a 0))]) hx hb dX2_follow_1 rfl hl (by decide) rfl (fun ls hl => ?_)
  refine w_loop (σ := Nat × rSt) (I := fun z H locs ls => z.1 ≤ 40 ∧ R_follow_w n z.1 z.2 = R_follow n S ∧ rOk n z.2 ∧ va_P D vwCl (rW cI cZ a z.2) H ∧ va_S (wA (rL a) s.heap.size) s.heap H locs ∧ lv_has ls 2 [(0, .ref (a 0)), (1, .int (nI (40 - z.1)))]) (fun z => z.1) ?_ (40, S) ⟨Nat.le_refl _, rfl, hok, hP, hS, lv_sub hl [1, 0] rfl⟩
  intro z H locs ls hI ih
  obtain ⟨f, Z⟩ := z
  dsimp only at hI
  obtain ⟨hf, hw, hok, hP, hS, hl⟩ := hI
  rcases f with _ | f
  · have hl : lv_has ls 2 [(0, .ref (a 0)), (1, .int 40)] := hl
    refine lv_iload_n hx hb dX2_follow_2 rfl (lv_at hl 1 rfl) ?_
    refine lv_bipush (v := 40) hx hb dX2_follow_3 (by decide) ?_
    refine lv_icmp_ge (tgt := 56) hx hb dX2_follow_5 (by decide) (fun c1 => ?_) (fun c1 => ?_)
    · have hE : R_follow n S = Z := by exact hw.symm
      exact W.vret hx hb hr (fun tt ht hW => ⟨⟨(), rfl, trivial, by rw [ht, hE]; exact hP, va_K.moved hW.alike hK⟩, hS.F ht⟩) hS.2.2 dX2_follow_56
    · exact absurd (by decide) c1
  · refine lv_iload_n hx hb dX2_follow_2 rfl (lv_at hl 1 rfl) ?_
    refine lv_bipush (v := 40) hx hb dX2_follow_3 (by decide) ?_
    refine lv_icmp_ge (tgt := 56) hx hb dX2_follow_5 (by decide) (fun c0 => ?_) (fun c0 => ?_)
    · exact absurd ((nI_leI (a := 40) (by omega) (by omega)).mp c0) (by omega)
    · refine lv_aload_n hx hb dX2_follow_8 rfl (lv_at hl 0 rfl) ?_
      refine r_get (S := Z) (v := .int (Z.1 13)) hx hb hts hin hown hK hP 13 (by decide) (by decide +kernel) rfl rfl dX2_follow_9 ?_
      refine lv_if_ge (tgt := 56) hx hb dX2_follow_12 (by decide) (fun c2 => ?_) (fun c2 => ?_)
      · have hE : R_follow n S = Z := by rw [← hw]; first | (simp only [R_follow_w, if_pos c2]; done) | (simp only [R_follow_w, if_pos c2]; rfl)
        exact W.vret hx hb hr (fun tt ht hW => ⟨⟨(), rfl, trivial, by rw [ht, hE]; exact hP, va_K.moved hW.alike hK⟩, hS.F ht⟩) hS.2.2 dX2_follow_56
      · refine lv_aload_n hx hb dX2_follow_15 rfl (lv_at hl 0 rfl) ?_
        refine r_get (S := Z) (v := .int (Z.1 12)) hx hb hts hin hown hK hP 12 (by decide) (by decide +kernel) rfl rfl dX2_follow_16 ?_
        refine lv_iconst (v := 1) hx hb dX2_follow_19 (by decide) ?_
        refine lv_icmp_eq (tgt := 31) hx hb dX2_follow_20 (by decide) (fun c3 => ?_) (fun c3 => ?_)
        · refine lv_aload_n hx hb dX2_follow_31 rfl (lv_at hl 0 rfl) ?_
          refine r_get (S := Z) (v := .int (Z.1 12)) hx hb hts hin hown hK hP 12 (by decide) (by decide +kernel) rfl rfl dX2_follow_32 ?_
          refine lv_iconst (v := 1) hx hb dX2_follow_35 (by decide) ?_
          refine lv_icmp_ne (tgt := 46) hx hb dX2_follow_36 (by decide) (fun c4 => ?_) (fun c4 => ?_)
          · exact absurd c3 c4
          · refine lv_aload_n hx hb dX2_follow_39 rfl (lv_at hl 0 rfl) ?_
            refine m_callv (As := []) (rest := []) ⟨hx, hb, hml, hown, hts⟩ (c_X2_sink l D cI cZ a ha n Z hok ) (cwV 0 hts gX2_follow_X2_sink rfl rfl rfl (by decide +kernel) ⟨Nat.le_of_ble_eq_true rfl, Nat.le_of_ble_eq_true rfl⟩) hK hP hS (fun q h => wA_up hS.1 q h) (va_recv hK hP (ci := 3) (q0 := 0) rfl rfl) rfl hl.1 rfl (Nat.le_of_ble_eq_true rfl) dX2_follow_40 ⟨Nat.zero_le _, Nat.zero_le _⟩ (fun H locs hP hS _ => ?_)
            have hok : rOk n (R_sink n Z) := R_sink_ok n Z hok
            refine lv_goto (tgt := 50) hx hb dX2_follow_43 (by decide) ?_
            refine lv_iinc (v := nI ((40 - (f + 1)) + 1)) (lv' := [(1, .int (nI ((40 - (f + 1)) + 1))), (0, .ref (a 0))]) hx hb dX2_follow_50 hl (k := 1) rfl (nI_1 _) (by decide) rfl (fun ls hl => ?_)
            refine lv_goto (tgt := 2) hx hb dX2_follow_53 (by decide) ?_
            exact ih (f, (R_sink n Z)) H locs ls (Nat.lt_succ_self f) ⟨by omega, by rw [← hw]; first | (simp only [R_follow_w, if_neg c2, if_pos c3]; done) | (simp only [R_follow_w, if_neg c2, if_pos c3]; rfl), hok, hP, hS, by show lv_has ls 2 [(0, .ref (a 0)), (1, .int (nI (40 - f)))]; rw [show 40 - f = 40 - (f + 1) + 1 by omega]; exact lv_sub hl [1, 0] rfl⟩
        · refine lv_aload_n hx hb dX2_follow_23 rfl (lv_at hl 0 rfl) ?_
          refine r_get (S := Z) (v := .int (Z.1 12)) hx hb hts hin hown hK hP 12 (by decide) (by decide +kernel) rfl rfl dX2_follow_24 ?_
          refine lv_iconst (v := 2) hx hb dX2_follow_27 (by decide) ?_
          refine lv_icmp_le (tgt := 56) hx hb dX2_follow_28 (by decide) (fun c5 => ?_) (fun c5 => ?_)
          · have hE : R_follow n S = Z := by rw [← hw]; first | (simp only [R_follow_w, if_neg c2, if_neg c3, if_pos c5]; done) | (simp only [R_follow_w, if_neg c2, if_neg c3, if_pos c5]; rfl)
            exact W.vret hx hb hr (fun tt ht hW => ⟨⟨(), rfl, trivial, by rw [ht, hE]; exact hP, va_K.moved hW.alike hK⟩, hS.F ht⟩) hS.2.2 dX2_follow_56
          · refine lv_aload_n hx hb dX2_follow_31 rfl (lv_at hl 0 rfl) ?_
            refine r_get (S := Z) (v := .int (Z.1 12)) hx hb hts hin hown hK hP 12 (by decide) (by decide +kernel) rfl rfl dX2_follow_32 ?_
            refine lv_iconst (v := 1) hx hb dX2_follow_35 (by decide) ?_
            refine lv_icmp_ne (tgt := 46) hx hb dX2_follow_36 (by decide) (fun c6 => ?_) (fun c6 => ?_)
            · refine lv_aload_n hx hb dX2_follow_46 rfl (lv_at hl 0 rfl) ?_
              refine m_callv (As := []) (rest := []) ⟨hx, hb, hml, hown, hts⟩ (c_X2_rise l D cI cZ a ha n Z hok ) (cwV 0 hts gX2_follow_X2_rise rfl rfl rfl (by decide +kernel) ⟨Nat.le_of_ble_eq_true rfl, Nat.le_of_ble_eq_true rfl⟩) hK hP hS (fun q h => wA_up hS.1 q h) (va_recv hK hP (ci := 3) (q0 := 0) rfl rfl) rfl hl.1 rfl (Nat.le_of_ble_eq_true rfl) dX2_follow_47 ⟨Nat.zero_le _, Nat.zero_le _⟩ (fun H locs hP hS _ => ?_)
              have hok : rOk n (R_rise n Z) := R_rise_ok n Z hok
              refine lv_iinc (v := nI ((40 - (f + 1)) + 1)) (lv' := [(1, .int (nI ((40 - (f + 1)) + 1))), (0, .ref (a 0))]) hx hb dX2_follow_50 hl (k := 1) rfl (nI_1 _) (by decide) rfl (fun ls hl => ?_)
              refine lv_goto (tgt := 2) hx hb dX2_follow_53 (by decide) ?_
              exact ih (f, (R_rise n Z)) H locs ls (Nat.lt_succ_self f) ⟨by omega, by rw [← hw]; first | (simp only [R_follow_w, if_neg c2, if_neg c3, if_neg c5]; done) | (simp only [R_follow_w, if_neg c2, if_neg c3, if_neg c5]; rfl), hok, hP, hS, by show lv_has ls 2 [(0, .ref (a 0)), (1, .int (nI (40 - f)))]; rw [show 40 - f = 40 - (f + 1) + 1 by omega]; exact lv_sub hl [1, 0] rfl⟩
            · exact absurd c6 c3
