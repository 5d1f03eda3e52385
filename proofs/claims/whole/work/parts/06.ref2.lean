def R_line_w (S : rSt) : Nat → Int32 → Int32
  | 0, x => x
  | r + 1, x => R_line_w S r (if (x >>> (nI r &&& 31)) &&& 1 = 1 then x ||| S.2 1 r else x)
def R_line (n : Nat) (S : rSt) (d : Nat) : Int32 := R_line_w S (d + 1) (1 <<< (nI d &&& 31))

set_option maxHeartbeats 4000000 in
set_option maxRecDepth 100000 in
theorem c_X2_line (l : Launch) (D : va_G) (cI cZ : ClassId) (a : Nat → Nat) (ha : (rL a).Nodup) (n : Nat) (S : rSt) (hok : rOk n S) (d : Nat) (hd : d < n) : mR l yX2_line wsX2_line (rmz 0 0) D (rT cI cZ) [.ref (a 0), .int (nI d)] (rW cI cZ a S) (R_line n S d) := by
  refine Met.ofW (cc := cX2_line) (maxL := 4) (ret := (some .int)) (by decide) rfl ?_
  intro p e s m args below meth c s₁ B hml hv
  obtain ⟨rfl, hP, hK⟩ := hv
  have hx := B.exec
  have hb := B.bytes
  have hr := B.returns
  have hts := atoms_spec (ws := wsX2_line) B.pre
  have hin : ∀ w ∈ wsX20, w ∈ wsX2_line := fun w h => List.mem_cons_of_mem _ (List.mem_append_right _ h)
  have hown : s.vm.findClass RX2 = some m.cls := findClass_of_methodNamed B.named
  have hlocks := B.notSynchronized
  have hn12 : n ≤ 12 := hok.2.1
  have hl := lv_entry ([.ref (a 0), .int (nI d)]) (n := 4) (Nat.le_of_ble_eq_true rfl)
  rw [lg_entry_eq]
  generalize (lg_sl ([.ref (a 0), .int (nI d)]) ++ List.replicate (4 - (lg_sl ([.ref (a 0), .int (nI d)])).length) Slot.unset).toArray = ls at hl ⊢
  have hl : lv_has ls 4 [(0, .ref (a 0)), (1, .int (nI d))] := hl
  refine lv_iconst (v := 1) hx hb dX2_line_0 (by decide) ?_
  refine lv_iload_n hx hb dX2_line_1 rfl (lv_at hl 1 rfl) ?_
  refine lv_ishl hx hb dX2_line_2 ?_
  refine lv_istore_n (lv' := [(2, .int (1 <<< ((nI d) &&& 31))), (0, .ref (a 0)), (1, .int (nI d))]) hx hb dX2_line_3 rfl hl (by decide) rfl (fun ls hl => ?_)
  refine lv_iload_n hx hb dX2_line_4 rfl (lv_at hl 2 rfl) ?_
  refine lv_istore_n (lv' := [(3, .int (nI d)), (2, .int (1 <<< ((nI d) &&& 31))), (0, .ref (a 0)), (1, .int (nI d))]) hx hb dX2_line_5 rfl hl (by decide) rfl (fun ls hl => ?_)
  refine w_loop (σ := Nat × Int32) (I := fun z H locs ls => z.1 ≤ d + 1 ∧ R_line_w S z.1 z.2 = R_line n S d ∧ H = s.heap ∧ locs = [] ∧ lv_has ls 4 [(0, .ref (a 0)), (1, .int (nI d)), (2, .int z.2), (3, .int (nI z.1 - 1))]) (fun z => z.1) ?_ (d + 1, 1 <<< (nI d &&& 31)) ⟨Nat.le_refl _, rfl, rfl, rfl, by show lv_has ls 4 [(0, .ref (a 0)), (1, .int (nI d)), (2, .int (1 <<< (nI d &&& 31))), (3, .int (nI (d + 1) - 1))]; rw [nI_pred]; exact lv_sub hl [2, 3, 1, 0] rfl⟩
  intro z H locs ls hI ih
  obtain ⟨r, x⟩ := z
  dsimp only at hI
  obtain ⟨hr1, hw, rfl, rfl, hl⟩ := hI
  rcases r with _ | r
  · rw [show nI 0 - 1 = (-1 : Int32) from by decide] at hl
    refine lv_iload_n hx hb dX2_line_6 rfl (lv_at hl 3 rfl) ?_
    refine lv_if_lt (tgt := 38) hx hb dX2_line_7 (by decide) (fun c1 => ?_) (fun c1 => ?_)
    · refine lv_iload_n hx hb dX2_line_38 rfl (lv_at hl 2 rfl) ?_
      have hE : R_line n S d = x := by exact hw.symm
      exact W.iret (v := x) hx hb hr (fun tt ht hW => ⟨x, rfl, hE.symm, ht⟩) (fun q hq => by cases hq) dX2_line_39
    · exact absurd (by decide) c1
  · rw [nI_pred] at hl
    refine lv_iload_n hx hb dX2_line_6 rfl (lv_at hl 3 rfl) ?_
    refine lv_if_lt (tgt := 38) hx hb dX2_line_7 (by decide) (fun c2 => ?_) (fun c2 => ?_)
    · exact absurd c2 (nI_pos (by omega))
    · refine lv_iload_n hx hb dX2_line_10 rfl (lv_at hl 2 rfl) ?_
      refine lv_iload_n hx hb dX2_line_11 rfl (lv_at hl 3 rfl) ?_
      refine lv_ishr hx hb dX2_line_12 ?_
      refine lv_iconst (v := 1) hx hb dX2_line_13 (by decide) ?_
      refine lv_iand hx hb dX2_line_14 ?_
      refine lv_iconst (v := 1) hx hb dX2_line_15 (by decide) ?_
      refine lv_icmp_ne (tgt := 30) hx hb dX2_line_16 (by decide) (fun c3 => ?_) (fun c3 => ?_)
      · refine lv_iload_n hx hb dX2_line_30 rfl (lv_at hl 2 rfl) ?_
        refine lv_istore_n (lv' := [(2, .int x), (0, .ref (a 0)), (1, .int (nI d)), (3, .int (nI r))]) hx hb dX2_line_31 rfl hl (by decide) rfl (fun ls hl => ?_)
        refine lv_iinc (v := nI r - 1) (lv' := [(3, .int (nI r - 1)), (2, .int x), (0, .ref (a 0)), (1, .int (nI d))]) hx hb dX2_line_32 hl (k := 3) rfl (by rw [Int32.sub_eq_add_neg]; rfl) (by decide) rfl (fun ls hl => ?_)
        refine lv_goto (tgt := 6) hx hb dX2_line_35 (by decide) ?_
        exact ih (r, x) _ _ ls (Nat.lt_succ_self r) ⟨by omega, by rw [← hw]; first | (simp only [R_line_w, if_neg c3]; done) | (simp only [R_line_w, if_neg c3]; rfl), rfl, rfl, lv_sub hl [2, 3, 1, 0] rfl⟩
      · refine lv_iload_n hx hb dX2_line_19 rfl (lv_at hl 2 rfl) ?_
        refine lv_aload_n hx hb dX2_line_20 rfl (lv_at hl 0 rfl) ?_
        refine r_get (S := S) (v := .ref (a 1)) hx hb hts hin hown hK hP 1 (by decide) (by decide +kernel) rfl rfl dX2_line_21 ?_
        refine lv_iload_n hx hb dX2_line_24 rfl (lv_at hl 3 rfl) ?_
        refine r_ald (S := S) (x := S.2 1 r) hx hb hK hP 1 (by decide) (j := r) (by omega) rfl dX2_line_25 ?_
        refine lv_ior hx hb dX2_line_26 ?_
        refine lv_goto (tgt := 31) hx hb dX2_line_27 (by decide) ?_
        refine lv_istore_n (lv' := [(2, .int (x ||| (S.2 1 r))), (0, .ref (a 0)), (1, .int (nI d)), (3, .int (nI r))]) hx hb dX2_line_31 rfl hl (by decide) rfl (fun ls hl => ?_)
        refine lv_iinc (v := nI r - 1) (lv' := [(3, .int (nI r - 1)), (2, .int (x ||| (S.2 1 r))), (0, .ref (a 0)), (1, .int (nI d))]) hx hb dX2_line_32 hl (k := 3) rfl (by rw [Int32.sub_eq_add_neg]; rfl) (by decide) rfl (fun ls hl => ?_)
        refine lv_goto (tgt := 6) hx hb dX2_line_35 (by decide) ?_
        exact ih (r, x ||| (S.2 1 r)) _ _ ls (Nat.lt_succ_self r) ⟨by omega, by rw [← hw]; first | (simp only [R_line_w, if_pos c3]; done) | (simp only [R_line_w, if_pos c3]; rfl), rfl, rfl, lv_sub hl [2, 3, 1, 0] rfl⟩

def R_next_b (S : rSt) (ly : Int32) (k : Nat) (x : Int32) : Int32 := if (ly >>> (nI k &&& 31)) &&& 1 = 1 then x ||| S.2 1 k else x
def R_next_it (n : Nat) (S : rSt) (ly : Int32) : Nat → Int32
  | 0 => 0
  | k + 1 => R_next_b S ly k (R_next_it n S ly k)
theorem R_next_lb {n : Nat} {S : rSt} {ly : Int32} {f : Nat} (hok : rOk n S) (h : lb ly (f + 1)) : ∀ k, k ≤ n → lb (R_next_it n S ly k) f
  | 0, _ => lb_0 f
  | k + 1, hk => by
    have h12 := hok.2.1
    show lb (R_next_b S ly k (R_next_it n S ly k)) f
    unfold R_next_b
    split
    · rename_i hc
      have hb := (b_tst (by omega)).mp hc
      have hkf : k < f + 1 := by
        rcases Nat.lt_or_ge k (f + 1) with h2 | h2
        · exact h2
        · rw [h k h2] at hb; cases hb
      exact lb_or (R_next_lb hok h k (by omega)) (lb_up (hok.2.2 k (by omega)) (by omega))
    · exact R_next_lb hok h k (by omega)
def R_depth_w (n : Nat) (S : rSt) : Nat → Int32 → Int32 → Int32
  | 0, _, dp => dp
  | f + 1, ly, dp => if ly = 0 then dp else R_depth_w n S f (R_next_it n S ly n) (dp + 1)
def R_depth (n : Nat) (S : rSt) (d : Nat) : Int32 := R_depth_w n S (d + 1) (S.2 1 d) 0

set_option maxHeartbeats 4000000 in
set_option maxRecDepth 100000 in
theorem c_X2_depth (l : Launch) (D : va_G) (cI cZ : ClassId) (a : Nat → Nat) (ha : (rL a).Nodup) (n : Nat) (S : rSt) (hok : rOk n S) (d : Nat) (hd : d < n) : mR l yX2_depth wsX2_depth (rmz 0 0) D (rT cI cZ) [.ref (a 0), .int (nI d)] (rW cI cZ a S) (R_depth n S d) := by
  refine Met.ofW (cc := cX2_depth) (maxL := 6) (ret := (some .int)) (by decide) rfl ?_
  intro p e s m args below meth c s₁ B hml hv
  obtain ⟨rfl, hP, hK⟩ := hv
  have hx := B.exec
  have hb := B.bytes
  have hr := B.returns
  have hts := atoms_spec (ws := wsX2_depth) B.pre
  have hin : ∀ w ∈ wsX20, w ∈ wsX2_depth := fun w h => List.mem_cons_of_mem _ (List.mem_append_right _ h)
  have hown : s.vm.findClass RX2 = some m.cls := findClass_of_methodNamed B.named
  have hlocks := B.notSynchronized
  have hn12 : n ≤ 12 := hok.2.1
  have hl := lv_entry ([.ref (a 0), .int (nI d)]) (n := 6) (Nat.le_of_ble_eq_true rfl)
  rw [lg_entry_eq]
  generalize (lg_sl ([.ref (a 0), .int (nI d)]) ++ List.replicate (6 - (lg_sl ([.ref (a 0), .int (nI d)])).length) Slot.unset).toArray = ls at hl ⊢
  have hl : lv_has ls 6 [(0, .ref (a 0)), (1, .int (nI d))] := hl
  refine lv_iconst (v := 0) hx hb dX2_depth_0 (by decide) ?_
  refine lv_istore_n (lv' := [(2, .int 0), (0, .ref (a 0)), (1, .int (nI d))]) hx hb dX2_depth_1 rfl hl (by decide) rfl (fun ls hl => ?_)
  refine lv_aload_n hx hb dX2_depth_2 rfl (lv_at hl 1 rfl) ?_
  refine r_get (S := S) (v := .ref (a 1)) hx hb hts hin hown hK hP 1 (by decide) (by decide +kernel) rfl rfl dX2_depth_3 ?_
  refine lv_iload_n hx hb dX2_depth_6 rfl (lv_at hl 2 rfl) ?_
  refine r_ald (S := S) (x := S.2 1 d) hx hb hK hP 1 (by decide) (j := d) (by omega) rfl dX2_depth_7 ?_
  refine lv_istore_n (lv' := [(3, .int (S.2 1 d)), (2, .int 0), (0, .ref (a 0)), (1, .int (nI d))]) hx hb dX2_depth_8 rfl hl (by decide) rfl (fun ls hl => ?_)
  refine w_loop (σ := Nat × Int32 × Int32) (I := fun z H locs ls => z.1 ≤ 12 ∧ lb z.2.1 z.1 ∧ R_depth_w n S (z.1 + 1) z.2.1 z.2.2 = R_depth n S d ∧ H = s.heap ∧ locs = [] ∧ lv_has ls 6 [(0, .ref (a 0)), (1, .int (nI d)), (2, .int z.2.2), (3, .int (z.2.1))]) (fun z => z.1) ?_ (d, S.2 1 d, 0) ⟨by omega, hok.2.2 d hd, rfl, rfl, rfl, lv_sub hl [2, 3, 1, 0] rfl⟩
  intro z H locs ls hI ih
  obtain ⟨f, ly, dp⟩ := z
  dsimp only at hI
  obtain ⟨hf, hlb, hw, rfl, rfl, hl⟩ := hI
  refine lv_iload_n hx hb dX2_depth_9 rfl (lv_at hl 3 rfl) ?_
  refine lv_if_eq (tgt := 70) hx hb dX2_depth_10 (by decide) (fun c1 => ?_) (fun c1 => ?_)
  · refine lv_iload_n hx hb dX2_depth_70 rfl (lv_at hl 2 rfl) ?_
    have hE : R_depth n S d = dp := by rw [← hw]; simp only [R_depth_w, if_pos c1]
    exact W.iret (v := dp) hx hb hr (fun tt ht hW => ⟨dp, rfl, hE.symm, ht⟩) (fun q hq => by cases hq) dX2_depth_71
  · refine lv_iconst (v := 0) hx hb dX2_depth_13 (by decide) ?_
    refine lv_istore (lv' := [(4, .int 0), (0, .ref (a 0)), (1, .int (nI d)), (2, .int dp), (3, .int ly)]) hx hb dX2_depth_14 hl (by decide) rfl (fun ls hl => ?_)
    refine lv_iconst (v := 0) hx hb dX2_depth_16 (by decide) ?_
    refine lv_istore (lv' := [(5, .int 0), (4, .int 0), (0, .ref (a 0)), (1, .int (nI d)), (2, .int dp), (3, .int ly)]) hx hb dX2_depth_17 hl (by decide) rfl (fun ls hl => ?_)
    refine w_loop (σ := Nat) (I := fun k2 H locs ls => k2 ≤ n ∧ H = s.heap ∧ locs = [] ∧ lv_has ls 6 [(0, .ref (a 0)), (1, .int (nI d)), (2, .int dp), (3, .int ly), (4, .int ((R_next_it n S ly k2))), (5, .int (nI k2))]) (fun k2 => n - k2) ?_ 0 ⟨Nat.zero_le _, rfl, rfl, lv_sub hl [2, 3, 4, 5, 1, 0] rfl⟩
    intro k2 H locs ls hI ih
    obtain ⟨hk, rfl, rfl, hl⟩ := hI
    refine lv_iload hx hb dX2_depth_19 (lv_at hl 5 rfl) ?_
    refine lv_aload_n hx hb dX2_depth_21 rfl (lv_at hl 0 rfl) ?_
    refine r_get (S := S) (v := .int (nI n)) hx hb hts hin hown hK hP 0 (by decide) (by decide +kernel) rfl (congrArg (fun z => some (Value.int z)) hok.1) dX2_depth_22 ?_
    refine lv_icmp_ge (tgt := 61) hx hb dX2_depth_25 (by decide) (fun c3 => ?_) (fun c3 => ?_)
    · have hkn : k2 = n := Nat.le_antisymm hk ((nI_leI (by omega) (by omega)).mp c3)
      rw [hkn] at hl
      refine lv_iload hx hb dX2_depth_61 (lv_at hl 4 rfl) ?_
      refine lv_istore_n (lv' := [(3, .int ((R_next_it n S ly n))), (0, .ref (a 0)), (1, .int (nI d)), (2, .int dp), (4, .int ((R_next_it n S ly n))), (5, .int (nI n))]) hx hb dX2_depth_63 rfl hl (by decide) rfl (fun ls hl => ?_)
      refine lv_iinc (v := dp + 1) (lv' := [(2, .int (dp + 1)), (3, .int ((R_next_it n S ly n))), (0, .ref (a 0)), (1, .int (nI d)), (4, .int ((R_next_it n S ly n))), (5, .int (nI n))]) hx hb dX2_depth_64 hl (k := 3) rfl rfl (by decide) rfl (fun ls hl => ?_)
      refine lv_goto (tgt := 9) hx hb dX2_depth_67 (by decide) ?_
      obtain ⟨f, rfl⟩ : ∃ f1, f = f1 + 1 := by
        rcases f with _ | f
        · exact absurd (lb_zero hlb) c1
        · exact ⟨f, rfl⟩
      exact ih (f, R_next_it n S ly n, dp + 1) _ _ ls (Nat.lt_succ_self f) ⟨by omega, R_next_lb hok hlb n (Nat.le_refl n), by rw [← hw]; simp only [R_depth_w, if_neg c1], rfl, rfl, lv_sub hl [2, 3, 0, 1] rfl⟩
    · have hlt : k2 < n := Nat.lt_of_not_le (fun z => c3 ((nI_leI (by omega) (by omega)).mpr z))
      refine lv_iload_n hx hb dX2_depth_28 rfl (lv_at hl 3 rfl) ?_
      refine lv_iload hx hb dX2_depth_29 (lv_at hl 5 rfl) ?_
      refine lv_ishr hx hb dX2_depth_31 ?_
      refine lv_iconst (v := 1) hx hb dX2_depth_32 (by decide) ?_
      refine lv_iand hx hb dX2_depth_33 ?_
      refine lv_iconst (v := 1) hx hb dX2_depth_34 (by decide) ?_
      refine lv_icmp_ne (tgt := 51) hx hb dX2_depth_35 (by decide) (fun c4 => ?_) (fun c4 => ?_)
      · refine lv_iload hx hb dX2_depth_51 (lv_at hl 4 rfl) ?_
        refine lv_istore (lv' := [(4, .int ((R_next_it n S ly k2))), (0, .ref (a 0)), (1, .int (nI d)), (2, .int dp), (3, .int ly), (5, .int (nI k2))]) hx hb dX2_depth_53 hl (by decide) rfl (fun ls hl => ?_)
        refine lv_iinc (v := nI (k2 + 1)) (lv' := [(5, .int (nI (k2 + 1))), (4, .int ((R_next_it n S ly k2))), (0, .ref (a 0)), (1, .int (nI d)), (2, .int dp), (3, .int ly)]) hx hb dX2_depth_55 hl (k := 5) rfl (nI_1 _) (by decide) rfl (fun ls hl => ?_)
        refine lv_goto (tgt := 19) hx hb dX2_depth_58 (by decide) ?_
        have hE : R_next_it n S ly (k2 + 1) = (R_next_it n S ly k2) := by show R_next_b S ly k2 (R_next_it n S ly k2) = _; first | (simp only [R_next_b, if_neg c4]; done) | (simp only [R_next_b, if_neg c4]; rfl)
        exact ih (k2 + 1) _ _ ls (by omega) ⟨by omega, rfl, rfl, by rw [hE]; exact lv_sub hl [2, 3, 4, 5, 1, 0] rfl⟩
      · refine lv_iload hx hb dX2_depth_38 (lv_at hl 4 rfl) ?_
        refine lv_aload_n hx hb dX2_depth_40 rfl (lv_at hl 0 rfl) ?_
        refine r_get (S := S) (v := .ref (a 1)) hx hb hts hin hown hK hP 1 (by decide) (by decide +kernel) rfl rfl dX2_depth_41 ?_
        refine lv_iload hx hb dX2_depth_44 (lv_at hl 5 rfl) ?_
        refine r_ald (S := S) (x := S.2 1 k2) hx hb hK hP 1 (by decide) (j := k2) (by omega) rfl dX2_depth_46 ?_
        refine lv_ior hx hb dX2_depth_47 ?_
        refine lv_goto (tgt := 53) hx hb dX2_depth_48 (by decide) ?_
        refine lv_istore (lv' := [(4, .int ((R_next_it n S ly k2) ||| (S.2 1 k2))), (0, .ref (a 0)), (1, .int (nI d)), (2, .int dp), (3, .int ly), (5, .int (nI k2))]) hx hb dX2_depth_53 hl (by decide) rfl (fun ls hl => ?_)
        refine lv_iinc (v := nI (k2 + 1)) (lv' := [(5, .int (nI (k2 + 1))), (4, .int ((R_next_it n S ly k2) ||| (S.2 1 k2))), (0, .ref (a 0)), (1, .int (nI d)), (2, .int dp), (3, .int ly)]) hx hb dX2_depth_55 hl (k := 5) rfl (nI_1 _) (by decide) rfl (fun ls hl => ?_)
        refine lv_goto (tgt := 19) hx hb dX2_depth_58 (by decide) ?_
        have hE : R_next_it n S ly (k2 + 1) = (R_next_it n S ly k2) ||| (S.2 1 k2) := by show R_next_b S ly k2 (R_next_it n S ly k2) = _; first | (simp only [R_next_b, if_pos c4]; done) | (simp only [R_next_b, if_pos c4]; rfl)
        exact ih (k2 + 1) _ _ ls (by omega) ⟨by omega, rfl, rfl, by rw [hE]; exact lv_sub hl [2, 3, 4, 5, 1, 0] rfl⟩

def R_earlier (n : Nat) (S : rSt) (x : Nat) (y : Nat) : Int32 :=
  if R_depth n S x = R_depth n S y then (if nI y ≤ nI x then 0
    else 1)
  else if R_depth n S y ≤ R_depth n S x then 0
  else 1
set_option maxHeartbeats 4000000 in
set_option maxRecDepth 100000 in
theorem c_X2_earlier (l : Launch) (D : va_G) (cI cZ : ClassId) (a : Nat → Nat) (ha : (rL a).Nodup) (n : Nat) (S : rSt) (hok : rOk n S) (x : Nat) (hx : x < n) (y : Nat) (hy : y < n) : mR l yX2_earlier wsX2_earlier (rmz 1 25) D (rT cI cZ) [.ref (a 0), .int (nI x), .int (nI y)] (rW cI cZ a S) (R_earlier n S x y) := by
  refine Met.ofW (cc := cX2_earlier) (maxL := 5) (ret := (some .boolean)) (by decide) rfl ?_
  intro p e s m args below meth c s₁ B hml hv
  obtain ⟨rfl, hP, hK⟩ := hv
  have hx := B.exec
  have hb := B.bytes
  have hr := B.returns
  have hts := atoms_spec (ws := wsX2_earlier) B.pre
  have hin : ∀ w ∈ wsX20, w ∈ wsX2_earlier := fun w h => List.mem_cons_of_mem _ (List.mem_append_right _ h)
  have hown : s.vm.findClass RX2 = some m.cls := findClass_of_methodNamed B.named
  have hlocks := B.notSynchronized
  have hn12 : n ≤ 12 := hok.2.1
  have hl := lv_entry ([.ref (a 0), .int (nI x), .int (nI y)]) (n := 5) (Nat.le_of_ble_eq_true rfl)
  rw [lg_entry_eq]
  generalize (lg_sl ([.ref (a 0), .int (nI x), .int (nI y)]) ++ List.replicate (5 - (lg_sl ([.ref (a 0), .int (nI x), .int (nI y)])).length) Slot.unset).toArray = ls at hl ⊢
  have hl : lv_has ls 5 [(0, .ref (a 0)), (1, .int (nI x)), (2, .int (nI y))] := hl
  refine lv_aload_n hx hb dX2_earlier_0 rfl (lv_at hl 0 rfl) ?_
  refine lv_iload_n hx hb dX2_earlier_1 rfl (lv_at hl 1 rfl) ?_
  refine m_callR (As := [.int (nI x)]) (rest := []) ⟨hx, hb, hml, hown, hts⟩ (c_X2_depth l D cI cZ a ha n S hok x (by omega)) (cwV 1 hts gX2_earlier_X2_depth rfl rfl rfl (by decide +kernel) ⟨Nat.le_of_ble_eq_true rfl, Nat.le_of_ble_eq_true rfl⟩) hK hP (va_recv hK hP (ci := 3) (q0 := 0) rfl rfl) rfl hl.1 rfl (Nat.le_of_ble_eq_true rfl) dX2_earlier_2 ⟨Nat.zero_le _, Nat.zero_le _⟩ ?_
  refine lv_istore_n (lv' := [(3, .int (R_depth n S x)), (0, .ref (a 0)), (1, .int (nI x)), (2, .int (nI y))]) hx hb dX2_earlier_5 rfl hl (by decide) rfl (fun ls hl => ?_)
  refine lv_aload_n hx hb dX2_earlier_6 rfl (lv_at hl 1 rfl) ?_
  refine lv_iload_n hx hb dX2_earlier_7 rfl (lv_at hl 3 rfl) ?_
  refine m_callR (As := [.int (nI y)]) (rest := []) ⟨hx, hb, hml, hown, hts⟩ (c_X2_depth l D cI cZ a ha n S hok y (by omega)) (cwV 1 hts gX2_earlier_X2_depth rfl rfl rfl (by decide +kernel) ⟨Nat.le_of_ble_eq_true rfl, Nat.le_of_ble_eq_true rfl⟩) hK hP (va_recv hK hP (ci := 3) (q0 := 0) rfl rfl) rfl hl.1 rfl (Nat.le_of_ble_eq_true rfl) dX2_earlier_8 ⟨Nat.zero_le _, Nat.zero_le _⟩ ?_
  refine lv_istore (lv' := [(4, .int (R_depth n S y)), (3, .int (R_depth n S x)), (0, .ref (a 0)), (1, .int (nI x)), (2, .int (nI y))]) hx hb dX2_earlier_11 hl (by decide) rfl (fun ls hl => ?_)
  refine lv_iload_n hx hb dX2_earlier_13 rfl (lv_at hl 1 rfl) ?_
  refine lv_iload hx hb dX2_earlier_14 (lv_at hl 0 rfl) ?_
  refine lv_icmp_eq (tgt := 33) hx hb dX2_earlier_16 (by decide) (fun c1 => ?_) (fun c1 => ?_)
  · refine lv_iload_n hx hb dX2_earlier_33 rfl (lv_at hl 3 rfl) ?_
    refine lv_iload_n hx hb dX2_earlier_34 rfl (lv_at hl 4 rfl) ?_
    refine lv_icmp_ge (tgt := 42) hx hb dX2_earlier_35 (by decide) (fun c2 => ?_) (fun c2 => ?_)
    · have c2n : y ≤ x := (nI_leI (by omega) (by omega)).mp c2
      refine lv_iconst (v := 0) hx hb dX2_earlier_42 (by decide) ?_
      have hE : R_earlier n S x y = 0 := by first | (simp only [R_earlier, if_pos c1, if_pos c2]; done) | (simp only [R_earlier, if_pos c1, if_pos c2]; rfl)
      exact W.zret (v := 0) hx hb hr rfl (fun tt ht hW => ⟨0, rfl, hE.symm, ht⟩) (fun q hq => by cases hq) dX2_earlier_43
    · have c2n : ¬ y ≤ x := fun z => c2 ((nI_leI (by omega) (by omega)).mpr z)
      refine lv_iconst (v := 1) hx hb dX2_earlier_38 (by decide) ?_
      refine lv_goto (tgt := 43) hx hb dX2_earlier_39 (by decide) ?_
      have hE : R_earlier n S x y = 1 := by first | (simp only [R_earlier, if_pos c1, if_neg c2]; done) | (simp only [R_earlier, if_pos c1, if_neg c2]; rfl)
      exact W.zret (v := 1) hx hb hr rfl (fun tt ht hW => ⟨1, rfl, hE.symm, ht⟩) (fun q hq => by cases hq) dX2_earlier_43
  · refine lv_iload_n hx hb dX2_earlier_19 rfl (lv_at hl 1 rfl) ?_
    refine lv_iload hx hb dX2_earlier_20 (lv_at hl 0 rfl) ?_
    refine lv_icmp_ge (tgt := 29) hx hb dX2_earlier_22 (by decide) (fun c3 => ?_) (fun c3 => ?_)
    · refine lv_iconst (v := 0) hx hb dX2_earlier_29 (by decide) ?_
      refine lv_goto (tgt := 43) hx hb dX2_earlier_30 (by decide) ?_
      have hE : R_earlier n S x y = 0 := by first | (simp only [R_earlier, if_neg c1, if_pos c3]; done) | (simp only [R_earlier, if_neg c1, if_pos c3]; rfl)
      exact W.zret (v := 0) hx hb hr rfl (fun tt ht hW => ⟨0, rfl, hE.symm, ht⟩) (fun q hq => by cases hq) dX2_earlier_43
    · refine lv_iconst (v := 1) hx hb dX2_earlier_25 (by decide) ?_
      refine lv_goto (tgt := 43) hx hb dX2_earlier_26 (by decide) ?_
      have hE : R_earlier n S x y = 1 := by first | (simp only [R_earlier, if_neg c1, if_neg c3]; done) | (simp only [R_earlier, if_neg c1, if_neg c3]; rfl)
      exact W.zret (v := 1) hx hb hr rfl (fun tt ht hW => ⟨1, rfl, hE.symm, ht⟩) (fun q hq => by cases hq) dX2_earlier_43

def R_use (n : Nat) (S : rSt) (d : Int32) : Int32 × rSt :=
  if inR n d = true then (if S.1 12 = 0 then ((R_rouse n (S.1, up2 (S.2) 7 (d.toNatClampNeg) ((S.2 7 (d.toNatClampNeg)) + 1)) (R_line n (S.1, up2 (S.2) 7 (d.toNatClampNeg) ((S.2 7 (d.toNatClampNeg)) + 1)) (d.toNatClampNeg))).1, (R_rouse n (S.1, up2 (S.2) 7 (d.toNatClampNeg) ((S.2 7 (d.toNatClampNeg)) + 1)) (R_line n (S.1, up2 (S.2) 7 (d.toNatClampNeg) ((S.2 7 (d.toNatClampNeg)) + 1)) (d.toNatClampNeg))).2)
    else ((-3), S))
  else ((-2), S)
theorem R_use_sm (n : Nat) (S : rSt) (d : Int32) : rSm S (R_use n S d).2 := by
  unfold R_use
  repeat' split
  all_goals first | exact ⟨rfl, rfl⟩ | exact rSm.tr ⟨rfl, rfl⟩ (R_rouse_it_sm _ _ _ _)
theorem R_use_ok (n : Nat) (S : rSt) (d : Int32) (hok : rOk n S) : rOk n (R_use n S d).2 := rOk_of (R_use_sm n S d) hok
set_option maxHeartbeats 4000000 in
set_option maxRecDepth 100000 in
theorem c_X2_use (l : Launch) (D : va_G) (cI cZ : ClassId) (a : Nat → Nat) (ha : (rL a).Nodup) (n : Nat) (S : rSt) (hok : rOk n S) (d : Int32) : mI l yX2_use wsX2_use (rmz 1 23) D (rT cI cZ) (rL a) [.ref (a 0), .int d] (rW cI cZ a S) (R_use n S d).1 (rW cI cZ a (R_use n S d).2) := by
  intro sz
  refine Met.ofW (cc := cX2_use) (maxL := 2) (ret := (some .int)) (by decide) rfl ?_
  intro p e s m args below meth c s₁ B hml hv
  obtain ⟨rfl, hsz, hP, hK⟩ := hv
  have hx := B.exec
  have hb := B.bytes
  have hr := B.returns
  have hts := atoms_spec (ws := wsX2_use) B.pre
  have hin : ∀ w ∈ wsX20, w ∈ wsX2_use := fun w h => List.mem_cons_of_mem _ (List.mem_append_right _ h)
  have hown : s.vm.findClass RX2 = some m.cls := findClass_of_methodNamed B.named
  have hlocks := B.notSynchronized
  have hn12 : n ≤ 12 := hok.2.1
  subst hsz
  have hS : va_S (wA (rL a) s.heap.size) s.heap s.heap [] := va_S.rf
  have hl := lv_entry ([.ref (a 0), .int d]) (n := 2) (Nat.le_of_ble_eq_true rfl)
  rw [lg_entry_eq]
  generalize (lg_sl ([.ref (a 0), .int d]) ++ List.replicate (2 - (lg_sl ([.ref (a 0), .int d])).length) Slot.unset).toArray = ls at hl ⊢
  have hl : lv_has ls 2 [(0, .ref (a 0)), (1, .int d)] := hl
  refine lv_aload_n hx hb dX2_use_0 rfl (lv_at hl 0 rfl) ?_
  refine lv_iload_n hx hb dX2_use_1 rfl (lv_at hl 1 rfl) ?_
  refine m_callR (As := [.int d]) (rest := []) ⟨hx, hb, hml, hown, hts⟩ (c_X2_none l D cI cZ a ha n S hok d) (cwV 1 hts gX2_use_X2_none rfl rfl rfl (by decide +kernel) ⟨Nat.le_of_ble_eq_true rfl, Nat.le_of_ble_eq_true rfl⟩) hK hP (va_recv hK hP (ci := 3) (q0 := 0) rfl rfl) rfl hl.1 rfl (Nat.le_of_ble_eq_true rfl) dX2_use_2 ⟨Nat.zero_le _, Nat.zero_le _⟩ ?_
  by_cases hd : inR n d = true
  · obtain ⟨j, hj, rfl⟩ := inR_spec hn12 hd
    have hjc : (nI j).toNatClampNeg = j := nI_clamp (by omega)
    have hN : R_none n S (nI j) = 0 := if_pos hd
    rw [hN]
    refine lv_if_eq (tgt := 11) hx hb dX2_use_5 (by decide) (fun c1 => ?_) (fun c1 => ?_)
    · refine lv_aload_n hx hb dX2_use_11 rfl (lv_at hl 0 rfl) ?_
      refine r_get (S := S) (v := .int (S.1 12)) hx hb hts hin hown hK hP 12 (by decide) (by decide +kernel) rfl rfl dX2_use_12 ?_
      refine lv_if_eq (tgt := 21) hx hb dX2_use_15 (by decide) (fun c2 => ?_) (fun c2 => ?_)
      · refine lv_aload_n hx hb dX2_use_21 rfl (lv_at hl 0 rfl) ?_
        refine r_get (S := S) (v := .ref (a 7)) hx hb hts hin hown hK hP 7 (by decide) (by decide +kernel) rfl rfl dX2_use_22 ?_
        refine lv_iload_n hx hb dX2_use_25 rfl (lv_at hl 1 rfl) ?_
        refine lv_dup2_11 hx hb dX2_use_26 rfl rfl ?_
        refine r_ald (S := S) (x := S.2 7 j) hx hb hK hP 7 (by decide) (j := j) (by omega) rfl dX2_use_27 ?_
        refine lv_iconst (v := 1) hx hb dX2_use_28 (by decide) ?_
        refine lv_iadd hx hb dX2_use_29 ?_
        refine r_ast ha hx hb hK hP hS 7 (by decide) (j := j) (by omega) dX2_use_30 (fun H locs hP hS => ?_)
        have hP : va_P D vwCl (rW cI cZ a (S.1, up2 (S.2) 7 j ((S.2 7 j) + 1))) H := hP
        refine lv_aload_n hx hb dX2_use_31 rfl (lv_at hl 0 rfl) ?_
        refine lv_aload_n hx hb dX2_use_32 rfl (lv_at hl 0 rfl) ?_
        refine lv_iload_n hx hb dX2_use_33 rfl (lv_at hl 1 rfl) ?_
        refine m_callR (As := [.int (nI j)]) (rest := [.ref (a 0)]) ⟨hx, hb, hml, hown, hts⟩ (c_X2_line l D cI cZ a ha n (S.1, up2 (S.2) 7 j ((S.2 7 j) + 1)) hok j (by omega)) (cwV 1 hts gX2_use_X2_line rfl rfl rfl (by decide +kernel) ⟨Nat.le_of_ble_eq_true rfl, Nat.le_of_ble_eq_true rfl⟩) hK hP (va_recv hK hP (ci := 3) (q0 := 0) rfl rfl) rfl hl.1 rfl (Nat.le_of_ble_eq_true rfl) dX2_use_34 ⟨Nat.zero_le _, Nat.zero_le _⟩ ?_
        refine m_calli (As := [.int (R_line n (S.1, up2 (S.2) 7 j ((S.2 7 j) + 1)) j)]) (rest := []) ⟨hx, hb, hml, hown, hts⟩ (c_X2_rouse l D cI cZ a ha n (S.1, up2 (S.2) 7 j ((S.2 7 j) + 1)) hok (R_line n (S.1, up2 (S.2) 7 j ((S.2 7 j) + 1)) j)) (cwV 1 hts gX2_use_X2_rouse rfl rfl rfl (by decide +kernel) ⟨Nat.le_of_ble_eq_true rfl, Nat.le_of_ble_eq_true rfl⟩) hK hP hS (fun q h => wA_up hS.1 q h) (va_recv hK hP (ci := 3) (q0 := 0) rfl rfl) rfl hl.1 rfl (Nat.le_of_ble_eq_true rfl) dX2_use_37 ⟨Nat.zero_le _, Nat.zero_le _⟩ (fun H locs hP hS _ => ?_)
        have hok : rOk n (R_rouse n (S.1, up2 (S.2) 7 j ((S.2 7 j) + 1)) (R_line n (S.1, up2 (S.2) 7 j ((S.2 7 j) + 1)) j)).2 := R_rouse_ok n (S.1, up2 (S.2) 7 j ((S.2 7 j) + 1)) (R_line n (S.1, up2 (S.2) 7 j ((S.2 7 j) + 1)) j) hok
        have hE : R_use n S (nI j) = ((R_rouse n (S.1, up2 (S.2) 7 j ((S.2 7 j) + 1)) (R_line n (S.1, up2 (S.2) 7 j ((S.2 7 j) + 1)) j)).1, (R_rouse n (S.1, up2 (S.2) 7 j ((S.2 7 j) + 1)) (R_line n (S.1, up2 (S.2) 7 j ((S.2 7 j) + 1)) j)).2) := by first | (simp only [R_use, if_pos hd, if_pos c2, hjc]; done) | (simp only [R_use, if_pos hd, if_pos c2, hjc]; rfl)
        exact W.iret (v := (R_rouse n (S.1, up2 (S.2) 7 j ((S.2 7 j) + 1)) (R_line n (S.1, up2 (S.2) 7 j ((S.2 7 j) + 1)) j)).1) hx hb hr (fun tt ht hW => ⟨⟨(R_rouse n (S.1, up2 (S.2) 7 j ((S.2 7 j) + 1)) (R_line n (S.1, up2 (S.2) 7 j ((S.2 7 j) + 1)) j)).1, (), rfl, by rw [hE], by rw [ht, hE]; exact hP, va_K.moved hW.alike hK⟩, hS.F ht⟩) hS.2.2 dX2_use_40
      · refine lv_bipush (v := (-3)) hx hb dX2_use_18 (by decide) ?_
        have hE : R_use n S (nI j) = ((-3), S) := by first | (simp only [R_use, if_pos hd, if_neg c2, hjc]; done) | (simp only [R_use, if_pos hd, if_neg c2, hjc]; rfl)
        exact W.iret (v := (-3)) hx hb hr (fun tt ht hW => ⟨⟨(-3), (), rfl, by rw [hE], by rw [ht, hE]; exact hP, va_K.moved hW.alike hK⟩, hS.F ht⟩) hS.2.2 dX2_use_20
    · exact absurd (by decide) c1
  · have hN : R_none n S d = 1 := if_neg hd
    rw [hN]
    refine lv_if_eq (tgt := 11) hx hb dX2_use_5 (by decide) (fun c3 => ?_) (fun c3 => ?_)
    · exact absurd c3 (by decide)
    · refine lv_bipush (v := (-2)) hx hb dX2_use_8 (by decide) ?_
      have hE : R_use n S d = ((-2), S) := by first | (simp only [R_use, if_neg hd]; done) | (simp only [R_use, if_neg hd]; rfl)
      exact W.iret (v := (-2)) hx hb hr (fun tt ht hW => ⟨⟨(-2), (), rfl, by rw [hE], by rw [ht, hE]; exact hP, va_K.moved hW.alike hK⟩, hS.F ht⟩) hS.2.2 dX2_use_10
