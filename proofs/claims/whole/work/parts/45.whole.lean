set_option maxHeartbeats 4000000 in
set_option maxRecDepth 100000 in
/-- THE LAW, from its entry -/
theorem whole_start {p : Program} {e : Env} {s : State} {m : MethodId} {below : List Frame} {meth : Method} {c : Code} (l : Launch) {b L : Nat} {xs : Nat → Int32} (hL : L ≤ 2560) (C0 : lw_At p s m meth c b L xs) : W p l e room_1 s m #[Value.ref b] below meth c s.heap [] 0 0 (lw_Z below #[Value.ref b] s) (entryFrame m ([Value.ref b] : List Value).toArray 4) := by
  obtain ⟨hx, hb, hr, hml, hown, hts0, hX, hbl, hlocks, hgv⟩ := id C0
  have hts : ∀ w ∈ wsL_law, w.before #[Value.ref b] s = true := fun w hw => hts0 w (wsL_law_in w hw)
  have hA : ∀ q : Nat, s.heap.size ≤ q → (fun q : Nat => s.heap.size ≤ q) q := fun _ h => h
  obtain ⟨c0, iS0, hKn0⟩ := u_known (C := RJx4a65c) (T := TJx4a65c) (N := 3) (n := 3) hts inlJx4a65c (hts (.instantiable RJx4a65c 3) (inr1 _ (by decide +kernel)))
  obtain ⟨c1, iS1, hKn1⟩ := u_known (C := RX0) (T := TX0) (N := 13) (n := 13) hts inlX0 (hts (.instantiable RX0 13) (by decide +kernel))
  obtain ⟨c2, iS2, hKn2⟩ := u_known (C := RX1) (T := TX1) (N := 14) (n := 14) hts inlX1 (hts (.instantiable RX1 14) (inr1 _ (by decide +kernel)))
  obtain ⟨c3, iS3, hKn3⟩ := u_known (C := RX2) (T := TX2) (N := 24) (n := 24) hts inlX2 (hts (.instantiable RX2 24) (inr1 _ (by decide +kernel)))
  obtain ⟨D, hKc⟩ : ∃ (D : va_G), ∀ (k : Nat) (q : vw_C), vwCl[k]? = some q → u_Kn s q.1 q.2.1 q.2.2 (D.1 k) (D.2 k) := by
    refine ⟨(fun k => if k = 0 then c0 else if k = 1 then c1 else if k = 2 then c2 else c3, fun k => if k = 0 then iS0 else if k = 1 then iS1 else if k = 2 then iS2 else iS3), ?_⟩
    intro k q hq
    match k, hq with
    | 0, hq => cases hq; exact hKn0
    | 1, hq => cases hq; exact hKn1
    | 2, hq => cases hq; exact hKn2
    | 3, hq => cases hq; exact hKn3
    | k + 4, hq => simp [vwCl] at hq
  obtain ⟨mi, hE⟩ := lw_jE hts0 hgv
  obtain ⟨e0, hZ⟩ := lw_jS hts0 hgv
  obtain ⟨cO, hKO⟩ := lw_cO hE.1 hKc
  have hS : va_S (fun q : Nat => s.heap.size ≤ q) s.heap s.heap [] := va_S.rf
  have hK : va_K D vwCl [] s := ⟨hKc, fun k q h => by simp at h⟩
  have hP : va_P D vwCl [] s.heap := fun k q h => by simp at h
  have hD : va_D (fun q : Nat => s.heap.size ≤ q) [] := ⟨fun i j p q h => by simp at h, fun k q h => by simp at h⟩
  have hl := lv_entry ([.ref b]) (n := 4) (Nat.le_of_ble_eq_true rfl)
  rw [lg_entry_eq]
  generalize (lg_sl ([.ref b]) ++ List.replicate (4 - (lg_sl ([.ref b])).length) Slot.unset).toArray = ls at hl ⊢
  have hl : lv_has ls 4 [(0, .ref b)] := hl
  refine va_new (ci := 2) (fs := [.null, .null, .int 0, .null, .int 0, .int 0, .int 0, .int 0, .int 0, .int 0, .int 0, .int 0, .int 0, .int 0]) (C := RX1) (T := TX1) (N := 14) hx hb hts inlX1 tyX1 tyX1_ok hown (hts (.classLink RL 7 RX1) (inr1 _ (by decide +kernel))) (hts (.instantiable RX1 14) (inr1 _ (by decide +kernel))) (hts (.initialized RX1) (inr1 _ (by decide +kernel))) hK hP hD hS hA rfl (fun j hj => by rcases (show j = 0 ∨ j = 1 ∨ j = 2 ∨ j = 3 ∨ j = 4 ∨ j = 5 ∨ j = 6 ∨ j = 7 ∨ j = 8 ∨ j = 9 ∨ j = 10 ∨ j = 11 ∨ j = 12 ∨ j = 13 by omega) with rfl | rfl | rfl | rfl | rfl | rfl | rfl | rfl | rfl | rfl | rfl | rfl | rfl | rfl <;> rfl) (Nat.le_of_ble_eq_true rfl) (Nat.le_of_ble_eq_true rfl) dL_law_0 (fun q0 H hP hD hS => ?_)
  have hP : va_P D vwCl [(q0, .inr (2, [.null, .null, .int 0, .null, .int 0, .int 0, .int 0, .int 0, .int 0, .int 0, .int 0, .int 0, .int 0, .int 0]))] H := hP
  have hq0 : s.heap.size ≤ q0 := hD.2 0 _ rfl
  have hq0' : q0 < H.size := (hP 0 _ rfl).lt
  refine lv_dup hx hb dL_law_3 rfl ?_
  have hAc : ∀ q, wA [q0] H.size q → s.heap.size ≤ q := fun q h => h.elim (fun z => by rw [List.mem_singleton.mp z]; exact hq0) (fun z => Nat.le_trans hS.1 z)
  refine va_callv (va_runI (As := []) (rest := [.ref q0]) ⟨hx, hb, hml, hown, hts⟩ (c_X1_init l D [] q0 e0 H.size) (cwI 0 hts gL_law_X1_init rfl rfl rfl (hts (.initialized RX1) (inr1 _ (by decide +kernel))) (hts (.methodLink RL 9 yX1_init) (inr1 _ (by decide +kernel))) (hts (.instanceMethod yX1_init) (inr1 _ (by decide +kernel))) rfl (by decide +kernel) ⟨Nat.le_of_ble_eq_true rfl, Nat.le_of_ble_eq_true rfl⟩) ⟨mI_blind, fun U hU hw => ⟨rfl, by rw [hU], by rw [hU]; exact hP, va_K.moved hw.alike hK, by rw [hU]; exact ((hZ.kept (H1 := H) hS.2.1).moved hw.alike).narrow hAc⟩⟩ rfl rfl hl.1 rfl (lv_room (Nat.le_of_ble_eq_true rfl)) dL_law_4 ⟨Nat.le_of_ble_eq_true rfl, Nat.le_of_ble_eq_true rfl⟩) hS (fun q _ h => hAc q h) hAc (fun u t H1 locs ht hvm hw hB hz1 hk1 hS => ?_)
  obtain ⟨q1, q2⟩ := u
  obtain ⟨hP1, -⟩ := hB
  rw [ht] at hP1
  dsimp only at hw hP1
  obtain ⟨hw1, hw2, hw3⟩ := hw
  have hsz := hS.1
  have hHs : s.heap.size ≤ H.size := by omega
  have hD1 : va_D (fun q : Nat => s.heap.size ≤ q) [(q0, .inr (2, [.ref q1, .ref q2, .int 0, .null, .int 0, .int 0, .int 0, .int 0, .int 0, .int 0, .int 0, .int 0, .int (-1), .int 0])), (q1, lcell 0 e0 0), (q2, lcell 0 e0 0)] := wD (L := [q0, q1, q2]) rfl (nd3 (by omega) (by omega) hw3) (fun q hq => by
    rcases List.mem_cons.mp hq with z | hq
    · omega
    · rcases List.mem_cons.mp hq with z | hq
      · show s.heap.size ≤ q; omega
      · have z := List.mem_singleton.mp hq
        show s.heap.size ≤ q; omega)
  refine lv_astore_n (lv' := [(1, .ref q0), (0, .ref b)]) hx hb dL_law_7 rfl hl (by decide) rfl (fun ls hl => ?_)
  refine va_new (ci := 3) (fs := [.int 0, .null, .null, .null, .null, .null, .null, .null, .null, .null, .null, .null, .int 0, .int 0, .int 0, .int 0, .int 0, .int 0, .int 0, .int 0, .int 0, .int 0, .int 0, .int 0]) (C := RX2) (T := TX2) (N := 24) hx hb hts inlX2 tyX2 tyX2_ok hown (hts (.classLink RL 10 RX2) (inr1 _ (by decide +kernel))) (hts (.instantiable RX2 24) (inr1 _ (by decide +kernel))) (hts (.initialized RX2) (inr1 _ (by decide +kernel))) hK hP1 hD1 hS hA rfl (fun j hj => by rcases (show j = 0 ∨ j = 1 ∨ j = 2 ∨ j = 3 ∨ j = 4 ∨ j = 5 ∨ j = 6 ∨ j = 7 ∨ j = 8 ∨ j = 9 ∨ j = 10 ∨ j = 11 ∨ j = 12 ∨ j = 13 ∨ j = 14 ∨ j = 15 ∨ j = 16 ∨ j = 17 ∨ j = 18 ∨ j = 19 ∨ j = 20 ∨ j = 21 ∨ j = 22 ∨ j = 23 by omega) with rfl | rfl | rfl | rfl | rfl | rfl | rfl | rfl | rfl | rfl | rfl | rfl | rfl | rfl | rfl | rfl | rfl | rfl | rfl | rfl | rfl | rfl | rfl | rfl <;> rfl) (Nat.le_of_ble_eq_true rfl) (Nat.le_of_ble_eq_true rfl) dL_law_8 (fun m0 H2 hP2 hD2 hS => ?_)
  have hPc : va_P D vwCl [(q0, .inr (2, [.ref q1, .ref q2, .int 0, .null, .int 0, .int 0, .int 0, .int 0, .int 0, .int 0, .int 0, .int 0, .int (-1), .int 0])), (q1, lcell 0 e0 0), (q2, lcell 0 e0 0)] H2 := hP2.mem (fun q hq => List.mem_append_left _ hq)
  have hPm : va_P D vwCl [(m0, .inr (3, [.int 0, .null, .null, .null, .null, .null, .null, .null, .null, .null, .null, .null, .int 0, .int 0, .int 0, .int 0, .int 0, .int 0, .int 0, .int 0, .int 0, .int 0, .int 0, .int 0]))] H2 := hP2.mem (fun q hq => List.mem_append_right _ hq)
  have hm0 : s.heap.size ≤ m0 := hD2.2 3 _ rfl
  have n0 : ¬ q0 = m0 := fun z => absurd (hD2.1 0 3 _ _ rfl rfl z) (by decide)
  have n1 : ¬ q1 = m0 := fun z => absurd (hD2.1 1 3 _ _ rfl rfl z) (by decide)
  have n2 : ¬ q2 = m0 := fun z => absurd (hD2.1 2 3 _ _ rfl rfl z) (by decide)
  have l0 : q0 < H2.size := (hPc 0 _ rfl).lt
  have l1 : q1 < H2.size := (hPc 1 _ rfl).lt
  have l2 : q2 < H2.size := (hPc 2 _ rfl).lt
  refine lv_dup hx hb dL_law_11 rfl ?_
  have hAm : ∀ q, wA [m0] H2.size q → s.heap.size ≤ q := fun q h => h.elim (fun z => by rw [List.mem_singleton.mp z]; exact hm0) (fun z => Nat.le_trans hS.1 z)
  refine va_callv (va_runI (As := []) (rest := [.ref m0]) ⟨hx, hb, hml, hown, hts⟩ (c_X2_init l D m0 H2.size) (cwI 0 hts gL_law_X2_init rfl rfl rfl (hts (.initialized RX2) (inr1 _ (by decide +kernel))) (hts (.methodLink RL 12 yX2_init) (by decide +kernel)) (hts (.instanceMethod yX2_init) (by decide +kernel)) rfl (by decide +kernel) ⟨Nat.le_of_ble_eq_true rfl, Nat.le_of_ble_eq_true rfl⟩) ⟨m_blind, fun U hU hw => ⟨rfl, by rw [hU], by rw [hU]; exact hPm, va_K.moved hw.alike hK⟩⟩ rfl rfl hl.1 rfl (lv_room (Nat.le_of_ble_eq_true rfl)) dL_law_12 ⟨Nat.le_of_ble_eq_true rfl, Nat.le_of_ble_eq_true rfl⟩) hS (fun q _ h => hAm q h) hAm (fun u t H3 locs ht hvm hw hB hz3 hk3 hS3 => ?_)
  obtain ⟨cI, cZ, a⟩ := u
  obtain ⟨hPr, hKr⟩ := hB
  rw [ht] at hPr
  have hKr := va_K.moved hvm.symm hKr
  dsimp only at hw hPr hKr
  obtain ⟨hnd, ha0, haz⟩ := hw
  subst ha0
  have hPc := m_join (L := [a 0]) hPc hk3 (fun q hq z => by
    have z := List.mem_singleton.mp z
    have hq : q ∈ [q0, q1, q2] := hq
    rcases List.mem_cons.mp hq with y | hq
    · exact n0 (y.symm.trans z)
    · rcases List.mem_cons.mp hq with y | hq
      · exact n1 (y.symm.trans z)
      · exact n2 ((List.mem_singleton.mp hq).symm.trans z))
  have hra : ∀ q ∈ rL a, q = a 0 ∨ H2.size ≤ q := fun q hq => by
    rcases List.mem_cons.mp hq with z | hq
    · exact Or.inl z
    · right
      have hq : q ∈ [a 1, a 2, a 3, a 4, a 5, a 6, a 7, a 8, a 9, a 10, a 11] := hq
      simp only [List.mem_cons, List.not_mem_nil, or_false] at hq
      rcases hq with z | z | z | z | z | z | z | z | z | z | z <;> rw [z] <;> exact haz _ (by decide) (by decide)
  have hs2 := hS.1
  refine lv_astore_n (lv' := [(2, .ref (a 0)), (1, .ref q0), (0, .ref b)]) hx hb dL_law_15 rfl hl (by decide) rfl (fun ls hl => ?_)
  refine lv_iconst (v := 0) hx hb dL_law_16 (by decide) ?_
  refine lv_istore_n (lv' := [(3, .int 0), (2, .ref (a 0)), (1, .ref q0), (0, .ref b)]) hx hb dL_law_17 rfl hl (by decide) rfl (fun ls hl => ?_)
  refine law_loop (D := D) (cI := cI) (cZ := cZ) (cO := cO) (a := a) (e0 := e0) (mi := mi) ⟨hx, hb, hml, hown, hts, hX, hbl, hKO, hKr, hE, hZ, hnd, fun q hq => (hra q hq).elim (fun z => by rw [z]; exact hm0) (fun z => by omega)⟩ hr hlocks hL (L + 1) 0 0 (fun _ => 0) cI0 rI0 (h00 q0 q1 q2 e0) (fun _ => 0) (fun _ => 0) H3 locs ls (by omega) (Nat.zero_le _) ⟨by rw [cL_0]; exact nd3 (by omega) (by omega) hw3, fun q hq => ?_, fun _ => ⟨rfl, rfl⟩, by rw [cW_0]; exact hPc, hPr, hS3⟩ Rel_0 hl
  rw [cL_0] at hq
  have key : s.heap.size ≤ q ∧ q < H2.size ∧ ¬ q = a 0 := by
    rcases List.mem_cons.mp hq with y | hq
    · rw [y]; exact ⟨hq0, l0, n0⟩
    · rcases List.mem_cons.mp hq with y | hq
      · rw [y]; exact ⟨by omega, l1, n1⟩
      · rw [List.mem_singleton.mp hq]; exact ⟨by omega, l2, n2⟩
  exact ⟨key.1, fun z => (hra q z).elim key.2.2 (fun y => by omega)⟩
