/-! the law: what stays, what holds at the head of its loop; arguments out of the script; the calls of both sides -/
def lwF (p : Program) (s : State) (m : MethodId) (c : Code) (b L : Nat) (xs : Nat → Int32) (D : va_G) (cI cZ cO : ClassId) (a : Nat → Nat) (e0 mi : Nat) : Prop :=
  p.tables.exec = Jvm.exec ∧ c.code = cL_law ∧ c.maxLocals = 4 ∧ s.vm.findClass RL = some m.cls ∧ (∀ w ∈ wsL_law, w.before #[Value.ref b] s = true) ∧ va_X b L xs s s.heap ∧ b < s.heap.size ∧ va_K D vwCl (cT cO) s ∧ va_K D vwCl (rT cI cZ) s ∧ jE mi s ∧ jS e0 (fun q => s.heap.size ≤ q) s s.heap ∧ (rL a).Nodup ∧ ∀ q ∈ rL a, s.heap.size ≤ q
def lwI (D : va_G) (cI cZ cO : ClassId) (a : Nat → Nat) (e0 : Nat) (s : State) (n : Nat) (o : Nat → Nat) (S : cSt) (T : rSt) (h ad : Nat → Nat) (md : Nat → Int32) (H : Heap) (locs : List Loc) : Prop :=
  (cL h ad n).Nodup ∧ (∀ q ∈ cL h ad n, s.heap.size ≤ q ∧ q ∉ rL a) ∧ (n = 0 → h 3 = e0 ∧ h 4 = e0) ∧ va_P D vwCl (cW cO h ad md n o S) H ∧ va_P D vwCl (rW cI cZ a T) H ∧ va_S (fun q => s.heap.size ≤ q) s.heap H locs
section LW
variable {p : Program} {l : Launch} {e : Env} {s : State} {m : MethodId} {below : List Frame} {meth : Method} {c : Code} {H : Heap} {locs : List Loc} {cells slots : Nat} {Q : State → Prop}
variable {b L i : Nat} {xs : Nat → Int32} {D : va_G} {cI cZ cO : ClassId} {a : Nat → Nat} {e0 mi : Nat} {n : Nat} {o : Nat → Nat} {S : cSt} {T : rSt} {h ad : Nat → Nat} {md : Nat → Int32} {ls : Array Slot} {rest st0 As : List Value}
variable {bytes : ByteArray} {pc index nA maxL : Nat} {y : MethodName} {ws : List Cond} {rm : Room} {ret : Option FieldType} {ans : Int32}
theorem l_arg (F : lwF p s m c b L xs D cI cZ cO a e0 mi) (I : lwI D cI cZ cO a e0 s n o S T h ad md H locs) (hL : L ≤ 2560) (hl : lv_has ls 4 [(3, .int (nI i)), (2, .ref (a 0)), (1, .ref (h 0)), (0, .ref b)]) {z : Int} {k : Nat} (hz : Int32.ofInt z = nI k) (hk : i + k < L) (d0 : decode cL_law pc = .ok (.aload_n 0, 1)) (d1 : decode cL_law (pc + 1) = .ok (.iload_n 3, 1)) (d2 : decode cL_law (pc + 2) = .ok (.iconst z, 1)) (d3 : decode cL_law (pc + 3) = .ok (.iadd, 1)) (d4 : decode cL_law (pc + 4) = .ok (.iaload, 1))
    (kk : W p l e room_1 s m #[Value.ref b] below meth c H locs cells slots Q (F0 m (pc + 5) ls (.int (xs (i + k)) :: rest))) : W p l e room_1 s m #[Value.ref b] below meth c H locs cells slots Q (F0 m pc ls rest) := by
  obtain ⟨hx, hb, hml, hown, hts, hX, hbl, -⟩ := F
  obtain ⟨-, -, -, -, -, hS⟩ := I
  refine lv_aload_n hx hb d0 rfl (lv_at hl 3 rfl) ?_
  refine lv_iload_n hx hb d1 rfl (lv_at hl 0 rfl) ?_
  refine lv_iconst hx hb d2 hz ?_
  refine lv_iadd hx hb d3 ?_
  rw [nI_add]
  refine va_sld hx hb hX hbl (Nat.not_le.mpr hbl) hS (vp_in_nI hk (by omega)) d4 ?_
  rw [nI_clamp (by omega)]
  exact kk
theorem l_cI {S' : cSt} (F : lwF p s m c b L xs D cI cZ cO a e0 mi) (I : lwI D cI cZ cO a e0 s n o S T h ad md H locs) (hM : mI l y ws rm D (cT cO) (cL h ad n) (.ref (h 0) :: As) (cW cO h ad md n o S) ans (cW cO h ad md n o S')) (cw : CallW room_1 s #[Value.ref b] RL RX1 index y bytes maxL ret ws rm 0 0 nA) (hn : As.length = nA) (hsize : ls.size = 4) (hstack : st0 = As.reverse ++ .ref (h 0) :: rest) (hW : (rest.map fun v => v.category).sum ≤ 8) (hdg : decode cL_law pc = .ok (.invokevirtual index, 3)) (hf : cells ≤ 1200000 ∧ slots ≤ 5502250)
    (kk : ∀ (H1 : Heap) (locs1 : List Loc), lwI D cI cZ cO a e0 s n o S' T h ad md H1 locs1 → W p l e room_1 s m #[Value.ref b] below meth c H1 locs1 cells slots Q (F0 m (pc + 3) ls (.int ans :: rest))) : W p l e room_1 s m #[Value.ref b] below meth c H locs cells slots Q (F0 m pc ls st0) := by
  obtain ⟨hx, hb, hml, hown, hts, hX, hbl, hK1, hK2, hE, hZ, hnd, hra⟩ := F
  obtain ⟨i1, i2, i3, hP, hP2, hS⟩ := I
  exact m_calli (As := As) (rest := rest) ⟨hx, hb, hml, hown, hts⟩ hM cw hK1 hP hS (fun q hq => hq.elim (fun z => (i2 q z).1) (fun z => Nat.le_trans hS.1 z)) (va_recv hK1 hP (ci := 2) (q0 := 0) rfl rfl) hn hsize hstack hW hdg hf (fun H1 locs1 hP1 hS1 hk => kk H1 locs1 ⟨i1, i2, i3, hP1, m_join hP2 hk (fun q hq z => (i2 q z).2 (rW_L ▸ hq)), hS1⟩)
theorem l_cR (F : lwF p s m c b L xs D cI cZ cO a e0 mi) (I : lwI D cI cZ cO a e0 s n o S T h ad md H locs) (hM : mR l y ws rm D (cT cO) (.ref (h 0) :: As) (cW cO h ad md n o S) ans) (cw : CallW room_1 s #[Value.ref b] RL RX1 index y bytes maxL ret ws rm 0 0 nA) (hn : As.length = nA) (hsize : ls.size = 4) (hstack : st0 = As.reverse ++ .ref (h 0) :: rest) (hW : (rest.map fun v => v.category).sum ≤ 8) (hdg : decode cL_law pc = .ok (.invokevirtual index, 3)) (hf : cells ≤ 1200000 ∧ slots ≤ 5502250)
    (kk : W p l e room_1 s m #[Value.ref b] below meth c H locs cells slots Q (F0 m (pc + 3) ls (.int ans :: rest))) : W p l e room_1 s m #[Value.ref b] below meth c H locs cells slots Q (F0 m pc ls st0) := by
  obtain ⟨hx, hb, hml, hown, hts, hX, hbl, hK1, hK2, hE, hZ, hnd, hra⟩ := F
  obtain ⟨i1, i2, i3, hP, hP2, hS⟩ := I
  exact m_callR (As := As) (rest := rest) ⟨hx, hb, hml, hown, hts⟩ hM cw hK1 hP (va_recv hK1 hP (ci := 2) (q0 := 0) rfl rfl) hn hsize hstack hW hdg hf kk
theorem l_rI {T' : rSt} (F : lwF p s m c b L xs D cI cZ cO a e0 mi) (I : lwI D cI cZ cO a e0 s n o S T h ad md H locs) (hM : mI l y ws rm D (rT cI cZ) (rL a) (.ref (a 0) :: As) (rW cI cZ a T) ans (rW cI cZ a T')) (cw : CallW room_1 s #[Value.ref b] RL RX2 index y bytes maxL ret ws rm 0 0 nA) (hn : As.length = nA) (hsize : ls.size = 4) (hstack : st0 = As.reverse ++ .ref (a 0) :: rest) (hW : (rest.map fun v => v.category).sum ≤ 8) (hdg : decode cL_law pc = .ok (.invokevirtual index, 3)) (hf : cells ≤ 1200000 ∧ slots ≤ 5502250)
    (kk : ∀ (H1 : Heap) (locs1 : List Loc), lwI D cI cZ cO a e0 s n o S T' h ad md H1 locs1 → W p l e room_1 s m #[Value.ref b] below meth c H1 locs1 cells slots Q (F0 m (pc + 3) ls (.int ans :: rest))) : W p l e room_1 s m #[Value.ref b] below meth c H locs cells slots Q (F0 m pc ls st0) := by
  obtain ⟨hx, hb, hml, hown, hts, hX, hbl, hK1, hK2, hE, hZ, hnd, hra⟩ := F
  obtain ⟨i1, i2, i3, hP, hP2, hS⟩ := I
  exact m_calli (As := As) (rest := rest) ⟨hx, hb, hml, hown, hts⟩ hM cw hK2 hP2 hS (fun q hq => hq.elim (fun z => hra q z) (fun z => Nat.le_trans hS.1 z)) (va_recv hK2 hP2 (ci := 3) (q0 := 0) rfl rfl) hn hsize hstack hW hdg hf (fun H1 locs1 hP1 hS1 hk => kk H1 locs1 ⟨i1, i2, i3, m_join hP hk (fun q hq z => (i2 q (cW_L ▸ hq)).2 z), hP1, hS1⟩)
theorem l_rR (F : lwF p s m c b L xs D cI cZ cO a e0 mi) (I : lwI D cI cZ cO a e0 s n o S T h ad md H locs) (hM : mR l y ws rm D (rT cI cZ) (.ref (a 0) :: As) (rW cI cZ a T) ans) (cw : CallW room_1 s #[Value.ref b] RL RX2 index y bytes maxL ret ws rm 0 0 nA) (hn : As.length = nA) (hsize : ls.size = 4) (hstack : st0 = As.reverse ++ .ref (a 0) :: rest) (hW : (rest.map fun v => v.category).sum ≤ 8) (hdg : decode cL_law pc = .ok (.invokevirtual index, 3)) (hf : cells ≤ 1200000 ∧ slots ≤ 5502250)
    (kk : W p l e room_1 s m #[Value.ref b] below meth c H locs cells slots Q (F0 m (pc + 3) ls (.int ans :: rest))) : W p l e room_1 s m #[Value.ref b] below meth c H locs cells slots Q (F0 m pc ls st0) := by
  obtain ⟨hx, hb, hml, hown, hts, hX, hbl, hK1, hK2, hE, hZ, hnd, hra⟩ := F
  obtain ⟨i1, i2, i3, hP, hP2, hS⟩ := I
  exact m_callR (As := As) (rest := rest) ⟨hx, hb, hml, hown, hts⟩ hM cw hK2 hP2 (va_recv hK2 hP2 (ci := 3) (q0 := 0) rfl rfl) hn hsize hstack hW hdg hf kk
theorem l_cD (p1 p2 p3 p4 : Int32) (F : lwF p s m c b L xs D cI cZ cO a e0 mi) (I : lwI D cI cZ cO a e0 s n o S T h ad md H locs) (hok : cOk n o S) (cw : CallW room_1 s #[Value.ref b] RL RX1 index yX1_device bytes maxL ret wsX1_device { frames := 7, cells := 3, slots := 43, locals := 157 } 3 43 4) (hsize : ls.size = 4) (hstack : st0 = [.int p1, .int p2, .int p3, .int p4].reverse ++ .ref (h 0) :: rest) (hW : (rest.map fun v => v.category).sum ≤ 8) (hdg : decode cL_law pc = .ok (.invokevirtual index, 3)) (hf : cells + 3 ≤ 1200000 ∧ slots + 43 ≤ 5502250)
    (kk : ∀ (h' ad' : Nat → Nat) (md' : Nat → Int32) (H1 : Heap) (locs1 : List Loc), h' 0 = h 0 → lwI D cI cZ cO a e0 s (C_device n o S p1 p2 p3 p4).2.1 (C_device n o S p1 p2 p3 p4).2.2.1 (C_device n o S p1 p2 p3 p4).2.2.2 T h' ad' md' H1 locs1 → W p l e room_1 s m #[Value.ref b] below meth c H1 locs1 (cells + 3) (slots + 43) Q (F0 m (pc + 3) ls (.int (C_device n o S p1 p2 p3 p4).1 :: rest))) : W p l e room_1 s m #[Value.ref b] below meth c H locs cells slots Q (F0 m pc ls st0) := by
  obtain ⟨hx, hb, hml, hown, hts, hX, hbl, hK1, hK2, hE, hZ, hnd, hra⟩ := F
  obtain ⟨i1, i2, i3, hP, hP2, hS⟩ := I
  have hA : ∀ q, wA (cL h ad n) H.size q → s.heap.size ≤ q := fun q hq => hq.elim (fun z => (i2 q z).1) (fun z => Nat.le_trans hS.1 z)
  have hlt : ∀ q ∈ rL a, q < H.size := fun q hq => hP2.lt' q (rW_L.symm ▸ hq)
  refine va_calli (va_runV (As := [.int p1, .int p2, .int p3, .int p4]) (rest := rest) ⟨hx, hb, hml, hown, hts⟩ (c_X1_device l D cO mi e0 h ad md n o i1 S hok i3 p1 p2 p3 p4 H.size) cw ⟨mN_blind, va_recv hK1 hP (ci := 2) (q0 := 0) rfl rfl, fun U hU hw => ⟨rfl, by rw [hU], by rw [hU]; exact hP, va_K.moved hw.alike hK1, hE.warm hw, by rw [hU]; exact ((hZ.kept (H1 := H) hS.2.1).moved hw.alike).narrow hA⟩⟩ rfl rfl hsize hstack (lv_room hW) hdg hf) hS (fun q _ z => hA q z) hA (fun r u t H1 locs1 ht hvm hw hB hz1 hk1 hS1 => ?_)
  obtain ⟨hr, hn', h0', he', hm'⟩ := hw
  obtain ⟨hP1, -⟩ := hB
  rw [ht] at hP1
  subst hr
  refine kk u.1 u.2.1 u.2.2 H1 locs1 h0' ⟨hn', fun q hq => ?_, he', hP1, m_join hP2 hk1 (fun q hq z => (i2 q z).2 (rW_L ▸ hq)), hS1⟩
  rcases hm' q hq with z | z
  · exact i2 q z
  · exact ⟨Nat.le_trans hS.1 z, fun zz => absurd (hlt q zz) (by omega)⟩
end LW
theorem and31 (x : Int32) : ∃ j, j < 32 ∧ x &&& 31 = nI j := by
  refine ⟨(x.toBitVec &&& 31#32).toNat, ?_, ?_⟩
  · rw [BitVec.toNat_and]
    exact Nat.lt_of_le_of_lt Nat.and_le_right (by decide)
  · apply Int32.toBitVec_inj.mp
    rw [Int32.toBitVec_and]
    show x.toBitVec &&& 31#32 = BitVec.ofNat 32 _
    rw [BitVec.ofNat_toNat, BitVec.setWidth_eq]
theorem sub5 {L : Nat} (hL : L ≤ 2560) : (Int32.ofNat L - 5).toInt = (L : Int) - 5 := by
  have h1 : (Int32.ofNat L).toInt = (L : Int) := nI_toInt (by omega)
  have h5 : (5 : Int32).toInt = 5 := rfl
  rw [Int32.toInt_sub, h1, h5]
  unfold Int.bmod
  simp only []
  omega
