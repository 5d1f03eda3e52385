def h00 (q0 q1 q2 e0 : Nat) : Nat → Nat := fun k => if k = 0 then q0 else if k = 1 then q1 else if k = 2 then q2 else e0
theorem cW_0 {cO : ClassId} {q0 q1 q2 e0 : Nat} : cW cO (h00 q0 q1 q2 e0) (fun _ => 0) (fun _ => 0) 0 (fun _ => 0) cI0 = [(q0, .inr (2, [.ref q1, .ref q2, .int 0, .null, .int 0, .int 0, .int 0, .int 0, .int 0, .int 0, .int 0, .int 0, .int (-1), .int 0])), (q1, lcell 0 e0 0), (q2, lcell 0 e0 0)] := rfl
theorem cL_0 {q0 q1 q2 e0 : Nat} : cL (h00 q0 q1 q2 e0) (fun _ => 0) 0 = [q0, q1, q2] := rfl
theorem inr1 : ∀ w ∈ wsL_law_r1, w ∈ wsL_law := fun _ h => List.mem_append_left _ (List.mem_append_left _ (List.mem_append_left _ (List.mem_append_left _ (List.mem_append_left _ (List.mem_append_left _ h)))))
theorem nd3 {x y z : Nat} (h1 : ¬ x = y) (h2 : ¬ x = z) (h3 : ¬ y = z) : [x, y, z].Nodup := by simp [h1, h2, h3]
theorem t_at {w : Cond} (k : Nat) (h : tables_1[k]? = some w) : w ∈ lw_tbl := List.mem_append_right _ (List.mem_of_getElem? h)
theorem lw_cO {s : State} (h : va_AO "java/lang/Object" s) {D : va_G} (hc : ∀ (k : Nat) (q : vw_C), vwCl[k]? = some q → u_Kn s q.1 q.2.1 q.2.2 (D.1 k) (D.2 k)) : ∃ cO : ClassId, va_K D vwCl (cT cO) s := by
  obtain ⟨comp, c, k, h1, h2, h3, h4, h5⟩ := Cond.arrayOver_spec h
  refine ⟨c, hc, fun j q hq => ?_⟩
  have hz : j < 1 := (List.getElem?_eq_some_iff.mp hq).1
  rw [show j = 0 by omega] at hq
  cases hq
  exact ⟨fun n z => ⟨fun k h => (by cases h), k, h3, comp, h4⟩, k, comp, h3, h4, h1, h5⟩
theorem lw_jE {s : State} {b : Nat} (hts : ∀ w ∈ lw_tbl, w.before #[Value.ref b] s = true) (hgv : (Jvm.Cond.and given_1 narrow_1).before #[Value.ref b] s = true) : ∃ mi : Nat, jE mi s := by
  have hs := flat_of_before _ hgv
  obtain ⟨mi, hm⟩ := va_Mi.of (C := "[Ljava/lang/Object;") (hs (.isRef (.mirror "[Ljava/lang/Object;")) (by decide +kernel))
  exact ⟨mi, va_AO.of (hts (.arrayOver (.object "java/lang/Object")) (t_at 234 (by decide +kernel))), va_Nw.of rfl (hts (.castable "DozingDevices$Device" "java/lang/Object") (t_at 620 (by decide +kernel))), va_Dc.of (hts (.declares ⟨"java/lang/Object", "getClass", "()Ljava/lang/Class;"⟩) (t_at 617 (by decide +kernel))), hm⟩
theorem lw_jS {s : State} {b : Nat} (hts : ∀ w ∈ lw_tbl, w.before #[Value.ref b] s = true) (hgv : (Jvm.Cond.and given_1 narrow_1).before #[Value.ref b] s = true) : ∃ e0 : Nat, jS e0 (fun q => s.heap.size ≤ q) s s.heap := by
  have hs := flat_of_before _ hgv
  have hA : ∀ a : Nat, a < s.heap.size → ¬ (fun q => s.heap.size ≤ q) a := fun a h => Nat.not_le.mpr h
  obtain ⟨t, h1, h2⟩ := va_Tof (args := #[Value.ref b]) (s := s) (tm := .static "java/util/ArrayList" "DEFAULTCAPACITY_EMPTY_ELEMENTDATA" "[Ljava/lang/Object;") (ty := .object "java/lang/Object") (N := 0) (f := fun _ => .null) (by decide) (hs _ (by decide +kernel)) (va_eqt (hs (.eq (.length (.static "java/util/ArrayList" "DEFAULTCAPACITY_EMPTY_ELEMENTDATA" "[Ljava/lang/Object;")) (.int 0)) (by decide +kernel))) (fun j h => absurd h (Nat.not_lt_zero _)) hA
  exact ⟨t, va_Zref (hts (.laysStatic "java/util/ArrayList" "DEFAULTCAPACITY_EMPTY_ELEMENTDATA" "[Ljava/lang/Object;") (t_at 34 (by decide +kernel))) (hts (.initialized "java/util/ArrayList") (t_at 4 (by decide +kernel))) h1 hA, h2⟩
