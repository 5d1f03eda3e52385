/-! worlds by their addresses; contracts of methods over a world; calls of them -/
def wA (L : List Nat) (sz : Nat) : Nat → Prop := fun q => q ∈ L ∨ sz ≤ q
theorem wA_up {L : List Nat} {a b : Nat} (h : a ≤ b) : ∀ q, wA L b q → wA L a q := fun _ hq => hq.elim Or.inl (fun h2 => Or.inr (Nat.le_trans h h2))
theorem wD {ws : va_W} {L : List Nat} {A : Nat → Prop} (hL : ws.map (fun q => q.1) = L) (hn : L.Nodup) (hA : ∀ q ∈ L, A q) : va_D A ws := by
  subst hL
  refine ⟨fun i j x y hi hj hxy => ?_, fun k q hk => hA _ (List.mem_map.mpr ⟨q, List.mem_of_getElem? hk, rfl⟩)⟩
  have h1 : (ws.map (fun q => q.1))[i]? = some x.1 := by rw [List.getElem?_map, hi]; rfl
  have h2 : (ws.map (fun q => q.1))[j]? = some x.1 := by rw [List.getElem?_map, hj, hxy]; rfl
  have hl : i < (ws.map (fun q => q.1)).length := (List.getElem?_eq_some_iff.mp h1).1
  exact (List.getElem?_inj hl hn).mp (h1.trans h2.symm)
def rmz (f lo : Nat) : Room := { frames := f, cells := 0, slots := 0, locals := lo }
/-- int answer, world w0 becomes w1 -/
def mI (l : Launch) (y : MethodName) (ws : List Cond) (rm : Room) (D : va_G) (tys : List (ClassId × FieldType)) (L : List Nat) (av : List Value) (w0 : va_W) (ans : Int32) (w1 : va_W) : Prop :=
  ∀ sz : Nat, Met l y ws rm (va_Pc av (fun U => U.heap.size = sz ∧ va_P D vwCl w0 U.heap ∧ va_K D vwCl tys U)) (va_Qi (fun r (_ : Unit) => r = ans) (fun _ t => va_P D vwCl w1 t.heap ∧ va_K D vwCl tys t) (wA L sz)) 0 0 (wA L sz)
/-- no answer -/
def mV (l : Launch) (y : MethodName) (ws : List Cond) (rm : Room) (D : va_G) (tys : List (ClassId × FieldType)) (L : List Nat) (av : List Value) (w0 w1 : va_W) : Prop :=
  ∀ sz : Nat, Met l y ws rm (va_Pc av (fun U => U.heap.size = sz ∧ va_P D vwCl w0 U.heap ∧ va_K D vwCl tys U)) (va_Qv (fun _ : Unit => True) (fun _ t => va_P D vwCl w1 t.heap ∧ va_K D vwCl tys t) (wA L sz)) 0 0 (wA L sz)
/-- int answer, nothing changes -/
def mR (l : Launch) (y : MethodName) (ws : List Cond) (rm : Room) (D : va_G) (tys : List (ClassId × FieldType)) (av : List Value) (w0 : va_W) (ans : Int32) : Prop :=
  Met l y ws rm (va_Pc av (fun U => va_P D vwCl w0 U.heap ∧ va_K D vwCl tys U)) (vp_Si (fun r => r = ans)) 0 0 (fun _ => False)
/-- an answer that is a reference or null, nothing changes -/
def mQ (l : Launch) (y : MethodName) (ws : List Cond) (rm : Room) (D : va_G) (tys : List (ClassId × FieldType)) (av : List Value) (w0 : va_W) (ans : Option Nat) : Prop :=
  Met l y ws rm (va_Pc av (fun U => va_P D vwCl w0 U.heap ∧ va_K D vwCl tys U)) (va_Sq (fun r => r = ans)) 0 0 (fun _ => False)
section MC
variable {p : Program} {l : Launch} {e : Env} {R : Room} {s : State} {m : MethodId} {args : Array Value} {below : List Frame} {meth : Method} {c : Code} {H : Heap} {locs : List Loc} {cells slots : Nat} {Q : State → Prop}
variable {cc bytes : ByteArray} {pc index nL n maxL : Nat} {ls : Array Slot} {rest st0 As : List Value} {y : MethodName} {ws Ts : List Cond} {rm : Room} {ret : Option FieldType} {own C : String} {b : Nat} {D : va_G} {tys : List (ClassId × FieldType)} {L : List Nat} {w0 w1 : va_W} {ans : Int32} {A0 : Nat → Prop} {H0 : Heap}
theorem m_blind {av : List Value} {sz : Nat} {w : va_W} : FrameBlind (va_Pc av (fun U => U.heap.size = sz ∧ va_P D vwCl w U.heap ∧ va_K D vwCl tys U)) := fun a U g mk q => by
  obtain ⟨q0, q1, qP, qK⟩ := q
  exact ⟨q0, q1, qP, va_K.moved (u := U) (U := U.calling g mk a) (Vm.Alike.refl U.vm) qK⟩
theorem m_blindR {av : List Value} {w : va_W} : FrameBlind (va_Pc av (fun U => va_P D vwCl w U.heap ∧ va_K D vwCl tys U)) := fun a U g mk q => by
  obtain ⟨q0, qP, qK⟩ := q
  exact ⟨q0, qP, va_K.moved (u := U) (U := U.calling g mk a) (Vm.Alike.refl U.vm) qK⟩
/-- a call with an int answer; hfr: what stays -/
theorem m_calli (S : CallFix p m c cc nL s args Ts own) (hM : mI l y ws rm D tys L (.ref b :: As) w0 ans w1) (cw : CallW R s args own C index y bytes maxL ret ws rm 0 0 n) (hK : va_K D vwCl tys s) (hP : va_P D vwCl w0 H) (hS : va_S A0 H0 H locs) (hA : ∀ q, wA L H.size q → A0 q)
    (hrec : ∃ cellB : Cell, H[b]? = some cellB ∧ cellB.vm.isStatics = false ∧ s.vm.findClass C = some cellB.cls) (hn : As.length = n) (hsize : ls.size = nL) (hstack : st0 = As.reverse ++ .ref b :: rest) (hW : (rest.map fun v => v.category).sum ≤ 8) (hdg : decode cc pc = .ok (.invokevirtual index, 3)) (hf : cells + 0 ≤ R.cells ∧ slots + 0 ≤ R.slots)
    (kk : ∀ (H1 : Heap) (locs1 : List Loc), va_P D vwCl w1 H1 → va_S A0 H0 H1 locs1 → (∀ q : Nat, q < H.size → ¬ wA L H.size q → H1[q]? = H[q]?) → W p l e R s m args below meth c H1 locs1 cells slots Q (F0 m (pc + 3) ls (.int ans :: rest))) : W p l e R s m args below meth c H locs cells slots Q (F0 m pc ls st0) := by
  refine va_calli (va_runV (As := As) (rest := rest) S (hM H.size) cw ⟨m_blind, hrec, fun U hU hw => ⟨rfl, by rw [hU], by rw [hU]; exact hP, va_K.moved hw.alike hK⟩⟩ rfl hn hsize hstack (lv_room hW) hdg hf) hS (fun q _ h => hA q h) hA (fun r u t H1 locs1 ht hvm hw hB hz1 hk1 hS1 => ?_)
  obtain ⟨hP1, hK1⟩ := hB
  rw [ht] at hP1
  subst hw
  exact kk H1 locs1 hP1 hS1 hk1
theorem m_callv (S : CallFix p m c cc nL s args Ts own) (hM : mV l y ws rm D tys L (.ref b :: As) w0 w1) (cw : CallW R s args own C index y bytes maxL ret ws rm 0 0 n) (hK : va_K D vwCl tys s) (hP : va_P D vwCl w0 H) (hS : va_S A0 H0 H locs) (hA : ∀ q, wA L H.size q → A0 q)
    (hrec : ∃ cellB : Cell, H[b]? = some cellB ∧ cellB.vm.isStatics = false ∧ s.vm.findClass C = some cellB.cls) (hn : As.length = n) (hsize : ls.size = nL) (hstack : st0 = As.reverse ++ .ref b :: rest) (hW : (rest.map fun v => v.category).sum ≤ 8) (hdg : decode cc pc = .ok (.invokevirtual index, 3)) (hf : cells + 0 ≤ R.cells ∧ slots + 0 ≤ R.slots)
    (kk : ∀ (H1 : Heap) (locs1 : List Loc), va_P D vwCl w1 H1 → va_S A0 H0 H1 locs1 → (∀ q : Nat, q < H.size → ¬ wA L H.size q → H1[q]? = H[q]?) → W p l e R s m args below meth c H1 locs1 cells slots Q (F0 m (pc + 3) ls rest)) : W p l e R s m args below meth c H locs cells slots Q (F0 m pc ls st0) := by
  refine va_callv (va_runV (As := As) (rest := rest) S (hM H.size) cw ⟨m_blind, hrec, fun U hU hw => ⟨rfl, by rw [hU], by rw [hU]; exact hP, va_K.moved hw.alike hK⟩⟩ rfl hn hsize hstack (lv_room hW) hdg hf) hS (fun q _ h => hA q h) hA (fun u t H1 locs1 ht hvm hw hB hz1 hk1 hS1 => ?_)
  obtain ⟨hP1, hK1⟩ := hB
  rw [ht] at hP1
  exact kk H1 locs1 hP1 hS1 hk1
theorem m_callR (S : CallFix p m c cc nL s args Ts own) (hM : mR l y ws rm D tys (.ref b :: As) w0 ans) (cw : CallW R s args own C index y bytes maxL ret ws rm 0 0 n) (hK : va_K D vwCl tys s) (hP : va_P D vwCl w0 H)
    (hrec : ∃ cellB : Cell, H[b]? = some cellB ∧ cellB.vm.isStatics = false ∧ s.vm.findClass C = some cellB.cls) (hn : As.length = n) (hsize : ls.size = nL) (hstack : st0 = As.reverse ++ .ref b :: rest) (hW : (rest.map fun v => v.category).sum ≤ 8) (hdg : decode cc pc = .ok (.invokevirtual index, 3)) (hf : cells + 0 ≤ R.cells ∧ slots + 0 ≤ R.slots)
    (kk : W p l e R s m args below meth c H locs cells slots Q (F0 m (pc + 3) ls (.int ans :: rest))) : W p l e R s m args below meth c H locs cells slots Q (F0 m pc ls st0) := by
  refine vp_callSi (W.runV (As := As) (rest := rest) S hM cw ⟨m_blindR, hrec, fun U hU hw => ⟨rfl, by rw [hU]; exact hP, va_K.moved hw.alike hK⟩⟩ rfl hn hsize hstack (lv_room hW) hdg hf) (fun r hr => ?_)
  subst hr
  exact kk
end MC
section ML
variable {p : Program} {l : Launch} {e : Env} {R : Room} {s : State} {m : MethodId} {args : Array Value} {below : List Frame} {meth : Method} {c : Code} {cells slots : Nat} {Q : State → Prop}
/-- a loop by a measure -/
theorem w_loop {σ : Type} {I : σ → Heap → List Loc → Array Slot → Prop} {pc : Nat} {st : List Value} (μ : σ → Nat) (hs : ∀ (x : σ) (H : Heap) (locs : List Loc) (ls : Array Slot), I x H locs ls → (∀ (y : σ) (H' : Heap) (locs' : List Loc) (ls' : Array Slot), μ y < μ x → I y H' locs' ls' → W p l e R s m args below meth c H' locs' cells slots Q (F0 m pc ls' st)) → W p l e R s m args below meth c H locs cells slots Q (F0 m pc ls st))
    (x : σ) {H : Heap} {locs : List Loc} {ls : Array Slot} (h : I x H locs ls) : W p l e R s m args below meth c H locs cells slots Q (F0 m pc ls st) := by
  have key : ∀ (n : Nat) (x : σ) (H : Heap) (locs : List Loc) (ls : Array Slot), μ x < n → I x H locs ls → W p l e R s m args below meth c H locs cells slots Q (F0 m pc ls st) := by
    intro n
    induction n with
    | zero => intro x H locs ls hx; exact absurd hx (Nat.not_lt_zero _)
    | succ n ih => intro x H locs ls hx hI; exact hs x H locs ls hI (fun y H' locs' ls' hy hI' => ih y H' locs' ls' (by omega) hI')
  exact key (μ x + 1) x H locs ls (Nat.lt_succ_self _) h
end ML
