/-! the reference's world: v: its numbers by the place of the field, f k: the array at place k; a: the addresses -/
abbrev rSt : Type := (Nat → Int32) × (Nat → Nat → Int32)
def rF (a : Nat → Nat) (v : Nat → Int32) : List Value := [.int (v 0), .ref (a 1), .ref (a 2), .ref (a 3), .ref (a 4), .ref (a 5), .ref (a 6), .ref (a 7), .ref (a 8), .ref (a 9), .ref (a 10), .ref (a 11), .int (v 12), .int (v 13), .int (v 14), .int (v 15), .int (v 16), .int (v 17), .int (v 18), .int (v 19), .int (v 20), .int (v 21), .int (v 22), .int (v 23)]
def rW (cI cZ : ClassId) (a : Nat → Nat) (S : rSt) : va_W := [(a 0, .inr (3, rF a S.1)), (a 1, .inl (cI, 12, .inl (S.2 1))), (a 2, .inl (cI, 12, .inl (S.2 2))), (a 3, .inl (cI, 12, .inl (S.2 3))), (a 4, .inl (cI, 12, .inl (S.2 4))), (a 5, .inl (cI, 12, .inl (S.2 5))), (a 6, .inl (cI, 12, .inl (S.2 6))), (a 7, .inl (cI, 12, .inl (S.2 7))), (a 8, .inl (cI, 12, .inl (S.2 8))), (a 9, .inl (cI, 12, .inl (S.2 9))), (a 10, .inl (cZ, 12, .inl (S.2 10))), (a 11, .inl (cZ, 12, .inl (S.2 11)))]
def rL (a : Nat → Nat) : List Nat := [a 0, a 1, a 2, a 3, a 4, a 5, a 6, a 7, a 8, a 9, a 10, a 11]
abbrev rT (cI cZ : ClassId) : List (ClassId × FieldType) := [(cI, .int), (cZ, .boolean)]
theorem rW_L {cI cZ : ClassId} {a : Nat → Nat} {S : rSt} : (rW cI cZ a S).map (fun q => q.1) = rL a := rfl
def up2 (f : Nat → Nat → Int32) (k i : Nat) (x : Int32) : Nat → Nat → Int32 := va_up f k (upd (f k) i x)
theorem rF_set {a : Nat → Nat} {v : Nat → Int32} {x : Int32} (k : Nat) (hk : k = 0 ∨ (12 ≤ k ∧ k < 24)) : (rF a v).set k (.int x) = rF a (upd v k x) := by
  have h : k = 0 ∨ k = 12 ∨ k = 13 ∨ k = 14 ∨ k = 15 ∨ k = 16 ∨ k = 17 ∨ k = 18 ∨ k = 19 ∨ k = 20 ∨ k = 21 ∨ k = 22 ∨ k = 23 := by omega
  rcases h with rfl | rfl | rfl | rfl | rfl | rfl | rfl | rfl | rfl | rfl | rfl | rfl | rfl <;> rfl
theorem rW_put {cI cZ : ClassId} {a : Nat → Nat} {S : rSt} {x : Int32} (k : Nat) (hk : k = 0 ∨ (12 ≤ k ∧ k < 24)) : (rW cI cZ a S).set 0 (a 0, .inr (3, (rF a S.1).set k (.int x))) = rW cI cZ a (upd S.1 k x, S.2) := by
  rw [rF_set k hk]; rfl
theorem rW_at {cI cZ : ClassId} {a : Nat → Nat} {S : rSt} (k : Nat) (hk : 1 ≤ k ∧ k < 10) : (rW cI cZ a S)[k]? = some (a k, .inl (cI, 12, .inl (S.2 k))) := by
  have h : k = 1 ∨ k = 2 ∨ k = 3 ∨ k = 4 ∨ k = 5 ∨ k = 6 ∨ k = 7 ∨ k = 8 ∨ k = 9 := by omega
  rcases h with rfl | rfl | rfl | rfl | rfl | rfl | rfl | rfl | rfl <;> rfl
theorem rW_atZ {cI cZ : ClassId} {a : Nat → Nat} {S : rSt} (k : Nat) (hk : 10 ≤ k ∧ k < 12) : (rW cI cZ a S)[k]? = some (a k, .inl (cZ, 12, .inl (S.2 k))) := by
  have h : k = 10 ∨ k = 11 := by omega
  rcases h with rfl | rfl <;> rfl
theorem rW_set {cI cZ : ClassId} {a : Nat → Nat} {S : rSt} {g : Nat → Int32} (k : Nat) (hk : 1 ≤ k ∧ k < 10) : (rW cI cZ a S).set k (a k, .inl (cI, 12, .inl g)) = rW cI cZ a (S.1, va_up S.2 k g) := by
  have h : k = 1 ∨ k = 2 ∨ k = 3 ∨ k = 4 ∨ k = 5 ∨ k = 6 ∨ k = 7 ∨ k = 8 ∨ k = 9 := by omega
  rcases h with rfl | rfl | rfl | rfl | rfl | rfl | rfl | rfl | rfl <;> rfl
theorem rW_setZ {cI cZ : ClassId} {a : Nat → Nat} {S : rSt} {g : Nat → Int32} (k : Nat) (hk : 10 ≤ k ∧ k < 12) : (rW cI cZ a S).set k (a k, .inl (cZ, 12, .inl g)) = rW cI cZ a (S.1, va_up S.2 k g) := by
  have h : k = 10 ∨ k = 11 := by omega
  rcases h with rfl | rfl <;> rfl
section RK
variable {p : Program} {l : Launch} {e : Env} {R : Room} {s : State} {m : MethodId} {args : Array Value} {below : List Frame} {meth : Method} {c : Code} {H : Heap} {locs : List Loc} {cells slots : Nat} {Q : State → Prop}
variable {cc : ByteArray} {pc index : Nat} {ls : Array Slot} {rest : List Value} {Ts : List Cond} {D : va_G} {cI cZ : ClassId} {a : Nat → Nat} {S : rSt}
theorem r_get (hx : p.tables.exec = Jvm.exec) (hb : c.code = cc) (hts : ∀ w ∈ Ts, w.before args s = true) (hin : ∀ w ∈ wsX20, w ∈ Ts) (hown : s.vm.findClass RX2 = some m.cls) (hK : va_K D vwCl (rT cI cZ) s) (hP : va_P D vwCl (rW cI cZ a S) H) (k : Nat) (hk : k < 24) (hlink : Cond.fieldLink RX2 index "DozingDevicesModel" (TX2 k).2.1 (TX2 k).2.2.1 ∈ Ts) (hT : (TX2 k).1 = "DozingDevicesModel") {v : Value} (hv : (rF a S.1)[k]? = some v) (hdg : decode cc pc = .ok (.getfield index, 3))
    (kk : W p l e R s m args below meth c H locs cells slots Q (F0 m (pc + 3) ls (v :: rest))) : W p l e R s m args below meth c H locs cells slots Q (F0 m pc ls (.ref (a 0) :: rest)) :=
  va_get (ci := 3) (C := RX2) (T := TX2) (N := 24) hx hb hts hin hown hK hP 0 rfl rfl k hk (hts _ hlink) (fun _ h => by rw [hT] at h; exact h) hv hdg kk
theorem r_put (hn : (rL a).Nodup) (hx : p.tables.exec = Jvm.exec) (hb : c.code = cc) (hts : ∀ w ∈ Ts, w.before args s = true) (hin : ∀ w ∈ wsX20, w ∈ Ts) (hown : s.vm.findClass RX2 = some m.cls) (hK : va_K D vwCl (rT cI cZ) s) (hP : va_P D vwCl (rW cI cZ a S) H) (hS : va_S (wA (rL a) s.heap.size) s.heap H locs) (k : Nat) (hk : k = 0 ∨ (12 ≤ k ∧ k < 24)) (hlink : Cond.fieldLink RX2 index "DozingDevicesModel" (TX2 k).2.1 (TX2 k).2.2.1 ∈ Ts) (hT : (TX2 k).1 = "DozingDevicesModel" ∧ (TX2 k).2.2.2 = false ∧ tyX2 k = .int) {x : Int32} (hdg : decode cc pc = .ok (.putfield index, 3))
    (kk : ∀ (H1 : Heap) (locs1 : List Loc), va_P D vwCl (rW cI cZ a (upd S.1 k x, S.2)) H1 → va_S (wA (rL a) s.heap.size) s.heap H1 locs1 → W p l e R s m args below meth c H1 locs1 cells slots Q (F0 m (pc + 3) ls rest)) : W p l e R s m args below meth c H locs cells slots Q (F0 m pc ls (.int x :: .ref (a 0) :: rest)) := by
  have hk24 : k < 24 := by omega
  refine va_put (ci := 3) (C := RX2) (T := TX2) (N := 24) (ty := .int) hx hb hts hin tyX2 tyX2_ok nmX2 hown hK hP (wD rW_L hn (fun _ h => Or.inl h)) hS 0 rfl rfl k hk24 (hts _ hlink) (fun _ h => by rw [hT.1] at h; exact h) hT.2.1 (by rw [tyX2_ok k hk24, hT.2.2]) rfl rfl (by show k < 24; exact hk24) hdg (fun H1 locs1 hP1 _ hS1 => ?_)
  rw [rW_put k hk] at hP1
  exact kk H1 locs1 hP1 hS1
theorem r_ald {x : Int32} (hx : p.tables.exec = Jvm.exec) (hb : c.code = cc) (hK : va_K D vwCl (rT cI cZ) s) (hP : va_P D vwCl (rW cI cZ a S) H) (k : Nat) (hk : 1 ≤ k ∧ k < 10) {j : Nat} (hj : j < 12) (hx2 : S.2 k j = x) (hdg : decode cc pc = .ok (.iaload, 1))
    (kk : W p l e R s m args below meth c H locs cells slots Q (F0 m (pc + 1) ls (.int x :: rest))) : W p l e R s m args below meth c H locs cells slots Q (F0 m pc ls (.int (nI j) :: .ref (a k) :: rest)) := by
  refine va_iald hx hb hK hP k 0 (rW_at k hk) rfl (vp_in_nI hj (by decide)) hdg ?_
  rw [nI_clamp (Nat.lt_trans hj (by decide)), hx2]
  exact kk
theorem r_zald {x : Int32} (hx : p.tables.exec = Jvm.exec) (hb : c.code = cc) (hK : va_K D vwCl (rT cI cZ) s) (hP : va_P D vwCl (rW cI cZ a S) H) (k : Nat) (hk : 10 ≤ k ∧ k < 12) {j : Nat} (hj : j < 12) (hx2 : S.2 k j = x) (hdg : decode cc pc = .ok (.baload, 1))
    (kk : W p l e R s m args below meth c H locs cells slots Q (F0 m (pc + 1) ls (.int x :: rest))) : W p l e R s m args below meth c H locs cells slots Q (F0 m pc ls (.int (nI j) :: .ref (a k) :: rest)) := by
  refine va_zald hx hb hK hP k 1 (rW_atZ k hk) rfl (vp_in_nI hj (by decide)) hdg ?_
  rw [nI_clamp (Nat.lt_trans hj (by decide)), hx2]
  exact kk
theorem r_ast (hn : (rL a).Nodup) (hx : p.tables.exec = Jvm.exec) (hb : c.code = cc) (hK : va_K D vwCl (rT cI cZ) s) (hP : va_P D vwCl (rW cI cZ a S) H) (hS : va_S (wA (rL a) s.heap.size) s.heap H locs) (k : Nat) (hk : 1 ≤ k ∧ k < 10) {j : Nat} {x : Int32} (hj : j < 12) (hdg : decode cc pc = .ok (.iastore, 1))
    (kk : ∀ (H1 : Heap) (locs1 : List Loc), va_P D vwCl (rW cI cZ a (S.1, up2 S.2 k j x)) H1 → va_S (wA (rL a) s.heap.size) s.heap H1 locs1 → W p l e R s m args below meth c H1 locs1 cells slots Q (F0 m (pc + 1) ls rest)) : W p l e R s m args below meth c H locs cells slots Q (F0 m pc ls (.int x :: .int (nI j) :: .ref (a k) :: rest)) := by
  refine va_iast hx hb hK hP (wD rW_L hn (fun _ h => Or.inl h)) hS k 0 (rW_at k hk) rfl (vp_in_nI hj (by decide)) hdg (fun H1 locs1 hP1 _ hS1 => ?_)
  rw [nI_clamp (Nat.lt_trans hj (by decide)), rW_set k hk] at hP1
  exact kk H1 locs1 hP1 hS1
theorem nar01 {x : Int32} (h : x = 0 ∨ x = 1) : vp_nar .boolean x = x := by rcases h with rfl | rfl <;> rfl
theorem r_zast (hn : (rL a).Nodup) (hx : p.tables.exec = Jvm.exec) (hb : c.code = cc) (hK : va_K D vwCl (rT cI cZ) s) (hP : va_P D vwCl (rW cI cZ a S) H) (hS : va_S (wA (rL a) s.heap.size) s.heap H locs) (k : Nat) (hk : 10 ≤ k ∧ k < 12) {j : Nat} {x : Int32} (hj : j < 12) (h01 : x = 0 ∨ x = 1) (hdg : decode cc pc = .ok (.bastore, 1))
    (kk : ∀ (H1 : Heap) (locs1 : List Loc), va_P D vwCl (rW cI cZ a (S.1, up2 S.2 k j x)) H1 → va_S (wA (rL a) s.heap.size) s.heap H1 locs1 → W p l e R s m args below meth c H1 locs1 cells slots Q (F0 m (pc + 1) ls rest)) : W p l e R s m args below meth c H locs cells slots Q (F0 m pc ls (.int x :: .int (nI j) :: .ref (a k) :: rest)) := by
  refine va_zast hx hb hK hP (wD rW_L hn (fun _ h => Or.inl h)) hS k 1 (rW_atZ k hk) rfl (vp_in_nI hj (by decide)) hdg (fun H1 locs1 hP1 _ hS1 => ?_)
  rw [nar01 h01, nI_clamp (Nat.lt_trans hj (by decide)), rW_setZ k hk] at hP1
  exact kk H1 locs1 hP1 hS1
end RK
