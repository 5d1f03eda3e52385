set_option maxHeartbeats 4000000 in
set_option maxRecDepth 100000 in
theorem law_loop {p : Program} {l : Launch} {e : Env} {s : State} {m : MethodId} {below : List Frame} {meth : Method} {c : Code} {b L : Nat} {xs : Nat → Int32} {D : va_G} {cI cZ cO : ClassId} {a : Nat → Nat} {e0 mi : Nat} (F : lwF p s m c b L xs D cI cZ cO a e0 mi) (hr : meth.sig.returnType = ret) (hlocks : meth.locks = false) (hL : L ≤ 2560) :
    ∀ (f i : Nat) (n : Nat) (o : Nat → Nat) (S : cSt) (T : rSt) (h ad : Nat → Nat) (md : Nat → Int32) (H : Heap) (locs : List Loc) (ls : Array Slot), L + 1 ≤ i + f → i ≤ L → lwI D cI cZ cO a e0 s n o S T h ad md H locs → Rel n o S T → lv_has ls 4 [(3, .int (nI i)), (2, .ref (a 0)), (1, .ref (h 0)), (0, .ref b)] → W p l e room_1 s m #[Value.ref b] below meth c H locs (15 + 3 * i) (176 + 43 * i) (lw_Z below #[Value.ref b] s) (F0 m 18 ls []) := by
  have hx := F.1
  have hb := F.2.1
  have hX := F.2.2.2.2.2.1
  have hbl := F.2.2.2.2.2.2.1
  have hbA : ¬ (fun q : Nat => s.heap.size ≤ q) b := Nat.not_le.mpr hbl
  intro f
  induction f with
  | zero =>
    intro i n o S T h ad md H locs ls h1 h2
    exact absurd h1 (by omega)
  | succ f ih =>
    intro i n o S T h ad md H locs ls h1 h2 I hR hl
    have hS := I.2.2.2.2.2
    refine lv_iload_n hx hb dL_law_18 rfl (lv_at hl 0 rfl) ?_
    refine lv_aload_n hx hb dL_law_19 rfl (lv_at hl 3 rfl) ?_
    refine va_slen hx hb hX hbl hbA hS dL_law_20 ?_
    refine lv_iconst (v := 5) hx hb dL_law_21 (by decide) ?_
    refine lv_isub hx hb dL_law_22 ?_
    refine lv_icmp_gt (tgt := 573) hx hb dL_law_23 (by decide) (fun c1 => ?_) (fun c1 => ?_)
    · refine lv_iconst (v := 1) hx hb dL_law_573 (by decide) ?_
      refine va_forget (fun q hq => hS.2.2 q hq) ?_
      refine W.widen (k := 1200000) (n := 5502250) (by omega) (by omega) ?_
      exact lw_ret hx hb hr hlocks dL_law_574
    · have hi : i + 5 ≤ L := by
        rw [Int32.lt_iff_toInt_lt, sub5 hL, nI_toInt (by omega)] at c1
        omega
      have next : ∀ (n' : Nat) (o' : Nat → Nat) (S' : cSt) (T' : rSt) (h' ad' : Nat → Nat) (md' : Nat → Int32) (H1 : Heap) (locs1 : List Loc), h' 0 = h 0 → lwI D cI cZ cO a e0 s n' o' S' T' h' ad' md' H1 locs1 → Rel n' o' S' T' → W p l e room_1 s m #[Value.ref b] below meth c H1 locs1 (15 + 3 * i + 3) (176 + 43 * i + 43) (lw_Z below #[Value.ref b] s) (F0 m 567 ls []) := by
        intro n' o' S' T' h' ad' md' H1 locs1 h0 I' hR'
        refine lv_iinc (v := nI (i + 5)) (lv' := [(3, .int (nI (i + 5))), (2, .ref (a 0)), (1, .ref (h 0)), (0, .ref b)]) hx hb dL_law_567 hl (k := 0) rfl (nI_add i 5) (by decide) rfl (fun ls hl => ?_)
        refine lv_goto (tgt := 18) hx hb dL_law_570 (by decide) ?_
        rw [← h0] at hl
        exact W.widen (k := 15 + 3 * (i + 5)) (n := 176 + 43 * (i + 5)) (by omega) (by omega) (ih (i + 5) n' o' S' T' h' ad' md' H1 locs1 ls (by omega) hi I' hR' hl)
      have hc : 15 + 3 * i + 3 ≤ 1200000 ∧ 176 + 43 * i + 43 ≤ 5502250 := ⟨by omega, by omega⟩
      refine lv_aload_n hx hb dL_law_26 rfl (lv_at hl 3 rfl) ?_
      refine lv_iload_n hx hb dL_law_27 rfl (lv_at hl 0 rfl) ?_
      refine va_sld hx hb hX hbl hbA hS (vp_in_nI (show i < L by omega) (by omega)) dL_law_28 ?_
      refine lv_bipush (v := 31) hx hb dL_law_29 (by decide) ?_
      refine lv_iand hx hb dL_law_31 ?_
      obtain ⟨j, hj, ej⟩ := and31 (xs (nI i).toNatClampNeg)
      rw [ej]
      rcases Nat.lt_or_ge j 19 with hj2 | hj2
      · have hcs : j = 0 ∨ j = 1 ∨ j = 2 ∨ j = 3 ∨ j = 4 ∨ j = 5 ∨ j = 6 ∨ j = 7 ∨ j = 8 ∨ j = 9 ∨ j = 10 ∨ j = 11 ∨ j = 12 ∨ j = 13 ∨ j = 14 ∨ j = 15 ∨ j = 16 ∨ j = 17 ∨ j = 18 := by omega
        rcases hcs with rfl | rfl | rfl | rfl | rfl | rfl | rfl | rfl | rfl | rfl | rfl | rfl | rfl | rfl | rfl | rfl | rfl | rfl | rfl
        · exact lv_tableIn (tgt := 124) hx hb dL_law_32 (by decide) (by decide) (by rfl) (by decide) (lwc_device F I hR hL hi hl hc next)
        · exact lv_tableIn (tgt := 177) hx hb dL_law_32 (by decide) (by decide) (by rfl) (by decide) (lwc_use F I hR hL hi hl hc next)
        · exact lv_tableIn (tgt := 200) hx hb dL_law_32 (by decide) (by decide) (by rfl) (by decide) (lwc_release F I hR hL hi hl hc next)
        · exact lv_tableIn (tgt := 223) hx hb dL_law_32 (by decide) (by decide) (by rfl) (by decide) (lwc_waker F I hR hL hi hl hc next)
        · exact lv_tableIn (tgt := 272) hx hb dL_law_32 (by decide) (by decide) (by rfl) (by decide) (lwc_refuse F I hR hL hi hl hc next)
        · exact lv_tableIn (tgt := 305) hx hb dL_law_32 (by decide) (by decide) (by rfl) (by decide) (lwc_signal F I hR hL hi hl hc next)
        · exact lv_tableIn (tgt := 328) hx hb dL_law_32 (by decide) (by decide) (by rfl) (by decide) (lwc_sleep F I hR hL hi hl hc next)
        · exact lv_tableIn (tgt := 341) hx hb dL_law_32 (by decide) (by decide) (by rfl) (by decide) (lwc_watch F I hR hL hi hl hc next)
        · exact lv_tableIn (tgt := 364) hx hb dL_law_32 (by decide) (by decide) (by rfl) (by decide) (lwc_kick F I hR hL hi hl hc next)
        · exact lv_tableIn (tgt := 377) hx hb dL_law_32 (by decide) (by decide) (by rfl) (by decide) (lwc_tick F I hR hL hi hl hc next)
        · exact lv_tableIn (tgt := 400) hx hb dL_law_32 (by decide) (by decide) (by rfl) (by decide) (lwc_phase F I hR hL hi hl hc next)
        · exact lv_tableIn (tgt := 413) hx hb dL_law_32 (by decide) (by decide) (by rfl) (by decide) (lwc_state F I hR hL hi hl hc next)
        · exact lv_tableIn (tgt := 436) hx hb dL_law_32 (by decide) (by decide) (by rfl) (by decide) (lwc_uses F I hR hL hi hl hc next)
        · exact lv_tableIn (tgt := 459) hx hb dL_law_32 (by decide) (by decide) (by rfl) (by decide) (lwc_idle F I hR hL hi hl hc next)
        · exact lv_tableIn (tgt := 482) hx hb dL_law_32 (by decide) (by decide) (by rfl) (by decide) (lwc_refusals F I hR hL hi hl hc next)
        · exact lv_tableIn (tgt := 505) hx hb dL_law_32 (by decide) (by decide) (by rfl) (by decide) (lwc_due F I hR hL hi hl hc next)
        · exact lv_tableIn (tgt := 518) hx hb dL_law_32 (by decide) (by decide) (by rfl) (by decide) (lwc_left F I hR hL hi hl hc next)
        · exact lv_tableIn (tgt := 531) hx hb dL_law_32 (by decide) (by decide) (by rfl) (by decide) (lwc_named F I hR hL hi hl hc next)
        · exact lv_tableIn (tgt := 544) hx hb dL_law_32 (by decide) (by decide) (by rfl) (by decide) (lwc_figure F I hR hL hi hl hc next)
      · refine lv_tableOut (tgt := 567) hx hb dL_law_32 (Or.inr (by rw [nI_toInt (by omega)]; omega)) (by decide) ?_
        exact W.widen (k := 15 + 3 * i + 3) (n := 176 + 43 * i + 43) (by omega) (by omega) (next _ _ _ _ _ _ _ _ _ rfl I hR)
