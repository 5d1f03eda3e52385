/-! the small calls: class and reference answer alike and stay tied -/
theorem upd_ap (f : Nat → Int32) (k : Nat) (x : Int32) (j : Nat) : upd f k x j = if j = k then x else f j := rfl
theorem up2_ap (F : Nat → Nat → Int32) (k i : Nat) (x : Int32) (q j : Nat) : up2 F k i x q j = if q = k then (if j = i then x else F k j) else F q j := by
  unfold up2 va_up upd
  by_cases h : q = k <;> simp [h]
section S1
variable {n : Nat} {o : Nat → Nat} {S : cSt} {T : rSt}
theorem sD_7 {V : Nat → Int32} {v : Nat → Int32} {u : Option Nat} {i : Nat} {x : Int32} (h : sD n S T) : sD n (V, up2 S.2.1 7 i x, u) (v, up2 T.2 5 i x) := by
  intro j hj
  obtain ⟨a1, a2, a3, a4, a5, a7, a8, a9, a10⟩ := h j hj
  refine ⟨a1, a2, a3, a4, ?_, ?_, ?_, ?_, ?_⟩ <;> simp only [up2_ap] <;> by_cases e : j = i <;> simp [e] <;> (try assumption) <;> (try (rw [← e]; assumption))
theorem sD_9 {V : Nat → Int32} {v : Nat → Int32} {u : Option Nat} {i : Nat} {x : Int32} (h : sD n S T) : sD n (V, up2 S.2.1 9 i x, u) (v, up2 T.2 7 i x) := by
  intro j hj
  obtain ⟨a1, a2, a3, a4, a5, a7, a8, a9, a10⟩ := h j hj
  refine ⟨a1, a2, a3, a4, ?_, ?_, ?_, ?_, ?_⟩ <;> simp only [up2_ap] <;> by_cases e : j = i <;> simp [e] <;> (try assumption) <;> (try (rw [← e]; assumption))
theorem sD_10 {V : Nat → Int32} {v : Nat → Int32} {u : Option Nat} {i : Nat} {x : Int32} (h : sD n S T) : sD n (V, up2 S.2.1 10 i x, u) (v, up2 T.2 8 i x) := by
  intro j hj
  obtain ⟨a1, a2, a3, a4, a5, a7, a8, a9, a10⟩ := h j hj
  refine ⟨a1, a2, a3, a4, ?_, ?_, ?_, ?_, ?_⟩ <;> simp only [up2_ap] <;> by_cases e : j = i <;> simp [e] <;> (try assumption) <;> (try (rw [← e]; assumption))
theorem sD_11 {V : Nat → Int32} {v : Nat → Int32} {u : Option Nat} {i : Nat} {x : Int32} (h : sD n S T) : sD n (V, up2 S.2.1 11 i x, u) (v, up2 T.2 9 i x) := by
  intro j hj
  obtain ⟨a1, a2, a3, a4, a5, a7, a8, a9, a10⟩ := h j hj
  refine ⟨a1, a2, a3, a4, ?_, ?_, ?_, ?_, ?_⟩ <;> simp only [up2_ap] <;> by_cases e : j = i <;> simp [e] <;> (try assumption) <;> (try (rw [← e]; assumption))
theorem sD_12 {V : Nat → Int32} {v : Nat → Int32} {u : Option Nat} {i : Nat} {x : Int32} (h : sD n S T) : sD n (V, up2 S.2.1 12 i x, u) (v, up2 T.2 10 i x) := by
  intro j hj
  obtain ⟨a1, a2, a3, a4, a5, a7, a8, a9, a10⟩ := h j hj
  refine ⟨a1, a2, a3, a4, ?_, ?_, ?_, ?_, ?_⟩ <;> simp only [up2_ap] <;> by_cases e : j = i <;> simp [e] <;> (try assumption) <;> (try (rw [← e]; assumption))
theorem inR_ix {d : Int32} (hn : n ≤ 12) (h : inR n d = true) : d.toNatClampNeg < n ∧ d = nI d.toNatClampNeg := by
  obtain ⟨j, hj, rfl⟩ := inR_spec hn h
  have e : (nI j).toNatClampNeg = j := nI_clamp (by omega)
  rw [e]; exact ⟨hj, rfl⟩
theorem s_phase (h : Rel n o S T) : C_phase n o S = R_phase n T := h.2.2.1.1.symm
theorem s_named (h : Rel n o S T) : C_named n o S = R_named n T := h.2.2.1.2.1.symm
theorem s_left (h : Rel n o S T) : C_left n o S = R_left n T := by
  unfold C_left R_left
  have hu := h.2.2.2.2.1
  rcases hq : S.2.2 with _ | j
  · rw [(hu.1 hq).1, (hu.1 hq).2, if_neg (by decide)]
  · have hj : j < n := h.cok.2.2.2 j hq
    have h12 := h.1.1
    rw [(hu.2 j hq).1, (hu.2 j hq).2, if_pos (nI_pos' (by omega))]
theorem s_due (h : Rel n o S T) : C_due n o S = R_due n T := by
  unfold C_due R_due
  have hu := h.2.2.2.2.1
  rcases hq : S.2.2 with _ | j
  · rw [(hu.1 hq).1]; rfl
  · rw [(hu.2 j hq).1]; rfl
theorem s_state (h : Rel n o S T) (d : Int32) : C_state n o S d = R_state n T d := by
  unfold C_state R_state
  by_cases hd : inR n d = true
  · rw [if_pos hd, if_pos hd, (h.2.1 _ (inR_ix h.1.1 hd).1).2.2.2.2.1]
  · rw [if_neg hd, if_neg hd]
theorem s_uses (h : Rel n o S T) (d : Int32) : C_uses n o S d = R_uses n T d := by
  unfold C_uses R_uses
  by_cases hd : inR n d = true
  · rw [if_pos hd, if_pos hd, (h.2.1 _ (inR_ix h.1.1 hd).1).2.2.2.2.2.1]
  · rw [if_neg hd, if_neg hd]
theorem s_idle (h : Rel n o S T) (d : Int32) : C_idle n o S d = R_idle n T d := by
  unfold C_idle R_idle
  by_cases hd : inR n d = true
  · rw [if_pos hd, if_pos hd, (h.2.1 _ (inR_ix h.1.1 hd).1).2.2.2.2.2.2.1]
  · rw [if_neg hd, if_neg hd]
theorem s_refusals (h : Rel n o S T) (d : Int32) : C_refusals n o S d = R_refusals n T d := by
  unfold C_refusals R_refusals
  by_cases hd : inR n d = true
  · rw [if_pos hd, if_pos hd, (h.2.1 _ (inR_ix h.1.1 hd).1).2.2.2.2.2.2.2.1]
  · rw [if_neg hd, if_neg hd]
theorem s_figure (h : Rel n o S T) (k : Int32) : C_figure n o S k = R_figure n T k := by
  obtain ⟨-, -, ⟨v12, v15, v16, v17, v18, v19, v20, v21, v22⟩, -⟩ := h
  unfold C_figure R_figure
  rw [v17, v19, v20, v21, v22, v16]
theorem s_kick (h : Rel n o S T) : (C_kick n o S).1 = (R_kick n T).1 ∧ Rel n o (C_kick n o S).2 (R_kick n T).2 := by
  obtain ⟨h1, h2, ⟨v12, v15, v16, v17, v18, v19, v20, v21, v22⟩, h4, h5, h6, h7⟩ := h
  exact ⟨v19.symm, h1, h2, ⟨v12, v15, v16, v17, v18, rfl, v20, v21, v22⟩, h4, h5, h6, h7⟩
theorem within_lt {x a b : Int32} : C_isWithin n o S x a b = if x < a then 0 else if b < x then 0 else 1 := rfl
theorem s_watch (h : Rel n o S T) (k : Int32) : (C_watch n o S k).1 = (R_watch n T k).1 ∧ Rel n o (C_watch n o S k).2 (R_watch n T k).2 := by
  unfold C_watch R_watch
  rw [within_lt]
  by_cases h1 : k < 0
  · rw [if_pos h1, if_pos rfl, if_pos h1]; exact ⟨rfl, h⟩
  · by_cases h2 : 100 < k
    · have h3 : ¬ k ≤ 100 := fun z => by rw [Int32.lt_iff_toInt_lt] at h2; rw [Int32.le_iff_toInt_le] at z; omega
      rw [if_neg h1, if_pos h2, if_pos rfl, if_neg h1, if_neg h3]; exact ⟨rfl, h⟩
    · have h3 : k ≤ 100 := by rw [Int32.lt_iff_toInt_lt] at h2; rw [Int32.le_iff_toInt_le]; omega
      rw [if_neg h1, if_neg h2, if_neg (by decide), if_neg h1, if_pos h3]
      obtain ⟨g1, g2, ⟨v12, v15, v16, v17, v18, v19, v20, v21, v22⟩, g4, g5, g6, g7⟩ := h
      refine ⟨rfl, g1, g2, ⟨v12, v15, v16, v17, rfl, rfl, v20, v21, v22⟩, ⟨g4.1, g4.2.1, ?_⟩, g5, g6, g7⟩
      show 0 ≤ k
      rw [Int32.lt_iff_toInt_lt] at h1; rw [Int32.le_iff_toInt_le]; omega
theorem s_release (h : Rel n o S T) (d : Int32) : (C_release n o S d).1 = (R_release n T d).1 ∧ Rel n o (C_release n o S d).2 (R_release n T d).2 := by
  unfold C_release R_release
  by_cases hd : inR n d = true
  · rw [if_pos hd, if_pos hd, h.2.2.1.1, (h.2.1 _ (inR_ix h.1.1 hd).1).2.2.2.2.2.1]
    split
    · split
      · exact ⟨rfl, h⟩
      · obtain ⟨g1, g2, g3, g4, g5, g6, g7⟩ := h
        exact ⟨rfl, g1, sD_9 g2, g3, g4, g5, g6, g7⟩
    · exact ⟨rfl, h⟩
  · rw [if_neg hd, if_neg hd]; exact ⟨rfl, h⟩
theorem s_refuse (h : Rel n o S T) (d k : Int32) : (C_refuse n o S d k).1 = (R_refuse n T d k).1 ∧ Rel n o (C_refuse n o S d k).2 (R_refuse n T d k).2 := by
  unfold C_refuse R_refuse
  rw [within_lt]
  by_cases hd : inR n d = true
  · rw [if_pos hd, if_pos hd]
    by_cases h1 : k < 0
    · rw [if_pos h1, if_pos rfl, if_pos h1]; exact ⟨rfl, h⟩
    · by_cases h2 : 9 < k
      · have h3 : ¬ k ≤ 9 := fun z => by rw [Int32.lt_iff_toInt_lt] at h2; rw [Int32.le_iff_toInt_le] at z; omega
        rw [if_neg h1, if_pos h2, if_pos rfl, if_neg h1, if_neg h3]; exact ⟨rfl, h⟩
      · have h3 : k ≤ 9 := by rw [Int32.lt_iff_toInt_lt] at h2; rw [Int32.le_iff_toInt_le]; omega
        rw [if_neg h1, if_neg h2, if_neg (by decide), if_neg h1, if_pos h3]
        obtain ⟨g1, g2, g3, g4, g5, g6, g7⟩ := h
        exact ⟨rfl, g1, sD_11 g2, g3, g4, g5, g6, g7⟩
  · rw [if_neg hd, if_neg hd]; exact ⟨rfl, h⟩
theorem s_waker (h : Rel n o S T) (d on : Int32) : (C_waker n o S d on).1 = (R_waker n T d on).1 ∧ Rel n o (C_waker n o S d on).2 (R_waker n T d on).2 := by
  unfold C_waker R_waker
  by_cases hd : inR n d = true
  · rw [if_pos hd, if_pos hd]
    obtain ⟨g1, g2, g3, g4, g5, g6, g7⟩ := h
    exact ⟨rfl, g1, sD_12 g2, g3, g4, g5, g6, g7⟩
  · rw [if_neg hd, if_neg hd]; exact ⟨rfl, h⟩
end S1
