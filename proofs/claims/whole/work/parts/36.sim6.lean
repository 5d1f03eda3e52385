/-! the watch bites, the due one comes nearer, a tick, ticks -/
section S6
variable {n : Nat} {o : Nat → Nat}
theorem reset_it {S : cSt} {T : rSt} (hD : sD n S T) : ∀ k, k ≤ n → sD n (C_resetAll_it n o S k) (R_reset_it n T k) ∧ (∀ j, ¬ j = 23 → (R_reset_it n T k).1 j = T.1 j) ∧ (∀ j, ¬ j = 13 → (C_resetAll_it n o S k).1 j = S.1 j) ∧ (∀ b, S.1 13 = b + T.1 23 → (C_resetAll_it n o S k).1 13 = b + (R_reset_it n T k).1 23) ∧ (∀ q, ¬ q = 7 → ¬ q = 9 → ¬ q = 10 → (C_resetAll_it n o S k).2.1 q = S.2.1 q) ∧ ∀ i, i < k → (C_resetAll_it n o S k).2.1 7 i = 2
  | 0, _ => ⟨hD, fun _ _ => rfl, fun _ _ => rfl, fun _ h => h, fun _ _ _ _ => rfl, fun i h => absurd h (Nat.not_lt_zero _)⟩
  | k + 1, hk => by
    have ih := reset_it hD k (by omega)
    have e1 : C_resetAll_it n o S (k + 1) = C_resetAll_b n o k (C_resetAll_it n o S k) := rfl
    have e2 : R_reset_it n T (k + 1) = R_reset_b k (R_reset_it n T k) := rfl
    rw [e1, e2]
    generalize C_resetAll_it n o S k = Z at ih ⊢
    generalize R_reset_it n T k = X at ih ⊢
    obtain ⟨i1, i2, i3, i4, i6, i8⟩ := ih
    unfold C_resetAll_b R_reset_b
    rw [(i1 k (by omega)).2.2.2.2.1]
    unfold C_turn
    by_cases h2 : Z.2.1 7 k = 2
    · rw [if_pos h2, if_pos h2]
      refine ⟨?_, fun j hj => ?_, i3, i4, fun q h7 h9 h10 => ?_, fun i hi => ?_⟩
      · intro j hj
        obtain ⟨a1, a2, a3, a4, a5, a7, a8, a9, a10⟩ := i1 j hj
        refine ⟨a1, a2, a3, a4, ?_, ?_, ?_, a9, a10⟩
        · simp only [up2_ap]; by_cases e : j = k <;> simp [e, h2]
          exact a5
        · simp only [up2_ap]; by_cases e : j = k <;> simp [e]
          exact a7
        · simp only [up2_ap]; by_cases e : j = k <;> simp [e]
          exact a8
      · rw [← i2 j hj]; show upd X.1 23 _ j = X.1 j; rw [upd_ap, if_neg hj]
      · rw [← i6 q h7 h9 h10]; unfold up2 va_up; simp [h9, h10]
      · show up2 (up2 Z.2.1 9 k 0) 10 k 0 7 i = 2
        by_cases e : i = k
        · rw [e]; exact h2
        · exact i8 i (by omega)
    · rw [if_neg h2, if_neg h2]
      refine ⟨?_, fun j hj => ?_, fun j hj => ?_, fun b hb => ?_, fun q h7 h9 h10 => ?_, fun i hi => ?_⟩
      · intro j hj
        obtain ⟨a1, a2, a3, a4, a5, a7, a8, a9, a10⟩ := i1 j hj
        refine ⟨a1, a2, a3, a4, ?_, ?_, ?_, a9, a10⟩
        · simp only [up2_ap]; by_cases e : j = k <;> simp [e]
          exact a5
        · simp only [up2_ap]; by_cases e : j = k <;> simp [e]
          exact a7
        · simp only [up2_ap]; by_cases e : j = k <;> simp [e]
          exact a8
      · rw [← i2 j hj]; show upd X.1 23 _ j = X.1 j; rw [upd_ap, if_neg hj]
      · rw [← i3 j hj]; show upd Z.1 13 _ j = Z.1 j; rw [upd_ap, if_neg hj]
      · show Z.1 13 + 1 = b + (X.1 23 + 1); rw [i4 b hb, Int32.add_assoc]
      · rw [← i6 q h7 h9 h10]; unfold up2 va_up; simp [h7, h9, h10]
      · show up2 Z.2.1 7 k 2 7 i = 2
        rw [up2_ap, if_pos rfl]
        by_cases e : i = k
        · rw [if_pos e]
        · rw [if_neg e]; exact i8 i (by omega)
theorem s_reset {S : cSt} {T : rSt} (h : Rel n o S T) : Rel n o (C_resetAll n o S) (R_reset n T) ∧ ∀ b, S.1 13 = b + T.1 23 → (C_resetAll n o S).1 13 = b + (R_reset n T).1 23 := by
  obtain ⟨g1, g2, ⟨v12, v15, v16, v17, v18, v19, v20, v21, v22⟩, g4, g5, g6, g7⟩ := h
  obtain ⟨i1, i2, i3, i4, i6, i8⟩ := reset_it (o := o) g2 n (Nat.le_refl n)
  unfold C_resetAll R_reset C_endDue
  generalize C_resetAll_it n o S n = Z at i1 i3 i4 i6 i8 ⊢
  generalize R_reset_it n T n = X at i1 i2 i4 ⊢
  refine ⟨⟨⟨g1.1, ?_, ?_, ?_⟩, i1, ⟨rfl, rfl, rfl, ?_, ?_, rfl, ?_, ?_, ?_⟩, ⟨fun i hi => Or.inr (Or.inr (i8 i hi)), ?_, ?_⟩, ⟨fun _ => ⟨rfl, rfl⟩, fun j hj => ?_⟩, Or.inl ⟨rfl, fun i hi => ?_, rfl⟩, fun z => absurd rfl z⟩, i4⟩
  · show ∀ i, i < n → Z.2.1 0 i = nI i
    rw [i6 0 (by decide) (by decide) (by decide)]; exact g1.2.1
  · show X.1 0 = nI n
    rw [i2 0 (by decide)]; exact g1.2.2.1
  · show ∃ dp, stt n o (Z.2.1 1) (Z.2.1 2) (Z.2.1 3) dp
    rw [i6 1 (by decide) (by decide) (by decide), i6 2 (by decide) (by decide) (by decide), i6 3 (by decide) (by decide) (by decide)]; exact g1.2.2.2
  · show X.1 17 = Z.1 5
    rw [i2 17 (by decide), i3 5 (by decide)]; exact v17
  · show X.1 18 = Z.1 6
    rw [i2 18 (by decide), i3 6 (by decide)]; exact v18
  · show X.1 20 + 1 = Z.1 8 + 1
    rw [i2 20 (by decide), i3 8 (by decide), v20]
  · show X.1 21 = Z.1 9
    rw [i2 21 (by decide), i3 9 (by decide)]; exact v21
  · show X.1 22 = Z.1 10
    rw [i2 22 (by decide), i3 10 (by decide)]; exact v22
  · show ∀ i, i < n → 0 ≤ Z.2.1 6 i
    rw [i6 6 (by decide) (by decide) (by decide)]; exact g4.2.1
  · show 0 ≤ Z.1 6
    rw [i3 6 (by decide)]; exact g4.2.2
  · exact absurd hj (by show ¬ (none : Option Nat) = some j; intro z; cases z)
  · show ¬ Z.2.1 7 i = 0
    rw [i8 i hi]; decide
theorem s_work {S : cSt} {T : rSt} (h : Rel n o S T) {j : Nat} (hj : j < n) (hu : S.2.2 = some j) (hp : (S.1 2 = 1 ∧ S.2.1 7 j = 2) ∨ ((S.1 2 = 3 ∨ S.1 2 = 4) ∧ S.2.1 7 j = 0)) : Rel n o (C_bringNearer n o S j) (R_work n T) ∧ ∀ b, S.1 13 = b + T.1 23 → (C_bringNearer n o S j).1 13 = b + (R_work n T).1 23 := by
  have h0 : ¬ S.1 2 = 0 := by rcases hp with ⟨e, -⟩ | ⟨e | e, -⟩ <;> rw [e] <;> decide
  have hM := h.mid h0
  obtain ⟨t13, t14⟩ := h.2.2.2.2.1.2 j hu
  have h12 := h.1.1
  unfold C_bringNearer R_work
  rw [t13, t14, nI_clamp (by omega), hM.2.2.1.1, (hM.2.1 j hj).2.2.2.2.2.2.2.1]
  by_cases c1 : S.1 4 - 1 ≤ 0
  · rw [if_pos c1, if_pos c1]
    rcases hp with ⟨e, e7⟩ | ⟨e, e7⟩
    · rw [if_pos e, if_pos e]
      by_cases c2 : S.2.1 11 j ≤ 0
      · rw [if_pos c2, if_pos c2]
        have et : C_turn n o (upd (S.1) 4 ((S.1 4) - 1), S.2.1, S.2.2) j 0 = (upd (upd (S.1) 4 ((S.1 4) - 1)) 13 (S.1 13 + 1), up2 S.2.1 7 j 0, S.2.2) := by
          unfold C_turn
          rw [if_neg]
          · rfl
          · show ¬ S.2.1 7 j = 0
            rw [e7]; decide
        rw [et]
        obtain ⟨g1, g2, ⟨v12, v15, v16, v17, v18, v19, v20, v21, v22⟩, g4, g5⟩ := hM
        have key := sink_sim (n := n) (o := o) n (upd (upd (S.1) 4 ((S.1 4) - 1)) 13 (S.1 13 + 1), up2 S.2.1 7 j 0, S.2.2) (R_become n (upd (upd (T.1) 14 ((S.1 4) - 1)) 13 (-1), T.2) j 0) 40 (Nat.le_refl n) (by omega) ⟨g1, sD_7 g2, ⟨v12, v15, v16, v17, v18, v19, v20, v21, v22⟩, dyn_7 g4 rfl (Or.inl rfl), g5⟩ e rfl (fun i h2 h3 => absurd h2 (by omega))
        refine ⟨key.1, fun b hb => key.2 b ?_⟩
        show S.1 13 + 1 = b + (T.1 23 + 1)
        rw [hb, Int32.add_assoc]
      · rw [if_neg c2, if_neg c2]
        obtain ⟨g1, g2, ⟨v12, v15, v16, v17, v18, v19, v20, v21, v22⟩, g4, g5⟩ := hM
        exact give_sim (S := (upd (S.1) 4 ((S.1 4) - 1), up2 (S.2.1) 11 j ((S.2.1 11 j) - 1), S.2.2)) (T := (upd (upd (T.1) 14 ((S.1 4) - 1)) 13 (-1), up2 (T.2) 9 j ((S.2.1 11 j) - 1))) ⟨g1, sD_11 g2, ⟨v12, v15, v16, v17, v18, v19, v20, v21, v22⟩, g4, g5⟩ 1 (Or.inr trivial) hj
    · have e1 : ¬ S.1 2 = 1 := by rcases e with e | e <;> rw [e] <;> decide
      rw [if_neg e1, if_neg e1]
      have et : C_turn n o (upd (S.1) 4 ((S.1 4) - 1), S.2.1, S.2.2) j 2 = (upd (upd (S.1) 4 ((S.1 4) - 1)) 13 (S.1 13 + 1), up2 S.2.1 7 j 2, S.2.2) := by
        unfold C_turn
        rw [if_neg]
        · rfl
        · show ¬ S.2.1 7 j = 2
          rw [e7]; decide
      rw [et]
      obtain ⟨g1, g2, ⟨v12, v15, v16, v17, v18, v19, v20, v21, v22⟩, g4, g5⟩ := hM
      have key := back_sim (n := n) (o := o) n (upd (upd (S.1) 4 ((S.1 4) - 1)) 13 (S.1 13 + 1), up2 S.2.1 7 j 2, S.2.2) (R_become n (upd (upd (T.1) 14 ((S.1 4) - 1)) 13 (-1), T.2) j 2) 40 (Nat.le_refl n) (by omega) ⟨g1, sD_7 g2, ⟨v12, v15, v16, v17, v18, v19, v20, v21, v22⟩, dyn_7 g4 rfl (Or.inr (Or.inr rfl)), g5⟩ e rfl (fun i h2 => absurd h2 (by omega))
      refine ⟨key.1, fun b hb => key.2 b ?_⟩
      show S.1 13 + 1 = b + (T.1 23 + 1)
      rw [hb, Int32.add_assoc]
  · rw [if_neg c1, if_neg c1]
    obtain ⟨g1, g2, ⟨v12, v15, v16, v17, v18, v19, v20, v21, v22⟩, g4, g5, g6, g7⟩ := h
    refine ⟨⟨g1, g2, ⟨v12, v15, v16, v17, v18, v19, v20, v21, v22⟩, g4, ⟨fun z => ?_, fun i hi => ?_⟩, g6, g7⟩, fun b hb => hb⟩
    · rw [show S.2.2 = none from z] at hu; cases hu
    · have e : S.2.2 = some i := hi
      exact ⟨(g5.2 i e).1, rfl⟩
theorem Rel_time {S : cSt} {T : rSt} (h : Rel n o S T) : Rel n o (upd S.1 5 (S.1 5 + 1), S.2.1, S.2.2) (upd T.1 17 (T.1 17 + 1), T.2) := by
  obtain ⟨g1, g2, ⟨v12, v15, v16, v17, v18, v19, v20, v21, v22⟩, g4, g5, g6, g7⟩ := h
  refine ⟨g1, g2, ⟨v12, v15, v16, ?_, v18, v19, v20, v21, v22⟩, g4, g5, g6, g7⟩
  show T.1 17 + 1 = S.1 5 + 1
  rw [v17]
theorem Rel_since {S : cSt} {T : rSt} (h : Rel n o S T) : Rel n o (upd S.1 7 (S.1 7 + 1), S.2.1, S.2.2) (upd T.1 19 (T.1 19 + 1), T.2) := by
  obtain ⟨g1, g2, ⟨v12, v15, v16, v17, v18, v19, v20, v21, v22⟩, g4, g5, g6, g7⟩ := h
  refine ⟨g1, g2, ⟨v12, v15, v16, v17, v18, ?_, v20, v21, v22⟩, g4, g5, g6, g7⟩
  show T.1 19 + 1 = S.1 7 + 1
  rw [v19]
/-- what follows the watch -/
theorem s_rest {S : cSt} {T : rSt} (h : Rel n o S T) : Rel n o (if S.1 2 = 0 then C_idleOneTick n o S else if S.2.2 = none then S else C_bringNearer n o S (S.2.2.getD 0)) (if S.1 2 = 0 then R_doze n T else if S.1 2 = 2 then T else R_work n T) ∧ ∀ b, S.1 13 = b + T.1 23 → (if S.1 2 = 0 then C_idleOneTick n o S else if S.2.2 = none then S else C_bringNearer n o S (S.2.2.getD 0)).1 13 = b + (if S.1 2 = 0 then R_doze n T else if S.1 2 = 2 then T else R_work n T).1 23 := by
  by_cases h0 : S.1 2 = 0
  · rw [if_pos h0, if_pos h0]; exact s_doze h h0
  · rw [if_neg h0, if_neg h0]
    rcases h.2.2.2.2.2.1 with ⟨e, -⟩ | ⟨e, eu⟩ | ⟨e, j, hj, eu, e7⟩ | ⟨e, j, hj, eu, e7⟩
    · exact absurd e h0
    · rw [if_pos eu, if_pos e]; exact ⟨h, fun b hb => hb⟩
    · rw [if_neg (by rw [eu]; intro z; cases z), if_neg (by rw [e]; decide)]
      have eg : S.2.2.getD 0 = j := by rw [eu]; rfl
      rw [eg]
      exact s_work h hj eu (Or.inl ⟨e, e7⟩)
    · rw [if_neg (by rw [eu]; intro z; cases z), if_neg (by rcases e with e | e <;> rw [e] <;> decide)]
      have eg : S.2.2.getD 0 = j := by rw [eu]; rfl
      rw [eg]
      exact s_work h hj eu (Or.inr ⟨e, e7⟩)
theorem s_once {S : cSt} {T : rSt} (h : Rel n o S T) : Rel n o (C_passOneTick n o S) (R_once n T) ∧ ∀ b, S.1 13 = b + T.1 23 → (C_passOneTick n o S).1 13 = b + (R_once n T).1 23 := by
  have ht := Rel_time h
  have hts := Rel_since ht
  have v12 := h.2.2.1.1
  have v18 := h.2.2.1.2.2.2.2.1
  have v19 := h.2.2.1.2.2.2.2.2.1
  have l0 := h.2.2.2.1.2.2
  have hc : C_passOneTick n o S = (fun W : Int32 × cSt => if W.1 = 0 then (if W.2.1 2 = 0 then C_idleOneTick n o W.2 else if W.2.2.2 = none then W.2 else C_bringNearer n o W.2 (W.2.2.2.getD 0)) else C_resetAll n o W.2) (C_watchBites n o (upd S.1 5 (S.1 5 + 1), S.2.1, S.2.2)) := rfl
  have hw : C_watchBites n o (upd S.1 5 (S.1 5 + 1), S.2.1, S.2.2) = if S.1 6 = 0 then (0, (upd S.1 5 (S.1 5 + 1), S.2.1, S.2.2)) else if S.1 2 = 2 then (0, (upd S.1 5 (S.1 5 + 1), S.2.1, S.2.2)) else if S.1 7 + 1 ≤ S.1 6 then (0, (upd (upd S.1 5 (S.1 5 + 1)) 7 (S.1 7 + 1), S.2.1, S.2.2)) else (1, (upd (upd S.1 5 (S.1 5 + 1)) 7 (S.1 7 + 1), S.2.1, S.2.2)) := rfl
  by_cases c1 : S.1 6 = 0
  · have c2 : S.1 6 ≤ 0 := by rw [c1]; decide
    have hC : C_passOneTick n o S = (if S.1 2 = 0 then C_idleOneTick n o (upd S.1 5 (S.1 5 + 1), S.2.1, S.2.2) else if S.2.2 = none then (upd S.1 5 (S.1 5 + 1), S.2.1, S.2.2) else C_bringNearer n o (upd S.1 5 (S.1 5 + 1), S.2.1, S.2.2) (S.2.2.getD 0)) := by rw [hc, hw, if_pos c1]; exact if_pos rfl
    have hR : R_once n T = (if S.1 2 = 0 then R_doze n (upd T.1 17 (T.1 17 + 1), T.2) else if S.1 2 = 2 then (upd T.1 17 (T.1 17 + 1), T.2) else R_work n (upd T.1 17 (T.1 17 + 1), T.2)) := by unfold R_once; rw [v12, v18, if_pos c2]
    rw [hC, hR]
    exact s_rest ht
  · have c2 : ¬ S.1 6 ≤ 0 := fun z => c1 (by
      apply Int32.toInt_inj.mp
      rw [Int32.le_iff_toInt_le] at z l0
      exact Int.le_antisymm z l0)
    by_cases c3 : S.1 2 = 2
    · have hC : C_passOneTick n o S = (if S.1 2 = 0 then C_idleOneTick n o (upd S.1 5 (S.1 5 + 1), S.2.1, S.2.2) else if S.2.2 = none then (upd S.1 5 (S.1 5 + 1), S.2.1, S.2.2) else C_bringNearer n o (upd S.1 5 (S.1 5 + 1), S.2.1, S.2.2) (S.2.2.getD 0)) := by rw [hc, hw, if_neg c1, if_pos c3]; exact if_pos rfl
      have hR : R_once n T = (if S.1 2 = 0 then R_doze n (upd T.1 17 (T.1 17 + 1), T.2) else if S.1 2 = 2 then (upd T.1 17 (T.1 17 + 1), T.2) else R_work n (upd T.1 17 (T.1 17 + 1), T.2)) := by unfold R_once; rw [v12, v18, if_neg c2, if_pos c3, if_pos c3]
      rw [hC, hR]
      exact s_rest ht
    · by_cases c4 : S.1 7 + 1 ≤ S.1 6
      · have hC : C_passOneTick n o S = (if S.1 2 = 0 then C_idleOneTick n o (upd (upd S.1 5 (S.1 5 + 1)) 7 (S.1 7 + 1), S.2.1, S.2.2) else if S.2.2 = none then (upd (upd S.1 5 (S.1 5 + 1)) 7 (S.1 7 + 1), S.2.1, S.2.2) else C_bringNearer n o (upd (upd S.1 5 (S.1 5 + 1)) 7 (S.1 7 + 1), S.2.1, S.2.2) (S.2.2.getD 0)) := by rw [hc, hw, if_neg c1, if_neg c3, if_pos c4]; exact if_pos rfl
        have hR : R_once n T = (if S.1 2 = 0 then R_doze n (upd (upd T.1 17 (T.1 17 + 1)) 19 (T.1 19 + 1), T.2) else if S.1 2 = 2 then (upd (upd T.1 17 (T.1 17 + 1)) 19 (T.1 19 + 1), T.2) else R_work n (upd (upd T.1 17 (T.1 17 + 1)) 19 (T.1 19 + 1), T.2)) := by unfold R_once; rw [v12, v18, if_neg c2, if_neg c3, if_neg c3, if_pos (by rw [v19]; exact c4)]
        rw [hC, hR]
        exact s_rest hts
      · have hC : C_passOneTick n o S = C_resetAll n o (upd (upd S.1 5 (S.1 5 + 1)) 7 (S.1 7 + 1), S.2.1, S.2.2) := by rw [hc, hw, if_neg c1, if_neg c3, if_neg c4]; exact if_neg (show ¬ (1 : Int32) = 0 by decide)
        have hR : R_once n T = R_reset n (upd (upd T.1 17 (T.1 17 + 1)) 19 (T.1 19 + 1), T.2) := by unfold R_once; rw [v12, v18, if_neg c2, if_neg c3, if_neg (by rw [v19]; exact c4)]
        rw [hC, hR]
        exact s_reset hts
theorem tick_it {S : cSt} {T : rSt} (h : Rel n o S T) : ∀ k, Rel n o (C_tick_it n o S k) (R_tick_it n T k) ∧ (C_tick_it n o S k).1 13 = S.1 13 + (R_tick_it n T k).1 23
  | 0 => ⟨h, (Int32.add_zero _).symm⟩
  | k + 1 => by
    obtain ⟨h1, h2⟩ := tick_it h k
    have key := s_once h1
    exact ⟨key.1, key.2 _ h2⟩
theorem s_tick_due {S : cSt} {T : rSt} (h : Rel n o S T) (i : Nat) : rDue n (R_tick_it n T i) := (tick_it h i).1.rdue
theorem s_tick {S : cSt} {T : rSt} (h : Rel n o S T) (k : Int32) : (C_tick n o S k).1 = (R_tick n T k).1 ∧ Rel n o (C_tick n o S k).2 (R_tick n T k).2 := by
  unfold C_tick R_tick
  rw [within_lt]
  by_cases h1 : k < 0
  · rw [if_pos h1, if_pos rfl, if_pos h1]; exact ⟨rfl, h⟩
  · by_cases h2 : 200 < k
    · have h3 : ¬ k ≤ 200 := fun z => by rw [Int32.lt_iff_toInt_lt] at h2; rw [Int32.le_iff_toInt_le] at z; omega
      rw [if_neg h1, if_pos h2, if_pos rfl, if_neg h1, if_neg h3]; exact ⟨rfl, h⟩
    · have h3 : k ≤ 200 := by rw [Int32.lt_iff_toInt_lt] at h2; rw [Int32.le_iff_toInt_le]; omega
      rw [if_neg h1, if_neg h2, if_neg (by decide), if_neg h1, if_pos h3]
      obtain ⟨t1, t2⟩ := tick_it h k.toNatClampNeg
      refine ⟨?_, t1⟩
      show (C_tick_it n o S k.toNatClampNeg).1 13 - S.1 13 = _
      rw [t2, Int32.add_comm, Int32.add_sub_cancel]
end S6
