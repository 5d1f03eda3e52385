/-! going down and coming back -/
def Mid (n : Nat) (o : Nat → Nat) (S : cSt) (T : rSt) : Prop := fixd n o S T ∧ sD n S T ∧ sV S T ∧ dyn n S ∧ ∀ i, i < n → T.2 6 i = S.2.1 8 i ∧ (S.2.1 8 i = 1 ∨ S.2.1 8 i = 2)
section S4
variable {n : Nat} {o : Nat → Nat}
theorem dyn_7 {S : cSt} {V : Nat → Int32} {u : Option Nat} {i : Nat} {x : Int32} (h : dyn n S) (hV : V 6 = S.1 6) (hx : x = 0 ∨ x = 1 ∨ x = 2) : dyn n (V, up2 S.2.1 7 i x, u) := by
  refine ⟨fun j hj => ?_, h.2.1, by show 0 ≤ V 6; rw [hV]; exact h.2.2⟩
  show up2 S.2.1 7 i x 7 j = 0 ∨ up2 S.2.1 7 i x 7 j = 1 ∨ up2 S.2.1 7 i x 7 j = 2
  rw [up2_ap, if_pos rfl]
  by_cases e : j = i
  · rw [if_pos e]; exact hx
  · rw [if_neg e]; exact h.1 j hj
theorem Mid_turn {S : cSt} {T : rSt} {i : Nat} {x c t : Int32} (h : Mid n o S T) (hx : x = 0 ∨ x = 1 ∨ x = 2) : Mid n o (upd S.1 13 c, up2 S.2.1 7 i x, S.2.2) (upd T.1 23 t, up2 T.2 5 i x) := by
  obtain ⟨g1, g2, g3, g4, g5⟩ := h
  exact ⟨g1, sD_7 g2, g3, dyn_7 g4 rfl hx, g5⟩
theorem follow_stop {T : rSt} (h : T.1 12 = 0 ∨ T.1 12 = 2 ∨ 0 ≤ T.1 13) : ∀ f, R_follow_w n f T = T
  | 0 => rfl
  | f + 1 => by
    unfold R_follow_w
    by_cases h1 : 0 ≤ T.1 13
    · rw [if_pos h1]
    · rw [if_neg h1]
      rcases h with h | h | h
      · rw [h, if_neg (by decide), if_pos (by decide)]
      · rw [h, if_neg (by decide), if_pos (by decide)]
      · exact absurd h h1
theorem sink_sim : ∀ (r : Nat) (S : cSt) (T : rSt) (f : Nat), r ≤ n → r < f → Mid n o S T → S.1 2 = 1 → T.1 13 = -1 → (∀ i, r ≤ i → i < n → S.2.1 7 (o i) = 0) → Rel n o (C_sink_w n o r S) (R_follow_w n f T) ∧ ∀ b, S.1 13 = b + T.1 23 → (C_sink_w n o r S).1 13 = b + (R_follow_w n f T).1 23
  | 0, S, T, 0, _, hf, _, _, _, _ => absurd hf (Nat.not_lt_zero _)
  | r + 1, S, T, 0, _, hf, _, _, _, _ => absurd hf (Nat.not_lt_zero _)
  | 0, S, T, f + 1, _, _, hM, h1, hm, ho => by
    obtain ⟨dp, hs⟩ := hM.1.2.2.2
    have h12 := hM.1.1
    have hp : ∀ i, i < n → T.2 1 i = S.2.1 1 i := fun i hi => (hM.2.1 i hi).1
    have hl : R_lastAwake n T = -1 := last_no hs h12 hp (fun i hi => by rw [(hM.2.1 _ (hs.2.2.2.2.2.2 i hi)).2.2.2.2.1]; exact ho i (Nat.zero_le _) hi)
    have e1 : R_follow_w n (f + 1) T = (upd (upd (T.1) 12 2) 21 ((T.1 21) + 1), T.2) := by
      show (if 0 ≤ T.1 13 then T else if T.1 12 = 1 then R_follow_w n f (R_sink n T) else if T.1 12 ≤ 2 then T else R_follow_w n f (R_rise n T)) = _
      rw [hm, if_neg (by decide), hM.2.2.1.1, if_pos h1]
      unfold R_sink
      rw [if_pos hl]
      exact follow_stop (Or.inr (Or.inl rfl)) f
    rw [e1]
    obtain ⟨g1, g2, ⟨v12, v15, v16, v17, v18, v19, v20, v21, v22⟩, g4, g5⟩ := hM
    refine ⟨⟨g1, g2, ⟨rfl, v15, v16, v17, v18, v19, v20, ?_, v22⟩, g4, ⟨fun _ => ⟨hm, rfl⟩, fun j hj => ?_⟩, Or.inr (Or.inl ⟨rfl, rfl⟩), fun _ => g5⟩, fun b hb => hb⟩
    · show T.1 21 + 1 = S.1 9 + 1
      rw [v21]
    · exact absurd hj (by show ¬ (none : Option Nat) = some j; intro z; cases z)
  | r + 1, S, T, f + 1, hr, hf, hM, h1, hm, ho => by
    obtain ⟨dp, hs⟩ := hM.1.2.2.2
    have h12 := hM.1.1
    have hp : ∀ i, i < n → T.2 1 i = S.2.1 1 i := fun i hi => (hM.2.1 i hi).1
    have hor := hs.2.2.2.2.2.2 r (by omega)
    have hd := hM.2.1 _ hor
    have hl : ¬ S.2.1 7 (o r) = 0 → R_lastAwake n T = nI (o r) := fun h0 => last_is hs h12 hp (by omega) (by rw [hd.2.2.2.2.1]; exact h0) (fun i h2 h3 => by rw [(hM.2.1 _ (hs.2.2.2.2.2.2 i h3)).2.2.2.2.1]; exact ho i h2 h3)
    have hq : ¬ S.2.1 7 (o r) = 0 → R_follow_w n (f + 1) T = R_follow_w n f (if T.2 5 (o r) = 1 then R_become n T (o r) 0 else (upd (upd (T.1) 13 (nI (o r))) 14 (T.2 2 (o r)), T.2)) := fun h0 => by
      show (if 0 ≤ T.1 13 then T else if T.1 12 = 1 then R_follow_w n f (R_sink n T) else if T.1 12 ≤ 2 then T else R_follow_w n f (R_rise n T)) = _
      rw [hm, if_neg (by decide), hM.2.2.1.1, if_pos h1]
      unfold R_sink
      rw [hl h0, if_neg (nI_nem (by omega)), nI_clamp (by omega)]
    show Rel n o (if S.2.1 7 (o r) = 2 then C_makeDue n o S (o r) (S.2.1 4 (o r)) else C_sink_w n o r (C_turn n o S (o r) 0)) _ ∧ ∀ b, S.1 13 = b + T.1 23 → (if S.2.1 7 (o r) = 2 then C_makeDue n o S (o r) (S.2.1 4 (o r)) else C_sink_w n o r (C_turn n o S (o r) 0)).1 13 = _
    rcases hM.2.2.2.1.1 (o r) hor with h0 | h0 | h0
    · rw [if_neg (by rw [h0]; decide)]
      have e : C_turn n o S (o r) 0 = S := by unfold C_turn; rw [if_pos h0]
      rw [e]
      exact sink_sim r S T (f + 1) (by omega) (by omega) hM h1 hm (fun i h2 h3 => by
        by_cases e : i = r
        · rw [e]; exact h0
        · exact ho i (by omega) h3)
    · rw [if_neg (by rw [h0]; decide)]
      have e : C_turn n o S (o r) 0 = (upd (S.1) 13 ((S.1 13) + 1), up2 (S.2.1) 7 (o r) 0, S.2.2) := by unfold C_turn; rw [if_neg (by rw [h0]; decide)]
      rw [e, hq (by rw [h0]; decide), if_pos (by rw [hd.2.2.2.2.1]; exact h0)]
      have ih := sink_sim r (upd (S.1) 13 ((S.1 13) + 1), up2 (S.2.1) 7 (o r) 0, S.2.2) (R_become n T (o r) 0) f (by omega) (by omega) (Mid_turn hM (Or.inl rfl)) h1 hm (fun i h2 h3 => by
        show up2 S.2.1 7 (o r) 0 7 (o i) = 0
        rw [up2_ap, if_pos rfl]
        by_cases e : o i = o r
        · rw [if_pos e]
        · rw [if_neg e]
          exact ho i (by rcases Nat.lt_or_ge r i with z | z; (· exact z); (· exact absurd (by rw [show i = r by omega]) e)) h3)
      refine ⟨ih.1, fun b hb => ih.2 b ?_⟩
      show S.1 13 + 1 = b + (T.1 23 + 1)
      rw [hb, Int32.add_assoc]
    · rw [if_pos h0, hq (by rw [h0]; decide), if_neg (by rw [hd.2.2.2.2.1, h0]; decide), follow_stop (Or.inr (Or.inr (by show 0 ≤ nI (o r); exact nI_pos' (by omega))))]
      obtain ⟨g1, g2, ⟨v12, v15, v16, v17, v18, v19, v20, v21, v22⟩, g4, g5⟩ := hM
      refine ⟨⟨g1, g2, ⟨v12, v15, v16, v17, v18, v19, v20, v21, v22⟩, g4, ⟨fun z => ?_, fun j hj => ?_⟩, Or.inr (Or.inr (Or.inl ⟨h1, o r, hor, rfl, h0⟩)), fun _ => g5⟩, fun b hb => hb⟩
      · exact absurd z (by show ¬ some (o r) = none; intro q; cases q)
      · have e : some (o r) = some j := hj
        cases e
        exact ⟨rfl, hd.2.1⟩
theorem back_sim : ∀ (f : Nat) (S : cSt) (T : rSt) (g : Nat), f ≤ n → f < g → Mid n o S T → (S.1 2 = 3 ∨ S.1 2 = 4) → T.1 13 = -1 → (∀ i, i < n - f → ¬ S.2.1 7 (o i) = 0) → Rel n o (C_back_w n o f S) (R_follow_w n g T) ∧ ∀ b, S.1 13 = b + T.1 23 → (C_back_w n o f S).1 13 = b + (R_follow_w n g T).1 23
  | 0, S, T, 0, _, hf, _, _, _, _ => absurd hf (Nat.not_lt_zero _)
  | r + 1, S, T, 0, _, hf, _, _, _, _ => absurd hf (Nat.not_lt_zero _)
  | 0, S, T, g + 1, _, _, hM, h1, hm, ho => by
    obtain ⟨dp, hs⟩ := hM.1.2.2.2
    have h12 := hM.1.1
    have hp : ∀ i, i < n → T.2 1 i = S.2.1 1 i := fun i hi => (hM.2.1 i hi).1
    have hl : R_firstOff n T = -1 := first_no hs h12 hp (fun i hi => by rw [(hM.2.1 _ (hs.2.2.2.2.2.2 i hi)).2.2.2.2.1]; exact ho i (by omega))
    have e1 : R_follow_w n (g + 1) T = (upd (T.1) 12 0, T.2) := by
      show (if 0 ≤ T.1 13 then T else if T.1 12 = 1 then R_follow_w n g (R_sink n T) else if T.1 12 ≤ 2 then T else R_follow_w n g (R_rise n T)) = _
      rw [hm, if_neg (by decide), hM.2.2.1.1, if_neg (by rcases h1 with e | e <;> rw [e] <;> decide), if_neg (by rcases h1 with e | e <;> rw [e] <;> decide)]
      unfold R_rise
      rw [if_pos hl]
      exact follow_stop (Or.inl rfl) g
    rw [e1]
    obtain ⟨g1, g2, ⟨v12, v15, v16, v17, v18, v19, v20, v21, v22⟩, g4, g5⟩ := hM
    refine ⟨⟨g1, g2, ⟨rfl, v15, v16, v17, v18, v19, v20, v21, v22⟩, g4, ⟨fun _ => ⟨hm, rfl⟩, fun j hj => ?_⟩, Or.inl ⟨rfl, fun i hi => ?_, rfl⟩, fun _ => g5⟩, fun b hb => hb⟩
    · exact absurd hj (by show ¬ (none : Option Nat) = some j; intro z; cases z)
    · obtain ⟨t, ht, hto⟩ := hs.2.2.2.2.2.1 i hi
      rw [← hto]; exact ho t (by omega)
  | r + 1, S, T, g + 1, hr, hf, hM, h1, hm, ho => by
    obtain ⟨dp, hs⟩ := hM.1.2.2.2
    have h12 := hM.1.1
    have hp : ∀ i, i < n → T.2 1 i = S.2.1 1 i := fun i hi => (hM.2.1 i hi).1
    have hor := hs.2.2.2.2.2.2 (n - (r + 1)) (by omega)
    have hd := hM.2.1 _ hor
    have hl : S.2.1 7 (o (n - (r + 1))) = 0 → R_firstOff n T = nI (o (n - (r + 1))) := fun h0 => first_is hs h12 hp (by omega) (by rw [hd.2.2.2.2.1]; exact h0) (fun i h2 => by rw [(hM.2.1 _ (hs.2.2.2.2.2.2 i (by omega))).2.2.2.2.1]; exact ho i h2)
    have hq : S.2.1 7 (o (n - (r + 1))) = 0 → R_follow_w n (g + 1) T = R_follow_w n g (if T.2 6 (o (n - (r + 1))) = 1 then R_become n T (o (n - (r + 1))) 1 else (upd (upd (T.1) 13 (nI (o (n - (r + 1))))) 14 (T.2 3 (o (n - (r + 1)))), T.2)) := fun h0 => by
      show (if 0 ≤ T.1 13 then T else if T.1 12 = 1 then R_follow_w n g (R_sink n T) else if T.1 12 ≤ 2 then T else R_follow_w n g (R_rise n T)) = _
      rw [hm, if_neg (by decide), hM.2.2.1.1, if_neg (by rcases h1 with e | e <;> rw [e] <;> decide), if_neg (by rcases h1 with e | e <;> rw [e] <;> decide)]
      unfold R_rise
      rw [hl h0, if_neg (nI_nem (by omega)), nI_clamp (by omega)]
    have eC : C_back_w n o (r + 1) S = if S.2.1 7 (o (n - (r + 1))) = 0 then (if S.2.1 8 (o (n - (r + 1))) = 2 then C_makeDue n o S (o (n - (r + 1))) (S.2.1 5 (o (n - (r + 1)))) else C_back_w n o r (C_turn n o S (o (n - (r + 1))) (S.2.1 8 (o (n - (r + 1)))))) else C_back_w n o r S := rfl
    have hn1 : n - r = n - (r + 1) + 1 := by omega
    rw [eC]
    by_cases h0 : S.2.1 7 (o (n - (r + 1))) = 0
    · rw [if_pos h0]
      rcases (hM.2.2.2.2 _ hor).2 with h8 | h8
      · rw [if_neg (by rw [h8]; decide), h8]
        have e : C_turn n o S (o (n - (r + 1))) 1 = (upd (S.1) 13 ((S.1 13) + 1), up2 (S.2.1) 7 (o (n - (r + 1))) 1, S.2.2) := by unfold C_turn; rw [if_neg (by rw [h0]; decide)]
        rw [e, hq h0, if_pos (by rw [(hM.2.2.2.2 _ hor).1]; exact h8)]
        have ih := back_sim r (upd (S.1) 13 ((S.1 13) + 1), up2 (S.2.1) 7 (o (n - (r + 1))) 1, S.2.2) (R_become n T (o (n - (r + 1))) 1) g (by omega) (by omega) (Mid_turn hM (Or.inr (Or.inl rfl))) h1 hm (fun i h2 => by
          show ¬ up2 S.2.1 7 (o (n - (r + 1))) 1 7 (o i) = 0
          rw [up2_ap, if_pos rfl]
          by_cases e : o i = o (n - (r + 1))
          · rw [if_pos e]; decide
          · rw [if_neg e]
            exact ho i (by rcases Nat.lt_or_ge i (n - (r + 1)) with z | z; (· exact z); (· exact absurd (by rw [show i = n - (r + 1) by omega]) e)))
        refine ⟨ih.1, fun b hb => ih.2 b ?_⟩
        show S.1 13 + 1 = b + (T.1 23 + 1)
        rw [hb, Int32.add_assoc]
      · rw [if_pos h8, hq h0, if_neg (by rw [(hM.2.2.2.2 _ hor).1, h8]; decide), follow_stop (Or.inr (Or.inr (by show 0 ≤ nI (o (n - (r + 1))); exact nI_pos' (by omega))))]
        obtain ⟨g1, g2, ⟨v12, v15, v16, v17, v18, v19, v20, v21, v22⟩, g4, g5⟩ := hM
        refine ⟨⟨g1, g2, ⟨v12, v15, v16, v17, v18, v19, v20, v21, v22⟩, g4, ⟨fun z => ?_, fun j hj => ?_⟩, Or.inr (Or.inr (Or.inr ⟨h1, o (n - (r + 1)), hor, rfl, h0⟩)), fun _ => g5⟩, fun b hb => hb⟩
        · exact absurd z (by show ¬ some (o (n - (r + 1))) = none; intro q; cases q)
        · have e : some (o (n - (r + 1))) = some j := hj
          cases e
          exact ⟨rfl, hd.2.2.1⟩
    · rw [if_neg h0]
      exact back_sim r S T (g + 1) (by omega) (by omega) hM h1 hm (fun i h2 => by
        by_cases e : i = n - (r + 1)
        · rw [e]; exact h0
        · exact ho i (by omega))
theorem csleep_it {S : cSt} : ∀ k, (C_sleep_it n o S k).1 = S.1 ∧ (C_sleep_it n o S k).2.2 = S.2.2 ∧ (∀ q, ¬ q = 8 → (C_sleep_it n o S k).2.1 q = S.2.1 q) ∧ ∀ i, i < k → (C_sleep_it n o S k).2.1 8 i = S.2.1 7 i
  | 0 => ⟨rfl, rfl, fun _ _ => rfl, fun i h => absurd h (Nat.not_lt_zero _)⟩
  | k + 1 => by
    obtain ⟨a1, a2, a3, a4⟩ := csleep_it (S := S) k
    refine ⟨a1, a2, fun q hq => ?_, fun i hi => ?_⟩
    · rw [← a3 q hq]; show up2 _ 8 k _ q = _; unfold up2 va_up; rw [if_neg hq]
    · show up2 (C_sleep_it n o S k).2.1 8 k ((C_sleep_it n o S k).2.1 7 k) 8 i = _
      rw [up2_ap, if_pos rfl, a3 7 (by decide)]
      by_cases e : i = k
      · rw [if_pos e, e]
      · rw [if_neg e]; exact a4 i (by omega)
theorem rsleep_it {T : rSt} : ∀ k, (R_sleep_it n T k).1 = T.1 ∧ (∀ q, ¬ q = 6 → (R_sleep_it n T k).2 q = T.2 q) ∧ ∀ i, i < k → (R_sleep_it n T k).2 6 i = T.2 5 i
  | 0 => ⟨rfl, fun _ _ => rfl, fun i h => absurd h (Nat.not_lt_zero _)⟩
  | k + 1 => by
    obtain ⟨a1, a3, a4⟩ := rsleep_it (T := T) k
    refine ⟨a1, fun q hq => ?_, fun i hi => ?_⟩
    · rw [← a3 q hq]; show up2 _ 6 k _ q = _; unfold up2 va_up; rw [if_neg hq]
    · show up2 (R_sleep_it n T k).2 6 k ((R_sleep_it n T k).2 5 k) 6 i = _
      rw [up2_ap, if_pos rfl, a3 5 (by decide)]
      by_cases e : i = k
      · rw [if_pos e, e]
      · rw [if_neg e]; exact a4 i (by omega)
theorem s_sleep {S : cSt} {T : rSt} (h : Rel n o S T) : (C_sleep n o S).1 = (R_sleep n T).1 ∧ Rel n o (C_sleep n o S).2 (R_sleep n T).2 := by
  unfold C_sleep R_sleep
  rw [h.2.2.1.1]
  by_cases h0 : S.1 2 = 0
  · rw [if_pos h0, if_pos h0]
    obtain ⟨a1, a2, a3, a4⟩ := csleep_it (n := n) (o := o) (S := S) n
    obtain ⟨b1, b3, b4⟩ := rsleep_it (n := n) (T := T) n
    have h12 := h.1.1
    have key : Rel n o (C_sinkFurther n o (upd ((C_sleep_it n o S n).1) 2 1, (C_sleep_it n o S n).2.1, (C_sleep_it n o S n).2.2)) (R_follow n (upd ((R_sleep_it n T n).1) 12 1, (R_sleep_it n T n).2)) := by
      obtain ⟨g1, g2, ⟨v12, v15, v16, v17, v18, v19, v20, v21, v22⟩, g4, g5, g6, g7⟩ := h
      have hph : (∀ i, i < n → ¬ S.2.1 7 i = 0) ∧ S.2.2 = none := by
        rcases g6 with ⟨-, p1, p2⟩ | ⟨e, -⟩ | ⟨e, -⟩ | ⟨e | e, -⟩
        · exact ⟨p1, p2⟩
        · rw [h0] at e; exact absurd e (by decide)
        · rw [h0] at e; exact absurd e (by decide)
        · rw [h0] at e; exact absurd e (by decide)
        · rw [h0] at e; exact absurd e (by decide)
      rw [a1, a2, b1]
      generalize C_sleep_it n o S n = Z at a3 a4 ⊢
      generalize R_sleep_it n T n = X at b3 b4 ⊢
      refine (sink_sim n (upd S.1 2 1, Z.2.1, S.2.2) (upd T.1 12 1, X.2) 40 (Nat.le_refl n) (by omega) ⟨⟨h12, ?_, g1.2.2.1, ?_⟩, fun i hi => ?_, ⟨rfl, v15, v16, v17, v18, v19, v20, v21, v22⟩, ⟨?_, ?_, g4.2.2⟩, fun i hi => ?_⟩ rfl ?_ (fun i h2 h3 => absurd h2 (by omega))).1
      · show ∀ i, i < n → Z.2.1 0 i = nI i
        rw [a3 0 (by decide)]; exact g1.2.1
      · show ∃ dp, stt n o (Z.2.1 1) (Z.2.1 2) (Z.2.1 3) dp
        rw [a3 1 (by decide), a3 2 (by decide), a3 3 (by decide)]; exact g1.2.2.2
      · show X.2 1 i = Z.2.1 1 i ∧ X.2 2 i = Z.2.1 4 i ∧ X.2 3 i = Z.2.1 5 i ∧ X.2 4 i = Z.2.1 6 i ∧ X.2 5 i = Z.2.1 7 i ∧ X.2 7 i = Z.2.1 9 i ∧ X.2 8 i = Z.2.1 10 i ∧ X.2 9 i = Z.2.1 11 i ∧ X.2 10 i = Z.2.1 12 i
        rw [a3 1 (by decide), a3 4 (by decide), a3 5 (by decide), a3 6 (by decide), a3 7 (by decide), a3 9 (by decide), a3 10 (by decide), a3 11 (by decide), a3 12 (by decide), b3 1 (by decide), b3 2 (by decide), b3 3 (by decide), b3 4 (by decide), b3 5 (by decide), b3 7 (by decide), b3 8 (by decide), b3 9 (by decide), b3 10 (by decide)]
        exact g2 i hi
      · show ∀ i, i < n → Z.2.1 7 i = 0 ∨ Z.2.1 7 i = 1 ∨ Z.2.1 7 i = 2
        rw [a3 7 (by decide)]; exact g4.1
      · show ∀ i, i < n → 0 ≤ Z.2.1 6 i
        rw [a3 6 (by decide)]; exact g4.2.1
      · show X.2 6 i = Z.2.1 8 i ∧ (Z.2.1 8 i = 1 ∨ Z.2.1 8 i = 2)
        rw [a4 i hi, b4 i hi]
        refine ⟨(g2 i hi).2.2.2.2.1, ?_⟩
        rcases g4.1 i hi with e | e | e
        · exact absurd e (hph.1 i hi)
        · exact Or.inl e
        · exact Or.inr e
      · exact (g5.1 hph.2).1
    exact ⟨key.2.2.1.1.symm, key⟩
  · rw [if_neg h0, if_neg h0]; exact ⟨rfl, h⟩
theorem Rel.mid {S : cSt} {T : rSt} (h : Rel n o S T) (h0 : ¬ S.1 2 = 0) : Mid n o S T := ⟨h.1, h.2.1, h.2.2.1, h.2.2.2.1, h.2.2.2.2.2.2 h0⟩
/-- giving up, from any state between -/
theorem give_sim {S : cSt} {T : rSt} (hM : Mid n o S T) (why : Int32) {x : Nat} (hm : T.1 13 = -1 ∨ True) (hx : x < n) : Rel n o (C_giveUp n o S why x) (R_follow n (R_giveUp n T why (nI x))) ∧ ∀ b, S.1 13 = b + T.1 23 → (C_giveUp n o S why x).1 13 = b + (R_follow n (R_giveUp n T why (nI x))).1 23 := by
  obtain ⟨g1, g2, ⟨v12, v15, v16, v17, v18, v19, v20, v21, v22⟩, g4, g5⟩ := hM
  have h12 := g1.1
  refine back_sim n (upd (upd (upd (upd (S.1) 10 ((S.1 10) + 1)) 11 why) 12 (nI x)) 2 4, S.2.1, S.2.2) (R_giveUp n T why (nI x)) 40 (Nat.le_refl n) (by omega) ⟨g1, g2, ⟨rfl, rfl, rfl, v17, v18, v19, v20, v21, ?_⟩, g4, g5⟩ (Or.inr rfl) rfl (fun i h2 => absurd h2 (by omega))
  show T.1 22 + 1 = S.1 10 + 1
  rw [v22]
theorem s_signal {S : cSt} {T : rSt} (h : Rel n o S T) (d : Int32) : (C_signal n o S d).1 = (R_signal n T d).1 ∧ Rel n o (C_signal n o S d).2 (R_signal n T d).2 := by
  unfold C_signal R_signal
  by_cases hd : inR n d = true
  · rw [if_pos hd, if_pos hd]
    obtain ⟨hj, ej⟩ := inR_ix h.1.1 hd
    rw [(h.2.1 _ hj).2.2.2.2.2.2.2.2, h.2.2.1.1]
    have h12 := h.1.1
    by_cases h0 : S.2.1 12 d.toNatClampNeg = 0
    · rw [if_pos h0, if_pos h0]; exact ⟨rfl, h⟩
    · rw [if_neg h0, if_neg h0]
      by_cases h1 : S.1 2 = 1
      · have h2 : ¬ S.1 2 = 2 := by rw [h1]; decide
        rw [if_neg h2, if_pos h1, if_pos h1, if_neg h2]
        have e := (give_sim (h.mid (by rw [h1]; decide)) 2 (Or.inr trivial) hj).1
        rw [← ej] at e
        exact ⟨rfl, e⟩
      · rw [if_neg h1, if_neg h1]
        by_cases h2 : S.1 2 = 2
        · rw [if_pos h2, if_pos h2]
          obtain ⟨g1, g2, ⟨v12, v15, v16, v17, v18, v19, v20, v21, v22⟩, g4, g5⟩ := h.mid (by rw [h2]; decide)
          have hno : S.2.2 = none := by
            rcases h.2.2.2.2.2.1 with ⟨e, -⟩ | ⟨-, e⟩ | ⟨e, -⟩ | ⟨e | e, -⟩
            · rw [h2] at e; exact absurd e (by decide)
            · exact e
            · rw [h2] at e; exact absurd e (by decide)
            · rw [h2] at e; exact absurd e (by decide)
            · rw [h2] at e; exact absurd e (by decide)
          exact ⟨rfl, (back_sim n (upd S.1 2 3, S.2.1, S.2.2) (upd T.1 12 3, T.2) 40 (Nat.le_refl n) (by omega) ⟨g1, g2, ⟨rfl, v15, v16, v17, v18, v19, v20, v21, v22⟩, g4, g5⟩ (Or.inl rfl) (h.2.2.2.2.1.1 hno).1 (fun i h2 => absurd h2 (by omega))).1⟩
        · rw [if_neg h2, if_neg h2]; exact ⟨rfl, h⟩
  · rw [if_neg hd, if_neg hd]; exact ⟨rfl, h⟩
end S4
