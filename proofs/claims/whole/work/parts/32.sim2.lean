/-! bits, rouse, line, use -/
theorem b_bit {k i : Nat} (hk : k < 32) (hi : i < 32) : bt ((1 : Int32) <<< (nI k &&& 31)) i = decide (i = k) := by
  rw [b_shl k hk 1 hi]
  by_cases h : k ≤ i
  · rw [b_1 (i - k) (by omega)]
    by_cases h2 : i = k
    · subst h2; simp
    · simp [h2, h]; omega
  · have h2 : ¬ i = k := by omega
    simp [h, h2]
theorem and_bit {x : Int32} {k : Nat} (hk : k < 32) : x &&& ((1 : Int32) <<< (nI k &&& 31)) = 0 ↔ bt x k = false := by
  constructor
  · intro h
    have h1 : bt (x &&& ((1 : Int32) <<< (nI k &&& 31))) k = false := by rw [h, b_0]
    rw [b_and, b_bit hk hk] at h1
    simpa using h1
  · intro h
    apply b_ext
    intro i hi
    rw [b_and, b_bit hk hi, b_0]
    by_cases h2 : i = k
    · subst h2; simp [h]
    · simp [h2]
theorem holds_0 {n : Nat} {o : Nat → Nat} {S : cSt} {set : Int32} {k : Nat} (hk : k < 32) : C_holds n o S set k = 0 ↔ bt set k = false := by
  unfold C_holds C_bit
  rw [← and_bit hk]
  by_cases h : set &&& ((1 : Int32) <<< (nI k &&& 31)) = 0
  · rw [if_pos h]; simp [h]
  · rw [if_neg h]; simp [h]
section S2
variable {n : Nat} {o : Nat → Nat} {S : cSt} {T : rSt}
theorem rouse_it (hD : sD n S T) (hn : n ≤ 12) (set : Int32) : ∀ k, k ≤ n → sD n (C_rouse_it n o S set k) (R_rouse_it n T set k).2 ∧ (R_rouse_it n T set k).2.1 = T.1 ∧ (∀ j, ¬ j = 13 → (C_rouse_it n o S set k).1 j = S.1 j) ∧ (C_rouse_it n o S set k).1 13 = S.1 13 + (R_rouse_it n T set k).1 ∧ (C_rouse_it n o S set k).2.2 = S.2.2 ∧ (∀ q, ¬ q = 7 → ¬ q = 10 → (C_rouse_it n o S set k).2.1 q = S.2.1 q) ∧ (R_rouse_it n T set k).2.2 6 = T.2 6 ∧ (∀ i, (C_rouse_it n o S set k).2.1 7 i = S.2.1 7 i ∨ (C_rouse_it n o S set k).2.1 7 i = 2)
  | 0, _ => ⟨hD, rfl, fun _ _ => rfl, (Int32.add_zero _).symm, rfl, fun _ _ _ => rfl, rfl, fun _ => Or.inl rfl⟩
  | k + 1, hk => by
    have ih := rouse_it hD hn set k (by omega)
    show sD n (C_rouse_b n o set k (C_rouse_it n o S set k)) (R_rouse_b set k (R_rouse_it n T set k).1 (R_rouse_it n T set k).2).2 ∧ _
    have e1 : C_rouse_it n o S set (k + 1) = C_rouse_b n o set k (C_rouse_it n o S set k) := rfl
    have e2 : R_rouse_it n T set (k + 1) = R_rouse_b set k (R_rouse_it n T set k).1 (R_rouse_it n T set k).2 := rfl
    rw [e1, e2]
    generalize C_rouse_it n o S set k = Z at ih ⊢
    generalize R_rouse_it n T set k = X at ih ⊢
    obtain ⟨i1, i2, i3, i4, i5, i6, i7, i8⟩ := ih
    unfold C_rouse_b R_rouse_b
    by_cases hb : bt set k = true
    · have hc : ¬ C_holds n o Z set k = 0 := fun z => by rw [(holds_0 (by omega)).mp z] at hb; cases hb
      rw [if_neg hc, if_pos ((b_tst (by omega)).mpr hb), (i1 k (by omega)).2.2.2.2.1]
      unfold C_turn
      by_cases h2 : Z.2.1 7 k = 2
      · rw [if_pos h2, if_pos h2]
        refine ⟨?_, i2, i3, i4, i5, fun q h7 h10 => ?_, i7, i8⟩
        · intro j hj
          obtain ⟨a1, a2, a3, a4, a5, a7, a8, a9, a10⟩ := i1 j hj
          refine ⟨a1, a2, a3, a4, ?_, a7, ?_, a9, a10⟩
          · simp only [up2_ap]; by_cases e : j = k <;> simp [e, h2]
            exact a5
          · simp only [up2_ap]; by_cases e : j = k <;> simp [e]
            exact a8
        · rw [← i6 q h7 h10]; unfold up2 va_up; simp [h10]
      · rw [if_neg h2, if_neg h2]
        refine ⟨?_, i2, fun j hj => ?_, ?_, i5, fun q h7 h10 => ?_, i7, fun i => ?_⟩
        · intro j hj
          obtain ⟨a1, a2, a3, a4, a5, a7, a8, a9, a10⟩ := i1 j hj
          refine ⟨a1, a2, a3, a4, ?_, a7, ?_, a9, a10⟩
          · simp only [up2_ap]; by_cases e : j = k <;> simp [e]
            exact a5
          · simp only [up2_ap]; by_cases e : j = k <;> simp [e]
            exact a8
        · rw [← i3 j hj]; show upd Z.1 13 _ j = Z.1 j; rw [upd_ap, if_neg hj]
        · show upd Z.1 13 (Z.1 13 + 1) 13 = _; rw [upd_ap, if_pos rfl, i4, Int32.add_assoc]
        · rw [← i6 q h7 h10]; unfold up2 va_up; simp [h7, h10]
        · show up2 (up2 Z.2.1 7 k 2) 10 k 0 7 i = _ ∨ up2 (up2 Z.2.1 7 k 2) 10 k 0 7 i = 2
          simp only [up2_ap]
          by_cases e : i = k <;> simp [e]
          exact i8 i
    · have hb : bt set k = false := by simpa using hb
      rw [if_pos ((holds_0 (by omega)).mpr hb), if_neg (fun z => by rw [(b_tst (by omega)).mp z] at hb; cases hb)]
      exact ⟨i1, i2, i3, i4, i5, i6, i7, i8⟩
/-- behind a rousing in the phase 0 -/
theorem rouse_rel {V : Nat → Int32} (h : Rel n o S T) (h0 : S.1 2 = 0) (set : Int32) : (C_rouse n o S set).1 13 - S.1 13 = (R_rouse n T set).1 ∧ Rel n o (C_rouse n o S set) (R_rouse n T set).2 := by
  obtain ⟨g1, g2, g3, g4, g5, g6, g7⟩ := h
  obtain ⟨i1, i2, i3, i4, i5, i6, i7, i8⟩ := rouse_it (o := o) g2 g1.1 set n (Nat.le_refl n)
  have e1 : C_rouse n o S set = C_rouse_it n o S set n := rfl
  have e2 : (R_rouse n T set) = R_rouse_it n T set n := rfl
  rw [e1, e2]
  generalize C_rouse_it n o S set n = Z at i1 i3 i4 i5 i6 i8 ⊢
  generalize R_rouse_it n T set n = X at i1 i2 i4 i7 ⊢
  have z2 : Z.1 2 = 0 := (i3 2 (by decide)).trans h0
  refine ⟨by rw [i4, Int32.add_comm, Int32.add_sub_cancel], ⟨g1.1, by rw [i6 0 (by decide) (by decide)]; exact g1.2.1, by rw [i2]; exact g1.2.2.1, ?_⟩, i1, ?_, ?_, ?_, ?_, ?_⟩
  · rw [i6 1 (by decide) (by decide), i6 2 (by decide) (by decide), i6 3 (by decide) (by decide)]; exact g1.2.2.2
  · unfold sV
    rw [i2, i3 2 (by decide), i3 12 (by decide), i3 11 (by decide), i3 5 (by decide), i3 6 (by decide), i3 7 (by decide), i3 8 (by decide), i3 9 (by decide), i3 10 (by decide)]
    exact g3
  · refine ⟨fun i hi => ?_, by rw [i6 6 (by decide) (by decide)]; exact g4.2.1, by rw [i3 6 (by decide)]; exact g4.2.2⟩
    rcases i8 i with e | e
    · rw [e]; exact g4.1 i hi
    · rw [e]; exact Or.inr (Or.inr rfl)
  · unfold sU
    rw [i2, i5, i3 4 (by decide)]; exact g5
  · left
    rcases g6 with ⟨-, p1, p2⟩ | ⟨e, -⟩ | ⟨e, -⟩ | ⟨e | e, -⟩
    · refine ⟨z2, fun i hi => ?_, by rw [i5]; exact p2⟩
      rcases i8 i with e | e
      · rw [e]; exact p1 i hi
      · rw [e]; decide
    · rw [h0] at e; exact absurd e (by decide)
    · rw [h0] at e; exact absurd e (by decide)
    · rw [h0] at e; exact absurd e (by decide)
    · rw [h0] at e; exact absurd e (by decide)
  · exact fun z => absurd z2 z
/-! ancestors -/
theorem an_lt {x : Int32} {d q : Nat} (h : lb x d) (hb : bt x q = true) : q < d := by
  rcases Nat.lt_or_ge q d with h1 | h1
  · exact h1
  · rw [h q h1] at hb; cases hb
theorem an_up {Pa An De : Nat → Int32} {dp : Nat → Nat} (hs : stt n o Pa An De dp) : ∀ d, d < n → ∀ p, bt (An d) p = true → bt (Pa d) p = true ∨ ∃ q, bt (An d) q = true ∧ bt (Pa q) p = true := by
  intro d
  induction d using Nat.strongRecOn with
  | ind d ih =>
    intro hd p hp
    rcases (hs.2.2.2.2.1 d hd p).mp hp with h | ⟨k, hk, h1, h2⟩
    · exact Or.inl h
    · have hkd := an_lt (hs.1 d hd) h1
      have hak : bt (An d) k = true := (hs.2.2.2.2.1 d hd k).mpr (Or.inl h1)
      rcases ih k hkd hk p h2 with h3 | ⟨q, h3, h4⟩
      · exact Or.inr ⟨k, hak, h3⟩
      · exact Or.inr ⟨q, (hs.2.2.2.2.1 d hd q).mpr (Or.inr ⟨k, hk, h1, h3⟩), h4⟩
theorem an_cl {Pa An De : Nat → Int32} {dp : Nat → Nat} (hs : stt n o Pa An De dp) : ∀ d, d < n → ∀ q p, bt (An d) q = true → bt (Pa q) p = true → bt (An d) p = true := by
  intro d
  induction d using Nat.strongRecOn with
  | ind d ih =>
    intro hd q p hq hp
    have hqd := an_lt (hs.2.1 d hd) hq
    rcases (hs.2.2.2.2.1 d hd q).mp hq with h | ⟨k, hk, h1, h2⟩
    · exact (hs.2.2.2.2.1 d hd p).mpr (Or.inr ⟨q, by omega, h, (hs.2.2.2.2.1 q (by omega) p).mpr (Or.inl hp)⟩)
    · have hkd := an_lt (hs.1 d hd) h1
      exact (hs.2.2.2.2.1 d hd p).mpr (Or.inr ⟨k, hk, h1, ih k hkd hk q p h2 hp⟩)
theorem line_w {Pa An De : Nat → Int32} {dp : Nat → Nat} (hs : stt n o Pa An De dp) (hn : n ≤ 12) (hp : ∀ i, i < n → T.2 1 i = Pa i) {d : Nat} (hd : d < n) : ∀ (r : Nat) (x : Int32), r ≤ d + 1 → bt x d = true → (∀ q, bt x q = true → (bt (An d) q = true ∨ q = d)) → (∀ q, r ≤ q → (bt (An d) q = true ∨ q = d) → bt x q = true) → (∀ q, r ≤ q → (bt (An d) q = true ∨ q = d) → ∀ p, bt (Pa q) p = true → bt x p = true) → ∀ q, bt (R_line_w T r x) q = true ↔ (bt (An d) q = true ∨ q = d)
  | 0, x, _, _, h1, h2, _ => fun q => ⟨h1 q, h2 q (Nat.zero_le q)⟩
  | r + 1, x, hr, h0, h1, h2, h3 => by
    have hnode : ∀ q, (bt (An d) q = true ∨ q = d) → ∀ p, bt (Pa q) p = true → bt (An d) p = true := by
      intro q hq p hpq
      rcases hq with hq | rfl
      · exact an_cl hs d hd q p hq hpq
      · exact (hs.2.2.2.2.1 q hd p).mpr (Or.inl hpq)
    have hrn : r < n := by omega
    have hin : (bt (An d) r = true ∨ r = d) → bt x r = true := by
      intro h
      rcases h with h | rfl
      · rcases an_up hs d hd r h with h4 | ⟨q, h4, h5⟩
        · exact h3 d (by have := an_lt (hs.1 d hd) h4; omega) (Or.inr rfl) r h4
        · have hqd := an_lt (hs.2.1 d hd) h4
          have := an_lt (hs.1 q (by omega)) h5
          exact h3 q (by omega) (Or.inl h4) r h5
      · exact h0
    show ∀ q, bt (R_line_w T r (if (x >>> (nI r &&& 31)) &&& 1 = 1 then x ||| T.2 1 r else x)) q = true ↔ _
    by_cases hb : bt x r = true
    · rw [if_pos ((b_tst (by omega)).mpr hb), hp r hrn]
      refine line_w hs hn hp hd r (x ||| Pa r) (by omega) (by rw [b_or, h0]; rfl) (fun q hq => ?_) (fun q hq hl => ?_) (fun q hq hl p hpq => ?_)
      · rw [b_or] at hq
        rcases Bool.or_eq_true _ _ ▸ hq with h | h
        · exact h1 q h
        · exact Or.inl (hnode r (h1 r hb) q h)
      · rw [b_or]
        by_cases e : q = r
        · subst e; rw [hb]; rfl
        · rw [h2 q (by omega) hl]; rfl
      · rw [b_or]
        by_cases e : q = r
        · subst e; rw [hpq, Bool.or_true]
        · rw [h3 q (by omega) hl p hpq]; rfl
    · rw [if_neg (fun z => hb ((b_tst (by omega)).mp z))]
      refine line_w hs hn hp hd r x (by omega) h0 h1 (fun q hq hl => ?_) (fun q hq hl p hpq => ?_)
      · by_cases e : q = r
        · subst e; exact hin hl
        · exact h2 q (by omega) hl
      · by_cases e : q = r
        · subst e; exact absurd (hin hl) hb
        · exact h3 q (by omega) hl p hpq
theorem line_eq {Pa An De : Nat → Int32} {dp : Nat → Nat} (hs : stt n o Pa An De dp) (hn : n ≤ 12) (hp : ∀ i, i < n → T.2 1 i = Pa i) {d : Nat} (hd : d < n) {m : Nat} : R_line m T d = An d ||| ((1 : Int32) <<< (nI d &&& 31)) := by
  apply b_ext
  intro i hi
  have key := line_w hs hn hp hd (d + 1) ((1 : Int32) <<< (nI d &&& 31)) (Nat.le_refl _) (by rw [b_bit (by omega) (by omega)]; simp) (fun q hq => by
      rcases Nat.lt_or_ge q 32 with h | h
      · rw [b_bit (by omega) h] at hq; exact Or.inr (by simpa using hq)
      · rw [b_big h] at hq; cases hq)
    (fun q hq hl => by
      rcases hl with hl | hl
      · have := an_lt (hs.2.1 d hd) hl; omega
      · omega)
    (fun q hq hl p hpq => by
      rcases hl with hl | hl
      · have := an_lt (hs.2.1 d hd) hl; omega
      · omega) i
  have e : bt (R_line m T d) i = true ↔ (bt (An d) i = true ∨ i = d) := key
  rw [b_or, b_bit (by omega) hi]
  by_cases h1 : bt (An d) i = true
  · rw [h1, e.mpr (Or.inl h1)]; rfl
  · by_cases h2 : i = d
    · rw [e.mpr (Or.inr h2)]; simp [h2]
    · have h3 : bt (R_line m T d) i = false := by
        rcases hq : bt (R_line m T d) i with _ | _
        · rfl
        · exact absurd (e.mp hq) (fun z => z.elim h1 h2)
      have h4 : bt (An d) i = false := by simpa using h1
      rw [h3, h4]; simp [h2]
theorem s_use (h : Rel n o S T) (d : Int32) : (C_use n o S d).1 = (R_use n T d).1 ∧ Rel n o (C_use n o S d).2 (R_use n T d).2 := by
  unfold C_use R_use
  by_cases hd : inR n d = true
  · rw [if_pos hd, if_pos hd, h.2.2.1.1]
    have hj := (inR_ix h.1.1 hd).1
    by_cases h0 : S.1 2 = 0
    · rw [if_pos h0, if_pos h0]
      rw [(h.2.1 _ hj).2.2.2.2.2.1]
      have h2 : Rel n o (S.1, up2 (S.2.1) 9 (d.toNatClampNeg) ((S.2.1 9 (d.toNatClampNeg)) + 1), S.2.2) (T.1, up2 (T.2) 7 (d.toNatClampNeg) ((S.2.1 9 (d.toNatClampNeg)) + 1)) := by
        obtain ⟨g1, g2, g3, g4, g5, g6, g7⟩ := h
        exact ⟨g1, sD_9 g2, g3, g4, g5, g6, g7⟩
      obtain ⟨dp, hs⟩ := h.1.2.2.2
      have e : R_line n (T.1, up2 (T.2) 7 (d.toNatClampNeg) ((S.2.1 9 (d.toNatClampNeg)) + 1)) d.toNatClampNeg = S.2.1 2 d.toNatClampNeg ||| C_bit n o (S.1, up2 (S.2.1) 9 (d.toNatClampNeg) ((S.2.1 9 (d.toNatClampNeg)) + 1), S.2.2) d.toNatClampNeg := line_eq (T := (T.1, up2 (T.2) 7 (d.toNatClampNeg) ((S.2.1 9 (d.toNatClampNeg)) + 1))) hs h.1.1 (fun i hi => (h.2.1 i hi).1) hj
      rw [e]
      exact rouse_rel (V := S.1) h2 h0 _
    · rw [if_neg h0, if_neg h0]; exact ⟨rfl, h⟩
  · rw [if_neg hd, if_neg hd]; exact ⟨rfl, h⟩
end S2
