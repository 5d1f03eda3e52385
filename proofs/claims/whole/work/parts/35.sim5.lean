/-! one tick -/
section S5
variable {n : Nat} {o : Nat → Nat}
def dzr (S : cSt) (nd : Int32) (i : Nat) : Bool := decide (S.2.1 7 i = 2) && decide (S.2.1 9 i = 0) && !(bt nd i)
def dzz (S : cSt) (nd : Int32) (i : Nat) : Bool := dzr S nd i && decide (¬ S.2.1 6 i = 0) && decide (¬ S.2.1 10 i + 1 < S.2.1 6 i)
def dzc (S : cSt) (nd : Int32) : Nat → Int32
  | 0 => 0
  | k + 1 => if dzz S nd k = true then dzc S nd k + 1 else dzc S nd k
theorem dzr_iff {S : cSt} {nd : Int32} {i : Nat} : dzr S nd i = true ↔ S.2.1 7 i = 2 ∧ S.2.1 9 i = 0 ∧ bt nd i = false := by
  unfold dzr; simp [and_assoc]
theorem dzz_iff {S : cSt} {nd : Int32} {i : Nat} : dzz S nd i = true ↔ dzr S nd i = true ∧ ¬ S.2.1 6 i = 0 ∧ ¬ S.2.1 10 i + 1 < S.2.1 6 i := by
  unfold dzz; simp only [Bool.and_eq_true, decide_eq_true_eq, and_assoc]
theorem idle_b {S Z : cSt} {nd : Int32} {k : Nat} (hk : k < 32) (h7 : Z.2.1 7 k = S.2.1 7 k) (h9 : Z.2.1 9 k = S.2.1 9 k) (h6 : Z.2.1 6 k = S.2.1 6 k) (h10 : Z.2.1 10 k = S.2.1 10 k) : C_idle_b n o nd k Z = if dzr S nd k = true then (if dzz S nd k = true then (upd Z.1 13 (Z.1 13 + 1), up2 (up2 Z.2.1 10 k (S.2.1 10 k + 1)) 7 k 1, Z.2.2) else (Z.1, up2 Z.2.1 10 k (S.2.1 10 k + 1), Z.2.2)) else (Z.1, up2 Z.2.1 10 k 0, Z.2.2) := by
  unfold C_idle_b
  rw [h7, h9, h6, h10]
  by_cases hr : dzr S nd k = true
  · obtain ⟨r1, r2, r3⟩ := dzr_iff.mp hr
    rw [if_pos hr, if_pos r1, if_pos r2, if_pos ((holds_0 hk).mpr r3)]
    by_cases h0 : S.2.1 6 k = 0
    · rw [if_pos h0, if_neg (fun z => (dzz_iff.mp z).2.1 h0)]
    · rw [if_neg h0]
      by_cases h1 : S.2.1 10 k + 1 < S.2.1 6 k
      · rw [if_pos h1, if_neg (fun z => (dzz_iff.mp z).2.2 h1)]
      · rw [if_neg h1, if_pos (dzz_iff.mpr ⟨hr, h0, h1⟩)]
        unfold C_turn
        have e : up2 Z.2.1 10 k (S.2.1 10 k + 1) 7 k = 2 := by
          show Z.2.1 7 k = 2
          rw [h7]; exact r1
        rw [if_neg]
        show ¬ up2 Z.2.1 10 k (S.2.1 10 k + 1) 7 k = 1
        rw [e]; decide
  · rw [if_neg hr]
    by_cases r1 : S.2.1 7 k = 2
    · rw [if_pos r1]
      by_cases r2 : S.2.1 9 k = 0
      · rw [if_pos r2, if_neg (fun z => hr (dzr_iff.mpr ⟨r1, r2, (holds_0 hk).mp z⟩))]
      · rw [if_neg r2]
    · rw [if_neg r1]
theorem idle_it {S : cSt} {nd : Int32} (hn : n ≤ 12) : ∀ k, k ≤ n → (∀ j, ¬ j = 13 → (C_idle_it n o S nd k).1 j = S.1 j) ∧ (C_idle_it n o S nd k).1 13 = S.1 13 + dzc S nd k ∧ (C_idle_it n o S nd k).2.2 = S.2.2 ∧ (∀ q, ¬ q = 7 → ¬ q = 10 → (C_idle_it n o S nd k).2.1 q = S.2.1 q) ∧ (∀ i, k ≤ i → (C_idle_it n o S nd k).2.1 7 i = S.2.1 7 i ∧ (C_idle_it n o S nd k).2.1 10 i = S.2.1 10 i) ∧ ∀ i, i < k → (C_idle_it n o S nd k).2.1 7 i = (if dzz S nd i = true then 1 else S.2.1 7 i) ∧ (C_idle_it n o S nd k).2.1 10 i = (if dzr S nd i = true then S.2.1 10 i + 1 else 0)
  | 0, _ => ⟨fun _ _ => rfl, (Int32.add_zero _).symm, rfl, fun _ _ _ => rfl, fun _ _ => ⟨rfl, rfl⟩, fun i h => absurd h (Nat.not_lt_zero _)⟩
  | k + 1, hk => by
    have ih := idle_it (S := S) (nd := nd) hn k (by omega)
    have e : C_idle_it n o S nd (k + 1) = C_idle_b n o nd k (C_idle_it n o S nd k) := rfl
    rw [e]
    generalize C_idle_it n o S nd k = Z at ih ⊢
    obtain ⟨i1, i2, i3, i4, i5, i6⟩ := ih
    rw [idle_b (by omega) (i5 k (Nat.le_refl k)).1 (by rw [i4 9 (by decide) (by decide)]) (by rw [i4 6 (by decide) (by decide)]) (i5 k (Nat.le_refl k)).2]
    show _ ∧ _ = S.1 13 + (if dzz S nd k = true then dzc S nd k + 1 else dzc S nd k) ∧ _
    by_cases hr : dzr S nd k = true
    · rw [if_pos hr]
      by_cases hz : dzz S nd k = true
      · rw [if_pos hz, if_pos hz]
        refine ⟨fun j hj => ?_, ?_, i3, fun q h7 h10 => ?_, fun i hi => ?_, fun i hi => ?_⟩
        · rw [← i1 j hj]; show upd Z.1 13 _ j = _; rw [upd_ap, if_neg hj]
        · show Z.1 13 + 1 = _; rw [i2, Int32.add_assoc]
        · rw [← i4 q h7 h10]; unfold up2 va_up; simp [h7, h10]
        · have : ¬ i = k := by omega
          simp [up2_ap, this]
          exact i5 i (by omega)
        · by_cases e : i = k
          · subst e; simp [up2_ap, hr, hz]
          · simp [up2_ap, e]
            have := i6 i (by omega)
            simpa using this
      · rw [if_neg hz, if_neg hz]
        refine ⟨i1, i2, i3, fun q h7 h10 => ?_, fun i hi => ?_, fun i hi => ?_⟩
        · rw [← i4 q h7 h10]; unfold up2 va_up; simp [h10]
        · have : ¬ i = k := by omega
          simp [up2_ap, this]
          exact i5 i (by omega)
        · by_cases e : i = k
          · subst e; simp [up2_ap, hr, hz]
            exact (i5 i (Nat.le_refl i)).1
          · simp [up2_ap, e]
            have := i6 i (by omega)
            simpa using this
    · have hz : ¬ dzz S nd k = true := fun z => hr (dzz_iff.mp z).1
      rw [if_neg hr, if_neg hz]
      refine ⟨i1, i2, i3, fun q h7 h10 => ?_, fun i hi => ?_, fun i hi => ?_⟩
      · rw [← i4 q h7 h10]; unfold up2 va_up; simp [h10]
      · have : ¬ i = k := by omega
        simp [up2_ap, this]
        exact i5 i (by omega)
      · by_cases e : i = k
        · subst e; simp [up2_ap, hr, hz]
          exact (i5 i (Nat.le_refl i)).1
        · simp [up2_ap, e]
          have := i6 i (by omega)
          simpa using this
theorem par_bt {S : cSt} {q : Nat} : ∀ k, (bt (C_parentsOn_it n o S k) q = true ↔ ∃ i, i < k ∧ S.2.1 7 i = 2 ∧ bt (S.2.1 1 i) q = true)
  | 0 => ⟨fun h => absurd h (by rw [show C_parentsOn_it n o S 0 = 0 from rfl, b_0]; decide), fun ⟨i, h, _⟩ => absurd h (Nat.not_lt_zero _)⟩
  | k + 1 => by
    have ih := par_bt (S := S) (q := q) k
    show bt (C_parentsOn_b n o S k (C_parentsOn_it n o S k)) q = true ↔ _
    unfold C_parentsOn_b
    by_cases h : S.2.1 7 k = 2
    · rw [if_pos h, b_or, Bool.or_eq_true, ih]
      constructor
      · rintro (⟨i, h1, h2, h3⟩ | h3)
        · exact ⟨i, by omega, h2, h3⟩
        · exact ⟨k, by omega, h, h3⟩
      · rintro ⟨i, h1, h2, h3⟩
        by_cases e : i = k
        · subst e; exact Or.inr h3
        · exact Or.inl ⟨i, by omega, h2, h3⟩
    · rw [if_neg h, ih]
      constructor
      · rintro ⟨i, h1, h2, h3⟩; exact ⟨i, by omega, h2, h3⟩
      · rintro ⟨i, h1, h2, h3⟩
        by_cases e : i = k
        · subst e; exact absurd h2 h
        · exact ⟨i, by omega, h2, h3⟩
theorem child_0 {T : rSt} {d : Nat} (hd : d < 32) : ∀ k, (R_childOn_it T d k = 0 ↔ ∀ j, j < k → ¬ (bt (T.2 1 (d + 1 + j)) d = true ∧ T.2 5 (d + 1 + j) = 2))
  | 0 => ⟨fun _ j h => absurd h (Nat.not_lt_zero _), fun _ => rfl⟩
  | k + 1 => by
    have ih := child_0 (T := T) hd k
    show R_childOn_b T d k (R_childOn_it T d k) = 0 ↔ _
    unfold R_childOn_b
    have aux : (∀ j, j < k + 1 → ¬ (bt (T.2 1 (d + 1 + j)) d = true ∧ T.2 5 (d + 1 + j) = 2)) ↔ (∀ j, j < k → ¬ (bt (T.2 1 (d + 1 + j)) d = true ∧ T.2 5 (d + 1 + j) = 2)) ∧ ¬ (bt (T.2 1 (d + 1 + k)) d = true ∧ T.2 5 (d + 1 + k) = 2) := by
      constructor
      · intro h; exact ⟨fun j hj => h j (by omega), h k (by omega)⟩
      · rintro ⟨h1, h2⟩ j hj
        by_cases e : j = k
        · subst e; exact h2
        · exact h1 j (by omega)
    rw [aux, ← ih]
    by_cases h0 : R_childOn_it T d k = 0
    · rw [if_pos h0]
      by_cases hb : bt (T.2 1 (d + 1 + k)) d = true
      · rw [if_pos ((b_tst hd).mpr hb)]
        by_cases h5 : T.2 5 (d + 1 + k) = 2
        · rw [if_pos h5]; exact ⟨fun z => absurd z (by decide), fun z => absurd ⟨hb, h5⟩ z.2⟩
        · rw [if_neg h5]; exact ⟨fun _ => ⟨h0, fun z => h5 z.2⟩, fun _ => rfl⟩
      · rw [if_neg (fun z => hb ((b_tst hd).mp z))]; exact ⟨fun _ => ⟨h0, fun z => hb z.1⟩, fun _ => rfl⟩
    · rw [if_neg h0]; exact ⟨fun z => absurd z (by decide), fun z => absurd z.1 h0⟩
theorem child_eq {S : cSt} {T Z : rSt} (hD : sD n S T) (hl : ∀ p, p < n → lb (S.2.1 1 p) p) (hn : n ≤ 12) (h1 : Z.2 1 = T.2 1) (h5 : Z.2 5 = T.2 5) {d : Nat} (hd : d < n) : R_childOn n Z d = 0 ↔ bt (C_parentsOfThoseOn n o S) d = false := by
  unfold R_childOn
  rw [child_0 (by omega), h1, h5]
  have key := par_bt (n := n) (o := o) (S := S) (q := d) n
  have e : C_parentsOfThoseOn n o S = C_parentsOn_it n o S n := rfl
  rw [e]
  constructor
  · intro h
    rcases hx : bt (C_parentsOn_it n o S n) d with _ | _
    · rfl
    · obtain ⟨i, hi, h7, hb⟩ := key.mp hx
      have hdi := an_lt (hl i hi) hb
      refine absurd ⟨?_, ?_⟩ (h (i - (d + 1)) (by omega))
      · rw [show d + 1 + (i - (d + 1)) = i by omega, (hD i hi).1]; exact hb
      · rw [show d + 1 + (i - (d + 1)) = i by omega, (hD i hi).2.2.2.2.1]; exact h7
  · intro h j hj hc
    have hi : d + 1 + j < n := by omega
    rw [(hD _ hi).1, (hD _ hi).2.2.2.2.1] at hc
    rw [key.mpr ⟨d + 1 + j, hi, hc.2, hc.1⟩] at h
    cases h
theorem doze1_it {S : cSt} {T : rSt} (hD : sD n S T) (hl : ∀ p, p < n → lb (S.2.1 1 p) p) (hn : n ≤ 12) : ∀ k, k ≤ n → (R_doze1_it n T k).1 = T.1 ∧ (∀ q, ¬ q = 11 → (R_doze1_it n T k).2 q = T.2 q) ∧ ∀ i, i < k → (R_doze1_it n T k).2 11 i = if dzr S (C_parentsOfThoseOn n o S) i = true then 1 else 0
  | 0, _ => ⟨rfl, fun _ _ => rfl, fun i h => absurd h (Nat.not_lt_zero _)⟩
  | k + 1, hk => by
    have ih := doze1_it hD hl hn k (by omega)
    have e : R_doze1_it n T (k + 1) = R_doze1_b n k (R_doze1_it n T k) := rfl
    rw [e]
    generalize R_doze1_it n T k = Z at ih ⊢
    obtain ⟨i1, i2, i3⟩ := ih
    have hb : R_doze1_b n k Z = (Z.1, up2 Z.2 11 k (if dzr S (C_parentsOfThoseOn n o S) k = true then 1 else 0)) := by
      unfold R_doze1_b
      rw [i2 5 (by decide), i2 7 (by decide), (hD k (by omega)).2.2.2.2.1, (hD k (by omega)).2.2.2.2.2.1]
      have hc := child_eq (o := o) (Z := Z) hD hl hn (i2 1 (by decide)) (i2 5 (by decide)) (d := k) (by omega)
      by_cases hr : dzr S (C_parentsOfThoseOn n o S) k = true
      · obtain ⟨r1, r2, r3⟩ := dzr_iff.mp hr
        rw [if_pos r1, if_pos r2, if_pos (hc.mpr r3), if_pos hr]
      · rw [if_neg hr]
        by_cases r1 : S.2.1 7 k = 2
        · rw [if_pos r1]
          by_cases r2 : S.2.1 9 k = 0
          · rw [if_pos r2, if_neg (fun z => hr (dzr_iff.mpr ⟨r1, r2, hc.mp z⟩))]
          · rw [if_neg r2]
        · rw [if_neg r1]
    rw [hb]
    refine ⟨i1, fun q hq => ?_, fun i hi => ?_⟩
    · rw [← i2 q hq]; show up2 _ 11 k _ q = _; unfold up2 va_up; rw [if_neg hq]
    · show up2 Z.2 11 k _ 11 i = _
      rw [up2_ap, if_pos rfl]
      by_cases e : i = k
      · rw [if_pos e, e]
      · rw [if_neg e]; exact i3 i (by omega)
theorem doze2_it {T : rSt} : ∀ k, (R_doze2_it n T k).1 = T.1 ∧ (∀ q, ¬ q = 8 → (R_doze2_it n T k).2 q = T.2 q) ∧ (∀ i, k ≤ i → (R_doze2_it n T k).2 8 i = T.2 8 i) ∧ ∀ i, i < k → (R_doze2_it n T k).2 8 i = if T.2 11 i = 0 then 0 else T.2 8 i + 1
  | 0 => ⟨rfl, fun _ _ => rfl, fun _ _ => rfl, fun i h => absurd h (Nat.not_lt_zero _)⟩
  | k + 1 => by
    have ih := doze2_it (T := T) k
    have e : R_doze2_it n T (k + 1) = R_doze2_b k (R_doze2_it n T k) := rfl
    rw [e]
    generalize R_doze2_it n T k = Z at ih ⊢
    obtain ⟨i1, i2, i3, i4⟩ := ih
    have hb : R_doze2_b k Z = (Z.1, up2 Z.2 8 k (if T.2 11 k = 0 then 0 else T.2 8 k + 1)) := by
      unfold R_doze2_b
      rw [i2 11 (by decide), i3 k (Nat.le_refl k)]
      by_cases h : T.2 11 k = 0
      · rw [if_pos h, if_pos h]
      · rw [if_neg h, if_neg h]
    rw [hb]
    refine ⟨i1, fun q hq => ?_, fun i hi => ?_, fun i hi => ?_⟩
    · rw [← i2 q hq]; show up2 _ 8 k _ q = _; unfold up2 va_up; rw [if_neg hq]
    · show up2 Z.2 8 k _ 8 i = _
      rw [up2_ap, if_pos rfl, if_neg (by omega)]; exact i3 i (by omega)
    · show up2 Z.2 8 k _ 8 i = _
      rw [up2_ap, if_pos rfl]
      by_cases e : i = k
      · rw [if_pos e, e]
      · rw [if_neg e]; exact i4 i (by omega)
theorem doze3_it {T : rSt} {dz : Nat → Bool} {ct : Nat → Int32} (c0 : ct 0 = 0) (cs : ∀ k, ct (k + 1) = if dz k = true then ct k + 1 else ct k) (hz : ∀ k, k < n → (dz k = true ↔ T.2 5 k = 2 ∧ ¬ T.2 4 k ≤ 0 ∧ ¬ T.2 8 k < T.2 4 k)) : ∀ k, k ≤ n → (∀ j, ¬ j = 23 → (R_doze3_it n T k).1 j = T.1 j) ∧ (R_doze3_it n T k).1 23 = T.1 23 + ct k ∧ (∀ q, ¬ q = 5 → (R_doze3_it n T k).2 q = T.2 q) ∧ (∀ i, k ≤ i → (R_doze3_it n T k).2 5 i = T.2 5 i) ∧ ∀ i, i < k → (R_doze3_it n T k).2 5 i = if dz i = true then 1 else T.2 5 i
  | 0, _ => ⟨fun _ _ => rfl, by rw [c0]; exact (Int32.add_zero _).symm, fun _ _ => rfl, fun _ _ => rfl, fun i h => absurd h (Nat.not_lt_zero _)⟩
  | k + 1, hk => by
    have ih := doze3_it c0 cs hz k (by omega)
    have e : R_doze3_it n T (k + 1) = R_doze3_b n k (R_doze3_it n T k) := rfl
    rw [e]
    generalize R_doze3_it n T k = Z at ih ⊢
    obtain ⟨i1, i2, i3, i4, i5⟩ := ih
    have hb : R_doze3_b n k Z = if dz k = true then R_become n Z k 1 else Z := by
      unfold R_doze3_b
      rw [i3 4 (by decide), i3 8 (by decide), i4 k (Nat.le_refl k)]
      have hq := hz k (by omega)
      by_cases h : dz k = true
      · obtain ⟨r1, r2, r3⟩ := hq.mp h
        rw [if_pos r1, if_neg r2, if_neg r3, if_pos h]
      · rw [if_neg h]
        by_cases r1 : T.2 5 k = 2
        · rw [if_pos r1]
          by_cases r2 : T.2 4 k ≤ 0
          · rw [if_pos r2]
          · rw [if_neg r2]
            by_cases r3 : T.2 8 k < T.2 4 k
            · rw [if_pos r3]
            · exact absurd (hq.mpr ⟨r1, r2, r3⟩) h
        · rw [if_neg r1]
    rw [hb, cs k]
    by_cases h : dz k = true
    · rw [if_pos h, if_pos h]
      refine ⟨fun j hj => ?_, ?_, fun q hq => ?_, fun i hi => ?_, fun i hi => ?_⟩
      · rw [← i1 j hj]; show upd Z.1 23 _ j = _; rw [upd_ap, if_neg hj]
      · show Z.1 23 + 1 = _; rw [i2, Int32.add_assoc]
      · rw [← i3 q hq]; show up2 _ 5 k _ q = _; unfold up2 va_up; rw [if_neg hq]
      · show up2 Z.2 5 k _ 5 i = _
        rw [up2_ap, if_pos rfl, if_neg (by omega)]; exact i4 i (by omega)
      · show up2 Z.2 5 k _ 5 i = _
        rw [up2_ap, if_pos rfl]
        by_cases e : i = k
        · rw [if_pos e, e, if_pos h]
        · rw [if_neg e]; exact i5 i (by omega)
    · rw [if_neg h, if_neg h]
      refine ⟨i1, i2, i3, fun i hi => i4 i (by omega), fun i hi => ?_⟩
      by_cases e : i = k
      · rw [e, if_neg h]; exact i4 k (Nat.le_refl k)
      · exact i5 i (by omega)
theorem s_doze {S : cSt} {T : rSt} (h : Rel n o S T) (h0 : S.1 2 = 0) : Rel n o (C_idleOneTick n o S) (R_doze n T) ∧ ∀ b, S.1 13 = b + T.1 23 → (C_idleOneTick n o S).1 13 = b + (R_doze n T).1 23 := by
  obtain ⟨g1, g2, ⟨v12, v15, v16, v17, v18, v19, v20, v21, v22⟩, g4, g5, g6, g7⟩ := h
  obtain ⟨dp, hs⟩ := g1.2.2.2
  obtain ⟨a1, a2, a3⟩ := doze1_it (o := o) g2 hs.1 g1.1 n (Nat.le_refl n)
  obtain ⟨b1, b2, b3, b4⟩ := doze2_it (n := n) (T := R_doze1_it n T n) n
  have b4' : ∀ i, i < n → (R_doze2_it n (R_doze1_it n T n) n).2 8 i = if dzr S (C_parentsOfThoseOn n o S) i = true then S.2.1 10 i + 1 else 0 := fun i hi => by
    rw [b4 i hi, a3 i hi, a2 8 (by decide), (g2 i hi).2.2.2.2.2.2.1]
    by_cases h : dzr S (C_parentsOfThoseOn n o S) i = true
    · rw [if_pos h, if_pos h, if_neg (by decide)]
    · rw [if_neg h, if_neg h, if_pos rfl]
  have b5 : ∀ q, ¬ q = 8 → ¬ q = 11 → (R_doze2_it n (R_doze1_it n T n) n).2 q = T.2 q := fun q h8 h11 => by rw [b2 q h8, a2 q h11]
  have b6 : (R_doze2_it n (R_doze1_it n T n) n).1 = T.1 := by rw [b1, a1]
  unfold R_doze C_idleOneTick
  generalize C_parentsOfThoseOn n o S = nd at a3 b4' ⊢
  generalize R_doze2_it n (R_doze1_it n T n) n = X at b4' b5 b6 ⊢
  have hz : ∀ k, k < n → (dzz S nd k = true ↔ X.2 5 k = 2 ∧ ¬ X.2 4 k ≤ 0 ∧ ¬ X.2 8 k < X.2 4 k) := fun k hk => by
    rw [b4' k hk, b5 5 (by decide) (by decide), b5 4 (by decide) (by decide), (g2 k hk).2.2.2.2.1, (g2 k hk).2.2.2.1]
    have hp := g4.2.1 k hk
    rw [dzz_iff]
    constructor
    · rintro ⟨r, r1, r2⟩
      refine ⟨(dzr_iff.mp r).1, fun z => r1 ?_, by rw [if_pos r]; exact r2⟩
      apply Int32.toInt_inj.mp
      rw [Int32.le_iff_toInt_le] at z hp
      exact Int.le_antisymm z hp
    · rintro ⟨r1, r2, r3⟩
      have r : dzr S nd k = true := by
        rcases hq : dzr S nd k with _ | _
        · rw [hq, if_neg (by decide)] at r3
          rw [Int32.le_iff_toInt_le] at r2
          rw [Int32.lt_iff_toInt_lt] at r3
          exact absurd (Int.not_le.mp r2) r3
        · rfl
      rw [if_pos r] at r3
      exact ⟨r, fun z => r2 (by rw [z]; decide), r3⟩
  obtain ⟨c1, c2, c3, c4, c5⟩ := doze3_it (T := X) (dz := dzz S nd) (ct := dzc S nd) rfl (fun _ => rfl) hz n (Nat.le_refl n)
  obtain ⟨d1, d2, d3, d4, d5, d6⟩ := idle_it (o := o) (S := S) (nd := nd) g1.1 n (Nat.le_refl n)
  generalize R_doze3_it n X n = Y at c1 c2 c3 c4 c5 ⊢
  generalize C_idle_it n o S nd n = Z at d1 d2 d3 d4 d5 d6 ⊢
  have z2 : Z.1 2 = 0 := (d1 2 (by decide)).trans h0
  have y1 : ∀ j, ¬ j = 23 → Y.1 j = T.1 j := fun j hj => by rw [c1 j hj, b6]
  refine ⟨⟨⟨g1.1, by rw [d4 0 (by decide) (by decide)]; exact g1.2.1, by rw [y1 0 (by decide)]; exact g1.2.2.1, ?_⟩, fun i hi => ?_, ?_, ⟨fun i hi => ?_, ?_, ?_⟩, ?_, ?_, fun z => absurd z2 z⟩, fun b hb => ?_⟩
  · rw [d4 1 (by decide) (by decide), d4 2 (by decide) (by decide), d4 3 (by decide) (by decide)]; exact ⟨dp, hs⟩
  · obtain ⟨e1, e2, e3, e4, e5, e7, e8, e9, e10⟩ := g2 i hi
    rw [d4 1 (by decide) (by decide), d4 4 (by decide) (by decide), d4 5 (by decide) (by decide), d4 6 (by decide) (by decide), d4 9 (by decide) (by decide), d4 11 (by decide) (by decide), d4 12 (by decide) (by decide), (d6 i hi).1, (d6 i hi).2]
    rw [c3 1 (by decide), c3 2 (by decide), c3 3 (by decide), c3 4 (by decide), c3 7 (by decide), c3 8 (by decide), c3 9 (by decide), c3 10 (by decide), c5 i hi, b4' i hi]
    rw [b5 1 (by decide) (by decide), b5 2 (by decide) (by decide), b5 3 (by decide) (by decide), b5 4 (by decide) (by decide), b5 5 (by decide) (by decide), b5 7 (by decide) (by decide), b5 9 (by decide) (by decide), b5 10 (by decide) (by decide)]
    exact ⟨e1, e2, e3, e4, by rw [e5], e7, rfl, e9, e10⟩
  · unfold sV
    rw [y1 12 (by decide), y1 15 (by decide), y1 16 (by decide), y1 17 (by decide), y1 18 (by decide), y1 19 (by decide), y1 20 (by decide), y1 21 (by decide), y1 22 (by decide), d1 2 (by decide), d1 12 (by decide), d1 11 (by decide), d1 5 (by decide), d1 6 (by decide), d1 7 (by decide), d1 8 (by decide), d1 9 (by decide), d1 10 (by decide)]
    exact ⟨v12, v15, v16, v17, v18, v19, v20, v21, v22⟩
  · rw [(d6 i hi).1]
    split
    · exact Or.inr (Or.inl rfl)
    · exact g4.1 i hi
  · rw [d4 6 (by decide) (by decide)]; exact g4.2.1
  · rw [d1 6 (by decide)]; exact g4.2.2
  · unfold sU
    rw [y1 13 (by decide), y1 14 (by decide), d3, d1 4 (by decide)]; exact g5
  · rcases g6 with ⟨-, p1, p2⟩ | ⟨e, -⟩ | ⟨e, -⟩ | ⟨e | e, -⟩
    · refine Or.inl ⟨z2, fun i hi => ?_, by rw [d3]; exact p2⟩
      rw [(d6 i hi).1]
      split
      · decide
      · exact p1 i hi
    · rw [h0] at e; exact absurd e (by decide)
    · rw [h0] at e; exact absurd e (by decide)
    · rw [h0] at e; exact absurd e (by decide)
    · rw [h0] at e; exact absurd e (by decide)
  · rw [d2, c2, b6, hb, Int32.add_assoc]
end S5
