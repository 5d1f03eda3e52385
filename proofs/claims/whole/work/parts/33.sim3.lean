/-! depth, the order, the last awake and the first that is off -/
theorem Mx_ge {dp : Nat → Nat} {x : Int32} {k : Nat} (hb : bt x k = true) : ∀ m, k < m → dp k + 1 ≤ Mx dp x m
  | 0, h => absurd h (Nat.not_lt_zero _)
  | m + 1, h => by
    unfold Mx
    by_cases e : k = m
    · subst e; rw [if_pos hb]; omega
    · have := Mx_ge (dp := dp) hb m (by omega)
      split <;> omega
theorem Mx_le {dp : Nat → Nat} {x : Int32} {b : Nat} : ∀ m, (∀ k, k < m → bt x k = true → dp k + 1 ≤ b) → Mx dp x m ≤ b
  | 0, _ => Nat.zero_le _
  | m + 1, h => by
    have ih := Mx_le (dp := dp) (x := x) (b := b) m (fun k hk hb => h k (by omega) hb)
    unfold Mx
    split
    · rename_i hb
      have := h m (by omega) hb
      omega
    · exact ih
section S3
variable {n : Nat} {o : Nat → Nat} {T : rSt} {Pa An De : Nat → Int32} {dp : Nat → Nat}
theorem next_bt {ly : Int32} (hn : n ≤ 12) (hp : ∀ i, i < n → T.2 1 i = Pa i) (q : Nat) : ∀ m, m ≤ n → (bt (R_next_it n T ly m) q = true ↔ ∃ k, k < m ∧ bt ly k = true ∧ bt (Pa k) q = true)
  | 0, _ => ⟨fun h => absurd h (by rw [show R_next_it n T ly 0 = 0 from rfl, b_0]; decide), fun ⟨k, h, _⟩ => absurd h (Nat.not_lt_zero _)⟩
  | m + 1, hm => by
    have ih := next_bt (ly := ly) hn hp q m (by omega)
    show bt (R_next_b T ly m (R_next_it n T ly m)) q = true ↔ _
    unfold R_next_b
    by_cases hb : bt ly m = true
    · rw [if_pos ((b_tst (by omega)).mpr hb), hp m (by omega), b_or, Bool.or_eq_true, ih]
      constructor
      · rintro (⟨k, h1, h2, h3⟩ | h)
        · exact ⟨k, by omega, h2, h3⟩
        · exact ⟨m, by omega, hb, h⟩
      · rintro ⟨k, h1, h2, h3⟩
        by_cases e : k = m
        · subst e; exact Or.inr h3
        · exact Or.inl ⟨k, by omega, h2, h3⟩
    · rw [if_neg (fun z => hb ((b_tst (by omega)).mp z)), ih]
      constructor
      · rintro ⟨k, h1, h2, h3⟩; exact ⟨k, by omega, h2, h3⟩
      · rintro ⟨k, h1, h2, h3⟩
        by_cases e : k = m
        · subst e; exact absurd h2 hb
        · exact ⟨k, by omega, h2, h3⟩
theorem lb_ex {x : Int32} {f : Nat} (h : lb x f) (h0 : ¬ x = 0) : ∃ k, k < f ∧ bt x k = true := by
  refine Classical.byContradiction (fun hc => h0 (b_ext (fun i hi => ?_)))
  rw [b_0]
  rcases Nat.lt_or_ge i f with h1 | h1
  · rcases hq : bt x i with _ | _
    · rfl
    · exact absurd ⟨i, h1, hq⟩ hc
  · exact h i h1
theorem depth_w (hl : ∀ p, p < n → lb (Pa p) p) (hd : ∀ p, p < n → dp p = Mx dp (Pa p) n) (hn : n ≤ 12) (hp : ∀ i, i < n → T.2 1 i = Pa i) : ∀ (f : Nat) (ly c : Int32), f ≤ n → lb ly f → R_depth_w n T (f + 1) ly c = c + nI (Mx dp ly n)
  | 0, ly, c, _, h => by
    have e := lb_zero h
    subst e
    have e2 : Mx dp 0 n = 0 := by
      have := Mx_le (dp := dp) (x := 0) (b := 0) n (fun k _ hb => by rw [b_0] at hb; cases hb)
      omega
    rw [e2]
    show (if (0 : Int32) = 0 then c else _) = c + nI 0
    rw [if_pos rfl]; exact (Int32.add_zero c).symm
  | f + 1, ly, c, hf, h => by
    show (if ly = 0 then c else R_depth_w n T (f + 1) (R_next_it n T ly n) (c + 1)) = _
    by_cases e : ly = 0
    · subst e
      have e2 : Mx dp 0 n = 0 := by
        have := Mx_le (dp := dp) (x := 0) (b := 0) n (fun k _ hb => by rw [b_0] at hb; cases hb)
        omega
      rw [e2, if_pos rfl]; exact (Int32.add_zero c).symm
    · rw [if_neg e]
      have hb := fun q => next_bt (ly := ly) hn hp q n (Nat.le_refl n)
      have hlb : lb (R_next_it n T ly n) f := by
        intro q hq
        rcases hx : bt (R_next_it n T ly n) q with _ | _
        · rfl
        · obtain ⟨k, h1, h2, h3⟩ := (hb q).mp hx
          have := an_lt h h2
          have := an_lt (hl k h1) h3
          omega
      rw [depth_w hl hd hn hp f _ (c + 1) (by omega) hlb]
      have e3 : Mx dp ly n = Mx dp (R_next_it n T ly n) n + 1 := by
        apply Nat.le_antisymm
        · refine Mx_le n (fun k hk hbk => ?_)
          have : Mx dp (Pa k) n ≤ Mx dp (R_next_it n T ly n) n := Mx_le n (fun q hq hbq => Mx_ge ((hb q).mpr ⟨k, hk, hbk, hbq⟩) n hq)
          rw [hd k hk]; omega
        · obtain ⟨k0, hk0, hbk0⟩ := lb_ex h e
          have g0 := Mx_ge (dp := dp) hbk0 n (by omega)
          have : Mx dp (R_next_it n T ly n) n ≤ Mx dp ly n - 1 := Mx_le n (fun q hq hbq => by
            obtain ⟨k, h1, h2, h3⟩ := (hb q).mp hbq
            have g1 := Mx_ge (dp := dp) h2 n h1
            have g2 := Mx_ge (dp := dp) h3 n hq
            rw [← hd k h1] at g2
            omega)
          omega
      rw [e3, ← nI_1, Int32.add_assoc, Int32.add_comm 1]
theorem depth_eq (hs : stt n o Pa An De dp) (hn : n ≤ 12) (hp : ∀ i, i < n → T.2 1 i = Pa i) {d : Nat} (hd : d < n) : R_depth n T d = nI (dp d) := by
  unfold R_depth
  rw [hp d hd, depth_w hs.1 (fun p h => (hs.2.2.1 p h).2.2) hn hp d (Pa d) 0 (by omega) (hs.1 d hd), ← (hs.2.2.1 d hd).2.2, Int32.zero_add]
theorem earlier_0 (hs : stt n o Pa An De dp) (hn : n ≤ 12) (hp : ∀ i, i < n → T.2 1 i = Pa i) {x y : Nat} (hx : x < n) (hy : y < n) : R_earlier n T x y = 0 ↔ ¬ ltx dp x y := by
  unfold R_earlier ltx
  have dx := (hs.2.2.1 x hx).2.1
  have dy := (hs.2.2.1 y hy).2.1
  rw [depth_eq hs hn hp hx, depth_eq hs hn hp hy]
  by_cases h1 : dp x = dp y
  · rw [if_pos (by rw [h1])]
    by_cases h2 : y ≤ x
    · rw [if_pos ((nI_leI (by omega) (by omega)).mpr h2)]; exact ⟨fun _ => by omega, fun _ => rfl⟩
    · rw [if_neg (fun z => h2 ((nI_leI (by omega) (by omega)).mp z))]; exact ⟨fun z => absurd z (by decide), fun z => absurd (Or.inr ⟨h1, by omega⟩) z⟩
  · rw [if_neg (fun z => h1 ((nI_eq (by omega) (by omega)).mp z))]
    by_cases h2 : dp y ≤ dp x
    · rw [if_pos ((nI_leI (by omega) (by omega)).mpr h2)]; exact ⟨fun _ => by omega, fun _ => rfl⟩
    · rw [if_neg (fun z => h2 ((nI_leI (by omega) (by omega)).mp z))]; exact ⟨fun z => absurd z (by decide), fun z => absurd (Or.inl (by omega)) z⟩
theorem last_ch (hs : stt n o Pa An De dp) (hn : n ≤ 12) (hp : ∀ i, i < n → T.2 1 i = Pa i) : ∀ k, k ≤ n → (R_last_it n T k = -1 ∧ ∀ i, i < k → T.2 5 i = 0) ∨ ∃ j, j < k ∧ R_last_it n T k = nI j ∧ ¬ T.2 5 j = 0 ∧ ∀ i, i < k → ¬ T.2 5 i = 0 → i = j ∨ ltx dp i j
  | 0, _ => Or.inl ⟨rfl, fun i h => absurd h (Nat.not_lt_zero _)⟩
  | k + 1, hk => by
    have ih := last_ch hs hn hp k (by omega)
    have e : R_last_it n T (k + 1) = R_last_b n T k (R_last_it n T k) := rfl
    rw [e]
    generalize R_last_it n T k = b at ih ⊢
    unfold R_last_b
    by_cases h0 : T.2 5 k = 0
    · rw [if_pos h0]
      rcases ih with ⟨h1, h2⟩ | ⟨j, h1, h2, h3, h4⟩
      · exact Or.inl ⟨h1, fun i hi => by by_cases q : i = k; (· rw [q]; exact h0); (· exact h2 i (by omega))⟩
      · exact Or.inr ⟨j, by omega, h2, h3, fun i hi hm => by by_cases q : i = k; (· rw [q] at hm; exact absurd h0 hm); (· exact h4 i (by omega) hm)⟩
    · rw [if_neg h0]
      rcases ih with ⟨h1, h2⟩ | ⟨j, h1, h2, h3, h4⟩
      · rw [h1, if_pos (by decide)]
        exact Or.inr ⟨k, by omega, rfl, h0, fun i hi hm => by by_cases q : i = k; (· exact Or.inl q); (· exact absurd (h2 i (by omega)) hm)⟩
      · rw [h2, if_neg (nI_pos (by omega)), nI_clamp (by omega)]
        by_cases h5 : R_earlier n T j k = 0
        · rw [if_pos h5]
          have h6 := (earlier_0 hs hn hp (by omega) (by omega)).mp h5
          exact Or.inr ⟨j, by omega, rfl, h3, fun i hi hm => by
            by_cases q : i = k
            · subst q; unfold ltx at h6 ⊢; omega
            · exact h4 i (by omega) hm⟩
        · rw [if_neg h5]
          have h6 : ltx dp j k := Classical.byContradiction (fun z => h5 ((earlier_0 hs hn hp (by omega) (by omega)).mpr z))
          exact Or.inr ⟨k, by omega, rfl, h0, fun i hi hm => by
            by_cases q : i = k
            · exact Or.inl q
            · rcases h4 i (by omega) hm with h7 | h7
              · subst h7; exact Or.inr h6
              · unfold ltx at h6 h7 ⊢; omega⟩
theorem first_ch (hs : stt n o Pa An De dp) (hn : n ≤ 12) (hp : ∀ i, i < n → T.2 1 i = Pa i) : ∀ k, k ≤ n → (R_first_it n T k = -1 ∧ ∀ i, i < k → ¬ T.2 5 i = 0) ∨ ∃ j, j < k ∧ R_first_it n T k = nI j ∧ T.2 5 j = 0 ∧ ∀ i, i < k → T.2 5 i = 0 → i = j ∨ ltx dp j i
  | 0, _ => Or.inl ⟨rfl, fun i h => absurd h (Nat.not_lt_zero _)⟩
  | k + 1, hk => by
    have ih := first_ch hs hn hp k (by omega)
    have e : R_first_it n T (k + 1) = R_first_b n T k (R_first_it n T k) := rfl
    rw [e]
    generalize R_first_it n T k = b at ih ⊢
    unfold R_first_b
    by_cases h0 : T.2 5 k = 0
    · rw [if_pos h0]
      rcases ih with ⟨h1, h2⟩ | ⟨j, h1, h2, h3, h4⟩
      · rw [h1, if_pos (by decide)]
        exact Or.inr ⟨k, by omega, rfl, h0, fun i hi hm => by by_cases q : i = k; (· exact Or.inl q); (· exact absurd hm (h2 i (by omega)))⟩
      · rw [h2, if_neg (nI_pos (by omega)), nI_clamp (by omega)]
        by_cases h5 : R_earlier n T k j = 0
        · rw [if_pos h5]
          have h6 := (earlier_0 hs hn hp (by omega) (by omega)).mp h5
          exact Or.inr ⟨j, by omega, rfl, h3, fun i hi hm => by
            by_cases q : i = k
            · subst q; unfold ltx at h6 ⊢; omega
            · exact h4 i (by omega) hm⟩
        · rw [if_neg h5]
          have h6 : ltx dp k j := Classical.byContradiction (fun z => h5 ((earlier_0 hs hn hp (by omega) (by omega)).mpr z))
          exact Or.inr ⟨k, by omega, rfl, h0, fun i hi hm => by
            by_cases q : i = k
            · exact Or.inl q
            · rcases h4 i (by omega) hm with h7 | h7
              · subst h7; exact Or.inr h6
              · unfold ltx at h6 h7 ⊢; omega⟩
    · rw [if_neg h0]
      rcases ih with ⟨h1, h2⟩ | ⟨j, h1, h2, h3, h4⟩
      · exact Or.inl ⟨h1, fun i hi => by by_cases q : i = k; (· rw [q]; exact h0); (· exact h2 i (by omega))⟩
      · exact Or.inr ⟨j, by omega, h2, h3, fun i hi hm => by by_cases q : i = k; (· rw [q] at hm; exact absurd hm h0); (· exact h4 i (by omega) hm)⟩
theorem last_is (hs : stt n o Pa An De dp) (hn : n ≤ 12) (hp : ∀ i, i < n → T.2 1 i = Pa i) {r : Nat} (hr : r < n) (h1 : ¬ T.2 5 (o r) = 0) (h2 : ∀ i, r < i → i < n → T.2 5 (o i) = 0) : R_lastAwake n T = nI (o r) := by
  unfold R_lastAwake
  have hor := hs.2.2.2.2.2.2 r hr
  rcases last_ch hs hn hp n (Nat.le_refl n) with ⟨-, h⟩ | ⟨j, hj, e, h3, h4⟩
  · exact absurd (h (o r) hor) h1
  · rw [e]
    obtain ⟨t, ht, hto⟩ := hs.2.2.2.2.2.1 j hj
    have htr : t ≤ r := by
      rcases Nat.lt_or_ge r t with q | q
      · exact absurd (by rw [← hto]; exact h2 t q ht) h3
      · exact q
    rcases Nat.lt_or_ge t r with q | q
    · have h5 := hs.2.2.2.1 t r q hr
      rw [hto] at h5
      rcases h4 (o r) hor h1 with h6 | h6
      · rw [h6] at h5; unfold ltx at h5; omega
      · unfold ltx at h5 h6; omega
    · have : t = r := by omega
      rw [← hto, this]
theorem last_no (hs : stt n o Pa An De dp) (hn : n ≤ 12) (hp : ∀ i, i < n → T.2 1 i = Pa i) (h2 : ∀ i, i < n → T.2 5 (o i) = 0) : R_lastAwake n T = -1 := by
  unfold R_lastAwake
  rcases last_ch hs hn hp n (Nat.le_refl n) with ⟨e, -⟩ | ⟨j, hj, e, h3, h4⟩
  · exact e
  · obtain ⟨t, ht, hto⟩ := hs.2.2.2.2.2.1 j hj
    exact absurd (by rw [← hto]; exact h2 t ht) h3
theorem first_is (hs : stt n o Pa An De dp) (hn : n ≤ 12) (hp : ∀ i, i < n → T.2 1 i = Pa i) {r : Nat} (hr : r < n) (h1 : T.2 5 (o r) = 0) (h2 : ∀ i, i < r → ¬ T.2 5 (o i) = 0) : R_firstOff n T = nI (o r) := by
  unfold R_firstOff
  have hor := hs.2.2.2.2.2.2 r hr
  rcases first_ch hs hn hp n (Nat.le_refl n) with ⟨-, h⟩ | ⟨j, hj, e, h3, h4⟩
  · exact absurd h1 (h (o r) hor)
  · rw [e]
    obtain ⟨t, ht, hto⟩ := hs.2.2.2.2.2.1 j hj
    have htr : r ≤ t := by
      rcases Nat.lt_or_ge t r with q | q
      · exact absurd (by rw [hto]; exact h3) (h2 t q)
      · exact q
    rcases Nat.lt_or_ge r t with q | q
    · have h5 := hs.2.2.2.1 r t q ht
      rw [hto] at h5
      rcases h4 (o r) hor h1 with h6 | h6
      · rw [h6] at h5; unfold ltx at h5; omega
      · unfold ltx at h5 h6; omega
    · have : t = r := by omega
      rw [← hto, this]
theorem first_no (hs : stt n o Pa An De dp) (hn : n ≤ 12) (hp : ∀ i, i < n → T.2 1 i = Pa i) (h2 : ∀ i, i < n → ¬ T.2 5 (o i) = 0) : R_firstOff n T = -1 := by
  unfold R_firstOff
  rcases first_ch hs hn hp n (Nat.le_refl n) with ⟨e, -⟩ | ⟨j, hj, e, h3, h4⟩
  · exact e
  · obtain ⟨t, ht, hto⟩ := hs.2.2.2.2.2.1 j hj
    exact absurd (by rw [hto]; exact h3) (h2 t ht)
end S3
