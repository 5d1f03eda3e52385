/-! a device more -/
section S7
variable {n : Nat} {o : Nat → Nat}
theorem Mx_s {f : Nat → Nat} {x : Int32} {k : Nat} : Mx f x (k + 1) = if bt x k = true then max (Mx f x k) (f k + 1) else Mx f x k := rfl
theorem Mx_eq {f g : Nat → Nat} {x : Int32} : ∀ m, (∀ k, k < m → f k = g k) → Mx f x m = Mx g x m
  | 0, _ => rfl
  | m + 1, h => by
    rw [Mx_s, Mx_s, Mx_eq m (fun k hk => h k (by omega)), h m (by omega)]
theorem depthUnder_Mx {S : cSt} {p : Int32} {dp : Nat → Nat} (hn : n ≤ 12) (hd : ∀ k, k < n → S.2.1 3 k = nI (dp k) ∧ dp k ≤ k) : ∀ m, m ≤ n → C_depthUnder_it n o S p m = nI (Mx dp p m) ∧ Mx dp p m ≤ m
  | 0, _ => ⟨rfl, Nat.le_refl _⟩
  | m + 1, hm => by
    obtain ⟨ih, ih2⟩ := depthUnder_Mx hn hd m (by omega)
    obtain ⟨d1, d2⟩ := hd m (by omega)
    show C_depthUnder_b n o S p m (C_depthUnder_it n o S p m) = _ ∧ _
    rw [ih]
    rw [Mx_s]
    unfold C_depthUnder_b
    by_cases hb : bt p m = true
    · have hc : ¬ C_holds n o S p m = 0 := fun z => by rw [(holds_0 (by omega)).mp z] at hb; cases hb
      rw [if_neg hc, if_pos hb, d1, nI_1]
      refine ⟨?_, by omega⟩
      by_cases h : Mx dp p m < dp m + 1
      · rw [if_pos ((nI_ltI (by omega) (by omega)).mpr h), Nat.max_eq_right (by omega)]
      · rw [if_neg (fun z => h ((nI_ltI (by omega) (by omega)).mp z)), Nat.max_eq_left (by omega)]
    · have hb' : bt p m = false := by simpa using hb
      rw [if_pos ((holds_0 (by omega)).mpr hb'), if_neg hb]
      exact ⟨rfl, by omega⟩
theorem withAn_bt {S : cSt} {p : Int32} (hn : n ≤ 12) (q : Nat) : ∀ m, m ≤ n → (bt (C_withAncestors_it n o S p m) q = true ↔ (bt p q = true ∨ ∃ k, k < m ∧ bt p k = true ∧ bt (S.2.1 2 k) q = true))
  | 0, _ => ⟨fun h => Or.inl h, fun h => h.elim id (fun ⟨k, h, _⟩ => absurd h (Nat.not_lt_zero _))⟩
  | m + 1, hm => by
    have ih := withAn_bt (S := S) (p := p) hn q m (by omega)
    show bt (C_withAncestors_b n o S p m (C_withAncestors_it n o S p m)) q = true ↔ _
    unfold C_withAncestors_b
    by_cases hb : bt p m = true
    · have hc : ¬ C_holds n o S p m = 0 := fun z => by rw [(holds_0 (by omega)).mp z] at hb; cases hb
      rw [if_neg hc, b_or, Bool.or_eq_true, ih]
      constructor
      · rintro ((h | ⟨k, h1, h2, h3⟩) | h)
        · exact Or.inl h
        · exact Or.inr ⟨k, by omega, h2, h3⟩
        · exact Or.inr ⟨m, by omega, hb, h⟩
      · rintro (h | ⟨k, h1, h2, h3⟩)
        · exact Or.inl (Or.inl h)
        · by_cases e : k = m
          · subst e; exact Or.inr h3
          · exact Or.inl (Or.inr ⟨k, by omega, h2, h3⟩)
    · have hb' : bt p m = false := by simpa using hb
      rw [if_pos ((holds_0 (by omega)).mpr hb'), ih]
      constructor
      · rintro (h | ⟨k, h1, h2, h3⟩)
        · exact Or.inl h
        · exact Or.inr ⟨k, by omega, h2, h3⟩
      · rintro (h | ⟨k, h1, h2, h3⟩)
        · exact Or.inl h
        · by_cases e : k = m
          · subst e; exact absurd h2 hb
          · exact Or.inr ⟨k, by omega, h2, h3⟩
theorem place_ch {S : cSt} {dp : Nat → Nat} {dn : Nat} (hn : n ≤ 12) (hdn : dn ≤ 12) (ho : ∀ i, i < n → o i < n) (hd : ∀ k, k < n → S.2.1 3 k = nI (dp k) ∧ dp k ≤ k) : ∀ m, m ≤ n → ∃ k, k ≤ m ∧ C_placeFor_it n o S (nI dn) m = nI k ∧ (k = 0 ∨ dp (o (k - 1)) ≤ dn) ∧ ∀ i, k ≤ i → i < m → dn < dp (o i)
  | 0, _ => ⟨0, Nat.le_refl 0, rfl, Or.inl rfl, fun i _ h => absurd h (Nat.not_lt_zero _)⟩
  | m + 1, hm => by
    obtain ⟨k, h1, h2, h3, h4⟩ := place_ch hn hdn ho hd m (by omega)
    have hom := ho m (by omega)
    obtain ⟨d1, d2⟩ := hd (o m) hom
    show ∃ k, k ≤ m + 1 ∧ C_placeFor_b n o S (nI dn) m (C_placeFor_it n o S (nI dn) m) = nI k ∧ _
    rw [h2]
    unfold C_placeFor_b
    rw [d1]
    by_cases h : dn < dp (o m)
    · rw [if_pos ((nI_ltI (by omega) (by omega)).mpr h)]
      exact ⟨k, by omega, rfl, h3, fun i hi hi2 => by
        by_cases e : i = m
        · rw [e]; exact h
        · exact h4 i hi (by omega)⟩
    · rw [if_neg (fun z => h ((nI_ltI (by omega) (by omega)).mp z)), nI_1]
      exact ⟨m + 1, Nat.le_refl _, rfl, Or.inr (by show dp (o m) ≤ dn; omega), fun i hi hi2 => by omega⟩
theorem stt_dev {S : cSt} {p : Int32} {dp : Nat → Nat} (hn : n < 12) (hp : lb p n) (hs : stt n o (S.2.1 1) (S.2.1 2) (S.2.1 3) dp) {dn up dl : Int32} : stt (n + 1) (C_dO n (C_dK n o S p) o) ((C_dS n o S p dn up dl).2.1 1) ((C_dS n o S p dn up dl).2.1 2) ((C_dS n o S p dn up dl).2.1 3) (fun i => if i = n then Mx dp p n else dp i) := by
  obtain ⟨s1, s2, s3, s4, s5, s6, s7⟩ := hs
  have hd3 : ∀ k, k < n → S.2.1 3 k = nI (dp k) ∧ dp k ≤ k := fun k hk => ⟨(s3 k hk).1, (s3 k hk).2.1⟩
  obtain ⟨dU, dU2⟩ := depthUnder_Mx (o := o) (S := S) (p := p) (by omega) hd3 n (Nat.le_refl n)
  have dU' : C_depthUnder n o S p = nI (Mx dp p n) := dU
  obtain ⟨k, k1, k2, k3, k4⟩ := place_ch (o := o) (S := S) (dp := dp) (dn := Mx dp p n) (by omega) (by omega) s7 hd3 n (Nat.le_refl n)
  have hk : C_dK n o S p = k := by
    unfold C_dK
    rw [dU']
    show (C_placeFor_it n o S (nI (Mx dp p n)) n).toNatClampNeg = k
    rw [k2]; exact nI_clamp (by omega)
  have hA : ∀ q, bt (C_withAncestors n o S p) q = true ↔ (bt p q = true ∨ ∃ k, k < n ∧ bt p k = true ∧ bt (S.2.1 2 k) q = true) := fun q => withAn_bt (by omega) q n (Nat.le_refl n)
  have below : ∀ i, i < k → dp (o i) ≤ Mx dp p n := fun i hi => by
    rcases k3 with e | e
    · omega
    · by_cases e2 : i = k - 1
      · rw [e2]; exact e
      · have := s4 i (k - 1) (by omega) (by omega)
        unfold ltx at this; omega
  rw [hk]
  have f1 : ∀ q, (C_dS n o S p dn up dl).2.1 1 q = if q = n then p else S.2.1 1 q := fun q => by
    show C_dF n S.2.1 _ 1 q = _; unfold C_dF; by_cases e : q = n <;> simp [e, C_dV]
  have f2 : ∀ q, (C_dS n o S p dn up dl).2.1 2 q = if q = n then C_withAncestors n o S p else S.2.1 2 q := fun q => by
    show C_dF n S.2.1 _ 2 q = _; unfold C_dF; by_cases e : q = n <;> simp [e, C_dV]
  have f3 : ∀ q, (C_dS n o S p dn up dl).2.1 3 q = if q = n then nI (Mx dp p n) else S.2.1 3 q := fun q => by
    show C_dF n S.2.1 _ 3 q = _; unfold C_dF; by_cases e : q = n <;> simp [e, C_dV, dU']
  refine ⟨fun q hq => ?_, fun q hq => ?_, fun q hq => ?_, fun i j hij hj => ?_, fun q hq r => ?_, fun d hd => ?_, fun i hi => ?_⟩
  · rw [f1]
    by_cases e : q = n
    · rw [if_pos e, e]; exact hp
    · rw [if_neg e]; exact s1 q (by omega)
  · rw [f2]
    by_cases e : q = n
    · rw [if_pos e, e]
      intro r hr
      rcases hx : bt (C_withAncestors n o S p) r with _ | _
      · rfl
      · rcases (hA r).mp hx with h | ⟨k, h1, h2, h3⟩
        · rw [hp r hr] at h; cases h
        · rw [s2 k h1 r (by omega)] at h3; cases h3
    · rw [if_neg e]; exact s2 q (by omega)
  · rw [f1, f3]
    by_cases e : q = n
    · subst e
      rw [if_pos rfl, if_pos rfl]
      refine ⟨by simp, by simpa using dU2, ?_⟩
      show (if q = q then Mx dp p q else dp q) = Mx _ p (q + 1)
      rw [if_pos rfl]
      rw [Mx_s, if_neg (by rw [hp q (Nat.le_refl q)]; decide)]
      exact Mx_eq q (fun k hk => by simp [show ¬ k = q by omega])
    · rw [if_neg e, if_neg e]
      have := s3 q (by omega)
      refine ⟨by simp [e]; exact this.1, by simp [e]; exact this.2.1, ?_⟩
      show (if q = n then Mx dp p n else dp q) = Mx _ (S.2.1 1 q) (n + 1)
      rw [if_neg e]
      rw [Mx_s, if_neg (by rw [s1 q (by omega) n (by omega)]; decide), this.2.2]
      exact Mx_eq n (fun k hk => by simp [show ¬ k = n by omega])
  · have ne : ∀ i, i < n → ¬ o i = n := fun i hi => by have := s7 i hi; omega
    unfold C_dO
    by_cases a1 : i < k
    · rw [if_pos a1]
      by_cases a2 : j < k
      · rw [if_pos a2]
        have := s4 i j hij (by omega)
        unfold ltx at this ⊢
        simp only [ne i (by omega), ne j (by omega), if_false]
        exact this
      · rw [if_neg a2]
        by_cases a3 : j = k
        · rw [if_pos a3]
          have h1 := below i a1
          have h2 := s7 i (by omega)
          unfold ltx
          simp only [ne i (by omega), if_false, if_true]
          omega
        · rw [if_neg a3]
          have := s4 i (j - 1) (by omega) (by omega)
          unfold ltx at this ⊢
          simp only [ne i (by omega), ne (j - 1) (by omega), if_false]
          exact this
    · rw [if_neg a1, if_neg (show ¬ j < k by omega), if_neg (show ¬ j = k by omega)]
      by_cases a3 : i = k
      · rw [if_pos a3]
        have h1 := k4 (j - 1) (by omega) (by omega)
        unfold ltx
        simp only [ne (j - 1) (by omega), if_false, if_true]
        omega
      · rw [if_neg a3]
        have := s4 (i - 1) (j - 1) (by omega) (by omega)
        unfold ltx at this ⊢
        simp only [ne (i - 1) (by omega), ne (j - 1) (by omega), if_false]
        exact this
  · rw [f1, f2]
    by_cases e : q = n
    · rw [if_pos e, if_pos e, hA]
      constructor
      · rintro (h | ⟨k, h1, h2, h3⟩)
        · exact Or.inl h
        · exact Or.inr ⟨k, by omega, h2, by rw [f2, if_neg (by omega)]; exact h3⟩
      · rintro (h | ⟨k, h1, h2, h3⟩)
        · exact Or.inl h
        · have := an_lt hp h2
          rw [f2, if_neg (by omega)] at h3
          exact Or.inr ⟨k, this, h2, h3⟩
    · rw [if_neg e, if_neg e, s5 q (by omega)]
      constructor
      · rintro (h | ⟨k, h1, h2, h3⟩)
        · exact Or.inl h
        · exact Or.inr ⟨k, by omega, h2, by rw [f2, if_neg (by omega)]; exact h3⟩
      · rintro (h | ⟨k, h1, h2, h3⟩)
        · exact Or.inl h
        · have := an_lt (s1 q (by omega)) h2
          rw [f2, if_neg (by omega)] at h3
          exact Or.inr ⟨k, by omega, h2, h3⟩
  · by_cases e : d = n
    · refine ⟨k, by omega, ?_⟩
      unfold C_dO
      rw [if_neg (by omega), if_pos rfl, e]
    · obtain ⟨i, hi, ei⟩ := s6 d (by omega)
      by_cases a : i < k
      · exact ⟨i, by omega, by unfold C_dO; rw [if_pos a]; exact ei⟩
      · refine ⟨i + 1, by omega, ?_⟩
        unfold C_dO
        rw [if_neg (by omega), if_neg (by omega)]; exact ei
  · unfold C_dO
    by_cases a1 : i < k
    · rw [if_pos a1]; have := s7 i (by omega); omega
    · rw [if_neg a1]
      by_cases a2 : i = k
      · rw [if_pos a2]; omega
      · rw [if_neg a2]; have := s7 (i - 1) (by omega); omega
theorem crouse_same {m : Nat} {S : cSt} {x y : Int32} : ∀ k, k ≤ 32 → (∀ i, i < k → bt x i = bt y i) → C_rouse_it m o S x k = C_rouse_it m o S y k
  | 0, _, _ => rfl
  | k + 1, hk, h => by
    show C_rouse_b m o x k (C_rouse_it m o S x k) = C_rouse_b m o y k (C_rouse_it m o S y k)
    rw [crouse_same k (by omega) (fun i hi => h i (by omega))]
    unfold C_rouse_b
    by_cases hb : bt x k = false
    · rw [if_pos ((holds_0 (by omega)).mpr hb), if_pos ((holds_0 (by omega)).mpr (by rw [← h k (by omega)]; exact hb))]
    · rw [if_neg (fun z => hb ((holds_0 (by omega)).mp z)), if_neg (fun z => hb (by rw [h k (by omega)]; exact (holds_0 (by omega)).mp z))]
theorem crouse_above {m : Nat} {S : cSt} {x : Int32} : ∀ k i, k ≤ i → ∀ q, (C_rouse_it m o S x k).2.1 q i = S.2.1 q i
  | 0, _, _, _ => rfl
  | k + 1, i, hi, q => by
    rw [← crouse_above (S := S) (x := x) k i (by omega) q]
    show (C_rouse_b m o x k (C_rouse_it m o S x k)).2.1 q i = _
    generalize C_rouse_it m o S x k = Z
    unfold C_rouse_b C_turn
    have e : ¬ i = k := by omega
    split
    · rfl
    · split
      · show up2 Z.2.1 10 k 0 q i = _
        rw [up2_ne e]
      · show up2 (up2 Z.2.1 7 k 2) 10 k 0 q i = _
        rw [up2_ne e, up2_ne e]
theorem up2_id {F : Nat → Nat → Int32} {k i : Nat} {x : Int32} (h : F k i = x) : up2 F k i x = F := by
  funext q j
  rw [up2_ap]
  by_cases e : q = k
  · by_cases e2 : j = i
    · rw [if_pos e, if_pos e2, e, e2, h]
    · rw [if_pos e, if_neg e2, e]
  · rw [if_neg e]
theorem crouse_self {S : cSt} {x : Int32} (hn : n < 12) (hx : lb x n) (h7 : S.2.1 7 n = 2) (h10 : S.2.1 10 n = 0) : C_rouse (n + 1) o S x = C_rouse (n + 1) o S (x ||| ((1 : Int32) <<< (nI n &&& 31))) := by
  show C_rouse_b (n + 1) o x n (C_rouse_it (n + 1) o S x n) = C_rouse_b (n + 1) o (x ||| ((1 : Int32) <<< (nI n &&& 31))) n (C_rouse_it (n + 1) o S (x ||| ((1 : Int32) <<< (nI n &&& 31))) n)
  rw [← crouse_same (o := o) (m := n + 1) (S := S) (x := x) (y := x ||| ((1 : Int32) <<< (nI n &&& 31))) n (by omega) (fun i hi => by rw [b_or, b_bit (by omega) (by omega)]; simp [show ¬ i = n by omega])]
  have a7 := crouse_above (o := o) (m := n + 1) (S := S) (x := x) n n (Nat.le_refl n) 7
  have a10 := crouse_above (o := o) (m := n + 1) (S := S) (x := x) n n (Nat.le_refl n) 10
  generalize C_rouse_it (n + 1) o S x n = Z at a7 a10 ⊢
  unfold C_rouse_b
  rw [if_pos ((holds_0 (by omega)).mpr (hx n (Nat.le_refl n)))]
  have hc : ¬ C_holds (n + 1) o Z (x ||| ((1 : Int32) <<< (nI n &&& 31))) n = 0 := fun z => by
    have z2 := (holds_0 (by omega)).mp z
    rw [b_or, b_bit (by omega) (by omega)] at z2
    simp at z2
  rw [if_neg hc]
  have ht : C_turn (n + 1) o Z n 2 = Z := by unfold C_turn; rw [if_pos (by rw [a7]; exact h7)]
  rw [ht, up2_id (by rw [a10]; exact h10)]
theorem s_device {S : cSt} {T : rSt} (h : Rel n o S T) (p dn up dl : Int32) : (C_device n o S p dn up dl).1 = (R_device n T p dn up dl).1 ∧ Rel (C_device n o S p dn up dl).2.1 (C_device n o S p dn up dl).2.2.1 (C_device n o S p dn up dl).2.2.2 (R_device n T p dn up dl).2 := by
  have h12 := h.1.1
  have lq : ∀ {x : Int32}, ¬ 50 < x → x ≤ 50 := fun {x} q => by rw [Int32.lt_iff_toInt_lt] at q; rw [Int32.le_iff_toInt_le]; omega
  have lq' : ∀ {x : Int32}, 50 < x → ¬ x ≤ 50 := fun {x} q z => by rw [Int32.lt_iff_toInt_lt] at q; rw [Int32.le_iff_toInt_le] at z; omega
  unfold C_device R_device C_areDevices
  simp only [within_lt]
  by_cases q1 : p < 0
  · simp only [if_pos q1, if_true]; exact ⟨trivial, h⟩
  by_cases q2 : ¬ p >>> (nI n &&& 31) = 0
  · simp only [if_neg q1, if_neg q2, if_true]; exact ⟨trivial, h⟩
  have q2 := Classical.not_not.mp q2
  by_cases q3 : dn < 1
  · simp only [if_neg q1, if_pos q2, if_pos q3, if_true, if_neg (show ¬ (1 : Int32) = 0 by decide)]; exact ⟨trivial, h⟩
  by_cases q4 : 20 < dn
  · simp only [if_neg q1, if_pos q2, if_neg q3, if_pos q4, if_true, if_neg (show ¬ (1 : Int32) = 0 by decide)]; exact ⟨trivial, h⟩
  by_cases q5 : up < 1
  · simp only [if_neg q1, if_pos q2, if_neg q3, if_neg q4, if_pos q5, if_true, if_neg (show ¬ (1 : Int32) = 0 by decide)]; exact ⟨trivial, h⟩
  by_cases q6 : 20 < up
  · simp only [if_neg q1, if_pos q2, if_neg q3, if_neg q4, if_neg q5, if_pos q6, if_true, if_neg (show ¬ (1 : Int32) = 0 by decide)]; exact ⟨trivial, h⟩
  by_cases q7 : dl < 0
  · simp only [if_neg q1, if_pos q2, if_neg q3, if_neg q4, if_neg q5, if_neg q6, if_pos q7, if_true, if_neg (show ¬ (1 : Int32) = 0 by decide)]; exact ⟨trivial, h⟩
  by_cases q8 : 50 < dl
  · simp only [if_neg q1, if_pos q2, if_neg q3, if_neg q4, if_neg q5, if_neg q6, if_neg q7, if_pos q8, if_neg (lq' q8), if_true, if_neg (show ¬ (1 : Int32) = 0 by decide)]; exact ⟨trivial, h⟩
  simp only [if_neg q1, if_pos q2, if_neg q3, if_neg q4, if_neg q5, if_neg q6, if_neg q7, if_neg q8, if_pos (lq q8), if_neg (show ¬ (1 : Int32) = 0 by decide)]
  rw [h.2.2.1.1]
  by_cases h0 : ¬ S.1 2 = 0
  · simp only [if_neg h0]; exact ⟨trivial, h⟩
  have h0 := Classical.not_not.mp h0
  simp only [if_pos h0]
  by_cases hn : n = 12
  · have e1 : ¬ nI n < 12 := by rw [hn]; decide
    have e2 : nI n = 12 := by rw [hn]; decide
    simp only [if_neg e1, if_pos e2]; exact ⟨trivial, h⟩
  have hn' : n < 12 := by omega
  have e1 : nI n < 12 := nI_lt (b := 12) hn' (by decide)
  have e2 : ¬ nI n = 12 := fun z => hn ((nI_eq (b := 12) (by omega) (by omega)).mp z)
  simp only [if_pos e1, if_neg e2]
  refine ⟨trivial, ?_⟩
  have hlp := lb_shr (by omega) q2
  obtain ⟨g1, g2, ⟨v12, v15, v16, v17, v18, v19, v20, v21, v22⟩, g4, g5, g6, g7⟩ := h
  obtain ⟨dp, hs⟩ := g1.2.2.2
  have hst := stt_dev (dn := dn) (up := up) (dl := dl) hn' hlp hs
  have fN : ∀ q, (C_dS n o S p dn up dl).2.1 q n = C_dV (nI n) p (C_withAncestors n o S p) (C_depthUnder n o S p) dn up dl q := fun q => by
    show C_dF n S.2.1 _ q n = _; unfold C_dF; rw [if_pos rfl]
  have fO : ∀ q i, ¬ i = n → (C_dS n o S p dn up dl).2.1 q i = S.2.1 q i := fun q i e => by
    show C_dF n S.2.1 _ q i = _; unfold C_dF; rw [if_neg e]
  have hp0 : (∀ i, i < n → ¬ S.2.1 7 i = 0) ∧ S.2.2 = none := by
    rcases g6 with ⟨-, p1, p2⟩ | ⟨e, -⟩ | ⟨e, -⟩ | ⟨e | e, -⟩
    · exact ⟨p1, p2⟩
    · rw [h0] at e; exact absurd e (by decide)
    · rw [h0] at e; exact absurd e (by decide)
    · rw [h0] at e; exact absurd e (by decide)
    · rw [h0] at e; exact absurd e (by decide)
  have hR : Rel (n + 1) (C_dO n (C_dK n o S p) o) (C_dS n o S p dn up dl) (upd (T.1) 0 ((nI n) + 1), up2 (up2 (up2 (up2 (up2 (up2 (up2 (up2 (up2 (T.2) 1 n p) 2 n dn) 3 n up) 4 n dl) 5 n 2) 7 n 0) 8 n 0) 9 n 0) 10 n 0) := by
    refine ⟨⟨by omega, fun i hi => ?_, nI_1 n, _, hst⟩, fun i hi => ?_, ⟨v12, v15, v16, v17, v18, v19, v20, v21, v22⟩, ⟨fun i hi => ?_, fun i hi => ?_, g4.2.2⟩, g5, Or.inl ⟨h0, fun i hi => ?_, hp0.2⟩, fun z => absurd h0 z⟩
    · by_cases e : i = n
      · rw [e, fN]; rfl
      · rw [fO _ _ e]; exact g1.2.1 i (by omega)
    · by_cases e : i = n
      · subst e
        simp only [fN, up2_ap, C_dV]
        simp
      · simp only [fO _ _ e]
        have := g2 i (by omega)
        simp [up2_ap, e]
        exact this
    · by_cases e : i = n
      · rw [e, fN]; exact Or.inr (Or.inr rfl)
      · rw [fO _ _ e]; exact g4.1 i (by omega)
    · by_cases e : i = n
      · rw [e, fN]; show 0 ≤ dl
        rw [Int32.lt_iff_toInt_lt] at q7; rw [Int32.le_iff_toInt_le]; omega
      · rw [fO _ _ e]; exact g4.2.1 i (by omega)
    · by_cases e : i = n
      · rw [e, fN]; show ¬ (2 : Int32) = 0; decide
      · rw [fO _ _ e]; exact hp0.1 i (by omega)
  have hline := line_eq (T := (upd (T.1) 0 ((nI n) + 1), up2 (up2 (up2 (up2 (up2 (up2 (up2 (up2 (up2 (T.2) 1 n p) 2 n dn) 3 n up) 4 n dl) 5 n 2) 7 n 0) 8 n 0) 9 n 0) 10 n 0)) (m := n + 1) hst (by omega) (fun i hi => (hR.2.1 i hi).1) (d := n) (Nat.lt_succ_self n)
  rw [hline, fN]
  show Rel (n + 1) _ (C_rouse (n + 1) _ _ (C_withAncestors n o S p)) (R_rouse (n + 1) _ (C_withAncestors n o S p ||| _)).2
  have hlA : lb (C_withAncestors n o S p) n := by
    have := hst.2.1 n (Nat.lt_succ_self n)
    rw [fN] at this
    exact this
  rw [crouse_self hn' hlA (by rw [fN]; rfl) (by rw [fN]; rfl)]
  exact (rouse_rel (V := S.1) hR h0 _).2
def cI0 : cSt := (upd (fun _ => 0) 12 (-1), fun _ _ => 0, none)
theorem Rel_0 : Rel 0 o cI0 rI0 := by
  refine ⟨⟨by decide, fun i h => absurd h (Nat.not_lt_zero _), rfl, fun _ => 0, ?_⟩, fun i h => absurd h (Nat.not_lt_zero _), ⟨rfl, rfl, rfl, rfl, rfl, rfl, rfl, rfl, rfl⟩, ⟨fun i h => absurd h (Nat.not_lt_zero _), fun i h => absurd h (Nat.not_lt_zero _), by decide⟩, ⟨fun _ => ⟨rfl, rfl⟩, fun j h => ?_⟩, Or.inl ⟨rfl, fun i h => absurd h (Nat.not_lt_zero _), rfl⟩, fun z => absurd rfl z⟩
  · exact ⟨fun i h => absurd h (Nat.not_lt_zero _), fun i h => absurd h (Nat.not_lt_zero _), fun i h => absurd h (Nat.not_lt_zero _), fun i j _ h => absurd h (Nat.not_lt_zero _), fun i h => absurd h (Nat.not_lt_zero _), fun i h => absurd h (Nat.not_lt_zero _), fun i h => absurd h (Nat.not_lt_zero _)⟩
  · exact absurd h (by show ¬ (none : Option Nat) = some j; intro z; cases z)
end S7
