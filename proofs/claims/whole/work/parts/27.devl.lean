/-! device(): the worlds between its calls -/
def dA2 (cO : ClassId) (h ad : Nat → Nat) (n : Nat) (o : Nat → Nat) : va_W := if n = 0 then [] else [(h 4, ocell cO (cap n) (cR2 ad n o))]
def dR1 (cO : ClassId) (h ad : Nat → Nat) (md : Nat → Int32) (n : Nat) (o : Nat → Nat) (S : cSt) (d : Nat) (dev : List Value) : va_W := (h 0, .inr (2, cF h ad S)) :: (h 2, lcell (md 2) (h 4) n) :: (cDv ad n S.2.1 ++ (d, dcell dev) :: dA2 cO h ad n o)
def dR2 (cO : ClassId) (h ad : Nat → Nat) (md : Nat → Int32) (n : Nat) (S : cSt) (d : Nat) (dev : List Value) (a1 : Nat) (f1 : Nat → Option Nat) : va_W := (h 0, .inr (2, cF h ad S)) :: (h 1, lcell (md 1 + 1) a1 (n + 1)) :: (cDv ad n S.2.1 ++ (d, dcell dev) :: [(a1, ocell cO (cap (n + 1)) f1)])
section DV
variable {cO : ClassId} {h ad : Nat → Nat} {md : Nat → Int32} {n : Nat} {o : Nat → Nat} {S : cSt} {d a1 a2 : Nat} {dev : List Value} {f1 f2 : Nat → Option Nat}
theorem cDv_L {F : Nat → Nat → Int32} : (cDv ad n F).map (fun q => q.1) = (List.range n).map ad := by simp [cDv]
theorem dv_m1 : ∀ x ∈ ((h 1, lcell (md 1) (h 3) n) :: lT cO (dR1 cO h ad md n o S d dev) (h 3) n (cR1 ad n) : va_W), x ∈ cW cO h ad md n o S ++ [(d, dcell dev)] := by
  intro x hx
  by_cases h0 : n = 0
  · simp only [lT, dR1, dA2, cW, cX, cAr, h0, if_true, List.mem_cons, List.mem_append, List.not_mem_nil, or_false] at hx ⊢
    rcases hx with e | e | e | e | e
    · exact Or.inl (Or.inl (Or.inr (Or.inl e)))
    · exact Or.inl (Or.inl (Or.inl e))
    · exact Or.inl (Or.inl (Or.inr (Or.inr e)))
    · exact Or.inl (Or.inr e)
    · exact Or.inr e
  · simp only [lT, dR1, dA2, cW, cX, cAr, h0, if_false, List.mem_cons, List.mem_append, List.not_mem_nil, or_false] at hx ⊢
    rcases hx with e | (e | e | e | e | e) | e
    · exact Or.inl (Or.inl (Or.inr (Or.inl e)))
    · exact Or.inl (Or.inl (Or.inl e))
    · exact Or.inl (Or.inl (Or.inr (Or.inr e)))
    · exact Or.inl (Or.inr (Or.inl e))
    · exact Or.inr e
    · exact Or.inl (Or.inr (Or.inr (Or.inr e)))
    · exact Or.inl (Or.inr (Or.inr (Or.inl e)))
theorem dv_nd1 (ha : (cL h ad n).Nodup) (hd : d ∉ cL h ad n) : (((h 1, lcell (md 1) (h 3) n) :: lT cO (dR1 cO h ad md n o S d dev) (h 3) n (cR1 ad n) : va_W).map (fun q => q.1)).Nodup := by
  rw [List.nodup_iff_count] at ha ⊢
  intro x
  have h1 := ha x
  have h2 : List.count d (cL h ad n) = 0 := List.count_eq_zero.mpr hd
  by_cases h0 : n = 0
  · simp only [lT, dR1, dA2, cL, h0, if_true, List.map_cons, List.map_append, List.map_nil, cDv_L, List.count_cons, List.count_append, List.count_nil] at h1 h2 ⊢
    by_cases hx : x = d
    · subst hx; simp only [beq_self_eq_true, if_true] at *; omega
    · simp only [beq_eq_false_iff_ne.mpr (fun z => hx z.symm : d ≠ x)]; simp only [Bool.false_eq_true, if_false]; omega
  · simp only [lT, dR1, dA2, cL, h0, if_false, List.map_cons, List.map_append, List.map_nil, cDv_L, List.count_cons, List.count_append, List.count_nil] at h1 h2 ⊢
    by_cases hx : x = d
    · subst hx; simp only [beq_self_eq_true, if_true] at *; omega
    · simp only [beq_eq_false_iff_ne.mpr (fun z => hx z.symm : d ≠ x)]; simp only [Bool.false_eq_true, if_false]; omega
theorem dv_m2 : ∀ x ∈ ((h 2, lcell (md 2) (h 4) n) :: lT cO (dR2 cO h ad md n S d dev a1 f1) (h 4) n (cR2 ad n o) : va_W), x ∈ ((h 1, lcell (md 1 + 1) a1 (n + 1)) :: (dR1 cO h ad md n o S d dev ++ [(a1, ocell cO (cap (n + 1)) f1)]) : va_W) := by
  intro x hx
  by_cases h0 : n = 0
  · simp only [lT, dR1, dR2, dA2, h0, if_true, List.mem_cons, List.mem_append, List.not_mem_nil, or_false] at hx ⊢
    rcases hx with e | e | e | e | e | e
    · exact Or.inr (Or.inl (Or.inr (Or.inl e)))
    · exact Or.inr (Or.inl (Or.inl e))
    · exact Or.inl e
    · exact Or.inr (Or.inl (Or.inr (Or.inr (Or.inl e))))
    · exact Or.inr (Or.inl (Or.inr (Or.inr (Or.inr e))))
    · exact Or.inr (Or.inr e)
  · simp only [lT, dR1, dR2, dA2, h0, if_false, List.mem_cons, List.mem_append, List.not_mem_nil, or_false] at hx ⊢
    rcases hx with e | (e | e | e | e | e) | e
    · exact Or.inr (Or.inl (Or.inr (Or.inl e)))
    · exact Or.inr (Or.inl (Or.inl e))
    · exact Or.inl e
    · exact Or.inr (Or.inl (Or.inr (Or.inr (Or.inl e))))
    · exact Or.inr (Or.inl (Or.inr (Or.inr (Or.inr (Or.inl e)))))
    · exact Or.inr (Or.inr e)
    · exact Or.inr (Or.inl (Or.inr (Or.inr (Or.inr (Or.inr e)))))
theorem dv_nd2 (ha : (cL h ad n).Nodup) (hd : d ∉ cL h ad n) (h1 : (¬ n = 0 ∧ a1 = h 3) ∨ (a1 ∉ cL h ad n ∧ ¬ a1 = d)) : (((h 2, lcell (md 2) (h 4) n) :: lT cO (dR2 cO h ad md n S d dev a1 f1) (h 4) n (cR2 ad n o) : va_W).map (fun q => q.1)).Nodup := by
  rw [List.nodup_iff_count] at ha ⊢
  intro x
  have g1 := ha x
  have g2 : List.count d (cL h ad n) = 0 := List.count_eq_zero.mpr hd
  by_cases h0 : n = 0
  · have h1 : a1 ∉ cL h ad n ∧ ¬ a1 = d := h1.elim (fun z => absurd h0 z.1) id
    have g3 : List.count a1 (cL h ad n) = 0 := List.count_eq_zero.mpr h1.1
    simp only [lT, dR2, cL, h0, if_true, List.map_cons, List.map_append, List.map_nil, cDv_L, List.count_cons, List.count_append, List.count_nil] at g1 g2 g3 ⊢
    by_cases hx : x = d
    · subst hx
      simp only [beq_self_eq_true, if_true, beq_eq_false_iff_ne.mpr (fun z => h1.2 z : a1 ≠ x), Bool.false_eq_true, if_false] at *; omega
    · by_cases hy : x = a1
      · subst hy
        simp only [beq_self_eq_true, if_true, beq_eq_false_iff_ne.mpr (fun z => hx z.symm : d ≠ x), Bool.false_eq_true, if_false] at *; omega
      · simp only [beq_eq_false_iff_ne.mpr (fun z => hx z.symm : d ≠ x), beq_eq_false_iff_ne.mpr (fun z => hy z.symm : a1 ≠ x), Bool.false_eq_true, if_false]; omega
  · rcases h1 with ⟨-, rfl⟩ | h1
    · simp only [lT, dR2, cL, h0, if_false, List.map_cons, List.map_append, List.map_nil, cDv_L, List.count_cons, List.count_append, List.count_nil] at g1 g2 ⊢
      by_cases hx : x = d
      · subst hx; simp only [beq_self_eq_true, if_true] at *; omega
      · simp only [beq_eq_false_iff_ne.mpr (fun z => hx z.symm : d ≠ x), Bool.false_eq_true, if_false]; omega
    · have g3 : List.count a1 (cL h ad n) = 0 := List.count_eq_zero.mpr h1.1
      simp only [lT, dR2, cL, h0, if_false, List.map_cons, List.map_append, List.map_nil, cDv_L, List.count_cons, List.count_append, List.count_nil] at g1 g2 g3 ⊢
      by_cases hx : x = d
      · subst hx
        simp only [beq_self_eq_true, if_true, beq_eq_false_iff_ne.mpr (fun z => h1.2 z : a1 ≠ x), Bool.false_eq_true, if_false] at *; omega
      · by_cases hy : x = a1
        · subst hy
          simp only [beq_self_eq_true, if_true, beq_eq_false_iff_ne.mpr (fun z => hx z.symm : d ≠ x), Bool.false_eq_true, if_false] at *; omega
        · simp only [beq_eq_false_iff_ne.mpr (fun z => hx z.symm : d ≠ x), beq_eq_false_iff_ne.mpr (fun z => hy z.symm : a1 ≠ x), Bool.false_eq_true, if_false]; omega
/-- the new addresses -/
def dH (h : Nat → Nat) (a1 a2 : Nat) : Nat → Nat := va_up (va_up h 3 a1) 4 a2
def dM (md : Nat → Int32) : Nat → Int32 := va_up (va_up md 1 (md 1 + 1)) 2 (md 2 + 1)
theorem dL : cL (dH h a1 a2) (va_up ad n d) (n + 1) = [h 0, h 1, h 2] ++ (((List.range n).map ad ++ [d]) ++ [a1, a2]) := by
  unfold cL
  rw [if_neg (by omega), List.range_succ, List.map_append]
  have e : (List.range n).map (va_up ad n d) = (List.range n).map ad := List.map_congr_left (fun i hi => va_up_ne _ _ (by have := List.mem_range.mp hi; omega))
  rw [e]
  simp [dH, va_up]
theorem dv_nd3 (ha : (cL h ad n).Nodup) (hd : d ∉ cL h ad n) (h1 : (¬ n = 0 ∧ a1 = h 3) ∨ (a1 ∉ cL h ad n ∧ ¬ a1 = d)) (h2 : (¬ n = 0 ∧ a2 = h 4) ∨ (a2 ∉ cL h ad n ∧ ¬ a2 = d ∧ ¬ a2 = a1)) : (cL (dH h a1 a2) (va_up ad n d) (n + 1)).Nodup := by
  rw [dL]
  rw [List.nodup_iff_count] at ha ⊢
  intro x
  have g1 := ha x
  have gd := ha d
  have g2 : List.count d (cL h ad n) = 0 := List.count_eq_zero.mpr hd
  have k1 : (¬ n = 0 ∧ a1 = h 3) ∨ (List.count a1 (cL h ad n) = 0 ∧ ¬ a1 = d) := h1.elim Or.inl (fun z => Or.inr ⟨List.count_eq_zero.mpr z.1, z.2⟩)
  have k2 : (¬ n = 0 ∧ a2 = h 4) ∨ (List.count a2 (cL h ad n) = 0 ∧ ¬ a2 = d ∧ ¬ a2 = a1) := h2.elim Or.inl (fun z => Or.inr ⟨List.count_eq_zero.mpr z.1, z.2⟩)
  have e : ∀ a : Nat, (if a == x then 1 else 0) = if a = x then (1 : Nat) else 0 := fun a => by by_cases q : a = x <;> simp [q]
  by_cases h0 : n = 0
  · simp only [cL, h0, if_true, List.count_cons, List.count_append, List.count_nil] at g1 g2 k1 k2 ⊢
    have k1 : _ := k1.elim (fun z => absurd trivial z.1) id
    have k2 : _ := k2.elim (fun z => absurd trivial z.1) id
    obtain ⟨k1, k1'⟩ := k1
    obtain ⟨k2, k2', k2''⟩ := k2
    by_cases x1 : x = d
    · subst x1
      simp only [beq_self_eq_true, if_true, beq_eq_false_iff_ne.mpr (k1' : a1 ≠ x), beq_eq_false_iff_ne.mpr (k2' : a2 ≠ x), Bool.false_eq_true, if_false] at *; omega
    · by_cases x2 : x = a1
      · subst x2
        simp only [beq_self_eq_true, if_true, beq_eq_false_iff_ne.mpr (fun z => x1 z.symm : d ≠ x), beq_eq_false_iff_ne.mpr (k2'' : a2 ≠ x), Bool.false_eq_true, if_false] at *; omega
      · by_cases x3 : x = a2
        · subst x3
          simp only [beq_self_eq_true, if_true, beq_eq_false_iff_ne.mpr (fun z => x1 z.symm : d ≠ x), beq_eq_false_iff_ne.mpr (fun z => x2 z.symm : a1 ≠ x), Bool.false_eq_true, if_false] at *; omega
        · simp only [beq_eq_false_iff_ne.mpr (fun z => x1 z.symm : d ≠ x), beq_eq_false_iff_ne.mpr (fun z => x2 z.symm : a1 ≠ x), beq_eq_false_iff_ne.mpr (fun z => x3 z.symm : a2 ≠ x), Bool.false_eq_true, if_false]; omega
  · have a34 : ¬ h 3 = h 4 := fun z => by
      have := ha (h 4)
      simp only [cL, h0, if_false, List.count_cons, List.count_append, List.count_nil, z, beq_self_eq_true, if_true] at this
      omega
    have q3 := ha (h 3)
    have q4 := ha (h 4)
    simp only [cL, h0, if_false, List.count_cons, List.count_append, List.count_nil] at g1 g2 k1 k2 q3 q4 ⊢
    simp only [beq_self_eq_true, if_true] at q3 q4
    by_cases x1 : x = d
    · subst x1
      have n1 : a1 ≠ x := fun z => by rcases k1 with k | k; (· rw [← z, k.2] at g2; simp only [beq_self_eq_true, if_true] at g2; omega); (· exact k.2 z)
      have n2 : a2 ≠ x := fun z => by rcases k2 with k | k; (· rw [← z, k.2] at g2; simp only [beq_self_eq_true, if_true] at g2; omega); (· exact k.2.1 z)
      simp only [beq_self_eq_true, if_true, beq_eq_false_iff_ne.mpr n1, beq_eq_false_iff_ne.mpr n2, Bool.false_eq_true, if_false]
      omega
    · simp only [beq_eq_false_iff_ne.mpr (fun z => x1 z.symm : d ≠ x), Bool.false_eq_true, if_false]
      rcases k1 with ⟨-, rfl⟩ | ⟨k1, k1'⟩ <;> rcases k2 with ⟨-, rfl⟩ | ⟨k2, k2', k2''⟩
      · omega
      · by_cases x2 : x = a2
        · subst x2; simp only [beq_self_eq_true, if_true] at *; omega
        · simp only [beq_eq_false_iff_ne.mpr (fun z => x2 z.symm : a2 ≠ x), Bool.false_eq_true, if_false]; omega
      · by_cases x2 : x = a1
        · subst x2; simp only [beq_self_eq_true, if_true] at *; omega
        · simp only [beq_eq_false_iff_ne.mpr (fun z => x2 z.symm : a1 ≠ x), Bool.false_eq_true, if_false]; omega
      · by_cases x2 : x = a1
        · subst x2; simp only [beq_self_eq_true, if_true, beq_eq_false_iff_ne.mpr (k2'' : a2 ≠ x), Bool.false_eq_true, if_false] at *; omega
        · by_cases x3 : x = a2
          · subst x3; simp only [beq_self_eq_true, if_true, beq_eq_false_iff_ne.mpr (fun z => x2 z.symm : a1 ≠ x), Bool.false_eq_true, if_false] at *; omega
          · simp only [beq_eq_false_iff_ne.mpr (fun z => x2 z.symm : a1 ≠ x), beq_eq_false_iff_ne.mpr (fun z => x3 z.symm : a2 ≠ x), Bool.false_eq_true, if_false]; omega
theorem dv_cF (hok : cOk n o S) {S1 : cSt} (h1 : S1.1 = S.1) (h2 : S1.2.2 = S.2.2) : cF (dH h a1 a2) (va_up ad n d) S1 = cF h ad S := by
  have e : Option.map (va_up ad n d) S1.2.2 = Option.map ad S.2.2 := by
    rw [h2]
    rcases hq : S.2.2 with _ | i
    · rfl
    · have := hok.2.2.2 i hq
      simp only [Option.map_some]
      rw [va_up_ne _ _ (by omega)]
  unfold cF
  rw [e, h1]
  rfl
theorem dv_m3 {p dn up dl : Int32} {k : Nat} (hok : cOk n o S) (hk : k ≤ n) (hdev : dev = cD (C_dS n o S p dn up dl).2.1 n) (e1 : f1 = va_up (cR1 ad n) n (some d)) (e2 : f2 = va_up (va_cpy (cR2 ad n o) (cR2 ad n o) k (k + 1) (n - k)) k (some d)) : ∀ x ∈ cW cO (dH h a1 a2) (va_up ad n d) (dM md) (n + 1) (C_dO n k o) (C_dS n o S p dn up dl), x ∈ ((h 2, lcell (md 2 + 1) a2 (n + 1)) :: (dR2 cO h ad md n S d dev a1 f1 ++ [(a2, ocell cO (cap (n + 1)) f2)]) : va_W) := by
  intro x hx
  have e1 : f1 = cR1 (va_up ad n d) (n + 1) := e1.trans C_dR1
  have e2 : f2 = cR2 (va_up ad n d) (n + 1) (C_dO n k o) := e2.trans (C_dR2 hk hok.2.1)
  subst e1
  subst e2
  subst hdev
  unfold cW cX cAr at hx
  rw [dv_cF (S1 := C_dS n o S p dn up dl) hok rfl rfl, if_neg (by omega)] at hx
  have hdv : cDv (va_up ad n d) (n + 1) (C_dS n o S p dn up dl).2.1 = cDv ad n S.2.1 ++ [(d, dcell (cD (C_dS n o S p dn up dl).2.1 n))] := C_dDv
  rw [hdv] at hx
  simp only [dR2, List.mem_cons, List.mem_append, List.not_mem_nil, or_false] at hx ⊢
  rcases hx with (e | e | e) | (e | e) | e | e
  · exact Or.inr (Or.inl (Or.inl e))
  · exact Or.inr (Or.inl (Or.inr (Or.inl e)))
  · exact Or.inl e
  · exact Or.inr (Or.inl (Or.inr (Or.inr (Or.inl e))))
  · exact Or.inr (Or.inl (Or.inr (Or.inr (Or.inr (Or.inl e)))))
  · exact Or.inr (Or.inl (Or.inr (Or.inr (Or.inr (Or.inr e)))))
  · exact Or.inr (Or.inr e)
end DV
