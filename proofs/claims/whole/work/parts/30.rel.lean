/-! what ties the class's state to the reference's -/
/-- the greatest of dp k + 1 over the bits k < m of x -/
def Mx (dp : Nat → Nat) (x : Int32) : Nat → Nat
  | 0 => 0
  | k + 1 => if bt x k = true then max (Mx dp x k) (dp k + 1) else Mx dp x k
def ltx (dp : Nat → Nat) (x y : Nat) : Prop := dp x < dp y ∨ (dp x = dp y ∧ x < y)
def stt (n : Nat) (o : Nat → Nat) (Pa An De : Nat → Int32) (dp : Nat → Nat) : Prop :=
  (∀ p, p < n → lb (Pa p) p) ∧ (∀ p, p < n → lb (An p) p) ∧ (∀ p, p < n → De p = nI (dp p) ∧ dp p ≤ p ∧ dp p = Mx dp (Pa p) n) ∧ (∀ i j, i < j → j < n → ltx dp (o i) (o j)) ∧ (∀ p, p < n → ∀ q, bt (An p) q = true ↔ (bt (Pa p) q = true ∨ ∃ k, k < n ∧ bt (Pa p) k = true ∧ bt (An k) q = true)) ∧ (∀ d, d < n → ∃ i, i < n ∧ o i = d) ∧ (∀ i, i < n → o i < n)
def sD (n : Nat) (S : cSt) (T : rSt) : Prop := ∀ i, i < n → T.2 1 i = S.2.1 1 i ∧ T.2 2 i = S.2.1 4 i ∧ T.2 3 i = S.2.1 5 i ∧ T.2 4 i = S.2.1 6 i ∧ T.2 5 i = S.2.1 7 i ∧ T.2 7 i = S.2.1 9 i ∧ T.2 8 i = S.2.1 10 i ∧ T.2 9 i = S.2.1 11 i ∧ T.2 10 i = S.2.1 12 i
def sV (S : cSt) (T : rSt) : Prop := T.1 12 = S.1 2 ∧ T.1 15 = S.1 12 ∧ T.1 16 = S.1 11 ∧ T.1 17 = S.1 5 ∧ T.1 18 = S.1 6 ∧ T.1 19 = S.1 7 ∧ T.1 20 = S.1 8 ∧ T.1 21 = S.1 9 ∧ T.1 22 = S.1 10
def sU (S : cSt) (T : rSt) : Prop := (S.2.2 = none → T.1 13 = -1 ∧ S.1 4 = 0) ∧ ∀ j, S.2.2 = some j → T.1 13 = nI j ∧ T.1 14 = S.1 4
def dyn (n : Nat) (S : cSt) : Prop := (∀ i, i < n → S.2.1 7 i = 0 ∨ S.2.1 7 i = 1 ∨ S.2.1 7 i = 2) ∧ (∀ i, i < n → 0 ≤ S.2.1 6 i) ∧ 0 ≤ S.1 6
def pha (n : Nat) (S : cSt) : Prop := (S.1 2 = 0 ∧ (∀ i, i < n → ¬ S.2.1 7 i = 0) ∧ S.2.2 = none) ∨ (S.1 2 = 2 ∧ S.2.2 = none) ∨ (S.1 2 = 1 ∧ ∃ j, j < n ∧ S.2.2 = some j ∧ S.2.1 7 j = 2) ∨ ((S.1 2 = 3 ∨ S.1 2 = 4) ∧ ∃ j, j < n ∧ S.2.2 = some j ∧ S.2.1 7 j = 0)
def mnd (n : Nat) (S : cSt) (T : rSt) : Prop := ¬ S.1 2 = 0 → ∀ i, i < n → T.2 6 i = S.2.1 8 i ∧ (S.2.1 8 i = 1 ∨ S.2.1 8 i = 2)
def fixd (n : Nat) (o : Nat → Nat) (S : cSt) (T : rSt) : Prop := n ≤ 12 ∧ (∀ i, i < n → S.2.1 0 i = nI i) ∧ T.1 0 = nI n ∧ ∃ dp, stt n o (S.2.1 1) (S.2.1 2) (S.2.1 3) dp
def Rel (n : Nat) (o : Nat → Nat) (S : cSt) (T : rSt) : Prop := fixd n o S T ∧ sD n S T ∧ sV S T ∧ dyn n S ∧ sU S T ∧ pha n S ∧ mnd n S T
theorem Rel.cok {n : Nat} {o : Nat → Nat} {S : cSt} {T : rSt} (h : Rel n o S T) : cOk n o S := by
  obtain ⟨⟨h1, h2, h3, dp, h4⟩, -, -, -, -, hp, -⟩ := h
  refine ⟨h1, h4.2.2.2.2.2.2, h2, fun i hi => ?_⟩
  rcases hp with ⟨-, -, e⟩ | ⟨-, e⟩ | ⟨-, j, hj, e, -⟩ | ⟨-, j, hj, e, -⟩
  · rw [e] at hi; cases hi
  · rw [e] at hi; cases hi
  · rw [e] at hi; cases hi; exact hj
  · rw [e] at hi; cases hi; exact hj
theorem Rel.rok {n : Nat} {o : Nat → Nat} {S : cSt} {T : rSt} (h : Rel n o S T) : rOk n T := by
  obtain ⟨⟨h1, h2, h3, dp, h4⟩, hd, -⟩ := h
  exact ⟨h3, h1, fun p hp => by rw [(hd p hp).1]; exact h4.1 p hp⟩
theorem Rel.rdue {n : Nat} {o : Nat → Nat} {S : cSt} {T : rSt} (h : Rel n o S T) : rDue n T := by
  obtain ⟨-, -, hv, -, hu, hp, -⟩ := h
  unfold rDue
  rw [hv.1]
  rcases hp with ⟨e, -⟩ | ⟨e, -⟩ | ⟨-, j, hj, e, -⟩ | ⟨-, j, hj, e, -⟩
  · exact Or.inl e
  · exact Or.inr (Or.inl e)
  · exact Or.inr (Or.inr ⟨j, hj, (hu.2 j e).1⟩)
  · exact Or.inr (Or.inr ⟨j, hj, (hu.2 j e).1⟩)
