/-! an answer that comes out of a local: it is 0 or 1 -/
theorem b9_isNext_l17 : ∀ (n : Nat) (v_all v_stepIn v_laid : Nat → Int32) (x1 x2 x3 r : Int32), x2 = 0 ∨ x2 = 1 → f9_isNext_l17 n v_all v_stepIn v_laid x1 x2 x3 = some r → r = 0 ∨ r = 1 := by
  intro n
  induction n with
  | zero =>
    intro v_all v_stepIn v_laid x1 x2 x3 r hx h
    cases (show (none : Option Int32) = some r from h)
  | succ n ih =>
    intro v_all v_stepIn v_laid x1 x2 x3 r hx h
    rw [f9_isNext_l17_s] at h
    by_cases c1 : x1 ≤ x3
    · rw [if_pos c1] at h
      cases h
      exact hx
    · rw [if_neg c1] at h
      by_cases c2 : x2 = 0
      · rw [if_pos c2] at h
        cases h
        exact hx
      · rw [if_neg c2] at h
        refine kb_bind h (fun v hv h => ?_)
        by_cases c3 : v = 0
        · rw [if_pos c3] at h
          refine kb_bind h (fun v5 _ h => ?_)
          refine kb_bind h (fun v6 _ h => ?_)
          refine kb_bind h (fun v7 _ h => ?_)
          refine kb_bind h (fun v8 _ h => ?_)
          refine kb_bind h (fun q9 _ h => ?_)
          by_cases c4 : q9 = 0
          · rw [if_pos c4] at h
            exact ih v_all v_stepIn v_laid x1 1 (x3 + 1) r (Or.inr rfl) h
          · rw [if_neg c4] at h
            exact ih v_all v_stepIn v_laid x1 0 (x3 + 1) r (Or.inl rfl) h
        · rw [if_neg c3] at h
          exact ih v_all v_stepIn v_laid x1 1 (x3 + 1) r (Or.inr rfl) h
theorem b9_isNext {v_all v_stepIn v_laid : Nat → Int32} {x1 r : Int32} (h : f9_isNext v_all v_stepIn v_laid x1 = some r) : narrow .boolean (.int r) = .int r := by
  have h2 : r = 0 ∨ r = 1 := by
    unfold f9_isNext at h
    refine kb_bind h (fun v hv h => ?_)
    by_cases c1 : v = 0
    · rw [if_pos c1] at h
      exact b9_isNext_l17 _ _ _ _ _ _ _ _ (Or.inr rfl) h
    · rw [if_neg c1] at h
      exact b9_isNext_l17 _ _ _ _ _ _ _ _ (Or.inl rfl) h
  rcases h2 with rfl | rfl
  · rfl
  · rfl
