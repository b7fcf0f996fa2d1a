theorem p_O_only {C : ax_O} (h : ax_H) (k : Nat) : ax_B ax_Ms ax_Xs C no_O_only [.int (nI k)] h (ax_is (some (.int (sB k))) h) := by
  refine ax_X.steps 4 ?_
  exact ⟨Or.inl rfl, rfl, rfl⟩
theorem x_O_within {C : ax_O} (h : ax_H) (x lo hi : Int32) : ax_B ax_Ms ax_Xs C no_O_within [.int x, .int lo, .int hi] h (ax_is (some (.int (bI (decide (lo ≤ x) && decide (x ≤ hi))))) h) := by
  refine ax_X.steps 3 (ax_br2 (fun c1 => ?_) (fun c1 => ?_))
  · have c1 : x < lo := c1
    exact foo
  · have c1 : ¬ x < lo := c1
    refine ax_X.steps 3 (ax_br2 (fun c1 => ?_) (fun c1 => ?_))
    · exact foo
    · exact foo
theorem x_H_take {C : ax_O} (f : Nat → Int32) (n : Nat) (t : Nat → Nat → Int32) (u : Int32) (b : Nat) (c m l : Int32) : ax_B ax_Ms ax_Xs C no_H_take [.ref 1, .int c, .int m, .int l] (oH f n t u b) (ax_is none (oH (va_up (va_up (va_up (va_up (va_up f 3 (f 3 + c)) 4 (f 4 + m)) 5 (f 5 ||| l)) 7 (mxI (f 7) (f 3 + c))) 8 (mxI (f 8) (f 4 + m))) n t u b)) := by
  refine ax_X.steps 6 ⟨Or.inl rfl, ?_⟩
  refine ax_X.steps 6 ⟨Or.inl rfl, ?_⟩
  refine ax_X.steps 6 ⟨Or.inl rfl, ?_⟩
  refine ax_X.steps 7 ⟨Or.inl rfl, ?_⟩
  refine ax_X.steps 7 ⟨Or.inl rfl, ?_⟩
  exact ax_X.steps 1 ⟨rfl, rfl⟩
