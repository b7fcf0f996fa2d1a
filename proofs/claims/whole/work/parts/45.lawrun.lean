/-! The law: the start of both worlds, the loop, the whole. -/
theorem held_eq {x lo hi : Int32} (h : lo ≤ hi) : mxI lo (mnI x hi) = heldI x lo hi := by
  rw [Int32.le_iff_toInt_le] at h
  unfold mxI mnI heldI
  by_cases h1 : hi < x
  · rw [if_pos h1]
    rw [Int32.lt_iff_toInt_lt] at h1
    rw [if_neg (fun q : x < lo => by rw [Int32.lt_iff_toInt_lt] at q; omega)]
    by_cases h2 : lo < hi
    · rw [if_pos h2]
    · rw [if_neg h2]
      rw [Int32.lt_iff_toInt_lt] at h2
      exact Int32.toInt_inj.mp (by omega)
  · rw [if_neg h1]
    by_cases h2 : lo < x
    · rw [if_pos h2]
      rw [Int32.lt_iff_toInt_lt] at h2
      rw [if_neg (fun q : x < lo => by rw [Int32.lt_iff_toInt_lt] at q; omega)]
    · rw [if_neg h2]
      by_cases h3 : x < lo
      · rw [if_pos h3]
      · rw [if_neg h3]
        rw [Int32.lt_iff_toInt_lt] at h2 h3
        exact Int32.toInt_inj.mp (by omega)
theorem held_nI {x lo hi : Int32} {N : Nat} (hN : hi.toInt = N) (h0 : 0 ≤ lo) (h : lo ≤ hi) : ∃ k, k ≤ N ∧ heldI x lo hi = nI k := by
  rw [Int32.le_iff_toInt_le] at h h0
  unfold heldI
  have key : ∀ z : Int32, lo.toInt ≤ z.toInt → z.toInt ≤ hi.toInt → ∃ k, k ≤ N ∧ z = nI k := fun z a1 a2 => nI_of2 hN (fun q => by
    rw [Int32.lt_iff_toInt_lt] at q
    have h9 : (0 : Int32).toInt = 0 := by decide
    omega) (by rw [Int32.le_iff_toInt_le]; exact a2)
  by_cases h1 : x < lo
  · rw [if_pos h1]; exact key lo (Int.le_refl _) h
  · rw [if_neg h1]
    by_cases h2 : hi < x
    · rw [if_pos h2]; exact key hi h (Int.le_refl _)
    · rw [if_neg h2]
      rw [Int32.lt_iff_toInt_lt] at h1 h2
      exact key x (by omega) (by omega)
theorem RH_start (x y : Int32) : RH (oH (f0 (mxI 1 (mnI x 16)) (mxI 0 (mnI y 1000000))) 0 (fun _ _ => 0) 0 0) (mH (f0 (heldI x 1 16) (heldI y 0 1000000)) 0 0 (fun _ _ => 0) 0) := by
  rw [held_eq (by decide), held_eq (by decide)]
  obtain ⟨C, hC, eC⟩ := held_nI (x := x) (lo := 1) (hi := 16) (N := 16) (by decide) (by decide) (by decide)
  obtain ⟨M, hM, eM⟩ := held_nI (x := y) (lo := 0) (hi := 1000000) (N := 1000000) (by decide) (by decide) (by decide)
  rw [eC, eM]
  refine ⟨f0 (nI C) (nI M), 0, fun _ _ => 0, fun _ _ => 0, 0, 0, f0 (nI C) (nI M), 0, fun _ _ => 0, rfl, rfl, by omega, by omega, by omega, Or.inl rfl, rfl, ⟨C, M, rfl, rfl, rfl, rfl, rfl, rfl, rfl, hC, hM⟩, ⟨rfl, rfl, rfl, rfl, rfl, rfl, rfl, rfl, rfl, rfl, rfl⟩, rfl, rfl, ⟨fun _ => 0, fun _ => 0, fun _ => 0, fun _ => 0, fun a h => absurd h (Nat.not_lt_zero a), fun a h => absurd h (Nat.not_lt_zero a), fun q _ => ⟨0, by omega, rfl⟩, fun a h => absurd h (Nat.not_lt_zero a)⟩, fun a _ => ⟨rfl, rfl, rfl, rfl⟩, fun a h => absurd h (Nat.not_lt_zero a), fun a _ _ => badB_n (show ¬ (0 : Int32) = 2 by decide) (show ¬ (0 : Int32) = 5 by decide)⟩
theorem in_O (x y : Int32) : ax_D ax_Ms ax_Xs 7 no_O_init [.ref 0, .int x, .int y] [.inr (0, [.null, .null, .null, .null])] (ax_is none (oH (f0 (mxI 1 (mnI x 16)) (mxI 0 (mnI y 1000000))) 0 (fun _ _ => 0) 0 0)) := p_O_init (C := ax_D ax_Ms ax_Xs 6) (D_O_nearest 5) (p_H_init (C := ax_D ax_Ms ax_Xs 5)) (p_A_init (C := ax_D ax_Ms ax_Xs 5)) (p_U_init (C := ax_D ax_Ms ax_Xs 5)) (p_N_init (C := ax_D ax_Ms ax_Xs 5)) x y
theorem in_M (x y : Int32) : ax_D ax_Ms ax_Xs 7 no_M_init [.ref 0, .int x, .int y] [.inr (5, fv_M)] (ax_is none (mH (f0 (heldI x 1 16) (heldI y 0 1000000)) 0 0 (fun _ _ => 0) 0)) := p_M_init (C := ax_D ax_Ms ax_Xs 6) (D_M_held 5) x y
