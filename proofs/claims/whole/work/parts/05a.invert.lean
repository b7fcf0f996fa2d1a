/-! The small machine against the kit's rows, 3: what an instruction's predicate says, taken apart. -/
theorem ax_bin_inv {f : Int32 → Int32 → Int32} {S : List Value} {k : List Value → Prop} (h : ax_bin f S k) : ∃ x y r, S = .int y :: .int x :: r ∧ k (.int (f x y) :: r) := by
  rcases S with _ | ⟨v1, _ | ⟨v2, r⟩⟩
  · exact False.elim h
  · cases v1 <;> exact False.elim h
  · cases v1 <;> cases v2 <;> first | exact ⟨_, _, _, rfl, h⟩ | exact False.elim h
theorem ax_ldi_inv {L : ax_L} {i : Nat} {k : Value → Prop} (h : ax_ldi L i k) : ∃ x, ax_nth L i = some (some (.int x)) ∧ k (.int x) := by
  unfold ax_ldi at h
  rcases e : ax_nth L i with _ | _ | v
  · rw [e] at h; exact False.elim h
  · rw [e] at h; exact False.elim h
  · rw [e] at h
    cases v <;> first | exact ⟨_, rfl, h⟩ | exact False.elim h
theorem ax_lda_inv {L : ax_L} {i : Nat} {k : Value → Prop} (h : ax_lda L i k) : (∃ q, ax_nth L i = some (some (.ref q)) ∧ k (.ref q)) ∨ (ax_nth L i = some (some .null) ∧ k .null) := by
  unfold ax_lda at h
  rcases e : ax_nth L i with _ | _ | v
  · rw [e] at h; exact False.elim h
  · rw [e] at h; exact False.elim h
  · rw [e] at h
    cases v <;> first | exact Or.inl ⟨_, rfl, h⟩ | exact Or.inr ⟨rfl, h⟩ | exact False.elim h
theorem ax_sti_inv {S : List Value} {k : Value → List Value → Prop} (h : ax_sti S k) : ∃ x r, S = .int x :: r ∧ k (.int x) r := by
  rcases S with _ | ⟨v, r⟩
  · exact False.elim h
  · cases v <;> first | exact ⟨_, _, rfl, h⟩ | exact False.elim h
theorem ax_sta_inv {S : List Value} {k : Value → List Value → Prop} (h : ax_sta S k) : (∃ q r, S = .ref q :: r ∧ k (.ref q) r) ∨ (∃ r, S = .null :: r ∧ k .null r) := by
  rcases S with _ | ⟨v, r⟩
  · exact False.elim h
  · cases v <;> first | exact Or.inl ⟨_, _, rfl, h⟩ | exact Or.inr ⟨_, rfl, h⟩ | exact False.elim h
theorem ax_inc_inv {L : ax_L} {i : Nat} {v : Int32} {k : ax_L → Prop} (h : ax_inc L i v k) : ∃ x, ax_nth L i = some (some (.int x)) ∧ k (L.set i (some (.int (x + v)))) := by
  unfold ax_inc at h
  rcases e : ax_nth L i with _ | _ | v
  · rw [e] at h; exact False.elim h
  · rw [e] at h; exact False.elim h
  · rw [e] at h
    cases v <;> first | exact ⟨_, rfl, h⟩ | exact False.elim h
theorem ax_getf_inv {S : List Value} {h : ax_H} {ci f : Nat} {k : List Value → Prop} (hh : ax_getf S h ci f k) : ∃ q r fs x, S = .ref q :: r ∧ ax_nth h q = some (.inr (ci, fs)) ∧ ax_nth fs f = some x ∧ k (x :: r) := by
  rcases S with _ | ⟨v, r⟩
  · exact False.elim hh
  · cases v with
    | ref q =>
      unfold ax_getf at hh
      dsimp only at hh
      rcases e : ax_nth h q with _ | c | ⟨c, fs⟩
      · rw [e] at hh; exact False.elim hh
      · rw [e] at hh; exact False.elim hh
      · rw [e] at hh
        obtain ⟨h1, h2⟩ := ax_if_t hh
        have h3 := Nat.eq_of_beq_eq_true h1
        subst h3
        rcases e2 : ax_nth fs f with _ | x
        · rw [e2] at h2; exact False.elim h2
        · rw [e2] at h2
          exact ⟨q, r, fs, x, rfl, e, e2, h2⟩
    | _ => exact False.elim hh
theorem ax_fit_inv {ty : Int32} {v : Value} {k : Prop} (h : ax_fit ty v k) : k ∧ ((∃ x, v = .int x ∧ (ty = 0 ∨ (ty = 1 ∧ (x = 0 ∨ x = 1)))) ∨ (ty = 2 ∧ (v = .null ∨ ∃ q, v = .ref q))) := by
  cases v <;> first | exact ⟨h.2, Or.inl ⟨_, rfl, h.1⟩⟩ | exact ⟨h.2, Or.inr ⟨h.1, Or.inl rfl⟩⟩ | exact ⟨h.2, Or.inr ⟨h.1, Or.inr ⟨_, rfl⟩⟩⟩ | exact False.elim h
theorem ax_putf_inv {S : List Value} {h : ax_H} {ci f : Nat} {ty : Int32} {k : List Value → ax_H → Prop} (hh : ax_putf S h ci f ty k) : ∃ v q r fs, S = v :: .ref q :: r ∧ ax_nth h q = some (.inr (ci, fs)) ∧ f < fs.length ∧ ((∃ x, v = .int x ∧ (ty = 0 ∨ (ty = 1 ∧ (x = 0 ∨ x = 1)))) ∨ (ty = 2 ∧ (v = .null ∨ ∃ q, v = .ref q))) ∧ k r (h.set q (.inr (ci, fs.set f v))) := by
  rcases S with _ | ⟨v, _ | ⟨w, r⟩⟩
  · exact False.elim hh
  · exact False.elim hh
  · cases w with
    | ref q =>
      unfold ax_putf at hh
      dsimp only at hh
      rcases e : ax_nth h q with _ | c | ⟨c, fs⟩
      · rw [e] at hh; exact False.elim hh
      · rw [e] at hh; exact False.elim hh
      · rw [e] at hh
        obtain ⟨h1, h2⟩ := ax_if_t hh
        rw [Bool.and_eq_true] at h1
        have h3 := Nat.eq_of_beq_eq_true h1.1
        subst h3
        obtain ⟨h4, h5⟩ := ax_fit_inv h2
        exact ⟨v, q, r, fs, rfl, e, Nat.le_of_ble_eq_true h1.2, h5, h4⟩
    | _ => exact False.elim hh
theorem ax_ald_inv {z : Bool} {S : List Value} {h : ax_H} {k : List Value → Prop} (hh : ax_ald z S h k) : ∃ a q r n f, S = .int (nI a) :: .ref q :: r ∧ ax_nth h q = some (.inl (z, n, f)) ∧ a < n ∧ a < 2147483648 ∧ k (.int (f a) :: r) := by
  rcases S with _ | ⟨v, _ | ⟨w, r⟩⟩
  · exact False.elim hh
  · cases v <;> exact False.elim hh
  · cases v with
    | int j =>
      cases w with
      | ref q =>
        unfold ax_ald at hh
        dsimp only at hh
        rcases e : ax_nth h q with _ | ⟨z', n, f⟩ | c
        · rw [e] at hh; exact False.elim hh
        · rw [e] at hh
          obtain ⟨h1, a, h2, h3, h4⟩ := ax_if_t hh
          have h5 : z = z' := by simpa using h1
          subst h5
          subst h3
          exact ⟨a, q, r, n, f, rfl, e, h2.1, h2.2, h4⟩
        · rw [e] at hh; exact False.elim hh
      | _ => exact False.elim hh
    | _ => exact False.elim hh
theorem ax_ast_inv {z : Bool} {S : List Value} {h : ax_H} {k : List Value → ax_H → Prop} (hh : ax_ast z S h k) : ∃ x a q r n f, S = .int x :: .int (nI a) :: .ref q :: r ∧ ax_nth h q = some (.inl (z, n, f)) ∧ a < n ∧ a < 2147483648 ∧ k r (h.set q (.inl (z, n, upd f a (ax_zv z x)))) := by
  rcases S with _ | ⟨u, _ | ⟨v, _ | ⟨w, r⟩⟩⟩
  · exact False.elim hh
  · cases u <;> exact False.elim hh
  · cases u <;> cases v <;> exact False.elim hh
  · cases u with
    | int x =>
      cases v with
      | int j =>
        cases w with
        | ref q =>
          unfold ax_ast at hh
          dsimp only at hh
          rcases e : ax_nth h q with _ | ⟨z', n, f⟩ | c
          · rw [e] at hh; exact False.elim hh
          · rw [e] at hh
            obtain ⟨h1, a, h2, h3, h4⟩ := ax_if_t hh
            have h5 : z = z' := by simpa using h1
            subst h5
            subst h3
            exact ⟨x, a, q, r, n, f, rfl, e, h2.1, h2.2, h4⟩
          · rw [e] at hh; exact False.elim hh
        | _ => exact False.elim hh
      | _ => exact False.elim hh
    | _ => exact False.elim hh
theorem ax_alen_inv {S : List Value} {h : ax_H} {k : List Value → Prop} (hh : ax_alen S h k) : ∃ q r z n f, S = .ref q :: r ∧ ax_nth h q = some (.inl (z, n, f)) ∧ k (.int (nI n) :: r) := by
  rcases S with _ | ⟨v, r⟩
  · exact False.elim hh
  · cases v with
    | ref q =>
      unfold ax_alen at hh
      dsimp only at hh
      rcases e : ax_nth h q with _ | ⟨z', n, f⟩ | c
      · rw [e] at hh; exact False.elim hh
      · rw [e] at hh
        exact ⟨q, r, z', n, f, rfl, e, hh⟩
      · rw [e] at hh; exact False.elim hh
    | _ => exact False.elim hh
theorem ax_args_spec : ∀ (n : Nat) (acc S As r : List Value), ax_args n acc S = some (As, r) → ∃ Bs : List Value, Bs.length = n ∧ S = Bs ++ r ∧ As = Bs.reverse ++ acc := by
  intro n
  induction n with
  | zero =>
    intro acc S As r h
    cases h
    exact ⟨[], rfl, rfl, rfl⟩
  | succ n ih =>
    intro acc S As r h
    cases S with
    | nil => cases h
    | cons v S =>
      obtain ⟨Bs, h1, h2, h3⟩ := ih (v :: acc) S As r h
      refine ⟨v :: Bs, by simp [h1], by simp [h2], by simp [h3]⟩
theorem ax_args_0 {n : Nat} {S As r : List Value} (h : ax_args n [] S = some (As, r)) : As.length = n ∧ S = As.reverse ++ r := by
  obtain ⟨Bs, h1, h2, h3⟩ := ax_args_spec n [] S As r h
  subst h3
  exact ⟨by simp [h1], by simp [h2]⟩
theorem ax_rcv_inv {ci : Nat} {ts : List Nat} {As : List Value} {h : ax_H} (hh : ax_rcv (ci :: ts) As h = true) : ∃ p As' fs, As = .ref p :: As' ∧ ax_nth h p = some (.inr (ci, fs)) := by
  rcases As with _ | ⟨v, As'⟩
  · cases hh
  · cases v with
    | ref p =>
      unfold ax_rcv at hh
      dsimp only at hh
      rcases e : ax_nth h p with _ | c | ⟨c, fs⟩
      · rw [e] at hh; cases hh
      · rw [e] at hh; cases hh
      · rw [e] at hh
        have h3 := Nat.eq_of_beq_eq_true hh
        subst h3
        exact ⟨p, As', fs, rfl, e⟩
    | _ => cases hh
theorem ax_call3_inv {M : List ax_M} {mc ms : Nat} {C : ax_O} {a : Nat} {ts : List Nat} {L : ax_L} {S : List Value} {h : ax_H} {ce sl : Nat} {R : List Value → ax_H → Nat → Nat → Prop} (hh : ax_call M mc ms C a 3 ts L S h ce sl R) :
    ∃ (rM : ax_M) (As r : List Value) (K : ax_K), ax_nth M a = some rM ∧ As.length = rM.2.2.1 ∧ S = As.reverse ++ r ∧ r.length ≤ 4 ∧ ce + rM.2.2.2.1 ≤ mc ∧ sl + rM.2.2.2.2 ≤ ms ∧ (rM.2.2.2.1 = 0 ∨ ax_okf h.length L r = true) ∧ ax_rcv ts As h = true ∧ C a As h K ∧ ∀ (z : Int32) (h' : ax_H), K (some (.int z)) h' → R (.int z :: r) h' (ce + rM.2.2.2.1) (sl + rM.2.2.2.2) := by
  unfold ax_call at hh
  rcases e : ax_nth M a with _ | ⟨cdA, nlA, n, mA, sA⟩
  · rw [e] at hh; exact False.elim hh
  · rw [e] at hh
    dsimp only at hh
    rcases e2 : ax_args n [] S with _ | ⟨As, r⟩
    · rw [e2] at hh; exact False.elim hh
    · rw [e2] at hh
      obtain ⟨h1, K, h2, h3⟩ := ax_if_t hh
      simp only [Bool.and_eq_true, Bool.or_eq_true] at h1
      obtain ⟨g1, g2, g3, g4, g5⟩ := h1
      obtain ⟨k1, k2⟩ := ax_args_0 e2
      exact ⟨_, As, r, K, rfl, k1, k2, Nat.le_of_ble_eq_true g1, Nat.le_of_ble_eq_true g2, Nat.le_of_ble_eq_true g3, g4.imp Nat.eq_of_beq_eq_true id, g5, h2, h3⟩
theorem ax_call4_inv {M : List ax_M} {mc ms : Nat} {C : ax_O} {a : Nat} {ts : List Nat} {L : ax_L} {S : List Value} {h : ax_H} {ce sl : Nat} {R : List Value → ax_H → Nat → Nat → Prop} (hh : ax_call M mc ms C a 4 ts L S h ce sl R) :
    ∃ (rM : ax_M) (As r : List Value) (K : ax_K), ax_nth M a = some rM ∧ As.length = rM.2.2.1 ∧ S = As.reverse ++ r ∧ r.length ≤ 4 ∧ ce + rM.2.2.2.1 ≤ mc ∧ sl + rM.2.2.2.2 ≤ ms ∧ (rM.2.2.2.1 = 0 ∨ ax_okf h.length L r = true) ∧ ax_rcv ts As h = true ∧ C a As h K ∧ ∀ h' : ax_H, K none h' → R r h' (ce + rM.2.2.2.1) (sl + rM.2.2.2.2) := by
  unfold ax_call at hh
  rcases e : ax_nth M a with _ | ⟨cdA, nlA, n, mA, sA⟩
  · rw [e] at hh; exact False.elim hh
  · rw [e] at hh
    dsimp only at hh
    rcases e2 : ax_args n [] S with _ | ⟨As, r⟩
    · rw [e2] at hh; exact False.elim hh
    · rw [e2] at hh
      obtain ⟨h1, K, h2, h3⟩ := ax_if_t hh
      simp only [Bool.and_eq_true, Bool.or_eq_true] at h1
      obtain ⟨g1, g2, g3, g4, g5⟩ := h1
      obtain ⟨k1, k2⟩ := ax_args_0 e2
      exact ⟨_, As, r, K, rfl, k1, k2, Nat.le_of_ble_eq_true g1, Nat.le_of_ble_eq_true g2, Nat.le_of_ble_eq_true g3, g4.imp Nat.eq_of_beq_eq_true id, g5, h2, h3⟩
theorem ax_call0_inv {M : List ax_M} {mc ms : Nat} {C : ax_O} {a : Nat} {ts : List Nat} {L : ax_L} {S : List Value} {h : ax_H} {ce sl : Nat} {R : List Value → ax_H → Nat → Nat → Prop} (hh : ax_call M mc ms C a 0 ts L S h ce sl R) : ∃ q r, S = .ref q :: r ∧ r.length ≤ 4 ∧ R r h ce sl := by
  rcases S with _ | ⟨v, r⟩
  · exact False.elim hh
  · cases v with
    | ref q =>
      obtain ⟨h1, h2⟩ := ax_if_t (show ax_if (Nat.ble r.length 4) (R r h ce sl) from hh)
      exact ⟨q, r, rfl, Nat.le_of_ble_eq_true h1, h2⟩
    | _ => exact False.elim hh
theorem ax_call1_inv {M : List ax_M} {mc ms : Nat} {C : ax_O} {a : Nat} {ts : List Nat} {L : ax_L} {S : List Value} {h : ax_H} {ce sl : Nat} {R : List Value → ax_H → Nat → Nat → Prop} (hh : ax_call M mc ms C a 1 ts L S h ce sl R) : ∃ x y r, S = .int y :: .int x :: r ∧ r.length ≤ 4 ∧ ce ≤ mc ∧ sl ≤ ms ∧ R (.int (if x < y then y else x) :: r) h ce sl := by
  rcases S with _ | ⟨v, _ | ⟨w, r⟩⟩
  · exact False.elim hh
  · cases v <;> exact False.elim hh
  · cases v with
    | int y =>
      cases w with
      | int x =>
        obtain ⟨h1, h2⟩ := ax_if_t (show ax_if (Nat.ble r.length 4 && (Nat.ble ce mc && Nat.ble sl ms)) (R (.int (if x < y then y else x) :: r) h ce sl) from hh)
        simp only [Bool.and_eq_true] at h1
        exact ⟨x, y, r, rfl, Nat.le_of_ble_eq_true h1.1, Nat.le_of_ble_eq_true h1.2.1, Nat.le_of_ble_eq_true h1.2.2, h2⟩
      | _ => exact False.elim hh
    | _ => exact False.elim hh
theorem ax_call2_inv {M : List ax_M} {mc ms : Nat} {C : ax_O} {a : Nat} {ts : List Nat} {L : ax_L} {S : List Value} {h : ax_H} {ce sl : Nat} {R : List Value → ax_H → Nat → Nat → Prop} (hh : ax_call M mc ms C a 2 ts L S h ce sl R) : ∃ x y r, S = .int y :: .int x :: r ∧ r.length ≤ 4 ∧ ce ≤ mc ∧ sl ≤ ms ∧ R (.int (if y < x then y else x) :: r) h ce sl := by
  rcases S with _ | ⟨v, _ | ⟨w, r⟩⟩
  · exact False.elim hh
  · cases v <;> exact False.elim hh
  · cases v with
    | int y =>
      cases w with
      | int x =>
        obtain ⟨h1, h2⟩ := ax_if_t (show ax_if (Nat.ble r.length 4 && (Nat.ble ce mc && Nat.ble sl ms)) (R (.int (if y < x then y else x) :: r) h ce sl) from hh)
        simp only [Bool.and_eq_true] at h1
        exact ⟨x, y, r, rfl, Nat.le_of_ble_eq_true h1.1, Nat.le_of_ble_eq_true h1.2.1, Nat.le_of_ble_eq_true h1.2.2, h2⟩
      | _ => exact False.elim hh
    | _ => exact False.elim hh
/-- words of a stack of places: at most two each -/
theorem ax_cat_le (ad : Nat → Nat) (r : List Value) : ((r.map (ax_v ad)).map fun v => v.category).sum ≤ 2 * r.length := by
  induction r with
  | nil => exact Nat.le_refl _
  | cons v r ih =>
    have h1 : (ax_v ad v).category = 1 ∨ (ax_v ad v).category = 2 := lv_cat _
    simp only [List.map_cons, List.sum_cons, List.length_cons]
    omega
