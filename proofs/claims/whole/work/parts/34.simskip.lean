/-! Pure: skipped and stopped ones. -/
theorem sk_ex {n : Nat} {nd st : Nat → Int32} : ∀ (k : Nat) (g : Nat → Int32), c6 g n = k → skO n st g → skM n nd st g → ∃ g', skC n nd st g'
  | k, g, hk, ho, hm => by
    by_cases hd : skD n nd g
    · exact ⟨g, ho, hd, hm⟩
    · have : ∃ a, a < n ∧ g a = 6 ∧ anyB (laB g (nd a)) n = true := Classical.byContradiction (fun q => hd (fun a ha h6 => by
        cases e : anyB (laB g (nd a)) n
        · rfl
        · exact absurd ⟨a, ha, h6, e⟩ q))
      obtain ⟨a, ha, h6, hl⟩ := this
      obtain ⟨c, hc, hb, hh⟩ := la_iff.mp hl
      obtain ⟨s1, s2⟩ := sk_step ho hm ha h6 hc hb hh
      have h8 := c6_upd ha h6
      cases k with
      | zero => omega
      | succ k => exact sk_ex k (upd g a 3) (by omega) s1 s2
theorem skF_C {n : Nat} {nd st : Nat → Int32} : skC n nd st (skF n nd st) := Classical.epsilon_spec (p := fun g => skC n nd st g) (sk_ex _ st rfl skO_rf skM_rf)
theorem mdR_0 {n : Nat} {nd : Nat → Int32} {on : Int32} {r : Nat → Nat → Int32} (a : Nat) : mdR n nd on r 0 a = r 0 a ∨ (r 0 a = 6 ∧ (mdR n nd on r 0 a = 3 ∨ mdR n nd on r 0 a = 4)) := by
  have hk := (skF_C (n := n) (nd := nd) (st := r 0)).1 a
  unfold mdR
  split
  · show stF n (skF n nd (r 0)) a = r 0 a ∨ (r 0 a = 6 ∧ (stF n (skF n nd (r 0)) a = 3 ∨ stF n (skF n nd (r 0)) a = 4))
    unfold stF
    split
    · rename_i h
      rcases hk with e | ⟨_, e, e2⟩
      · exact Or.inr ⟨e ▸ h.2, Or.inr rfl⟩
      · exact Or.inr ⟨e, Or.inr rfl⟩
    · rcases hk with e | ⟨_, e, e2⟩
      · exact Or.inl e
      · exact Or.inr ⟨e, Or.inl e2⟩
  · show skF n nd (r 0) a = r 0 a ∨ (r 0 a = 6 ∧ (skF n nd (r 0) a = 3 ∨ skF n nd (r 0) a = 4))
    rcases hk with e | ⟨_, e, e2⟩
    · exact Or.inl e
    · exact Or.inr ⟨e, Or.inl e2⟩
theorem mdR_j {n : Nat} {nd : Nat → Int32} {on : Int32} {r : Nat → Nat → Int32} {j : Nat} (h : j ≠ 0) : mdR n nd on r j = r j := by
  unfold mdR va_up
  split <;> exact if_neg h
theorem mdR_7 {n : Nat} {nd : Nat → Int32} {on : Int32} {r : Nat → Nat → Int32} (a : Nat) : r 0 a = 7 ↔ mdR n nd on r 0 a = 7 := by
  rcases mdR_0 (n := n) (nd := nd) (on := on) (r := r) a with e | ⟨h, e | e⟩
  · rw [e]
  · rw [e, h]; decide
  · rw [e, h]; decide
theorem RI_md {n : Nat} {T : Nat → Nat → Int32} {w : Int32} {C M : Nat} {cn mn : Nat → Nat} {Y : Nat} {f F ag : Nat → Int32} {r : Nat → Nat → Int32} {nd : Nat → Int32} {on : Int32} (h : RI n T w C M cn mn Y f F ag r) : RI n T w C M cn mn Y f F ag (mdR n nd on r) := by
  obtain ⟨hrow, ⟨c3, c4, c5, c6⟩, hloc, ⟨X7, X8, x1, x2, x3, x4, x5, x6⟩, hh⟩ := h
  have e3 : mdR n nd on r 3 = r 3 := mdR_j (by omega)
  have e5 : mdR n nd on r 5 = r 5 := mdR_j (by omega)
  have e6 : mdR n nd on r 6 = r 6 := mdR_j (by omega)
  have ef : faR (mdR n nd on r) = faR r := by funext c; unfold faR; rw [e6]
  refine ⟨fun a ha => ?_, ⟨?_, ?_, ?_, ?_⟩, fun a c ha hc hne q1 q2 => ?_, ⟨X7, X8, ?_, ?_, x3, x4, x5, x6⟩, hh⟩
  · obtain ⟨tr, t1, t2, hc⟩ := hrow a ha
    refine ⟨tr, t1, by rw [e3]; exact t2, ?_⟩
    rw [e5, e6]
    rcases mdR_0 (n := n) (nd := nd) (on := on) (r := r) a with e | ⟨h6, e⟩
    · rw [e]; exact hc
    · refine Or.inr (Or.inr ?_)
      have : r 5 a = -1 ∧ r 6 a = -1 := by
        rcases hc with ⟨q, _⟩ | ⟨_, _, _, _, q⟩ | ⟨_, q, _⟩
        · rw [h6] at q; exact absurd q (by decide)
        · exact q
        · exact absurd h6 q
      rcases e with e | e
      · rw [e]; exact ⟨by decide, by decide, this⟩
      · rw [e]; exact ⟨by decide, by decide, this⟩
  · rw [c3]; exact smI_congr (fun a _ => ⟨mdR_7 a, fun _ => rfl⟩)
  · rw [c4]; exact smI_congr (fun a _ => ⟨mdR_7 a, fun _ => rfl⟩)
  · rw [c5]; exact orI_congr (fun a _ => mdR_7 a)
  · rw [c6, ef]; exact smI_congr (fun a _ => ⟨mdR_7 a, fun _ => rfl⟩)
  · exact hloc a c ha hc hne ((mdR_7 a).mpr q1) ((mdR_7 c).mpr q2)
  · rw [← smN_congr (st := r 0) (x := cn) (y := cn) (fun a _ => ⟨mdR_7 (n := n) (nd := nd) (on := on) a, fun _ => rfl⟩)]; exact x1
  · rw [← smN_congr (st := r 0) (x := mn) (y := mn) (fun a _ => ⟨mdR_7 (n := n) (nd := nd) (on := on) a, fun _ => rfl⟩)]; exact x2
