/-! Pure: all that is needed, all the way; no rings; ranks. -/
def dpI (n : Nat) (nd dp : Nat → Int32) : Prop := ∀ a, a < n → allP n nd a (dp a) ∧ bt (dp a) a = false
theorem sub_0 {v : Int32} : sub 0 v := fun i _ h => by rw [b_0] at h; cases h
theorem bt_and {p q : Bool} (h : ¬ p = true) : p = false := by cases p; rfl; exact absurd rfl h
/-- what is needed by one that is needed is needed -/
theorem dp_tr {n : Nat} {nd dp : Nat → Int32} (h : dpI n nd dp) {a c : Nat} (ha : a < n) (hc : c < n) (hb : bt (dp a) c = true) : sub (dp c) (dp a) :=
  (h c hc).1.2.2 (dp a) ((h a ha).1.2.1 c hc hb) (h a ha).1.2.1
theorem dp_low {n : Nat} {nd dp : Nat → Int32} (hn : n ≤ 24) (h : dpI n nd dp) (hb : ∀ a, a < n → ∀ i, n ≤ i → i < 32 → bt (nd a) i = false) {a i : Nat} (ha : a < n) (hi : n ≤ i) (hi2 : i < 32) : bt (dp a) i = false := by
  have h1 := (h a ha).1.2.2 (maskI (fun _ => true) n) (fun c hc q => by
    rw [bt_mask n (by omega) hc]
    by_cases e : c < n
    · rw [decide_eq_true e]; rfl
    · rw [hb a ha c (by omega) hc] at q; cases q) (fun c hc _ d hd q => by
    rw [bt_mask n (by omega) hd]
    by_cases e : d < n
    · rw [decide_eq_true e]; rfl
    · rw [hb c hc d (by omega) hd] at q; cases q)
  cases e : bt (dp a) i
  · rfl
  · have := h1 i hi2 e
    rw [bt_mask n (by omega) hi2, decide_eq_false (by omega)] at this
    cases this
theorem dp_join {n : Nat} {nd dp : Nat → Int32} (hn : n ≤ 24) (h : dpI n nd dp) {k j : Nat} (hk : k < n) (hj : j < n) (hkj : ¬ k = j) (hr : bt (dp j) k = false) : dpI n (upd nd k (nd k ||| sB j)) (dpJ n dp k (dp j ||| sB j)) := by
  have hnd : ∀ c, sub (nd c) (upd nd k (nd k ||| sB j) c) := fun c => by
    by_cases e : c = k
    · subst e; rw [pk_us]; exact sub_l
    · rw [pk_un e]; exact sub_rf
  have hcl : ∀ w, clo n (upd nd k (nd k ||| sB j)) w → clo n nd w := fun w hw c hc q => sub_tr (hnd c) (hw c hc q)
  have hsj : bt (sB j) j = true := by rw [b_sB (by omega) (by omega)]; exact decide_eq_true rfl
  have hsb : ∀ w, bt w j = true → sub (sB j) w := fun w hw i hi q => by
    rw [b_sB (by omega) hi] at q
    rw [of_decide_eq_true q]; exact hw
  intro a ha
  unfold dpJ
  by_cases hA : a < n ∧ (a = k ∨ bt (dp a) k = true)
  · rw [if_pos hA]
    have hka : sub (nd k) (dp a) := by
      rcases hA.2 with e | e
      · subst e; exact (h a ha).1.1
      · exact (h a ha).1.2.1 k hk e
    refine ⟨⟨?_, ?_, ?_⟩, ?_⟩
    · by_cases e : a = k
      · subst e
        rw [pk_us]
        exact sub_or (sub_tr (h a ha).1.1 sub_l) (sub_tr (sub_tr sub_r sub_r) sub_rf)
      · rw [pk_un e]; exact sub_tr (h a ha).1.1 sub_l
    · intro c hc q
      rw [b_or, b_or, Bool.or_eq_true, Bool.or_eq_true] at q
      have h0 : sub (nd c) (dp a ||| (dp j ||| sB j)) := by
        rcases q with q | q | q
        · exact sub_tr ((h a ha).1.2.1 c hc q) sub_l
        · exact sub_tr ((h j hj).1.2.1 c hc q) (sub_tr sub_l sub_r)
        · rw [b_sB (by omega) (by omega)] at q
          rw [of_decide_eq_true q]
          exact sub_tr (h j hj).1.1 (sub_tr sub_l sub_r)
      by_cases e : c = k
      · subst e
        rw [pk_us]
        exact sub_or h0 (sub_tr sub_r sub_r)
      · rw [pk_un e]; exact h0
    · intro w h1 h2
      have h3 : sub (dp a) w := (h a ha).1.2.2 w (sub_tr (hnd a) h1) (hcl w h2)
      have h4 : bt w j = true := by
        have h5 : sub (upd nd k (nd k ||| sB j) k) w := by
          rcases hA.2 with e | e
          · subst e; exact h1
          · exact h2 k hk (h3 k (by omega) e)
        rw [pk_us] at h5
        exact h5 j (by omega) (sub_r j (by omega) hsj)
      exact sub_or h3 (sub_or ((h j hj).1.2.2 w (sub_tr (hnd j) (h2 j hj h4)) (hcl w h2)) (hsb w h4))
    · rw [b_or, b_or, (h a ha).2, b_sB (by omega) (by omega), Bool.false_or]
      have h1 : bt (dp j) a = false := by
        rcases hA.2 with e | e
        · subst e; exact hr
        · cases q : bt (dp j) a
          · rfl
          · have := dp_tr h hj ha q k (by omega) e
            rw [hr] at this; cases this
      have h2 : ¬ a = j := by
        intro q
        subst q
        rcases hA.2 with e | e
        · exact hkj e.symm
        · rw [hr] at e; cases e
      rw [h1, decide_eq_false h2]
      rfl
  · rw [if_neg hA]
    have hak : ¬ a = k := fun e => hA ⟨ha, Or.inl e⟩
    have hbk : ¬ bt (dp a) k = true := fun e => hA ⟨ha, Or.inr e⟩
    refine ⟨⟨?_, ?_, ?_⟩, (h a ha).2⟩
    · rw [pk_un hak]; exact (h a ha).1.1
    · intro c hc q
      have e : c ≠ k := fun e => by subst e; exact hbk q
      rw [pk_un e]
      exact (h a ha).1.2.1 c hc q
    · intro w h1 h2
      exact (h a ha).1.2.2 w (sub_tr (hnd a) h1) (hcl w h2)
theorem dp_more {n : Nat} {nd dp : Nat → Int32} (hn : n < 24) (h : dpI n nd dp) (h0 : nd n = 0) (h1 : dp n = 0) : dpI (n + 1) nd dp := by
  intro a ha
  by_cases e : a = n
  · subst e
    rw [h1]
    refine ⟨⟨by rw [h0]; exact sub_0, fun c hc q => (by rw [b_0] at q; cases q), fun w _ _ => sub_0⟩, b_0 a⟩
  · obtain ⟨⟨a1, a2, a3⟩, a4⟩ := h a (by omega)
    refine ⟨⟨a1, fun c hc q => ?_, fun w w1 w2 => a3 w w1 (fun c hc q => w2 c (by omega) q)⟩, a4⟩
    by_cases e : c = n
    · subst e; rw [h0]; exact sub_0
    · exact a2 c (by omega) q
theorem dp_rk {n : Nat} {nd dp : Nat → Int32} (hn : n ≤ 24) (h : dpI n nd dp) : rkP n nd (fun a => cntB (fun b => bt (dp b) a) n) := by
  constructor
  · intro a ha
    have h1 : cntB (fun b => bt (dp b) a) n < cntB (fun _ => true) n := cntB_lt (fun c _ _ => rfl) ⟨a, ha, (h a ha).2, rfl⟩
    have h2 := cntB_le (p := fun _ => true) n
    show cntB (fun b => bt (dp b) a) n < n
    omega
  · intro a c ha hc hb
    exact cntB_lt (fun b hb2 q => (h b hb2).1.2.1 c hc q a (by omega) hb) ⟨c, hc, (h c hc).2, (h c hc).1.1 a (by omega) hb⟩
