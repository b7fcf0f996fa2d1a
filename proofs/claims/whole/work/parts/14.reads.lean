/-! Both: what tells of the latest run. -/
theorem nn {x y : Int32} (h : ¬ ¬ x = y) : x = y := Decidable.not_not.mp h
theorem ax_sw5 {x : Int32} {a b c d e g : Nat} {R : Nat → Prop} (h0 : x = 0 → R a) (h1 : x = 1 → R b) (h2 : x = 2 → R c) (h3 : x = 3 → R d) (h4 : x = 4 → R e) (h5 : ¬ x = 0 → ¬ x = 1 → ¬ x = 2 → ¬ x = 3 → ¬ x = 4 → R g) : ax_sw x 0 [a, b, c, d, e] R g := by
  have key : ∀ (k : Int32) (j : Int), k.toInt = j → x.toInt = j → x = k := fun k j e1 e2 => Int32.toInt_inj.mp (by rw [e1, e2])
  have z0 : (0 : Int32).toInt = 0 := by decide
  refine ⟨fun k t hk hx => ?_, fun hx => ?_⟩
  · rw [z0] at hx
    match k, hk with
    | 0, hk => cases hk; exact h0 (key 0 0 (by decide) (by omega))
    | 1, hk => cases hk; exact h1 (key 1 1 (by decide) (by omega))
    | 2, hk => cases hk; exact h2 (key 2 2 (by decide) (by omega))
    | 3, hk => cases hk; exact h3 (key 3 3 (by decide) (by omega))
    | 4, hk => cases hk; exact h4 (key 4 4 (by decide) (by omega))
    | n + 5, hk => cases hk
  · rw [z0] at hx
    have hx : x.toInt < 0 ∨ 0 + 5 ≤ x.toInt := hx
    have ne : ∀ (k : Int32) (j : Int), k.toInt = j → 0 ≤ j → j < 5 → ¬ x = k := fun k j e1 e2 e3 q => by
      rw [q, e1] at hx
      omega
    exact h5 (ne 0 0 (by decide) (by decide) (by decide)) (ne 1 1 (by decide) (by decide) (by decide)) (ne 2 2 (by decide) (by decide) (by decide)) (ne 3 3 (by decide) (by decide) (by decide)) (ne 4 4 (by decide) (by decide) (by decide))
def outI (a0 a1 a2 a3 a4 x : Int32) : Int32 := if x = 0 then a0 else if x = 1 then a1 else if x = 2 then a2 else if x = 3 then a3 else if x = 4 then a4 else -1
theorem outI_d {a0 a1 a2 a3 a4 x : Int32} (h0 : ¬ x = 0) (h1 : ¬ x = 1) (h2 : ¬ x = 2) (h3 : ¬ x = 3) (h4 : ¬ x = 4) : outI a0 a1 a2 a3 a4 x = -1 := by
  unfold outI
  rw [if_neg h0, if_neg h1, if_neg h2, if_neg h3, if_neg h4]
def Sp_N_tell (C : ax_O) : Prop := ∀ (f : Nat → Int32) (n : Nat) (t : Nat → Nat → Int32) (u : Int32) (b : Nat) (k : Nat) (x : Int32), k < 24 → (u = 0 ∨ u = 1) → C no_N_tell [.ref 18, .int (nI k), .int x] (oH f n t u b) (ax_is (some (.int (if u = 0 then -1 else outI (t 14 k) (t 15 k) (t 16 k) (t 17 k) (t 18 k) x))) (oH f n t u b))
theorem p_N_tell {C : ax_O} : Sp_N_tell (ax_B ax_Ms ax_Xs C) := by
  intro f n t u b k x hk hu
  by_cases h0 : u = 0
  · rw [if_pos h0]
    subst h0
    refine ax_X.steps 3 (ax_brF (fun q => q rfl) ?_)
    exact ax_X.steps 2 ⟨Or.inl rfl, rfl, rfl⟩
  rw [if_neg h0]
  refine ax_X.steps 3 (ax_brT h0 ?_)
  refine ax_X.steps 2 (ax_sw5 (fun h => ?_) (fun h => ?_) (fun h => ?_) (fun h => ?_) (fun h => ?_) (fun h0 h1 h2 h3 h4 => ?_))
  · subst h
    refine ax_X.steps 4 ⟨k, ⟨by omega, by omega⟩, rfl, ?_⟩
    exact ax_X.steps 1 ⟨Or.inl rfl, rfl, rfl⟩
  · subst h
    refine ax_X.steps 4 ⟨k, ⟨by omega, by omega⟩, rfl, ?_⟩
    exact ax_X.steps 1 ⟨Or.inl rfl, rfl, rfl⟩
  · subst h
    refine ax_X.steps 4 ⟨k, ⟨by omega, by omega⟩, rfl, ?_⟩
    exact ax_X.steps 1 ⟨Or.inl rfl, rfl, rfl⟩
  · subst h
    refine ax_X.steps 4 ⟨k, ⟨by omega, by omega⟩, rfl, ?_⟩
    exact ax_X.steps 1 ⟨Or.inl rfl, rfl, rfl⟩
  · subst h
    refine ax_X.steps 4 ⟨k, ⟨by omega, by omega⟩, rfl, ?_⟩
    exact ax_X.steps 1 ⟨Or.inl rfl, rfl, rfl⟩
  · rw [outI_d h0 h1 h2 h3 h4]
    exact ax_X.steps 2 ⟨Or.inl rfl, rfl, rfl⟩
def Sp_O_outcome_1 (C : ax_O) : Prop := ∀ (f : Nat → Int32) (n : Nat) (t : Nat → Nat → Int32) (u : Int32) (b : Nat) (k : Nat) (x : Int32), n ≤ 24 → k < n → (u = 0 ∨ u = 1) → C no_O_outcome [.ref 0, .int (nI k), .int x] (oH f n t u b) (ax_is (some (.int (if u = 0 then -1 else outI (t 14 k) (t 15 k) (t 16 k) (t 17 k) (t 18 k) x))) (oH f n t u b))
theorem p_O_outcome_1 {C : ax_O} (hH : Sp_A_has C) (h1 : Sp_N_tell C) : Sp_O_outcome_1 (ax_B ax_Ms ax_Xs C) := by
  intro f n t u b k x hn hk hu
  refine ax_X.steps 4 (ax_go (hH _ _ _ _ _ _ true (hasB_k hn hk)) ?_)
  refine ax_X.steps 1 (ax_brF (bI_n0) ?_)
  refine ax_X.steps 5 (ax_go (h1 f n t u b k x (by omega) hu) ?_)
  exact ax_X.steps 2 ⟨Or.inl rfl, rfl, rfl⟩
def Sp_O_outcome_0 (C : ax_O) : Prop := ∀ (f : Nat → Int32) (n : Nat) (t : Nat → Nat → Int32) (u : Int32) (b : Nat) (y x : Int32), hasB n y = false → C no_O_outcome [.ref 0, .int y, .int x] (oH f n t u b) (ax_is (some (.int (-1))) (oH f n t u b))
theorem p_O_outcome_0 {C : ax_O} (hH : Sp_A_has C) : Sp_O_outcome_0 (ax_B ax_Ms ax_Xs C) := by
  intro f n t u b y x hy
  refine ax_X.steps 4 (ax_go (hH _ _ _ _ _ _ false hy) ?_)
  refine ax_X.steps 1 (ax_brT (rfl) ?_)
  exact ax_X.steps 2 ⟨Or.inl rfl, rfl, rfl⟩
def Sp_M_outcome_1 (C : ax_O) : Prop := ∀ (f : Nat → Int32) (n kn : Nat) (t : Nat → Nat → Int32) (b : Nat) (k : Nat) (x : Int32), n ≤ 24 → k < n → C no_M_outcome [.ref 0, .int (nI k), .int x] (mH f n kn t b) (ax_is (some (.int (if f 6 = 0 then -1 else outI (t 14 k) (t 17 k) (t 18 k) (t 19 k) (t 20 k) x))) (mH f n kn t b))
theorem p_M_outcome_1 {C : ax_O} (hH : Sp_M_isAction C) : Sp_M_outcome_1 (ax_B ax_Ms ax_Xs C) := by
  intro f n kn t b k x hn hk
  by_cases h0 : f 6 = 0
  · rw [if_pos h0]
    refine ax_X.steps 3 ⟨Or.inl rfl, ?_⟩
    refine ax_X.steps 3 (ax_brT (h0) ?_)
    exact ax_X.steps 2 ⟨Or.inl rfl, rfl, rfl⟩
  rw [if_neg h0]
  refine ax_X.steps 3 ⟨Or.inl rfl, ?_⟩
  refine ax_X.steps 3 (ax_brF h0 ?_)
  refine ax_X.steps 3 (ax_go (hH _ _ _ _ _ _ true hn (hasB_k hn hk)) ?_)
  refine ax_X.steps 1 (ax_brT bI_n0 ?_)
  refine ax_X.steps 2 (ax_sw5 (fun h => ?_) (fun h => ?_) (fun h => ?_) (fun h => ?_) (fun h => ?_) (fun h0 h1 h2 h3 h4 => ?_))
  · subst h
    refine ax_X.steps 4 ⟨k, ⟨by omega, by omega⟩, rfl, ?_⟩
    exact ax_X.steps 1 ⟨Or.inl rfl, rfl, rfl⟩
  · subst h
    refine ax_X.steps 4 ⟨k, ⟨by omega, by omega⟩, rfl, ?_⟩
    exact ax_X.steps 1 ⟨Or.inl rfl, rfl, rfl⟩
  · subst h
    refine ax_X.steps 4 ⟨k, ⟨by omega, by omega⟩, rfl, ?_⟩
    exact ax_X.steps 1 ⟨Or.inl rfl, rfl, rfl⟩
  · subst h
    refine ax_X.steps 4 ⟨k, ⟨by omega, by omega⟩, rfl, ?_⟩
    exact ax_X.steps 1 ⟨Or.inl rfl, rfl, rfl⟩
  · subst h
    refine ax_X.steps 4 ⟨k, ⟨by omega, by omega⟩, rfl, ?_⟩
    exact ax_X.steps 1 ⟨Or.inl rfl, rfl, rfl⟩
  · rw [outI_d h0 h1 h2 h3 h4]
    exact ax_X.steps 2 ⟨Or.inl rfl, rfl, rfl⟩
def Sp_M_outcome_0 (C : ax_O) : Prop := ∀ (f : Nat → Int32) (n kn : Nat) (t : Nat → Nat → Int32) (b : Nat) (y x : Int32), n ≤ 24 → hasB n y = false → C no_M_outcome [.ref 0, .int y, .int x] (mH f n kn t b) (ax_is (some (.int (-1))) (mH f n kn t b))
theorem p_M_outcome_0 {C : ax_O} (hH : Sp_M_isAction C) : Sp_M_outcome_0 (ax_B ax_Ms ax_Xs C) := by
  intro f n kn t b y x hn hy
  by_cases h0 : f 6 = 0
  · refine ax_X.steps 3 ⟨Or.inl rfl, ?_⟩
    refine ax_X.steps 3 (ax_brT (h0) ?_)
    exact ax_X.steps 2 ⟨Or.inl rfl, rfl, rfl⟩
  · refine ax_X.steps 3 ⟨Or.inl rfl, ?_⟩
    refine ax_X.steps 3 (ax_brF (h0) ?_)
    refine ax_X.steps 3 (ax_go (hH _ _ _ _ _ _ false hn hy) ?_)
    refine ax_X.steps 1 (ax_brF (fun q => q rfl) ?_)
    exact ax_X.steps 2 ⟨Or.inl rfl, rfl, rfl⟩
def Sp_O_order (C : ax_O) : Prop := ∀ (f : Nat → Int32) (n : Nat) (t : Nat → Nat → Int32) (u : Int32) (b : Nat) (x : Int32), b ≤ 96 → C no_O_order [.ref 0, .int x] (oH f n t u b) (ax_is (some (.int (if hasB b x = true then t 21 x.toNatClampNeg else -1))) (oH f n t u b))
def Sp_N_begunAs (C : ax_O) : Prop := ∀ (f : Nat → Int32) (n : Nat) (t : Nat → Nat → Int32) (u : Int32) (b : Nat) (x : Int32), b ≤ 96 → C no_N_begunAs [.ref 18, .int x] (oH f n t u b) (ax_is (some (.int (if hasB b x = true then t 21 x.toNatClampNeg else -1))) (oH f n t u b))
theorem p_N_begunAs {C : ax_O} : Sp_N_begunAs (ax_B ax_Ms ax_Xs C) := by
  intro f n t u b x hb
  refine ax_X.steps 3 (ax_br2 (fun c1 => ?_) (fun c1 => ?_))
  · rw [hasB_a c1, if_neg (by decide)]
    exact ax_X.steps 2 ⟨Or.inl rfl, rfl, rfl⟩
  · refine ax_X.steps 4 (ax_br2 (fun c2 => ?_) (fun c2 => ?_))
    · rw [hasB_b c2, if_neg (by decide)]
      exact ax_X.steps 2 ⟨Or.inl rfl, rfl, rfl⟩
    · rw [hasB_c c1 c2, if_pos rfl]
      obtain ⟨j, hj, e⟩ : ∃ j : Nat, j < b ∧ x = nI j := ((pk_ix x (n := b) (by omega)).resolve_left c1).resolve_left c2
      subst e
      rw [nI_clamp (by omega)]
      refine ax_X.steps 4 ⟨j, ⟨by omega, by omega⟩, rfl, ?_⟩
      exact ax_X.steps 2 ⟨Or.inl rfl, rfl, rfl⟩
theorem p_O_order {C : ax_O} (h1 : Sp_N_begunAs C) : Sp_O_order (ax_B ax_Ms ax_Xs C) := by
  intro f n t u b x hb
  refine ax_X.steps 4 (ax_go (h1 f n t u b x hb) ?_)
  exact ax_X.steps 1 ⟨Or.inl rfl, rfl, rfl⟩
def Sp_M_order (C : ax_O) : Prop := ∀ (f : Nat → Int32) (n kn : Nat) (t : Nat → Nat → Int32) (b : Nat) (x : Int32), b ≤ 96 → C no_M_order [.ref 0, .int x] (mH f n kn t b) (ax_is (some (.int (if hasB b x = true then t 23 x.toNatClampNeg else -1))) (mH f n kn t b))
theorem p_M_order {C : ax_O} (hW : Sp_M_in C) : Sp_M_order (ax_B ax_Ms ax_Xs C) := by
  intro f n kn t b x hb
  cases hx : hasB b x
  · rw [if_neg (by decide)]
    refine ax_X.steps 3 ⟨Or.inl rfl, ?_⟩
    refine ax_X.steps 7 (ax_go (hW _ _ _ _ false ((inB_has (by omega) x).trans hx)) ?_)
    refine ax_X.steps 1 (ax_brT (rfl) ?_)
    exact ax_X.steps 2 ⟨Or.inl rfl, rfl, rfl⟩
  · rw [if_pos rfl]
    obtain ⟨j, hj, e⟩ : ∃ j : Nat, j < b ∧ x = nI j := by
      rcases pk_ix x (n := b) (by omega) with q | q | q
      · rw [hasB_a q] at hx; cases hx
      · rw [hasB_b q] at hx; cases hx
      · exact q
    subst e
    rw [nI_clamp (by omega)]
    refine ax_X.steps 3 ⟨Or.inl rfl, ?_⟩
    refine ax_X.steps 7 (ax_go (hW _ _ _ _ true ((inB_has (by omega) (nI j)).trans hx)) ?_)
    refine ax_X.steps 1 (ax_brF (bI_n0) ?_)
    refine ax_X.steps 4 ⟨j, ⟨by omega, by omega⟩, rfl, ?_⟩
    exact ax_X.steps 2 ⟨Or.inl rfl, rfl, rfl⟩
def badB (st : Nat → Int32) (a : Nat) : Bool := decide (st a = 2) || decide (st a = 5)
theorem badB_2 {st : Nat → Int32} {a : Nat} (h : st a = 2) : badB st a = true := by unfold badB; rw [decide_eq_true h, Bool.true_or]
theorem badB_5 {st : Nat → Int32} {a : Nat} (h : st a = 5) : badB st a = true := by unfold badB; rw [decide_eq_true h, Bool.or_true]
theorem badB_n {st : Nat → Int32} {a : Nat} (h : ¬ st a = 2) (h2 : ¬ st a = 5) : badB st a = false := by unfold badB; rw [decide_eq_false h, decide_eq_false h2, Bool.or_false]
/-- the first bad one of k from a on -/
def fbI (st : Nat → Int32) : Nat → Nat → Int32
  | 0, _ => -1
  | k + 1, a => if badB st a = true then nI a else fbI st k (a + 1)
def anyB (p : Nat → Bool) : Nat → Bool
  | 0 => false
  | n + 1 => anyB p n || p n
theorem anyB_iff {p : Nat → Bool} {n : Nat} : anyB p n = true ↔ ∃ a, a < n ∧ p a = true := by
  induction n with
  | zero => exact ⟨fun h => (by cases h), fun ⟨a, h, _⟩ => absurd h (Nat.not_lt_zero a)⟩
  | succ n ih =>
    unfold anyB
    rw [Bool.or_eq_true, ih]
    constructor
    · rintro (⟨a, h1, h2⟩ | h)
      · exact ⟨a, by omega, h2⟩
      · exact ⟨n, by omega, h⟩
    · rintro ⟨a, h1, h2⟩
      by_cases e : a = n
      · subst e; exact Or.inr h2
      · exact Or.inl ⟨a, by omega, h2⟩
theorem fbI_any {st : Nat → Int32} : ∀ (k a : Nat), a + k ≤ 24 → (fbI st k a = -1 ↔ ∀ c, a ≤ c → c < a + k → badB st c = false)
  | 0, a, _ => ⟨fun _ c h1 h2 => absurd h2 (by omega), fun _ => rfl⟩
  | k + 1, a, h => by
    unfold fbI
    cases e : badB st a
    · rw [if_neg (by decide), fbI_any k (a + 1) (by omega)]
      constructor
      · intro q c h1 h2
        by_cases ec : c = a
        · subst ec; exact e
        · exact q c (by omega) (by omega)
      · intro q c h1 h2
        exact q c (by omega) (by omega)
    · rw [if_pos rfl]
      constructor
      · intro q
        have h3 : (nI a).toInt = (a : Int) := nI_toInt (by omega)
        rw [q, show (-1 : Int32).toInt = -1 by decide] at h3
        omega
      · intro q
        rw [q a (Nat.le_refl a) (by omega)] at e
        cases e
theorem fbI_spec {st : Nat → Int32} {n : Nat} (hn : n ≤ 24) : fbI st n 0 = -1 ↔ anyB (badB st) n = false := by
  rw [fbI_any n 0 (by omega)]
  constructor
  · intro h
    cases e : anyB (badB st) n
    · rfl
    · obtain ⟨a, h1, h2⟩ := anyB_iff.mp e
      rw [h a (by omega) (by omega)] at h2
      cases h2
  · intro h c _ hc
    cases e : badB st c
    · rfl
    · rw [anyB_iff.mpr ⟨c, by omega, e⟩] at h
      cases h
def Sp_N_firstBad (C : ax_O) : Prop := ∀ (f : Nat → Int32) (n : Nat) (t : Nat → Nat → Int32) (u : Int32) (b : Nat), n ≤ 24 → C no_N_firstBad [.ref 18] (oH f n t u b) (ax_is (some (.int (fbI (t 14) n 0))) (oH f n t u b))
theorem p_N_firstBad {C : ax_O} : Sp_N_firstBad (ax_B ax_Ms ax_Xs C) := by
  intro f n t u b hn
  have loop : ∀ (k a : Nat) (x r : Int32), x = nI a → a + k = n → fbI (t 14) k a = r → ax_X ax_Ms ax_Xs no_N_firstBad C (ax_is (some (.int r)) (oH f n t u b)) 2 [some (.ref 18), some (.int x)] [] (oH f n t u b) 0 0 := by
    intro k
    induction k with
    | zero =>
      intro a x r hx hk hr
      subst hx
      subst hr
      refine ax_X.steps 5 (ax_brT (nI_le (by omega) (by omega)) ?_)
      exact ax_X.steps 2 ⟨Or.inl rfl, rfl, rfl⟩
    | succ k ih =>
      intro a x r hx hk hr
      subst hx
      unfold fbI at hr
      refine ax_X.steps 5 (ax_brF (nI_ge (by omega) (by omega)) ?_)
      refine ax_X.steps 4 ⟨a, ⟨by omega, by omega⟩, rfl, ?_⟩
      refine ax_X.steps 2 (ax_br2 (fun c12 => ?_) (fun c12 => ?_))
      · exact ax_X.steps 2 ⟨Or.inl rfl, by rw [badB_2 c12, if_pos rfl] at hr; rw [hr], rfl⟩
      · refine ax_X.steps 4 ⟨a, ⟨by omega, by omega⟩, rfl, ?_⟩
        refine ax_X.steps 2 (ax_br2 (fun c18 => ?_) (fun c18 => ?_))
        · exact ax_X.steps 2 (ih (a + 1) _ _ (nI_1 a) (by omega) (by rw [badB_n c12 c18, if_neg (by decide)] at hr; exact hr))
        · exact ax_X.steps 2 ⟨Or.inl rfl, by rw [badB_5 (nn c18), if_pos rfl] at hr; rw [hr], rfl⟩
  exact ax_X.steps 2 (loop n 0 0 _ rfl (by omega) rfl)
def Sp_O_first (C : ax_O) : Prop := ∀ (f : Nat → Int32) (n : Nat) (t : Nat → Nat → Int32) (u : Int32) (b : Nat), n ≤ 24 → C no_O_first [.ref 0] (oH f n t u b) (ax_is (some (.int (fbI (t 14) n 0))) (oH f n t u b))
theorem p_O_first {C : ax_O} (h1 : Sp_N_firstBad C) : Sp_O_first (ax_B ax_Ms ax_Xs C) := by
  intro f n t u b hn
  refine ax_X.steps 3 (ax_go (h1 f n t u b hn) ?_)
  exact ax_X.steps 1 ⟨Or.inl rfl, rfl, rfl⟩
def Sp_N_isOneBad (C : ax_O) : Prop := ∀ (f : Nat → Int32) (n : Nat) (t : Nat → Nat → Int32) (u : Int32) (b : Nat), n ≤ 24 → C no_N_isOneBad [.ref 18] (oH f n t u b) (ax_is (some (.int (bI (anyB (badB (t 14)) n)))) (oH f n t u b))
theorem p_N_isOneBad {C : ax_O} (h1 : Sp_N_firstBad C) : Sp_N_isOneBad (ax_B ax_Ms ax_Xs C) := by
  intro f n t u b hn
  cases hc : anyB (badB (t 14)) n
  · refine ax_X.steps 2 (ax_go (h1 f n t u b hn) ?_)
    refine ax_X.steps 2 (ax_brT ((fbI_spec hn).mpr hc) ?_)
    exact ax_X.steps 2 ⟨Or.inr (Or.inl rfl), rfl, rfl⟩
  · refine ax_X.steps 2 (ax_go (h1 f n t u b hn) ?_)
    refine ax_X.steps 2 (ax_brF (fun q => by rw [(fbI_spec hn).mp q] at hc; cases hc) ?_)
    exact ax_X.steps 3 ⟨Or.inr (Or.inr rfl), rfl, rfl⟩
def Sp_M_first (C : ax_O) : Prop := ∀ (f : Nat → Int32) (n kn : Nat) (t : Nat → Nat → Int32) (b : Nat), kn ≤ 24 → C no_M_first [.ref 0] (mH f n kn t b) (ax_is (some (.int (if f 6 = 0 then -1 else fbI (t 14) kn 0))) (mH f n kn t b))
theorem p_M_first {C : ax_O} : Sp_M_first (ax_B ax_Ms ax_Xs C) := by
  intro f n kn t b hn
  have loop : ∀ (k a : Nat) (x r : Int32), x = nI a → a + k = kn → (if f 6 = 0 then -1 else fbI (t 14) k a) = r → ax_X ax_Ms ax_Xs no_M_first C (ax_is (some (.int r)) (mH f n kn t b)) 5 [some (.ref 0), some (.int x)] [] (mH f n kn t b) 0 0 := by
    intro k
    induction k with
    | zero =>
      intro a x r hx hk hr
      subst hx
      unfold fbI at hr
      rw [ite_self] at hr
      subst hr
      refine ax_X.steps 4 (ax_brT (nI_le (by omega) (by omega)) ?_)
      exact ax_X.steps 2 ⟨Or.inl rfl, rfl, rfl⟩
    | succ k ih =>
      intro a x r hx hk hr
      subst hx
      unfold fbI at hr
      refine ax_X.steps 4 (ax_brF (nI_ge (by omega) (by omega)) ?_)
      refine ax_X.steps 3 (ax_br2 (fun c11 => ?_) (fun c11 => ?_))
      · exact ax_X.steps 2 ⟨Or.inl rfl, by rw [if_pos (show f 6 = 0 from c11)] at hr; rw [hr], rfl⟩
      · refine ax_X.steps 4 ⟨a, ⟨by omega, by omega⟩, rfl, ?_⟩
        refine ax_X.steps 2 (ax_br2 (fun c17 => ?_) (fun c17 => ?_))
        · exact ax_X.steps 2 ⟨Or.inl rfl, by rw [if_neg (show ¬ f 6 = 0 from c11), badB_2 c17, if_pos rfl] at hr; rw [hr], rfl⟩
        · refine ax_X.steps 4 ⟨a, ⟨by omega, by omega⟩, rfl, ?_⟩
          refine ax_X.steps 2 (ax_br2 (fun c23 => ?_) (fun c23 => ?_))
          · exact ax_X.steps 2 (ih (a + 1) _ _ (nI_1 a) (by omega) (by rw [badB_n c17 c23, if_neg (show ¬ false = true by decide)] at hr; exact hr))
          · exact ax_X.steps 2 ⟨Or.inl rfl, by rw [if_neg (show ¬ f 6 = 0 from c11), badB_5 (nn c23), if_pos rfl] at hr; rw [hr], rfl⟩
  refine ax_X.steps 3 ⟨Or.inl rfl, ?_⟩
  exact ax_X.steps 2 (loop kn 0 0 _ rfl (by omega) rfl)
def Sp_M_isSpoilt (C : ax_O) : Prop := ∀ (f : Nat → Int32) (n kn : Nat) (t : Nat → Nat → Int32) (b : Nat), n ≤ 24 → C no_M_isSpoilt [.ref 0] (mH f n kn t b) (ax_is (some (.int (bI (anyB (badB (t 14)) n)))) (mH f n kn t b))
theorem p_M_isSpoilt {C : ax_O} : Sp_M_isSpoilt (ax_B ax_Ms ax_Xs C) := by
  intro f n kn t b hn
  have loop : ∀ (k a : Nat) (x v : Int32), x = nI a → v = bI (anyB (badB (t 14)) a) → a + k = n → ax_X ax_Ms ax_Xs no_M_isSpoilt C (ax_is (some (.int (bI (anyB (badB (t 14)) n)))) (mH f n kn t b)) 4 [some (.ref 0), some (.int v), some (.int x)] [] (mH f n kn t b) 0 0 := by
    intro k
    induction k with
    | zero =>
      intro a x v hx hv hk
      subst hx
      have hk : a = n := hk
      subst hk
      subst hv
      refine ax_X.steps 4 (ax_brT (nI_le (by omega) (by omega)) ?_)
      exact ax_X.steps 2 ⟨Or.inr (bI_01 _), rfl, rfl⟩
    | succ k ih =>
      intro a x v hx hv hk
      subst hx
      subst hv
      refine ax_X.steps 4 (ax_brF (nI_ge (by omega) (by omega)) ?_)
      refine ax_X.steps 2 (ax_br2 (fun c9 => ?_) (fun c9 => ?_))
      · exact ax_X.steps 5 (ih (a + 1) _ _ (nI_1 a) (by first | (unfold anyB; rw [badB_2 c15, Bool.or_true]; rfl) | (unfold anyB; rw [badB_5 (nn c21), Bool.or_true]; rfl) | (unfold anyB; rw [badB_n c15 c21, bI_0.mp (nn c9)]; rfl) | (unfold anyB; rw [show anyB (badB (t 14)) a = true from by cases e : anyB (badB (t 14)) a with | false => exact absurd (congrArg bI e) c9 | true => rfl]; rfl)) (by omega))
      · refine ax_X.steps 4 ⟨a, ⟨by omega, by omega⟩, rfl, ?_⟩
        refine ax_X.steps 2 (ax_br2 (fun c15 => ?_) (fun c15 => ?_))
        · exact ax_X.steps 5 (ih (a + 1) _ _ (nI_1 a) (by first | (unfold anyB; rw [badB_2 c15, Bool.or_true]; rfl) | (unfold anyB; rw [badB_5 (nn c21), Bool.or_true]; rfl) | (unfold anyB; rw [badB_n c15 c21, bI_0.mp (nn c9)]; rfl) | (unfold anyB; rw [show anyB (badB (t 14)) a = true from by cases e : anyB (badB (t 14)) a with | false => exact absurd (congrArg bI e) c9 | true => rfl]; rfl)) (by omega))
        · refine ax_X.steps 4 ⟨a, ⟨by omega, by omega⟩, rfl, ?_⟩
          refine ax_X.steps 2 (ax_br2 (fun c21 => ?_) (fun c21 => ?_))
          · exact ax_X.steps 4 (ih (a + 1) _ _ (nI_1 a) (by first | (unfold anyB; rw [badB_2 c15, Bool.or_true]; rfl) | (unfold anyB; rw [badB_5 (nn c21), Bool.or_true]; rfl) | (unfold anyB; rw [badB_n c15 c21, bI_0.mp (nn c9)]; rfl) | (unfold anyB; rw [show anyB (badB (t 14)) a = true from by cases e : anyB (badB (t 14)) a with | false => exact absurd (congrArg bI e) c9 | true => rfl]; rfl)) (by omega))
          · exact ax_X.steps 5 (ih (a + 1) _ _ (nI_1 a) (by first | (unfold anyB; rw [badB_2 c15, Bool.or_true]; rfl) | (unfold anyB; rw [badB_5 (nn c21), Bool.or_true]; rfl) | (unfold anyB; rw [badB_n c15 c21, bI_0.mp (nn c9)]; rfl) | (unfold anyB; rw [show anyB (badB (t 14)) a = true from by cases e : anyB (badB (t 14)) a with | false => exact absurd (congrArg bI e) c9 | true => rfl]; rfl)) (by omega))
  exact ax_X.steps 4 (loop n 0 0 0 rfl rfl (by omega))
