/-! The class: the house, and loops that only look. -/
def clF (f : Nat → Int32) : Nat → Int32 := va_up (va_up (va_up (va_up (va_up (va_up f 3 0) 4 0) 5 0) 6 0) 7 0) 8 0
def tkF (f : Nat → Int32) (c m l : Int32) : Nat → Int32 := va_up (va_up (va_up (va_up (va_up f 3 (f 3 + c)) 4 (f 4 + m)) 5 (f 5 ||| l)) 7 (mxI (f 7) (f 3 + c))) 8 (mxI (f 8) (f 4 + m))
def gbF (f : Nat → Int32) (c m l : Int32) : Nat → Int32 := va_up (va_up (va_up f 3 (f 3 - c)) 4 (f 4 - m)) 5 (f 5 &&& (l ^^^ (-1)))
def tsB (f : Nat → Int32) (c m : Int32) : Bool := decide (f 0 < c) || decide (f 1 < m)
def frB (f : Nat → Int32) (c m l : Int32) : Bool := decide (c ≤ f 0 - f 3) && (decide (m ≤ f 1 - f 4) && decide (l &&& f 5 = 0))
def Sp_H_clear (C : ax_O) : Prop := ∀ (f : Nat → Int32) (n : Nat) (t : Nat → Nat → Int32) (u : Int32) (b : Nat), C no_H_clear [.ref 1] (oH f n t u b) (ax_is none (oH (clF f) n t u b))
theorem p_H_clear {C : ax_O} : Sp_H_clear (ax_B ax_Ms ax_Xs C) := by
  intro f n t u b
  refine ax_X.steps 3 ⟨Or.inl rfl, ?_⟩
  refine ax_X.steps 3 ⟨Or.inl rfl, ?_⟩
  refine ax_X.steps 3 ⟨Or.inl rfl, ?_⟩
  refine ax_X.steps 3 ⟨Or.inl rfl, ?_⟩
  refine ax_X.steps 3 ⟨Or.inl rfl, ?_⟩
  refine ax_X.steps 3 ⟨Or.inl rfl, ?_⟩
  exact ax_X.steps 1 (⟨rfl, rfl⟩)
def Sp_H_take (C : ax_O) : Prop := ∀ (f : Nat → Int32) (n : Nat) (t : Nat → Nat → Int32) (u : Int32) (b : Nat) (c m l : Int32), C no_H_take [.ref 1, .int c, .int m, .int l] (oH f n t u b) (ax_is none (oH (tkF f c m l) n t u b))
theorem p_H_take {C : ax_O} : Sp_H_take (ax_B ax_Ms ax_Xs C) := by
  intro f n t u b c m l
  refine ax_X.steps 6 ⟨Or.inl rfl, ?_⟩
  refine ax_X.steps 6 ⟨Or.inl rfl, ?_⟩
  refine ax_X.steps 6 ⟨Or.inl rfl, ?_⟩
  refine ax_X.steps 7 ⟨Or.inl rfl, ?_⟩
  refine ax_X.steps 7 ⟨Or.inl rfl, ?_⟩
  exact ax_X.steps 1 (⟨rfl, rfl⟩)
def Sp_H_giveBack (C : ax_O) : Prop := ∀ (f : Nat → Int32) (n : Nat) (t : Nat → Nat → Int32) (u : Int32) (b : Nat) (c m l : Int32), C no_H_giveBack [.ref 1, .int c, .int m, .int l] (oH f n t u b) (ax_is none (oH (gbF f c m l) n t u b))
theorem p_H_giveBack {C : ax_O} : Sp_H_giveBack (ax_B ax_Ms ax_Xs C) := by
  intro f n t u b c m l
  refine ax_X.steps 6 ⟨Or.inl rfl, ?_⟩
  refine ax_X.steps 6 ⟨Or.inl rfl, ?_⟩
  refine ax_X.steps 8 ⟨Or.inl rfl, ?_⟩
  exact ax_X.steps 1 (⟨rfl, rfl⟩)
def Sp_H_isTooSmallFor (C : ax_O) : Prop := ∀ (f : Nat → Int32) (n : Nat) (t : Nat → Nat → Int32) (u : Int32) (b : Nat) (c m : Int32), C no_H_isTooSmallFor [.ref 1, .int c, .int m] (oH f n t u b) (ax_is (some (.int (bI (tsB f c m)))) (oH f n t u b))
theorem p_H_isTooSmallFor {C : ax_O} : Sp_H_isTooSmallFor (ax_B ax_Ms ax_Xs C) := by
  intro f n t u b c m
  unfold tsB
  refine ax_X.steps 4 (ax_br2 (fun c3 => ?_) (fun c3 => ?_))
  · exact ax_X.steps 3 ⟨Or.inr (Or.inr rfl), by rw [decide_eq_true (show f 0 < c from c3)]; rfl, rfl⟩
  · refine ax_X.steps 4 (ax_br2 (fun c7 => ?_) (fun c7 => ?_))
    · exact ax_X.steps 2 ⟨Or.inr (Or.inl rfl), by rw [decide_eq_false (show ¬ f 0 < c from c3), decide_eq_false (i_nlt.mpr c7)]; rfl, rfl⟩
    · exact ax_X.steps 3 ⟨Or.inr (Or.inr rfl), by rw [decide_eq_true (show f 1 < m from i_nle.mp c7), Bool.or_true]; rfl, rfl⟩
def Sp_H_hasFree (C : ax_O) : Prop := ∀ (f : Nat → Int32) (n : Nat) (t : Nat → Nat → Int32) (u : Int32) (b : Nat) (c m l : Int32), C no_H_hasFree [.ref 1, .int c, .int m, .int l] (oH f n t u b) (ax_is (some (.int (bI (frB f c m l)))) (oH f n t u b))
theorem p_H_hasFree {C : ax_O} : Sp_H_hasFree (ax_B ax_Ms ax_Xs C) := by
  intro f n t u b c m l
  unfold frB
  refine ax_X.steps 7 (ax_br2 (fun c6 => ?_) (fun c6 => ?_))
  · exact ax_X.steps 2 ⟨Or.inr (Or.inl rfl), by rw [decide_eq_false (i_nle.mpr c6)]; rfl, rfl⟩
  · refine ax_X.steps 7 (ax_br2 (fun c13 => ?_) (fun c13 => ?_))
    · exact ax_X.steps 2 ⟨Or.inr (Or.inl rfl), by rw [decide_eq_false (i_nle.mpr c13), Bool.false_and, Bool.and_false]; rfl, rfl⟩
    · refine ax_X.steps 5 (ax_br2 (fun c18 => ?_) (fun c18 => ?_))
      · exact ax_X.steps 2 ⟨Or.inr (Or.inl rfl), by rw [decide_eq_false (show ¬ l &&& f 5 = 0 from c18), Bool.and_false, Bool.and_false]; rfl, rfl⟩
      · exact ax_X.steps 3 ⟨Or.inr (Or.inr rfl), by rw [decide_eq_true (i_nlt.mp c6), decide_eq_true (i_nlt.mp c13), decide_eq_true (nn c18)]; rfl, rfl⟩
def Sp_H_hasFreeSlot (C : ax_O) : Prop := ∀ (f : Nat → Int32) (n : Nat) (t : Nat → Nat → Int32) (u : Int32) (b : Nat), C no_H_hasFreeSlot [.ref 1] (oH f n t u b) (ax_is (some (.int (bI (decide (f 6 < f 2))))) (oH f n t u b))
theorem p_H_hasFreeSlot {C : ax_O} : Sp_H_hasFreeSlot (ax_B ax_Ms ax_Xs C) := by
  intro f n t u b
  refine ax_X.steps 5 (ax_br2 (fun c4 => ?_) (fun c4 => ?_))
  · exact ax_X.steps 2 ⟨Or.inr (Or.inl rfl), by rw [decide_eq_false (i_nlt.mpr c4)]; rfl, rfl⟩
  · exact ax_X.steps 3 ⟨Or.inr (Or.inr rfl), by rw [decide_eq_true (i_nle.mp c4)]; rfl, rfl⟩
def Sp_N_stateAtFirst (C : ax_O) : Prop := ∀ (f : Nat → Int32) (n : Nat) (t : Nat → Nat → Int32) (u : Int32) (b : Nat) (a : Nat), a < 24 → C no_N_stateAtFirst [.ref 18, .int (nI a)] (oH f n t u b) (ax_is (some (.int (if tsB f (t 1 a) (t 2 a) = true then 5 else 6))) (oH f n t u b))
theorem p_N_stateAtFirst {C : ax_O} (h1 : Sp_H_isTooSmallFor C) : Sp_N_stateAtFirst (ax_B ax_Ms ax_Xs C) := by
  intro f n t u b a ha
  cases hc : tsB f (t 1 a) (t 2 a)
  · rw [if_neg (by decide)]
    refine ax_X.steps 7 ⟨a, ⟨by omega, by omega⟩, rfl, ?_⟩
    refine ax_X.steps 5 ⟨a, ⟨by omega, by omega⟩, rfl, ?_⟩
    refine ax_X.steps 1 (ax_go (h1 f n t u b (t 1 a) (t 2 a)) ?_)
    refine ax_X.steps 1 (ax_brT (by rw [hc]; rfl) ?_)
    exact ax_X.steps 2 ⟨Or.inl rfl, rfl, rfl⟩
  · rw [if_pos rfl]
    refine ax_X.steps 7 ⟨a, ⟨by omega, by omega⟩, rfl, ?_⟩
    refine ax_X.steps 5 ⟨a, ⟨by omega, by omega⟩, rfl, ?_⟩
    refine ax_X.steps 1 (ax_go (h1 f n t u b (t 1 a) (t 2 a)) ?_)
    refine ax_X.steps 1 (ax_brF (by rw [hc]; exact bI_n0) ?_)
    exact ax_X.steps 3 ⟨Or.inl rfl, rfl, rfl⟩
def maskI (p : Nat → Bool) : Nat → Int32
  | 0 => 0
  | n + 1 => if p n = true then maskI p n ||| sB n else maskI p n
theorem bt_mask {p : Nat → Bool} : ∀ (n : Nat) {i : Nat}, n ≤ 32 → i < 32 → bt (maskI p n) i = (decide (i < n) && p i)
  | 0, i, _, _ => by
    rw [decide_eq_false (Nat.not_lt_zero i), Bool.false_and]
    exact b_0 i
  | n + 1, i, hn, hi => by
    have ih := bt_mask (p := p) n (i := i) (by omega) hi
    unfold maskI
    by_cases e : i = n
    · subst e
      rw [decide_eq_true (by omega), Bool.true_and]
      cases hp : p i
      · rw [if_neg (by decide), ih, hp, Bool.and_false]
      · rw [if_pos rfl, b_add (by omega) hi, decide_eq_true rfl, Bool.or_true]
    · have e2 : decide (i < n + 1) = decide (i < n) := decide_eq_decide.mpr (by omega)
      rw [e2, ← ih]
      cases hp : p n
      · rw [if_neg (by decide)]
      · rw [if_pos rfl, b_add (by omega) hi, decide_eq_false e, Bool.or_false]
theorem maskI_t {p : Nat → Bool} {n : Nat} (h : p n = true) : maskI p (n + 1) = maskI p n ||| sB n := if_pos h
theorem maskI_f {p : Nat → Bool} {n : Nat} (h : p n = false) : maskI p (n + 1) = maskI p n := if_neg (by rw [h]; decide)
def Sp_N_allIn (C : ax_O) : Prop := ∀ (f : Nat → Int32) (n : Nat) (t : Nat → Nat → Int32) (u : Int32) (b : Nat) (v : Int32), n ≤ 24 → C no_N_allIn [.ref 18, .int v] (oH f n t u b) (ax_is (some (.int (maskI (fun a => decide (t 14 a = v)) n))) (oH f n t u b))
theorem p_N_allIn {C : ax_O} (h1 : Sp_O_only C) : Sp_N_allIn (ax_B ax_Ms ax_Xs C) := by
  intro f n t u b v hn
  have loop : ∀ (k a : Nat) (x : Int32) (m : Int32), x = nI a → m = maskI (fun a => decide (t 14 a = v)) a → a + k = n → ax_X ax_Ms ax_Xs no_N_allIn C (ax_is (some (.int (maskI (fun a => decide (t 14 a = v)) n))) (oH f n t u b)) 4 [some (.ref 18), some (.int v), some (.int m), some (.int x)] [] (oH f n t u b) 0 0 := by
    intro k
    induction k with
    | zero =>
      intro a x m hx hm hk
      subst hx
      have hk : a = n := hk
      subst hk
      subst hm
      refine ax_X.steps 5 (ax_brT (nI_le (by omega) (by omega)) ?_)
      exact ax_X.steps 2 ⟨Or.inl rfl, rfl, rfl⟩
    | succ k ih =>
      intro a x m hx hm hk
      subst hx
      subst hm
      refine ax_X.steps 5 (ax_brF (nI_ge (by omega) (by omega)) ?_)
      refine ax_X.steps 4 ⟨a, ⟨by omega, by omega⟩, rfl, ?_⟩
      refine ax_X.steps 2 (ax_br2 (fun c14 => ?_) (fun c14 => ?_))
      · exact ax_X.steps 2 (ih (a + 1) _ _ (nI_1 a) (maskI_f (decide_eq_false c14)).symm (by omega))
      · refine ax_X.steps 3 (ax_go (h1 _ _) ?_)
        exact ax_X.steps 4 (ih (a + 1) _ _ (nI_1 a) (maskI_t (decide_eq_true (nn c14))).symm (by omega))
  exact ax_X.steps 4 (loop n 0 0 0 rfl rfl (by omega))
def stF (n : Nat) (st : Nat → Int32) : Nat → Int32 := fun a => if a < n ∧ st a = 6 then 4 else st a
theorem stF_0 (st : Nat → Int32) : stF 0 st = st := by
  funext a
  exact if_neg (fun h => absurd h.1 (Nat.not_lt_zero a))
theorem stF_s {st : Nat → Int32} {n : Nat} (h : st n = 6) : upd (stF n st) n 4 = stF (n + 1) st := by
  funext a
  unfold upd stF
  by_cases e : a = n
  · subst e
    rw [if_pos rfl, if_pos ⟨by omega, h⟩]
  · rw [if_neg e]
    by_cases h2 : a < n ∧ st a = 6
    · rw [if_pos h2, if_pos ⟨by omega, h2.2⟩]
    · rw [if_neg h2, if_neg (fun q => h2 ⟨by omega, q.2⟩)]
theorem stF_n {st : Nat → Int32} {n : Nat} (h : ¬ st n = 6) : stF n st = stF (n + 1) st := by
  funext a
  unfold stF
  by_cases h2 : a < n ∧ st a = 6
  · rw [if_pos h2, if_pos ⟨by omega, h2.2⟩]
  · rw [if_neg h2, if_neg]
    intro q
    by_cases e : a = n
    · subst e; exact h q.2
    · exact h2 ⟨by omega, q.2⟩
theorem stF_at {st : Nat → Int32} {n : Nat} : stF n st n = st n := if_neg (fun h => absurd h.1 (Nat.lt_irrefl n))
def Sp_N_stopWaiting (C : ax_O) : Prop := ∀ (f : Nat → Int32) (n : Nat) (t : Nat → Nat → Int32) (u : Int32) (b : Nat), n ≤ 24 → C no_N_stopWaiting [.ref 18] (oH f n t u b) (ax_is none (oH f n (va_up t 14 (stF n (t 14))) u b))
theorem p_N_stopWaiting {C : ax_O} : Sp_N_stopWaiting (ax_B ax_Ms ax_Xs C) := by
  intro f n t u b hn
  have loop : ∀ (k a : Nat) (x : Int32) (g : Nat → Int32), x = nI a → g = stF a (t 14) → a + k = n → ax_X ax_Ms ax_Xs no_N_stopWaiting C (ax_is none (oH f n (va_up t 14 (stF n (t 14))) u b)) 2 [some (.ref 18), some (.int x)] [] (oH f n (va_up t 14 g) u b) 0 0 := by
    intro k
    induction k with
    | zero =>
      intro a x g hx hg hk
      subst hx
      have hk : a = n := hk
      subst hk
      subst hg
      refine ax_X.steps 5 (ax_brT (nI_le (by omega) (by omega)) ?_)
      exact ax_X.steps 1 (⟨rfl, rfl⟩)
    | succ k ih =>
      intro a x g hx hg hk
      subst hx
      subst hg
      refine ax_X.steps 5 (ax_brF (nI_ge (by omega) (by omega)) ?_)
      refine ax_X.steps 4 ⟨a, ⟨by omega, by omega⟩, rfl, ?_⟩
      refine ax_X.steps 2 (ax_br2 (fun c12 => ?_) (fun c12 => ?_))
      · exact ax_X.steps 2 (ih (a + 1) _ (stF a (t 14)) (nI_1 a) (stF_n (fun q => c12 (stF_at.trans q))) (by omega))
      · refine ax_X.steps 5 ⟨a, ⟨by omega, by omega⟩, rfl, ?_⟩
        exact ax_X.steps 2 (ih (a + 1) _ (upd (stF a (t 14)) a 4) (nI_1 a) (stF_s (stF_at.symm.trans (nn c12))) (by omega))
  exact ax_X.steps 2 (loop n 0 0 (t 14) rfl (stF_0 _).symm (by omega))
def olB (t : Nat → Nat → Int32) (a : Nat) : Bool := decide (t 7 a = 0) && (decide (t 14 a = 6) || decide (t 14 a = 7))
def Sp_N_other (C : ax_O) : Prop := ∀ (f : Nat → Int32) (n : Nat) (t : Nat → Nat → Int32) (u : Int32) (b : Nat), n ≤ 24 → C no_N_isOtherThanTestLeft [.ref 18] (oH f n t u b) (ax_is (some (.int (bI (anyB (olB t) n)))) (oH f n t u b))
theorem p_N_other {C : ax_O} : Sp_N_other (ax_B ax_Ms ax_Xs C) := by
  intro f n t u b hn
  have loop : ∀ (k a : Nat) (x : Int32) , x = nI a → anyB (olB t) a = false → a + k = n → ax_X ax_Ms ax_Xs no_N_isOtherThanTestLeft C (ax_is (some (.int (bI (anyB (olB t) n)))) (oH f n t u b)) 2 [some (.ref 18), some (.int x)] [] (oH f n t u b) 0 0 := by
    intro k
    induction k with
    | zero =>
      intro a x  hx hm hk
      subst hx
      have hk : a = n := hk
      subst hk
      rw [hm]
      refine ax_X.steps 5 (ax_brT (nI_le (by omega) (by omega)) ?_)
      exact ax_X.steps 2 ⟨Or.inr (Or.inl rfl), rfl, rfl⟩
    | succ k ih =>
      intro a x  hx hm hk
      subst hx
      refine ax_X.steps 5 (ax_brF (nI_ge (by omega) (by omega)) ?_)
      refine ax_X.steps 5 ⟨a, ⟨by omega, by omega⟩, rfl, ?_⟩
      refine ax_X.steps 1 (ax_br2 (fun c12 => ?_) (fun c12 => ?_))
      · exact ax_X.steps 2 (ih (a + 1) _ (nI_1 a) (by rw [anyB, hm, Bool.false_or]; unfold olB; first | rw [decide_eq_false (show ¬ t 7 a = 0 from c12), Bool.false_and] | rw [decide_eq_false (show ¬ t 14 a = 6 from c18), decide_eq_false (show ¬ t 14 a = 7 from c24), Bool.or_false, Bool.and_false]) (by omega))
      · refine ax_X.steps 4 ⟨a, ⟨by omega, by omega⟩, rfl, ?_⟩
        refine ax_X.steps 2 (ax_br2 (fun c18 => ?_) (fun c18 => ?_))
        · exact ax_X.steps 2 ⟨Or.inr (Or.inr rfl), by rw [anyB_iff.mpr ⟨a, by omega, by unfold olB; rw [decide_eq_true (nn c12), decide_eq_true (show t 14 a = 6 from c18)]; rfl⟩]; rfl, rfl⟩
        · refine ax_X.steps 4 ⟨a, ⟨by omega, by omega⟩, rfl, ?_⟩
          refine ax_X.steps 2 (ax_br2 (fun c24 => ?_) (fun c24 => ?_))
          · exact ax_X.steps 2 (ih (a + 1) _ (nI_1 a) (by rw [anyB, hm, Bool.false_or]; unfold olB; first | rw [decide_eq_false (show ¬ t 7 a = 0 from c12), Bool.false_and] | rw [decide_eq_false (show ¬ t 14 a = 6 from c18), decide_eq_false (show ¬ t 14 a = 7 from c24), Bool.or_false, Bool.and_false]) (by omega))
          · exact ax_X.steps 2 ⟨Or.inr (Or.inr rfl), by rw [anyB_iff.mpr ⟨a, by omega, by unfold olB; rw [decide_eq_true (nn c12), decide_eq_true (nn c24), Bool.or_true]; rfl⟩]; rfl, rfl⟩
  exact ax_X.steps 2 (loop n 0 0 rfl rfl (by omega))
def wtI (t : Nat → Nat → Int32) : Nat → Int32
  | 0 => 0
  | n + 1 => if t 8 n = 0 then wtI t n else wtI t n ||| (sB n ||| t 10 n)
theorem wtI_0 {t : Nat → Nat → Int32} {n : Nat} (h : t 8 n = 0) : wtI t (n + 1) = wtI t n := if_pos h
theorem wtI_1 {t : Nat → Nat → Int32} {n : Nat} (h : ¬ t 8 n = 0) : wtI t (n + 1) = wtI t n ||| (sB n ||| t 10 n) := if_neg h
def Sp_A_wanted (C : ax_O) : Prop := ∀ (f : Nat → Int32) (n : Nat) (t : Nat → Nat → Int32) (u : Int32) (b : Nat), n ≤ 24 → C no_A_wanted [.ref 2] (oH f n t u b) (ax_is (some (.int (wtI t n))) (oH f n t u b))
theorem p_A_wanted {C : ax_O} (h1 : Sp_O_only C) : Sp_A_wanted (ax_B ax_Ms ax_Xs C) := by
  intro f n t u b hn
  have loop : ∀ (k a : Nat) (x : Int32) (m : Int32), x = nI a → m = wtI t a → a + k = n → ax_X ax_Ms ax_Xs no_A_wanted C (ax_is (some (.int (wtI t n))) (oH f n t u b)) 4 [some (.ref 2), some (.int m), some (.int x)] [] (oH f n t u b) 0 0 := by
    intro k
    induction k with
    | zero =>
      intro a x m hx hm hk
      subst hx
      have hk : a = n := hk
      subst hk
      subst hm
      refine ax_X.steps 4 (ax_brT (nI_le (by omega) (by omega)) ?_)
      exact ax_X.steps 2 ⟨Or.inl rfl, rfl, rfl⟩
    | succ k ih =>
      intro a x m hx hm hk
      subst hx
      subst hm
      refine ax_X.steps 4 (ax_brF (nI_ge (by omega) (by omega)) ?_)
      refine ax_X.steps 4 ⟨a, ⟨by omega, by omega⟩, rfl, ?_⟩
      refine ax_X.steps 1 (ax_br2 (fun c12 => ?_) (fun c12 => ?_))
      · exact ax_X.steps 2 (ih (a + 1) _ _ (nI_1 a) (wtI_0 c12).symm (by omega))
      · refine ax_X.steps 3 (ax_go (h1 _ _) ?_)
        refine ax_X.steps 4 ⟨a, ⟨by omega, by omega⟩, rfl, ?_⟩
        exact ax_X.steps 5 (ih (a + 1) _ _ (nI_1 a) (wtI_1 c12).symm (by omega))
  exact ax_X.steps 4 (loop n 0 0 0 rfl rfl (by omega))
def grI (t : Nat → Nat → Int32) (w : Int32) (k : Nat) : Nat → Int32
  | 0 => 0
  | m + 1 => if (bt w m && bt (t 9 m) k) = true then mxI (grI t w k m) (t 11 m) else grI t w k m
def Sp_A_gra (C : ax_O) : Prop := ∀ (f : Nat → Int32) (n : Nat) (t : Nat → Nat → Int32) (u : Int32) (b : Nat) (j : Nat) (w : Int32), n ≤ 24 → j < 24 → C no_A_greatestRestAbove [.ref 2, .int (nI j), .int w] (oH f n t u b) (ax_is (some (.int (grI t w j n))) (oH f n t u b))
theorem p_A_gra {C : ax_O} (h1 : Sp_O_isIn C) : Sp_A_gra (ax_B ax_Ms ax_Xs C) := by
  intro f n t u b j w hn hj
  have loop : ∀ (k a : Nat) (x : Int32) (m : Int32), x = nI a → m = grI t w j a → a + k = n → ax_X ax_Ms ax_Xs no_A_greatestRestAbove C (ax_is (some (.int (grI t w j n))) (oH f n t u b)) 4 [some (.ref 2), some (.int (nI j)), some (.int w), some (.int m), some (.int x)] [] (oH f n t u b) 0 0 := by
    intro k
    induction k with
    | zero =>
      intro a x m hx hm hk
      subst hx
      have hk : a = n := hk
      subst hk
      subst hm
      refine ax_X.steps 4 (ax_brT (nI_le (by omega) (by omega)) ?_)
      exact ax_X.steps 2 ⟨Or.inl rfl, rfl, rfl⟩
    | succ k ih =>
      intro a x m hx hm hk
      subst hx
      subst hm
      cases c1 : bt w a
      · refine ax_X.steps 4 (ax_brF (nI_ge (by omega) (by omega)) ?_)
        refine ax_X.steps 3 (ax_go (h1 _ _ _ false (by omega) c1) ?_)
        refine ax_X.steps 1 (ax_brT (rfl) ?_)
        exact ax_X.steps 2 (ih (a + 1) _ _ (nI_1 a) (by show _ = grI t w j (a + 1); rw [grI, c1]; rfl) (by omega))
      cases c2 : bt (t 9 a) j
      · refine ax_X.steps 4 (ax_brF (nI_ge (by omega) (by omega)) ?_)
        refine ax_X.steps 3 (ax_go (h1 _ _ _ true (by omega) c1) ?_)
        refine ax_X.steps 1 (ax_brF (bI_n0) ?_)
        refine ax_X.steps 4 ⟨a, ⟨by omega, by omega⟩, rfl, ?_⟩
        refine ax_X.steps 2 (ax_go (h1 _ _ _ false (by omega) c2) ?_)
        refine ax_X.steps 1 (ax_brT (rfl) ?_)
        exact ax_X.steps 2 (ih (a + 1) _ _ (nI_1 a) (by show _ = grI t w j (a + 1); rw [grI, c1, c2]; rfl) (by omega))
      · refine ax_X.steps 4 (ax_brF (nI_ge (by omega) (by omega)) ?_)
        refine ax_X.steps 3 (ax_go (h1 _ _ _ true (by omega) c1) ?_)
        refine ax_X.steps 1 (ax_brF (bI_n0) ?_)
        refine ax_X.steps 4 ⟨a, ⟨by omega, by omega⟩, rfl, ?_⟩
        refine ax_X.steps 2 (ax_go (h1 _ _ _ true (by omega) c2) ?_)
        refine ax_X.steps 1 (ax_brF (bI_n0) ?_)
        refine ax_X.steps 5 ⟨a, ⟨by omega, by omega⟩, rfl, ?_⟩
        exact ax_X.steps 4 (ih (a + 1) _ _ (nI_1 a) (by show _ = grI t w j (a + 1); rw [grI, c1, c2]; rfl) (by omega))
  exact ax_X.steps 4 (loop n 0 0 0 rfl rfl (by omega))
def fmN (p : Nat → Bool) (rs : Nat → Int32) : Nat → Option Nat
  | 0 => none
  | m + 1 => match fmN p rs m with
    | none => if p m = true then some m else none
    | some j => if (p m && decide (rs j < rs m)) = true then some m else some j
def oI : Option Nat → Int32
  | none => -1
  | some j => nI j
theorem fmN_lt {p : Nat → Bool} {rs : Nat → Int32} : ∀ {m j : Nat}, fmN p rs m = some j → j < m
  | 0, _, h => by cases h
  | m + 1, j, h => by
    unfold fmN at h
    cases e : fmN p rs m with
    | none =>
      rw [e] at h
      dsimp only at h
      split at h
      · cases h; omega
      · cases h
    | some i =>
      have := fmN_lt e
      rw [e] at h
      dsimp only at h
      split at h
      · cases h; omega
      · cases h; omega
theorem fmN_p {p : Nat → Bool} {rs : Nat → Int32} : ∀ {m j : Nat}, fmN p rs m = some j → p j = true
  | 0, _, h => by cases h
  | m + 1, j, h => by
    unfold fmN at h
    cases e : fmN p rs m with
    | none =>
      rw [e] at h
      dsimp only at h
      split at h
      · cases h; assumption
      · cases h
    | some i =>
      have := fmN_p e
      rw [e] at h
      dsimp only at h
      split at h
      · rename_i q
        rw [Bool.and_eq_true] at q
        cases h; exact q.1
      · cases h; exact this
theorem oI_ne {j : Nat} (h : j < 24) : ¬ nI j = -1 := fun q => by
  have h3 : (nI j).toInt = (j : Int) := nI_toInt (by omega)
  rw [q, show (-1 : Int32).toInt = -1 by decide] at h3
  omega
theorem fmN_k {p : Nat → Bool} {rs : Nat → Int32} {a j : Nat} (h : fmN p rs a = some j) (h2 : rs a ≤ rs j) : oI (some j) = oI (fmN p rs (a + 1)) := by
  rw [fmN, h]
  dsimp only
  rw [if_neg (by rw [decide_eq_false (i_nlt.mpr h2), Bool.and_false]; decide)]
theorem fmN_n {p : Nat → Bool} {rs : Nat → Int32} {a j : Nat} (h : fmN p rs a = some j) (hp : p a = true) (h2 : ¬ rs a ≤ rs j) : nI a = oI (fmN p rs (a + 1)) := by
  rw [fmN, h]
  dsimp only
  rw [if_pos (by rw [hp, decide_eq_true (i_nle.mp h2)]; rfl)]
  rfl
def Sp_N_foremost (C : ax_O) : Prop := ∀ (f : Nat → Int32) (n : Nat) (t : Nat → Nat → Int32) (u : Int32) (b : Nat) (w : Int32), n ≤ 24 → C no_N_foremost [.ref 18, .int w] (oH f n t u b) (ax_is (some (.int (oI (fmN (bt w) (t 11) n)))) (oH f n t u b))
theorem p_N_foremost {C : ax_O} (h1 : Sp_O_isIn C) : Sp_N_foremost (ax_B ax_Ms ax_Xs C) := by
  intro f n t u b w hn
  have loop : ∀ (k a : Nat) (x : Int32) (m : Int32), x = nI a → m = oI (fmN (bt w) (t 11) a) → a + k = n → ax_X ax_Ms ax_Xs no_N_foremost C (ax_is (some (.int (oI (fmN (bt w) (t 11) n)))) (oH f n t u b)) 4 [some (.ref 18), some (.int w), some (.int m), some (.int x)] [] (oH f n t u b) 0 0 := by
    intro k
    induction k with
    | zero =>
      intro a x m hx hm hk
      subst hx
      have hk : a = n := hk
      subst hk
      subst hm
      refine ax_X.steps 5 (ax_brT (nI_le (by omega) (by omega)) ?_)
      exact ax_X.steps 2 ⟨Or.inl rfl, rfl, rfl⟩
    | succ k ih =>
      intro a x m hx hm hk
      subst hx
      subst hm
      cases c1 : bt w a
      · have e : oI (fmN (bt w) (t 11) a) = oI (fmN (bt w) (t 11) (a + 1)) := by
          rw [fmN]
          cases fmN (bt w) (t 11) a <;> simp [c1]
        refine ax_X.steps 5 (ax_brF (nI_ge (by omega) (by omega)) ?_)
        refine ax_X.steps 3 (ax_go (h1 _ _ _ false (by omega) c1) ?_)
        refine ax_X.steps 1 (ax_brT (rfl) ?_)
        exact ax_X.steps 2 (ih (a + 1) _ _ (nI_1 a) e (by omega))
      cases c2 : fmN (bt w) (t 11) a with
      | none =>
        have e : nI a = oI (fmN (bt w) (t 11) (a + 1)) := by
          rw [fmN, c2]
          simp [c1, oI]
        refine ax_X.steps 5 (ax_brF (nI_ge (by omega) (by omega)) ?_)
        refine ax_X.steps 3 (ax_go (h1 _ _ _ true (by omega) c1) ?_)
        refine ax_X.steps 1 (ax_brF (bI_n0) ?_)
        refine ax_X.steps 3 (ax_brT (rfl) ?_)
        exact ax_X.steps 4 (ih (a + 1) _ _ (nI_1 a) e (by omega))
      | some j =>
        have hj := fmN_lt c2
        refine ax_X.steps 5 (ax_brF (nI_ge (by omega) (by omega)) ?_)
        refine ax_X.steps 3 (ax_go (h1 _ _ _ true (by omega) c1) ?_)
        refine ax_X.steps 1 (ax_brF (bI_n0) ?_)
        refine ax_X.steps 3 (ax_brF (oI_ne (by omega)) ?_)
        refine ax_X.steps 5 ⟨a, ⟨by omega, by omega⟩, rfl, ?_⟩
        refine ax_X.steps 5 ⟨j, ⟨by omega, by omega⟩, rfl, ?_⟩
        refine ax_X.steps 1 (ax_br2 (fun c26 => ?_) (fun c26 => ?_))
        · exact ax_X.steps 2 (ih (a + 1) _ _ (nI_1 a) (fmN_k c2 c26) (by omega))
        · exact ax_X.steps 4 (ih (a + 1) _ _ (nI_1 a) (fmN_n c2 c1 c26) (by omega))
  exact ax_X.steps 4 (loop n 0 0 (-1) rfl rfl (by omega))
def soI (x y : Int32) : Int32 := if x = -1 then y else if y = -1 then x else mnI x y
def Sp_N_sooner (C : ax_O) : Prop := ∀ (h : ax_H) (x y : Int32), C no_N_sooner [.int x, .int y] h (ax_is (some (.int (soI x y))) h)
theorem p_N_sooner {C : ax_O} : Sp_N_sooner (ax_B ax_Ms ax_Xs C) := by
  intro h x y
  unfold soI
  refine ax_X.steps 3 (ax_br2 (fun c2 => ?_) (fun c2 => ?_))
  · refine ax_X.steps 3 (ax_br2 (fun c7 => ?_) (fun c7 => ?_))
    · exact ax_X.steps 4 ⟨Or.inl rfl, by rw [if_neg (show ¬ x = -1 from c2), if_neg (show ¬ y = -1 from c7)]; rfl, rfl⟩
    · exact ax_X.steps 3 ⟨Or.inl rfl, by rw [if_neg (show ¬ x = -1 from c2), if_pos (nn c7)], rfl⟩
  · exact ax_X.steps 2 ⟨Or.inl rfl, by rw [if_pos (nn c2)], rfl⟩
def neI (t : Nat → Nat → Int32) : Nat → Int32
  | 0 => -1
  | m + 1 => soI (soI (neI t m) (t 19 m)) (t 20 m)
def Sp_N_nextEnd (C : ax_O) : Prop := ∀ (f : Nat → Int32) (n : Nat) (t : Nat → Nat → Int32) (u : Int32) (b : Nat), n ≤ 24 → C no_N_nextEnd [.ref 18] (oH f n t u b) (ax_is (some (.int (neI t n))) (oH f n t u b))
theorem p_N_nextEnd {C : ax_O} (h1 : Sp_N_sooner C) : Sp_N_nextEnd (ax_B ax_Ms ax_Xs C) := by
  intro f n t u b hn
  have loop : ∀ (k a : Nat) (x : Int32) (m : Int32), x = nI a → m = neI t a → a + k = n → ax_X ax_Ms ax_Xs no_N_nextEnd C (ax_is (some (.int (neI t n))) (oH f n t u b)) 4 [some (.ref 18), some (.int m), some (.int x)] [] (oH f n t u b) 0 0 := by
    intro k
    induction k with
    | zero =>
      intro a x m hx hm hk
      subst hx
      have hk : a = n := hk
      subst hk
      subst hm
      refine ax_X.steps 5 (ax_brT (nI_le (by omega) (by omega)) ?_)
      exact ax_X.steps 2 ⟨Or.inl rfl, rfl, rfl⟩
    | succ k ih =>
      intro a x m hx hm hk
      subst hx
      subst hm
      refine ax_X.steps 5 (ax_brF (nI_ge (by omega) (by omega)) ?_)
      refine ax_X.steps 5 ⟨a, ⟨by omega, by omega⟩, rfl, ?_⟩
      refine ax_X.steps 1 (ax_go (h1 _ _ _) ?_)
      refine ax_X.steps 6 ⟨a, ⟨by omega, by omega⟩, rfl, ?_⟩
      refine ax_X.steps 1 (ax_go (h1 _ _ _) ?_)
      exact ax_X.steps 3 (ih (a + 1) _ _ (nI_1 a) rfl (by omega))
  exact ax_X.steps 4 (loop n 0 0 (-1) rfl rfl (by omega))
