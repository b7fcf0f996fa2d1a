/-! The class: what asks and sets. Sp_..: what a method does, of whatever calls C; p_..: its body does it, if what it calls does. -/
theorem bI_n0 : ¬ bI true = 0 := by decide
def inB (x lo hi : Int32) : Bool := decide (lo ≤ x) && decide (x ≤ hi)
def hasB (n : Nat) (x : Int32) : Bool := decide (0 ≤ x) && decide (x < nI n)
theorem i_nlt {x y : Int32} : ¬ x < y ↔ y ≤ x := by rw [Int32.lt_iff_toInt_lt, Int32.le_iff_toInt_le]; omega
theorem i_nle {x y : Int32} : ¬ x ≤ y ↔ y < x := by rw [Int32.lt_iff_toInt_lt, Int32.le_iff_toInt_le]; omega
theorem inB_a {x lo hi : Int32} (h : x < lo) : inB x lo hi = false := by
  unfold inB
  rw [decide_eq_false (i_nle.mpr h), Bool.false_and]
theorem inB_b {x lo hi : Int32} (h : hi < x) : inB x lo hi = false := by
  unfold inB
  rw [decide_eq_false (i_nle.mpr h), Bool.and_false]
theorem inB_c {x lo hi : Int32} (h1 : ¬ x < lo) (h2 : ¬ hi < x) : inB x lo hi = true := by
  unfold inB
  rw [decide_eq_true (i_nlt.mp h1), decide_eq_true (i_nlt.mp h2)]
  rfl
theorem hasB_a {x : Int32} {n : Nat} (h : x < 0) : hasB n x = false := by
  unfold hasB
  rw [decide_eq_false (i_nle.mpr h), Bool.false_and]
theorem hasB_b {x : Int32} {n : Nat} (h : nI n ≤ x) : hasB n x = false := by
  unfold hasB
  rw [decide_eq_false (i_nlt.mpr h), Bool.and_false]
theorem hasB_c {x : Int32} {n : Nat} (h1 : ¬ x < 0) (h2 : ¬ nI n ≤ x) : hasB n x = true := by
  unfold hasB
  rw [decide_eq_true (i_nlt.mp h1), decide_eq_true (i_nle.mp h2)]
  rfl
theorem hasB_k {n k : Nat} (hn : n ≤ 24) (hk : k < n) : hasB n (nI k) = true := hasB_c (nI_pos (by omega)) (nI_ge hk (by omega))
def Sp_O_only (C : ax_O) : Prop := ∀ (h : ax_H) (k : Nat), C no_O_only [.int (nI k)] h (ax_is (some (.int (sB k))) h)
theorem p_O_only {C : ax_O} : Sp_O_only (ax_B ax_Ms ax_Xs C) := by
  intro h k
  refine ax_X.steps 4 ?_
  exact ⟨Or.inl rfl, rfl, rfl⟩
def Sp_O_isIn (C : ax_O) : Prop := ∀ (h : ax_H) (x : Int32) (k : Nat) (c : Bool), k < 32 → bt x k = c → C no_O_isIn [.int x, .int (nI k)] h (ax_is (some (.int (bI c))) h)
theorem p_O_isIn {C : ax_O} (h1 : Sp_O_only C) : Sp_O_isIn (ax_B ax_Ms ax_Xs C) := by
  intro h x k c hk hc
  cases c
  · refine ax_X.steps 3 (ax_go (h1 h k) ?_)
    refine ax_X.steps 2 (ax_brT ((b_in hk).mpr hc) ?_)
    exact ax_X.steps 2 ⟨Or.inr (Or.inl rfl), rfl, rfl⟩
  · refine ax_X.steps 3 (ax_go (h1 h k) ?_)
    refine ax_X.steps 2 (ax_brF (fun q => by rw [(b_in hk).mp q] at hc; cases hc) ?_)
    exact ax_X.steps 3 ⟨Or.inr (Or.inr rfl), rfl, rfl⟩
def Sp_O_within (C : ax_O) : Prop := ∀ (h : ax_H) (x lo hi : Int32) (c : Bool), inB x lo hi = c → C no_O_within [.int x, .int lo, .int hi] h (ax_is (some (.int (bI c))) h)
theorem p_O_within {C : ax_O} : Sp_O_within (ax_B ax_Ms ax_Xs C) := by
  intro h x lo hi c hc
  subst hc
  refine ax_X.steps 3 (ax_br2 (fun c1 => ?_) (fun c1 => ?_))
  · rw [inB_a c1]
    exact ax_X.steps 2 ⟨Or.inr (Or.inl rfl), rfl, rfl⟩
  · refine ax_X.steps 3 (ax_br2 (fun c2 => ?_) (fun c2 => ?_))
    · rw [inB_b c2]
      exact ax_X.steps 2 ⟨Or.inr (Or.inl rfl), rfl, rfl⟩
    · rw [inB_c c1 c2]
      exact ax_X.steps 3 ⟨Or.inr (Or.inr rfl), rfl, rfl⟩
def Sp_O_nearest (C : ax_O) : Prop := ∀ (h : ax_H) (x lo hi : Int32), C no_O_nearest [.int x, .int lo, .int hi] h (ax_is (some (.int (mxI lo (mnI x hi)))) h)
theorem p_O_nearest {C : ax_O} : Sp_O_nearest (ax_B ax_Ms ax_Xs C) := by
  intro h x lo hi
  exact ax_X.steps 6 ⟨Or.inl rfl, rfl, rfl⟩
def Sp_A_has (C : ax_O) : Prop := ∀ (f : Nat → Int32) (n : Nat) (t : Nat → Nat → Int32) (u : Int32) (b : Nat) (x : Int32) (c : Bool), hasB n x = c → C no_A_has [.ref 2, .int x] (oH f n t u b) (ax_is (some (.int (bI c))) (oH f n t u b))
theorem p_A_has {C : ax_O} : Sp_A_has (ax_B ax_Ms ax_Xs C) := by
  intro f n t u b x c hc
  subst hc
  refine ax_X.steps 3 (ax_br2 (fun c1 => ?_) (fun c1 => ?_))
  · rw [hasB_a c1]
    exact ax_X.steps 2 ⟨Or.inr (Or.inl rfl), rfl, rfl⟩
  · refine ax_X.steps 4 (ax_br2 (fun c2 => ?_) (fun c2 => ?_))
    · rw [hasB_b c2]
      exact ax_X.steps 2 ⟨Or.inr (Or.inl rfl), rfl, rfl⟩
    · rw [hasB_c c1 c2]
      exact ax_X.steps 3 ⟨Or.inr (Or.inr rfl), rfl, rfl⟩
def Sp_O_slots_1 (C : ax_O) : Prop := ∀ (f : Nat → Int32) (n : Nat) (t : Nat → Nat → Int32) (u : Int32) (b : Nat) (x : Int32), inB x 0 4 = true → C no_O_slots [.ref 0, .int x] (oH f n t u b) (ax_is (some (.int 1)) (oH (va_up f 2 x) n t u b))
theorem p_O_slots_1 {C : ax_O} (hW : Sp_O_within C) : Sp_O_slots_1 (ax_B ax_Ms ax_Xs C) := by
  intro f n t u b x hx
  refine ax_X.steps 4 (ax_go (hW _ _ _ _ true hx) ?_)
  refine ax_X.steps 1 (ax_brT (bI_n0) ?_)
  refine ax_X.steps 4 ⟨Or.inl rfl, ?_⟩
  exact ax_X.steps 2 ⟨Or.inr (Or.inr rfl), rfl, rfl⟩
def Sp_O_slots_0 (C : ax_O) : Prop := ∀ (f : Nat → Int32) (n : Nat) (t : Nat → Nat → Int32) (u : Int32) (b : Nat) (x : Int32), inB x 0 4 = false → C no_O_slots [.ref 0, .int x] (oH f n t u b) (ax_is (some (.int 0)) (oH f n t u b))
theorem p_O_slots_0 {C : ax_O} (hW : Sp_O_within C) : Sp_O_slots_0 (ax_B ax_Ms ax_Xs C) := by
  intro f n t u b x hx
  refine ax_X.steps 4 (ax_go (hW _ _ _ _ false hx) ?_)
  refine ax_X.steps 1 (ax_brF (fun q => q rfl) ?_)
  exact ax_X.steps 2 ⟨Or.inr (Or.inl rfl), rfl, rfl⟩
def actR (t : Nat → Nat → Int32) (n : Nat) (x y z : Int32) : Nat → Nat → Int32 := ts (ts (ts t 0 n x) 1 n y) 2 n z
def Sp_A_add_1 (C : ax_O) : Prop := ∀ (f : Nat → Int32) (n : Nat) (t : Nat → Nat → Int32) (u : Int32) (b : Nat) (x y z : Int32), n < 24 → C no_A_add [.ref 2, .int x, .int y, .int z] (oH f n t u b) (ax_is (some (.int (nI n))) (oH f (n + 1) (actR t n x y z) u b))
theorem p_A_add_1 {C : ax_O} : Sp_A_add_1 (ax_B ax_Ms ax_Xs C) := by
  intro f n t u b x y z hn
  refine ax_X.steps 4 (ax_brT (nI_lt (b := 24) hn (by decide)) ?_)
  refine ax_X.steps 6 ⟨n, ⟨by omega, by omega⟩, rfl, ?_⟩
  refine ax_X.steps 6 ⟨n, ⟨by omega, by omega⟩, rfl, ?_⟩
  refine ax_X.steps 6 ⟨n, ⟨by omega, by omega⟩, rfl, ?_⟩
  refine ax_X.steps 6 ⟨Or.inl rfl, ?_⟩
  exact ax_X.steps 5 ⟨Or.inl rfl, congrArg (fun q => some (Value.int q)) (show nI n + 1 - 1 = nI n by rw [nI_1, nI_pred]), by rw [show oH f (n + 1) (actR t n x y z) u b = (oH f n (actR t n x y z) u b).set 2 (.inr (2, [.int (nI (n + 1)), .ref 3, .ref 4, .ref 5, .ref 6, .ref 7, .ref 8, .ref 9, .ref 10, .ref 11, .ref 12, .ref 13, .ref 14])) from rfl, ← nI_1]; rfl⟩
def Sp_A_add_0 (C : ax_O) : Prop := ∀ (f : Nat → Int32) (n : Nat) (t : Nat → Nat → Int32) (u : Int32) (b : Nat) (x y z : Int32), n = 24 → C no_A_add [.ref 2, .int x, .int y, .int z] (oH f n t u b) (ax_is (some (.int (-1))) (oH f n t u b))
theorem p_A_add_0 {C : ax_O} : Sp_A_add_0 (ax_B ax_Ms ax_Xs C) := by
  intro f n t u b x y z hn
  subst hn
  refine ax_X.steps 4 (ax_brF ((by decide +kernel : ¬ (24 : Int32) < 24)) ?_)
  exact ax_X.steps 2 ⟨Or.inl rfl, rfl, rfl⟩
def actB (x y z : Int32) : Bool := inB x 1 1000 && (inB y 0 16 && inB z 0 1000000)
def Sp_O_action_1 (C : ax_O) : Prop := ∀ (f : Nat → Int32) (n : Nat) (t : Nat → Nat → Int32) (u : Int32) (b : Nat) (x y z : Int32), n < 24 → actB x y z = true → C no_O_action [.ref 0, .int x, .int y, .int z] (oH f n t u b) (ax_is (some (.int (nI n))) (oH f (n + 1) (actR t n x y z) u b))
theorem p_O_action_1 {C : ax_O} (hW : Sp_O_within C) (h1 : Sp_A_add_1 C) (h0 : Sp_A_add_0 C) : Sp_O_action_1 (ax_B ax_Ms ax_Xs C) := by
  intro f n t u b x y z hn hx
  unfold actB at hx
  simp only [Bool.and_eq_true] at hx
  obtain ⟨a1, a2, a3⟩ := hx
  refine ax_X.steps 4 (ax_go (hW _ _ _ _ true a1) ?_)
  refine ax_X.steps 1 (ax_brF (bI_n0) ?_)
  refine ax_X.steps 4 (ax_go (hW _ _ _ _ true a2) ?_)
  refine ax_X.steps 1 (ax_brF (bI_n0) ?_)
  refine ax_X.steps 4 (ax_go (hW _ _ _ _ true a3) ?_)
  refine ax_X.steps 1 (ax_brF (bI_n0) ?_)
  refine ax_X.steps 5 (ax_brF (bI_n0) ?_)
  refine ax_X.steps 6 (ax_go (h1 f n t u b x y z hn) ?_)
  exact ax_X.steps 2 ⟨Or.inl rfl, rfl, rfl⟩
def Sp_O_action_0 (C : ax_O) : Prop := ∀ (f : Nat → Int32) (n : Nat) (t : Nat → Nat → Int32) (u : Int32) (b : Nat) (x y z : Int32), n ≤ 24 → (n = 24 ∨ actB x y z = false) → C no_O_action [.ref 0, .int x, .int y, .int z] (oH f n t u b) (ax_is (some (.int (-1))) (oH f n t u b))
theorem p_O_action_0 {C : ax_O} (hW : Sp_O_within C) (h1 : Sp_A_add_1 C) (h0 : Sp_A_add_0 C) : Sp_O_action_0 (ax_B ax_Ms ax_Xs C) := by
  intro f n t u b x y z hn hx
  cases a1 : inB x 1 1000
  · refine ax_X.steps 4 (ax_go (hW _ _ _ _ false a1) ?_)
    refine ax_X.steps 1 (ax_brT (rfl) ?_)
    refine ax_X.steps 4 (ax_brT (rfl) ?_)
    exact ax_X.steps 2 ⟨Or.inl rfl, rfl, rfl⟩
  cases a2 : inB y 0 16
  · refine ax_X.steps 4 (ax_go (hW _ _ _ _ true a1) ?_)
    refine ax_X.steps 1 (ax_brF (bI_n0) ?_)
    refine ax_X.steps 4 (ax_go (hW _ _ _ _ false a2) ?_)
    refine ax_X.steps 1 (ax_brT (rfl) ?_)
    refine ax_X.steps 4 (ax_brT (rfl) ?_)
    exact ax_X.steps 2 ⟨Or.inl rfl, rfl, rfl⟩
  cases a3 : inB z 0 1000000
  · refine ax_X.steps 4 (ax_go (hW _ _ _ _ true a1) ?_)
    refine ax_X.steps 1 (ax_brF (bI_n0) ?_)
    refine ax_X.steps 4 (ax_go (hW _ _ _ _ true a2) ?_)
    refine ax_X.steps 1 (ax_brF (bI_n0) ?_)
    refine ax_X.steps 4 (ax_go (hW _ _ _ _ false a3) ?_)
    refine ax_X.steps 1 (ax_brT (rfl) ?_)
    refine ax_X.steps 4 (ax_brT (rfl) ?_)
    exact ax_X.steps 2 ⟨Or.inl rfl, rfl, rfl⟩
  · have e : n = 24 := hx.resolve_right (by unfold actB; rw [a1, a2, a3]; decide)
    refine ax_X.steps 4 (ax_go (hW _ _ _ _ true a1) ?_)
    refine ax_X.steps 1 (ax_brF (bI_n0) ?_)
    refine ax_X.steps 4 (ax_go (hW _ _ _ _ true a2) ?_)
    refine ax_X.steps 1 (ax_brF (bI_n0) ?_)
    refine ax_X.steps 4 (ax_go (hW _ _ _ _ true a3) ?_)
    refine ax_X.steps 1 (ax_brF (bI_n0) ?_)
    refine ax_X.steps 5 (ax_brF (bI_n0) ?_)
    refine ax_X.steps 6 (ax_go (h0 f n t u b x y z e) ?_)
    exact ax_X.steps 2 ⟨Or.inl rfl, rfl, rfl⟩
def Sp_O_about_1 (C : ax_O) : Prop := ∀ (f : Nat → Int32) (n : Nat) (t : Nat → Nat → Int32) (u : Int32) (b : Nat) (k : Nat) (z : Bool) (l w : Int32), n ≤ 24 → k < n → inB w 0 1000 = true → C no_O_about [.ref 0, .int (nI k), .int (bI z), .int l, .int w] (oH f n t u b) (ax_is (some (.int 1)) (oH f n (ts (ts (ts t 7 k (bI z &&& 1)) 3 k (l &&& 255)) 4 k w) u b))
theorem p_O_about_1 {C : ax_O} (hW : Sp_O_within C) (hH : Sp_A_has C) : Sp_O_about_1 (ax_B ax_Ms ax_Xs C) := by
  intro f n t u b k z l w hn hk hw
  refine ax_X.steps 4 (ax_go (hH _ _ _ _ _ _ true (hasB_k hn hk)) ?_)
  refine ax_X.steps 1 (ax_brF (bI_n0) ?_)
  refine ax_X.steps 4 (ax_go (hW _ _ _ _ true hw) ?_)
  refine ax_X.steps 1 (ax_brT (bI_n0) ?_)
  refine ax_X.steps 6 ⟨k, ⟨by omega, by omega⟩, rfl, ?_⟩
  refine ax_X.steps 8 ⟨k, ⟨by omega, by omega⟩, rfl, ?_⟩
  refine ax_X.steps 6 ⟨k, ⟨by omega, by omega⟩, rfl, ?_⟩
  exact ax_X.steps 2 ⟨Or.inr (Or.inr rfl), rfl, rfl⟩
def Sp_O_about_0 (C : ax_O) : Prop := ∀ (f : Nat → Int32) (n : Nat) (t : Nat → Nat → Int32) (u : Int32) (b : Nat) (x v l w : Int32), (hasB n x = false ∨ inB w 0 1000 = false) → C no_O_about [.ref 0, .int x, .int v, .int l, .int w] (oH f n t u b) (ax_is (some (.int 0)) (oH f n t u b))
theorem p_O_about_0 {C : ax_O} (hW : Sp_O_within C) (hH : Sp_A_has C) : Sp_O_about_0 (ax_B ax_Ms ax_Xs C) := by
  intro f n t u b x v l w hx
  cases a1 : hasB n x
  · refine ax_X.steps 4 (ax_go (hH _ _ _ _ _ _ false a1) ?_)
    refine ax_X.steps 1 (ax_brT (rfl) ?_)
    exact ax_X.steps 2 ⟨Or.inr (Or.inl rfl), rfl, rfl⟩
  · have a2 : inB w 0 1000 = false := hx.resolve_left (by rw [a1]; decide)
    refine ax_X.steps 4 (ax_go (hH _ _ _ _ _ _ true a1) ?_)
    refine ax_X.steps 1 (ax_brF (bI_n0) ?_)
    refine ax_X.steps 4 (ax_go (hW _ _ _ _ false a2) ?_)
    refine ax_X.steps 1 (ax_brF (fun q => q rfl) ?_)
    exact ax_X.steps 2 ⟨Or.inr (Or.inl rfl), rfl, rfl⟩
def Sp_O_fails_1 (C : ax_O) : Prop := ∀ (f : Nat → Int32) (n : Nat) (t : Nat → Nat → Int32) (u : Int32) (b : Nat) (k : Nat) (v w : Int32), n ≤ 24 → k < n → inB v 0 3 = true → inB w 0 3 = true → C no_O_fails [.ref 0, .int (nI k), .int v, .int w] (oH f n t u b) (ax_is (some (.int 1)) (oH f n (ts (ts t 5 k v) 6 k w) u b))
theorem p_O_fails_1 {C : ax_O} (hW : Sp_O_within C) (hH : Sp_A_has C) : Sp_O_fails_1 (ax_B ax_Ms ax_Xs C) := by
  intro f n t u b k v w hn hk hv hw
  refine ax_X.steps 4 (ax_go (hH _ _ _ _ _ _ true (hasB_k hn hk)) ?_)
  refine ax_X.steps 1 (ax_brF (bI_n0) ?_)
  refine ax_X.steps 4 (ax_go (hW _ _ _ _ true hv) ?_)
  refine ax_X.steps 1 (ax_brF (bI_n0) ?_)
  refine ax_X.steps 4 (ax_go (hW _ _ _ _ true hw) ?_)
  refine ax_X.steps 1 (ax_brT (bI_n0) ?_)
  refine ax_X.steps 6 ⟨k, ⟨by omega, by omega⟩, rfl, ?_⟩
  refine ax_X.steps 6 ⟨k, ⟨by omega, by omega⟩, rfl, ?_⟩
  exact ax_X.steps 2 ⟨Or.inr (Or.inr rfl), rfl, rfl⟩
def Sp_O_fails_0 (C : ax_O) : Prop := ∀ (f : Nat → Int32) (n : Nat) (t : Nat → Nat → Int32) (u : Int32) (b : Nat) (x v w : Int32), (hasB n x = false ∨ inB v 0 3 = false ∨ inB w 0 3 = false) → C no_O_fails [.ref 0, .int x, .int v, .int w] (oH f n t u b) (ax_is (some (.int 0)) (oH f n t u b))
theorem p_O_fails_0 {C : ax_O} (hW : Sp_O_within C) (hH : Sp_A_has C) : Sp_O_fails_0 (ax_B ax_Ms ax_Xs C) := by
  intro f n t u b x v w hx
  cases a1 : hasB n x
  · refine ax_X.steps 4 (ax_go (hH _ _ _ _ _ _ false a1) ?_)
    refine ax_X.steps 1 (ax_brT (rfl) ?_)
    exact ax_X.steps 2 ⟨Or.inr (Or.inl rfl), rfl, rfl⟩
  cases a2 : inB v 0 3
  · refine ax_X.steps 4 (ax_go (hH _ _ _ _ _ _ true a1) ?_)
    refine ax_X.steps 1 (ax_brF (bI_n0) ?_)
    refine ax_X.steps 4 (ax_go (hW _ _ _ _ false a2) ?_)
    refine ax_X.steps 1 (ax_brT (rfl) ?_)
    exact ax_X.steps 2 ⟨Or.inr (Or.inl rfl), rfl, rfl⟩
  · have a3 : inB w 0 3 = false := (hx.resolve_left (by rw [a1]; decide)).resolve_left (by rw [a2]; decide)
    refine ax_X.steps 4 (ax_go (hH _ _ _ _ _ _ true a1) ?_)
    refine ax_X.steps 1 (ax_brF (bI_n0) ?_)
    refine ax_X.steps 4 (ax_go (hW _ _ _ _ true a2) ?_)
    refine ax_X.steps 1 (ax_brF (bI_n0) ?_)
    refine ax_X.steps 4 (ax_go (hW _ _ _ _ false a3) ?_)
    refine ax_X.steps 1 (ax_brF (fun q => q rfl) ?_)
    exact ax_X.steps 2 ⟨Or.inr (Or.inl rfl), rfl, rfl⟩
def Sp_O_wish_1 (C : ax_O) : Prop := ∀ (f : Nat → Int32) (n : Nat) (t : Nat → Nat → Int32) (u : Int32) (b : Nat) (k : Nat) (z : Bool), n ≤ 24 → k < n → C no_O_wish [.ref 0, .int (nI k), .int (bI z)] (oH f n t u b) (ax_is (some (.int 1)) (oH f n (ts t 8 k (bI z &&& 1)) u b))
theorem p_O_wish_1 {C : ax_O} (hH : Sp_A_has C) : Sp_O_wish_1 (ax_B ax_Ms ax_Xs C) := by
  intro f n t u b k z hn hk
  refine ax_X.steps 4 (ax_go (hH _ _ _ _ _ _ true (hasB_k hn hk)) ?_)
  refine ax_X.steps 1 (ax_brT (bI_n0) ?_)
  refine ax_X.steps 6 ⟨k, ⟨by omega, by omega⟩, rfl, ?_⟩
  exact ax_X.steps 2 ⟨Or.inr (Or.inr rfl), rfl, rfl⟩
def Sp_O_wish_0 (C : ax_O) : Prop := ∀ (f : Nat → Int32) (n : Nat) (t : Nat → Nat → Int32) (u : Int32) (b : Nat) (x v : Int32), hasB n x = false → C no_O_wish [.ref 0, .int x, .int v] (oH f n t u b) (ax_is (some (.int 0)) (oH f n t u b))
theorem p_O_wish_0 {C : ax_O} (hH : Sp_A_has C) : Sp_O_wish_0 (ax_B ax_Ms ax_Xs C) := by
  intro f n t u b x v hx
  refine ax_X.steps 4 (ax_go (hH _ _ _ _ _ _ false hx) ?_)
  refine ax_X.steps 1 (ax_brF (fun q => q rfl) ?_)
  exact ax_X.steps 2 ⟨Or.inr (Or.inl rfl), rfl, rfl⟩
theorem inB_4 {k : Nat} (hk : k < 4) : inB (nI k) 0 3 = true := by
  have : k = 0 ∨ k = 1 ∨ k = 2 ∨ k = 3 := by omega
  rcases this with rfl | rfl | rfl | rfl <;> decide +kernel
def Sp_O_mode_1 (C : ax_O) : Prop := ∀ (f : Nat → Int32) (n : Nat) (t : Nat → Nat → Int32) (u : Int32) (b : Nat) (k : Nat) (z : Bool), k < 4 → C no_O_mode [.ref 0, .int (nI k), .int (bI z)] (oH f n t u b) (ax_is (some (.int 1)) (oH f n (ts t 12 k (bI z &&& 1)) u b))
theorem p_O_mode_1 {C : ax_O} (hW : Sp_O_within C) : Sp_O_mode_1 (ax_B ax_Ms ax_Xs C) := by
  intro f n t u b k z hk
  refine ax_X.steps 4 (ax_go (hW _ _ _ _ true (inB_4 hk)) ?_)
  refine ax_X.steps 1 (ax_brT (bI_n0) ?_)
  refine ax_X.steps 6 ⟨k, ⟨by omega, by omega⟩, rfl, ?_⟩
  exact ax_X.steps 2 ⟨Or.inr (Or.inr rfl), rfl, rfl⟩
def Sp_O_mode_0 (C : ax_O) : Prop := ∀ (f : Nat → Int32) (n : Nat) (t : Nat → Nat → Int32) (u : Int32) (b : Nat) (x v : Int32), inB x 0 3 = false → C no_O_mode [.ref 0, .int x, .int v] (oH f n t u b) (ax_is (some (.int 0)) (oH f n t u b))
theorem p_O_mode_0 {C : ax_O} (hW : Sp_O_within C) : Sp_O_mode_0 (ax_B ax_Ms ax_Xs C) := by
  intro f n t u b x v hx
  refine ax_X.steps 4 (ax_go (hW _ _ _ _ false hx) ?_)
  refine ax_X.steps 1 (ax_brF (fun q => q rfl) ?_)
  exact ax_X.steps 2 ⟨Or.inr (Or.inl rfl), rfl, rfl⟩
def Sp_O_retries_1 (C : ax_O) : Prop := ∀ (f : Nat → Int32) (n : Nat) (t : Nat → Nat → Int32) (u : Int32) (b : Nat) (k : Nat) (w : Int32), k < 4 → inB w 0 3 = true → C no_O_retries [.ref 0, .int (nI k), .int w] (oH f n t u b) (ax_is (some (.int 1)) (oH f n (ts t 13 k w) u b))
theorem p_O_retries_1 {C : ax_O} (hW : Sp_O_within C) : Sp_O_retries_1 (ax_B ax_Ms ax_Xs C) := by
  intro f n t u b k w hk hw
  refine ax_X.steps 4 (ax_go (hW _ _ _ _ true (inB_4 hk)) ?_)
  refine ax_X.steps 1 (ax_brF (bI_n0) ?_)
  refine ax_X.steps 4 (ax_go (hW _ _ _ _ true hw) ?_)
  refine ax_X.steps 1 (ax_brT (bI_n0) ?_)
  refine ax_X.steps 6 ⟨k, ⟨by omega, by omega⟩, rfl, ?_⟩
  exact ax_X.steps 2 ⟨Or.inr (Or.inr rfl), rfl, rfl⟩
def Sp_O_retries_0 (C : ax_O) : Prop := ∀ (f : Nat → Int32) (n : Nat) (t : Nat → Nat → Int32) (u : Int32) (b : Nat) (x w : Int32), (inB x 0 3 = false ∨ inB w 0 3 = false) → C no_O_retries [.ref 0, .int x, .int w] (oH f n t u b) (ax_is (some (.int 0)) (oH f n t u b))
theorem p_O_retries_0 {C : ax_O} (hW : Sp_O_within C) : Sp_O_retries_0 (ax_B ax_Ms ax_Xs C) := by
  intro f n t u b x w hx
  cases a1 : inB x 0 3
  · refine ax_X.steps 4 (ax_go (hW _ _ _ _ false a1) ?_)
    refine ax_X.steps 1 (ax_brT (rfl) ?_)
    exact ax_X.steps 2 ⟨Or.inr (Or.inl rfl), rfl, rfl⟩
  · have a2 : inB w 0 3 = false := hx.resolve_left (by rw [a1]; decide)
    refine ax_X.steps 4 (ax_go (hW _ _ _ _ true a1) ?_)
    refine ax_X.steps 1 (ax_brF (bI_n0) ?_)
    refine ax_X.steps 4 (ax_go (hW _ _ _ _ false a2) ?_)
    refine ax_X.steps 1 (ax_brF (fun q => q rfl) ?_)
    exact ax_X.steps 2 ⟨Or.inr (Or.inl rfl), rfl, rfl⟩
def Sp_O_peak (C : ax_O) : Prop := ∀ (f : Nat → Int32) (n : Nat) (t : Nat → Nat → Int32) (u : Int32) (b : Nat) (x : Int32), C no_O_peak [.ref 0, .int x] (oH f n t u b) (ax_is (some (.int (if x = 0 then f 7 else if x = 1 then f 8 else 0))) (oH f n t u b))
theorem p_O_peak {C : ax_O} : Sp_O_peak (ax_B ax_Ms ax_Xs C) := by
  intro f n t u b x
  by_cases h0 : x = 0
  · rw [if_pos h0]
    subst h0
    refine ax_X.steps 2 (ax_brF (fun q => q rfl) ?_)
    exact ax_X.steps 4 ⟨Or.inl rfl, rfl, rfl⟩
  · rw [if_neg h0]
    by_cases h1 : x = 1
    · rw [if_pos h1]
      subst h1
      refine ax_X.steps 2 (ax_brT (h0) ?_)
      refine ax_X.steps 3 (ax_brF (fun q => q rfl) ?_)
      exact ax_X.steps 5 ⟨Or.inl rfl, rfl, rfl⟩
    · rw [if_neg h1]
      refine ax_X.steps 2 (ax_brT (h0) ?_)
      refine ax_X.steps 3 (ax_brT (h1) ?_)
      exact ax_X.steps 2 ⟨Or.inl rfl, rfl, rfl⟩
