/-! The reference: what asks and sets. -/
def heldI (x lo hi : Int32) : Int32 := if x < lo then lo else if hi < x then hi else x
def Sp_M_held (C : ax_O) : Prop := ∀ (h : ax_H) (x lo hi : Int32), C no_M_held [.int x, .int lo, .int hi] h (ax_is (some (.int (heldI x lo hi))) h)
theorem p_M_held {C : ax_O} : Sp_M_held (ax_B ax_Ms ax_Xs C) := by
  intro h x lo hi
  unfold heldI
  refine ax_X.steps 3 (ax_br2 (fun c1 => ?_) (fun c1 => ?_))
  · rw [if_neg (i_nlt.mpr c1)]
    refine ax_X.steps 3 (ax_br2 (fun c2 => ?_) (fun c2 => ?_))
    · rw [if_neg (i_nlt.mpr c2)]
      exact ax_X.steps 2 ⟨Or.inl rfl, rfl, rfl⟩
    · rw [if_pos (i_nle.mp c2)]
      exact ax_X.steps 3 ⟨Or.inl rfl, rfl, rfl⟩
  · rw [if_pos (i_nle.mp c1)]
    exact ax_X.steps 3 ⟨Or.inl rfl, rfl, rfl⟩
def Sp_M_in (C : ax_O) : Prop := ∀ (h : ax_H) (x lo hi : Int32) (c : Bool), inB x lo hi = c → C no_M_in [.int x, .int lo, .int hi] h (ax_is (some (.int (bI c))) h)
theorem p_M_in {C : ax_O} : Sp_M_in (ax_B ax_Ms ax_Xs C) := by
  intro h x lo hi c hc
  subst hc
  refine ax_X.steps 3 (ax_br2 (fun c1 => ?_) (fun c1 => ?_))
  · rw [inB_a c1]
    exact ax_X.steps 2 ⟨Or.inr (Or.inl rfl), rfl, rfl⟩
  · refine ax_X.steps 3 (ax_br2 (fun c2 => ?_) (fun c2 => ?_))
    · rw [inB_b c2]
      exact ax_X.steps 2 ⟨Or.inr (Or.inl rfl), rfl, rfl⟩
    · rw [inB_c c1 c2]
      exact ax_X.steps 3 ⟨Or.inr (Or.inr rfl), rfl, rfl⟩
theorem inB_has {n : Nat} (hn : n < 1000) (x : Int32) : inB x 0 (nI n - 1) = hasB n x := by
  have e : (nI n - 1).toInt = (n : Int) - 1 := pk_sub_toInt (a := n) (b := 1) (by omega) (by omega)
  have e2 : (nI n).toInt = (n : Int) := nI_toInt (by omega)
  unfold inB hasB
  congr 1
  apply decide_eq_decide.mpr
  rw [Int32.lt_iff_toInt_lt, Int32.le_iff_toInt_le, e, e2]
  omega
def Sp_M_isAction (C : ax_O) : Prop := ∀ (f : Nat → Int32) (n kn : Nat) (t : Nat → Nat → Int32) (b : Nat) (x : Int32) (c : Bool), n ≤ 24 → hasB n x = c → C no_M_isAction [.ref 0, .int x] (mH f n kn t b) (ax_is (some (.int (bI c))) (mH f n kn t b))
theorem p_M_isAction {C : ax_O} (hW : Sp_M_in C) : Sp_M_isAction (ax_B ax_Ms ax_Xs C) := by
  intro f n kn t b x c hn hc
  refine ax_X.steps 7 (ax_go (hW _ x 0 (nI n - 1) c ((inB_has (by omega) x).trans hc)) ?_)
  exact ax_X.steps 1 ⟨Or.inr (bI_01 c), rfl, rfl⟩
def Sp_M_slots_1 (C : ax_O) : Prop := ∀ (f : Nat → Int32) (n kn : Nat) (t : Nat → Nat → Int32) (b : Nat) (x : Int32), inB x 0 4 = true → C no_M_slots [.ref 0, .int x] (mH f n kn t b) (ax_is (some (.int 1)) (mH (va_up f 2 x) n kn t b))
theorem p_M_slots_1 {C : ax_O} (hW : Sp_M_in C) : Sp_M_slots_1 (ax_B ax_Ms ax_Xs C) := by
  intro f n kn t b x hx
  refine ax_X.steps 3 ⟨Or.inl rfl, ?_⟩
  refine ax_X.steps 4 (ax_go (hW _ _ _ _ true hx) ?_)
  refine ax_X.steps 1 (ax_brT (bI_n0) ?_)
  refine ax_X.steps 3 ⟨Or.inl rfl, ?_⟩
  exact ax_X.steps 2 ⟨Or.inr (Or.inr rfl), rfl, rfl⟩
def Sp_M_slots_0 (C : ax_O) : Prop := ∀ (f : Nat → Int32) (n kn : Nat) (t : Nat → Nat → Int32) (b : Nat) (x : Int32), inB x 0 4 = false → C no_M_slots [.ref 0, .int x] (mH f n kn t b) (ax_is (some (.int 0)) (mH f n kn t b))
theorem p_M_slots_0 {C : ax_O} (hW : Sp_M_in C) : Sp_M_slots_0 (ax_B ax_Ms ax_Xs C) := by
  intro f n kn t b x hx
  refine ax_X.steps 3 ⟨Or.inl rfl, ?_⟩
  refine ax_X.steps 4 (ax_go (hW _ _ _ _ false hx) ?_)
  refine ax_X.steps 1 (ax_brF (fun q => q rfl) ?_)
  exact ax_X.steps 2 ⟨Or.inr (Or.inl rfl), rfl, rfl⟩
def Sp_M_action_1 (C : ax_O) : Prop := ∀ (f : Nat → Int32) (n kn : Nat) (t : Nat → Nat → Int32) (b : Nat) (x y z : Int32), n < 24 → actB x y z = true → C no_M_action [.ref 0, .int x, .int y, .int z] (mH f n kn t b) (ax_is (some (.int (nI n))) (mH f (n + 1) kn (actR t n x y z) b))
theorem p_M_action_1 {C : ax_O} (hW : Sp_M_in C) : Sp_M_action_1 (ax_B ax_Ms ax_Xs C) := by
  intro f n kn t b x y z hn hx
  unfold actB at hx
  simp only [Bool.and_eq_true] at hx
  obtain ⟨a1, a2, a3⟩ := hx
  refine ax_X.steps 3 ⟨Or.inl rfl, ?_⟩
  refine ax_X.steps 4 (ax_brF (fun q => absurd ((nI_eq (b := 24) (by omega) (by omega)).mp q) (by omega)) ?_)
  refine ax_X.steps 4 (ax_go (hW _ _ _ _ true a1) ?_)
  refine ax_X.steps 1 (ax_brF (bI_n0) ?_)
  refine ax_X.steps 4 (ax_go (hW _ _ _ _ true a2) ?_)
  refine ax_X.steps 1 (ax_brF (bI_n0) ?_)
  refine ax_X.steps 4 (ax_go (hW _ _ _ _ true a3) ?_)
  refine ax_X.steps 1 (ax_brT (bI_n0) ?_)
  refine ax_X.steps 6 ⟨n, ⟨by omega, by omega⟩, rfl, ?_⟩
  refine ax_X.steps 6 ⟨n, ⟨by omega, by omega⟩, rfl, ?_⟩
  refine ax_X.steps 6 ⟨n, ⟨by omega, by omega⟩, rfl, ?_⟩
  refine ax_X.steps 6 ⟨Or.inl rfl, ?_⟩
  exact ax_X.steps 5 ⟨Or.inl rfl, congrArg (fun q => some (Value.int q)) (show nI n + 1 - 1 = nI n by rw [nI_1, nI_pred]), by rw [show mH f (n + 1) kn (actR t n x y z) b = (mH f n kn (actR t n x y z) b).set 0 (.inr (5, [.int 0, .int (f 0), .int (f 1), .int (f 2), .int (nI (n + 1)), .ref 1, .ref 2, .ref 3, .ref 4, .ref 5, .ref 6, .ref 7, .ref 8, .ref 9, .ref 10, .ref 11, .ref 12, .ref 13, .ref 14, .int (nI kn), .ref 15, .ref 16, .ref 17, .ref 18, .ref 19, .ref 20, .ref 21, .ref 22, .ref 23, .ref 24, .int (nI b), .int (f 3), .int (f 4), .int (f 5), .int (f 6)])) from rfl, ← nI_1]; rfl⟩
def Sp_M_action_0 (C : ax_O) : Prop := ∀ (f : Nat → Int32) (n kn : Nat) (t : Nat → Nat → Int32) (b : Nat) (x y z : Int32), n ≤ 24 → (n = 24 ∨ actB x y z = false) → C no_M_action [.ref 0, .int x, .int y, .int z] (mH f n kn t b) (ax_is (some (.int (-1))) (mH f n kn t b))
theorem p_M_action_0 {C : ax_O} (hW : Sp_M_in C) : Sp_M_action_0 (ax_B ax_Ms ax_Xs C) := by
  intro f n kn t b x y z hn hx
  by_cases hn4 : n = 24
  · subst hn4
    refine ax_X.steps 3 ⟨Or.inl rfl, ?_⟩
    refine ax_X.steps 4 (ax_brT (rfl) ?_)
    exact ax_X.steps 2 ⟨Or.inl rfl, rfl, rfl⟩
  have hne : ¬ nI n = 24 := fun q => hn4 ((nI_eq (b := 24) (by omega) (by omega)).mp q)
  cases a1 : inB x 1 1000
  · refine ax_X.steps 3 ⟨Or.inl rfl, ?_⟩
    refine ax_X.steps 4 (ax_brF (hne) ?_)
    refine ax_X.steps 4 (ax_go (hW _ _ _ _ false a1) ?_)
    refine ax_X.steps 1 (ax_brT (rfl) ?_)
    exact ax_X.steps 2 ⟨Or.inl rfl, rfl, rfl⟩
  cases a2 : inB y 0 16
  · refine ax_X.steps 3 ⟨Or.inl rfl, ?_⟩
    refine ax_X.steps 4 (ax_brF (hne) ?_)
    refine ax_X.steps 4 (ax_go (hW _ _ _ _ true a1) ?_)
    refine ax_X.steps 1 (ax_brF (bI_n0) ?_)
    refine ax_X.steps 4 (ax_go (hW _ _ _ _ false a2) ?_)
    refine ax_X.steps 1 (ax_brT (rfl) ?_)
    exact ax_X.steps 2 ⟨Or.inl rfl, rfl, rfl⟩
  cases a3 : inB z 0 1000000
  · refine ax_X.steps 3 ⟨Or.inl rfl, ?_⟩
    refine ax_X.steps 4 (ax_brF (hne) ?_)
    refine ax_X.steps 4 (ax_go (hW _ _ _ _ true a1) ?_)
    refine ax_X.steps 1 (ax_brF (bI_n0) ?_)
    refine ax_X.steps 4 (ax_go (hW _ _ _ _ true a2) ?_)
    refine ax_X.steps 1 (ax_brF (bI_n0) ?_)
    refine ax_X.steps 4 (ax_go (hW _ _ _ _ false a3) ?_)
    refine ax_X.steps 1 (ax_brF (fun q => q rfl) ?_)
    exact ax_X.steps 2 ⟨Or.inl rfl, rfl, rfl⟩
  · exact absurd (hx.resolve_left hn4) (by unfold actB; rw [a1, a2, a3]; decide)
def Sp_M_about_1 (C : ax_O) : Prop := ∀ (f : Nat → Int32) (n kn : Nat) (t : Nat → Nat → Int32) (b : Nat) (k : Nat) (z : Bool) (l w : Int32), n ≤ 24 → k < n → inB w 0 1000 = true → C no_M_about [.ref 0, .int (nI k), .int (bI z), .int l, .int w] (mH f n kn t b) (ax_is (some (.int 1)) (mH f n kn (ts (ts (ts t 8 k (bI z &&& 1)) 3 k (l &&& 255)) 4 k w) b))
theorem p_M_about_1 {C : ax_O} (hW : Sp_M_in C) (hH : Sp_M_isAction C) : Sp_M_about_1 (ax_B ax_Ms ax_Xs C) := by
  intro f n kn t b k z l w hn hk hw
  refine ax_X.steps 3 ⟨Or.inl rfl, ?_⟩
  refine ax_X.steps 3 (ax_go (hH _ _ _ _ _ _ true hn (hasB_k hn hk)) ?_)
  refine ax_X.steps 1 (ax_brF (bI_n0) ?_)
  refine ax_X.steps 4 (ax_go (hW _ _ _ _ true hw) ?_)
  refine ax_X.steps 1 (ax_brT (bI_n0) ?_)
  refine ax_X.steps 5 ⟨k, ⟨by omega, by omega⟩, rfl, ?_⟩
  refine ax_X.steps 7 ⟨k, ⟨by omega, by omega⟩, rfl, ?_⟩
  refine ax_X.steps 5 ⟨k, ⟨by omega, by omega⟩, rfl, ?_⟩
  exact ax_X.steps 2 ⟨Or.inr (Or.inr rfl), rfl, rfl⟩
def Sp_M_about_0 (C : ax_O) : Prop := ∀ (f : Nat → Int32) (n kn : Nat) (t : Nat → Nat → Int32) (b : Nat) (x v l w : Int32), n ≤ 24 → (hasB n x = false ∨ inB w 0 1000 = false) → C no_M_about [.ref 0, .int x, .int v, .int l, .int w] (mH f n kn t b) (ax_is (some (.int 0)) (mH f n kn t b))
theorem p_M_about_0 {C : ax_O} (hW : Sp_M_in C) (hH : Sp_M_isAction C) : Sp_M_about_0 (ax_B ax_Ms ax_Xs C) := by
  intro f n kn t b x v l w hn hx
  cases a1 : hasB n x
  · refine ax_X.steps 3 ⟨Or.inl rfl, ?_⟩
    refine ax_X.steps 3 (ax_go (hH _ _ _ _ _ _ false hn a1) ?_)
    refine ax_X.steps 1 (ax_brT (rfl) ?_)
    exact ax_X.steps 2 ⟨Or.inr (Or.inl rfl), rfl, rfl⟩
  · have a2 : inB w 0 1000 = false := hx.resolve_left (by rw [a1]; decide)
    refine ax_X.steps 3 ⟨Or.inl rfl, ?_⟩
    refine ax_X.steps 3 (ax_go (hH _ _ _ _ _ _ true hn a1) ?_)
    refine ax_X.steps 1 (ax_brF (bI_n0) ?_)
    refine ax_X.steps 4 (ax_go (hW _ _ _ _ false a2) ?_)
    refine ax_X.steps 1 (ax_brF (fun q => q rfl) ?_)
    exact ax_X.steps 2 ⟨Or.inr (Or.inl rfl), rfl, rfl⟩
def Sp_M_fails_1 (C : ax_O) : Prop := ∀ (f : Nat → Int32) (n kn : Nat) (t : Nat → Nat → Int32) (b : Nat) (k : Nat) (v w : Int32), n ≤ 24 → k < n → inB v 0 3 = true → inB w 0 3 = true → C no_M_fails [.ref 0, .int (nI k), .int v, .int w] (mH f n kn t b) (ax_is (some (.int 1)) (mH f n kn (ts (ts t 5 k v) 6 k w) b))
theorem p_M_fails_1 {C : ax_O} (hW : Sp_M_in C) (hH : Sp_M_isAction C) : Sp_M_fails_1 (ax_B ax_Ms ax_Xs C) := by
  intro f n kn t b k v w hn hk hv hw
  refine ax_X.steps 3 ⟨Or.inl rfl, ?_⟩
  refine ax_X.steps 3 (ax_go (hH _ _ _ _ _ _ true hn (hasB_k hn hk)) ?_)
  refine ax_X.steps 1 (ax_brF (bI_n0) ?_)
  refine ax_X.steps 4 (ax_go (hW _ _ _ _ true hv) ?_)
  refine ax_X.steps 1 (ax_brF (bI_n0) ?_)
  refine ax_X.steps 4 (ax_go (hW _ _ _ _ true hw) ?_)
  refine ax_X.steps 1 (ax_brT (bI_n0) ?_)
  refine ax_X.steps 5 ⟨k, ⟨by omega, by omega⟩, rfl, ?_⟩
  refine ax_X.steps 5 ⟨k, ⟨by omega, by omega⟩, rfl, ?_⟩
  exact ax_X.steps 2 ⟨Or.inr (Or.inr rfl), rfl, rfl⟩
def Sp_M_fails_0 (C : ax_O) : Prop := ∀ (f : Nat → Int32) (n kn : Nat) (t : Nat → Nat → Int32) (b : Nat) (x v w : Int32), n ≤ 24 → (hasB n x = false ∨ inB v 0 3 = false ∨ inB w 0 3 = false) → C no_M_fails [.ref 0, .int x, .int v, .int w] (mH f n kn t b) (ax_is (some (.int 0)) (mH f n kn t b))
theorem p_M_fails_0 {C : ax_O} (hW : Sp_M_in C) (hH : Sp_M_isAction C) : Sp_M_fails_0 (ax_B ax_Ms ax_Xs C) := by
  intro f n kn t b x v w hn hx
  cases a1 : hasB n x
  · refine ax_X.steps 3 ⟨Or.inl rfl, ?_⟩
    refine ax_X.steps 3 (ax_go (hH _ _ _ _ _ _ false hn a1) ?_)
    refine ax_X.steps 1 (ax_brT (rfl) ?_)
    exact ax_X.steps 2 ⟨Or.inr (Or.inl rfl), rfl, rfl⟩
  cases a2 : inB v 0 3
  · refine ax_X.steps 3 ⟨Or.inl rfl, ?_⟩
    refine ax_X.steps 3 (ax_go (hH _ _ _ _ _ _ true hn a1) ?_)
    refine ax_X.steps 1 (ax_brF (bI_n0) ?_)
    refine ax_X.steps 4 (ax_go (hW _ _ _ _ false a2) ?_)
    refine ax_X.steps 1 (ax_brT (rfl) ?_)
    exact ax_X.steps 2 ⟨Or.inr (Or.inl rfl), rfl, rfl⟩
  · have a3 : inB w 0 3 = false := (hx.resolve_left (by rw [a1]; decide)).resolve_left (by rw [a2]; decide)
    refine ax_X.steps 3 ⟨Or.inl rfl, ?_⟩
    refine ax_X.steps 3 (ax_go (hH _ _ _ _ _ _ true hn a1) ?_)
    refine ax_X.steps 1 (ax_brF (bI_n0) ?_)
    refine ax_X.steps 4 (ax_go (hW _ _ _ _ true a2) ?_)
    refine ax_X.steps 1 (ax_brF (bI_n0) ?_)
    refine ax_X.steps 4 (ax_go (hW _ _ _ _ false a3) ?_)
    refine ax_X.steps 1 (ax_brF (fun q => q rfl) ?_)
    exact ax_X.steps 2 ⟨Or.inr (Or.inl rfl), rfl, rfl⟩
def Sp_M_wish_1 (C : ax_O) : Prop := ∀ (f : Nat → Int32) (n kn : Nat) (t : Nat → Nat → Int32) (b : Nat) (k : Nat) (z : Bool), n ≤ 24 → k < n → C no_M_wish [.ref 0, .int (nI k), .int (bI z)] (mH f n kn t b) (ax_is (some (.int 1)) (mH f n kn (ts t 9 k (bI z &&& 1)) b))
theorem p_M_wish_1 {C : ax_O} (hH : Sp_M_isAction C) : Sp_M_wish_1 (ax_B ax_Ms ax_Xs C) := by
  intro f n kn t b k z hn hk
  refine ax_X.steps 3 ⟨Or.inl rfl, ?_⟩
  refine ax_X.steps 3 (ax_go (hH _ _ _ _ _ _ true hn (hasB_k hn hk)) ?_)
  refine ax_X.steps 1 (ax_brT (bI_n0) ?_)
  refine ax_X.steps 5 ⟨k, ⟨by omega, by omega⟩, rfl, ?_⟩
  exact ax_X.steps 2 ⟨Or.inr (Or.inr rfl), rfl, rfl⟩
def Sp_M_wish_0 (C : ax_O) : Prop := ∀ (f : Nat → Int32) (n kn : Nat) (t : Nat → Nat → Int32) (b : Nat) (x v : Int32), n ≤ 24 → hasB n x = false → C no_M_wish [.ref 0, .int x, .int v] (mH f n kn t b) (ax_is (some (.int 0)) (mH f n kn t b))
theorem p_M_wish_0 {C : ax_O} (hH : Sp_M_isAction C) : Sp_M_wish_0 (ax_B ax_Ms ax_Xs C) := by
  intro f n kn t b x v hn hx
  refine ax_X.steps 3 ⟨Or.inl rfl, ?_⟩
  refine ax_X.steps 3 (ax_go (hH _ _ _ _ _ _ false hn hx) ?_)
  refine ax_X.steps 1 (ax_brF (fun q => q rfl) ?_)
  exact ax_X.steps 2 ⟨Or.inr (Or.inl rfl), rfl, rfl⟩
def Sp_M_mode_1 (C : ax_O) : Prop := ∀ (f : Nat → Int32) (n kn : Nat) (t : Nat → Nat → Int32) (b : Nat) (k : Nat) (z : Bool), k < 4 → C no_M_mode [.ref 0, .int (nI k), .int (bI z)] (mH f n kn t b) (ax_is (some (.int 1)) (mH f n kn (ts t 11 k (bI z &&& 1)) b))
theorem p_M_mode_1 {C : ax_O} (hW : Sp_M_in C) : Sp_M_mode_1 (ax_B ax_Ms ax_Xs C) := by
  intro f n kn t b k z hk
  refine ax_X.steps 3 ⟨Or.inl rfl, ?_⟩
  refine ax_X.steps 4 (ax_go (hW _ _ _ _ true (inB_4 hk)) ?_)
  refine ax_X.steps 1 (ax_brT (bI_n0) ?_)
  refine ax_X.steps 5 ⟨k, ⟨by omega, by omega⟩, rfl, ?_⟩
  exact ax_X.steps 2 ⟨Or.inr (Or.inr rfl), rfl, rfl⟩
def Sp_M_mode_0 (C : ax_O) : Prop := ∀ (f : Nat → Int32) (n kn : Nat) (t : Nat → Nat → Int32) (b : Nat) (x v : Int32), inB x 0 3 = false → C no_M_mode [.ref 0, .int x, .int v] (mH f n kn t b) (ax_is (some (.int 0)) (mH f n kn t b))
theorem p_M_mode_0 {C : ax_O} (hW : Sp_M_in C) : Sp_M_mode_0 (ax_B ax_Ms ax_Xs C) := by
  intro f n kn t b x v hx
  refine ax_X.steps 3 ⟨Or.inl rfl, ?_⟩
  refine ax_X.steps 4 (ax_go (hW _ _ _ _ false hx) ?_)
  refine ax_X.steps 1 (ax_brF (fun q => q rfl) ?_)
  exact ax_X.steps 2 ⟨Or.inr (Or.inl rfl), rfl, rfl⟩
def Sp_M_retries_1 (C : ax_O) : Prop := ∀ (f : Nat → Int32) (n kn : Nat) (t : Nat → Nat → Int32) (b : Nat) (k : Nat) (w : Int32), k < 4 → inB w 0 3 = true → C no_M_retries [.ref 0, .int (nI k), .int w] (mH f n kn t b) (ax_is (some (.int 1)) (mH f n kn (ts t 12 k w) b))
theorem p_M_retries_1 {C : ax_O} (hW : Sp_M_in C) : Sp_M_retries_1 (ax_B ax_Ms ax_Xs C) := by
  intro f n kn t b k w hk hw
  refine ax_X.steps 3 ⟨Or.inl rfl, ?_⟩
  refine ax_X.steps 4 (ax_go (hW _ _ _ _ true (inB_4 hk)) ?_)
  refine ax_X.steps 1 (ax_brF (bI_n0) ?_)
  refine ax_X.steps 4 (ax_go (hW _ _ _ _ true hw) ?_)
  refine ax_X.steps 1 (ax_brT (bI_n0) ?_)
  refine ax_X.steps 5 ⟨k, ⟨by omega, by omega⟩, rfl, ?_⟩
  exact ax_X.steps 2 ⟨Or.inr (Or.inr rfl), rfl, rfl⟩
def Sp_M_retries_0 (C : ax_O) : Prop := ∀ (f : Nat → Int32) (n kn : Nat) (t : Nat → Nat → Int32) (b : Nat) (x w : Int32), (inB x 0 3 = false ∨ inB w 0 3 = false) → C no_M_retries [.ref 0, .int x, .int w] (mH f n kn t b) (ax_is (some (.int 0)) (mH f n kn t b))
theorem p_M_retries_0 {C : ax_O} (hW : Sp_M_in C) : Sp_M_retries_0 (ax_B ax_Ms ax_Xs C) := by
  intro f n kn t b x w hx
  cases a1 : inB x 0 3
  · refine ax_X.steps 3 ⟨Or.inl rfl, ?_⟩
    refine ax_X.steps 4 (ax_go (hW _ _ _ _ false a1) ?_)
    refine ax_X.steps 1 (ax_brT (rfl) ?_)
    exact ax_X.steps 2 ⟨Or.inr (Or.inl rfl), rfl, rfl⟩
  · have a2 : inB w 0 3 = false := hx.resolve_left (by rw [a1]; decide)
    refine ax_X.steps 3 ⟨Or.inl rfl, ?_⟩
    refine ax_X.steps 4 (ax_go (hW _ _ _ _ true a1) ?_)
    refine ax_X.steps 1 (ax_brF (bI_n0) ?_)
    refine ax_X.steps 4 (ax_go (hW _ _ _ _ false a2) ?_)
    refine ax_X.steps 1 (ax_brF (fun q => q rfl) ?_)
    exact ax_X.steps 2 ⟨Or.inr (Or.inl rfl), rfl, rfl⟩
def Sp_M_peak (C : ax_O) : Prop := ∀ (f : Nat → Int32) (n kn : Nat) (t : Nat → Nat → Int32) (b : Nat) (x : Int32), C no_M_peak [.ref 0, .int x] (mH f n kn t b) (ax_is (some (.int (if x = 0 then f 3 else if x = 1 then f 4 else 0))) (mH f n kn t b))
theorem p_M_peak {C : ax_O} : Sp_M_peak (ax_B ax_Ms ax_Xs C) := by
  intro f n kn t b x
  by_cases h0 : x = 0
  · rw [if_pos h0]
    subst h0
    refine ax_X.steps 3 ⟨Or.inl rfl, ?_⟩
    refine ax_X.steps 2 (ax_brF (fun q => q rfl) ?_)
    exact ax_X.steps 4 ⟨Or.inl rfl, rfl, rfl⟩
  · rw [if_neg h0]
    by_cases h1 : x = 1
    · rw [if_pos h1]
      subst h1
      refine ax_X.steps 3 ⟨Or.inl rfl, ?_⟩
      refine ax_X.steps 2 (ax_brT (h0) ?_)
      refine ax_X.steps 3 (ax_brF (fun q => q rfl) ?_)
      exact ax_X.steps 4 ⟨Or.inl rfl, rfl, rfl⟩
    · rw [if_neg h1]
      refine ax_X.steps 3 ⟨Or.inl rfl, ?_⟩
      refine ax_X.steps 2 (ax_brT (h0) ?_)
      refine ax_X.steps 3 (ax_brT (h1) ?_)
      exact ax_X.steps 2 ⟨Or.inl rfl, rfl, rfl⟩
