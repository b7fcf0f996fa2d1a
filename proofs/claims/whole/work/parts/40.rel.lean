/-! Class and reference: one relation, kept by every call. -/
def zrP (n : Nat) (t : Nat → Nat → Int32) : Prop := ∀ a, n ≤ a → t 4 a = 0 ∧ t 6 a = 0 ∧ t 9 a = 0 ∧ t 10 a = 0
def Rel (f : Nat → Int32) (n : Nat) (t r : Nat → Nat → Int32) (u : Int32) (b : Nat) (F : Nat → Int32) (kn : Nat) (q : Nat → Nat → Int32) : Prop :=
  n ≤ 24 ∧ kn ≤ n ∧ b ≤ 96 ∧ (u = 0 ∨ u = 1) ∧ F 6 = u ∧ (∃ C M, houI C M f F) ∧ qtP t q ∧ q 9 = t 8 ∧ q 23 = t 21 ∧ (∃ tn cn mn fn, sdP n t tn cn mn fn) ∧ zrP n t ∧ dpI n (t 9) (t 10) ∧ (∀ a, (kn ≤ a ∨ u = 0) → a < 24 → badB (r 0) a = false)
def RH (h1 h2 : ax_H) : Prop := ∃ f n t r u b F kn q, h1 = oH f n (oT t r) u b ∧ h2 = mH F n kn (mT q r) b ∧ Rel f n t r u b F kn q
def Two (C : ax_O) (y1 y2 : Nat) (xs : List Value) (h1 h2 : ax_H) : Prop := ∃ (K1 K2 : ax_K) (v : Int32), C y1 (.ref 0 :: xs) h1 K1 ∧ C y2 (.ref 0 :: xs) h2 K2 ∧ (∀ x h', K1 x h' → x = some (.int v)) ∧ (∀ x h', K2 x h' → x = some (.int v)) ∧ ∀ x x' h1' h2', K1 x h1' → K2 x' h2' → RH h1' h2'
theorem two_is {C : ax_O} {y1 y2 : Nat} {xs : List Value} {h1 h2 h1' h2' : ax_H} {v : Int32} (a : C y1 (.ref 0 :: xs) h1 (ax_is (some (.int v)) h1')) (b : C y2 (.ref 0 :: xs) h2 (ax_is (some (.int v)) h2')) (hR : RH h1' h2') : Two C y1 y2 xs h1 h2 :=
  ⟨_, _, v, a, b, fun _ _ q => q.1, fun _ _ q => q.1, fun x x' g1 g2 q1 q2 => by
    obtain ⟨_, rfl⟩ := q1
    obtain ⟨_, rfl⟩ := q2
    exact hR⟩
theorem has_nI {n : Nat} {x : Int32} (hn : n ≤ 24) (h : hasB n x = true) : ∃ k, k < n ∧ x = nI k := by
  unfold hasB at h
  rw [Bool.and_eq_true] at h
  obtain ⟨j, hj, e⟩ := nI_of (i_nlt.mpr (of_decide_eq_true h.1))
  have h2 := of_decide_eq_true h.2
  rw [e, nI_ltI hj (by omega)] at h2
  exact ⟨j, h2, e⟩
theorem in_nI {x lo M : Int32} {N : Nat} (hM : M.toInt = N) (hlo : 0 ≤ lo) (h : inB x lo M = true) : ∃ k, k ≤ N ∧ x = nI k := by
  unfold inB at h
  rw [Bool.and_eq_true] at h
  refine nI_of2 hM (i_nlt.mpr ?_) (of_decide_eq_true h.2)
  have h1 := of_decide_eq_true h.1
  rw [Int32.le_iff_toInt_le] at hlo h1 ⊢
  omega
theorem nb {p : Bool} (h : ¬ p = true) : p = false := by cases p; rfl; exact absurd rfl h
theorem two_slots {C : ax_O} (a1 : Sp_O_slots_1 C) (a0 : Sp_O_slots_0 C) (b1 : Sp_M_slots_1 C) (b0 : Sp_M_slots_0 C) {h1 h2 : ax_H} (x : Int32) (h : RH h1 h2) : Two C no_O_slots no_M_slots [.int x] h1 h2 := by
  obtain ⟨f, n, t, r, u, b, F, kn, q, rfl, rfl, hR⟩ := h
  by_cases hx : inB x 0 4 = true
  · refine two_is (a1 _ _ _ _ _ x hx) (b1 _ _ _ _ _ x hx) ⟨va_up f 2 x, n, t, r, u, b, va_up F 2 x, kn, q, rfl, rfl, ?_⟩
    obtain ⟨e1, e2, e3, e4, e5, ⟨C, M, o1, o2, o3, o4, o5, o6⟩, e7⟩ := hR
    exact ⟨e1, e2, e3, e4, e5, ⟨C, M, o1, o2, o3, o4, rfl, o6⟩, e7⟩
  · exact two_is (a0 _ _ _ _ _ x (nb hx)) (b0 _ _ _ _ _ x (nb hx)) ⟨f, n, t, r, u, b, F, kn, q, rfl, rfl, hR⟩
theorem two_peak {C : ax_O} (a1 : Sp_O_peak C) (b1 : Sp_M_peak C) {h1 h2 : ax_H} (x : Int32) (h : RH h1 h2) : Two C no_O_peak no_M_peak [.int x] h1 h2 := by
  obtain ⟨f, n, t, r, u, b, F, kn, q, rfl, rfl, hR⟩ := h
  have hR0 := hR
  obtain ⟨e1, e2, e3, e4, e5, ⟨C, M, o1, o2, o3, o4, o5, o6, o7, o8, o9⟩, e7⟩ := hR
  have := b1 F n kn (mT q r) b x
  rw [o6, o7] at this
  exact two_is (a1 _ _ _ _ _ x) this ⟨f, n, t, r, u, b, F, kn, q, rfl, rfl, hR0⟩
theorem two_order {C : ax_O} (a1 : Sp_O_order C) (b1 : Sp_M_order C) {h1 h2 : ax_H} (x : Int32) (h : RH h1 h2) : Two C no_O_order no_M_order [.int x] h1 h2 := by
  obtain ⟨f, n, t, r, u, b, F, kn, q, rfl, rfl, hR⟩ := h
  have hR0 := hR
  obtain ⟨e1, e2, e3, e4, e5, e6, e7, e8, e9, _⟩ := hR
  have := b1 F n kn (mT q r) b x e3
  rw [show mT q r 23 = q 23 from rfl, e9] at this
  exact two_is (a1 _ _ _ _ _ x e3) this ⟨f, n, t, r, u, b, F, kn, q, rfl, rfl, hR0⟩
theorem two_outcome {C : ax_O} (a1 : Sp_O_outcome_1 C) (a0 : Sp_O_outcome_0 C) (b1 : Sp_M_outcome_1 C) (b0 : Sp_M_outcome_0 C) {h1 h2 : ax_H} (x y : Int32) (h : RH h1 h2) : Two C no_O_outcome no_M_outcome [.int x, .int y] h1 h2 := by
  obtain ⟨f, n, t, r, u, b, F, kn, q, rfl, rfl, hR⟩ := h
  have hR0 := hR
  obtain ⟨e1, e2, e3, e4, e5, _⟩ := hR
  by_cases hx : hasB n x = true
  · obtain ⟨k, hk, rfl⟩ := has_nI e1 hx
    have := b1 F n kn (mT q r) b k y e1 hk
    rw [e5] at this
    exact two_is (a1 _ _ _ _ _ k y e1 hk e4) this ⟨f, n, t, r, u, b, F, kn, q, rfl, rfl, hR0⟩
  · exact two_is (a0 _ _ _ _ _ x y (nb hx)) (b0 _ _ _ _ _ x y e1 (nb hx)) ⟨f, n, t, r, u, b, F, kn, q, rfl, rfl, hR0⟩
theorem fb_ext {st : Nat → Int32} (d : Nat) : ∀ (k a : Nat), a + k + d ≤ 24 → (∀ c, a + k ≤ c → c < a + k + d → badB st c = false) → fbI st (k + d) a = fbI st k a
  | 0, a, h1, h2 => by
    rw [Nat.zero_add]
    exact (fbI_any d a (by omega)).mpr (fun c q1 q2 => h2 c (by omega) (by omega))
  | k + 1, a, h1, h2 => by
    rw [show k + 1 + d = (k + d) + 1 by omega, fbI, fbI, fb_ext d k (a + 1) (by omega) (fun c q1 q2 => h2 c (by omega) (by omega))]
theorem two_first {C : ax_O} (a1 : Sp_O_first C) (b1 : Sp_M_first C) {h1 h2 : ax_H} (h : RH h1 h2) : Two C no_O_first no_M_first [] h1 h2 := by
  obtain ⟨f, n, t, r, u, b, F, kn, q, rfl, rfl, hR⟩ := h
  have hR0 := hR
  obtain ⟨e1, e2, e3, e4, e5, _, _, _, _, _, _, _, e13⟩ := hR
  have hb := b1 F n kn (mT q r) b (by omega)
  have ha := a1 f n (oT t r) u b e1
  rw [show mT q r 14 = r 0 from rfl, e5] at hb
  rw [show oT t r 14 = r 0 from rfl] at ha
  have he : fbI (r 0) n 0 = if u = 0 then -1 else fbI (r 0) kn 0 := by
    by_cases hu : u = 0
    · rw [if_pos hu]
      exact (fbI_any n 0 (by omega)).mpr (fun c _ q2 => e13 c (Or.inr hu) (by omega))
    · rw [if_neg hu]
      have := fb_ext (st := r 0) (n - kn) kn 0 (by omega) (fun c q1 q2 => e13 c (Or.inl (by omega)) (by omega))
      rw [show kn + (n - kn) = n by omega] at this
      exact this
  rw [he] at ha
  exact two_is ha hb ⟨f, n, t, r, u, b, F, kn, q, rfl, rfl, hR0⟩
/-- rows told anew -/
theorem two_wish {C : ax_O} (a1 : Sp_O_wish_1 C) (a0 : Sp_O_wish_0 C) (b1 : Sp_M_wish_1 C) (b0 : Sp_M_wish_0 C) {h1 h2 : ax_H} (x : Int32) (z : Bool) (h : RH h1 h2) : Two C no_O_wish no_M_wish [.int x, .int (bI z)] h1 h2 := by
  obtain ⟨f, n, t, r, u, b, F, kn, q, rfl, rfl, hR⟩ := h
  have hR0 := hR
  obtain ⟨e1, e2, e3, e4, e5, e6, e7, e8, e9, e10, e11, e12, e13⟩ := hR
  by_cases hx : hasB n x = true
  · obtain ⟨k, hk, rfl⟩ := has_nI e1 hx
    refine two_is (a1 _ _ _ _ _ k z e1 hk) (b1 _ _ _ _ _ k z e1 hk) ⟨f, n, ts t 8 k (bI z &&& 1), r, u, b, F, kn, ts q 9 k (bI z &&& 1), rfl, rfl, ?_⟩
    refine ⟨e1, e2, e3, e4, e5, e6, e7, ?_, e9, e10, e11, e12, e13⟩
    show upd (q 9) k (bI z &&& 1) = upd (t 8) k (bI z &&& 1)
    rw [e8]
  · exact two_is (a0 _ _ _ _ _ x (bI z) (nb hx)) (b0 _ _ _ _ _ x (bI z) e1 (nb hx)) ⟨f, n, t, r, u, b, F, kn, q, rfl, rfl, hR0⟩
theorem two_mode {C : ax_O} (a1 : Sp_O_mode_1 C) (a0 : Sp_O_mode_0 C) (b1 : Sp_M_mode_1 C) (b0 : Sp_M_mode_0 C) {h1 h2 : ax_H} (x : Int32) (z : Bool) (h : RH h1 h2) : Two C no_O_mode no_M_mode [.int x, .int (bI z)] h1 h2 := by
  obtain ⟨f, n, t, r, u, b, F, kn, q, rfl, rfl, hR⟩ := h
  have hR0 := hR
  obtain ⟨e1, e2, e3, e4, e5, e6, ⟨g0, g1, g2, g3, g4, g5, g6, g7, g8, g11, g12⟩, e8, e9, e10, e11, e12, e13⟩ := hR
  by_cases hx : inB x 0 3 = true
  · obtain ⟨k, hk, rfl⟩ := in_nI (N := 3) (by decide) (by decide) hx
    refine two_is (a1 _ _ _ _ _ k z (by omega)) (b1 _ _ _ _ _ k z (by omega)) ⟨f, n, ts t 12 k (bI z &&& 1), r, u, b, F, kn, ts q 11 k (bI z &&& 1), rfl, rfl, ?_⟩
    refine ⟨e1, e2, e3, e4, e5, e6, ⟨g0, g1, g2, g3, g4, g5, g6, g7, g8, ?_, g12⟩, e8, e9, e10, e11, e12, e13⟩
    show upd (q 11) k (bI z &&& 1) = upd (t 12) k (bI z &&& 1)
    rw [g11]
  · exact two_is (a0 _ _ _ _ _ x (bI z) (nb hx)) (b0 _ _ _ _ _ x (bI z) (nb hx)) ⟨f, n, t, r, u, b, F, kn, q, rfl, rfl, hR0⟩
theorem two_retries {C : ax_O} (a1 : Sp_O_retries_1 C) (a0 : Sp_O_retries_0 C) (b1 : Sp_M_retries_1 C) (b0 : Sp_M_retries_0 C) {h1 h2 : ax_H} (x w : Int32) (h : RH h1 h2) : Two C no_O_retries no_M_retries [.int x, .int w] h1 h2 := by
  obtain ⟨f, n, t, r, u, b, F, kn, q, rfl, rfl, hR⟩ := h
  have hR0 := hR
  obtain ⟨e1, e2, e3, e4, e5, e6, ⟨g0, g1, g2, g3, g4, g5, g6, g7, g8, g11, g12⟩, e8, e9, ⟨tn, cn, mn, fn, s1, s2, s3, s4⟩, e11, e12, e13⟩ := hR
  by_cases hw : inB w 0 3 = true
  · by_cases hx : inB x 0 3 = true
    · obtain ⟨k, hk, rfl⟩ := in_nI (N := 3) (by decide) (by decide) hx
      obtain ⟨v, hv, ew⟩ := in_nI (N := 3) (by decide) (by decide) hw
      refine two_is (a1 _ _ _ _ _ k w (by omega) hw) (b1 _ _ _ _ _ k w (by omega) hw) ⟨f, n, ts t 13 k w, r, u, b, F, kn, ts q 12 k w, rfl, rfl, ?_⟩
      refine ⟨e1, e2, e3, e4, e5, e6, ⟨g0, g1, g2, g3, g4, g5, g6, g7, g8, g11, ?_⟩, e8, e9, ⟨tn, cn, mn, fn, s1, s2, fun i hi => ?_, s4⟩, e11, e12, e13⟩
      · show upd (q 12) k w = upd (t 13) k w
        rw [g12]
      · show ∃ l, l ≤ 3 ∧ upd (t 13) k w i = nI l
        by_cases e : i = k
        · subst e; rw [pk_us]; exact ⟨v, hv, ew⟩
        · rw [pk_un e]; exact s3 i hi
    · exact two_is (a0 _ _ _ _ _ x w (Or.inl (nb hx))) (b0 _ _ _ _ _ x w (Or.inl (nb hx))) ⟨f, n, t, r, u, b, F, kn, q, rfl, rfl, hR0⟩
  · exact two_is (a0 _ _ _ _ _ x w (Or.inr (nb hw))) (b0 _ _ _ _ _ x w (Or.inr (nb hw))) ⟨f, n, t, r, u, b, F, kn, q, rfl, rfl, hR0⟩
theorem two_fails {C : ax_O} (a1 : Sp_O_fails_1 C) (a0 : Sp_O_fails_0 C) (b1 : Sp_M_fails_1 C) (b0 : Sp_M_fails_0 C) {h1 h2 : ax_H} (x v w : Int32) (h : RH h1 h2) : Two C no_O_fails no_M_fails [.int x, .int v, .int w] h1 h2 := by
  obtain ⟨f, n, t, r, u, b, F, kn, q, rfl, rfl, hR⟩ := h
  have hR0 := hR
  obtain ⟨e1, e2, e3, e4, e5, e6, ⟨g0, g1, g2, g3, g4, g5, g6, g7, g8, g11, g12⟩, e8, e9, ⟨tn, cn, mn, fn, s1, s2, s3, s4⟩, e11, e12, e13⟩ := hR
  by_cases hx : hasB n x = true
  · by_cases hv : inB v 0 3 = true
    · by_cases hw : inB w 0 3 = true
      · obtain ⟨k, hk, rfl⟩ := has_nI e1 hx
        obtain ⟨y, hy, ew⟩ := in_nI (N := 3) (by decide) (by decide) hw
        refine two_is (a1 _ _ _ _ _ k v w e1 hk hv hw) (b1 _ _ _ _ _ k v w e1 hk hv hw) ⟨f, n, ts (ts t 5 k v) 6 k w, r, u, b, F, kn, ts (ts q 5 k v) 6 k w, rfl, rfl, ?_⟩
        refine ⟨e1, e2, e3, e4, e5, e6, ⟨g0, g1, g2, g3, g4, ?_, ?_, g7, g8, g11, g12⟩, e8, e9, ⟨tn, cn, mn, fn, s1, fun i hi => ?_, s3, s4⟩, fun i hi => ?_, e12, e13⟩
        · show upd (q 5) k v = upd (t 5) k v
          rw [g5]
        · show upd (q 6) k w = upd (t 6) k w
          rw [g6]
        · show ∃ q, q < 4 ∧ upd (t 6) k w i = nI q
          by_cases e : i = k
          · subst e; rw [pk_us]; exact ⟨y, by omega, ew⟩
          · rw [pk_un e]; exact s2 i hi
        · show t 4 i = 0 ∧ upd (t 6) k w i = 0 ∧ t 9 i = 0 ∧ t 10 i = 0
          rw [pk_un (by omega)]
          exact e11 i hi
      · exact two_is (a0 _ _ _ _ _ x v w (Or.inr (Or.inr (nb hw)))) (b0 _ _ _ _ _ x v w e1 (Or.inr (Or.inr (nb hw)))) ⟨f, n, t, r, u, b, F, kn, q, rfl, rfl, hR0⟩
    · exact two_is (a0 _ _ _ _ _ x v w (Or.inr (Or.inl (nb hv)))) (b0 _ _ _ _ _ x v w e1 (Or.inr (Or.inl (nb hv)))) ⟨f, n, t, r, u, b, F, kn, q, rfl, rfl, hR0⟩
  · exact two_is (a0 _ _ _ _ _ x v w (Or.inl (nb hx))) (b0 _ _ _ _ _ x v w e1 (Or.inl (nb hx))) ⟨f, n, t, r, u, b, F, kn, q, rfl, rfl, hR0⟩
theorem two_about {C : ax_O} (a1 : Sp_O_about_1 C) (a0 : Sp_O_about_0 C) (b1 : Sp_M_about_1 C) (b0 : Sp_M_about_0 C) {h1 h2 : ax_H} (x : Int32) (z : Bool) (l w : Int32) (h : RH h1 h2) : Two C no_O_about no_M_about [.int x, .int (bI z), .int l, .int w] h1 h2 := by
  obtain ⟨f, n, t, r, u, b, F, kn, q, rfl, rfl, hR⟩ := h
  have hR0 := hR
  obtain ⟨e1, e2, e3, e4, e5, e6, ⟨g0, g1, g2, g3, g4, g5, g6, g7, g8, g11, g12⟩, e8, e9, ⟨tn, cn, mn, fn, s1, s2, s3, s4⟩, e11, e12, e13⟩ := hR
  by_cases hx : hasB n x = true
  · by_cases hw : inB w 0 1000 = true
    · obtain ⟨k, hk, rfl⟩ := has_nI e1 hx
      obtain ⟨y, hy, ew⟩ := in_nI (N := 1000) (by decide) (by decide) hw
      refine two_is (a1 _ _ _ _ _ k z l w e1 hk hw) (b1 _ _ _ _ _ k z l w e1 hk hw) ⟨f, n, ts (ts (ts t 7 k (bI z &&& 1)) 3 k (l &&& 255)) 4 k w, r, u, b, F, kn, ts (ts (ts q 8 k (bI z &&& 1)) 3 k (l &&& 255)) 4 k w, rfl, rfl, ?_⟩
      refine ⟨e1, e2, e3, e4, e5, e6, ⟨g0, g1, g2, ?_, ?_, g5, g6, g7, ?_, g11, g12⟩, e8, e9, ⟨tn, cn, mn, fun i => if i = k then y else fn i, fun i hi => ?_, s2, s3, s4⟩, fun i hi => ?_, e12, e13⟩
      · show upd (q 3) k (l &&& 255) = upd (t 3) k (l &&& 255)
        rw [g3]
      · show upd (q 4) k w = upd (t 4) k w
        rw [g4]
      · show upd (q 8) k (bI z &&& 1) = upd (t 7) k (bI z &&& 1)
        rw [g8]
      · obtain ⟨v1, v2, v3, v4⟩ := s1 i hi
        refine ⟨v1, v2, v3, ?_⟩
        show (if i = k then y else fn i) ≤ 1000 ∧ upd (t 4) k w i = nI (if i = k then y else fn i)
        by_cases e : i = k
        · rw [if_pos e, e, pk_us]; exact ⟨hy, ew⟩
        · rw [if_neg e, pk_un e]; exact v4
      · show upd (t 4) k w i = 0 ∧ t 6 i = 0 ∧ t 9 i = 0 ∧ t 10 i = 0
        rw [pk_un (by omega)]
        exact e11 i hi
    · exact two_is (a0 _ _ _ _ _ x (bI z) l w (Or.inr (nb hw))) (b0 _ _ _ _ _ x (bI z) l w e1 (Or.inr (nb hw))) ⟨f, n, t, r, u, b, F, kn, q, rfl, rfl, hR0⟩
  · exact two_is (a0 _ _ _ _ _ x (bI z) l w (Or.inl (nb hx))) (b0 _ _ _ _ _ x (bI z) l w e1 (Or.inl (nb hx))) ⟨f, n, t, r, u, b, F, kn, q, rfl, rfl, hR0⟩
theorem two_action {C : ax_O} (a1 : Sp_O_action_1 C) (a0 : Sp_O_action_0 C) (b1 : Sp_M_action_1 C) (b0 : Sp_M_action_0 C) {h1 h2 : ax_H} (x y z : Int32) (h : RH h1 h2) : Two C no_O_action no_M_action [.int x, .int y, .int z] h1 h2 := by
  obtain ⟨f, n, t, r, u, b, F, kn, q, rfl, rfl, hR⟩ := h
  have hR0 := hR
  obtain ⟨e1, e2, e3, e4, e5, e6, ⟨g0, g1, g2, g3, g4, g5, g6, g7, g8, g11, g12⟩, e8, e9, ⟨tn, cn, mn, fn, s1, s2, s3, s4⟩, e11, e12, e13⟩ := hR
  by_cases hn : n = 24
  · exact two_is (a0 _ _ _ _ _ x y z e1 (Or.inl hn)) (b0 _ _ _ _ _ x y z e1 (Or.inl hn)) ⟨f, n, t, r, u, b, F, kn, q, rfl, rfl, hR0⟩
  · by_cases ha : actB x y z = true
    · have hn2 : n < 24 := by omega
      have ha0 := ha
      unfold actB at ha0
      rw [Bool.and_eq_true, Bool.and_eq_true] at ha0
      obtain ⟨vx, hx, ex⟩ := in_nI (N := 1000) (by decide) (by decide) ha0.1
      obtain ⟨vy, hy, ey⟩ := in_nI (N := 16) (by decide) (by decide) ha0.2.1
      obtain ⟨vz, hz, ez⟩ := in_nI (N := 1000000) (by decide) (by decide) ha0.2.2
      refine two_is (a1 _ _ _ _ _ x y z hn2 ha) (b1 _ _ _ _ _ x y z hn2 ha) ⟨f, n + 1, actR t n x y z, r, u, b, F, kn, actR q n x y z, rfl, rfl, ?_⟩
      obtain ⟨z4, z6, z9, z10⟩ := e11 n (Nat.le_refl n)
      refine ⟨by omega, by omega, e3, e4, e5, e6, ⟨?_, ?_, ?_, g3, g4, g5, g6, g7, g8, g11, g12⟩, e8, e9, ⟨fun i => if i = n then vx else tn i, fun i => if i = n then vy else cn i, fun i => if i = n then vz else mn i, fun i => if i = n then 0 else fn i, fun i hi => ?_, fun i hi => ?_, s3, fun i hi j hj hj2 => ?_⟩, fun i hi => e11 i (by omega), dp_more hn2 e12 z9 z10, e13⟩
      · show upd (q 0) n x = upd (t 0) n x
        rw [g0]
      · show upd (q 1) n y = upd (t 1) n y
        rw [g1]
      · show upd (q 2) n z = upd (t 2) n z
        rw [g2]
      · show ((if i = n then vx else tn i) ≤ 1000 ∧ upd (t 0) n x i = nI (if i = n then vx else tn i)) ∧ ((if i = n then vy else cn i) ≤ 16 ∧ upd (t 1) n y i = nI (if i = n then vy else cn i)) ∧ ((if i = n then vz else mn i) ≤ 1000000 ∧ upd (t 2) n z i = nI (if i = n then vz else mn i)) ∧ ((if i = n then 0 else fn i) ≤ 1000 ∧ t 4 i = nI (if i = n then 0 else fn i))
        by_cases e : i = n
        · rw [if_pos e, if_pos e, if_pos e, if_pos e, e, pk_us, pk_us, pk_us]
          exact ⟨⟨hx, ex⟩, ⟨hy, ey⟩, ⟨hz, ez⟩, Nat.zero_le _, z4⟩
        · rw [if_neg e, if_neg e, if_neg e, if_neg e, pk_un e, pk_un e, pk_un e]
          exact s1 i (by omega)
      · by_cases e : i = n
        · rw [e]; exact ⟨0, by omega, z6⟩
        · exact s2 i (by omega)
      · by_cases e : i = n
        · show bt (t 9 i) j = false
          rw [e, z9, b_0]
        · exact s4 i (by omega) j (by omega) hj2
    · exact two_is (a0 _ _ _ _ _ x y z e1 (Or.inr (nb ha))) (b0 _ _ _ _ _ x y z e1 (Or.inr (nb ha))) ⟨f, n, t, r, u, b, F, kn, q, rfl, rfl, hR0⟩
theorem two_needs {C : ax_O} (an : Sp_O_needs_n C) (a1 : Sp_O_needs C) (bn : Sp_M_needs_n C) (b0 : Sp_M_needs_0 C) (b2 : Sp_M_needs_2 C) (b1 : Sp_M_needs_1 C) {h1 h2 : ax_H} (x y : Int32) (h : RH h1 h2) : Two C no_O_needs no_M_needs [.int x, .int y] h1 h2 := by
  obtain ⟨f, n, t, r, u, b, F, kn, q, rfl, rfl, hR⟩ := h
  have hR0 := hR
  obtain ⟨e1, e2, e3, e4, e5, e6, ⟨g0, g1, g2, g3, g4, g5, g6, g7, g8, g11, g12⟩, e8, e9, ⟨tn, cn, mn, fn, s1, s2, s3, s4⟩, e11, e12, e13⟩ := hR
  by_cases hx : hasB n x = true
  · by_cases hy : hasB n y = true
    · obtain ⟨k, hk, rfl⟩ := has_nI e1 hx
      obtain ⟨j, hj, rfl⟩ := has_nI e1 hy
      obtain ⟨p0, p2, p1⟩ := a1 f n (oT t r) u b k j e1 hk hj
      have hal : allP n (q 7) j (t 10 j) := by rw [g7]; exact (e12 j hj).1
      by_cases hb : bt (t 9 k) j = true
      · exact two_is (p0 hb) (b0 F n kn (mT q r) b k j e1 hk hj (by show bt (q 7 k) j = true; rw [g7]; exact hb)) ⟨f, n, t, r, u, b, F, kn, q, rfl, rfl, hR0⟩
      · have hb2 : ¬ bt (q 7 k) j = true := by rw [g7]; exact hb
        by_cases hr : k = j ∨ bt (t 10 j) k = true
        · exact two_is (p2 (nb hb) hr) (b2 F n kn (mT q r) b k j (t 10 j) e1 hk hj hb2 hal hr) ⟨f, n, t, r, u, b, F, kn, q, rfl, rfl, hR0⟩
        · have hkj : ¬ k = j := fun e => hr (Or.inl e)
          have hbt : ¬ bt (t 10 j) k = true := fun e => hr (Or.inr e)
          refine two_is (p1 (nb hb) hkj (nb hbt)) (b1 F n kn (mT q r) b k j (t 10 j) e1 hk hj hb2 hal hkj hbt) ⟨f, n, va_up (ts t 9 k (t 9 k ||| sB j)) 10 (dpJ n (t 10) k (t 10 j ||| sB j)), r, u, b, F, kn, ts q 7 k (q 7 k ||| sB j), rfl, rfl, ?_⟩
          refine ⟨e1, e2, e3, e4, e5, e6, ⟨g0, g1, g2, g3, g4, g5, g6, ?_, g8, g11, g12⟩, e8, e9, ⟨tn, cn, mn, fn, s1, s2, s3, fun i hi m hm hm2 => ?_⟩, fun i hi => ?_, ?_, e13⟩
          · show upd (q 7) k (q 7 k ||| sB j) = upd (t 9) k (t 9 k ||| sB j)
            rw [g7]
          · show bt (upd (t 9) k (t 9 k ||| sB j) i) m = false
            by_cases e : i = k
            · rw [e, pk_us, b_or, s4 k hk m hm hm2, b_sB (by omega) hm2, decide_eq_false (by omega)]; rfl
            · rw [pk_un e]; exact s4 i hi m hm hm2
          · show t 4 i = 0 ∧ t 6 i = 0 ∧ upd (t 9) k (t 9 k ||| sB j) i = 0 ∧ dpJ n (t 10) k (t 10 j ||| sB j) i = 0
            rw [pk_un (by omega)]
            unfold dpJ
            rw [if_neg (fun q => absurd q.1 (by omega))]
            exact e11 i hi
          · exact dp_join e1 e12 hk hj hkj (nb hbt)
    · exact two_is (an _ _ _ _ _ x y (Or.inr (nb hy))) (bn _ _ _ _ _ x y e1 (Or.inr (nb hy))) ⟨f, n, t, r, u, b, F, kn, q, rfl, rfl, hR0⟩
  · exact two_is (an _ _ _ _ _ x y (Or.inl (nb hx))) (bn _ _ _ _ _ x y e1 (Or.inl (nb hx))) ⟨f, n, t, r, u, b, F, kn, q, rfl, rfl, hR0⟩
