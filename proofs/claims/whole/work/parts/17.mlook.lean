/-! The reference: loops that only look. -/
def smI (st g : Nat → Int32) : Nat → Int32
  | 0 => 0
  | m + 1 => if st m = 7 then smI st g m + g m else smI st g m
def orI (st g : Nat → Int32) : Nat → Int32
  | 0 => 0
  | m + 1 => if st m = 7 then orI st g m ||| g m else orI st g m
theorem smI_t {st g : Nat → Int32} {m : Nat} (h : st m = 7) : smI st g (m + 1) = smI st g m + g m := if_pos h
theorem smI_f {st g : Nat → Int32} {m : Nat} (h : ¬ st m = 7) : smI st g (m + 1) = smI st g m := if_neg h
theorem orI_t {st g : Nat → Int32} {m : Nat} (h : st m = 7) : orI st g (m + 1) = orI st g m ||| g m := if_pos h
theorem orI_f {st g : Nat → Int32} {m : Nat} (h : ¬ st m = 7) : orI st g (m + 1) = orI st g m := if_neg h
def faI (t : Nat → Nat → Int32) (m : Nat) : Int32 := if t 16 m < 0 then 0 else 1
def Sp_M_taken_0 (C : ax_O) : Prop := ∀ (f : Nat → Int32) (n kn : Nat) (t : Nat → Nat → Int32) (b : Nat), n ≤ 24 → C no_M_taken [.ref 0, .int 0] (mH f n kn t b) (ax_is (some (.int (smI (t 14) (t 1) n))) (mH f n kn t b))
theorem p_M_taken_0 {C : ax_O} : Sp_M_taken_0 (ax_B ax_Ms ax_Xs C) := by
  intro f n kn t b hn
  have loop : ∀ (k a : Nat) (x : Int32) (m : Int32), x = nI a → m = smI (t 14) (t 1) a → a + k = n → ax_X ax_Ms ax_Xs no_M_taken C (ax_is (some (.int (smI (t 14) (t 1) n))) (mH f n kn t b)) 4 [some (.ref 0), some (.int 0), some (.int m), some (.int x)] [] (mH f n kn t b) 0 0 := by
    intro k
    induction k with
    | zero =>
      intro a x m hx hm hk
      subst hx
      have hk : a = n := hk
      subst hk
      subst hm
      refine ax_X.steps 4 (ax_brT (nI_le (by omega) (by omega)) ?_)
      exact ax_X.steps 2 ⟨Or.inl rfl, rfl, rfl⟩
    | succ k ih =>
      intro a x m hx hm hk
      subst hx
      subst hm
      refine ax_X.steps 4 (ax_brF (nI_ge (by omega) (by omega)) ?_)
      refine ax_X.steps 4 ⟨a, ⟨by omega, by omega⟩, rfl, ?_⟩
      refine ax_X.steps 2 (ax_br2 (fun c13 => ?_) (fun c13 => ?_))
      · refine ax_X.steps 2 (ax_brF (fun q => q rfl) ?_)
        refine ax_X.steps 5 ⟨a, ⟨by omega, by omega⟩, rfl, ?_⟩
        exact ax_X.steps 5 (ih (a + 1) _ _ (nI_1 a) (smI_t c13).symm (by omega))
      · exact ax_X.steps 3 (ih (a + 1) _ _ (nI_1 a) (smI_f c13).symm (by omega))
  exact ax_X.steps 4 (loop n 0 0 0 rfl rfl (by omega))
def Sp_M_taken_1 (C : ax_O) : Prop := ∀ (f : Nat → Int32) (n kn : Nat) (t : Nat → Nat → Int32) (b : Nat), n ≤ 24 → C no_M_taken [.ref 0, .int 1] (mH f n kn t b) (ax_is (some (.int (smI (t 14) (t 2) n))) (mH f n kn t b))
theorem p_M_taken_1 {C : ax_O} : Sp_M_taken_1 (ax_B ax_Ms ax_Xs C) := by
  intro f n kn t b hn
  have loop : ∀ (k a : Nat) (x : Int32) (m : Int32), x = nI a → m = smI (t 14) (t 2) a → a + k = n → ax_X ax_Ms ax_Xs no_M_taken C (ax_is (some (.int (smI (t 14) (t 2) n))) (mH f n kn t b)) 4 [some (.ref 0), some (.int 1), some (.int m), some (.int x)] [] (mH f n kn t b) 0 0 := by
    intro k
    induction k with
    | zero =>
      intro a x m hx hm hk
      subst hx
      have hk : a = n := hk
      subst hk
      subst hm
      refine ax_X.steps 4 (ax_brT (nI_le (by omega) (by omega)) ?_)
      exact ax_X.steps 2 ⟨Or.inl rfl, rfl, rfl⟩
    | succ k ih =>
      intro a x m hx hm hk
      subst hx
      subst hm
      refine ax_X.steps 4 (ax_brF (nI_ge (by omega) (by omega)) ?_)
      refine ax_X.steps 4 ⟨a, ⟨by omega, by omega⟩, rfl, ?_⟩
      refine ax_X.steps 2 (ax_br2 (fun c13 => ?_) (fun c13 => ?_))
      · refine ax_X.steps 2 (ax_brT (show ¬ (1 : Int32) = 0 by decide) ?_)
        refine ax_X.steps 3 (ax_brF (fun q => q rfl) ?_)
        refine ax_X.steps 5 ⟨a, ⟨by omega, by omega⟩, rfl, ?_⟩
        exact ax_X.steps 5 (ih (a + 1) _ _ (nI_1 a) (smI_t c13).symm (by omega))
      · exact ax_X.steps 3 (ih (a + 1) _ _ (nI_1 a) (smI_f c13).symm (by omega))
  exact ax_X.steps 4 (loop n 0 0 0 rfl rfl (by omega))
def Sp_M_taken_2 (C : ax_O) : Prop := ∀ (f : Nat → Int32) (n kn : Nat) (t : Nat → Nat → Int32) (b : Nat), n ≤ 24 → C no_M_taken [.ref 0, .int 2] (mH f n kn t b) (ax_is (some (.int (smI (t 14) (faI t) n))) (mH f n kn t b))
theorem p_M_taken_2 {C : ax_O} : Sp_M_taken_2 (ax_B ax_Ms ax_Xs C) := by
  intro f n kn t b hn
  have loop : ∀ (k a : Nat) (x : Int32) (m : Int32), x = nI a → m = smI (t 14) (faI t) a → a + k = n → ax_X ax_Ms ax_Xs no_M_taken C (ax_is (some (.int (smI (t 14) (faI t) n))) (mH f n kn t b)) 4 [some (.ref 0), some (.int 2), some (.int m), some (.int x)] [] (mH f n kn t b) 0 0 := by
    intro k
    induction k with
    | zero =>
      intro a x m hx hm hk
      subst hx
      have hk : a = n := hk
      subst hk
      subst hm
      refine ax_X.steps 4 (ax_brT (nI_le (by omega) (by omega)) ?_)
      exact ax_X.steps 2 ⟨Or.inl rfl, rfl, rfl⟩
    | succ k ih =>
      intro a x m hx hm hk
      subst hx
      subst hm
      refine ax_X.steps 4 (ax_brF (nI_ge (by omega) (by omega)) ?_)
      refine ax_X.steps 4 ⟨a, ⟨by omega, by omega⟩, rfl, ?_⟩
      refine ax_X.steps 2 (ax_br2 (fun c13 => ?_) (fun c13 => ?_))
      · refine ax_X.steps 2 (ax_brT (show ¬ (2 : Int32) = 0 by decide) ?_)
        refine ax_X.steps 3 (ax_brT (show ¬ (2 : Int32) = 1 by decide) ?_)
        refine ax_X.steps 3 (ax_brF (fun q => q rfl) ?_)
        refine ax_X.steps 5 ⟨a, ⟨by omega, by omega⟩, rfl, ?_⟩
        refine ax_X.steps 1 (ax_br2 (fun c42 => ?_) (fun c42 => ?_))
        · exact ax_X.steps 6 (ih (a + 1) _ _ (nI_1 a) (by show _ = smI (t 14) (faI t) (a + 1); rw [smI_t c13, faI, if_pos (show t 16 a < 0 from c42)]) (by omega))
        · exact ax_X.steps 7 (ih (a + 1) _ _ (nI_1 a) (by show _ = smI (t 14) (faI t) (a + 1); rw [smI_t c13, faI, if_neg (show ¬ t 16 a < 0 from c42)]) (by omega))
      · exact ax_X.steps 3 (ih (a + 1) _ _ (nI_1 a) (smI_f c13).symm (by omega))
  exact ax_X.steps 4 (loop n 0 0 0 rfl rfl (by omega))
def Sp_M_taken_3 (C : ax_O) : Prop := ∀ (f : Nat → Int32) (n kn : Nat) (t : Nat → Nat → Int32) (b : Nat), n ≤ 24 → C no_M_taken [.ref 0, .int 3] (mH f n kn t b) (ax_is (some (.int (orI (t 14) (t 3) n))) (mH f n kn t b))
theorem p_M_taken_3 {C : ax_O} : Sp_M_taken_3 (ax_B ax_Ms ax_Xs C) := by
  intro f n kn t b hn
  have loop : ∀ (k a : Nat) (x : Int32) (m : Int32), x = nI a → m = orI (t 14) (t 3) a → a + k = n → ax_X ax_Ms ax_Xs no_M_taken C (ax_is (some (.int (orI (t 14) (t 3) n))) (mH f n kn t b)) 4 [some (.ref 0), some (.int 3), some (.int m), some (.int x)] [] (mH f n kn t b) 0 0 := by
    intro k
    induction k with
    | zero =>
      intro a x m hx hm hk
      subst hx
      have hk : a = n := hk
      subst hk
      subst hm
      refine ax_X.steps 4 (ax_brT (nI_le (by omega) (by omega)) ?_)
      exact ax_X.steps 2 ⟨Or.inl rfl, rfl, rfl⟩
    | succ k ih =>
      intro a x m hx hm hk
      subst hx
      subst hm
      refine ax_X.steps 4 (ax_brF (nI_ge (by omega) (by omega)) ?_)
      refine ax_X.steps 4 ⟨a, ⟨by omega, by omega⟩, rfl, ?_⟩
      refine ax_X.steps 2 (ax_br2 (fun c13 => ?_) (fun c13 => ?_))
      · refine ax_X.steps 2 (ax_brT (show ¬ (3 : Int32) = 0 by decide) ?_)
        refine ax_X.steps 3 (ax_brT (show ¬ (3 : Int32) = 1 by decide) ?_)
        refine ax_X.steps 3 (ax_brT (show ¬ (3 : Int32) = 2 by decide) ?_)
        refine ax_X.steps 5 ⟨a, ⟨by omega, by omega⟩, rfl, ?_⟩
        exact ax_X.steps 4 (ih (a + 1) _ _ (nI_1 a) (orI_t c13).symm (by omega))
      · exact ax_X.steps 3 (ih (a + 1) _ _ (nI_1 a) (orI_f c13).symm (by omega))
  exact ax_X.steps 4 (loop n 0 0 0 rfl rfl (by omega))
def mfB (f : Nat → Int32) (n : Nat) (t : Nat → Nat → Int32) (a : Nat) : Bool := decide (smI (t 14) (t 1) n + t 1 a ≤ f 0) && (decide (smI (t 14) (t 2) n + t 2 a ≤ f 1) && decide (orI (t 14) (t 3) n &&& t 3 a = 0))
def Sp_M_fits (C : ax_O) : Prop := ∀ (f : Nat → Int32) (n kn : Nat) (t : Nat → Nat → Int32) (b : Nat) (a : Nat), n ≤ 24 → a < 24 → C no_M_fits [.ref 0, .int (nI a)] (mH f n kn t b) (ax_is (some (.int (bI (mfB f n t a)))) (mH f n kn t b))
theorem p_M_fits {C : ax_O} (h0 : Sp_M_taken_0 C) (h1 : Sp_M_taken_1 C) (h3 : Sp_M_taken_3 C) : Sp_M_fits (ax_B ax_Ms ax_Xs C) := by
  intro f n kn t b a hn ha
  unfold mfB
  refine ax_X.steps 3 (ax_go (h0 f n kn t b hn) ?_)
  refine ax_X.steps 4 ⟨a, ⟨by omega, by omega⟩, rfl, ?_⟩
  refine ax_X.steps 4 (ax_br2 (fun c10 => ?_) (fun c10 => ?_))
  · exact ax_X.steps 2 ⟨Or.inr (Or.inl rfl), by rw [decide_eq_false (i_nle.mpr c10)]; rfl, rfl⟩
  · refine ax_X.steps 3 (ax_go (h1 f n kn t b hn) ?_)
    refine ax_X.steps 4 ⟨a, ⟨by omega, by omega⟩, rfl, ?_⟩
    refine ax_X.steps 4 (ax_br2 (fun c21 => ?_) (fun c21 => ?_))
    · exact ax_X.steps 2 ⟨Or.inr (Or.inl rfl), by rw [decide_eq_false (i_nle.mpr c21), Bool.false_and, Bool.and_false]; rfl, rfl⟩
    · refine ax_X.steps 3 (ax_go (h3 f n kn t b hn) ?_)
      refine ax_X.steps 4 ⟨a, ⟨by omega, by omega⟩, rfl, ?_⟩
      refine ax_X.steps 2 (ax_br2 (fun c30 => ?_) (fun c30 => ?_))
      · exact ax_X.steps 2 ⟨Or.inr (Or.inl rfl), by rw [decide_eq_false (show ¬ orI (t 14) (t 3) n &&& t 3 a = 0 from c30), Bool.and_false, Bool.and_false]; rfl, rfl⟩
      · exact ax_X.steps 3 ⟨Or.inr (Or.inr rfl), by rw [decide_eq_true (i_nlt.mp c10), decide_eq_true (i_nlt.mp c21), decide_eq_true (nn c30)]; rfl, rfl⟩
def hiB (st : Nat → Int32) (c : Nat) : Bool := decide (st c = 2) || (decide (st c = 3) || decide (st c = 5))
theorem hiB_2 {st : Nat → Int32} {c : Nat} (h : st c = 2) : hiB st c = true := by unfold hiB; rw [decide_eq_true h, Bool.true_or]
theorem hiB_3 {st : Nat → Int32} {c : Nat} (h : st c = 3) : hiB st c = true := by unfold hiB; rw [decide_eq_true h, Bool.true_or, Bool.or_true]
theorem hiB_5 {st : Nat → Int32} {c : Nat} (h : st c = 5) : hiB st c = true := by unfold hiB; rw [decide_eq_true h, Bool.or_true, Bool.or_true]
theorem hiB_n {st : Nat → Int32} {c : Nat} (h2 : ¬ st c = 2) (h3 : ¬ st c = 3) (h5 : ¬ st c = 5) : hiB st c = false := by unfold hiB; rw [decide_eq_false h2, decide_eq_false h3, decide_eq_false h5]; rfl
def laB (st : Nat → Int32) (w : Int32) (c : Nat) : Bool := bt w c && hiB st c
theorem anyB_t {p : Nat → Bool} {n : Nat} (h : p n = true) : bI true = bI (anyB p (n + 1)) := by rw [anyB, h, Bool.or_true]
theorem anyB_f {p : Nat → Bool} {n : Nat} (h : p n = false) : bI (anyB p n) = bI (anyB p (n + 1)) := by rw [anyB, h, Bool.or_false]
theorem anyB_k {p : Nat → Bool} {n : Nat} (h : ¬ bI (anyB p n) = 0) : bI true = bI (anyB p (n + 1)) := by
  cases e : anyB p n
  · rw [e] at h; exact absurd rfl h
  · rw [anyB, e, Bool.true_or]
theorem anyB_0 {p : Nat → Bool} {n : Nat} (h : bI (anyB p n) = 0) (h2 : p n = false) : bI false = bI (anyB p (n + 1)) := by rw [anyB, h2, bI_0.mp h, Bool.or_false]
theorem b_rt1 {x : Int32} {k : Nat} (hk : k < 32) : (x >>> (nI k &&& 31)) &&& 1 = 1 ↔ bt x k = true := by rw [b_rt hk]; exact (bI_eq (c := true))
theorem b_rt0 {x : Int32} {k : Nat} (hk : k < 32) : (x >>> (nI k &&& 31)) &&& 1 = 0 ↔ bt x k = false := by rw [b_rt hk]; exact bI_0
def Sp_M_lacks (C : ax_O) : Prop := ∀ (f : Nat → Int32) (n kn : Nat) (t : Nat → Nat → Int32) (b : Nat) (j : Nat), n ≤ 24 → j < 24 → C no_M_lacks [.ref 0, .int (nI j)] (mH f n kn t b) (ax_is (some (.int (bI (anyB (laB (t 14) (t 7 j)) n)))) (mH f n kn t b))
theorem p_M_lacks {C : ax_O} : Sp_M_lacks (ax_B ax_Ms ax_Xs C) := by
  intro f n kn t b j hn hj
  have loop : ∀ (k a : Nat) (x : Int32) (m : Int32), x = nI a → m = bI (anyB (laB (t 14) (t 7 j)) a) → a + k = n → ax_X ax_Ms ax_Xs no_M_lacks C (ax_is (some (.int (bI (anyB (laB (t 14) (t 7 j)) n)))) (mH f n kn t b)) 4 [some (.ref 0), some (.int (nI j)), some (.int m), some (.int x)] [] (mH f n kn t b) 0 0 := by
    intro k
    induction k with
    | zero =>
      intro a x m hx hm hk
      subst hx
      have hk : a = n := hk
      subst hk
      subst hm
      refine ax_X.steps 4 (ax_brT (nI_le (by omega) (by omega)) ?_)
      exact ax_X.steps 2 ⟨Or.inr (bI_01 _), rfl, rfl⟩
    | succ k ih =>
      intro a x m hx hm hk
      subst hx
      subst hm
      refine ax_X.steps 4 (ax_brF (nI_ge (by omega) (by omega)) ?_)
      refine ax_X.steps 2 (ax_br2 (fun c9 => ?_) (fun c9 => ?_))
      · exact ax_X.steps 5 (ih (a + 1) _ _ (nI_1 a) (anyB_k c9) (by omega))
      · refine ax_X.steps 4 ⟨j, ⟨by omega, by omega⟩, rfl, ?_⟩
        refine ax_X.steps 6 (ax_br2 (fun c19 => ?_) (fun c19 => ?_))
        · exact ax_X.steps 4 (ih (a + 1) _ _ (nI_1 a) (anyB_0 (nn c9) (by unfold laB; rw [show bt (t 7 j) a = false from Bool.eq_false_iff.mpr (fun q => c19 ((b_rt1 (by omega)).mpr q)), Bool.false_and])) (by omega))
        · refine ax_X.steps 4 ⟨a, ⟨by omega, by omega⟩, rfl, ?_⟩
          refine ax_X.steps 2 (ax_br2 (fun c25 => ?_) (fun c25 => ?_))
          · exact ax_X.steps 5 (ih (a + 1) _ _ (nI_1 a) (anyB_t (by unfold laB; rw [(b_rt1 (by omega)).mp (nn c19), hiB_2 c25]; rfl)) (by omega))
          · refine ax_X.steps 4 ⟨a, ⟨by omega, by omega⟩, rfl, ?_⟩
            refine ax_X.steps 2 (ax_br2 (fun c31 => ?_) (fun c31 => ?_))
            · exact ax_X.steps 5 (ih (a + 1) _ _ (nI_1 a) (anyB_t (by unfold laB; rw [(b_rt1 (by omega)).mp (nn c19), hiB_3 c31]; rfl)) (by omega))
            · refine ax_X.steps 4 ⟨a, ⟨by omega, by omega⟩, rfl, ?_⟩
              refine ax_X.steps 2 (ax_br2 (fun c37 => ?_) (fun c37 => ?_))
              · exact ax_X.steps 4 (ih (a + 1) _ _ (nI_1 a) (anyB_0 (nn c9) (by unfold laB; rw [hiB_n c25 c31 c37, Bool.and_false])) (by omega))
              · exact ax_X.steps 5 (ih (a + 1) _ _ (nI_1 a) (anyB_t (by unfold laB; rw [(b_rt1 (by omega)).mp (nn c19), hiB_5 (nn c37)]; rfl)) (by omega))
  exact ax_X.steps 4 (loop n 0 0 0 rfl rfl (by omega))
def rdB (st : Nat → Int32) (w : Int32) (c0 : Bool) : Nat → Bool
  | 0 => c0
  | m + 1 => rdB st w c0 m && (!bt w m || decide (st m = 1))
theorem rdB_t {st : Nat → Int32} {w : Int32} {c0 : Bool} {m : Nat} (h1 : ¬ bI (rdB st w c0 m) = 0) (h2 : bt w m = false ∨ st m = 1) : bI true = bI (rdB st w c0 (m + 1)) := by
  cases e : rdB st w c0 m
  · rw [e] at h1; exact absurd rfl h1
  · rw [rdB, e]
    rcases h2 with h2 | h2
    · rw [h2]; rfl
    · rw [decide_eq_true h2, Bool.or_true]; rfl
theorem rdB_f {st : Nat → Int32} {w : Int32} {c0 : Bool} {m : Nat} (h1 : bI (rdB st w c0 m) = 0) : bI false = bI (rdB st w c0 (m + 1)) := by
  rw [rdB, bI_0.mp h1, Bool.false_and]
theorem rdB_n {st : Nat → Int32} {w : Int32} {c0 : Bool} {m : Nat} (h1 : ¬ bt w m = false) (h2 : ¬ st m = 1) : bI false = bI (rdB st w c0 (m + 1)) := by
  cases e : bt w m
  · exact absurd e h1
  · rw [rdB, e, decide_eq_false h2, Bool.or_false, Bool.not_true, Bool.and_false]
theorem rdB_iff {st : Nat → Int32} {w : Int32} {c0 : Bool} : ∀ (n : Nat), rdB st w c0 n = true ↔ c0 = true ∧ ∀ c, c < n → bt w c = true → st c = 1
  | 0 => ⟨fun h => ⟨h, fun c hc => absurd hc (Nat.not_lt_zero c)⟩, fun h => h.1⟩
  | n + 1 => by
    rw [rdB, Bool.and_eq_true, rdB_iff n]
    constructor
    · rintro ⟨⟨h1, h2⟩, h3⟩
      refine ⟨h1, fun c hc hb => ?_⟩
      by_cases e : c = n
      · subst e
        rw [hb] at h3
        exact of_decide_eq_true h3
      · exact h2 c (by omega) hb
    · rintro ⟨h1, h2⟩
      refine ⟨⟨h1, fun c hc => h2 c (by omega)⟩, ?_⟩
      cases e : bt w n
      · rfl
      · rw [decide_eq_true (h2 n (by omega) e)]; rfl
def Sp_M_isReady (C : ax_O) : Prop := ∀ (f : Nat → Int32) (n kn : Nat) (t : Nat → Nat → Int32) (b : Nat) (j : Nat) (z : Bool), n ≤ 24 → j < 24 → C no_M_isReady [.ref 0, .int (nI j), .int (bI z)] (mH f n kn t b) (ax_is (some (.int (bI (rdB (t 14) (t 7 j) (decide (t 14 j = 6) && (z || decide (t 8 j = 0))) n)))) (mH f n kn t b))
theorem p_M_isReady {C : ax_O} : Sp_M_isReady (ax_B ax_Ms ax_Xs C) := by
  intro f n kn t b j z hn hj
  generalize hc0 : (decide (t 14 j = 6) && (z || decide (t 8 j = 0))) = c0
  have loop : ∀ (k a : Nat) (x : Int32) (m : Int32), x = nI a → m = bI (rdB (t 14) (t 7 j) c0 a) → a + k = n → ax_X ax_Ms ax_Xs no_M_isReady C (ax_is (some (.int (bI (rdB (t 14) (t 7 j) c0 n)))) (mH f n kn t b)) 19 [some (.ref 0), some (.int (nI j)), some (.int (bI z)), some (.int m), some (.int x)] [] (mH f n kn t b) 0 0 := by
    intro k
    induction k with
    | zero =>
      intro a x m hx hm hk
      subst hx
      have hk : a = n := hk
      subst hk
      subst hm
      refine ax_X.steps 4 (ax_brT (nI_le (by omega) (by omega)) ?_)
      exact ax_X.steps 2 ⟨Or.inr (bI_01 _), rfl, rfl⟩
    | succ k ih =>
      intro a x m hx hm hk
      subst hx
      subst hm
      refine ax_X.steps 4 (ax_brF (nI_ge (by omega) (by omega)) ?_)
      refine ax_X.steps 2 (ax_br2 (fun c24 => ?_) (fun c24 => ?_))
      · exact ax_X.steps 4 (ih (a + 1) _ _ (nI_1 a) (rdB_f c24) (by omega))
      · refine ax_X.steps 4 ⟨j, ⟨by omega, by omega⟩, rfl, ?_⟩
        refine ax_X.steps 5 (ax_br2 (fun c33 => ?_) (fun c33 => ?_))
        · exact ax_X.steps 5 (ih (a + 1) _ _ (nI_1 a) (rdB_t c24 (Or.inl ((b_rt0 (by omega)).mp c33))) (by omega))
        · refine ax_X.steps 4 ⟨a, ⟨by omega, by omega⟩, rfl, ?_⟩
          refine ax_X.steps 2 (ax_br2 (fun c39 => ?_) (fun c39 => ?_))
          · exact ax_X.steps 4 (ih (a + 1) _ _ (nI_1 a) (rdB_n (fun q => c33 ((b_rt0 (by omega)).mpr q)) c39) (by omega))
          · exact ax_X.steps 5 (ih (a + 1) _ _ (nI_1 a) (rdB_t c24 (Or.inr (nn c39))) (by omega))
  refine ax_X.steps 4 ⟨j, ⟨by omega, by omega⟩, rfl, ?_⟩
  refine ax_X.steps 2 (ax_br2 (fun c5 => ?_) (fun c5 => ?_))
  · exact ax_X.steps 4 (loop n 0 0 _ rfl (show (0 : Int32) = bI c0 by rw [← hc0, decide_eq_false (show ¬ t 14 j = 6 from c5)]; rfl) (by omega))
  · refine ax_X.steps 2 (ax_br2 (fun c7 => ?_) (fun c7 => ?_))
    · exact ax_X.steps 5 (loop n 0 0 _ rfl (show (1 : Int32) = bI c0 by rw [← hc0, decide_eq_true (nn c5), show z = true from by cases z with | false => exact absurd rfl c7 | true => rfl]; rfl) (by omega))
    · refine ax_X.steps 4 ⟨j, ⟨by omega, by omega⟩, rfl, ?_⟩
      refine ax_X.steps 1 (ax_br2 (fun c12 => ?_) (fun c12 => ?_))
      · exact ax_X.steps 4 (loop n 0 0 _ rfl (show (0 : Int32) = bI c0 by rw [← hc0, bI_0.mp (nn c7), decide_eq_false (show ¬ t 8 j = 0 from c12), Bool.or_false, Bool.and_false]; rfl) (by omega))
      · exact ax_X.steps 5 (loop n 0 0 _ rfl (show (1 : Int32) = bI c0 by rw [← hc0, decide_eq_true (nn c5), decide_eq_true (nn c12), Bool.or_true]; rfl) (by omega))
def Sp_M_next (C : ax_O) : Prop := ∀ (f : Nat → Int32) (n kn : Nat) (t : Nat → Nat → Int32) (b : Nat), n ≤ 24 → C no_M_next [.ref 0] (mH f n kn t b) (ax_is (some (.int (oI (fmN (fun c => !decide (t 22 c = 0)) (t 13) n)))) (mH f n kn t b))
theorem p_M_next {C : ax_O} : Sp_M_next (ax_B ax_Ms ax_Xs C) := by
  intro f n kn t b hn
  have loop : ∀ (k a : Nat) (x : Int32) (m : Int32), x = nI a → m = oI (fmN (fun c => !decide (t 22 c = 0)) (t 13) a) → a + k = n → ax_X ax_Ms ax_Xs no_M_next C (ax_is (some (.int (oI (fmN (fun c => !decide (t 22 c = 0)) (t 13) n)))) (mH f n kn t b)) 4 [some (.ref 0), some (.int m), some (.int x)] [] (mH f n kn t b) 0 0 := by
    intro k
    induction k with
    | zero =>
      intro a x m hx hm hk
      subst hx
      have hk : a = n := hk
      subst hk
      subst hm
      refine ax_X.steps 4 (ax_brT (nI_le (by omega) (by omega)) ?_)
      exact ax_X.steps 2 ⟨Or.inl rfl, rfl, rfl⟩
    | succ k ih =>
      intro a x m hx hm hk
      subst hx
      subst hm
      by_cases c1 : t 22 a = 0
      · have e : oI (fmN (fun c => !decide (t 22 c = 0)) (t 13) a) = oI (fmN (fun c => !decide (t 22 c = 0)) (t 13) (a + 1)) := by
          rw [fmN]
          cases fmN (fun c => !decide (t 22 c = 0)) (t 13) a <;> simp [c1]
        refine ax_X.steps 4 (ax_brF (nI_ge (by omega) (by omega)) ?_)
        refine ax_X.steps 4 ⟨a, ⟨by omega, by omega⟩, rfl, ?_⟩
        refine ax_X.steps 1 (ax_brT (c1) ?_)
        exact ax_X.steps 2 (ih (a + 1) _ _ (nI_1 a) e (by omega))
      cases c2 : fmN (fun c => !decide (t 22 c = 0)) (t 13) a with
      | none =>
        have e : nI a = oI (fmN (fun c => !decide (t 22 c = 0)) (t 13) (a + 1)) := by
          rw [fmN, c2]
          simp [c1, oI]
        refine ax_X.steps 4 (ax_brF (nI_ge (by omega) (by omega)) ?_)
        refine ax_X.steps 4 ⟨a, ⟨by omega, by omega⟩, rfl, ?_⟩
        refine ax_X.steps 1 (ax_brF (c1) ?_)
        refine ax_X.steps 2 (ax_brT (show (-1 : Int32) < 0 by decide) ?_)
        exact ax_X.steps 4 (ih (a + 1) _ _ (nI_1 a) e (by omega))
      | some j =>
        have hj := fmN_lt c2
        have c3 : (fun c => !decide (t 22 c = 0)) a = true := by simp [c1]
        refine ax_X.steps 4 (ax_brF (nI_ge (by omega) (by omega)) ?_)
        refine ax_X.steps 4 ⟨a, ⟨by omega, by omega⟩, rfl, ?_⟩
        refine ax_X.steps 1 (ax_brF (c1) ?_)
        refine ax_X.steps 2 (ax_brF (nI_pos (by omega)) ?_)
        refine ax_X.steps 4 ⟨a, ⟨by omega, by omega⟩, rfl, ?_⟩
        refine ax_X.steps 4 ⟨j, ⟨by omega, by omega⟩, rfl, ?_⟩
        refine ax_X.steps 1 (ax_br2 (fun c23 => ?_) (fun c23 => ?_))
        · exact ax_X.steps 2 (ih (a + 1) _ _ (nI_1 a) (fmN_k c2 c23) (by omega))
        · exact ax_X.steps 4 (ih (a + 1) _ _ (nI_1 a) (fmN_n c2 c3 c23) (by omega))
  exact ax_X.steps 4 (loop n 0 0 (-1) rfl rfl (by omega))
def meI (t : Nat → Nat → Int32) (m : Nat) : Int32 := if t 16 m < 0 then t 15 m else if t 15 m ≤ t 16 m then t 15 m else t 16 m
def lsI (x e : Int32) : Int32 := if x < 0 then e else if x ≤ e then x else e
def mnE (t : Nat → Nat → Int32) : Nat → Int32
  | 0 => -1
  | m + 1 => if t 14 m = 7 then lsI (mnE t m) (meI t m) else mnE t m
theorem mnE_t {t : Nat → Nat → Int32} {m : Nat} (h : t 14 m = 7) : mnE t (m + 1) = lsI (mnE t m) (meI t m) := if_pos h
theorem mnE_f {t : Nat → Nat → Int32} {m : Nat} (h : ¬ t 14 m = 7) : mnE t (m + 1) = mnE t m := if_neg h
def Sp_M_nextEnd (C : ax_O) : Prop := ∀ (f : Nat → Int32) (n kn : Nat) (t : Nat → Nat → Int32) (b : Nat), n ≤ 24 → C no_M_nextEnd [.ref 0] (mH f n kn t b) (ax_is (some (.int (mnE t n))) (mH f n kn t b))
theorem p_M_nextEnd {C : ax_O} : Sp_M_nextEnd (ax_B ax_Ms ax_Xs C) := by
  intro f n kn t b hn
  have loop : ∀ (k a : Nat) (x : Int32) (m : Int32) (q : Option Value), x = nI a → m = mnE t a → a + k = n → ax_X ax_Ms ax_Xs no_M_nextEnd C (ax_is (some (.int (mnE t n))) (mH f n kn t b)) 4 [some (.ref 0), some (.int m), some (.int x), q] [] (mH f n kn t b) 0 0 := by
    intro k
    induction k with
    | zero =>
      intro a x m q hx hm hk
      subst hx
      have hk : a = n := hk
      subst hk
      subst hm
      refine ax_X.steps 4 (ax_brT (nI_le (by omega) (by omega)) ?_)
      exact ax_X.steps 2 ⟨Or.inl rfl, rfl, rfl⟩
    | succ k ih =>
      intro a x m q hx hm hk
      subst hx
      subst hm
      refine ax_X.steps 4 (ax_brF (nI_ge (by omega) (by omega)) ?_)
      refine ax_X.steps 4 ⟨a, ⟨by omega, by omega⟩, rfl, ?_⟩
      refine ax_X.steps 2 (ax_br2 (fun c13 => ?_) (fun c13 => ?_))
      · refine ax_X.steps 4 ⟨a, ⟨by omega, by omega⟩, rfl, ?_⟩
        refine ax_X.steps 1 (ax_br2 (fun c19 => ?_) (fun c19 => ?_))
        · refine ax_X.steps 4 ⟨a, ⟨by omega, by omega⟩, rfl, ?_⟩
          refine ax_X.steps 3 (ax_br2 (fun c40 => ?_) (fun c40 => ?_))
          · exact ax_X.steps 5 (ih (a + 1) _ _ _ (nI_1 a) (by show _ = mnE t (a + 1); rw [mnE_t c13]; simp only [meI, lsI, if_pos (show t 16 a < 0 from c19), if_pos (show mnE t a < 0 from c40)]) (by omega))
          · refine ax_X.steps 3 (ax_br2 (fun c43 => ?_) (fun c43 => ?_))
            · exact ax_X.steps 4 (ih (a + 1) _ _ _ (nI_1 a) (by show _ = mnE t (a + 1); rw [mnE_t c13]; simp only [meI, lsI, if_pos (show t 16 a < 0 from c19), if_neg (show ¬ mnE t a < 0 from c40), if_pos (show mnE t a ≤ t 15 a from c43)]) (by omega))
            · exact ax_X.steps 5 (ih (a + 1) _ _ _ (nI_1 a) (by show _ = mnE t (a + 1); rw [mnE_t c13]; simp only [meI, lsI, if_pos (show t 16 a < 0 from c19), if_neg (show ¬ mnE t a < 0 from c40), if_neg (show ¬ mnE t a ≤ t 15 a from c43)]) (by omega))
        · refine ax_X.steps 4 ⟨a, ⟨by omega, by omega⟩, rfl, ?_⟩
          refine ax_X.steps 4 ⟨a, ⟨by omega, by omega⟩, rfl, ?_⟩
          refine ax_X.steps 1 (ax_br2 (fun c28 => ?_) (fun c28 => ?_))
          · refine ax_X.steps 4 ⟨a, ⟨by omega, by omega⟩, rfl, ?_⟩
            refine ax_X.steps 3 (ax_br2 (fun c40 => ?_) (fun c40 => ?_))
            · exact ax_X.steps 5 (ih (a + 1) _ _ _ (nI_1 a) (by show _ = mnE t (a + 1); rw [mnE_t c13]; simp only [meI, lsI, if_neg (show ¬ t 16 a < 0 from c19), if_pos (show t 15 a ≤ t 16 a from c28), if_pos (show mnE t a < 0 from c40)]) (by omega))
            · refine ax_X.steps 3 (ax_br2 (fun c43 => ?_) (fun c43 => ?_))
              · exact ax_X.steps 4 (ih (a + 1) _ _ _ (nI_1 a) (by show _ = mnE t (a + 1); rw [mnE_t c13]; simp only [meI, lsI, if_neg (show ¬ t 16 a < 0 from c19), if_pos (show t 15 a ≤ t 16 a from c28), if_neg (show ¬ mnE t a < 0 from c40), if_pos (show mnE t a ≤ t 15 a from c43)]) (by omega))
              · exact ax_X.steps 5 (ih (a + 1) _ _ _ (nI_1 a) (by show _ = mnE t (a + 1); rw [mnE_t c13]; simp only [meI, lsI, if_neg (show ¬ t 16 a < 0 from c19), if_pos (show t 15 a ≤ t 16 a from c28), if_neg (show ¬ mnE t a < 0 from c40), if_neg (show ¬ mnE t a ≤ t 15 a from c43)]) (by omega))
          · refine ax_X.steps 4 ⟨a, ⟨by omega, by omega⟩, rfl, ?_⟩
            refine ax_X.steps 4 (ax_br2 (fun c40 => ?_) (fun c40 => ?_))
            · exact ax_X.steps 5 (ih (a + 1) _ _ _ (nI_1 a) (by show _ = mnE t (a + 1); rw [mnE_t c13]; simp only [meI, lsI, if_neg (show ¬ t 16 a < 0 from c19), if_neg (show ¬ t 15 a ≤ t 16 a from c28), if_pos (show mnE t a < 0 from c40)]) (by omega))
            · refine ax_X.steps 3 (ax_br2 (fun c43 => ?_) (fun c43 => ?_))
              · exact ax_X.steps 4 (ih (a + 1) _ _ _ (nI_1 a) (by show _ = mnE t (a + 1); rw [mnE_t c13]; simp only [meI, lsI, if_neg (show ¬ t 16 a < 0 from c19), if_neg (show ¬ t 15 a ≤ t 16 a from c28), if_neg (show ¬ mnE t a < 0 from c40), if_pos (show mnE t a ≤ t 16 a from c43)]) (by omega))
              · exact ax_X.steps 5 (ih (a + 1) _ _ _ (nI_1 a) (by show _ = mnE t (a + 1); rw [mnE_t c13]; simp only [meI, lsI, if_neg (show ¬ t 16 a < 0 from c19), if_neg (show ¬ t 15 a ≤ t 16 a from c28), if_neg (show ¬ mnE t a < 0 from c40), if_neg (show ¬ mnE t a ≤ t 16 a from c43)]) (by omega))
      · exact ax_X.steps 3 (ih (a + 1) _ _ _ (nI_1 a) (mnE_f c13).symm (by omega))
  exact ax_X.steps 4 (loop n 0 0 (-1) none rfl rfl (by omega))
theorem upd_id {g : Nat → Int32} {a : Nat} {v : Int32} (h : g a = v) : upd g a v = g := by
  funext q
  unfold upd
  by_cases e : q = a
  · rw [if_pos e, e, h]
  · rw [if_neg e]
def Sp_M_stopAll (C : ax_O) : Prop := ∀ (f : Nat → Int32) (n kn : Nat) (t : Nat → Nat → Int32) (b : Nat), n ≤ 24 → C no_M_stopAll [.ref 0] (mH f n kn t b) (ax_is none (mH f n kn (va_up t 14 (stF n (t 14))) b))
theorem p_M_stopAll {C : ax_O} : Sp_M_stopAll (ax_B ax_Ms ax_Xs C) := by
  intro f n kn t b hn
  have loop : ∀ (k a : Nat) (x : Int32) (g : Nat → Int32), x = nI a → g = stF a (t 14) → a + k = n → ax_X ax_Ms ax_Xs no_M_stopAll C (ax_is none (mH f n kn (va_up t 14 (stF n (t 14))) b)) 2 [some (.ref 0), some (.int x)] [] (mH f n kn (va_up t 14 g) b) 0 0 := by
    intro k
    induction k with
    | zero =>
      intro a x g hx hg hk
      subst hx
      have hk : a = n := hk
      subst hk
      subst hg
      refine ax_X.steps 4 (ax_brT (nI_le (by omega) (by omega)) ?_)
      exact ax_X.steps 1 (⟨rfl, rfl⟩)
    | succ k ih =>
      intro a x g hx hg hk
      subst hx
      subst hg
      refine ax_X.steps 4 (ax_brF (nI_ge (by omega) (by omega)) ?_)
      refine ax_X.steps 7 ⟨a, ⟨by omega, by omega⟩, rfl, ?_⟩
      refine ax_X.steps 2 (ax_br2 (fun c14 => ?_) (fun c14 => ?_))
      · refine ax_X.steps 4 ⟨a, ⟨by omega, by omega⟩, rfl, ?_⟩
        refine ax_X.steps 1 ⟨a, ⟨by omega, by omega⟩, rfl, ?_⟩
        exact ax_X.steps 2 (ih (a + 1) _ (upd (stF a (t 14)) a (stF a (t 14) a)) (nI_1 a) ((upd_id rfl).trans (stF_n (fun q => c14 (stF_at.trans q)))) (by omega))
      · refine ax_X.steps 3 ⟨a, ⟨by omega, by omega⟩, rfl, ?_⟩
        exact ax_X.steps 2 (ih (a + 1) _ (upd (stF a (t 14)) a 4) (nI_1 a) (stF_s (stF_at.symm.trans (nn c14))) (by omega))
  exact ax_X.steps 2 (loop n 0 0 (t 14) rfl (stF_0 _).symm (by omega))
