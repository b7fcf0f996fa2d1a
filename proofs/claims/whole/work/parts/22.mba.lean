/-! Begins of tries, the reference: the whole. -/
def olM (t r : Nat → Nat → Int32) (m : Nat) : Bool := decide (t 8 m = 0) && (decide (r 0 m = 6) || decide (r 0 m = 7))
def tzM (t r : Nat → Nat → Int32) (n : Nat) : Bool := !anyB (olM t r) n || decide (t 11 0 = 0)
def rdM (t r : Nat → Nat → Int32) (n : Nat) (z : Bool) (a : Nat) : Bool := rdB (r 0) (t 7 a) (decide (r 0 a = 6) && (z || decide (t 8 a = 0))) n
theorem na_0 {p : Nat → Bool} {a : Nat} (h : bI (!anyB p a) = 0) : bI false = bI (!anyB p (a + 1)) := by
  rw [anyB]
  have h2 := bI_0.mp h
  cases e : anyB p a
  · rw [e] at h2; cases h2
  · rfl
theorem na_1 {p : Nat → Bool} {a : Nat} (h : ¬ bI (!anyB p a) = 0) (h2 : p a = false) : bI true = bI (!anyB p (a + 1)) := by
  rw [anyB, h2]
  cases e : anyB p a
  · rfl
  · rw [e] at h; exact absurd rfl h
theorem na_2 {p : Nat → Bool} {a : Nat} (h2 : p a = true) : bI false = bI (!anyB p (a + 1)) := by rw [anyB, h2, Bool.or_true]; rfl
theorem cntB_le {p : Nat → Bool} : ∀ (n : Nat), cntB p n ≤ n
  | 0 => Nat.le_refl 0
  | n + 1 => by
    have := cntB_le (p := p) n
    rw [cntB]
    cases p n
    · show cntB p n + 0 ≤ n + 1; omega
    · show cntB p n + 1 ≤ n + 1; omega
theorem bI_dec (b : Bool) : b = !decide (bI b = 0) := by cases b <;> decide
def mbK (f : Nat → Int32) (n kn : Nat) (t : Nat → Nat → Int32) (ck : Int32) (s : GS) (z : Bool) : ax_K := fun x h' => x = none ∧ ∃ sn' : Nat → Int32, h' = mHb (msF f n t (mBL f n t ck n (rdM t s.2.1 n z) s).2.1) n kn t sn' (mBL f n t ck n (rdM t s.2.1 n z) s)
theorem mba_seen {C : ax_O} (h0 : Sp_M_taken_0 C) (h1 : Sp_M_taken_1 C) (hN : Sp_M_next C) (hF : Sp_M_fits C) (hB : Sp_M_begin C) (hR : Sp_M_isReady C) (f : Nat → Int32) (n kn : Nat) (t : Nat → Nat → Int32) (ck : Int32) (s : GS) (z : Bool) (hn : n ≤ 24) (hb : s.2.2 + cntB (rdM t s.2.1 n z) n ≤ 96) (sn0 : Nat → Int32) (z3 z4 z5 : Option Value) : ax_X ax_Ms ax_Xs no_M_beginAll C (mbK f n kn t ck s z) 44 [some (.ref 0), some (.int ck), some (.int (bI z)), z3, z4, z5] [] (mHb f n kn t sn0 s) 0 0 := by
  have loop : ∀ (k a : Nat) (x : Int32) (sn : Nat → Int32), x = nI a → (∀ c, c < a → sn c = bI (rdM t s.2.1 n z c)) → a + k = n → ax_X ax_Ms ax_Xs no_M_beginAll C (mbK f n kn t ck s z) 46 [some (.ref 0), some (.int ck), some (.int (bI z)), some (.int x), z4, z5] [] (mHb f n kn t sn s) 0 0 := by
    intro k
    induction k with
    | zero =>
      intro a x sn hx hs hk
      subst hx
      have hk : a = n := hk
      subst hk
      refine ax_X.steps 4 (ax_brT (nI_le (by omega) (by omega)) ?_)
      exact ax_X.steps 2 (mba_loop h0 h1 hN hF hB f a kn t ck (bI z) _ hn a sn (rdM t s.2.1 a z) s z4 z5 (fun c hc => by rw [hs c hc]; exact bI_dec _) (cntB_le a) hb (fun sn2 => ⟨rfl, sn2, rfl⟩))
    | succ k ih =>
      intro a x sn hx hs hk
      subst hx
      refine ax_X.steps 4 (ax_brF (nI_ge (by omega) (by omega)) ?_)
      refine ax_X.steps 7 (ax_go ((show C no_M_isReady [.ref 0, .int (nI a), .int (bI z)] (mHb f n kn t sn s) (ax_is (some (.int (bI (rdM t s.2.1 n z a)))) (mHb f n kn t sn s)) from hR f n kn (mT (va_up (va_up t 22 sn) 23 s.1) s.2.1) s.2.2 a z hn (by omega))) ?_)
      refine ax_X.steps 1 ⟨a, ⟨by omega, by omega⟩, rfl, ?_⟩
      exact ax_X.steps 2 (ih (a + 1) _ (upd sn a (bI (rdM t s.2.1 n z a) &&& 1)) (nI_1 a) (fun c hc => by
          by_cases e : c = a
          · rw [e, pk_us, bI_and1]
          · rw [pk_un e]; exact hs c (by omega)) (by omega))
  exact ax_X.steps 2 (loop n 0 0 sn0 rfl (fun c hc => absurd hc (Nat.not_lt_zero c)) (by omega))
def Sp_M_beginAll (C : ax_O) : Prop := ∀ (f : Nat → Int32) (n kn : Nat) (t : Nat → Nat → Int32) (sn : Nat → Int32) (s : GS) (ck : Int32), n ≤ 24 → s.2.2 + cntB (rdM t s.2.1 n (tzM t s.2.1 n)) n ≤ 96 → C no_M_beginAll [.ref 0, .int ck] (mHb f n kn t sn s) (mbK f n kn t ck s (tzM t s.2.1 n))
theorem p_M_beginAll {C : ax_O} (h0 : Sp_M_taken_0 C) (h1 : Sp_M_taken_1 C) (hN : Sp_M_next C) (hF : Sp_M_fits C) (hB : Sp_M_begin C) (hR : Sp_M_isReady C) : Sp_M_beginAll (ax_B ax_Ms ax_Xs C) := by
  intro f n kn t sn s ck hn hb
  have go : ∀ (z : Bool) (z3 z4 z5 : Option Value), z = tzM t s.2.1 n → ax_X ax_Ms ax_Xs no_M_beginAll C (mbK f n kn t ck s (tzM t s.2.1 n)) 44 [some (.ref 0), some (.int ck), some (.int (bI z)), z3, z4, z5] [] (mHb f n kn t sn s) 0 0 := by
    intro z z3 z4 z5 hz
    subst hz
    exact mba_seen h0 h1 hN hF hB hR f n kn t ck s _ hn hb sn z3 z4 z5
  have loop : ∀ (k a : Nat) (x : Int32) (m : Int32), x = nI a → m = bI (!anyB (olM t s.2.1) a) → a + k = n → ax_X ax_Ms ax_Xs no_M_beginAll C (mbK f n kn t ck s (tzM t s.2.1 n)) 4 [some (.ref 0), some (.int ck), some (.int m), some (.int x), none, none] [] (mHb f n kn t sn s) 0 0 := by
    intro k
    induction k with
    | zero =>
      intro a x m hx hm hk
      subst hx
      have hk : a = n := hk
      subst hk
      subst hm
      refine ax_X.steps 4 (ax_brT (nI_le (by omega) (by omega)) ?_)
      refine ax_X.steps 2 (ax_br2 (fun c34 => ?_) (fun c34 => ?_))
      · exact ax_X.steps 3 (go true _ _ _ (by unfold tzM; rw [show (!anyB (olM t s.2.1) a) = true from (by cases z : (!anyB (olM t s.2.1) a) with | false => exact absurd (congrArg bI z) c34 | true => rfl)]; rfl))
      · refine ax_X.steps 4 ⟨0, ⟨by omega, by omega⟩, rfl, ?_⟩
        refine ax_X.steps 1 (ax_br2 (fun c39 => ?_) (fun c39 => ?_))
        · exact ax_X.steps 2 (go false _ _ _ (by unfold tzM; rw [bI_0.mp (nn c34), decide_eq_false (show ¬ t 11 0 = 0 from c39)]; rfl))
        · exact ax_X.steps 3 (go true _ _ _ (by unfold tzM; rw [decide_eq_true (show t 11 0 = 0 from nn c39), Bool.or_true]))
    | succ k ih =>
      intro a x m hx hm hk
      subst hx
      subst hm
      refine ax_X.steps 4 (ax_brF (nI_ge (by omega) (by omega)) ?_)
      refine ax_X.steps 2 (ax_br2 (fun c9 => ?_) (fun c9 => ?_))
      · exact ax_X.steps 4 (ih (a + 1) _ _ (nI_1 a) (na_0 c9) (by omega))
      · refine ax_X.steps 4 ⟨a, ⟨by omega, by omega⟩, rfl, ?_⟩
        refine ax_X.steps 1 (ax_br2 (fun c14 => ?_) (fun c14 => ?_))
        · exact ax_X.steps 5 (ih (a + 1) _ _ (nI_1 a) (na_1 c9 (by unfold olM; rw [decide_eq_false (show ¬ t 8 a = 0 from c14)]; rfl)) (by omega))
        · refine ax_X.steps 4 ⟨a, ⟨by omega, by omega⟩, rfl, ?_⟩
          refine ax_X.steps 2 (ax_br2 (fun c20 => ?_) (fun c20 => ?_))
          · exact ax_X.steps 4 (ih (a + 1) _ _ (nI_1 a) (na_2 (by unfold olM; rw [decide_eq_true (show t 8 a = 0 from nn c14), decide_eq_true (show s.2.1 0 a = 6 from c20)]; rfl)) (by omega))
          · refine ax_X.steps 4 ⟨a, ⟨by omega, by omega⟩, rfl, ?_⟩
            refine ax_X.steps 2 (ax_br2 (fun c26 => ?_) (fun c26 => ?_))
            · exact ax_X.steps 4 (ih (a + 1) _ _ (nI_1 a) (na_2 (by unfold olM; rw [decide_eq_true (show t 8 a = 0 from nn c14), decide_eq_true (show s.2.1 0 a = 7 from c26), Bool.or_true]; rfl)) (by omega))
            · exact ax_X.steps 5 (ih (a + 1) _ _ (nI_1 a) (na_1 c9 (by unfold olM; rw [decide_eq_false (show ¬ s.2.1 0 a = 6 from c20), decide_eq_false (show ¬ s.2.1 0 a = 7 from c26), Bool.or_false, Bool.and_false])) (by omega))
  exact ax_X.steps 4 (loop n 0 0 1 rfl rfl (by omega))
