/-! The reference: fresh, and the whole run. -/
theorem fresh_one {C : ax_O} (f : Nat → Int32) (n kn : Nat) (t : Nat → Nat → Int32) (b : Nat) (ag : Nat → Int32) (r : Nat → Nat → Int32) (v : Int32) (a : Nat) (z2 : Option Value) (ha : a < 24) (K : ax_K) (hK : ax_X ax_Ms ax_Xs no_M_fresh C K 96 [some (.ref 0), some (.int (nI a)), z2] [] (mH f n kn (mT (va_up t 21 (upd ag a 0)) (fillR r a v)) b) 0 0) : ax_X ax_Ms ax_Xs no_M_fresh C K 61 [some (.ref 0), some (.int (nI a)), z2] [] (mH f n kn (mT (va_up t 21 ag) (ts r 0 a v)) b) 0 0 := by
  refine ax_X.steps 5 ⟨a, ⟨by omega, by omega⟩, rfl, (?_ : ax_X ax_Ms ax_Xs no_M_fresh C K 66 [some (.ref 0), some (.int (nI a)), z2] [] (mH f n kn (mT (va_up t 21 (ag)) (ts (ts r 0 a v) 5 a (-1))) b) 0 0)⟩
  refine ax_X.steps 5 ⟨a, ⟨by omega, by omega⟩, rfl, (?_ : ax_X ax_Ms ax_Xs no_M_fresh C K 71 [some (.ref 0), some (.int (nI a)), z2] [] (mH f n kn (mT (va_up t 21 (ag)) (ts (ts (ts r 0 a v) 5 a (-1)) 6 a (-1))) b) 0 0)⟩
  refine ax_X.steps 5 ⟨a, ⟨by omega, by omega⟩, rfl, (?_ : ax_X ax_Ms ax_Xs no_M_fresh C K 76 [some (.ref 0), some (.int (nI a)), z2] [] (mH f n kn (mT (va_up t 21 (ag)) (ts (ts (ts (ts r 0 a v) 5 a (-1)) 6 a (-1)) 1 a (-1))) b) 0 0)⟩
  refine ax_X.steps 5 ⟨a, ⟨by omega, by omega⟩, rfl, (?_ : ax_X ax_Ms ax_Xs no_M_fresh C K 81 [some (.ref 0), some (.int (nI a)), z2] [] (mH f n kn (mT (va_up t 21 (ag)) (ts (ts (ts (ts (ts r 0 a v) 5 a (-1)) 6 a (-1)) 1 a (-1)) 2 a (-1))) b) 0 0)⟩
  refine ax_X.steps 5 ⟨a, ⟨by omega, by omega⟩, rfl, (?_ : ax_X ax_Ms ax_Xs no_M_fresh C K 86 [some (.ref 0), some (.int (nI a)), z2] [] (mH f n kn (mT (va_up t 21 (ag)) (ts (ts (ts (ts (ts (ts r 0 a v) 5 a (-1)) 6 a (-1)) 1 a (-1)) 2 a (-1)) 3 a 0)) b) 0 0)⟩
  refine ax_X.steps 5 ⟨a, ⟨by omega, by omega⟩, rfl, (?_ : ax_X ax_Ms ax_Xs no_M_fresh C K 91 [some (.ref 0), some (.int (nI a)), z2] [] (mH f n kn (mT (va_up t 21 (ag)) (ts (ts (ts (ts (ts (ts (ts r 0 a v) 5 a (-1)) 6 a (-1)) 1 a (-1)) 2 a (-1)) 3 a 0) 4 a (-1))) b) 0 0)⟩
  refine ax_X.steps 5 ⟨a, ⟨by omega, by omega⟩, rfl, (?_ : ax_X ax_Ms ax_Xs no_M_fresh C K 96 [some (.ref 0), some (.int (nI a)), z2] [] (mH f n kn (mT (va_up t 21 (upd ag a 0)) (ts (ts (ts (ts (ts (ts (ts r 0 a v) 5 a (-1)) 6 a (-1)) 1 a (-1)) 2 a (-1)) 3 a 0) 4 a (-1))) b) 0 0)⟩
  exact ax_X.steps 0 (hK)
theorem fresh_loop {C : ax_O} (f : Nat → Int32) (n kn : Nat) (t : Nat → Nat → Int32) (b : Nat) (hn : n ≤ 24) (w : Int32) (wd : Nat → Int32) (ew : t 10 = wd) (hwd : ∀ c, c < n → wd c = bI (bt w c)) (hwn : ∀ c, n ≤ c → c < 24 → bt w c = false) (ag : Nat → Int32) (r : Nat → Nat → Int32) (K : ax_K) (hK : K none (mH f n kn (mT (va_up t 21 (itN (fun a g => upd g a 0) 24 ag)) (itN (fun a r => fillR r a (inV f t w a)) 24 r)) b)) : ax_X ax_Ms ax_Xs no_M_fresh C K 18 [some (.ref 0), none, none] [] (mH f n kn (mT (va_up t 21 ag) r) b) 0 0 := by
  have loop : ∀ (k a : Nat) (x : Int32) (g1 : Nat → Int32) (g : Nat → Nat → Int32) (q : Option Value), x = nI a → g1 = itN (fun a g => upd g a 0) a ag → g = itN (fun a r => fillR r a (inV f t w a)) a r → a + k = 24 → ax_X ax_Ms ax_Xs no_M_fresh C (K) 20 [some (.ref 0), some (.int x), q] [] (mH f n kn (mT (va_up t 21 g1) g) b) 0 0 := by
    intro k
    induction k with
    | zero =>
      intro a x g1 g q hx hg1 hg hk
      subst hx
      have hk : a = 24 := hk
      subst hk
      subst hg1
      subst hg
      refine ax_X.steps 3 (ax_brT ((nI_le (a := 24) (b := 24) (by omega) (by omega))) ?_)
      exact ax_X.steps 1 (hK)
    | succ k ih =>
      intro a x g1 g q hx hg1 hg hk
      subst hx
      have hs1 : upd g1 a 0 = itN (fun a g => upd g a 0) (a + 1) ag := by rw [hg1]; rfl
      have hs : fillR g a (inV f t w a) = itN (fun a r => fillR r a (inV f t w a)) (a + 1) r := by rw [hg]; rfl
      have nxt : ∀ (v : Int32) (z : Option Value), v = inV f t w a → ax_X ax_Ms ax_Xs no_M_fresh C K 61 [some (.ref 0), some (.int (nI a)), z] [] (mH f n kn (mT (va_up t 21 g1) (ts g 0 a v)) b) 0 0 := by
        intro v z hv
        subst hv
        exact fresh_one f n kn t b g1 g _ a z (by omega) K (ax_X.steps 2 (ih (a + 1) _ _ _ _ (nI_1 a) hs1 hs (by omega)))
      have ha24 : a < 24 := by omega
      have fit : ∀ z : Bool, z = !tsB f (t 1 a) (t 2 a) → ax_X ax_Ms ax_Xs no_M_fresh C K 41 [some (.ref 0), some (.int (nI a)), some (.int (bI z))] [] (mH f n kn (mT (va_up t 21 g1) g) b) 0 0 := by
        intro z hz
        by_cases hna : n ≤ a
        · have e0 : (0 : Int32) = inV f t w a := by unfold inV; rw [hwn a hna (by omega), if_neg (by decide)]
          refine ax_X.steps 7 (ax_brT (nI_le (by omega) (by omega)) ?_)
          refine ax_X.steps 3 ⟨a, ⟨by omega, by omega⟩, rfl, ?_⟩
          exact ax_X.steps 0 (nxt 0 _ e0)
        have hwa : t 10 a = bI (bt w a) := by rw [ew]; exact hwd a (by omega)
        cases hb : bt w a
        · have e0 : (0 : Int32) = inV f t w a := by unfold inV; rw [hb, if_neg (by decide)]
          rw [hb] at hwa
          refine ax_X.steps 7 (ax_brF (nI_ge (by omega) (by omega)) ?_)
          refine ax_X.steps 4 ⟨a, ⟨by omega, by omega⟩, rfl, ?_⟩
          refine ax_X.steps 1 (ax_brF (fun q => q hwa) ?_)
          refine ax_X.steps 3 ⟨a, ⟨by omega, by omega⟩, rfl, ?_⟩
          exact ax_X.steps 0 (nxt 0 _ e0)
        · rw [hb] at hwa
          cases z
          · have e0 : (5 : Int32) = inV f t w a := by unfold inV; rw [hb, if_pos rfl, if_pos (by cases q : tsB f (t 1 a) (t 2 a) with | false => rw [q] at hz; cases hz | true => rfl)]
            refine ax_X.steps 7 (ax_brF (nI_ge (by omega) (by omega)) ?_)
            refine ax_X.steps 4 ⟨a, ⟨by omega, by omega⟩, rfl, ?_⟩
            refine ax_X.steps 1 (ax_brT (fun q => bI_n0 (hwa.symm.trans q)) ?_)
            refine ax_X.steps 2 (ax_brT (rfl) ?_)
            refine ax_X.steps 2 ⟨a, ⟨by omega, by omega⟩, rfl, ?_⟩
            exact ax_X.steps 0 (nxt 5 _ e0)
          · have e0 : (6 : Int32) = inV f t w a := by unfold inV; rw [hb, if_pos rfl, if_neg (by cases q : tsB f (t 1 a) (t 2 a) with | true => rw [q] at hz; cases hz | false => decide)]
            refine ax_X.steps 7 (ax_brF (nI_ge (by omega) (by omega)) ?_)
            refine ax_X.steps 4 ⟨a, ⟨by omega, by omega⟩, rfl, ?_⟩
            refine ax_X.steps 1 (ax_brT (fun q => bI_n0 (hwa.symm.trans q)) ?_)
            refine ax_X.steps 2 (ax_brF (bI_n0) ?_)
            refine ax_X.steps 3 ⟨a, ⟨by omega, by omega⟩, rfl, ?_⟩
            exact ax_X.steps 0 (nxt 6 _ e0)
      refine ax_X.steps 3 (ax_brF ((nI_ge (a := a) (b := 24) (by omega) (by omega))) ?_)
      refine ax_X.steps 4 ⟨a, ⟨by omega, by omega⟩, rfl, ?_⟩
      refine ax_X.steps 3 (ax_br2 (fun c29 => ?_) (fun c29 => ?_))
      · exact ax_X.steps 2 (fit false (by unfold tsB; rw [decide_eq_true (show f 0 < t 1 a from c29)]; rfl))
      · refine ax_X.steps 4 ⟨a, ⟨by omega, by omega⟩, rfl, ?_⟩
        refine ax_X.steps 3 (ax_br2 (fun c36 => ?_) (fun c36 => ?_))
        · exact ax_X.steps 2 (fit false (by unfold tsB; rw [decide_eq_true (show f 1 < t 2 a from c36), Bool.or_true]; rfl))
        · exact ax_X.steps 3 (fit true (by unfold tsB; rw [decide_eq_false (show ¬ f 0 < t 1 a from c29), decide_eq_false (show ¬ f 1 < t 2 a from c36)]; rfl))
  exact ax_X.steps 2 (loop 24 0 0 ag r none rfl rfl rfl rfl)
def frF (f : Nat → Int32) : Nat → Int32 := va_up (va_up (va_up f 3 0) 4 0) 5 0
def Sp_M_fresh (C : ax_O) : Prop := ∀ (f : Nat → Int32) (n kn : Nat) (t : Nat → Nat → Int32) (b : Nat) (r : Nat → Nat → Int32) (dp : Nat → Int32) (rk tn : Nat → Nat), n ≤ 24 → rkP n (t 7) rk → tmP n (t 0) tn → (∀ a, a < n → allP n (t 7) a (dp a)) → (∀ c, n ≤ c → c < 24 → bt (wtG (t 9) dp n) c = false) → C no_M_fresh [.ref 0] (mH f n kn (mT t r) b) (fun x h' => x = none ∧ ∃ wd rs : Nat → Int32, (∀ c, c < n → wd c = bI (bt (wtG (t 9) dp n) c)) ∧ (∀ c, c < n → rs c = if bt (wtG (t 9) dp n) c = true then reN (t 7) (t 0) (wtG (t 9) dp n) n c else 0) ∧ h' = mH (frF f) n n (mT (va_up (va_up (va_up t 10 wd) 13 rs) 21 (itN (fun a g => upd g a 0) 24 (t 21))) (itN (fun a r => fillR r a (inV f t (wtG (t 9) dp n) a)) 24 r)) 0)
theorem p_M_fresh {C : ax_O} (hW : Sp_M_want C) : Sp_M_fresh (ax_B ax_Ms ax_Xs C) := by
  intro f n kn t b r dp rk tn hn hrk ht hdp hwn
  refine ax_X.steps 2 (ax_goPv (hW f n kn (mT t r) b dp rk tn hn hrk ht hdp) (fun h' hz => ?_))
  obtain ⟨-, wd, rs, h1, h2, rfl⟩ := hz
  have hfl := fresh_loop (C := C) (frF f) n n (va_up (va_up t 10 wd) 13 rs) 0 hn (wtG (t 9) dp n) wd rfl h1 hwn (t 21) r
  refine ax_X.steps 4 ⟨Or.inl rfl, (?_ : ax_X ax_Ms ax_Xs no_M_fresh C _ 6 [some (.ref 0), none, none] [] (mH (f) n n (mT (va_up (va_up t 10 wd) 13 rs) r) b) 0 0)⟩
  refine ax_X.steps 3 ⟨Or.inl rfl, (?_ : ax_X ax_Ms ax_Xs no_M_fresh C _ 9 [some (.ref 0), none, none] [] (mH (f) n n (mT (va_up (va_up t 10 wd) 13 rs) r) 0) 0 0)⟩
  refine ax_X.steps 3 ⟨Or.inl rfl, (?_ : ax_X ax_Ms ax_Xs no_M_fresh C _ 12 [some (.ref 0), none, none] [] (mH (va_up f 3 0) n n (mT (va_up (va_up t 10 wd) 13 rs) r) 0) 0 0)⟩
  refine ax_X.steps 3 ⟨Or.inl rfl, (?_ : ax_X ax_Ms ax_Xs no_M_fresh C _ 15 [some (.ref 0), none, none] [] (mH (va_up (va_up f 3 0) 4 0) n n (mT (va_up (va_up t 10 wd) 13 rs) r) 0) 0 0)⟩
  refine ax_X.steps 3 ⟨Or.inl rfl, (?_ : ax_X ax_Ms ax_Xs no_M_fresh C _ 18 [some (.ref 0), none, none] [] (mH (frF f) n n (mT (va_up (va_up t 10 wd) 13 rs) r) 0) 0 0)⟩
  exact ax_X.steps 0 (hfl _ ⟨rfl, wd, rs, h1, h2, rfl⟩)
