/-! The class: rest, and the whole run. -/
def Sp_O_rest_n (C : ax_O) : Prop := ∀ (f : Nat → Int32) (n : Nat) (t : Nat → Nat → Int32) (u : Int32) (b : Nat) (x : Int32), hasB n x = false → C no_O_rest [.ref 0, .int x] (oH f n t u b) (ax_is (some (.int 0)) (oH f n t u b))
theorem p_O_rest_n {C : ax_O} (hH : Sp_A_has C) : Sp_O_rest_n (ax_B ax_Ms ax_Xs C) := by
  intro f n t u b x hx
  refine ax_X.steps 4 (ax_go (hH _ _ _ _ _ _ false hx) ?_)
  refine ax_X.steps 1 (ax_brF (fun q => q rfl) ?_)
  exact ax_X.steps 2 ⟨Or.inl rfl, rfl, rfl⟩
def Sp_O_rest_0 (C : ax_O) : Prop := ∀ (f : Nat → Int32) (n : Nat) (t : Nat → Nat → Int32) (u : Int32) (b : Nat) (k : Nat), n ≤ 24 → k < n → bt (wtI t n) k = false → C no_O_rest [.ref 0, .int (nI k)] (oH f n t u b) (ax_is (some (.int 0)) (oH f n t u b))
theorem p_O_rest_0 {C : ax_O} (hH : Sp_A_has C) (hW : Sp_A_wanted C) (hI : Sp_O_isIn C) : Sp_O_rest_0 (ax_B ax_Ms ax_Xs C) := by
  intro f n t u b k hn hk hb
  refine ax_X.steps 4 (ax_go (hH _ _ _ _ _ _ true (hasB_k hn hk)) ?_)
  refine ax_X.steps 1 (ax_brT (bI_n0) ?_)
  refine ax_X.steps 3 (ax_go (hW f n t u b hn) ?_)
  refine ax_X.steps 4 (ax_go (hI _ _ _ false (by omega) hb) ?_)
  refine ax_X.steps 1 (ax_brF (fun q => q rfl) ?_)
  exact ax_X.steps 2 ⟨Or.inl rfl, rfl, rfl⟩
def Sp_O_rest_1 (C : ax_O) : Prop := ∀ (f : Nat → Int32) (n : Nat) (t : Nat → Nat → Int32) (u : Int32) (b : Nat) (k : Nat) (rk : Nat → Nat), n ≤ 24 → k < n → rkP n (t 9) rk → bt (wtI t n) k = true → C no_O_rest [.ref 0, .int (nI k)] (oH f n t u b) (fun x h' => x = some (.int (reN (t 9) (t 0) (wtI t n) n k)) ∧ ∃ g : Nat → Int32, h' = oH f n (va_up t 11 g) u b)
theorem p_O_rest_1 {C : ax_O} (hH : Sp_A_has C) (hW : Sp_A_wanted C) (hI : Sp_O_isIn C) (hM : Sp_A_measure C) : Sp_O_rest_1 (ax_B ax_Ms ax_Xs C) := by
  intro f n t u b k rk hn hk hrk hb
  refine ax_X.steps 4 (ax_go (hH _ _ _ _ _ _ true (hasB_k hn hk)) ?_)
  refine ax_X.steps 1 (ax_brT (bI_n0) ?_)
  refine ax_X.steps 3 (ax_go (hW f n t u b hn) ?_)
  refine ax_X.steps 4 (ax_go (hI _ _ _ true (by omega) hb) ?_)
  refine ax_X.steps 1 (ax_brT (bI_n0) ?_)
  refine ax_X.steps 4 (ax_goPv (hM f n t u b (wtI t n) rk hn hrk) (fun h' hz => ?_))
  obtain ⟨-, g, hg, rfl⟩ := hz
  refine ax_X.steps 5 ⟨k, ⟨by omega, by omega⟩, rfl, ?_⟩
  exact ax_X.steps 1 ⟨Or.inl rfl, by rw [← hg k hk]; rfl, g, rfl⟩
def fillR (r : Nat → Nat → Int32) (a : Nat) (v : Int32) : Nat → Nat → Int32 := ts (ts (ts (ts (ts (ts (ts r 0 a v) 1 a (-1)) 2 a (-1)) 3 a 0) 4 a (-1)) 5 a (-1)) 6 a (-1)
def inV (f : Nat → Int32) (t : Nat → Nat → Int32) (w : Int32) (a : Nat) : Int32 := if bt w a = true then (if tsB f (t 1 a) (t 2 a) = true then 5 else 6) else 0
theorem prep_one {C : ax_O} (f : Nat → Int32) (n : Nat) (t : Nat → Nat → Int32) (u : Int32) (b : Nat) (r : Nat → Nat → Int32) (w v : Int32) (a : Nat) (ha : a < 24) (K : ax_K) (hK : ax_X ax_Ms ax_Xs no_N_prepare C K 65 [some (.ref 18), some (.int w), some (.int (nI a))] [] (oH f n (oT t (fillR r a v)) u b) 0 0) : ax_X ax_Ms ax_Xs no_N_prepare C K 35 [some (.ref 18), some (.int w), some (.int (nI a))] [] (oH f n (oT t (ts r 0 a v)) u b) 0 0 := by
  refine ax_X.steps 5 ⟨a, ⟨by omega, by omega⟩, rfl, (?_ : ax_X ax_Ms ax_Xs no_N_prepare C _ 40 [some (.ref 18), some (.int w), some (.int (nI a))] [] (oH f n (oT t (ts (ts r 0 a v) 1 a (-1))) u b) 0 0)⟩
  refine ax_X.steps 5 ⟨a, ⟨by omega, by omega⟩, rfl, (?_ : ax_X ax_Ms ax_Xs no_N_prepare C _ 45 [some (.ref 18), some (.int w), some (.int (nI a))] [] (oH f n (oT t (ts (ts (ts r 0 a v) 1 a (-1)) 2 a (-1))) u b) 0 0)⟩
  refine ax_X.steps 5 ⟨a, ⟨by omega, by omega⟩, rfl, (?_ : ax_X ax_Ms ax_Xs no_N_prepare C _ 50 [some (.ref 18), some (.int w), some (.int (nI a))] [] (oH f n (oT t (ts (ts (ts (ts r 0 a v) 1 a (-1)) 2 a (-1)) 3 a 0)) u b) 0 0)⟩
  refine ax_X.steps 5 ⟨a, ⟨by omega, by omega⟩, rfl, (?_ : ax_X ax_Ms ax_Xs no_N_prepare C _ 55 [some (.ref 18), some (.int w), some (.int (nI a))] [] (oH f n (oT t (ts (ts (ts (ts (ts r 0 a v) 1 a (-1)) 2 a (-1)) 3 a 0) 4 a (-1))) u b) 0 0)⟩
  refine ax_X.steps 5 ⟨a, ⟨by omega, by omega⟩, rfl, (?_ : ax_X ax_Ms ax_Xs no_N_prepare C _ 60 [some (.ref 18), some (.int w), some (.int (nI a))] [] (oH f n (oT t (ts (ts (ts (ts (ts (ts r 0 a v) 1 a (-1)) 2 a (-1)) 3 a 0) 4 a (-1)) 5 a (-1))) u b) 0 0)⟩
  refine ax_X.steps 5 ⟨a, ⟨by omega, by omega⟩, rfl, (?_ : ax_X ax_Ms ax_Xs no_N_prepare C _ 65 [some (.ref 18), some (.int w), some (.int (nI a))] [] (oH f n (oT t (ts (ts (ts (ts (ts (ts (ts r 0 a v) 1 a (-1)) 2 a (-1)) 3 a 0) 4 a (-1)) 5 a (-1)) 6 a (-1))) u b) 0 0)⟩
  exact ax_X.steps 0 (hK)
theorem prep_loop {C : ax_O} (hI : Sp_O_isIn C) (hS : Sp_N_stateAtFirst C) (f : Nat → Int32) (n : Nat) (t : Nat → Nat → Int32) (u : Int32) (b : Nat) (r : Nat → Nat → Int32) (w : Int32) (K : ax_K) (hK : K none (oH f n (oT t (itN (fun a r => fillR r a (inV f t w a)) 24 r)) u b)) : ax_X ax_Ms ax_Xs no_N_prepare C K 17 [some (.ref 18), some (.int w), none] [] (oH f n (oT t r) u b) 0 0 := by
  have loop : ∀ (k a : Nat) (x : Int32) (g : Nat → Nat → Int32), x = nI a → g = itN (fun a r => fillR r a (inV f t w a)) a r → a + k = 24 → ax_X ax_Ms ax_Xs no_N_prepare C (K) 19 [some (.ref 18), some (.int w), some (.int x)] [] (oH f n (oT t g) u b) 0 0 := by
    intro k
    induction k with
    | zero =>
      intro a x g hx hg hk
      subst hx
      have hk : a = 24 := hk
      subst hk
      subst hg
      refine ax_X.steps 3 (ax_brT ((nI_le (a := 24) (b := 24) (by omega) (by omega))) ?_)
      exact ax_X.steps 1 (hK)
    | succ k ih =>
      intro a x g hx hg hk
      subst hx
      have hs : fillR g a (inV f t w a) = itN (fun a r => fillR r a (inV f t w a)) (a + 1) r := by rw [hg]; rfl
      have nxt : ax_X ax_Ms ax_Xs no_N_prepare C K 65 [some (.ref 18), some (.int w), some (.int (nI a))] [] (oH f n (oT t (fillR g a (inV f t w a))) u b) 0 0 := ax_X.steps 2 (ih (a + 1) _ _ (nI_1 a) hs (by omega))
      cases hb : bt w a
      · have e : inV f t w a = 0 := by unfold inV; rw [hb]; rfl
        rw [e] at nxt
        refine ax_X.steps 3 (ax_brF ((nI_ge (a := a) (b := 24) (by omega) (by omega))) ?_)
        refine ax_X.steps 6 (ax_go (hI _ _ _ false (by omega) hb) ?_)
        refine ax_X.steps 1 (ax_brT (rfl) ?_)
        refine ax_X.steps 2 ⟨a, ⟨by omega, by omega⟩, rfl, ?_⟩
        exact ax_X.steps 0 (prep_one f n t u b g w 0 a (by omega) _ nxt)
      · have e : inV f t w a = (if tsB f (t 1 a) (t 2 a) = true then 5 else 6) := by unfold inV; rw [hb]; rfl
        rw [e] at nxt
        refine ax_X.steps 3 (ax_brF ((nI_ge (a := a) (b := 24) (by omega) (by omega))) ?_)
        refine ax_X.steps 6 (ax_go (hI _ _ _ true (by omega) hb) ?_)
        refine ax_X.steps 1 (ax_brF (bI_n0) ?_)
        refine ax_X.steps 3 (ax_go ((show C no_N_stateAtFirst [.ref 18, .int (nI a)] (oH f n (oT t g) u b) (ax_is (some (.int (if tsB f (t 1 a) (t 2 a) = true then 5 else 6))) (oH f n (oT t g) u b)) from hS f n (oT t g) u b a (by omega))) ?_)
        refine ax_X.steps 2 ⟨a, ⟨by omega, by omega⟩, rfl, ?_⟩
        exact ax_X.steps 0 (prep_one f n t u b g w _ a (by omega) _ nxt)
  exact ax_X.steps 2 (loop 24 0 0 r rfl rfl rfl)
def Sp_N_prepare (C : ax_O) : Prop := ∀ (f : Nat → Int32) (n : Nat) (t : Nat → Nat → Int32) (u : Int32) (b : Nat) (r : Nat → Nat → Int32) (rk : Nat → Nat), n ≤ 24 → rkP n (t 9) rk → C no_N_prepare [.ref 18] (oH f n (oT t r) u b) (fun x h' => x = none ∧ ∃ g : Nat → Int32, (∀ a, a < n → g a = reN (t 9) (t 0) (wtI t n) n a) ∧ h' = oH (clF f) n (oT (va_up t 11 g) (itN (fun a r => fillR r a (inV (clF f) t (wtI t n) a)) 24 r)) 1 0)
theorem wtI_oT {t r : Nat → Nat → Int32} : ∀ n, wtI (oT t r) n = wtI t n
  | 0 => rfl
  | n + 1 => by
    rw [wtI, wtI, wtI_oT n]
    rfl
theorem p_N_prepare {C : ax_O} (hC : Sp_H_clear C) (hW : Sp_A_wanted C) (hM : Sp_A_measure C) (hI : Sp_O_isIn C) (hS : Sp_N_stateAtFirst C) : Sp_N_prepare (ax_B ax_Ms ax_Xs C) := by
  intro f n t u b r rk hn hrk
  have hW2 := hW (clF f) n (oT t r) 1 0 hn
  rw [wtI_oT] at hW2
  refine ax_X.steps 3 ⟨Or.inr ⟨rfl, Or.inr rfl⟩, (?_ : ax_X ax_Ms ax_Xs no_N_prepare C _ 3 [some (.ref 18), none, none] [] (oH f n (oT t r) 1 b) 0 0)⟩
  refine ax_X.steps 3 ⟨Or.inl rfl, (?_ : ax_X ax_Ms ax_Xs no_N_prepare C _ 6 [some (.ref 18), none, none] [] (oH f n (oT t r) 1 0) 0 0)⟩
  refine ax_X.steps 3 (ax_gov (hC f n (oT t r) 1 0) ?_)
  refine ax_X.steps 3 (ax_go (hW2) ?_)
  refine ax_X.steps 5 (ax_goPv (hM (clF f) n (oT t r) 1 0 (wtI t n) rk hn hrk) (fun h' hz => ?_))
  obtain ⟨-, g, hg, rfl⟩ := hz
  exact ax_X.steps 0 (prep_loop hI hS (clF f) n (va_up t 11 g) 1 0 r (wtI t n) _ ⟨rfl, g, hg, rfl⟩)
noncomputable def skF (n : Nat) (nd st : Nat → Int32) : Nat → Int32 := Classical.epsilon (fun g => skC n nd st g)
theorem skF_eq {n : Nat} {nd st g : Nat → Int32} (h : skC n nd st g) : g = skF n nd st := skC_one h (Classical.epsilon_spec (p := fun g => skC n nd st g) ⟨g, h⟩)
/-- behind ends and skips, and stops if one is bad and the run fails fast -/
noncomputable def mdR (n : Nat) (nd : Nat → Int32) (on : Int32) (r : Nat → Nat → Int32) : Nat → Nat → Int32 :=
  if (!decide (on = 0) && anyB (badB (skF n nd (r 0))) n) = true then va_up r 0 (stF n (skF n nd (r 0))) else va_up r 0 (skF n nd (r 0))
/-- the class at one time, up to the begins -/
noncomputable def oMd (n : Nat) (t : Nat → Nat → Int32) (ck : Int32) (s : BS) : BS := ((itN (oES n t ck) n (s.1, s.2.2.1)).1, s.2.1, mdR n (t 9) (t 12 1) (itN (oES n t ck) n (s.1, s.2.2.1)).2, s.2.2.2)
def oPd (n : Nat) (t : Nat → Nat → Int32) (s : BS) : Nat → Bool := rdO (oT t s.2.2.1) n (tzO (oT t s.2.2.1) n)
noncomputable def oSt (n : Nat) (t : Nat → Nat → Int32) (ck : Int32) (s : BS) : BS := oBL n t ck n (oPd n t (oMd n t ck s)) (oMd n t ck s)
def oNe (n : Nat) (t : Nat → Nat → Int32) (s : BS) : Int32 := neI (oT t s.2.2.1) n
noncomputable def oRn (n : Nat) (t : Nat → Nat → Int32) : Nat → Int32 → BS → Int32 × BS
  | 0, ck, s => (ck, s)
  | k + 1, ck, s => if oNe n t (oSt n t ck s) = -1 then (ck, oSt n t ck s) else oRn n t k (oNe n t (oSt n t ck s)) (oSt n t ck s)
def oOk (n : Nat) (t : Nat → Nat → Int32) : Nat → Int32 → BS → Prop
  | 0, _, _ => True
  | k + 1, ck, s => (oMd n t ck s).2.2.2 + cntB (oPd n t (oMd n t ck s)) n ≤ 96 ∧ (¬ oNe n t (oSt n t ck s) = -1 → oOk n t k (oNe n t (oSt n t ck s)) (oSt n t ck s))
theorem neI_oT {t t' r : Nat → Nat → Int32} : ∀ n, neI (oT t r) n = neI (oT t' r) n
  | 0 => rfl
  | n + 1 => by rw [neI, neI, neI_oT (t := t) (t' := t') n]; rfl
def Sp_N_go (C : ax_O) : Prop := ∀ (f : Nat → Int32) (n : Nat) (t : Nat → Nat → Int32) (u : Int32) (b : Nat) (r : Nat → Nat → Int32) (rk : Nat → Nat), n ≤ 24 → rkP n (t 9) rk → (∀ a, a < n → ∃ q, q < 4 ∧ t 6 a = nI q) → (∀ g : Nat → Int32, (∀ a, a < n → g a = reN (t 9) (t 0) (wtI t n) n a) → oOk n (va_up t 11 g) 97 0 (clF f, t 21, itN (fun a r => fillR r a (inV (clF f) t (wtI t n) a)) 24 r, 0)) →
  C no_N_goThrough [.ref 18] (oH f n (oT t r) u b) (fun x h' => ∃ g : Nat → Int32, (∀ a, a < n → g a = reN (t 9) (t 0) (wtI t n) n a) ∧ ∃ (ck : Int32) (s : BS), oRn n (va_up t 11 g) 97 0 (clF f, t 21, itN (fun a r => fillR r a (inV (clF f) t (wtI t n) a)) 24 r, 0) = (ck, s) ∧ x = some (.int ck) ∧ h' = oHs n (va_up t 11 g) 1 (s.1, s.2.1, va_up s.2.2.1 0 (stF n (s.2.2.1 0)), s.2.2.2))
theorem p_N_go {C : ax_O} (h1 : Sp_N_prepare C) (h2 : Sp_N_endTries C) (h3 : Sp_N_skip C) (h4 : Sp_N_isOneBad C) (h5 : Sp_N_stopWaiting C) (h6 : Sp_N_beginReady C) (h7 : Sp_N_nextEnd C) : Sp_N_go (ax_B ax_Ms ax_Xs C) := by
  intro f n t u b r rk hn hrk hq hok
  generalize hR : itN (fun a r => fillR r a (inV (clF f) t (wtI t n) a)) 24 r = R0 at hok
  have loop : ∀ (t : Nat → Nat → Int32) (K : ax_K), (∀ a, a < n → ∃ q, q < 4 ∧ t 6 a = nI q) → ∀ (k e : Nat) (x ck : Int32) (q3 : Option Value) (s : BS), x = nI e → e + k = 97 → oOk n t k ck s → (∀ ck2 s2, oRn n t k ck s = (ck2, s2) → K (some (.int ck2)) (oHs n t 1 (s2.1, s2.2.1, va_up s2.2.2.1 0 (stF n (s2.2.2.1 0)), s2.2.2.2))) → ax_X ax_Ms ax_Xs no_N_goThrough C K 6 [some (.ref 18), some (.int ck), some (.int x), q3] [] (oHs n t 1 s) 0 0 := by
    intro t K hq
    have fin : ∀ (x ck : Int32) (q3 : Option Value) (s : BS), K (some (.int ck)) (oHs n t 1 (s.1, s.2.1, va_up s.2.2.1 0 (stF n (s.2.2.1 0)), s.2.2.2)) → ax_X ax_Ms ax_Xs no_N_goThrough C K 39 [some (.ref 18), some (.int ck), some (.int x), q3] [] (oHs n t 1 s) 0 0 := by
      intro x ck q3 s hK
      refine ax_X.steps 2 (ax_gov ((show C no_N_stopWaiting [.ref 18] (oHs n t 1 s) (ax_is none (oHs n t 1 (s.1, s.2.1, va_up s.2.2.1 0 (stF n (s.2.2.1 0)), s.2.2.2))) from h5 s.1 n (oT (va_up t 21 s.2.1) s.2.2.1) 1 s.2.2.2 hn)) ?_)
      exact ax_X.steps 2 ⟨Or.inl rfl, hK⟩
    intro k
    induction k with
    | zero =>
      intro e x ck q3 s hx hk hok hK
      subst hx
      have hk : e = 97 := hk
      subst hk
      refine ax_X.steps 3 (ax_brT (nI_lt (a := 96) (b := 97) (by omega) (by omega)) ?_)
      exact ax_X.steps 0 (fin _ _ _ s (hK _ _ rfl))
    | succ k ih =>
      intro e x ck q3 s hx hk hok hK
      subst hx
      obtain ⟨hb, hnx⟩ := hok
      have begin : ax_X ax_Ms ax_Xs no_N_goThrough C K 25 [some (.ref 18), some (.int ck), some (.int (nI e)), q3] [] (oHs n t 1 (oMd n t ck s)) 0 0 := by
        rw [oRn] at hK
        by_cases hne : oNe n t (oSt n t ck s) = -1
        · rw [if_pos hne] at hK
          have hK := hK _ _ rfl
          refine ax_X.steps 3 (ax_gov (h6 n t 1 (oMd n t ck s) ck hn hb) ?_)
          refine ax_X.steps 2 (ax_go ((show C no_N_nextEnd [.ref 18] (oHs n t 1 (oSt n t ck s)) (ax_is (some (.int (-1))) (oHs n t 1 (oSt n t ck s))) from by have := h7 (oSt n t ck s).1 n (oT (va_up t 21 (oSt n t ck s).2.1) (oSt n t ck s).2.2.1) 1 (oSt n t ck s).2.2.2 hn; rw [neI_oT (t := va_up t 21 (oSt n t ck s).2.1) (t' := t), show neI (oT t (oSt n t ck s).2.2.1) n = -1 from hne] at this; exact this)) ?_)
          refine ax_X.steps 4 (ax_brF (fun q => q rfl) ?_)
          exact ax_X.steps 1 (fin _ _ _ _ hK)
        · rw [if_neg hne] at hK
          refine ax_X.steps 3 (ax_gov (h6 n t 1 (oMd n t ck s) ck hn hb) ?_)
          refine ax_X.steps 2 (ax_go ((show C no_N_nextEnd [.ref 18] (oHs n t 1 (oSt n t ck s)) (ax_is (some (.int (oNe n t (oSt n t ck s)))) (oHs n t 1 (oSt n t ck s))) from by have := h7 (oSt n t ck s).1 n (oT (va_up t 21 (oSt n t ck s).2.1) (oSt n t ck s).2.2.1) 1 (oSt n t ck s).2.2.2 hn; rw [neI_oT (t := va_up t 21 (oSt n t ck s).2.1) (t' := t)] at this; exact this)) ?_)
          refine ax_X.steps 4 (ax_brT (hne) ?_)
          exact ax_X.steps 4 (ih (e + 1) _ _ _ _ (nI_1 e) (by omega) (hnx hne) hK)
      have p := itN (oES n t ck) n (s.1, s.2.2.1)
      refine ax_X.steps 3 (ax_brF (nI_nlt (a := 96) (b := e) (by omega) (by omega)) ?_)
      refine ax_X.steps 3 (ax_gov ((show C no_N_endTries [.ref 18, .int ck] (oHs n t 1 s) (ax_is none (oHs n t 1 ((itN (oES n t ck) n (s.1, s.2.2.1)).1, s.2.1, (itN (oES n t ck) n (s.1, s.2.2.1)).2, s.2.2.2))) from by have := h2 s.1 n (va_up t 21 s.2.1) 1 s.2.2.2 s.2.2.1 ck hn hq; exact this)) ?_)
      refine ax_X.steps 2 (ax_goPv (h3 (itN (oES n t ck) n (s.1, s.2.2.1)).1 n (oT (va_up t 21 s.2.1) (itN (oES n t ck) n (s.1, s.2.2.1)).2) 1 s.2.2.2 hn) (fun h' hz => ?_))
      obtain ⟨-, g, hg, rfl⟩ := hz
      have hg := skF_eq hg
      subst hg
      refine ax_X.steps 5 ⟨1, ⟨by omega, by omega⟩, rfl, ?_⟩
      refine ax_X.steps 1 (ax_br2 (fun c19 => ?_) (fun c19 => ?_))
      · exact ax_X.steps 0 (by rw [show oMd n t ck s = _ from congrArg (fun z => ((itN (oES n t ck) n (s.1, s.2.2.1)).1, s.2.1, z, s.2.2.2)) (show mdR n (t 9) (t 12 1) (itN (oES n t ck) n (s.1, s.2.2.1)).2 = va_up (itN (oES n t ck) n (s.1, s.2.2.1)).2 0 (skF n (t 9) ((itN (oES n t ck) n (s.1, s.2.2.1)).2 0)) from by unfold mdR; rw [decide_eq_true (show t 12 1 = 0 from c19), Bool.not_true, Bool.false_and, if_neg (by decide)])] at begin; exact begin)
      · refine ax_X.steps 2 (ax_go ((show C no_N_isOneBad [.ref 18] (oHs n t 1 ((itN (oES n t ck) n (s.1, s.2.2.1)).1, s.2.1, va_up (itN (oES n t ck) n (s.1, s.2.2.1)).2 0 (skF n (t 9) ((itN (oES n t ck) n (s.1, s.2.2.1)).2 0)), s.2.2.2)) (ax_is (some (.int (bI (anyB (badB (skF n (t 9) ((itN (oES n t ck) n (s.1, s.2.2.1)).2 0))) n)))) (oHs n t 1 ((itN (oES n t ck) n (s.1, s.2.2.1)).1, s.2.1, va_up (itN (oES n t ck) n (s.1, s.2.2.1)).2 0 (skF n (t 9) ((itN (oES n t ck) n (s.1, s.2.2.1)).2 0)), s.2.2.2))) from h4 (itN (oES n t ck) n (s.1, s.2.2.1)).1 n (oT (va_up t 21 s.2.1) (va_up (itN (oES n t ck) n (s.1, s.2.2.1)).2 0 (skF n (t 9) ((itN (oES n t ck) n (s.1, s.2.2.1)).2 0)))) 1 s.2.2.2 hn)) ?_)
        refine ax_X.steps 1 (ax_br2 (fun c22 => ?_) (fun c22 => ?_))
        · exact ax_X.steps 0 (by rw [show oMd n t ck s = _ from congrArg (fun z => ((itN (oES n t ck) n (s.1, s.2.2.1)).1, s.2.1, z, s.2.2.2)) (show mdR n (t 9) (t 12 1) (itN (oES n t ck) n (s.1, s.2.2.1)).2 = va_up (itN (oES n t ck) n (s.1, s.2.2.1)).2 0 (skF n (t 9) ((itN (oES n t ck) n (s.1, s.2.2.1)).2 0)) from by unfold mdR; rw [show anyB (badB (skF n (t 9) ((itN (oES n t ck) n (s.1, s.2.2.1)).2 0))) n = false from bI_0.mp c22, Bool.and_false, if_neg (by decide)])] at begin; exact begin)
        · refine ax_X.steps 2 (ax_gov ((show C no_N_stopWaiting [.ref 18] (oHs n t 1 ((itN (oES n t ck) n (s.1, s.2.2.1)).1, s.2.1, va_up (itN (oES n t ck) n (s.1, s.2.2.1)).2 0 (skF n (t 9) ((itN (oES n t ck) n (s.1, s.2.2.1)).2 0)), s.2.2.2)) (ax_is none (oHs n t 1 ((itN (oES n t ck) n (s.1, s.2.2.1)).1, s.2.1, va_up (itN (oES n t ck) n (s.1, s.2.2.1)).2 0 (stF n (skF n (t 9) ((itN (oES n t ck) n (s.1, s.2.2.1)).2 0))), s.2.2.2))) from h5 (itN (oES n t ck) n (s.1, s.2.2.1)).1 n (oT (va_up t 21 s.2.1) (va_up (itN (oES n t ck) n (s.1, s.2.2.1)).2 0 (skF n (t 9) ((itN (oES n t ck) n (s.1, s.2.2.1)).2 0)))) 1 s.2.2.2 hn)) ?_)
          exact ax_X.steps 0 (by rw [show oMd n t ck s = _ from congrArg (fun z => ((itN (oES n t ck) n (s.1, s.2.2.1)).1, s.2.1, z, s.2.2.2)) (show mdR n (t 9) (t 12 1) (itN (oES n t ck) n (s.1, s.2.2.1)).2 = va_up (itN (oES n t ck) n (s.1, s.2.2.1)).2 0 (stF n (skF n (t 9) ((itN (oES n t ck) n (s.1, s.2.2.1)).2 0))) from by unfold mdR; rw [decide_eq_false (show ¬ t 12 1 = 0 from c19), show anyB (badB (skF n (t 9) ((itN (oES n t ck) n (s.1, s.2.2.1)).2 0))) n = true from (by cases z : anyB (badB (skF n (t 9) ((itN (oES n t ck) n (s.1, s.2.2.1)).2 0))) n with | false => exact absurd (congrArg bI z) c22 | true => rfl)]; rfl)] at begin; exact begin)
  refine ax_X.steps 2 (ax_goPv (h1 f n t u b r rk hn hrk) (fun h' hz => ?_))
  obtain ⟨-, g, hg, hh⟩ := hz
  rw [hR] at hh
  subst hh
  refine ax_X.steps 4 (loop (va_up t 11 g) _ hq 97 0 0 0 none (clF f, t 21, R0, 0) rfl (by omega) (hok g hg) (fun ck2 s2 he => ⟨g, hg, ck2, s2, he, rfl, rfl⟩))
