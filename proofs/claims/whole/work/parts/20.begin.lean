/-! Begins of tries, the class. -/
/-- ready: waits, all needed done, no test unless tests may (z) -/
def rdO (t : Nat → Nat → Int32) (n : Nat) (z : Bool) (a : Nat) : Bool := (decide (t 14 a = 6) && decide (t 9 a &&& (maskI (fun c => decide (t 14 c = 1)) n ^^^ (-1)) = 0)) && (z || decide (t 7 a = 0))
def tzO (t : Nat → Nat → Int32) (n : Nat) : Bool := decide (t 12 0 = 0) || !anyB (olB t) n
theorem rdO_a {t : Nat → Nat → Int32} {n a : Nat} {z : Bool} (h : ¬ t 14 a = 6) : rdO t n z a = false := by unfold rdO; rw [decide_eq_false h]; rfl
theorem rdO_b {t : Nat → Nat → Int32} {n a : Nat} {z : Bool} (h : ¬ t 9 a &&& (maskI (fun c => decide (t 14 c = 1)) n ^^^ (-1)) = 0) : rdO t n z a = false := by unfold rdO; rw [decide_eq_false h, Bool.and_false]; rfl
theorem rdO_c {t : Nat → Nat → Int32} {n a : Nat} {z : Bool} (h : z = false) (h2 : ¬ t 7 a = 0) : rdO t n z a = false := by unfold rdO; rw [h, decide_eq_false h2, Bool.or_false, Bool.and_false]
theorem rdO_t {t : Nat → Nat → Int32} {n a : Nat} {z : Bool} (h1 : t 14 a = 6) (h2 : t 9 a &&& (maskI (fun c => decide (t 14 c = 1)) n ^^^ (-1)) = 0) (h3 : z = true ∨ t 7 a = 0) : rdO t n z a = true := by
  unfold rdO
  rw [decide_eq_true h1, decide_eq_true h2]
  rcases h3 with h3 | h3
  · rw [h3]; rfl
  · rw [decide_eq_true h3, Bool.or_true]; rfl
def Sp_N_allReady (C : ax_O) : Prop := ∀ (f : Nat → Int32) (n : Nat) (t : Nat → Nat → Int32) (u : Int32) (b : Nat), n ≤ 24 → C no_N_allReady [.ref 18] (oH f n t u b) (ax_is (some (.int (maskI (rdO t n (tzO t n)) n))) (oH f n t u b))
theorem p_N_allReady {C : ax_O} (h1 : Sp_O_only C) (h2 : Sp_N_allIn C) (h3 : Sp_N_other C) : Sp_N_allReady (ax_B ax_Ms ax_Xs C) := by
  intro f n t u b hn
  have main : ∀ z : Bool, ax_X ax_Ms ax_Xs no_N_allReady C (ax_is (some (.int (maskI (rdO t n z) n))) (oH f n t u b)) 17 [some (.ref 18), some (.int (maskI (fun c => decide (t 14 c = 1)) n)), some (.int (bI z)), none, none, none] [] (oH f n t u b) 0 0 := by
    intro z
    have loop : ∀ (k a : Nat) (x : Int32) (m : Int32) (q : Option Value), x = nI a → m = maskI (rdO t n z) a → a + k = n → ax_X ax_Ms ax_Xs no_N_allReady C (ax_is (some (.int (maskI (rdO t n z) n))) (oH f n t u b)) 21 [some (.ref 18), some (.int (maskI (fun c => decide (t 14 c = 1)) n)), some (.int (bI z)), some (.int m), some (.int x), q] [] (oH f n t u b) 0 0 := by
      intro k
      induction k with
      | zero =>
        intro a x m q hx hm hk
        subst hx
        have hk : a = n := hk
        subst hk
        subst hm
        refine ax_X.steps 5 (ax_brT (nI_le (by omega) (by omega)) ?_)
        exact ax_X.steps 2 ⟨Or.inl rfl, rfl, rfl⟩
      | succ k ih =>
        intro a x m q hx hm hk
        subst hx
        subst hm
        refine ax_X.steps 5 (ax_brF (nI_ge (by omega) (by omega)) ?_)
        refine ax_X.steps 4 ⟨a, ⟨by omega, by omega⟩, rfl, ?_⟩
        refine ax_X.steps 2 (ax_br2 (fun c31 => ?_) (fun c31 => ?_))
        · refine ax_X.steps 4 (ax_brT (rfl) ?_)
          exact ax_X.steps 2 (ih (a + 1) _ _ _ (nI_1 a) (maskI_f (rdO_a c31)).symm (by omega))
        · refine ax_X.steps 5 ⟨a, ⟨by omega, by omega⟩, rfl, ?_⟩
          refine ax_X.steps 5 (ax_br2 (fun c41 => ?_) (fun c41 => ?_))
          · refine ax_X.steps 4 (ax_brT (rfl) ?_)
            exact ax_X.steps 2 (ih (a + 1) _ _ _ (nI_1 a) (maskI_f (rdO_b c41)).symm (by omega))
          · refine ax_X.steps 5 (ax_brF (bI_n0) ?_)
            refine ax_X.steps 2 (ax_br2 (fun c49 => ?_) (fun c49 => ?_))
            · refine ax_X.steps 3 (ax_go (h1 _ _) ?_)
              exact ax_X.steps 4 (ih (a + 1) _ _ _ (nI_1 a) (maskI_t (rdO_t (nn c31) (nn c41) (Or.inl (by cases z with | false => exact absurd rfl c49 | true => rfl)))).symm (by omega))
            · refine ax_X.steps 5 ⟨a, ⟨by omega, by omega⟩, rfl, ?_⟩
              refine ax_X.steps 1 (ax_br2 (fun c55 => ?_) (fun c55 => ?_))
              · exact ax_X.steps 2 (ih (a + 1) _ _ _ (nI_1 a) (maskI_f (rdO_c (bI_0.mp (nn c49)) c55)).symm (by omega))
              · refine ax_X.steps 3 (ax_go (h1 _ _) ?_)
                exact ax_X.steps 4 (ih (a + 1) _ _ _ (nI_1 a) (maskI_t (rdO_t (nn c31) (nn c41) (Or.inr (nn c55)))).symm (by omega))
    exact ax_X.steps 4 (loop n 0 0 0 none rfl rfl (by omega))
  unfold tzO
  refine ax_X.steps 3 (ax_go (h2 f n t u b 1 hn) ?_)
  refine ax_X.steps 6 ⟨0, ⟨by omega, by omega⟩, rfl, ?_⟩
  refine ax_X.steps 1 (ax_br2 (fun c9 => ?_) (fun c9 => ?_))
  · exact ax_X.steps 3 (by rw [decide_eq_true (show t 12 0 = 0 from c9), Bool.true_or]; exact main true)
  · refine ax_X.steps 2 (ax_go (h3 f n t u b hn) ?_)
    refine ax_X.steps 1 (ax_br2 (fun c12 => ?_) (fun c12 => ?_))
    · exact ax_X.steps 2 (by rw [decide_eq_false (show ¬ t 12 0 = 0 from c9), show anyB (olB t) n = true from (by cases z : anyB (olB t) n with | false => exact absurd (congrArg bI z) c12 | true => rfl)]; exact main false)
    · exact ax_X.steps 3 (by rw [decide_eq_false (show ¬ t 12 0 = 0 from c9), show anyB (olB t) n = false from bI_0.mp (nn c12)]; exact main true)
def awB (on fr f6 f2 : Int32) : Bool := !decide (on = 0) && (!decide (fr ≤ 0) && decide (f6 < f2))
def bgA (r : Nat → Nat → Int32) (a : Nat) (ck tm fr : Int32) (aw : Bool) : Nat → Nat → Int32 := bif aw then ts (ts (ts r 0 a 7) 5 a (ck + tm)) 6 a (ck + fr) else ts (ts r 0 a 7) 5 a (ck + tm)
def bgT (r : Nat → Nat → Int32) (a : Nat) (ck : Int32) (tr : Int32) : Nat → Nat → Int32 := ts (if tr = 0 then ts r 1 a ck else r) 3 a (tr + 1)
def bgR (r : Nat → Nat → Int32) (a : Nat) (ck tm fr : Int32) (aw : Bool) : Nat → Nat → Int32 := bgT (bgA r a ck tm fr aw) a ck (r 3 a)
def bgF (f : Nat → Int32) (c m l : Int32) (aw : Bool) : Nat → Int32 := bif aw then va_up (tkF f c m l) 6 (tkF f c m l 6 + 1) else tkF f c m l
def Sp_N_beginTry (C : ax_O) : Prop := ∀ (f : Nat → Int32) (n : Nat) (t : Nat → Nat → Int32) (u : Int32) (b : Nat) (r : Nat → Nat → Int32) (a : Nat) (ck : Int32), a < 24 → b < 96 → C no_N_beginTry [.ref 18, .int (nI a), .int ck] (oH f n (oT t r) u b) (ax_is none (oH (bgF f (t 1 a) (t 2 a) (t 3 a) (awB (t 12 3) (t 4 a) (f 6) (f 2))) n (oT (ts t 21 b (nI a)) (bgR r a ck (t 0 a) (t 4 a) (awB (t 12 3) (t 4 a) (f 6) (f 2)))) u (b + 1)))
theorem bt_tail {C : ax_O} (g : Nat → Int32) (n : Nat) (t : Nat → Nat → Int32) (u : Int32) (b a : Nat) (ck : Int32) (ha : a < 24) (hb : b < 96) (r3 : Nat → Nat → Int32) (K : ax_K) (hK : K none (oH g n (oT (ts t 21 b (nI a)) (ts r3 3 a (r3 3 a + 1))) u (b + 1))) : ax_X ax_Ms ax_Xs no_N_beginTry C K 78 [some (.ref 18), some (.int (nI a)), some (.int ck)] [] (oH g n (oT t r3) u b) 0 0 := by
      unfold oH at hK
      rw [← nI_1 b] at hK
      refine ax_X.steps 5 ⟨a, ⟨by omega, by omega⟩, rfl, ?_⟩
      refine ax_X.steps 3 ⟨a, ⟨by omega, by omega⟩, rfl, (?_ : ax_X ax_Ms ax_Xs no_N_beginTry C K 86 [some (.ref 18), some (.int (nI a)), some (.int ck)] [] (oH g n (oT t (ts r3 3 a (r3 3 a + 1))) u b) 0 0)⟩
      refine ax_X.steps 4 (ax_brF (nI_ge (a := b) (b := 96) (by omega) (by omega)) ?_)
      refine ax_X.steps 6 ⟨b, ⟨by omega, by omega⟩, rfl, (?_ : ax_X ax_Ms ax_Xs no_N_beginTry C K 96 [some (.ref 18), some (.int (nI a)), some (.int ck)] [] (oH g n (oT (ts t 21 b (nI a)) (ts r3 3 a (r3 3 a + 1))) u b) 0 0)⟩
      refine ax_X.steps 6 ⟨Or.inl rfl, ?_⟩
      exact ax_X.steps 1 (hK)
theorem bt_fin {C : ax_O} (g : Nat → Int32) (n : Nat) (t : Nat → Nat → Int32) (u : Int32) (b a : Nat) (ck : Int32) (ha : a < 24) (hb : b < 96) (r2 : Nat → Nat → Int32) (K : ax_K) (hK : K none (oH g n (oT (ts t 21 b (nI a)) (bgT r2 a ck (r2 3 a))) u (b + 1))) : ax_X ax_Ms ax_Xs no_N_beginTry C K 68 [some (.ref 18), some (.int (nI a)), some (.int ck)] [] (oH g n (oT t r2) u b) 0 0 := by
    refine ax_X.steps 4 ⟨a, ⟨by omega, by omega⟩, rfl, ?_⟩
    refine ax_X.steps 1 (ax_br2 (fun c72 => ?_) (fun c72 => ?_))
    · exact ax_X.steps 0 (bt_tail g n t u b a ck ha hb r2 K (by rw [bgT, if_neg (show ¬ r2 3 a = 0 from c72)] at hK; exact hK))
    · refine ax_X.steps 5 ⟨a, ⟨by omega, by omega⟩, rfl, (?_ : ax_X ax_Ms ax_Xs no_N_beginTry C K 78 [some (.ref 18), some (.int (nI a)), some (.int ck)] [] (oH g n (oT t (ts r2 1 a ck)) u b) 0 0)⟩
      exact ax_X.steps 0 (bt_tail g n t u b a ck ha hb (ts r2 1 a ck) K (by rw [bgT, if_pos (show r2 3 a = 0 from nn c72)] at hK; exact hK))
theorem bt_main {C : ax_O} (h2 : Sp_H_hasFreeSlot C) (g : Nat → Int32) (n : Nat) (t : Nat → Nat → Int32) (u : Int32) (b a : Nat) (ck : Int32) (ha : a < 24) (hb : b < 96) (r : Nat → Nat → Int32) (K : ax_K) (hK : K none (oH (bif awB (t 12 3) (t 4 a) (g 6) (g 2) then va_up g 6 (g 6 + 1) else g) n (oT (ts t 21 b (nI a)) (bgR r a ck (t 0 a) (t 4 a) (awB (t 12 3) (t 4 a) (g 6) (g 2)))) u (b + 1))) : ax_X ax_Ms ax_Xs no_N_beginTry C K 18 [some (.ref 18), some (.int (nI a)), some (.int ck)] [] (oH g n (oT t r) u b) 0 0 := by
  unfold bgR bgA at hK
  refine ax_X.steps 5 ⟨a, ⟨by omega, by omega⟩, rfl, (?_ : ax_X ax_Ms ax_Xs no_N_beginTry C _ 23 [some (.ref 18), some (.int (nI a)), some (.int ck)] [] (oH (g) n (oT (t) (ts r 0 a 7)) u b) 0 0)⟩
  refine ax_X.steps 9 ⟨a, ⟨by omega, by omega⟩, rfl, ?_⟩
  refine ax_X.steps 2 ⟨a, ⟨by omega, by omega⟩, rfl, (?_ : ax_X ax_Ms ax_Xs no_N_beginTry C _ 34 [some (.ref 18), some (.int (nI a)), some (.int ck)] [] (oH (g) n (oT (t) (ts (ts r 0 a 7) 5 a (ck + t 0 a))) u b) 0 0)⟩
  refine ax_X.steps 5 ⟨3, ⟨by omega, by omega⟩, rfl, ?_⟩
  refine ax_X.steps 1 (ax_br2 (fun c39 => ?_) (fun c39 => ?_))
  · exact ax_X.steps 0 (bt_fin g n t u b a ck ha hb (ts (ts r 0 a 7) 5 a (ck + t 0 a)) K (by rw [show awB (t 12 3) (t 4 a) (g 6) (g 2) = false from by unfold awB; rw [decide_eq_true (show t 12 3 = 0 from c39)]; rfl] at hK; exact hK))
  · refine ax_X.steps 5 ⟨a, ⟨by omega, by omega⟩, rfl, ?_⟩
    refine ax_X.steps 1 (ax_br2 (fun c45 => ?_) (fun c45 => ?_))
    · exact ax_X.steps 0 (bt_fin g n t u b a ck ha hb (ts (ts r 0 a 7) 5 a (ck + t 0 a)) K (by rw [show awB (t 12 3) (t 4 a) (g 6) (g 2) = false from by unfold awB; rw [decide_eq_true (show t 4 a ≤ 0 from c45), Bool.not_true, Bool.false_and, Bool.and_false]] at hK; exact hK))
    · refine ax_X.steps 3 (ax_go (h2 g n (oT t (ts (ts r 0 a 7) 5 a (ck + t 0 a))) u b) ?_)
      refine ax_X.steps 1 (ax_br2 (fun c49 => ?_) (fun c49 => ?_))
      · exact ax_X.steps 0 (bt_fin g n t u b a ck ha hb (ts (ts r 0 a 7) 5 a (ck + t 0 a)) K (by rw [show awB (t 12 3) (t 4 a) (g 6) (g 2) = false from by unfold awB; rw [show decide (g 6 < g 2) = false from bI_0.mp c49, Bool.and_false, Bool.and_false]] at hK; exact hK))
      · refine ax_X.steps 7 ⟨Or.inl rfl, (?_ : ax_X ax_Ms ax_Xs no_N_beginTry C _ 57 [some (.ref 18), some (.int (nI a)), some (.int ck)] [] (oH (va_up g 6 (g 6 + 1)) n (oT (t) (ts (ts r 0 a 7) 5 a (ck + t 0 a))) u b) 0 0)⟩
        refine ax_X.steps 9 ⟨a, ⟨by omega, by omega⟩, rfl, ?_⟩
        refine ax_X.steps 2 ⟨a, ⟨by omega, by omega⟩, rfl, (?_ : ax_X ax_Ms ax_Xs no_N_beginTry C _ 68 [some (.ref 18), some (.int (nI a)), some (.int ck)] [] (oH (va_up g 6 (g 6 + 1)) n (oT (t) (ts (ts (ts r 0 a 7) 5 a (ck + t 0 a)) 6 a (ck + t 4 a))) u b) 0 0)⟩
        exact ax_X.steps 0 (bt_fin (va_up g 6 (g 6 + 1)) n t u b a ck ha hb (ts (ts (ts r 0 a 7) 5 a (ck + t 0 a)) 6 a (ck + t 4 a)) K (by rw [show awB (t 12 3) (t 4 a) (g 6) (g 2) = true from by unfold awB; rw [decide_eq_false (show ¬ t 12 3 = 0 from c39), decide_eq_false (show ¬ t 4 a ≤ 0 from c45), show decide (g 6 < g 2) = true from (by cases z : decide (g 6 < g 2) with | false => exact absurd (congrArg bI z) c49 | true => rfl)]; rfl] at hK; exact hK))
theorem p_N_beginTry {C : ax_O} (h1 : Sp_H_take C) (h2 : Sp_H_hasFreeSlot C) : Sp_N_beginTry (ax_B ax_Ms ax_Xs C) := by
  intro f n t u b r a ck ha hb
  refine ax_X.steps 7 ⟨a, ⟨by omega, by omega⟩, rfl, ?_⟩
  refine ax_X.steps 5 ⟨a, ⟨by omega, by omega⟩, rfl, ?_⟩
  refine ax_X.steps 5 ⟨a, ⟨by omega, by omega⟩, rfl, ?_⟩
  refine ax_X.steps 1 (ax_gov (h1 f n (oT t r) u b (t 1 a) (t 2 a) (t 3 a)) ?_)
  refine ax_X.steps 0 (bt_main h2 (tkF f (t 1 a) (t 2 a) (t 3 a)) n t u b a ck ha hb r _ ⟨rfl, ?_⟩)
  have e6 : tkF f (t 1 a) (t 2 a) (t 3 a) 6 = f 6 := rfl
  have e2 : tkF f (t 1 a) (t 2 a) (t 3 a) 2 = f 2 := rfl
  unfold bgF
  rw [e6, e2]
def cntB (p : Nat → Bool) : Nat → Nat
  | 0 => 0
  | m + 1 => cntB p m + (bif p m then 1 else 0)
theorem cntB_congr {p q : Nat → Bool} : ∀ {n : Nat}, (∀ c, c < n → p c = q c) → cntB p n = cntB q n
  | 0, _ => rfl
  | n + 1, h => by
    rw [cntB, cntB, cntB_congr (fun c hc => h c (by omega)), h n (by omega)]
def delB (p : Nat → Bool) (a : Nat) (c : Nat) : Bool := p c && !decide (c = a)
theorem cntB_del {p : Nat → Bool} {a : Nat} : ∀ {n : Nat}, a < n → p a = true → cntB (delB p a) n + 1 = cntB p n
  | 0, h, _ => absurd h (Nat.not_lt_zero a)
  | n + 1, h, hp => by
    rw [cntB, cntB]
    by_cases e : a = n
    · subst e
      rw [cntB_congr (q := p) (fun c hc => by unfold delB; rw [decide_eq_false (by omega)]; simp), hp]
      unfold delB
      rw [decide_eq_true rfl, hp]
      rfl
    · have ih := cntB_del (p := p) (n := n) (a := a) (by omega) hp
      have e2 : delB p a n = p n := by unfold delB; rw [decide_eq_false (fun q => e q.symm)]; simp
      rw [e2]
      omega
theorem fmN_congr {p q : Nat → Bool} {rs : Nat → Int32} : ∀ {n : Nat}, (∀ c, c < n → p c = q c) → fmN p rs n = fmN q rs n
  | 0, _ => rfl
  | n + 1, h => by
    rw [fmN, fmN, fmN_congr (fun c hc => h c (by omega)), h n (by omega)]
abbrev BS : Type := (Nat → Int32) × (Nat → Int32) × (Nat → Nat → Int32) × Nat
def oBg (t : Nat → Nat → Int32) (ck : Int32) (a : Nat) (s : BS) : BS := (bgF s.1 (t 1 a) (t 2 a) (t 3 a) (awB (t 12 3) (t 4 a) (s.1 6) (s.1 2)), upd s.2.1 s.2.2.2 (nI a), bgR s.2.2.1 a ck (t 0 a) (t 4 a) (awB (t 12 3) (t 4 a) (s.1 6) (s.1 2)), s.2.2.2 + 1)
def oBL (n : Nat) (t : Nat → Nat → Int32) (ck : Int32) : Nat → (Nat → Bool) → BS → BS
  | 0, _, s => s
  | k + 1, p, s => match fmN p (t 11) n with
    | none => s
    | some a => if frB s.1 (t 1 a) (t 2 a) (t 3 a) = true then oBL n t ck k (delB p a) (oBg t ck a s) else if t 12 2 = 0 then s else oBL n t ck k (delB p a) s
def oHs (n : Nat) (t : Nat → Nat → Int32) (u : Int32) (s : BS) : ax_H := oH s.1 n (oT (va_up t 21 s.2.1) s.2.2.1) u s.2.2.2
def Sp_N_beginReady (C : ax_O) : Prop := ∀ (n : Nat) (t : Nat → Nat → Int32) (u : Int32) (s : BS) (ck : Int32), n ≤ 24 → s.2.2.2 + cntB (rdO (oT t s.2.2.1) n (tzO (oT t s.2.2.1) n)) n ≤ 96 → C no_N_beginReady [.ref 18, .int ck] (oHs n t u s) (ax_is none (oHs n t u (oBL n t ck n (rdO (oT t s.2.2.1) n (tzO (oT t s.2.2.1) n)) s)))
theorem p_N_beginReady {C : ax_O} (h1 : Sp_N_allReady C) (h2 : Sp_N_foremost C) (h3 : Sp_O_only C) (h4 : Sp_H_hasFree C) (h5 : Sp_N_beginTry C) : Sp_N_beginReady (ax_B ax_Ms ax_Xs C) := by
  intro n t u s0 ck hn hb0
  generalize hp0 : rdO (oT t s0.2.2.1) n (tzO (oT t s0.2.2.1) n) = p0
  rw [hp0] at hb0
  generalize he : oBL n t ck n p0 s0 = e
  have loop : ∀ (k a : Nat) (x : Int32) (L : Int32) (q : Option Value) (p : Nat → Bool) (s : BS), x = nI a → (∀ c, c < n → bt L c = p c) → s.2.2.2 + cntB p n ≤ 96 → oBL n t ck k p s = e → a + k = n → ax_X ax_Ms ax_Xs no_N_beginReady C (ax_is none (oHs n t u e)) 5 [some (.ref 18), some (.int ck), some (.int L), some (.int x), q] [] (oHs n t u s) 0 0 := by
    intro k
    induction k with
    | zero =>
      intro a x L q p s hx hL hb hs hk
      subst hx
      have hk : a = n := hk
      subst hk
      subst hs
      refine ax_X.steps 5 (ax_brT (nI_le (by omega) (by omega)) ?_)
      exact ax_X.steps 1 (⟨rfl, rfl⟩)
    | succ k ih =>
      intro a x L q p s hx hL hb hs hk
      subst hx
      rw [oBL] at hs
      have hfm : fmN (bt L) (t 11) n = fmN p (t 11) n := fmN_congr hL
      cases c1 : fmN p (t 11) n with
      | none =>
        rw [c1] at hs
        subst hs
        refine ax_X.steps 5 (ax_brF (nI_ge (by omega) (by omega)) ?_)
        refine ax_X.steps 3 (ax_go ((show C no_N_foremost [.ref 18, .int L] (oHs n t u s) (ax_is (some (.int (-1))) (oHs n t u s)) from by have := h2 s.1 n (oT (va_up t 21 s.2.1) s.2.2.1) u s.2.2.2 L hn; rw [show oT (va_up t 21 s.2.1) s.2.2.1 11 = t 11 from rfl, hfm, c1] at this; exact this)) ?_)
        refine ax_X.steps 4 (ax_brF (fun z => z rfl) ?_)
        exact ax_X.steps 1 (⟨rfl, rfl⟩)
      | some j =>
        rw [c1] at hs
        dsimp only at hs
        have hj := fmN_lt c1
        have hpj := fmN_p c1
        have hcd := cntB_del hj hpj
        have hL2 : ∀ c, c < n → bt (L &&& (sB j ^^^ (-1))) c = delB p j c := fun c hc => by rw [b_del (by omega) (by omega), hL c hc]; rfl
        cases c2 : frB s.1 (t 1 j) (t 2 j) (t 3 j)
        · rw [c2, if_neg (by decide)] at hs
          by_cases c3 : t 12 2 = 0
          · rw [if_pos c3] at hs
            subst hs
            refine ax_X.steps 5 (ax_brF (nI_ge (by omega) (by omega)) ?_)
            refine ax_X.steps 3 (ax_go ((show C no_N_foremost [.ref 18, .int L] (oHs n t u s) (ax_is (some (.int (nI j))) (oHs n t u s)) from by have := h2 s.1 n (oT (va_up t 21 s.2.1) s.2.2.1) u s.2.2.2 L hn; rw [show oT (va_up t 21 s.2.1) s.2.2.1 11 = t 11 from rfl, hfm, c1] at this; exact this)) ?_)
            refine ax_X.steps 4 (ax_brT (oI_ne (by omega)) ?_)
            refine ax_X.steps 3 (ax_go (h3 _ j) ?_)
            refine ax_X.steps 11 ⟨j, ⟨by omega, by omega⟩, rfl, ?_⟩
            refine ax_X.steps 5 ⟨j, ⟨by omega, by omega⟩, rfl, ?_⟩
            refine ax_X.steps 5 ⟨j, ⟨by omega, by omega⟩, rfl, ?_⟩
            refine ax_X.steps 1 (ax_go ((show C no_H_hasFree [.ref 1, .int (t 1 j), .int (t 2 j), .int (t 3 j)] (oHs n t u s) (ax_is (some (.int (bI false))) (oHs n t u s)) from by have := h4 s.1 n (oT (va_up t 21 s.2.1) s.2.2.1) u s.2.2.2 (t 1 j) (t 2 j) (t 3 j); rw [c2] at this; exact this)) ?_)
            refine ax_X.steps 1 (ax_brT (rfl) ?_)
            refine ax_X.steps 5 ⟨2, ⟨by omega, by omega⟩, rfl, ?_⟩
            refine ax_X.steps 1 (ax_brF (fun z => z c3) ?_)
            exact ax_X.steps 1 (⟨rfl, rfl⟩)
          · rw [if_neg c3] at hs
            refine ax_X.steps 5 (ax_brF (nI_ge (by omega) (by omega)) ?_)
            refine ax_X.steps 3 (ax_go ((show C no_N_foremost [.ref 18, .int L] (oHs n t u s) (ax_is (some (.int (nI j))) (oHs n t u s)) from by have := h2 s.1 n (oT (va_up t 21 s.2.1) s.2.2.1) u s.2.2.2 L hn; rw [show oT (va_up t 21 s.2.1) s.2.2.1 11 = t 11 from rfl, hfm, c1] at this; exact this)) ?_)
            refine ax_X.steps 4 (ax_brT (oI_ne (by omega)) ?_)
            refine ax_X.steps 3 (ax_go (h3 _ j) ?_)
            refine ax_X.steps 11 ⟨j, ⟨by omega, by omega⟩, rfl, ?_⟩
            refine ax_X.steps 5 ⟨j, ⟨by omega, by omega⟩, rfl, ?_⟩
            refine ax_X.steps 5 ⟨j, ⟨by omega, by omega⟩, rfl, ?_⟩
            refine ax_X.steps 1 (ax_go ((show C no_H_hasFree [.ref 1, .int (t 1 j), .int (t 2 j), .int (t 3 j)] (oHs n t u s) (ax_is (some (.int (bI false))) (oHs n t u s)) from by have := h4 s.1 n (oT (va_up t 21 s.2.1) s.2.2.1) u s.2.2.2 (t 1 j) (t 2 j) (t 3 j); rw [c2] at this; exact this)) ?_)
            refine ax_X.steps 1 (ax_brT (rfl) ?_)
            refine ax_X.steps 5 ⟨2, ⟨by omega, by omega⟩, rfl, ?_⟩
            refine ax_X.steps 1 (ax_brT (c3) ?_)
            exact ax_X.steps 2 (ih (a + 1) _ _ _ (delB p j) s (nI_1 a) hL2 (by omega) hs (by omega))
        · rw [c2, if_pos rfl] at hs
          refine ax_X.steps 5 (ax_brF (nI_ge (by omega) (by omega)) ?_)
          refine ax_X.steps 3 (ax_go ((show C no_N_foremost [.ref 18, .int L] (oHs n t u s) (ax_is (some (.int (nI j))) (oHs n t u s)) from by have := h2 s.1 n (oT (va_up t 21 s.2.1) s.2.2.1) u s.2.2.2 L hn; rw [show oT (va_up t 21 s.2.1) s.2.2.1 11 = t 11 from rfl, hfm, c1] at this; exact this)) ?_)
          refine ax_X.steps 4 (ax_brT (oI_ne (by omega)) ?_)
          refine ax_X.steps 3 (ax_go (h3 _ j) ?_)
          refine ax_X.steps 11 ⟨j, ⟨by omega, by omega⟩, rfl, ?_⟩
          refine ax_X.steps 5 ⟨j, ⟨by omega, by omega⟩, rfl, ?_⟩
          refine ax_X.steps 5 ⟨j, ⟨by omega, by omega⟩, rfl, ?_⟩
          refine ax_X.steps 1 (ax_go ((show C no_H_hasFree [.ref 1, .int (t 1 j), .int (t 2 j), .int (t 3 j)] (oHs n t u s) (ax_is (some (.int (bI true))) (oHs n t u s)) from by have := h4 s.1 n (oT (va_up t 21 s.2.1) s.2.2.1) u s.2.2.2 (t 1 j) (t 2 j) (t 3 j); rw [c2] at this; exact this)) ?_)
          refine ax_X.steps 1 (ax_brF (bI_n0) ?_)
          refine ax_X.steps 4 (ax_gov ((show C no_N_beginTry [.ref 18, .int (nI j), .int ck] (oHs n t u s) (ax_is none (oHs n t u (oBg t ck j s))) from h5 s.1 n (va_up t 21 s.2.1) u s.2.2.2 s.2.2.1 j ck (by omega) (by omega))) ?_)
          exact ax_X.steps 3 (ih (a + 1) _ _ _ (delB p j) (oBg t ck j s) (nI_1 a) hL2 (by show s.2.2.2 + 1 + _ ≤ 96; omega) hs (by omega))
  refine ax_X.steps 2 (ax_go (h1 s0.1 n (oT (va_up t 21 s0.2.1) s0.2.2.1) u s0.2.2.2 hn) ?_)
  refine ax_X.steps 3 (loop n 0 0 _ none p0 s0 rfl (fun c hc => ?_) hb0 he (by omega))
  rw [bt_mask n (by omega) (by omega), decide_eq_true hc, Bool.true_and, ← hp0]
  rfl
