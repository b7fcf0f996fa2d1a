/-! Ends of tries. r: the rows of a run (0 state 1 first 2 last 3 tries 4 side 5 end here 6 end far), laid over the class's rows by oT, over the reference's by mT. -/
def oT (t r : Nat → Nat → Int32) : Nat → Nat → Int32 := fun j => bif (Nat.ble 14 j && Nat.ble j 20) then r (j - 14) else t j
def mT (t r : Nat → Nat → Int32) : Nat → Nat → Int32 := fun j => bif (Nat.ble 14 j && Nat.ble j 20) then r (bif Nat.beq j 14 then 0 else bif Nat.ble j 16 then j - 10 else j - 16) else t j
theorem ts_id {r : Nat → Nat → Int32} {j a : Nat} {v : Int32} (h : r j a = v) : ts r j a v = r := by
  funext i
  unfold ts va_up
  by_cases e : i = j
  · rw [if_pos e, upd_id h, e]
  · rw [if_neg e]
def maB (tr lf on : Int32) (z : Bool) : Bool := decide (tr ≤ lf) && (decide (on = 0) || !z)
def Sp_N_may (C : ax_O) : Prop := ∀ (f : Nat → Int32) (n : Nat) (t : Nat → Nat → Int32) (u : Int32) (b : Nat) (a q : Nat), n ≤ 24 → a < 24 → q < 4 → t 6 a = nI q → C no_N_mayTryAgain [.ref 18, .int (nI a)] (oH f n t u b) (ax_is (some (.int (bI (maB (t 17 a) (t 13 q) (t 12 1) (anyB (badB (t 14)) n))))) (oH f n t u b))
theorem p_N_may {C : ax_O} (h1 : Sp_N_isOneBad C) : Sp_N_may (ax_B ax_Ms ax_Xs C) := by
  intro f n t u b a q hn ha hq e
  unfold maB
  refine ax_X.steps 4 ⟨a, ⟨by omega, by omega⟩, rfl, ?_⟩
  refine ax_X.steps 8 ⟨a, ⟨by omega, by omega⟩, rfl, ?_⟩
  refine ax_X.steps 1 ⟨q, ⟨by omega, by omega⟩, e, ?_⟩
  refine ax_X.steps 1 (ax_br2 (fun c13 => ?_) (fun c13 => ?_))
  · refine ax_X.steps 4 (ax_brT (rfl) ?_)
    exact ax_X.steps 2 ⟨Or.inr (Or.inl rfl), by rw [decide_eq_false (i_nle.mpr c13)]; rfl, rfl⟩
  · refine ax_X.steps 5 (ax_brF (bI_n0) ?_)
    refine ax_X.steps 5 ⟨1, ⟨by omega, by omega⟩, rfl, ?_⟩
    refine ax_X.steps 1 (ax_br2 (fun c25 => ?_) (fun c25 => ?_))
    · exact ax_X.steps 3 ⟨Or.inr (Or.inr rfl), by rw [decide_eq_true (i_nlt.mp c13), decide_eq_true (show t 12 1 = 0 from c25)]; rfl, rfl⟩
    · refine ax_X.steps 2 (ax_go (h1 f n t u b hn) ?_)
      refine ax_X.steps 1 (ax_br2 (fun c28 => ?_) (fun c28 => ?_))
      · exact ax_X.steps 2 ⟨Or.inr (Or.inl rfl), by rw [decide_eq_false (show ¬ t 12 1 = 0 from c25), show anyB (badB (t 14)) n = true from by cases z : anyB (badB (t 14)) n with | false => rw [z] at c28; exact absurd rfl c28 | true => rfl, Bool.not_true, Bool.or_false, Bool.and_false]; rfl, rfl⟩
      · exact ax_X.steps 3 ⟨Or.inr (Or.inr rfl), by rw [decide_eq_true (i_nlt.mp c13), bI_0.mp (nn c28), Bool.not_false, Bool.or_true]; rfl, rfl⟩
def lvF (f : Nat → Int32) (c m l e : Int32) : Nat → Int32 := if e = -1 then gbF f c m l else va_up (gbF f c m l) 6 (f 6 - 1)
def lvR (r : Nat → Nat → Int32) (a : Nat) : Nat → Nat → Int32 := ts (ts r 5 a (-1)) 6 a (-1)
def Sp_N_leave (C : ax_O) : Prop := ∀ (f : Nat → Int32) (n : Nat) (t : Nat → Nat → Int32) (u : Int32) (b : Nat) (r : Nat → Nat → Int32) (a : Nat), a < 24 → C no_N_leaveBothSides [.ref 18, .int (nI a)] (oH f n (oT t r) u b) (ax_is none (oH (lvF f (t 1 a) (t 2 a) (t 3 a) (r 6 a)) n (oT t (lvR r a)) u b))
theorem p_N_leave {C : ax_O} (h1 : Sp_H_giveBack C) : Sp_N_leave (ax_B ax_Ms ax_Xs C) := by
  intro f n t u b r a ha
  refine ax_X.steps 7 ⟨a, ⟨by omega, by omega⟩, rfl, ?_⟩
  refine ax_X.steps 5 ⟨a, ⟨by omega, by omega⟩, rfl, ?_⟩
  refine ax_X.steps 5 ⟨a, ⟨by omega, by omega⟩, rfl, ?_⟩
  refine ax_X.steps 1 (ax_gov (h1 f n (oT t r) u b (t 1 a) (t 2 a) (t 3 a)) ?_)
  refine ax_X.steps 5 ⟨a, ⟨by omega, by omega⟩, rfl, (?_ : ax_X ax_Ms ax_Xs no_N_leaveBothSides C _ 23 [some (.ref 18), some (.int (nI a))] [] (oH (gbF f (t 1 a) (t 2 a) (t 3 a)) n (oT t (ts r 5 a (-1))) u b) 0 0)⟩
  refine ax_X.steps 4 ⟨a, ⟨by omega, by omega⟩, rfl, ?_⟩
  refine ax_X.steps 2 (ax_br2 (fun c28 => ?_) (fun c28 => ?_))
  · exact ax_X.steps 1 (⟨rfl, by rw [lvF, if_pos (show r 6 a = -1 from c28), lvR, ts_id (r := ts r 5 a (-1)) (j := 6) (show r 6 a = -1 from c28)]⟩)
  · refine ax_X.steps 7 ⟨Or.inl rfl, (?_ : ax_X ax_Ms ax_Xs no_N_leaveBothSides C _ 36 [some (.ref 18), some (.int (nI a))] [] (oH (va_up (gbF f (t 1 a) (t 2 a) (t 3 a)) 6 (f 6 - 1)) n (oT t (ts r 5 a (-1))) u b) 0 0)⟩
    refine ax_X.steps 5 ⟨a, ⟨by omega, by omega⟩, rfl, (?_ : ax_X ax_Ms ax_Xs no_N_leaveBothSides C _ 41 [some (.ref 18), some (.int (nI a))] [] (oH (va_up (gbF f (t 1 a) (t 2 a) (t 3 a)) 6 (f 6 - 1)) n (oT t (ts (ts r 5 a (-1)) 6 a (-1))) u b) 0 0)⟩
    exact ax_X.steps 1 (⟨rfl, by rw [lvF, if_neg (show ¬ r 6 a = -1 from c28)]; rfl⟩)
def endR (fl : Nat → Int32) (m : Bool) (r : Nat → Nat → Int32) (a : Nat) (sd ck : Int32) : Nat → Nat → Int32 := if fl a < r 3 a then ts (ts (ts (lvR r a) 2 a ck) 0 a 1) 4 a sd else ts (ts (lvR r a) 2 a ck) 0 a (bif m then 6 else 2)
def mayR (n : Nat) (kd lf on : Nat → Int32) (r : Nat → Nat → Int32) (a : Nat) : Bool := maB (r 3 a) (lf (kd a).toNatClampNeg) (on 1) (anyB (badB (r 0)) n)
def Sp_N_endTry (C : ax_O) : Prop := ∀ (f : Nat → Int32) (n : Nat) (t : Nat → Nat → Int32) (u : Int32) (b : Nat) (r : Nat → Nat → Int32) (a : Nat) (ck sd : Int32), n ≤ 24 → a < 24 → (∃ q, q < 4 ∧ t 6 a = nI q) → C no_N_endTry [.ref 18, .int (nI a), .int ck, .int sd] (oH f n (oT t r) u b) (ax_is none (oH (lvF f (t 1 a) (t 2 a) (t 3 a) (r 6 a)) n (oT t (endR (t 5) (mayR n (t 6) (t 13) (t 12) r a) r a sd ck)) u b))
theorem p_N_endTry {C : ax_O} (h1 : Sp_N_leave C) (h2 : Sp_N_may C) : Sp_N_endTry (ax_B ax_Ms ax_Xs C) := by
  intro f n t u b r a ck sd hn ha hq
  obtain ⟨q, hq, eq⟩ := hq
  have e0 : (t 6 a).toNatClampNeg = q := by rw [eq]; exact nI_clamp (by omega)
  unfold endR mayR
  rw [e0]
  refine ax_X.steps 3 (ax_gov (h1 f n t u b r a ha) ?_)
  refine ax_X.steps 5 ⟨a, ⟨by omega, by omega⟩, rfl, (?_ : ax_X ax_Ms ax_Xs no_N_endTry C _ 8 [some (.ref 18), some (.int (nI a)), some (.int ck), some (.int sd)] [] (oH (lvF f (t 1 a) (t 2 a) (t 3 a) (r 6 a)) n (oT t (ts (lvR r a) 2 a ck)) u b) 0 0)⟩
  refine ax_X.steps 4 ⟨a, ⟨by omega, by omega⟩, rfl, ?_⟩
  refine ax_X.steps 5 ⟨a, ⟨by omega, by omega⟩, rfl, ?_⟩
  refine ax_X.steps 1 (ax_br2 (fun c17 => ?_) (fun c17 => ?_))
  · refine ax_X.steps 6 (ax_go (h2 (lvF f (t 1 a) (t 2 a) (t 3 a) (r 6 a)) n (oT t (ts (lvR r a) 2 a ck)) u b a q hn ha hq eq) ?_)
    refine ax_X.steps 1 (ax_br2 (fun c35 => ?_) (fun c35 => ?_))
    · refine ax_X.steps 2 ⟨a, ⟨by omega, by omega⟩, rfl, (?_ : ax_X ax_Ms ax_Xs no_N_endTry C _ 40 [some (.ref 18), some (.int (nI a)), some (.int ck), some (.int sd)] [] (oH (lvF f (t 1 a) (t 2 a) (t 3 a) (r 6 a)) n (oT t (ts (ts (lvR r a) 2 a ck) 0 a 2)) u b) 0 0)⟩
      exact ax_X.steps 1 (⟨rfl, by rw [if_neg (i_nlt.mpr (show r 3 a ≤ t 5 a from c17)), bI_0.mp (show bI (maB (r 3 a) (t 13 q) (t 12 1) (anyB (badB (r 0)) n)) = 0 from c35)]; rfl⟩)
    · refine ax_X.steps 3 ⟨a, ⟨by omega, by omega⟩, rfl, (?_ : ax_X ax_Ms ax_Xs no_N_endTry C _ 40 [some (.ref 18), some (.int (nI a)), some (.int ck), some (.int sd)] [] (oH (lvF f (t 1 a) (t 2 a) (t 3 a) (r 6 a)) n (oT t (ts (ts (lvR r a) 2 a ck) 0 a 6)) u b) 0 0)⟩
      exact ax_X.steps 1 (⟨rfl, by rw [if_neg (i_nlt.mpr (show r 3 a ≤ t 5 a from c17)), show maB (r 3 a) (t 13 q) (t 12 1) (anyB (badB (r 0)) n) = true from by cases z : maB (r 3 a) (t 13 q) (t 12 1) (anyB (badB (r 0)) n) with | false => exact absurd (congrArg bI z) c35 | true => rfl]; rfl⟩)
  · refine ax_X.steps 5 ⟨a, ⟨by omega, by omega⟩, rfl, (?_ : ax_X ax_Ms ax_Xs no_N_endTry C _ 23 [some (.ref 18), some (.int (nI a)), some (.int ck), some (.int sd)] [] (oH (lvF f (t 1 a) (t 2 a) (t 3 a) (r 6 a)) n (oT t (ts (ts (lvR r a) 2 a ck) 0 a 1)) u b) 0 0)⟩
    refine ax_X.steps 5 ⟨a, ⟨by omega, by omega⟩, rfl, (?_ : ax_X ax_Ms ax_Xs no_N_endTry C _ 28 [some (.ref 18), some (.int (nI a)), some (.int ck), some (.int sd)] [] (oH (lvF f (t 1 a) (t 2 a) (t 3 a) (r 6 a)) n (oT t (ts (ts (ts (lvR r a) 2 a ck) 0 a 1) 4 a sd)) u b) 0 0)⟩
    exact ax_X.steps 2 (⟨rfl, by rw [if_pos (i_nle.mp (show ¬ r 3 a ≤ t 5 a from c17))]⟩)
abbrev FR : Type := (Nat → Int32) × (Nat → Nat → Int32)
/-- the class at action a -/
def oES (n : Nat) (t : Nat → Nat → Int32) (ck : Int32) (a : Nat) (p : FR) : FR := if p.2 5 a = ck then (lvF p.1 (t 1 a) (t 2 a) (t 3 a) (p.2 6 a), endR (t 5) (mayR n (t 6) (t 13) (t 12) p.2 a) p.2 a 0 ck) else if p.2 6 a = ck then (lvF p.1 (t 1 a) (t 2 a) (t 3 a) (p.2 6 a), endR (t 5) (mayR n (t 6) (t 13) (t 12) p.2 a) p.2 a 1 ck) else p
def Sp_N_endTries (C : ax_O) : Prop := ∀ (f : Nat → Int32) (n : Nat) (t : Nat → Nat → Int32) (u : Int32) (b : Nat) (r : Nat → Nat → Int32) (ck : Int32), n ≤ 24 → (∀ a, a < n → ∃ q, q < 4 ∧ t 6 a = nI q) → C no_N_endTries [.ref 18, .int ck] (oH f n (oT t r) u b) (ax_is none (oH (itN (oES n t ck) n (f, r)).1 n (oT t (itN (oES n t ck) n (f, r)).2) u b))
theorem p_N_endTries {C : ax_O} (h1 : Sp_N_endTry C) : Sp_N_endTries (ax_B ax_Ms ax_Xs C) := by
  intro f n t u b r ck hn hq
  have loop : ∀ (k a : Nat) (x : Int32) (g : FR), x = nI a → g = itN (oES n t ck) a (f, r) → a + k = n → ax_X ax_Ms ax_Xs no_N_endTries C (ax_is none (oH (itN (oES n t ck) n (f, r)).1 n (oT t (itN (oES n t ck) n (f, r)).2) u b)) 2 [some (.ref 18), some (.int ck), some (.int x)] [] (oH g.1 n (oT t g.2) u b) 0 0 := by
    intro k
    induction k with
    | zero =>
      intro a x g hx hg hk
      subst hx
      have hk : a = n := hk
      subst hk
      subst hg
      refine ax_X.steps 5 (ax_brT (nI_le (by omega) (by omega)) ?_)
      exact ax_X.steps 1 (⟨rfl, rfl⟩)
    | succ k ih =>
      intro a x g hx hg hk
      subst hx
      have hs : oES n t ck a g = itN (oES n t ck) (a + 1) (f, r) := by rw [hg]; rfl
      unfold oES at hs
      refine ax_X.steps 5 (ax_brF (nI_ge (by omega) (by omega)) ?_)
      refine ax_X.steps 4 ⟨a, ⟨by omega, by omega⟩, rfl, ?_⟩
      refine ax_X.steps 2 (ax_br2 (fun c12 => ?_) (fun c12 => ?_))
      · refine ax_X.steps 4 ⟨a, ⟨by omega, by omega⟩, rfl, ?_⟩
        refine ax_X.steps 2 (ax_br2 (fun c24 => ?_) (fun c24 => ?_))
        · exact ax_X.steps 2 (ih (a + 1) _ g (nI_1 a) (by rw [if_neg (show ¬ g.2 5 a = ck from c12), if_neg (show ¬ g.2 6 a = ck from c24)] at hs; exact hs) (by omega))
        · refine ax_X.steps 5 (ax_gov (h1 g.1 n t u b g.2 a ck 1 hn (by omega) (hq a (by omega))) ?_)
          exact ax_X.steps 2 (ih (a + 1) _ (lvF g.1 (t 1 a) (t 2 a) (t 3 a) (g.2 6 a), endR (t 5) (mayR n (t 6) (t 13) (t 12) g.2 a) g.2 a 1 ck) (nI_1 a) (by rw [if_neg (show ¬ g.2 5 a = ck from c12), if_pos (show g.2 6 a = ck from nn c24)] at hs; exact hs) (by omega))
      · refine ax_X.steps 5 (ax_gov (h1 g.1 n t u b g.2 a ck 0 hn (by omega) (hq a (by omega))) ?_)
        exact ax_X.steps 3 (ih (a + 1) _ (lvF g.1 (t 1 a) (t 2 a) (t 3 a) (g.2 6 a), endR (t 5) (mayR n (t 6) (t 13) (t 12) g.2 a) g.2 a 0 ck) (nI_1 a) (by rw [if_pos (show g.2 5 a = ck from nn c12)] at hs; exact hs) (by omega))
  exact ax_X.steps 2 (loop n 0 0 (f, r) rfl rfl (by omega))
