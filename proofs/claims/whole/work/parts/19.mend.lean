/-! Ends of tries, the reference. -/
theorem nI_lt_le {c : Nat} {x : Int32} (hc : c < 1000) : nI c < x ↔ nI (c + 1) ≤ x := by
  rw [Int32.lt_iff_toInt_lt, Int32.le_iff_toInt_le, nI_toInt (by omega), nI_toInt (by omega)]
  omega
theorem ts_ne {r : Nat → Nat → Int32} {j a i c : Nat} {v : Int32} (h : c ≠ a) : ts r j a v i c = r i c := by
  unfold ts va_up
  by_cases e : i = j
  · rw [if_pos e, pk_un h, e]
  · rw [if_neg e]
theorem lvR_ne {r : Nat → Nat → Int32} {a i c : Nat} (h : c ≠ a) : lvR r a i c = r i c := by
  unfold lvR
  rw [ts_ne h, ts_ne h]
theorem endR_ne {fl : Nat → Int32} {m : Bool} {r : Nat → Nat → Int32} {a i c : Nat} {sd ck : Int32} (h : c ≠ a) : endR fl m r a sd ck i c = r i c := by
  unfold endR
  split
  · rw [ts_ne h, ts_ne h, ts_ne h, lvR_ne h]
  · rw [ts_ne h, ts_ne h, lvR_ne h]
def agR (fl ag : Nat → Int32) (r : Nat → Nat → Int32) (a : Nat) : Nat → Int32 := if fl a < r 3 a then ag else upd ag a (ag a + 1)
def Sp_M_end (C : ax_O) : Prop := ∀ (f : Nat → Int32) (n kn : Nat) (t : Nat → Nat → Int32) (b : Nat) (ag : Nat → Int32) (r : Nat → Nat → Int32) (a : Nat) (sd ck : Int32), n ≤ 24 → a < 24 → (∃ q, q < 4 ∧ t 6 a = nI q) → (∃ c, c < 100 ∧ ag a = nI c ∧ r 3 a = nI (c + 1)) → C no_M_end [.ref 0, .int (nI a), .int sd, .int ck] (mH f n kn (mT (va_up t 21 ag) r) b) (ax_is none (mH (va_up f 5 ck) n kn (mT (va_up t 21 (agR (t 5) ag r a)) (endR (t 5) (mayR n (t 6) (t 12) (t 11) r a) r a sd ck)) b))
theorem p_M_end {C : ax_O} (h1 : Sp_M_isSpoilt C) : Sp_M_end (ax_B ax_Ms ax_Xs C) := by
  intro f n kn t b ag r a sd ck hn ha hq hc
  obtain ⟨q, hq, eq⟩ := hq
  obtain ⟨c, hc, ea, er⟩ := hc
  have e0 : (t 6 a).toNatClampNeg = q := by rw [eq]; exact nI_clamp (by omega)
  have e1 : ag a < t 12 q ↔ r 3 a ≤ t 12 q := by rw [ea, er]; exact nI_lt_le (by omega)
  unfold endR mayR agR
  rw [e0]
  refine ax_X.steps 5 ⟨a, ⟨by omega, by omega⟩, rfl, (?_ : ax_X ax_Ms ax_Xs no_M_end C _ 5 [some (.ref 0), some (.int (nI a)), some (.int sd), some (.int ck), none] [] (mH (f) n kn (mT (va_up t 21 (ag)) (ts r 5 a (-1))) b) 0 0)⟩
  refine ax_X.steps 5 ⟨a, ⟨by omega, by omega⟩, rfl, (?_ : ax_X ax_Ms ax_Xs no_M_end C _ 10 [some (.ref 0), some (.int (nI a)), some (.int sd), some (.int ck), none] [] (mH (f) n kn (mT (va_up t 21 (ag)) (lvR r a)) b) 0 0)⟩
  refine ax_X.steps 5 ⟨a, ⟨by omega, by omega⟩, rfl, (?_ : ax_X ax_Ms ax_Xs no_M_end C _ 15 [some (.ref 0), some (.int (nI a)), some (.int sd), some (.int ck), none] [] (mH (f) n kn (mT (va_up t 21 (ag)) (ts (lvR r a) 2 a ck)) b) 0 0)⟩
  refine ax_X.steps 3 ⟨Or.inl rfl, (?_ : ax_X ax_Ms ax_Xs no_M_end C _ 18 [some (.ref 0), some (.int (nI a)), some (.int sd), some (.int ck), none] [] (mH (va_up f 5 ck) n kn (mT (va_up t 21 (ag)) (ts (lvR r a) 2 a ck)) b) 0 0)⟩
  refine ax_X.steps 4 ⟨a, ⟨by omega, by omega⟩, rfl, ?_⟩
  refine ax_X.steps 4 ⟨a, ⟨by omega, by omega⟩, rfl, ?_⟩
  refine ax_X.steps 1 (ax_br2 (fun c26 => ?_) (fun c26 => ?_))
  · refine ax_X.steps 4 ⟨a, ⟨by omega, by omega⟩, rfl, ?_⟩
    refine ax_X.steps 6 ⟨a, ⟨by omega, by omega⟩, rfl, ?_⟩
    refine ax_X.steps 1 ⟨q, ⟨by omega, by omega⟩, eq, ?_⟩
    refine ax_X.steps 1 (ax_br2 (fun c49 => ?_) (fun c49 => ?_))
    · refine ax_X.steps 7 ⟨a, ⟨by omega, by omega⟩, rfl, ?_⟩
      refine ax_X.steps 3 ⟨a, ⟨by omega, by omega⟩, rfl, (?_ : ax_X ax_Ms ax_Xs no_M_end C _ 70 [some (.ref 0), some (.int (nI a)), some (.int sd), some (.int ck), some (.int 0)] [] (mH (va_up f 5 ck) n kn (mT (va_up t 21 (upd ag a (ag a + 1))) (ts (lvR r a) 2 a ck)) b) 0 0)⟩
      refine ax_X.steps 5 (ax_brT (rfl) ?_)
      refine ax_X.steps 2 ⟨a, ⟨by omega, by omega⟩, rfl, (?_ : ax_X ax_Ms ax_Xs no_M_end C _ 79 [some (.ref 0), some (.int (nI a)), some (.int sd), some (.int ck), some (.int 0)] [] (mH (va_up f 5 ck) n kn (mT (va_up t 21 (upd ag a (ag a + 1))) (ts (ts (lvR r a) 2 a ck) 0 a 2)) b) 0 0)⟩
      exact ax_X.steps 1 (⟨rfl, by rw [if_neg (i_nlt.mpr (show r 3 a ≤ t 5 a from c26)), if_neg (i_nlt.mpr (show r 3 a ≤ t 5 a from c26)), show maB (r 3 a) (t 12 q) (t 11 1) (anyB (badB (r 0)) n) = false from by unfold maB; rw [decide_eq_false (fun z => absurd (e1.mpr z) (i_nlt.mpr (show t 12 q ≤ ag a from c49))), Bool.false_and]]; rfl⟩)
    · refine ax_X.steps 4 ⟨1, ⟨by omega, by omega⟩, rfl, ?_⟩
      refine ax_X.steps 1 (ax_br2 (fun c54 => ?_) (fun c54 => ?_))
      · refine ax_X.steps 8 ⟨a, ⟨by omega, by omega⟩, rfl, ?_⟩
        refine ax_X.steps 3 ⟨a, ⟨by omega, by omega⟩, rfl, (?_ : ax_X ax_Ms ax_Xs no_M_end C _ 70 [some (.ref 0), some (.int (nI a)), some (.int sd), some (.int ck), some (.int 1)] [] (mH (va_up f 5 ck) n kn (mT (va_up t 21 (upd ag a (ag a + 1))) (ts (lvR r a) 2 a ck)) b) 0 0)⟩
        refine ax_X.steps 5 (ax_brF (bI_n0) ?_)
        refine ax_X.steps 3 ⟨a, ⟨by omega, by omega⟩, rfl, (?_ : ax_X ax_Ms ax_Xs no_M_end C _ 79 [some (.ref 0), some (.int (nI a)), some (.int sd), some (.int ck), some (.int 1)] [] (mH (va_up f 5 ck) n kn (mT (va_up t 21 (upd ag a (ag a + 1))) (ts (ts (lvR r a) 2 a ck) 0 a 6)) b) 0 0)⟩
        exact ax_X.steps 1 (⟨rfl, by rw [if_neg (i_nlt.mpr (show r 3 a ≤ t 5 a from c26)), if_neg (i_nlt.mpr (show r 3 a ≤ t 5 a from c26)), show maB (r 3 a) (t 12 q) (t 11 1) (anyB (badB (r 0)) n) = true from by unfold maB; rw [decide_eq_true (e1.mp (i_nle.mp (show ¬ t 12 q ≤ ag a from c49))), decide_eq_true (show t 11 1 = 0 from c54)]; rfl]; rfl⟩)
      · refine ax_X.steps 2 (ax_go (h1 (va_up f 5 ck) n kn (mT (va_up t 21 ag) (ts (lvR r a) 2 a ck)) b hn) ?_)
        refine ax_X.steps 1 (ax_br2 (fun c57 => ?_) (fun c57 => ?_))
        · refine ax_X.steps 7 ⟨a, ⟨by omega, by omega⟩, rfl, ?_⟩
          refine ax_X.steps 3 ⟨a, ⟨by omega, by omega⟩, rfl, (?_ : ax_X ax_Ms ax_Xs no_M_end C _ 70 [some (.ref 0), some (.int (nI a)), some (.int sd), some (.int ck), some (.int 0)] [] (mH (va_up f 5 ck) n kn (mT (va_up t 21 (upd ag a (ag a + 1))) (ts (lvR r a) 2 a ck)) b) 0 0)⟩
          refine ax_X.steps 5 (ax_brT (rfl) ?_)
          refine ax_X.steps 2 ⟨a, ⟨by omega, by omega⟩, rfl, (?_ : ax_X ax_Ms ax_Xs no_M_end C _ 79 [some (.ref 0), some (.int (nI a)), some (.int sd), some (.int ck), some (.int 0)] [] (mH (va_up f 5 ck) n kn (mT (va_up t 21 (upd ag a (ag a + 1))) (ts (ts (lvR r a) 2 a ck) 0 a 2)) b) 0 0)⟩
          exact ax_X.steps 1 (⟨rfl, by rw [if_neg (i_nlt.mpr (show r 3 a ≤ t 5 a from c26)), if_neg (i_nlt.mpr (show r 3 a ≤ t 5 a from c26)), show maB (r 3 a) (t 12 q) (t 11 1) (anyB (badB (r 0)) n) = false from by unfold maB; rw [decide_eq_false (show ¬ t 11 1 = 0 from c54), show anyB (badB (r 0)) n = true from (by cases z : anyB (badB (r 0)) n with | false => exact absurd (congrArg bI z) c57 | true => rfl), Bool.not_true, Bool.or_false, Bool.and_false]]; rfl⟩)
        · refine ax_X.steps 8 ⟨a, ⟨by omega, by omega⟩, rfl, ?_⟩
          refine ax_X.steps 3 ⟨a, ⟨by omega, by omega⟩, rfl, (?_ : ax_X ax_Ms ax_Xs no_M_end C _ 70 [some (.ref 0), some (.int (nI a)), some (.int sd), some (.int ck), some (.int 1)] [] (mH (va_up f 5 ck) n kn (mT (va_up t 21 (upd ag a (ag a + 1))) (ts (lvR r a) 2 a ck)) b) 0 0)⟩
          refine ax_X.steps 5 (ax_brF (bI_n0) ?_)
          refine ax_X.steps 3 ⟨a, ⟨by omega, by omega⟩, rfl, (?_ : ax_X ax_Ms ax_Xs no_M_end C _ 79 [some (.ref 0), some (.int (nI a)), some (.int sd), some (.int ck), some (.int 1)] [] (mH (va_up f 5 ck) n kn (mT (va_up t 21 (upd ag a (ag a + 1))) (ts (ts (lvR r a) 2 a ck) 0 a 6)) b) 0 0)⟩
          exact ax_X.steps 1 (⟨rfl, by rw [if_neg (i_nlt.mpr (show r 3 a ≤ t 5 a from c26)), if_neg (i_nlt.mpr (show r 3 a ≤ t 5 a from c26)), show maB (r 3 a) (t 12 q) (t 11 1) (anyB (badB (r 0)) n) = true from by unfold maB; rw [decide_eq_true (e1.mp (i_nle.mp (show ¬ t 12 q ≤ ag a from c49))), show anyB (badB (r 0)) n = false from bI_0.mp (nn c57), Bool.not_false, Bool.or_true]; rfl]; rfl⟩)
  · refine ax_X.steps 5 ⟨a, ⟨by omega, by omega⟩, rfl, (?_ : ax_X ax_Ms ax_Xs no_M_end C _ 32 [some (.ref 0), some (.int (nI a)), some (.int sd), some (.int ck), none] [] (mH (va_up f 5 ck) n kn (mT (va_up t 21 (ag)) (ts (ts (lvR r a) 2 a ck) 0 a 1)) b) 0 0)⟩
    refine ax_X.steps 5 ⟨a, ⟨by omega, by omega⟩, rfl, (?_ : ax_X ax_Ms ax_Xs no_M_end C _ 37 [some (.ref 0), some (.int (nI a)), some (.int sd), some (.int ck), none] [] (mH (va_up f 5 ck) n kn (mT (va_up t 21 (ag)) (ts (ts (ts (lvR r a) 2 a ck) 0 a 1) 4 a sd)) b) 0 0)⟩
    exact ax_X.steps 1 (⟨rfl, by rw [if_pos (i_nle.mp (show ¬ r 3 a ≤ t 5 a from c26)), if_pos (i_nle.mp (show ¬ r 3 a ≤ t 5 a from c26))]⟩)
abbrev FGR : Type := (Nat → Int32) × (Nat → Int32) × (Nat → Nat → Int32)
def mES (n : Nat) (t : Nat → Nat → Int32) (ck : Int32) (a : Nat) (p : FGR) : FGR := if p.2.2 0 a = 7 then (if p.2.2 5 a = ck then (va_up p.1 5 ck, agR (t 5) p.2.1 p.2.2 a, endR (t 5) (mayR n (t 6) (t 12) (t 11) p.2.2 a) p.2.2 a 0 ck) else if p.2.2 6 a = ck then (va_up p.1 5 ck, agR (t 5) p.2.1 p.2.2 a, endR (t 5) (mayR n (t 6) (t 12) (t 11) p.2.2 a) p.2.2 a 1 ck) else p) else p
theorem agR_ne {fl ag : Nat → Int32} {r : Nat → Nat → Int32} {a c : Nat} (h : c ≠ a) : agR fl ag r a c = ag c := by
  unfold agR
  split
  · rfl
  · exact pk_un h
theorem mES_ne {n : Nat} {t : Nat → Nat → Int32} {ck : Int32} {a c : Nat} {p : FGR} (h : c ≠ a) : (mES n t ck a p).2.1 c = p.2.1 c ∧ ∀ j, (mES n t ck a p).2.2 j c = p.2.2 j c := by
  unfold mES
  split
  · split
    · exact ⟨agR_ne h, fun j => endR_ne h⟩
    · split
      · exact ⟨agR_ne h, fun j => endR_ne h⟩
      · exact ⟨rfl, fun j => rfl⟩
  · exact ⟨rfl, fun j => rfl⟩
theorem mES_ge {n : Nat} {t : Nat → Nat → Int32} {ck : Int32} {p : FGR} : ∀ (a : Nat) {c : Nat}, a ≤ c → (itN (mES n t ck) a p).2.1 c = p.2.1 c ∧ ∀ j, (itN (mES n t ck) a p).2.2 j c = p.2.2 j c
  | 0, _, _ => ⟨rfl, fun _ => rfl⟩
  | a + 1, c, h => by
    have ih := mES_ge (n := n) (t := t) (ck := ck) (p := p) a (c := c) (by omega)
    have h2 := mES_ne (n := n) (t := t) (ck := ck) (a := a) (c := c) (p := itN (mES n t ck) a p) (by omega)
    exact ⟨h2.1.trans ih.1, fun j => (h2.2 j).trans (ih.2 j)⟩
def Sp_M_endAll (C : ax_O) : Prop := ∀ (f : Nat → Int32) (n kn : Nat) (t : Nat → Nat → Int32) (b : Nat) (ag : Nat → Int32) (r : Nat → Nat → Int32) (ck : Int32), n ≤ 24 → (∀ a, a < n → ∃ q, q < 4 ∧ t 6 a = nI q) → (∀ a, a < n → r 0 a = 7 → ∃ c, c < 100 ∧ ag a = nI c ∧ r 3 a = nI (c + 1)) → C no_M_endAll [.ref 0, .int ck] (mH f n kn (mT (va_up t 21 ag) r) b) (ax_is none (mH (itN (mES n t ck) n (f, ag, r)).1 n kn (mT (va_up t 21 (itN (mES n t ck) n (f, ag, r)).2.1) (itN (mES n t ck) n (f, ag, r)).2.2) b))
theorem p_M_endAll {C : ax_O} (h1 : Sp_M_end C) : Sp_M_endAll (ax_B ax_Ms ax_Xs C) := by
  intro f n kn t b ag r ck hn hq hc
  have loop : ∀ (k a : Nat) (x : Int32) (g : FGR), x = nI a → g = itN (mES n t ck) a (f, ag, r) → a + k = n → ax_X ax_Ms ax_Xs no_M_endAll C (ax_is none (mH (itN (mES n t ck) n (f, ag, r)).1 n kn (mT (va_up t 21 (itN (mES n t ck) n (f, ag, r)).2.1) (itN (mES n t ck) n (f, ag, r)).2.2) b)) 2 [some (.ref 0), some (.int ck), some (.int x)] [] (mH g.1 n kn (mT (va_up t 21 g.2.1) g.2.2) b) 0 0 := by
    intro k
    induction k with
    | zero =>
      intro a x g hx hg hk
      subst hx
      have hk : a = n := hk
      subst hk
      subst hg
      refine ax_X.steps 4 (ax_brT (nI_le (by omega) (by omega)) ?_)
      exact ax_X.steps 1 (⟨rfl, rfl⟩)
    | succ k ih =>
      intro a x g hx hg hk
      subst hx
      have hs : mES n t ck a g = itN (mES n t ck) (a + 1) (f, ag, r) := by rw [hg]; rfl
      have hge := mES_ge (n := n) (t := t) (ck := ck) (p := (f, ag, r)) a (c := a) (Nat.le_refl a)
      rw [← hg] at hge
      have hca : g.2.2 0 a = 7 → ∃ c, c < 100 ∧ g.2.1 a = nI c ∧ g.2.2 3 a = nI (c + 1) := by
        rw [hge.1, hge.2 0, hge.2 3]
        exact hc a (by omega)
      unfold mES at hs
      refine ax_X.steps 4 (ax_brF (nI_ge (by omega) (by omega)) ?_)
      refine ax_X.steps 4 ⟨a, ⟨by omega, by omega⟩, rfl, ?_⟩
      refine ax_X.steps 2 (ax_br2 (fun c11 => ?_) (fun c11 => ?_))
      · refine ax_X.steps 4 ⟨a, ⟨by omega, by omega⟩, rfl, ?_⟩
        refine ax_X.steps 2 (ax_br2 (fun c18 => ?_) (fun c18 => ?_))
        · refine ax_X.steps 4 ⟨a, ⟨by omega, by omega⟩, rfl, ?_⟩
          refine ax_X.steps 2 (ax_br2 (fun c30 => ?_) (fun c30 => ?_))
          · exact ax_X.steps 2 (ih (a + 1) _ g (nI_1 a) (by rw [if_pos (show g.2.2 0 a = 7 from c11), if_neg (show ¬ g.2.2 5 a = ck from c18), if_neg (show ¬ g.2.2 6 a = ck from c30)] at hs; exact hs) (by omega))
          · refine ax_X.steps 5 (ax_gov (h1 g.1 n kn t b g.2.1 g.2.2 a 1 ck hn (by omega) (hq a (by omega)) (hca c11)) ?_)
            exact ax_X.steps 2 (ih (a + 1) _ (va_up g.1 5 ck, agR (t 5) g.2.1 g.2.2 a, endR (t 5) (mayR n (t 6) (t 12) (t 11) g.2.2 a) g.2.2 a 1 ck) (nI_1 a) (by rw [if_pos (show g.2.2 0 a = 7 from c11), if_neg (show ¬ g.2.2 5 a = ck from c18), if_pos (show g.2.2 6 a = ck from nn c30)] at hs; exact hs) (by omega))
        · refine ax_X.steps 5 (ax_gov (h1 g.1 n kn t b g.2.1 g.2.2 a 0 ck hn (by omega) (hq a (by omega)) (hca c11)) ?_)
          exact ax_X.steps 3 (ih (a + 1) _ (va_up g.1 5 ck, agR (t 5) g.2.1 g.2.2 a, endR (t 5) (mayR n (t 6) (t 12) (t 11) g.2.2 a) g.2.2 a 0 ck) (nI_1 a) (by rw [if_pos (show g.2.2 0 a = 7 from c11), if_pos (show g.2.2 5 a = ck from nn c18)] at hs; exact hs) (by omega))
      · exact ax_X.steps 3 (ih (a + 1) _ g (nI_1 a) (by rw [if_neg (show ¬ g.2.2 0 a = 7 from c11)] at hs; exact hs) (by omega))
  exact ax_X.steps 2 (loop n 0 0 (f, ag, r) rfl rfl (by omega))
