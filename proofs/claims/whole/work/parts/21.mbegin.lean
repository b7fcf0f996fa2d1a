/-! Begins of tries, the reference. -/
def mbR (r : Nat → Nat → Int32) (a : Nat) (ck tm fr : Int32) (aw : Bool) : Nat → Nat → Int32 := ts (ts (ts (ts (ts r 0 a 7) 1 a (if r 3 a = 0 then ck else r 1 a)) 3 a (r 3 a + 1)) 5 a (ck + tm)) 6 a (bif aw then ck + fr else -1)
theorem mb_tail {C : ax_O} (f : Nat → Int32) (n kn : Nat) (t : Nat → Nat → Int32) (b : Nat) (r : Nat → Nat → Int32) (a : Nat) (ck : Int32) (aw : Bool) (ha : a < 24) (hb : b < 100) (K : ax_K) (hK : K none (mH f n kn (mT (ts t 23 b (nI a)) (mbR r a ck (t 0 a) (t 4 a) aw)) (b + 1))) : ax_X ax_Ms ax_Xs no_M_begin C K 20 [some (.ref 0), some (.int (nI a)), some (.int ck), some (.int (bI aw))] [] (mH f n kn (mT t r) b) 0 0 := by
  have last : ∀ R : Nat → Nat → Int32, K none (mH f n kn (mT (ts t 23 b (nI a)) R) (b + 1)) → ax_X ax_Ms ax_Xs no_M_begin C K 72 [some (.ref 0), some (.int (nI a)), some (.int ck), some (.int (bI aw))] [] (mH f n kn (mT t R) b) 0 0 := by
    intro R hK
    unfold mH at hK
    rw [← nI_1 b] at hK
    refine ax_X.steps 6 ⟨b, ⟨by omega, by omega⟩, rfl, (?_ : ax_X ax_Ms ax_Xs no_M_begin C K 78 [some (.ref 0), some (.int (nI a)), some (.int ck), some (.int (bI aw))] [] (mH f n kn (mT (ts t 23 b (nI a)) (R)) b) 0 0)⟩
    refine ax_X.steps 6 ⟨Or.inl rfl, ?_⟩
    exact ax_X.steps 1 (hK)
  have mid : ∀ v : Int32, v = (if r 3 a = 0 then ck else r 1 a) → ax_X ax_Ms ax_Xs no_M_begin C K 40 [some (.ref 0), some (.int (nI a)), some (.int ck), some (.int (bI aw))] [] (mH f n kn (mT t (ts (ts r 0 a 7) 1 a v)) b) 0 0 := by
    intro v hv
    unfold mbR at hK
    rw [← hv] at hK
    cases aw
    · refine ax_X.steps 5 ⟨a, ⟨by omega, by omega⟩, rfl, ?_⟩
      refine ax_X.steps 3 ⟨a, ⟨by omega, by omega⟩, rfl, (?_ : ax_X ax_Ms ax_Xs no_M_begin C K 48 [some (.ref 0), some (.int (nI a)), some (.int ck), some (.int (bI false))] [] (mH f n kn (mT (t) (ts (ts (ts r 0 a 7) 1 a v) 3 a (r 3 a + 1))) b) 0 0)⟩
      refine ax_X.steps 8 ⟨a, ⟨by omega, by omega⟩, rfl, ?_⟩
      refine ax_X.steps 2 ⟨a, ⟨by omega, by omega⟩, rfl, (?_ : ax_X ax_Ms ax_Xs no_M_begin C K 58 [some (.ref 0), some (.int (nI a)), some (.int ck), some (.int (bI false))] [] (mH f n kn (mT (t) (ts (ts (ts (ts r 0 a 7) 1 a v) 3 a (r 3 a + 1)) 5 a (ck + t 0 a))) b) 0 0)⟩
      refine ax_X.steps 5 (ax_brT (rfl) ?_)
      refine ax_X.steps 2 ⟨a, ⟨by omega, by omega⟩, rfl, (?_ : ax_X ax_Ms ax_Xs no_M_begin C K 72 [some (.ref 0), some (.int (nI a)), some (.int ck), some (.int (bI false))] [] (mH f n kn (mT (t) (ts (ts (ts (ts (ts r 0 a 7) 1 a v) 3 a (r 3 a + 1)) 5 a (ck + t 0 a)) 6 a (-1))) b) 0 0)⟩
      exact ax_X.steps 0 (last _ hK)
    · refine ax_X.steps 5 ⟨a, ⟨by omega, by omega⟩, rfl, ?_⟩
      refine ax_X.steps 3 ⟨a, ⟨by omega, by omega⟩, rfl, (?_ : ax_X ax_Ms ax_Xs no_M_begin C K 48 [some (.ref 0), some (.int (nI a)), some (.int ck), some (.int (bI true))] [] (mH f n kn (mT (t) (ts (ts (ts r 0 a 7) 1 a v) 3 a (r 3 a + 1))) b) 0 0)⟩
      refine ax_X.steps 8 ⟨a, ⟨by omega, by omega⟩, rfl, ?_⟩
      refine ax_X.steps 2 ⟨a, ⟨by omega, by omega⟩, rfl, (?_ : ax_X ax_Ms ax_Xs no_M_begin C K 58 [some (.ref 0), some (.int (nI a)), some (.int ck), some (.int (bI true))] [] (mH f n kn (mT (t) (ts (ts (ts (ts r 0 a 7) 1 a v) 3 a (r 3 a + 1)) 5 a (ck + t 0 a))) b) 0 0)⟩
      refine ax_X.steps 5 (ax_brF (bI_n0) ?_)
      refine ax_X.steps 5 ⟨a, ⟨by omega, by omega⟩, rfl, ?_⟩
      refine ax_X.steps 3 ⟨a, ⟨by omega, by omega⟩, rfl, (?_ : ax_X ax_Ms ax_Xs no_M_begin C K 72 [some (.ref 0), some (.int (nI a)), some (.int ck), some (.int (bI true))] [] (mH f n kn (mT (t) (ts (ts (ts (ts (ts r 0 a 7) 1 a v) 3 a (r 3 a + 1)) 5 a (ck + t 0 a)) 6 a (ck + t 4 a))) b) 0 0)⟩
      exact ax_X.steps 0 (last _ hK)
  refine ax_X.steps 5 ⟨a, ⟨by omega, by omega⟩, rfl, (?_ : ax_X ax_Ms ax_Xs no_M_begin C K 25 [some (.ref 0), some (.int (nI a)), some (.int ck), some (.int (bI aw))] [] (mH f n kn (mT (t) (ts r 0 a 7)) b) 0 0)⟩
  refine ax_X.steps 7 ⟨a, ⟨by omega, by omega⟩, rfl, ?_⟩
  refine ax_X.steps 1 (ax_br2 (fun c32 => ?_) (fun c32 => ?_))
  · refine ax_X.steps 4 ⟨a, ⟨by omega, by omega⟩, rfl, ?_⟩
    refine ax_X.steps 1 ⟨a, ⟨by omega, by omega⟩, rfl, (?_ : ax_X ax_Ms ax_Xs no_M_begin C K 40 [some (.ref 0), some (.int (nI a)), some (.int ck), some (.int (bI aw))] [] (mH f n kn (mT (t) (ts (ts r 0 a 7) 1 a (r 1 a))) b) 0 0)⟩
    exact ax_X.steps 0 (mid (r 1 a) (if_neg (show ¬ r 3 a = 0 from c32)).symm)
  · refine ax_X.steps 3 ⟨a, ⟨by omega, by omega⟩, rfl, (?_ : ax_X ax_Ms ax_Xs no_M_begin C K 40 [some (.ref 0), some (.int (nI a)), some (.int ck), some (.int (bI aw))] [] (mH f n kn (mT (t) (ts (ts r 0 a 7) 1 a ck)) b) 0 0)⟩
    exact ax_X.steps 0 (mid ck (if_pos (show r 3 a = 0 from nn c32)).symm)
def Sp_M_begin (C : ax_O) : Prop := ∀ (f : Nat → Int32) (n kn : Nat) (t : Nat → Nat → Int32) (b : Nat) (r : Nat → Nat → Int32) (a : Nat) (ck : Int32), n ≤ 24 → a < 24 → b < 100 → C no_M_begin [.ref 0, .int (nI a), .int ck] (mH f n kn (mT t r) b) (ax_is none (mH f n kn (mT (ts t 23 b (nI a)) (mbR r a ck (t 0 a) (t 4 a) (awB (t 11 3) (t 4 a) (smI (r 0) (faI (mT t r)) n) (f 2)))) (b + 1)))
theorem p_M_begin {C : ax_O} (h1 : Sp_M_taken_2 C) : Sp_M_begin (ax_B ax_Ms ax_Xs C) := by
  intro f n kn t b r a ck hn ha hb
  refine ax_X.steps 4 ⟨3, ⟨by omega, by omega⟩, rfl, ?_⟩
  refine ax_X.steps 1 (ax_br2 (fun c4 => ?_) (fun c4 => ?_))
  · exact ax_X.steps 2 (by rw [show awB (t 11 3) (t 4 a) (smI (r 0) (faI (mT t r)) n) (f 2) = false from by unfold awB; rw [decide_eq_true (show t 11 3 = 0 from c4)]; rfl]; exact mb_tail f n kn t b r a ck false ha hb _ ⟨rfl, rfl⟩)
  · refine ax_X.steps 4 ⟨a, ⟨by omega, by omega⟩, rfl, ?_⟩
    refine ax_X.steps 1 (ax_br2 (fun c9 => ?_) (fun c9 => ?_))
    · exact ax_X.steps 2 (by rw [show awB (t 11 3) (t 4 a) (smI (r 0) (faI (mT t r)) n) (f 2) = false from by unfold awB; rw [decide_eq_true (show t 4 a ≤ 0 from c9), Bool.not_true, Bool.false_and, Bool.and_false]]; exact mb_tail f n kn t b r a ck false ha hb _ ⟨rfl, rfl⟩)
    · refine ax_X.steps 3 (ax_go (h1 f n kn (mT t r) b hn) ?_)
      refine ax_X.steps 3 (ax_br2 (fun c15 => ?_) (fun c15 => ?_))
      · exact ax_X.steps 2 (by rw [show awB (t 11 3) (t 4 a) (smI (r 0) (faI (mT t r)) n) (f 2) = false from by unfold awB; rw [decide_eq_false (i_nlt.mpr (show f 2 ≤ smI (r 0) (faI (mT t r)) n from c15)), Bool.and_false, Bool.and_false]]; exact mb_tail f n kn t b r a ck false ha hb _ ⟨rfl, rfl⟩)
      · exact ax_X.steps 3 (by rw [show awB (t 11 3) (t 4 a) (smI (r 0) (faI (mT t r)) n) (f 2) = true from by unfold awB; rw [decide_eq_false (show ¬ t 11 3 = 0 from c4), decide_eq_false (show ¬ t 4 a ≤ 0 from c9), decide_eq_true (i_nle.mp (show ¬ f 2 ≤ smI (r 0) (faI (mT t r)) n from c15))]; rfl]; exact mb_tail f n kn t b r a ck true ha hb _ ⟨rfl, rfl⟩)
abbrev GS : Type := (Nat → Int32) × (Nat → Nat → Int32) × Nat
def mHb (f : Nat → Int32) (n kn : Nat) (t : Nat → Nat → Int32) (sn : Nat → Int32) (s : GS) : ax_H := mH f n kn (mT (va_up (va_up t 22 sn) 23 s.1) s.2.1) s.2.2
def mBg (f : Nat → Int32) (n : Nat) (t : Nat → Nat → Int32) (ck : Int32) (a : Nat) (s : GS) : GS := (upd s.1 s.2.2 (nI a), mbR s.2.1 a ck (t 0 a) (t 4 a) (awB (t 11 3) (t 4 a) (smI (s.2.1 0) (faI (mT t s.2.1)) n) (f 2)), s.2.2 + 1)
def mBL (f : Nat → Int32) (n : Nat) (t : Nat → Nat → Int32) (ck : Int32) : Nat → (Nat → Bool) → GS → GS
  | 0, _, s => s
  | k + 1, p, s => match fmN p (t 13) n with
    | none => s
    | some a => if mfB f n (mT t s.2.1) a = true then mBL f n t ck k (delB p a) (mBg f n t ck a s) else if t 11 2 = 0 then s else mBL f n t ck k (delB p a) s
theorem cnt0_fm {p : Nat → Bool} {rs : Nat → Int32} : ∀ {n : Nat}, cntB p n = 0 → fmN p rs n = none
  | 0, _ => rfl
  | n + 1, h => by
    rw [cntB] at h
    have h1 : cntB p n = 0 := by omega
    have h2 : p n = false := by
      cases e : p n
      · rfl
      · rw [e] at h
        have : cntB p n + 1 = 0 := h
        omega
    rw [fmN, cnt0_fm h1, h2]
    rfl
def msF (f : Nat → Int32) (n : Nat) (t r : Nat → Nat → Int32) : Nat → Int32 := va_up (va_up f 3 (mxI (f 3) (smI (r 0) (t 1) n))) 4 (mxI (f 4) (smI (r 0) (t 2) n))
theorem mxI_le {x y : Int32} (h : y ≤ x) : mxI x y = x := if_neg (i_nlt.mpr h)
theorem mxI_nle {x y : Int32} (h : ¬ y ≤ x) : mxI x y = y := if_pos (i_nle.mp h)
theorem mba_end {C : ax_O} (h0 : Sp_M_taken_0 C) (h1 : Sp_M_taken_1 C) (f : Nat → Int32) (n kn : Nat) (t : Nat → Nat → Int32) (ck : Int32) (z3 z4 z2 : Int32) (z5 : Option Value) (sn : Nat → Int32) (s : GS) (hn : n ≤ 24) (K : ax_K) (hK : K none (mHb (msF f n t s.2.1) n kn t sn s)) : ax_X ax_Ms ax_Xs no_M_beginAll C K 100 [some (.ref 0), some (.int ck), some (.int z2), some (.int z3), some (.int z4), z5] [] (mHb f n kn t sn s) 0 0 := by
  have fin : ∀ (c m : Int32), c = smI (s.2.1 0) (t 1) n → m = smI (s.2.1 0) (t 2) n → ax_X ax_Ms ax_Xs no_M_beginAll C K 108 [some (.ref 0), some (.int ck), some (.int z2), some (.int z3), some (.int c), some (.int m)] [] (mHb f n kn t sn s) 0 0 := by
    intro c m hc hm
    unfold msF at hK
    rw [← hc, ← hm] at hK
    have snd : ∀ v : Int32, v = mxI (f 3) c → ax_X ax_Ms ax_Xs no_M_beginAll C K 118 [some (.ref 0), some (.int ck), some (.int z2), some (.int z3), some (.int c), some (.int m)] [] (mHb (va_up f 3 v) n kn t sn s) 0 0 := by
      intro v hv
      rw [← hv] at hK
      refine ax_X.steps 5 (ax_br2 (fun c122 => ?_) (fun c122 => ?_))
      · refine ax_X.steps 3 ⟨Or.inl rfl, ?_⟩
        exact ax_X.steps 1 (by rw [mxI_le (show m ≤ f 4 from c122)] at hK; exact hK)
      · refine ax_X.steps 3 ⟨Or.inl rfl, ?_⟩
        exact ax_X.steps 1 (by rw [mxI_nle (show ¬ m ≤ f 4 from c122)] at hK; exact hK)
    refine ax_X.steps 5 (ax_br2 (fun c112 => ?_) (fun c112 => ?_))
    · refine ax_X.steps 3 ⟨Or.inl rfl, ?_⟩
      exact ax_X.steps 0 (snd (f 3) (mxI_le (show c ≤ f 3 from c112)).symm)
    · refine ax_X.steps 3 ⟨Or.inl rfl, ?_⟩
      exact ax_X.steps 0 (snd c (mxI_nle (show ¬ c ≤ f 3 from c112)).symm)
  refine ax_X.steps 3 (ax_go (h0 f n kn (mT (va_up (va_up t 22 sn) 23 s.1) s.2.1) s.2.2 hn) ?_)
  refine ax_X.steps 4 (ax_go (h1 f n kn (mT (va_up (va_up t 22 sn) 23 s.1) s.2.1) s.2.2 hn) ?_)
  exact ax_X.steps 1 (fin _ _ rfl rfl)
set_option maxHeartbeats 4000000 in
theorem mba_loop {C : ax_O} (h0 : Sp_M_taken_0 C) (h1 : Sp_M_taken_1 C) (hN : Sp_M_next C) (hF : Sp_M_fits C) (hB : Sp_M_begin C) (f : Nat → Int32) (n kn : Nat) (t : Nat → Nat → Int32) (ck z2 : Int32) (K : ax_K) (hn : n ≤ 24) : ∀ (k : Nat) (sn : Nat → Int32) (p : Nat → Bool) (s : GS) (z4 z5 : Option Value), (∀ c, c < n → p c = !decide (sn c = 0)) → cntB p n ≤ k → s.2.2 + cntB p n ≤ 96 → (∀ sn', K none (mHb (msF f n t (mBL f n t ck k p s).2.1) n kn t sn' (mBL f n t ck k p s))) → ax_X ax_Ms ax_Xs no_M_beginAll C K 62 [some (.ref 0), some (.int ck), some (.int z2), some (.int 1), z4, z5] [] (mHb f n kn t sn s) 0 0 := by
  intro k
  induction k with
  | zero =>
    intro sn p s z4 z5 hp hk hb hK
    have hK := hK sn
    have c0 : fmN p (t 13) n = none := cnt0_fm (by omega)
    have hfm : fmN (fun c => !decide (sn c = 0)) (t 13) n = fmN p (t 13) n := fmN_congr (fun c hc => (hp c hc).symm)
    have c1 : fmN p (t 13) n = none := c0
    refine ax_X.steps 2 (ax_brF (bI_n0) ?_)
    refine ax_X.steps 2 (ax_go ((show C no_M_next [.ref 0] (mHb f n kn t sn s) (ax_is (some (.int (-1))) (mHb f n kn t sn s)) from by have := hN f n kn (mT (va_up (va_up t 22 sn) 23 s.1) s.2.1) s.2.2 hn; rw [show (fun c => !decide (mT (va_up (va_up t 22 sn) 23 s.1) s.2.1 22 c = 0)) = (fun c => !decide (sn c = 0)) from rfl, show mT (va_up (va_up t 22 sn) 23 s.1) s.2.1 13 = t 13 from rfl, hfm, c1] at this; exact this)) ?_)
    refine ax_X.steps 3 (ax_brT (show (-1 : Int32) < 0 by decide) ?_)
    refine ax_X.steps 4 (ax_brT (rfl) ?_)
    refine ax_X.steps 2 (ax_brT (rfl) ?_)
    refine ax_X.steps 3 (ax_brT (rfl) ?_)
    exact ax_X.steps 0 (mba_end h0 h1 f n kn t ck 0 (-1) z2 z5 sn s hn K hK)
  | succ k ih =>
    intro sn p s z4 z5 hp hk hb hK
    have hfm : fmN (fun c => !decide (sn c = 0)) (t 13) n = fmN p (t 13) n := fmN_congr (fun c hc => (hp c hc).symm)
    rw [mBL] at hK
    cases c1 : fmN p (t 13) n with
    | none =>
      rw [c1] at hK
      have hK := hK sn
      refine ax_X.steps 2 (ax_brF (bI_n0) ?_)
      refine ax_X.steps 2 (ax_go ((show C no_M_next [.ref 0] (mHb f n kn t sn s) (ax_is (some (.int (-1))) (mHb f n kn t sn s)) from by have := hN f n kn (mT (va_up (va_up t 22 sn) 23 s.1) s.2.1) s.2.2 hn; rw [show (fun c => !decide (mT (va_up (va_up t 22 sn) 23 s.1) s.2.1 22 c = 0)) = (fun c => !decide (sn c = 0)) from rfl, show mT (va_up (va_up t 22 sn) 23 s.1) s.2.1 13 = t 13 from rfl, hfm, c1] at this; exact this)) ?_)
      refine ax_X.steps 3 (ax_brT (show (-1 : Int32) < 0 by decide) ?_)
      refine ax_X.steps 4 (ax_brT (rfl) ?_)
      refine ax_X.steps 2 (ax_brT (rfl) ?_)
      refine ax_X.steps 3 (ax_brT (rfl) ?_)
      exact ax_X.steps 0 (mba_end h0 h1 f n kn t ck 0 (-1) z2 z5 sn s hn K hK)
    | some j =>
      rw [c1] at hK
      dsimp only at hK
      have hj := fmN_lt c1
      have hpj := fmN_p c1
      have hcd := cntB_del hj hpj
      have hp2 : ∀ c, c < n → delB p j c = !decide (upd sn j 0 c = 0) := by
        intro c hc
        unfold delB
        by_cases e : c = j
        · subst e
          rw [pk_us, decide_eq_true rfl, decide_eq_true rfl, Bool.not_true, Bool.and_false]
        · rw [pk_un e, decide_eq_false e, hp c hc, Bool.not_false, Bool.and_true]
      cases c2 : mfB f n (mT t s.2.1) j
      · rw [c2, if_neg (by decide)] at hK
        by_cases c3 : t 11 2 = 0
        · rw [if_pos c3] at hK
          have hK := hK sn
          refine ax_X.steps 2 (ax_brF (bI_n0) ?_)
          refine ax_X.steps 2 (ax_go ((show C no_M_next [.ref 0] (mHb f n kn t sn s) (ax_is (some (.int (nI j))) (mHb f n kn t sn s)) from by have := hN f n kn (mT (va_up (va_up t 22 sn) 23 s.1) s.2.1) s.2.2 hn; rw [show (fun c => !decide (mT (va_up (va_up t 22 sn) 23 s.1) s.2.1 22 c = 0)) = (fun c => !decide (sn c = 0)) from rfl, show mT (va_up (va_up t 22 sn) 23 s.1) s.2.1 13 = t 13 from rfl, hfm, c1] at this; exact this)) ?_)
          refine ax_X.steps 3 (ax_brF (nI_pos (by omega)) ?_)
          refine ax_X.steps 3 (ax_go ((show C no_M_fits [.ref 0, .int (nI j)] (mHb f n kn t sn s) (ax_is (some (.int (bI false))) (mHb f n kn t sn s)) from by have := hF f n kn (mT (va_up (va_up t 22 sn) 23 s.1) s.2.1) s.2.2 j hn (by omega); rw [show mfB f n (mT (va_up (va_up t 22 sn) 23 s.1) s.2.1) j = mfB f n (mT t s.2.1) j from rfl, c2] at this; exact this)) ?_)
          refine ax_X.steps 1 (ax_brF (fun q => q rfl) ?_)
          refine ax_X.steps 4 ⟨2, ⟨by omega, by omega⟩, rfl, ?_⟩
          refine ax_X.steps 1 (ax_brT (c3) ?_)
          refine ax_X.steps 4 (ax_brT (rfl) ?_)
          refine ax_X.steps 2 (ax_brT (rfl) ?_)
          refine ax_X.steps 3 (ax_brT (rfl) ?_)
          exact ax_X.steps 0 (mba_end h0 h1 f n kn t ck 0 (nI j) z2 z5 sn s hn K hK)
        · rw [if_neg c3] at hK
          refine ax_X.steps 2 (ax_brF (bI_n0) ?_)
          refine ax_X.steps 2 (ax_go ((show C no_M_next [.ref 0] (mHb f n kn t sn s) (ax_is (some (.int (nI j))) (mHb f n kn t sn s)) from by have := hN f n kn (mT (va_up (va_up t 22 sn) 23 s.1) s.2.1) s.2.2 hn; rw [show (fun c => !decide (mT (va_up (va_up t 22 sn) 23 s.1) s.2.1 22 c = 0)) = (fun c => !decide (sn c = 0)) from rfl, show mT (va_up (va_up t 22 sn) 23 s.1) s.2.1 13 = t 13 from rfl, hfm, c1] at this; exact this)) ?_)
          refine ax_X.steps 3 (ax_brF (nI_pos (by omega)) ?_)
          refine ax_X.steps 3 (ax_go ((show C no_M_fits [.ref 0, .int (nI j)] (mHb f n kn t sn s) (ax_is (some (.int (bI false))) (mHb f n kn t sn s)) from by have := hF f n kn (mT (va_up (va_up t 22 sn) 23 s.1) s.2.1) s.2.2 j hn (by omega); rw [show mfB f n (mT (va_up (va_up t 22 sn) 23 s.1) s.2.1) j = mfB f n (mT t s.2.1) j from rfl, c2] at this; exact this)) ?_)
          refine ax_X.steps 1 (ax_brF (fun q => q rfl) ?_)
          refine ax_X.steps 4 ⟨2, ⟨by omega, by omega⟩, rfl, ?_⟩
          refine ax_X.steps 1 (ax_brF (c3) ?_)
          refine ax_X.steps 5 (ax_brF (bI_n0) ?_)
          refine ax_X.steps 3 (ax_go ((show C no_M_fits [.ref 0, .int (nI j)] (mHb f n kn t sn s) (ax_is (some (.int (bI false))) (mHb f n kn t sn s)) from by have := hF f n kn (mT (va_up (va_up t 22 sn) 23 s.1) s.2.1) s.2.2 j hn (by omega); rw [show mfB f n (mT (va_up (va_up t 22 sn) 23 s.1) s.2.1) j = mfB f n (mT t s.2.1) j from rfl, c2] at this; exact this)) ?_)
          refine ax_X.steps 1 (ax_brT (rfl) ?_)
          refine ax_X.steps 2 (ax_brF (bI_n0) ?_)
          refine ax_X.steps 5 ⟨j, ⟨by omega, by omega⟩, rfl, (?_ : ax_X ax_Ms ax_Xs no_M_beginAll C K 99 [some (.ref 0), some (.int ck), some (.int z2), some (.int 1), some (.int (nI j)), z5] [] (mHb f n kn t (upd sn j 0) s) 0 0)⟩
          exact ax_X.steps 1 (ih (upd sn j 0) (delB p j) s _ z5 hp2 (by omega) (by omega) hK)
      · rw [c2, if_pos rfl] at hK
        refine ax_X.steps 2 (ax_brF (bI_n0) ?_)
        refine ax_X.steps 2 (ax_go ((show C no_M_next [.ref 0] (mHb f n kn t sn s) (ax_is (some (.int (nI j))) (mHb f n kn t sn s)) from by have := hN f n kn (mT (va_up (va_up t 22 sn) 23 s.1) s.2.1) s.2.2 hn; rw [show (fun c => !decide (mT (va_up (va_up t 22 sn) 23 s.1) s.2.1 22 c = 0)) = (fun c => !decide (sn c = 0)) from rfl, show mT (va_up (va_up t 22 sn) 23 s.1) s.2.1 13 = t 13 from rfl, hfm, c1] at this; exact this)) ?_)
        refine ax_X.steps 3 (ax_brF (nI_pos (by omega)) ?_)
        refine ax_X.steps 3 (ax_go ((show C no_M_fits [.ref 0, .int (nI j)] (mHb f n kn t sn s) (ax_is (some (.int (bI true))) (mHb f n kn t sn s)) from by have := hF f n kn (mT (va_up (va_up t 22 sn) 23 s.1) s.2.1) s.2.2 j hn (by omega); rw [show mfB f n (mT (va_up (va_up t 22 sn) 23 s.1) s.2.1) j = mfB f n (mT t s.2.1) j from rfl, c2] at this; exact this)) ?_)
        refine ax_X.steps 1 (ax_brT (bI_n0) ?_)
        refine ax_X.steps 5 (ax_brF (bI_n0) ?_)
        refine ax_X.steps 3 (ax_go ((show C no_M_fits [.ref 0, .int (nI j)] (mHb f n kn t sn s) (ax_is (some (.int (bI true))) (mHb f n kn t sn s)) from by have := hF f n kn (mT (va_up (va_up t 22 sn) 23 s.1) s.2.1) s.2.2 j hn (by omega); rw [show mfB f n (mT (va_up (va_up t 22 sn) 23 s.1) s.2.1) j = mfB f n (mT t s.2.1) j from rfl, c2] at this; exact this)) ?_)
        refine ax_X.steps 1 (ax_brF (bI_n0) ?_)
        refine ax_X.steps 4 (ax_gov ((show C no_M_begin [.ref 0, .int (nI j), .int ck] (mHb f n kn t sn s) (ax_is none (mHb f n kn t sn (mBg f n t ck j s))) from hB f n kn (va_up (va_up t 22 sn) 23 s.1) s.2.2 s.2.1 j ck hn (by omega) (by omega))) ?_)
        refine ax_X.steps 2 (ax_brF (bI_n0) ?_)
        refine ax_X.steps 5 ⟨j, ⟨by omega, by omega⟩, rfl, (?_ : ax_X ax_Ms ax_Xs no_M_beginAll C K 99 [some (.ref 0), some (.int ck), some (.int z2), some (.int 1), some (.int (nI j)), z5] [] (mHb f n kn t (upd sn j 0) (mBg f n t ck j s)) 0 0)⟩
        exact ax_X.steps 1 (ih (upd sn j 0) (delB p j) (mBg f n t ck j s) _ z5 hp2 (by omega) (by show s.2.2 + 1 + _ ≤ 96; omega) hK)
