/-! The reference: the whole run. -/
abbrev MS : Type := (Nat → Int32) × (Nat → Int32) × GS
def mHs (n kn : Nat) (t : Nat → Nat → Int32) (sn : Nat → Int32) (s : MS) : ax_H := mHb s.1 n kn (va_up t 21 s.2.1) sn s.2.2
noncomputable def mMd (n : Nat) (t : Nat → Nat → Int32) (ck : Int32) (s : MS) : MS := ((itN (mES n t ck) n (s.1, s.2.1, s.2.2.2.1)).1, (itN (mES n t ck) n (s.1, s.2.1, s.2.2.2.1)).2.1, s.2.2.1, mdR n (t 7) (t 11 1) (itN (mES n t ck) n (s.1, s.2.1, s.2.2.2.1)).2.2, s.2.2.2.2)
def mPd (n : Nat) (t : Nat → Nat → Int32) (s : MS) : Nat → Bool := rdM t s.2.2.2.1 n (tzM t s.2.2.2.1 n)
noncomputable def mSt (n : Nat) (t : Nat → Nat → Int32) (ck : Int32) (s : MS) : MS := (msF (mMd n t ck s).1 n t (mBL (mMd n t ck s).1 n t ck n (mPd n t (mMd n t ck s)) (mMd n t ck s).2.2).2.1, (mMd n t ck s).2.1, mBL (mMd n t ck s).1 n t ck n (mPd n t (mMd n t ck s)) (mMd n t ck s).2.2)
def mNe (n : Nat) (t : Nat → Nat → Int32) (s : MS) : Int32 := mnE (mT t s.2.2.2.1) n
noncomputable def mRn (n : Nat) (t : Nat → Nat → Int32) : Nat → Int32 → MS → MS
  | 0, _, s => s
  | k + 1, ck, s => if mNe n t (mSt n t ck s) < 0 then mSt n t ck s else mRn n t k (mNe n t (mSt n t ck s)) (mSt n t ck s)
def mOk (n : Nat) (t : Nat → Nat → Int32) : Nat → Int32 → MS → Prop
  | 0, _, _ => False
  | k + 1, ck, s => (∀ a, a < n → s.2.2.2.1 0 a = 7 → ∃ c, c < 100 ∧ s.2.1 a = nI c ∧ s.2.2.2.1 3 a = nI (c + 1)) ∧ (mMd n t ck s).2.2.2.2 + cntB (mPd n t (mMd n t ck s)) n ≤ 96 ∧ (¬ mNe n t (mSt n t ck s) < 0 → mOk n t k (mNe n t (mSt n t ck s)) (mSt n t ck s))
theorem mnE_mT {t t' r : Nat → Nat → Int32} : ∀ n, mnE (mT t r) n = mnE (mT t' r) n
  | 0 => rfl
  | n + 1 => by rw [mnE, mnE, mnE_mT (t := t) (t' := t') n]; rfl
theorem mES_t {n : Nat} {t : Nat → Nat → Int32} {ck : Int32} {bg ag sn : Nat → Int32} : mES n (va_up (va_up (va_up t 21 ag) 22 sn) 23 bg) ck = mES n t ck := rfl
theorem mbK_t {f : Nat → Int32} {n kn : Nat} {t : Nat → Nat → Int32} {ag : Nat → Int32} {ck : Int32} {s : GS} {z : Bool} : ∀ (k : Nat) (p : Nat → Bool) (s : GS), mBL f n (va_up t 21 ag) ck k p s = mBL f n t ck k p s
  | 0, p, s => rfl
  | k + 1, p, s => by
    rw [mBL, mBL]
    show (match fmN p (t 13) n with
      | none => s
      | some a => if mfB f n (mT (va_up t 21 ag) s.2.1) a = true then mBL f n (va_up t 21 ag) ck k (delB p a) (mBg f n (va_up t 21 ag) ck a s) else if t 11 2 = 0 then s else mBL f n (va_up t 21 ag) ck k (delB p a) s) = _
    cases fmN p (t 13) n with
    | none => rfl
    | some a =>
      dsimp only
      rw [mbK_t (kn := kn) (s := s) (z := z) k, mbK_t (kn := kn) (s := s) (z := z) k]
      rfl
def mRk (n kn : Nat) (t : Nat → Nat → Int32) (s : MS) : ax_K := fun x h' => x = some (.int (s.1 5)) ∧ ∃ sn : Nat → Int32, h' = mHs n kn t sn (s.1, s.2.1, s.2.2.1, va_up s.2.2.2.1 0 (stF n (s.2.2.2.1 0)), s.2.2.2.2)
theorem mrun_loop {C : ax_O} (h2 : Sp_M_endAll C) (h3 : Sp_M_skipAll C) (h4 : Sp_M_isSpoilt C) (h5 : Sp_M_stopAll C) (h6 : Sp_M_beginAll C) (h7 : Sp_M_nextEnd C) (n kn : Nat) (t : Nat → Nat → Int32) (hn : n ≤ 24) (hq : ∀ a, a < n → ∃ q, q < 4 ∧ t 6 a = nI q) (e : MS) (K : ax_K) (hKK : ∀ x h', mRk n kn t e x h' → K x h') : ∀ (k : Nat) (ck : Int32) (sn : Nat → Int32) (s : MS), ¬ ck < 0 → mOk n t k ck s → mRn n t k ck s = e → ax_X ax_Ms ax_Xs no_M_run C K 10 [some (.ref 0), some (.int ck)] [] (mHs n kn t sn s) 0 0 := by
  have fin : ∀ (ck : Int32) (sn : Nat → Int32), ax_X ax_Ms ax_Xs no_M_run C K 34 [some (.ref 0), some (.int ck)] [] (mHs n kn t sn e) 0 0 := by
    intro ck sn
    refine ax_X.steps 2 (ax_gov ((show C no_M_stopAll [.ref 0] (mHs n kn t sn e) (ax_is none (mHs n kn t sn (e.1, e.2.1, e.2.2.1, va_up e.2.2.2.1 0 (stF n (e.2.2.2.1 0)), e.2.2.2.2))) from h5 e.1 n kn (mT (va_up (va_up (va_up t 21 e.2.1) 22 sn) 23 e.2.2.1) e.2.2.2.1) e.2.2.2.2 hn)) ?_)
    exact ax_X.steps 3 ⟨Or.inl rfl, hKK _ _ ⟨rfl, sn, rfl⟩⟩
  intro k
  induction k with
  | zero => intro ck sn s hc hok; exact False.elim hok
  | succ k ih =>
    intro ck sn s hc hok he
    obtain ⟨ha, hb, hnx⟩ := hok
    rw [mRn] at he
    have begin : ∀ sn, ax_X ax_Ms ax_Xs no_M_run C K 27 [some (.ref 0), some (.int ck)] [] (mHs n kn t sn (mMd n t ck s)) 0 0 := by
      intro sn
      have hbA := h6 (mMd n t ck s).1 n kn (va_up t 21 (mMd n t ck s).2.1) sn (mMd n t ck s).2.2 ck hn hb
      refine ax_X.steps 3 (ax_goPv hbA (fun h' hz => ?_))
      obtain ⟨-, sn2, hh⟩ := hz
      rw [mbK_t (kn := kn) (s := (mMd n t ck s).2.2) (z := true)] at hh
      have hh : h' = mHs n kn t sn2 (mSt n t ck s) := hh
      subst hh
      have hne := h7 (mSt n t ck s).1 n kn (mT (va_up (va_up (va_up t 21 (mSt n t ck s).2.1) 22 sn2) 23 (mSt n t ck s).2.2.1) (mSt n t ck s).2.2.2.1) (mSt n t ck s).2.2.2.2 hn
      rw [mnE_mT (t := va_up (va_up (va_up t 21 (mSt n t ck s).2.1) 22 sn2) 23 (mSt n t ck s).2.2.1) (t' := t)] at hne
      have hne : C no_M_nextEnd [.ref 0] (mHs n kn t sn2 (mSt n t ck s)) (ax_is (some (.int (mNe n t (mSt n t ck s)))) (mHs n kn t sn2 (mSt n t ck s))) := hne
      refine ax_X.steps 2 (ax_go hne ?_)
      by_cases hlt : mNe n t (mSt n t ck s) < 0
      · rw [if_pos hlt] at he
        rw [he] at hlt ⊢
        exact ax_X.steps 2 (ax_X.steps 2 (ax_brT hlt (fin _ sn2)))
      · rw [if_neg hlt] at he
        exact ax_X.steps 2 (ih _ sn2 _ hlt (hnx hlt) he)
    refine ax_X.steps 2 (ax_brF (hc) ?_)
    refine ax_X.steps 3 (ax_gov ((show C no_M_endAll [.ref 0, .int ck] (mHs n kn t sn s) (ax_is none (mHs n kn t sn ((itN (mES n t ck) n (s.1, s.2.1, s.2.2.2.1)).1, (itN (mES n t ck) n (s.1, s.2.1, s.2.2.2.1)).2.1, s.2.2.1, (itN (mES n t ck) n (s.1, s.2.1, s.2.2.2.1)).2.2, s.2.2.2.2))) from by have := h2 s.1 n kn (va_up (va_up (va_up t 21 s.2.1) 22 sn) 23 s.2.2.1) s.2.2.2.2 s.2.1 s.2.2.2.1 ck hn hq ha; exact this)) ?_)
    refine ax_X.steps 2 (ax_goPv (h3 (itN (mES n t ck) n (s.1, s.2.1, s.2.2.2.1)).1 n kn (mT (va_up (va_up (va_up t 21 (itN (mES n t ck) n (s.1, s.2.1, s.2.2.2.1)).2.1) 22 sn) 23 s.2.2.1) (itN (mES n t ck) n (s.1, s.2.1, s.2.2.2.1)).2.2) s.2.2.2.2 hn) (fun h' hz => ?_))
    obtain ⟨-, g, hg, rfl⟩ := hz
    have hg := skF_eq hg
    subst hg
    refine ax_X.steps 4 ⟨1, ⟨by omega, by omega⟩, rfl, ?_⟩
    refine ax_X.steps 1 (ax_br2 (fun c21 => ?_) (fun c21 => ?_))
    · exact ax_X.steps 0 (by have hx := begin sn; rw [show mMd n t ck s = _ from congrArg (fun z => ((itN (mES n t ck) n (s.1, s.2.1, s.2.2.2.1)).1, (itN (mES n t ck) n (s.1, s.2.1, s.2.2.2.1)).2.1, s.2.2.1, z, s.2.2.2.2)) (show mdR n (t 7) (t 11 1) (itN (mES n t ck) n (s.1, s.2.1, s.2.2.2.1)).2.2 = va_up (itN (mES n t ck) n (s.1, s.2.1, s.2.2.2.1)).2.2 0 (skF n (t 7) ((itN (mES n t ck) n (s.1, s.2.1, s.2.2.2.1)).2.2 0)) from by unfold mdR; rw [decide_eq_true (show t 11 1 = 0 from c21), Bool.not_true, Bool.false_and, if_neg (by decide)])] at hx; exact hx)
    · refine ax_X.steps 2 (ax_go ((show C no_M_isSpoilt [.ref 0] (mHs n kn t sn ((itN (mES n t ck) n (s.1, s.2.1, s.2.2.2.1)).1, (itN (mES n t ck) n (s.1, s.2.1, s.2.2.2.1)).2.1, s.2.2.1, va_up (itN (mES n t ck) n (s.1, s.2.1, s.2.2.2.1)).2.2 0 (skF n (t 7) ((itN (mES n t ck) n (s.1, s.2.1, s.2.2.2.1)).2.2 0)), s.2.2.2.2)) (ax_is (some (.int (bI (anyB (badB (skF n (t 7) ((itN (mES n t ck) n (s.1, s.2.1, s.2.2.2.1)).2.2 0))) n)))) (mHs n kn t sn ((itN (mES n t ck) n (s.1, s.2.1, s.2.2.2.1)).1, (itN (mES n t ck) n (s.1, s.2.1, s.2.2.2.1)).2.1, s.2.2.1, va_up (itN (mES n t ck) n (s.1, s.2.1, s.2.2.2.1)).2.2 0 (skF n (t 7) ((itN (mES n t ck) n (s.1, s.2.1, s.2.2.2.1)).2.2 0)), s.2.2.2.2))) from h4 (itN (mES n t ck) n (s.1, s.2.1, s.2.2.2.1)).1 n kn (mT (va_up (va_up (va_up t 21 (itN (mES n t ck) n (s.1, s.2.1, s.2.2.2.1)).2.1) 22 sn) 23 s.2.2.1) (va_up (itN (mES n t ck) n (s.1, s.2.1, s.2.2.2.1)).2.2 0 (skF n (t 7) ((itN (mES n t ck) n (s.1, s.2.1, s.2.2.2.1)).2.2 0)))) s.2.2.2.2 hn)) ?_)
      refine ax_X.steps 1 (ax_br2 (fun c24 => ?_) (fun c24 => ?_))
      · exact ax_X.steps 0 (by have hx := begin sn; rw [show mMd n t ck s = _ from congrArg (fun z => ((itN (mES n t ck) n (s.1, s.2.1, s.2.2.2.1)).1, (itN (mES n t ck) n (s.1, s.2.1, s.2.2.2.1)).2.1, s.2.2.1, z, s.2.2.2.2)) (show mdR n (t 7) (t 11 1) (itN (mES n t ck) n (s.1, s.2.1, s.2.2.2.1)).2.2 = va_up (itN (mES n t ck) n (s.1, s.2.1, s.2.2.2.1)).2.2 0 (skF n (t 7) ((itN (mES n t ck) n (s.1, s.2.1, s.2.2.2.1)).2.2 0)) from by unfold mdR; rw [show anyB (badB (skF n (t 7) ((itN (mES n t ck) n (s.1, s.2.1, s.2.2.2.1)).2.2 0))) n = false from bI_0.mp c24, Bool.and_false, if_neg (by decide)])] at hx; exact hx)
      · refine ax_X.steps 2 (ax_gov ((show C no_M_stopAll [.ref 0] (mHs n kn t sn ((itN (mES n t ck) n (s.1, s.2.1, s.2.2.2.1)).1, (itN (mES n t ck) n (s.1, s.2.1, s.2.2.2.1)).2.1, s.2.2.1, va_up (itN (mES n t ck) n (s.1, s.2.1, s.2.2.2.1)).2.2 0 (skF n (t 7) ((itN (mES n t ck) n (s.1, s.2.1, s.2.2.2.1)).2.2 0)), s.2.2.2.2)) (ax_is none (mHs n kn t sn ((itN (mES n t ck) n (s.1, s.2.1, s.2.2.2.1)).1, (itN (mES n t ck) n (s.1, s.2.1, s.2.2.2.1)).2.1, s.2.2.1, va_up (itN (mES n t ck) n (s.1, s.2.1, s.2.2.2.1)).2.2 0 (stF n (skF n (t 7) ((itN (mES n t ck) n (s.1, s.2.1, s.2.2.2.1)).2.2 0))), s.2.2.2.2))) from h5 (itN (mES n t ck) n (s.1, s.2.1, s.2.2.2.1)).1 n kn (mT (va_up (va_up (va_up t 21 (itN (mES n t ck) n (s.1, s.2.1, s.2.2.2.1)).2.1) 22 sn) 23 s.2.2.1) (va_up (itN (mES n t ck) n (s.1, s.2.1, s.2.2.2.1)).2.2 0 (skF n (t 7) ((itN (mES n t ck) n (s.1, s.2.1, s.2.2.2.1)).2.2 0)))) s.2.2.2.2 hn)) ?_)
        exact ax_X.steps 0 (by have hx := begin sn; rw [show mMd n t ck s = _ from congrArg (fun z => ((itN (mES n t ck) n (s.1, s.2.1, s.2.2.2.1)).1, (itN (mES n t ck) n (s.1, s.2.1, s.2.2.2.1)).2.1, s.2.2.1, z, s.2.2.2.2)) (show mdR n (t 7) (t 11 1) (itN (mES n t ck) n (s.1, s.2.1, s.2.2.2.1)).2.2 = va_up (itN (mES n t ck) n (s.1, s.2.1, s.2.2.2.1)).2.2 0 (stF n (skF n (t 7) ((itN (mES n t ck) n (s.1, s.2.1, s.2.2.2.1)).2.2 0))) from by unfold mdR; rw [decide_eq_false (show ¬ t 11 1 = 0 from c21), show anyB (badB (skF n (t 7) ((itN (mES n t ck) n (s.1, s.2.1, s.2.2.2.1)).2.2 0))) n = true from (by cases z : anyB (badB (skF n (t 7) ((itN (mES n t ck) n (s.1, s.2.1, s.2.2.2.1)).2.2 0))) n with | false => exact absurd (congrArg bI z) c24 | true => rfl)]; rfl)] at hx; exact hx)
def frM (f : Nat → Int32) : Nat → Int32 := va_up (frF f) 6 1
def Sp_M_run (C : ax_O) : Prop := ∀ (f : Nat → Int32) (n kn : Nat) (t : Nat → Nat → Int32) (b : Nat) (r : Nat → Nat → Int32) (dp : Nat → Int32) (rk tn : Nat → Nat) (k : Nat), n ≤ 24 → rkP n (t 7) rk → tmP n (t 0) tn → (∀ a, a < n → allP n (t 7) a (dp a)) → (∀ c, n ≤ c → c < 24 → bt (wtG (t 9) dp n) c = false) → (∀ a, a < n → ∃ q, q < 4 ∧ t 6 a = nI q) →
  (∀ wd rs : Nat → Int32, (∀ c, c < n → wd c = bI (bt (wtG (t 9) dp n) c)) → (∀ c, c < n → rs c = if bt (wtG (t 9) dp n) c = true then reN (t 7) (t 0) (wtG (t 9) dp n) n c else 0) → mOk n (va_up (va_up t 10 wd) 13 rs) k 0 (frM f, itN (fun a g => upd g a 0) 24 (t 21), t 23, itN (fun a r => fillR r a (inV f t (wtG (t 9) dp n) a)) 24 r, 0)) →
  C no_M_run [.ref 0] (mH f n kn (mT t r) b) (fun x h' => ∃ wd rs : Nat → Int32, (∀ c, c < n → wd c = bI (bt (wtG (t 9) dp n) c)) ∧ (∀ c, c < n → rs c = if bt (wtG (t 9) dp n) c = true then reN (t 7) (t 0) (wtG (t 9) dp n) n c else 0) ∧ mRk n n (va_up (va_up t 10 wd) 13 rs) (mRn n (va_up (va_up t 10 wd) 13 rs) k 0 (frM f, itN (fun a g => upd g a 0) 24 (t 21), t 23, itN (fun a r => fillR r a (inV f t (wtG (t 9) dp n) a)) 24 r, 0)) x h')
theorem p_M_run {C : ax_O} (h1 : Sp_M_fresh C) (h2 : Sp_M_endAll C) (h3 : Sp_M_skipAll C) (h4 : Sp_M_isSpoilt C) (h5 : Sp_M_stopAll C) (h6 : Sp_M_beginAll C) (h7 : Sp_M_nextEnd C) : Sp_M_run (ax_B ax_Ms ax_Xs C) := by
  intro f n kn t b r dp rk tn k hn hrk ht hdp hwn hq hok
  generalize hR : itN (fun a r => fillR r a (inV f t (wtG (t 9) dp n) a)) 24 r = R0 at hok ⊢
  generalize hG : itN (fun a g => upd g a 0) 24 (t 21) = G0 at hok ⊢
  refine ax_X.steps 3 ⟨Or.inl rfl, (?_ : ax_X ax_Ms ax_Xs no_M_run C _ 3 [some (.ref 0), none] [] (mH f n kn (mT t r) b) 0 0)⟩
  refine ax_X.steps 2 (ax_goPv (h1 f n kn t b r dp rk tn hn hrk ht hdp hwn) (fun h' hz => ?_))
  obtain ⟨-, wd, rs, q1, q2, hh⟩ := hz
  rw [hR, hG] at hh
  subst hh
  refine ax_X.steps 3 ⟨Or.inr ⟨rfl, Or.inr rfl⟩, (?_ : ax_X ax_Ms ax_Xs no_M_run C _ 8 [some (.ref 0), none] [] (mHs n n (va_up (va_up t 10 wd) 13 rs) (t 22) (frM f, G0, t 23, R0, 0)) 0 0)⟩
  exact ax_X.steps 2 (mrun_loop h2 h3 h4 h5 h6 h7 n n (va_up (va_up t 10 wd) 13 rs) hn hq _ _ (fun x h' hx => ⟨wd, rs, q1, q2, hx⟩) k 0 (t 22) (frM f, G0, t 23, R0, 0) (by decide) (hok wd rs q1 q2) rfl)
