/-! The reference: want, walked. -/
def mHw (f : Nat → Int32) (n kn : Nat) (t : Nat → Nat → Int32) (b : Nat) (wd rs : Nat → Int32) : ax_H := mH f n kn (va_up (va_up t 10 wd) 13 rs) b
theorem wn_in {C : ax_O} (f : Nat → Int32) (n kn : Nat) (t : Nat → Nat → Int32) (b : Nat) (hn : n ≤ 24) (w : Int32) (rk tn : Nat → Nat) (hrk : rkP n (t 7) rk) (ht : tmP n (t 0) tn) (hw : wcl n (t 7) w) (wd : Nat → Int32) (hwd : ∀ c, c < n → wd c = bI (bt w c)) (K : ax_K) (rs0 : Nat → Int32) (a : Nat) (ha : a < n)
    (nxt : ∀ (rs : Nat → Int32) (z : Bool), rlx n (t 7) (t 0) w tn rs → (z = false → rs = rs0 ∧ (∀ d, d < a → ∀ e, e < n → bt w e = true → bt (t 7 e) d = true → rs0 e + t 0 d ≤ rs0 d) ∧ (∀ e, e < n → bt w e = true → bt (t 7 e) a = true → rs0 e + t 0 a ≤ rs0 a)) → (z = true → msr (t 7) (t 0) w n rs < msr (t 7) (t 0) w n rs0) → ax_X ax_Ms ax_Xs no_M_want C K 149 [some (.ref 0), some (.int (bI z)), some (.int (nI a)), some (.int (nI n))] [] (mHw f n kn t b wd rs) 0 0) :
    ∀ (k c : Nat) (x : Int32) (rs : Nat → Int32) (z : Bool), x = nI c → rlx n (t 7) (t 0) w tn rs → (z = false → rs = rs0 ∧ (∀ d, d < a → ∀ e, e < n → bt w e = true → bt (t 7 e) d = true → rs0 e + t 0 d ≤ rs0 d) ∧ (∀ e, e < c → bt w e = true → bt (t 7 e) a = true → rs0 e + t 0 a ≤ rs0 a)) → (z = true → msr (t 7) (t 0) w n rs < msr (t 7) (t 0) w n rs0) → c + k = n → ax_X ax_Ms ax_Xs no_M_want C K 99 [some (.ref 0), some (.int (bI z)), some (.int (nI a)), some (.int x)] [] (mHw f n kn t b wd rs) 0 0 := by
  intro k
  induction k with
  | zero =>
    intro c x rs z hx hr h4 h5 hk
    subst hx
    have hk : c = n := hk
    subst hk
    refine ax_X.steps 4 (ax_brT (nI_le (by omega) (by omega)) ?_)
    exact ax_X.steps 0 (nxt rs z hr h4 h5)
  | succ k ih =>
    intro c x rs z hx hr h4 h5 hk
    subst hx
    have st : ¬ wd c = 0 → ¬ (t 7 c >>> (nI a &&& 31)) &&& 1 = 0 → ¬ rs c + t 0 a ≤ rs a → rlx n (t 7) (t 0) w tn (upd rs a (rs c + t 0 a)) ∧ msr (t 7) (t 0) w n (upd rs a (rs c + t 0 a)) < msr (t 7) (t 0) w n rs := by
      intro q1 q2 q3
      refine rlx_step hn hrk ht hw hr ha (show c < n by omega) ?_ ?_ q3
      · cases e : bt w c
        · rw [hwd c (by omega), e] at q1; exact absurd rfl q1
        · rfl
      · cases e : bt (t 7 c) a
        · exact absurd ((b_rt0 (by omega)).mpr e) q2
        · rfl
    refine ax_X.steps 4 (ax_brF (nI_ge (by omega) (by omega)) ?_)
    refine ax_X.steps 4 ⟨c, ⟨by omega, by omega⟩, rfl, ?_⟩
    refine ax_X.steps 1 (ax_br2 (fun c107 => ?_) (fun c107 => ?_))
    · exact ax_X.steps 2 (ih (c + 1) _ rs z (nI_1 c) hr (fun q => ⟨(h4 q).1, (h4 q).2.1, fun e he q1 q2 => by
          by_cases ee : e = c
          · rw [ee, bI_0.mp ((hwd c (by omega)).symm.trans (show wd c = 0 from c107))] at q1; cases q1
          · exact (h4 q).2.2 e (by omega) q1 q2⟩) h5 (by omega))
    · refine ax_X.steps 4 ⟨c, ⟨by omega, by omega⟩, rfl, ?_⟩
      refine ax_X.steps 5 (ax_br2 (fun c116 => ?_) (fun c116 => ?_))
      · exact ax_X.steps 2 (ih (c + 1) _ rs z (nI_1 c) hr (fun q => ⟨(h4 q).1, (h4 q).2.1, fun e he q1 q2 => by
          by_cases ee : e = c
          · rw [ee, (b_rt0 (by omega)).mp (show (t 7 c >>> (nI a &&& 31)) &&& 1 = 0 from c116)] at q2; cases q2
          · exact (h4 q).2.2 e (by omega) q1 q2⟩) h5 (by omega))
      · refine ax_X.steps 4 ⟨c, ⟨by omega, by omega⟩, rfl, ?_⟩
        refine ax_X.steps 4 ⟨a, ⟨by omega, by omega⟩, rfl, ?_⟩
        refine ax_X.steps 5 ⟨a, ⟨by omega, by omega⟩, rfl, ?_⟩
        refine ax_X.steps 1 (ax_br2 (fun c130 => ?_) (fun c130 => ?_))
        · refine ax_X.steps 7 ⟨c, ⟨by omega, by omega⟩, rfl, ?_⟩
          refine ax_X.steps 4 ⟨a, ⟨by omega, by omega⟩, rfl, ?_⟩
          refine ax_X.steps 2 ⟨a, ⟨by omega, by omega⟩, rfl, (?_ : ax_X ax_Ms ax_Xs no_M_want C K 145 [some (.ref 0), some (.int (bI z)), some (.int (nI a)), some (.int (nI c))] [] (mHw f n kn t b wd (upd rs a (rs c + t 0 a))) 0 0)⟩
          exact ax_X.steps 4 (ih (c + 1) _ (upd rs a (rs c + t 0 a)) true (nI_1 c) (st c107 c116 (i_nle.mpr c130)).1 (fun q => by cases q) (fun _ => by have := (st c107 c116 (i_nle.mpr c130)).2; cases z with | false => rw [(h4 rfl).1] at this ⊢; exact this | true => have := h5 rfl; omega) (by omega))
        · exact ax_X.steps 3 (ih (c + 1) _ rs z (nI_1 c) hr (fun q => ⟨(h4 q).1, (h4 q).2.1, fun e he q1 q2 => by
          by_cases ee : e = c
          · rw [ee, ← (h4 q).1]; exact i_nlt.mp (show ¬ rs a < rs c + t 0 a from c130)
          · exact (h4 q).2.2 e (by omega) q1 q2⟩) h5 (by omega))
theorem wn_mid {C : ax_O} (f : Nat → Int32) (n kn : Nat) (t : Nat → Nat → Int32) (b : Nat) (hn : n ≤ 24) (w : Int32) (rk tn : Nat → Nat) (hrk : rkP n (t 7) rk) (ht : tmP n (t 0) tn) (hw : wcl n (t 7) w) (wd : Nat → Int32) (hwd : ∀ c, c < n → wd c = bI (bt w c)) (K : ax_K) (rs0 : Nat → Int32)
    (nxt : ∀ (rs : Nat → Int32) (z : Bool) (q2 q3 : Option Value), rlx n (t 7) (t 0) w tn rs → (z = false → rs = rs0 ∧ (∀ d, d < n → ∀ e, e < n → bt w e = true → bt (t 7 e) d = true → rs0 e + t 0 d ≤ rs0 d)) → (z = true → msr (t 7) (t 0) w n rs < msr (t 7) (t 0) w n rs0) → ax_X ax_Ms ax_Xs no_M_want C K 151 [some (.ref 0), some (.int (bI z)), q2, q3] [] (mHw f n kn t b wd rs) 0 0) :
    ∀ (k a : Nat) (x : Int32) (rs : Nat → Int32) (z : Bool) (q3 : Option Value), x = nI a → rlx n (t 7) (t 0) w tn rs → (z = false → rs = rs0 ∧ (∀ d, d < a → ∀ e, e < n → bt w e = true → bt (t 7 e) d = true → rs0 e + t 0 d ≤ rs0 d)) → (z = true → msr (t 7) (t 0) w n rs < msr (t 7) (t 0) w n rs0) → a + k = n → ax_X ax_Ms ax_Xs no_M_want C K 93 [some (.ref 0), some (.int (bI z)), some (.int x), q3] [] (mHw f n kn t b wd rs) 0 0 := by
  intro k
  induction k with
  | zero =>
    intro a x rs z q3 hx hr h4 h5 hk
    subst hx
    have hk : a = n := hk
    subst hk
    refine ax_X.steps 4 (ax_brT (nI_le (by omega) (by omega)) ?_)
    exact ax_X.steps 0 (nxt rs z _ _ hr h4 h5)
  | succ k ih =>
    intro a x rs z q3 hx hr h4 h5 hk
    subst hx
    have hin := wn_in (C := C) f n kn t b hn w rk tn hrk ht hw wd hwd K rs0 a (by omega) (fun rs z hr h4 h5 => ax_X.steps 2 (ih (a + 1) _ rs z _ (nI_1 a) hr (fun q => ⟨(h4 q).1, fun d hd => by
      by_cases e : d = a
      · rw [e]; exact (h4 q).2.2
      · exact (h4 q).2.1 d (by omega)⟩) h5 (by omega)))
    refine ax_X.steps 4 (ax_brF (nI_ge (by omega) (by omega)) ?_)
    exact ax_X.steps 2 (hin n 0 0 rs z rfl hr (fun q => ⟨(h4 q).1, (h4 q).2, fun e he => absurd he (Nat.not_lt_zero e)⟩) h5 (by omega))
theorem wn_out {C : ax_O} (f : Nat → Int32) (n kn : Nat) (t : Nat → Nat → Int32) (b : Nat) (hn : n ≤ 24) (w : Int32) (rk tn : Nat → Nat) (hrk : rkP n (t 7) rk) (ht : tmP n (t 0) tn) (hw : wcl n (t 7) w) (wd : Nat → Int32) (hwd : ∀ c, c < n → wd c = bI (bt w c)) (K : ax_K) (hK : (∀ rs, (∀ c, c < n → rs c = if bt w c = true then reN (t 7) (t 0) w n c else 0) → K none (mHw f n kn t b wd rs))) : ∀ (m : Nat) (rs : Nat → Int32) (q2 q3 : Option Value), msr (t 7) (t 0) w n rs = m → rlx n (t 7) (t 0) w tn rs → ax_X ax_Ms ax_Xs no_M_want C K 87 [some (.ref 0), some (.int 1), q2, q3] [] (mHw f n kn t b wd rs) 0 0 := by
  intro m
  induction m using Nat.strongRecOn with
  | ind m ihm =>
    intro rs q2 q3 hm hr
    have hmid := wn_mid (C := C) f n kn t b hn w rk tn hrk ht hw wd hwd K rs (fun rs' z q2 q3 hr' h4 h5 => by
      cases z
      · obtain ⟨rfl, h6⟩ := h4 rfl
        exact ax_X.steps 1 (ax_X.steps 2 (ax_brT rfl (ax_X.steps 1 (hK rs' (fun c hc => rlx_end hn hrk ht hw hr' h6 (rk c + 1) c hc (by omega))))))
      · exact ax_X.steps 1 (ihm _ (by rw [← hm]; exact h5 rfl) rs' q2 q3 rfl hr'))
    refine ax_X.steps 2 (ax_brF bI_n0 ?_)
    exact ax_X.steps 4 (hmid n 0 0 rs false q3 rfl hr (fun _ => ⟨rfl, fun d hd => absurd hd (Nat.not_lt_zero d)⟩) (fun q => by cases q) (by omega))
