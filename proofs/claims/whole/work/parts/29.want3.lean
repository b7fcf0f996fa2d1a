/-! The reference: want, the whole; rest. -/
theorem wt_s {ws dp : Nat → Int32} {a : Nat} (h : ¬ ws a = 0) (i : Nat) (hi : i < 32) : bt (wtG ws dp (a + 1)) i = (bt (wtG ws dp a) i || bt (dp a ||| sB a) i) := by
  rw [wtG, if_neg h, b_or, b_or, b_or, Bool.or_comm (bt (sB a) i)]
theorem wt_0 {ws dp : Nat → Int32} {a : Nat} (h : ws a = 0) : wtG ws dp (a + 1) = wtG ws dp a := if_pos h
theorem wt_iff {ws dp : Nat → Int32} : ∀ {n i : Nat}, i < 32 → n ≤ 32 → (bt (wtG ws dp n) i = true ↔ ∃ a, a < n ∧ ¬ ws a = 0 ∧ (i = a ∨ bt (dp a) i = true))
  | 0, i, hi, _ => ⟨fun h => (by rw [wtG, b_0] at h; cases h), fun ⟨a, h, _⟩ => absurd h (Nat.not_lt_zero a)⟩
  | n + 1, i, hi, hn => by
    have ih := wt_iff (ws := ws) (dp := dp) (n := n) hi (by omega)
    by_cases h : ws n = 0
    · rw [wt_0 h, ih]
      constructor
      · rintro ⟨a, h1, h2⟩; exact ⟨a, by omega, h2⟩
      · rintro ⟨a, h1, h2, h3⟩
        by_cases e : a = n
        · subst e; exact absurd h h2
        · exact ⟨a, by omega, h2, h3⟩
    · rw [wt_s h i hi, Bool.or_eq_true, ih, b_add (by omega) hi, Bool.or_eq_true, decide_eq_true_iff]
      constructor
      · rintro (⟨a, h1, h2⟩ | h1)
        · exact ⟨a, by omega, h2⟩
        · exact ⟨n, by omega, h, h1.symm⟩
      · rintro ⟨a, h1, h2, h3⟩
        by_cases e : a = n
        · subst e; exact Or.inr h3.symm
        · exact Or.inl ⟨a, by omega, h2, h3⟩
/-- what is wanted is closed -/
theorem wt_cl {n : Nat} {nd ws dp : Nat → Int32} (hn : n ≤ 24) (hdp : ∀ a, a < n → allP n nd a (dp a)) : wcl n nd (wtG ws dp n) := by
  intro c hc hb a ha hb2
  obtain ⟨d, h1, h2, h3⟩ := (wt_iff (by omega) (by omega)).mp hb
  refine (wt_iff (by omega) (by omega)).mpr ⟨d, h1, h2, Or.inr ?_⟩
  rcases h3 with h3 | h3
  · subst h3
    exact (hdp c hc).1 a (by omega) hb2
  · exact (hdp d h1).2.1 c hc h3 a (by omega) hb2
theorem wn_rs {C : ax_O} (f : Nat → Int32) (n kn : Nat) (t : Nat → Nat → Int32) (b : Nat) (hn : n ≤ 24) (w : Int32) (rk tn : Nat → Nat) (hrk : rkP n (t 7) rk) (ht : tmP n (t 0) tn) (hw : wcl n (t 7) w) (wd : Nat → Int32) (hwd : ∀ c, c < n → wd c = bI (bt w c)) (K : ax_K) (hK : (∀ rs, (∀ c, c < n → rs c = if bt w c = true then reN (t 7) (t 0) w n c else 0) → K none (mHw f n kn t b wd rs))) (rs : Nat → Int32) (q1 q2 q3 : Option Value) : ax_X ax_Ms ax_Xs no_M_want C K 62 [some (.ref 0), q1, q2, q3] [] (mHw f n kn t b wd rs) 0 0 := by
  have loop : ∀ (k a : Nat) (x : Int32) (rs : Nat → Int32), x = nI a → (∀ c, c < a → rs c = if bt w c = true then t 0 c else 0) → a + k = n → ax_X ax_Ms ax_Xs no_M_want C (K) 64 [some (.ref 0), some (.int x), q2, q3] [] (mHw f n kn t b wd rs) 0 0 := by
    intro k
    induction k with
    | zero =>
      intro a x rs hx hr hk
      subst hx
      have hk : a = n := hk
      subst hk
      refine ax_X.steps 4 (ax_brT (nI_le (by omega) (by omega)) ?_)
      exact ax_X.steps 2 (wn_out f a kn t b hn w rk tn hrk ht hw wd hwd K hK _ rs _ _ rfl (fun c hc => by
        have g := reX_is (w := w) hn hrk ht hc
        have g2 := ht c hc
        by_cases q : bt w c = true
        · refine ⟨tn c, by rw [hr c hc, if_pos q]; exact g2.2, ?_, fun _ => Nat.le_refl _⟩
          unfold goX
          rw [if_pos q]
          rcases g.2 with g3 | ⟨d, _, _, _, g3⟩ <;> omega
        · exact ⟨0, by rw [hr c hc, if_neg q]; rfl, Nat.zero_le _, fun h => absurd h q⟩))
    | succ k ih =>
      intro a x rs hx hr hk
      subst hx
      refine ax_X.steps 4 (ax_brF (nI_ge (by omega) (by omega)) ?_)
      refine ax_X.steps 7 ⟨a, ⟨by omega, by omega⟩, rfl, ?_⟩
      refine ax_X.steps 1 (ax_br2 (fun c75 => ?_) (fun c75 => ?_))
      · refine ax_X.steps 2 ⟨a, ⟨by omega, by omega⟩, rfl, ?_⟩
        exact ax_X.steps 2 (ih (a + 1) _ (upd rs a 0) (nI_1 a) (fun c hc => by
          by_cases e : c = a
          · rw [e, pk_us, if_neg (by rw [bI_0.mp ((hwd a (by omega)).symm.trans (show wd a = 0 from c75))]; decide)]
          · rw [pk_un e]; exact hr c (by omega)) (by omega))
      · refine ax_X.steps 4 ⟨a, ⟨by omega, by omega⟩, rfl, ?_⟩
        refine ax_X.steps 2 ⟨a, ⟨by omega, by omega⟩, rfl, ?_⟩
        exact ax_X.steps 2 (ih (a + 1) _ (upd rs a (t 0 a)) (nI_1 a) (fun c hc => by
          by_cases e : c = a
          · rw [e, pk_us, if_pos (by cases q : bt w a with | false => exact absurd ((hwd a (by omega)).trans (by rw [q]; rfl)) c75 | true => rfl)]
          · rw [pk_un e]; exact hr c (by omega)) (by omega))
  exact ax_X.steps 2 (loop n 0 0 rs rfl (fun c hc => absurd hc (Nat.not_lt_zero c)) (by omega))
def Sp_M_want (C : ax_O) : Prop := ∀ (f : Nat → Int32) (n kn : Nat) (t : Nat → Nat → Int32) (b : Nat) (dp : Nat → Int32) (rk tn : Nat → Nat), n ≤ 24 → rkP n (t 7) rk → tmP n (t 0) tn → (∀ a, a < n → allP n (t 7) a (dp a)) → C no_M_want [.ref 0] (mH f n kn t b) (fun x h' => x = none ∧ ∃ wd rs : Nat → Int32, (∀ c, c < n → wd c = bI (bt (wtG (t 9) dp n) c)) ∧ (∀ c, c < n → rs c = if bt (wtG (t 9) dp n) c = true then reN (t 7) (t 0) (wtG (t 9) dp n) n c else 0) ∧ h' = mHw f n kn t b wd rs)
theorem wn_set {C : ax_O} (f : Nat → Int32) (n kn : Nat) (t : Nat → Nat → Int32) (b : Nat) (hn : n ≤ 24) (dp : Nat → Int32) (K : ax_K) (a : Nat) (ha : a < n) (hs : ¬ t 9 a = 0) (rs : Nat → Int32) (nxt : ∀ (wd : Nat → Int32) (q2 q3 : Option Value), (∀ c, c < n → wd c = bI (bt (wtG (t 9) dp (a + 1)) c)) → ax_X ax_Ms ax_Xs no_M_want C K 60 [some (.ref 0), some (.int (nI a)), q2, q3] [] (mHw f n kn t b wd rs) 0 0) (wd0 : Nat → Int32) (h0 : ∀ c, c < n → wd0 c = bI (bt (wtG (t 9) dp a) c)) (q3 : Option Value) : ax_X ax_Ms ax_Xs no_M_want C K 33 [some (.ref 0), some (.int (nI a)), some (.int (dp a ||| sB a)), q3] [] (mHw f n kn t b wd0 rs) 0 0 := by
  have inner : ∀ (k c : Nat) (x : Int32) (wd : Nat → Int32), x = nI c → (∀ d, d < c → wd d = bI (bt (wtG (t 9) dp (a + 1)) d)) → (∀ d, c ≤ d → d < n → wd d = bI (bt (wtG (t 9) dp a) d)) → c + k = n → ax_X ax_Ms ax_Xs no_M_want C K 35 [some (.ref 0), some (.int (nI a)), some (.int (dp a ||| sB a)), some (.int x)] [] (mHw f n kn t b wd rs) 0 0 := by
    intro k
    induction k with
    | zero =>
      intro c x wd hx h1 h2 hk
      subst hx
      have hk : c = n := hk
      subst hk
      refine ax_X.steps 4 (ax_brT (nI_le (by omega) (by omega)) ?_)
      exact ax_X.steps 0 (nxt wd _ _ h1)
    | succ k ih =>
      intro c x wd hx h1 h2 hk
      subst hx
      have hc := h2 c (Nat.le_refl c) (by omega)
      have key : ∀ v : Bool, v = bt (wtG (t 9) dp (a + 1)) c → ax_X ax_Ms ax_Xs no_M_want C K 58 [some (.ref 0), some (.int (nI a)), some (.int (dp a ||| sB a)), some (.int (nI c))] [] (mHw f n kn t b (upd wd c (bI v &&& 1)) rs) 0 0 := by
        intro v hv
        refine ax_X.steps 2 (ih (c + 1) _ (upd wd c (bI v &&& 1)) (nI_1 c) (fun d hd => ?_) (fun d hd hd2 => ?_) (by omega))
        · by_cases e : d = c
          · rw [e, pk_us, bI_and1, hv]
          · rw [pk_un e]; exact h1 d (by omega)
        · rw [pk_un (by omega)]; exact h2 d (by omega) hd2
      have hsp := wt_s (dp := dp) hs c (by omega)
      refine ax_X.steps 4 (ax_brF (nI_ge (by omega) (by omega)) ?_)
      refine ax_X.steps 7 ⟨c, ⟨by omega, by omega⟩, rfl, ?_⟩
      refine ax_X.steps 1 (ax_br2 (fun c46 => ?_) (fun c46 => ?_))
      · refine ax_X.steps 3 ⟨c, ⟨by omega, by omega⟩, rfl, ?_⟩
        exact ax_X.steps 0 (key true (by rw [hsp, show bt (wtG (t 9) dp a) c = true from (by cases q : bt (wtG (t 9) dp a) c with | false => exact absurd (hc.trans (by rw [q]; rfl)) c46 | true => rfl)]; rfl))
      · refine ax_X.steps 7 (ax_br2 (fun c53 => ?_) (fun c53 => ?_))
        · refine ax_X.steps 2 ⟨c, ⟨by omega, by omega⟩, rfl, ?_⟩
          exact ax_X.steps 0 (key false (by rw [hsp, bI_0.mp (hc.symm.trans (nn c46)), show bt (dp a ||| sB a) c = false from Bool.eq_false_iff.mpr (fun q => c53 ((b_rt1 (by omega)).mpr q))]; rfl))
        · refine ax_X.steps 3 ⟨c, ⟨by omega, by omega⟩, rfl, ?_⟩
          exact ax_X.steps 0 (key true (by rw [hsp, (b_rt1 (by omega)).mp (nn c53), Bool.or_true]))
  exact ax_X.steps 2 (inner n 0 0 wd0 rfl (fun d hd => absurd hd (Nat.not_lt_zero d)) (fun d _ hd => h0 d hd) (by omega))
theorem p_M_want {C : ax_O} (hA : Sp_M_all C) : Sp_M_want (ax_B ax_Ms ax_Xs C) := by
  intro f n kn t b dp rk tn hn hrk ht hdp
  generalize hK0 : (fun x h' => x = none ∧ ∃ wd rs : Nat → Int32, (∀ c, c < n → wd c = bI (bt (wtG (t 9) dp n) c)) ∧ (∀ c, c < n → rs c = if bt (wtG (t 9) dp n) c = true then reN (t 7) (t 0) (wtG (t 9) dp n) n c else 0) ∧ h' = mHw f n kn t b wd rs) = K
  have hK : ∀ wd : Nat → Int32, (∀ c, c < n → wd c = bI (bt (wtG (t 9) dp n) c)) → ∀ rs : Nat → Int32, (∀ c, c < n → rs c = if bt (wtG (t 9) dp n) c = true then reN (t 7) (t 0) (wtG (t 9) dp n) n c else 0) → K none (mHw f n kn t b wd rs) := by
    intro wd h1 rs h2
    rw [← hK0]
    exact ⟨rfl, wd, rs, h1, h2, rfl⟩
  have set : ∀ (k a : Nat) (x : Int32) (wd : Nat → Int32) (q2 q3 : Option Value), x = nI a → (∀ c, c < n → wd c = bI (bt (wtG (t 9) dp a) c)) → a + k = n → ax_X ax_Ms ax_Xs no_M_want C K 15 [some (.ref 0), some (.int x), q2, q3] [] (mHw f n kn t b wd (t 13)) 0 0 := by
    intro k
    induction k with
    | zero =>
      intro a x wd q2 q3 hx h1 hk
      subst hx
      have hk : a = n := hk
      subst hk
      refine ax_X.steps 4 (ax_brT (nI_le (by omega) (by omega)) ?_)
      exact ax_X.steps 0 (wn_rs f a kn t b hn (wtG (t 9) dp a) rk tn hrk ht (wt_cl hn hdp) wd h1 K (hK wd h1) (t 13) _ _ _)
    | succ k ih =>
      intro a x wd q2 q3 hx h1 hk
      subst hx
      refine ax_X.steps 4 (ax_brF (nI_ge (by omega) (by omega)) ?_)
      refine ax_X.steps 4 ⟨a, ⟨by omega, by omega⟩, rfl, ?_⟩
      refine ax_X.steps 1 (ax_br2 (fun c23 => ?_) (fun c23 => ?_))
      · refine ax_X.steps 3 (ax_goP (hA f n kn (va_up (va_up t 10 wd) 13 (t 13)) b a hn (by omega)) (fun z h' hz => ?_))
        obtain ⟨v2, hv2, hz1, rfl⟩ := hz
        cases hz1
        have ev := allP_one hv2 (hdp a (by omega))
        subst ev
        exact ax_X.steps 5 (wn_set f n kn t b hn dp K a (by omega) c23 (t 13) (fun wd q2 q3 h1 => ax_X.steps 2 (ih (a + 1) _ wd q2 q3 (nI_1 a) h1 (by omega))) wd h1 q3)
      · refine ax_X.steps 1 ?_
        exact ax_X.steps 2 (ih (a + 1) _ wd _ _ (nI_1 a) (fun c hc => by rw [wt_0 (show t 9 a = 0 from nn c23)]; exact h1 c hc) (by omega))
  have clear : ∀ (k a : Nat) (x : Int32) (wd : Nat → Int32), x = nI a → (∀ c, c < a → wd c = 0) → a + k = n → ax_X ax_Ms ax_Xs no_M_want C K 2 [some (.ref 0), some (.int x), none, none] [] (mHw f n kn t b wd (t 13)) 0 0 := by
    intro k
    induction k with
    | zero =>
      intro a x wd hx h1 hk
      subst hx
      have hk : a = n := hk
      subst hk
      refine ax_X.steps 4 (ax_brT (nI_le (by omega) (by omega)) ?_)
      exact ax_X.steps 2 (set a 0 0 wd _ _ rfl (fun c hc => by rw [h1 c hc, wtG, b_0]; rfl) (by omega))
    | succ k ih =>
      intro a x wd hx h1 hk
      subst hx
      refine ax_X.steps 4 (ax_brF (nI_ge (by omega) (by omega)) ?_)
      refine ax_X.steps 5 ⟨a, ⟨by omega, by omega⟩, rfl, ?_⟩
      exact ax_X.steps 2 (ih (a + 1) _ (upd wd a 0) (nI_1 a) (fun c hc => by
        by_cases e : c = a
        · rw [e, pk_us]
        · rw [pk_un e]; exact h1 c (by omega)) (by omega))
  exact ax_X.steps 2 (clear n 0 0 (t 10) rfl (fun c hc => absurd hc (Nat.not_lt_zero c)) (by omega))
def Sp_M_rest_n (C : ax_O) : Prop := ∀ (f : Nat → Int32) (n kn : Nat) (t : Nat → Nat → Int32) (b : Nat) (x : Int32), n ≤ 24 → hasB n x = false → C no_M_rest [.ref 0, .int x] (mH f n kn t b) (ax_is (some (.int 0)) (mH f n kn t b))
theorem p_M_rest_n {C : ax_O} (hH : Sp_M_isAction C) : Sp_M_rest_n (ax_B ax_Ms ax_Xs C) := by
  intro f n kn t b x hn hx
  refine ax_X.steps 3 ⟨Or.inl rfl, ?_⟩
  refine ax_X.steps 3 (ax_go (hH _ _ _ _ _ _ false hn hx) ?_)
  refine ax_X.steps 1 (ax_brF (fun q => q rfl) ?_)
  exact ax_X.steps 2 ⟨Or.inl rfl, rfl, rfl⟩
def Sp_M_rest_1 (C : ax_O) : Prop := ∀ (f : Nat → Int32) (n kn : Nat) (t : Nat → Nat → Int32) (b : Nat) (dp : Nat → Int32) (rk tn : Nat → Nat) (k : Nat), n ≤ 24 → rkP n (t 7) rk → tmP n (t 0) tn → (∀ a, a < n → allP n (t 7) a (dp a)) → k < n → C no_M_rest [.ref 0, .int (nI k)] (mH f n kn t b) (fun x h' => x = some (.int (if bt (wtG (t 9) dp n) k = true then reN (t 7) (t 0) (wtG (t 9) dp n) n k else 0)) ∧ ∃ wd rs : Nat → Int32, h' = mHw f n kn t b wd rs)
theorem p_M_rest_1 {C : ax_O} (hH : Sp_M_isAction C) (hW : Sp_M_want C) : Sp_M_rest_1 (ax_B ax_Ms ax_Xs C) := by
  intro f n kn t b dp rk tn k hn hrk ht hdp hk
  refine ax_X.steps 3 ⟨Or.inl rfl, ?_⟩
  refine ax_X.steps 3 (ax_go (hH _ _ _ _ _ _ true hn (hasB_k hn hk)) ?_)
  refine ax_X.steps 1 (ax_brT (bI_n0) ?_)
  refine ax_X.steps 2 (ax_goPv (hW f n kn t b dp rk tn hn hrk ht hdp) (fun h' hz => ?_))
  obtain ⟨-, wd, rs, h1, h2, rfl⟩ := hz
  refine ax_X.steps 4 ⟨k, ⟨by omega, by omega⟩, rfl, ?_⟩
  exact ax_X.steps 1 ⟨Or.inl rfl, by rw [← h2 k hk]; rfl, wd, rs, rfl⟩
