/-! Those that are skipped: the least closed change. -/
def skO (n : Nat) (st g : Nat → Int32) : Prop := ∀ a, g a = st a ∨ (a < n ∧ st a = 6 ∧ g a = 3)
def skD (n : Nat) (nd g : Nat → Int32) : Prop := ∀ a, a < n → g a = 6 → anyB (laB g (nd a)) n = false
def skM (n : Nat) (nd st g : Nat → Int32) : Prop := ∀ g', skO n st g' → skD n nd g' → ∀ a, st a = 6 → g a = 3 → g' a = 3
def skC (n : Nat) (nd st g : Nat → Int32) : Prop := skO n st g ∧ skD n nd g ∧ skM n nd st g
theorem skC_one {n : Nat} {nd st g g' : Nat → Int32} (h : skC n nd st g) (h' : skC n nd st g') : g = g' := by
  funext a
  rcases h.1 a with e | ⟨h1, h2, h3⟩
  · rcases h'.1 a with e' | ⟨h1', h2', h3'⟩
    · rw [e, e']
    · have := h'.2.2 g h.1 h.2.1 a h2' h3'
      rw [e, h2'] at this
      exact absurd this (by decide)
  · rw [h3, h.2.2 g' h'.1 h'.2.1 a h2 h3]
theorem hi_iff {g : Nat → Int32} {c : Nat} : hiB g c = true ↔ g c = 2 ∨ g c = 3 ∨ g c = 5 := by
  unfold hiB
  rw [Bool.or_eq_true, Bool.or_eq_true, decide_eq_true_iff, decide_eq_true_iff, decide_eq_true_iff]
theorem la_iff {g : Nat → Int32} {w : Int32} {n : Nat} : anyB (laB g w) n = true ↔ ∃ c, c < n ∧ bt w c = true ∧ hiB g c = true := by
  rw [anyB_iff]
  constructor
  · rintro ⟨c, h1, h2⟩
    unfold laB at h2
    rw [Bool.and_eq_true] at h2
    exact ⟨c, h1, h2⟩
  · rintro ⟨c, h1, h2⟩
    exact ⟨c, h1, by unfold laB; rw [Bool.and_eq_true]; exact h2⟩
theorem skO_rf {n : Nat} {st : Nat → Int32} : skO n st st := fun a => Or.inl rfl
theorem skM_rf {n : Nat} {nd st : Nat → Int32} : skM n nd st st := fun g' h1 h2 a h3 h4 => by
  rw [h3] at h4
  exact absurd h4 (by decide)
/-- one more is skipped -/
theorem sk_step {n a c : Nat} {nd st g : Nat → Int32} (ho : skO n st g) (hm : skM n nd st g) (ha : a < n) (h6 : g a = 6) (hc : c < n) (hb : bt (nd a) c = true) (hh : hiB g c = true) : skO n st (upd g a 3) ∧ skM n nd st (upd g a 3) := by
  have hs6 : st a = 6 := by
    rcases ho a with e | ⟨_, h, _⟩
    · rw [← e]; exact h6
    · exact h
  refine ⟨fun q => ?_, fun g' h1 h2 q h3 h4 => ?_⟩
  · by_cases e : q = a
    · subst e
      exact Or.inr ⟨ha, hs6, pk_us⟩
    · rw [pk_un e]
      exact ho q
  · by_cases e : q = a
    · subst e
      rcases h1 q with e1 | ⟨_, _, e1⟩
      · have h5 := h2 q ha (e1.trans h3)
        have h7 : hiB g' c = true := by
          rcases ho c with e2 | ⟨_, h8, h9⟩
          · rcases h1 c with e3 | ⟨_, h8, h9⟩
            · rw [hi_iff] at hh ⊢
              rw [e3, ← e2]
              exact hh
            · exact hiB_3 h9
          · exact hiB_3 (hm g' h1 h2 c h8 h9)
        rw [la_iff.mpr ⟨c, hc, hb, h7⟩] at h5
        cases h5
      · exact e1
    · rw [pk_un e] at h4
      exact hm g' h1 h2 q h3 h4
def c6 (g : Nat → Int32) (n : Nat) : Nat := cntB (fun a => decide (g a = 6)) n
theorem c6_upd {g : Nat → Int32} {n a : Nat} (ha : a < n) (h : g a = 6) : c6 (upd g a 3) n + 1 = c6 g n := by
  have h1 := cntB_del (p := fun q => decide (g q = 6)) ha (decide_eq_true h)
  have h2 : cntB (fun q => decide (upd g a 3 q = 6)) n = cntB (delB (fun q => decide (g q = 6)) a) n := cntB_congr (fun c _ => by
    unfold delB
    by_cases e : c = a
    · subst e
      rw [pk_us, decide_eq_true rfl, Bool.not_true, Bool.and_false]
      decide
    · rw [pk_un e, decide_eq_false e, Bool.not_false, Bool.and_true])
  unfold c6
  rw [h2]
  exact h1
theorem c6_0 {g : Nat → Int32} : ∀ {n : Nat}, c6 g n = 0 → ∀ a, a < n → ¬ g a = 6
  | 0, _, a, h => absurd h (Nat.not_lt_zero a)
  | n + 1, h, a, ha => by
    unfold c6 at h
    rw [cntB] at h
    by_cases e : a = n
    · subst e
      intro q
      rw [decide_eq_true q] at h
      have : cntB (fun a => decide (g a = 6)) a + 1 = 0 := h
      omega
    · exact c6_0 (n := n) (by unfold c6; omega) a (by omega)
theorem hi_upd {g : Nat → Int32} {a c : Nat} (h6 : g a = 6) (h : hiB g c = true) : hiB (upd g a 3) c = true := by
  by_cases e : c = a
  · subst e
    rw [hi_iff, h6] at h
    exact absurd h (by decide)
  · rw [hi_iff, pk_un e, ← hi_iff]
    exact h
def Sp_M_skipAll (C : ax_O) : Prop := ∀ (f : Nat → Int32) (n kn : Nat) (t : Nat → Nat → Int32) (b : Nat), n ≤ 24 → C no_M_skipAll [.ref 0] (mH f n kn t b) (fun x h' => x = none ∧ ∃ g, skC n (t 7) (t 14) g ∧ h' = mH f n kn (va_up t 14 g) b)
theorem p_M_skipAll {C : ax_O} (h1 : Sp_M_lacks C) : Sp_M_skipAll (ax_B ax_Ms ax_Xs C) := by
  intro f n kn t b hn
  have outer : ∀ (m : Nat) (g0 : Nat → Int32) (q : Option Value), c6 g0 n ≤ m → skO n (t 14) g0 → skM n (t 7) (t 14) g0 → ax_X ax_Ms ax_Xs no_M_skipAll C (fun x h' => x = none ∧ ∃ g, skC n (t 7) (t 14) g ∧ h' = mH f n kn (va_up t 14 g) b) 2 [some (.ref 0), some (.int 1), q] [] (mH f n kn (va_up t 14 g0) b) 0 0 := by
    intro m
    induction m with
    | zero =>
      intro g0 q hm ho hM
      have hz := c6_0 (Nat.le_zero.mp hm)
      have loop : ∀ (k a : Nat) (x : Int32) , x = nI a → a + k = n → ax_X ax_Ms ax_Xs no_M_skipAll C (fun x h' => x = none ∧ ∃ g, skC n (t 7) (t 14) g ∧ h' = mH f n kn (va_up t 14 g) b) 8 [some (.ref 0), some (.int 0), some (.int x)] [] (mH f n kn (va_up t 14 g0) b) 0 0 := by
        intro k
        induction k with
        | zero =>
          intro a x  hx  hk
          subst hx
          have hk : a = n := hk
          subst hk
          refine ax_X.steps 4 (ax_brT (nI_le (by omega) (by omega)) ?_)
          refine ax_X.steps 3 (ax_brT (rfl) ?_)
          exact ax_X.steps 1 (⟨rfl, g0, ⟨ho, fun c hc h6 => absurd h6 (hz c hc), hM⟩, rfl⟩)
        | succ k ih =>
          intro a x  hx  hk
          subst hx
          refine ax_X.steps 4 (ax_brF (nI_ge (by omega) (by omega)) ?_)
          refine ax_X.steps 4 ⟨a, ⟨by omega, by omega⟩, rfl, ?_⟩
          refine ax_X.steps 2 (ax_brT (hz a (by omega)) ?_)
          exact ax_X.steps 2 (ih (a + 1) _ (nI_1 a) (by omega))
      refine ax_X.steps 2 (ax_brF bI_n0 ?_)
      exact ax_X.steps 4 (loop n 0 0 rfl (by omega))
    | succ m ihm =>
      intro g0 q hm ho hM
      have loop : ∀ (k a : Nat) (x : Int32) (g : Nat → Int32) (z : Bool), x = nI a → skO n (t 14) g → skM n (t 7) (t 14) g → (z = false → g = g0 ∧ ∀ c, c < a → g0 c = 6 → anyB (laB g0 (t 7 c)) n = false) → (z = true → c6 g n < c6 g0 n) → a + k = n → ax_X ax_Ms ax_Xs no_M_skipAll C (fun x h' => x = none ∧ ∃ g, skC n (t 7) (t 14) g ∧ h' = mH f n kn (va_up t 14 g) b) 8 [some (.ref 0), some (.int (bI z)), some (.int x)] [] (mH f n kn (va_up t 14 g) b) 0 0 := by
        intro k
        induction k with
        | zero =>
          intro a x g z hx h2 h3 h4 h5 hk
          subst hx
          have hk : a = n := hk
          subst hk
          cases z
          · obtain ⟨rfl, h6⟩ := h4 rfl
            refine ax_X.steps 4 (ax_brT (nI_le (by omega) (by omega)) ?_)
            refine ax_X.steps 3 (ax_brT (rfl) ?_)
            exact ax_X.steps 1 (⟨rfl, g, ⟨h2, h6, h3⟩, rfl⟩)
          · refine ax_X.steps 4 (ax_brT (nI_le (by omega) (by omega)) ?_)
            exact ax_X.steps 1 (ihm g _ (by have := h5 rfl; omega) h2 h3)
        | succ k ih =>
          intro a x g z hx h2 h3 h4 h5 hk
          subst hx
          by_cases k6 : g a = 6
          · cases kl : anyB (laB g (t 7 a)) n
            · refine ax_X.steps 4 (ax_brF (nI_ge (by omega) (by omega)) ?_)
              refine ax_X.steps 4 ⟨a, ⟨by omega, by omega⟩, rfl, ?_⟩
              refine ax_X.steps 2 (ax_brF (fun q => q k6) ?_)
              refine ax_X.steps 3 (ax_go ((show C no_M_lacks [.ref 0, .int (nI a)] (mH f n kn (va_up t 14 g) b) (ax_is (some (.int (bI false))) (mH f n kn (va_up t 14 g) b)) from by have := h1 f n kn (va_up t 14 g) b a hn (by omega); rw [show anyB (laB (va_up t 14 g 14) (va_up t 14 g 7 a)) n = anyB (laB g (t 7 a)) n from rfl, kl] at this; exact this)) ?_)
              refine ax_X.steps 1 (ax_brF (fun q => q rfl) ?_)
              exact ax_X.steps 3 (ih (a + 1) _ g z (nI_1 a) h2 h3 (fun e => ⟨(h4 e).1, fun c hc q => by
                by_cases e2 : c = a
                · rw [e2, ← (h4 e).1]; exact kl
                · exact (h4 e).2 c (by omega) q⟩) h5 (by omega))
            · obtain ⟨c, q1, q2, q3⟩ := la_iff.mp kl
              obtain ⟨s1, s2⟩ := sk_step h2 h3 (show a < n by omega) k6 q1 q2 q3
              have s3 := c6_upd (show a < n by omega) k6
              refine ax_X.steps 4 (ax_brF (nI_ge (by omega) (by omega)) ?_)
              refine ax_X.steps 4 ⟨a, ⟨by omega, by omega⟩, rfl, ?_⟩
              refine ax_X.steps 2 (ax_brF (fun q => q k6) ?_)
              refine ax_X.steps 3 (ax_go ((show C no_M_lacks [.ref 0, .int (nI a)] (mH f n kn (va_up t 14 g) b) (ax_is (some (.int (bI true))) (mH f n kn (va_up t 14 g) b)) from by have := h1 f n kn (va_up t 14 g) b a hn (by omega); rw [show anyB (laB (va_up t 14 g 14) (va_up t 14 g 7 a)) n = anyB (laB g (t 7 a)) n from rfl, kl] at this; exact this)) ?_)
              refine ax_X.steps 1 (ax_brT (bI_n0) ?_)
              refine ax_X.steps 5 ⟨a, ⟨by omega, by omega⟩, rfl, ?_⟩
              exact ax_X.steps 4 (ih (a + 1) _ (upd g a 3) true (nI_1 a) s1 s2 (fun e => by cases e) (fun _ => by cases z with | false => rw [(h4 rfl).1] at s3 ⊢; omega | true => have := h5 rfl; omega) (by omega))
          · refine ax_X.steps 4 (ax_brF (nI_ge (by omega) (by omega)) ?_)
            refine ax_X.steps 4 ⟨a, ⟨by omega, by omega⟩, rfl, ?_⟩
            refine ax_X.steps 2 (ax_brT (k6) ?_)
            exact ax_X.steps 2 (ih (a + 1) _ g z (nI_1 a) h2 h3 (fun e => ⟨(h4 e).1, fun c hc q => by
              by_cases e2 : c = a
              · rw [e2, ← (h4 e).1] at q; exact absurd q k6
              · exact (h4 e).2 c (by omega) q⟩) h5 (by omega))
      refine ax_X.steps 2 (ax_brF bI_n0 ?_)
      exact ax_X.steps 4 (loop n 0 0 g0 false rfl ho hM (fun _ => ⟨rfl, fun c hc => absurd hc (Nat.not_lt_zero c)⟩) (fun q => by cases q) (by omega))
  exact ax_X.steps 2 (outer (c6 (t 14) n) (t 14) none (Nat.le_refl _) skO_rf skM_rf)
theorem hind_iff {g0 : Nat → Int32} {n : Nat} {w : Int32} (hn : n ≤ 24) : ¬ w &&& (maskI (fun a => decide (g0 a = 2)) n ||| maskI (fun a => decide (g0 a = 3)) n ||| maskI (fun a => decide (g0 a = 5)) n) = 0 ↔ anyB (laB g0 w) n = true := by
  have hb : ∀ i, i < 32 → bt (maskI (fun a => decide (g0 a = 2)) n ||| maskI (fun a => decide (g0 a = 3)) n ||| maskI (fun a => decide (g0 a = 5)) n) i = (decide (i < n) && hiB g0 i) := by
    intro i hi
    rw [b_or, b_or, bt_mask n (by omega) hi, bt_mask n (by omega) hi, bt_mask n (by omega) hi]
    unfold hiB
    cases decide (i < n)
    · rfl
    · simp only [Bool.true_and, Bool.or_assoc]
  rw [la_iff, b_and0]
  constructor
  · intro h
    apply Classical.byContradiction
    intro q
    apply h
    intro i hi h1 h2
    rw [hb i hi, Bool.and_eq_true] at h2
    exact q ⟨i, of_decide_eq_true h2.1, h1, h2.2⟩
  · rintro ⟨c, h1, h2, h3⟩ q
    exact q c (by omega) h2 (by rw [hb c (by omega), decide_eq_true h1, h3]; rfl)
theorem la_mono {g0 g : Nat → Int32} {n : Nat} {w : Int32} (h : ∀ c, hiB g0 c = true → hiB g c = true) (h1 : anyB (laB g0 w) n = true) : ∃ c, c < n ∧ bt w c = true ∧ hiB g c = true := by
  obtain ⟨c, q1, q2, q3⟩ := la_iff.mp h1
  exact ⟨c, q1, q2, h c q3⟩
def Sp_N_skip (C : ax_O) : Prop := ∀ (f : Nat → Int32) (n : Nat) (t : Nat → Nat → Int32) (u : Int32) (b : Nat), n ≤ 24 → C no_N_skipHindered [.ref 18] (oH f n t u b) (fun x h' => x = none ∧ ∃ g, skC n (t 9) (t 14) g ∧ h' = oH f n (va_up t 14 g) u b)
theorem p_N_skip {C : ax_O} (h1 : Sp_N_allIn C) : Sp_N_skip (ax_B ax_Ms ax_Xs C) := by
  intro f n t u b hn
  have outer : ∀ (m rd : Nat) (g0 : Nat → Int32) (y : Int32) (q3 q4 : Option Value), y = nI rd → rd + m = n → c6 g0 n ≤ m → skO n (t 14) g0 → skM n (t 9) (t 14) g0 → ax_X ax_Ms ax_Xs no_N_skipHindered C (fun x h' => x = none ∧ ∃ g, skC n (t 9) (t 14) g ∧ h' = oH f n (va_up t 14 g) u b) 4 [some (.ref 18), some (.int 1), some (.int y), q3, q4] [] (oH f n (va_up t 14 g0) u b) 0 0 := by
    intro m
    induction m with
    | zero =>
      intro rd g0 y q3 q4 hy hr hm ho hM
      subst hy
      have hz := c6_0 (Nat.le_zero.mp hm)
      refine ax_X.steps 2 (ax_brF (bI_n0) ?_)
      refine ax_X.steps 5 (ax_brT (nI_le (by omega) (by omega)) ?_)
      exact ax_X.steps 1 (⟨rfl, g0, ⟨ho, fun c hc h6 => absurd h6 (hz c hc), hM⟩, rfl⟩)
    | succ m ihm =>
      intro rd g0 y q3 q4 hy hr hm ho hM
      subst hy
      have loop : ∀ (k a : Nat) (x : Int32) (g : Nat → Int32) (z : Bool), x = nI a → skO n (t 14) g → skM n (t 9) (t 14) g → (z = false → g = g0 ∧ ∀ c, c < a → g0 c = 6 → anyB (laB g0 (t 9 c)) n = false) → (z = true → c6 g n < c6 g0 n) → (∀ c, hiB g0 c = true → hiB g c = true) → (∀ c, a ≤ c → g c = g0 c) → a + k = n → ax_X ax_Ms ax_Xs no_N_skipHindered C (fun x h' => x = none ∧ ∃ g, skC n (t 9) (t 14) g ∧ h' = oH f n (va_up t 14 g) u b) 27 [some (.ref 18), some (.int (bI z)), some (.int (nI rd)), some (.int (maskI (fun a => decide (g0 a = 2)) n ||| maskI (fun a => decide (g0 a = 3)) n ||| maskI (fun a => decide (g0 a = 5)) n)), some (.int x)] [] (oH f n (va_up t 14 g) u b) 0 0 := by
        intro k
        induction k with
        | zero =>
          intro a x g z hx h2 h3 h4 h5 h7 h8 hk
          subst hx
          have hk : a = n := hk
          subst hk
          cases z
          · obtain ⟨rfl, h6⟩ := h4 rfl
            refine ax_X.steps 5 (ax_brT (nI_le (by omega) (by omega)) ?_)
            refine ax_X.steps 4 (ax_brT (rfl) ?_)
            exact ax_X.steps 1 (⟨rfl, g, ⟨h2, h6, h3⟩, rfl⟩)
          · refine ax_X.steps 5 (ax_brT (nI_le (by omega) (by omega)) ?_)
            exact ax_X.steps 2 (ihm (rd + 1) g _ _ _ (nI_1 rd) (by omega) (by have := h5 rfl; omega) h2 h3)
        | succ k ih =>
          intro a x g z hx h2 h3 h4 h5 h7 h8 hk
          subst hx
          by_cases k6 : g a = 6
          · cases kl : anyB (laB g0 (t 9 a)) n
            · refine ax_X.steps 5 (ax_brF (nI_ge (by omega) (by omega)) ?_)
              refine ax_X.steps 4 ⟨a, ⟨by omega, by omega⟩, rfl, ?_⟩
              refine ax_X.steps 2 (ax_brF (fun q => q k6) ?_)
              refine ax_X.steps 5 ⟨a, ⟨by omega, by omega⟩, rfl, ?_⟩
              refine ax_X.steps 3 (ax_brT (Classical.byContradiction (fun q => by rw [show anyB (laB g0 (t 9 a)) n = true from (hind_iff hn).mp q] at kl; cases kl)) ?_)
              exact ax_X.steps 2 (ih (a + 1) _ g z (nI_1 a) h2 h3 (fun e => ⟨(h4 e).1, fun c hc q => by
                by_cases e2 : c = a
                · rw [e2]; exact kl
                · exact (h4 e).2 c (by omega) q⟩) h5 h7 (fun c hc => h8 c (by omega)) (by omega))
            · obtain ⟨c, q1, q2, q3⟩ := la_mono h7 kl
              obtain ⟨s1, s2⟩ := sk_step h2 h3 (show a < n by omega) k6 q1 q2 q3
              have s3 := c6_upd (show a < n by omega) k6
              refine ax_X.steps 5 (ax_brF (nI_ge (by omega) (by omega)) ?_)
              refine ax_X.steps 4 ⟨a, ⟨by omega, by omega⟩, rfl, ?_⟩
              refine ax_X.steps 2 (ax_brF (fun q => q k6) ?_)
              refine ax_X.steps 5 ⟨a, ⟨by omega, by omega⟩, rfl, ?_⟩
              refine ax_X.steps 3 (ax_brF ((hind_iff hn).mpr kl) ?_)
              refine ax_X.steps 5 ⟨a, ⟨by omega, by omega⟩, rfl, ?_⟩
              exact ax_X.steps 4 (ih (a + 1) _ (upd g a 3) true (nI_1 a) s1 s2 (fun e => by cases e) (fun _ => by cases z with | false => rw [(h4 rfl).1] at s3 ⊢; omega | true => have := h5 rfl; omega) (fun c hc => hi_upd k6 (h7 c hc)) (fun c hc => by rw [pk_un (by omega)]; exact h8 c (by omega)) (by omega))
          · refine ax_X.steps 5 (ax_brF (nI_ge (by omega) (by omega)) ?_)
            refine ax_X.steps 4 ⟨a, ⟨by omega, by omega⟩, rfl, ?_⟩
            refine ax_X.steps 2 (ax_brT (k6) ?_)
            exact ax_X.steps 2 (ih (a + 1) _ g z (nI_1 a) h2 h3 (fun e => ⟨(h4 e).1, fun c hc q => by
              by_cases e2 : c = a
              · rw [e2, ← (h4 e).1] at q; exact absurd q k6
              · exact (h4 e).2 c (by omega) q⟩) h5 h7 (fun c hc => h8 c (by omega)) (by omega))
      refine ax_X.steps 2 (ax_brF (bI_n0) ?_)
      refine ax_X.steps 5 (ax_brF (nI_ge (by omega) (by omega)) ?_)
      refine ax_X.steps 3 (ax_go (h1 f n (va_up t 14 g0) u b 2 hn) ?_)
      refine ax_X.steps 3 (ax_go (h1 f n (va_up t 14 g0) u b 3 hn) ?_)
      refine ax_X.steps 4 (ax_go (h1 f n (va_up t 14 g0) u b 5 hn) ?_)
      exact ax_X.steps 6 (loop n 0 0 g0 false rfl ho hM (fun _ => ⟨rfl, fun c hc => absurd hc (Nat.not_lt_zero c)⟩) (fun q => by cases q) (fun c hc => hc) (fun c hc => rfl) (by omega))
  exact ax_X.steps 4 (outer n 0 (t 14) 0 none none rfl (by omega) (cntB_le n) skO_rf skM_rf)
