/-! Rests. rk: a rank that falls from what is needed to what needs it. -/
def grG (nd rs : Nat → Int32) (w : Int32) (k : Nat) : Nat → Int32
  | 0 => 0
  | m + 1 => if (bt w m && bt (nd m) k) = true then mxI (grG nd rs w k m) (rs m) else grG nd rs w k m
theorem grI_eq {t : Nat → Nat → Int32} {w : Int32} {k : Nat} : ∀ m, grI t w k m = grG (t 9) (t 11) w k m
  | 0 => rfl
  | m + 1 => by rw [grI, grG, grI_eq m]
theorem grG_congr {nd rs rs' : Nat → Int32} {w : Int32} {k : Nat} : ∀ {m : Nat}, (∀ c, c < m → bt (nd c) k = true → rs c = rs' c) → grG nd rs w k m = grG nd rs' w k m
  | 0, _ => rfl
  | m + 1, h => by
    rw [grG, grG, grG_congr (m := m) (fun c hc => h c (by omega))]
    by_cases e : (bt w m && bt (nd m) k) = true
    · rw [if_pos e, if_pos e, h m (by omega) (by rw [Bool.and_eq_true] at e; exact e.2)]
    · rw [if_neg e, if_neg e]
def reI (nd tm : Nat → Int32) (w : Int32) (n : Nat) : Nat → Nat → Int32
  | 0 => fun _ => 0
  | m + 1 => fun a => tm a + grG nd (reI nd tm w n m) w a n
/-- the rests -/
def reN (nd tm : Nat → Int32) (w : Int32) (n : Nat) : Nat → Int32 := reI nd tm w n n
def rkP (n : Nat) (nd : Nat → Int32) (rk : Nat → Nat) : Prop := (∀ a, a < n → rk a < n) ∧ ∀ a c, a < n → c < n → bt (nd c) a = true → rk c < rk a
theorem reI_fix {n : Nat} {nd tm : Nat → Int32} {w : Int32} {rk : Nat → Nat} (h : rkP n nd rk) : ∀ (m a : Nat), a < n → rk a < m → reI nd tm w n m a = reI nd tm w n (m + 1) a
  | 0, _, _, h2 => absurd h2 (Nat.not_lt_zero _)
  | m + 1, a, ha, h2 => by
    show tm a + grG nd (reI nd tm w n m) w a n = tm a + grG nd (reI nd tm w n (m + 1)) w a n
    rw [grG_congr (fun c hc hb => reI_fix h m c hc (by have := h.2 a c ha hc hb; omega))]
theorem reN_eq {n : Nat} {nd tm : Nat → Int32} {w : Int32} {rk : Nat → Nat} (h : rkP n nd rk) {a : Nat} (ha : a < n) : reN nd tm w n a = tm a + grG nd (reN nd tm w n) w a n := by
  unfold reN
  exact reI_fix h n a ha (h.1 a ha)
theorem reN_one {n : Nat} {nd tm g : Nat → Int32} {w : Int32} {rk : Nat → Nat} (h : rkP n nd rk) (hg : ∀ a, a < n → g a = tm a + grG nd g w a n) : ∀ (m a : Nat), a < n → rk a < m → g a = reN nd tm w n a
  | 0, _, _, h2 => absurd h2 (Nat.not_lt_zero _)
  | m + 1, a, ha, h2 => by
    rw [hg a ha, reN_eq h ha, grG_congr (fun c hc hb => reN_one h hg m c hc (by have := h.2 a c ha hc hb; omega))]
def Sp_A_measure (C : ax_O) : Prop := ∀ (f : Nat → Int32) (n : Nat) (t : Nat → Nat → Int32) (u : Int32) (b : Nat) (w : Int32) (rk : Nat → Nat), n ≤ 24 → rkP n (t 9) rk → C no_A_measureRests [.ref 2, .int w] (oH f n t u b) (fun x h' => x = none ∧ ∃ g : Nat → Int32, (∀ a, a < n → g a = reN (t 9) (t 0) w n a) ∧ h' = oH f n (va_up t 11 g) u b)
theorem p_A_measure {C : ax_O} (h1 : Sp_A_gra C) : Sp_A_measure (ax_B ax_Ms ax_Xs C) := by
  intro f n t u b w rk hn hrk
  have outer : ∀ (m rd : Nat) (g0 : Nat → Int32) (y : Int32) (q4 q5 : Option Value), y = nI rd → rd + m = n → (∀ a, a < n → rk a < rd → g0 a = reN (t 9) (t 0) w n a) → ax_X ax_Ms ax_Xs no_A_measureRests C (fun x h' => x = none ∧ ∃ g : Nat → Int32, (∀ a, a < n → g a = reN (t 9) (t 0) w n a) ∧ h' = oH f n (va_up t 11 g) u b) 4 [some (.ref 2), some (.int w), some (.int 1), some (.int y), q4, q5] [] (oH f n (va_up t 11 g0) u b) 0 0 := by
    intro m
    induction m with
    | zero =>
      intro rd g0 y q4 q5 hy hr hg
      subst hy
      refine ax_X.steps 2 (ax_brF (bI_n0) ?_)
      refine ax_X.steps 4 (ax_brT (nI_le (by omega) (by omega)) ?_)
      exact ax_X.steps 1 (⟨rfl, g0, fun a ha => hg a ha (by have := hrk.1 a ha; omega), rfl⟩)
    | succ m ihm =>
      intro rd g0 y q4 q5 hy hr hg
      subst hy
      have loop : ∀ (k a : Nat) (x : Int32) (g : Nat → Int32) (z : Bool) (q5 : Option Value), x = nI a → (∀ c, c < n → rk c < rd → g c = reN (t 9) (t 0) w n c) → (∀ c, c < a → rk c < rd + 1 → g c = reN (t 9) (t 0) w n c) → (z = false → g = g0 ∧ ∀ c, c < a → g0 c = t 0 c + grG (t 9) g0 w c n) → a + k = n → ax_X ax_Ms ax_Xs no_A_measureRests C (fun x h' => x = none ∧ ∃ g : Nat → Int32, (∀ a, a < n → g a = reN (t 9) (t 0) w n a) ∧ h' = oH f n (va_up t 11 g) u b) 14 [some (.ref 2), some (.int w), some (.int (bI z)), some (.int (nI rd)), some (.int x), q5] [] (oH f n (va_up t 11 g) u b) 0 0 := by
        intro k
        induction k with
        | zero =>
          intro a x g z q5 hx h2 h3 h4 hk
          subst hx
          have hk : a = n := hk
          subst hk
          cases z
          · obtain ⟨rfl, h6⟩ := h4 rfl
            refine ax_X.steps 4 (ax_brT (nI_le (by omega) (by omega)) ?_)
            refine ax_X.steps 4 (ax_brT (rfl) ?_)
            exact ax_X.steps 1 (⟨rfl, g, fun c hc => reN_one hrk h6 (rk c + 1) c hc (by omega), rfl⟩)
          · refine ax_X.steps 4 (ax_brT (nI_le (by omega) (by omega)) ?_)
            exact ax_X.steps 2 (ihm (rd + 1) g _ _ _ (nI_1 rd) (by omega) h3)
        | succ k ih =>
          intro a x g z q5 hx h2 h3 h4 hk
          subst hx
          have hv : ∀ c, c < n → rk c < rd + 1 → c = a → t 0 a + grG (t 9) g w a n = reN (t 9) (t 0) w n c := by
            intro c hc hr2 e
            subst e
            rw [reN_eq hrk hc, grG_congr (fun d hd hb => h2 d hd (by have := hrk.2 c d hc hd hb; omega))]
          have k2 : ∀ c, c < n → rk c < rd → upd g a (t 0 a + grG (t 9) g w a n) c = reN (t 9) (t 0) w n c := by
            intro c hc hr2
            by_cases e : c = a
            · rw [e, pk_us, hv c hc (by omega) e, e]
            · rw [pk_un e]; exact h2 c hc hr2
          have k3 : ∀ c, c < a + 1 → rk c < rd + 1 → upd g a (t 0 a + grG (t 9) g w a n) c = reN (t 9) (t 0) w n c := by
            intro c hc hr2
            by_cases e : c = a
            · rw [e, pk_us, hv c (by omega) hr2 e, e]
            · rw [pk_un e]; exact h3 c (by omega) hr2
          have hgr : C no_A_greatestRestAbove [.ref 2, .int (nI a), .int w] (oH f n (va_up t 11 g) u b) (ax_is (some (.int (grG (t 9) g w a n))) (oH f n (va_up t 11 g) u b)) := by
            have := h1 f n (va_up t 11 g) u b a w hn (by omega)
            rw [grI_eq] at this
            exact this
          cases z
          · obtain ⟨rfl, h6⟩ := h4 rfl
            refine ax_X.steps 4 (ax_brF (nI_ge (by omega) (by omega)) ?_)
            refine ax_X.steps 4 ⟨a, ⟨by omega, by omega⟩, rfl, ?_⟩
            refine ax_X.steps 4 (ax_go (hgr) ?_)
            refine ax_X.steps 4 (ax_brF (fun q => q rfl) ?_)
            refine ax_X.steps 5 ⟨a, ⟨by omega, by omega⟩, rfl, ?_⟩
            refine ax_X.steps 1 (ax_br2 (fun c35 => ?_) (fun c35 => ?_))
            · refine ax_X.steps 7 ⟨a, ⟨by omega, by omega⟩, rfl, ?_⟩
              exact ax_X.steps 2 (ih (a + 1) _ (upd g a (t 0 a + grG (t 9) g w a n)) false _ (nI_1 a) k2 k3 (fun _ => ⟨upd_id (show g a = _ from (show t 0 a + grG (t 9) g w a n = g a from c35).symm), fun c hc => by
                by_cases e : c = a
                · rw [e]; exact (show t 0 a + grG (t 9) g w a n = g a from c35).symm
                · exact h6 c (by omega)⟩) (by omega))
            · refine ax_X.steps 8 ⟨a, ⟨by omega, by omega⟩, rfl, ?_⟩
              exact ax_X.steps 2 (ih (a + 1) _ (upd g a (t 0 a + grG (t 9) g w a n)) true _ (nI_1 a) k2 k3 (fun q => by cases q) (by omega))
          · refine ax_X.steps 4 (ax_brF (nI_ge (by omega) (by omega)) ?_)
            refine ax_X.steps 4 ⟨a, ⟨by omega, by omega⟩, rfl, ?_⟩
            refine ax_X.steps 4 (ax_go (hgr) ?_)
            refine ax_X.steps 4 (ax_brT (bI_n0) ?_)
            refine ax_X.steps 8 ⟨a, ⟨by omega, by omega⟩, rfl, ?_⟩
            exact ax_X.steps 2 (ih (a + 1) _ (upd g a (t 0 a + grG (t 9) g w a n)) true _ (nI_1 a) k2 k3 (fun q => by cases q) (by omega))
      refine ax_X.steps 2 (ax_brF (bI_n0) ?_)
      refine ax_X.steps 4 (ax_brF (nI_ge (by omega) (by omega)) ?_)
      exact ax_X.steps 4 (loop n 0 0 g0 false _ rfl hg (fun c hc => absurd hc (Nat.not_lt_zero c)) (fun _ => ⟨rfl, fun c hc => absurd hc (Nat.not_lt_zero c)⟩) (by omega))
  exact ax_X.steps 4 (outer n 0 (t 11) 0 none none rfl (by omega) (fun a _ h => absurd h (Nat.not_lt_zero _)))
