/-! The reference: what is wanted, and rests. -/
def wtG (ws dp : Nat → Int32) : Nat → Int32
  | 0 => 0
  | n + 1 => if ws n = 0 then wtG ws dp n else wtG ws dp n ||| (sB n ||| dp n)
theorem wtI_eq {t : Nat → Nat → Int32} : ∀ n, wtI t n = wtG (t 8) (t 10) n
  | 0 => rfl
  | n + 1 => by rw [wtI, wtG, wtI_eq n]
theorem mxI_nI {a b : Nat} (ha : a < 100000) (hb : b < 100000) : mxI (nI a) (nI b) = nI (max a b) := by
  unfold mxI
  by_cases h : a < b
  · rw [if_pos (nI_lt h (by omega)), Nat.max_eq_right (by omega)]
  · rw [if_neg (nI_nlt (by omega) (by omega)), Nat.max_eq_left (by omega)]
/-- what comes above lies within a bound -/
theorem grG_bd {nd rs : Nat → Int32} {w : Int32} {k B : Nat} (hB : B < 100000) : ∀ {m : Nat}, (∀ c, c < m → bt w c = true → bt (nd c) k = true → ∃ y, y ≤ B ∧ rs c = nI y) → ∃ y, y ≤ B ∧ grG nd rs w k m = nI y
  | 0, _ => ⟨0, Nat.zero_le B, rfl⟩
  | m + 1, h => by
    obtain ⟨y, hy, e⟩ := grG_bd hB (m := m) (fun c hc => h c (by omega))
    rw [grG, e]
    by_cases q : (bt w m && bt (nd m) k) = true
    · rw [if_pos q]
      rw [Bool.and_eq_true] at q
      obtain ⟨z, hz, e2⟩ := h m (by omega) q.1 q.2
      rw [e2, mxI_nI (by omega) (by omega)]
      exact ⟨max y z, by omega, rfl⟩
    · rw [if_neg q]
      exact ⟨y, hy, rfl⟩
/-- it is the greatest, and one of them or 0 -/
theorem grG_is {nd rs : Nat → Int32} {w : Int32} {k : Nat} {xs : Nat → Nat} : ∀ {m : Nat}, (∀ c, c < m → bt w c = true → bt (nd c) k = true → xs c < 100000 ∧ rs c = nI (xs c)) → ∃ y, y < 100000 ∧ grG nd rs w k m = nI y ∧ (∀ c, c < m → bt w c = true → bt (nd c) k = true → xs c ≤ y) ∧ (y = 0 ∨ ∃ c, c < m ∧ bt w c = true ∧ bt (nd c) k = true ∧ y = xs c)
  | 0, _ => ⟨0, by omega, rfl, fun c hc => absurd hc (Nat.not_lt_zero c), Or.inl rfl⟩
  | m + 1, h => by
    obtain ⟨y, hy, e, g1, g2⟩ := grG_is (m := m) (xs := xs) (fun c hc => h c (by omega))
    rw [grG, e]
    by_cases q : (bt w m && bt (nd m) k) = true
    · rw [if_pos q]
      rw [Bool.and_eq_true] at q
      obtain ⟨hz, e2⟩ := h m (by omega) q.1 q.2
      rw [e2, mxI_nI (by omega) (by omega)]
      refine ⟨max y (xs m), by omega, rfl, fun c hc h1 h2 => ?_, ?_⟩
      · by_cases ec : c = m
        · subst ec; omega
        · have := g1 c (by omega) h1 h2; omega
      · by_cases hm : xs m ≤ y
        · rw [Nat.max_eq_left hm]
          rcases g2 with g2 | ⟨c, q1, q2, q3, q4⟩
          · exact Or.inl g2
          · exact Or.inr ⟨c, by omega, q2, q3, q4⟩
        · rw [Nat.max_eq_right (by omega)]
          exact Or.inr ⟨m, by omega, q.1, q.2, rfl⟩
    · rw [if_neg q]
      refine ⟨y, hy, rfl, fun c hc h1 h2 => ?_, ?_⟩
      · by_cases ec : c = m
        · subst ec; exact absurd (by rw [h1, h2]; rfl) q
        · exact g1 c (by omega) h1 h2
      · rcases g2 with g2 | ⟨c, q1, q2, q3, q4⟩
        · exact Or.inl g2
        · exact Or.inr ⟨c, by omega, q2, q3, q4⟩
def tmP (n : Nat) (tm : Nat → Int32) (tn : Nat → Nat) : Prop := ∀ a, a < n → tn a ≤ 1000 ∧ tm a = nI (tn a)
theorem reN_bd {n : Nat} {nd tm : Nat → Int32} {w : Int32} {rk tn : Nat → Nat} (hn : n ≤ 24) (h : rkP n nd rk) (ht : tmP n tm tn) : ∀ (m a : Nat), a < n → rk a < m → ∃ y, y ≤ 1000 * (rk a + 1) ∧ reN nd tm w n a = nI y
  | 0, _, _, h2 => absurd h2 (Nat.not_lt_zero _)
  | m + 1, a, ha, h2 => by
    have hra := h.1 a ha
    obtain ⟨y, hy, e⟩ := grG_bd (nd := nd) (rs := reN nd tm w n) (w := w) (k := a) (B := 1000 * rk a) (by omega) (m := n) (fun c hc _ hb => by
      have h3 := h.2 a c ha hc hb
      obtain ⟨y, hy, e⟩ := reN_bd hn h ht m c hc (by omega)
      exact ⟨y, by omega, e⟩)
    rw [reN_eq h ha, e, (ht a ha).2, nI_add]
    exact ⟨tn a + y, by have := (ht a ha).1; omega, rfl⟩
/-- the rests as numbers -/
def reX (nd tm : Nat → Int32) (w : Int32) (n a : Nat) : Nat := (reN nd tm w n a).toNatClampNeg
theorem reX_eq {n : Nat} {nd tm : Nat → Int32} {w : Int32} {rk tn : Nat → Nat} (hn : n ≤ 24) (h : rkP n nd rk) (ht : tmP n tm tn) {a : Nat} (ha : a < n) : reX nd tm w n a ≤ 24000 ∧ reN nd tm w n a = nI (reX nd tm w n a) := by
  obtain ⟨y, hy, e⟩ := reN_bd (w := w) hn h ht (rk a + 1) a ha (by omega)
  have := h.1 a ha
  unfold reX
  rw [e, nI_clamp (by omega)]
  exact ⟨by omega, rfl⟩
theorem reX_is {n : Nat} {nd tm : Nat → Int32} {w : Int32} {rk tn : Nat → Nat} (hn : n ≤ 24) (h : rkP n nd rk) (ht : tmP n tm tn) {a : Nat} (ha : a < n) : (∀ c, c < n → bt w c = true → bt (nd c) a = true → reX nd tm w n c + tn a ≤ reX nd tm w n a) ∧ (reX nd tm w n a = tn a ∨ ∃ c, c < n ∧ bt w c = true ∧ bt (nd c) a = true ∧ reX nd tm w n a = reX nd tm w n c + tn a) := by
  obtain ⟨y, hy, e, g1, g2⟩ := grG_is (nd := nd) (rs := reN nd tm w n) (w := w) (k := a) (xs := reX nd tm w n) (m := n) (fun c hc _ _ => by have := reX_eq (w := w) hn h ht hc; exact ⟨by omega, this.2⟩)
  have h1 := (reX_eq (w := w) hn h ht ha).2
  rw [reN_eq h ha, e, (ht a ha).2, nI_add] at h1
  have h2 := (reX_eq (w := w) hn h ht ha).1
  have h3 : tn a + y = reX nd tm w n a := (nI_eq (by have := (ht a ha).1; omega) (by omega)).mp h1
  refine ⟨fun c hc q1 q2 => by have := g1 c hc q1 q2; omega, ?_⟩
  rcases g2 with g2 | ⟨c, q1, q2, q3, q4⟩
  · exact Or.inl (by omega)
  · exact Or.inr ⟨c, q1, q2, q3, by omega⟩
def wcl (n : Nat) (nd : Nat → Int32) (w : Int32) : Prop := ∀ c, c < n → bt w c = true → ∀ a, a < n → bt (nd c) a = true → bt w a = true
/-- the goal of the relaxation -/
def goX (nd tm : Nat → Int32) (w : Int32) (n a : Nat) : Nat := if bt w a = true then reX nd tm w n a else 0
def rlx (n : Nat) (nd tm : Nat → Int32) (w : Int32) (tn : Nat → Nat) (rs : Nat → Int32) : Prop := ∀ c, c < n → ∃ y, rs c = nI y ∧ y ≤ goX nd tm w n c ∧ (bt w c = true → tn c ≤ y)
def suN (g : Nat → Nat) : Nat → Nat
  | 0 => 0
  | m + 1 => suN g m + g m
theorem suN_congr {g h : Nat → Nat} : ∀ {m : Nat}, (∀ c, c < m → g c = h c) → suN g m = suN h m
  | 0, _ => rfl
  | m + 1, q => by rw [suN, suN, suN_congr (fun c hc => q c (by omega)), q m (by omega)]
theorem suN_lt {g h : Nat → Nat} {a : Nat} : ∀ {m : Nat}, a < m → (∀ c, c < m → c ≠ a → g c = h c) → g a < h a → suN g m < suN h m
  | 0, ha, _, _ => absurd ha (Nat.not_lt_zero a)
  | m + 1, ha, q, hl => by
    rw [suN, suN]
    by_cases e : a = m
    · subst e
      rw [suN_congr (g := g) (h := h) (fun c hc => q c (by omega) (by omega))]
      omega
    · have := suN_lt (m := m) (by omega) (fun c hc => q c (by omega)) hl
      rw [q m (by omega) (fun z => e z.symm)]
      omega
def msr (nd tm : Nat → Int32) (w : Int32) (n : Nat) (rs : Nat → Int32) : Nat := suN (fun c => goX nd tm w n c - (rs c).toNatClampNeg) n
theorem rlx_step {n : Nat} {nd tm rs : Nat → Int32} {w : Int32} {rk tn : Nat → Nat} (hn : n ≤ 24) (h : rkP n nd rk) (ht : tmP n tm tn) (hw : wcl n nd w) (hr : rlx n nd tm w tn rs) {a c : Nat} (ha : a < n) (hc : c < n) (hwc : bt w c = true) (hb : bt (nd c) a = true) (hlt : ¬ rs c + tm a ≤ rs a) : rlx n nd tm w tn (upd rs a (rs c + tm a)) ∧ msr nd tm w n (upd rs a (rs c + tm a)) < msr nd tm w n rs := by
  obtain ⟨y, e1, l1, m1⟩ := hr a ha
  obtain ⟨z, e2, l2, m2⟩ := hr c hc
  have hwa := hw c hc hwc a ha hb
  have ht1 := ht a ha
  have g1 := (reX_is (w := w) hn h ht ha).1 c hc hwc hb
  have g2 := (reX_eq (w := w) hn h ht ha).1
  have l2' : z ≤ reX nd tm w n c := by unfold goX at l2; rw [if_pos hwc] at l2; exact l2
  have l1' : y ≤ reX nd tm w n a := by unfold goX at l1; rw [if_pos hwa] at l1; exact l1
  have ev : rs c + tm a = nI (z + tn a) := by rw [e2, ht1.2, nI_add]
  have hyz : y < z + tn a := by
    rw [ev, e1, nI_leI (by omega) (by omega)] at hlt
    omega
  constructor
  · intro d hd
    by_cases e : d = a
    · subst e
      rw [pk_us, ev]
      exact ⟨z + tn d, rfl, by unfold goX; rw [if_pos hwa]; omega, fun _ => by omega⟩
    · rw [pk_un e]
      exact hr d hd
  · unfold msr
    refine suN_lt ha (fun d hd e => by rw [pk_un e]) ?_
    rw [pk_us, ev, e1, nI_clamp (by omega), nI_clamp (by omega)]
    unfold goX
    rw [if_pos hwa]
    omega
theorem rlx_end {n : Nat} {nd tm rs : Nat → Int32} {w : Int32} {rk tn : Nat → Nat} (hn : n ≤ 24) (h : rkP n nd rk) (ht : tmP n tm tn) (hw : wcl n nd w) (hr : rlx n nd tm w tn rs) (hend : ∀ a, a < n → ∀ c, c < n → bt w c = true → bt (nd c) a = true → rs c + tm a ≤ rs a) : ∀ (m a : Nat), a < n → rk a < m → rs a = if bt w a = true then reN nd tm w n a else 0
  | 0, _, _, h2 => absurd h2 (Nat.not_lt_zero _)
  | m + 1, a, ha, h2 => by
    obtain ⟨y, e1, l1, m1⟩ := hr a ha
    unfold goX at l1
    by_cases q : bt w a = true
    · rw [if_pos q] at l1 ⊢
      have g2 := reX_eq (w := w) hn h ht ha
      rw [g2.2, e1]
      congr 1
      refine Nat.le_antisymm l1 ?_
      rcases (reX_is (w := w) hn h ht ha).2 with g | ⟨c, q1, q2, q3, q4⟩
      · have := m1 q; omega
      · have ih := rlx_end hn h ht hw hr hend m c q1 (by have := h.2 a c ha q1 q3; omega)
        rw [if_pos q2] at ih
        have g3 := hend a ha c q1 q2 q3
        have g4 := reX_eq (w := w) hn h ht q1
        rw [ih, g4.2, (ht a ha).2, nI_add, e1, nI_leI (by have := (ht a ha).1; omega) (by omega)] at g3
        omega
    · rw [if_neg q] at l1 ⊢
      rw [e1, show y = 0 by omega]
      rfl
