/-! Pure: all that begin at one time; the next end. -/
def trs (r : Nat → Nat → Int32) (n : Nat) : Nat := suN (fun a => (r 3 a).toNatClampNeg) n
def c7 (r : Nat → Nat → Int32) (n : Nat) : Nat := cntB (fun a => decide (r 0 a = 7)) n
theorem suN_add {g h : Nat → Nat} {a : Nat} : ∀ {m : Nat}, a < m → (∀ c, c < m → c ≠ a → h c = g c) → h a = g a + 1 → suN h m = suN g m + 1
  | 0, ha, _, _ => absurd ha (Nat.not_lt_zero a)
  | m + 1, ha, h1, h2 => by
    rw [suN, suN]
    by_cases e : a = m
    · subst e
      rw [suN_congr (h := g) (fun c hc => h1 c (by omega) (by omega)), h2]
      omega
    · rw [suN_add (m := m) (by omega) (fun c hc hne => h1 c (by omega) hne) h2, h1 m (by omega) (fun q => e q.symm)]
      omega
theorem cntB_add {p q : Nat → Bool} {a : Nat} : ∀ {m : Nat}, a < m → (∀ c, c < m → c ≠ a → q c = p c) → p a = false → q a = true → cntB q m = cntB p m + 1
  | 0, ha, _, _, _ => absurd ha (Nat.not_lt_zero a)
  | m + 1, ha, h1, h2, h3 => by
    rw [cntB, cntB]
    by_cases e : a = m
    · subst e
      rw [cntB_congr (q := p) (fun c hc => h1 c (by omega) (by omega)), h2, h3]
      rfl
    · rw [cntB_add (m := m) (by omega) (fun c hc hne => h1 c (by omega) hne) h2 h3, h1 m (by omega) (fun q => e q.symm)]
      omega
theorem suN_cnt {g : Nat → Nat} {p : Nat → Bool} : ∀ {m : Nat}, (∀ c, c < m → g c ≤ 4 ∧ (p c = true → g c ≤ 3)) → suN g m + cntB p m ≤ 4 * m
  | 0, _ => by rw [suN, cntB]; omega
  | m + 1, h => by
    have ih := suN_cnt (m := m) (fun c hc => h c (by omega))
    obtain ⟨h1, h2⟩ := h m (by omega)
    rw [suN, cntB]
    cases e : p m
    · rw [cond_false]; omega
    · have := h2 e
      rw [cond_true]; omega
theorem trs_le {n : Nat} {w : Int32} {ag : Nat → Int32} {r : Nat → Nat → Int32} {Y : Nat} {p : Nat → Bool} (h : ∀ a, a < n → rowI w ag r Y a) (hp : ∀ c, c < n → p c = true → r 0 c = 6) : trs r n + cntB p n ≤ 4 * n := suN_cnt (fun c hc => by
  obtain ⟨tr, t1, t2, hcase⟩ := h c hc
  rw [t2, nI_clamp (by omega)]
  refine ⟨t1, fun q => ?_⟩
  have h6 := hp c hc q
  rcases hcase with ⟨q, _⟩ | ⟨_, q, _⟩ | ⟨_, q, _⟩
  · rw [h6] at q; exact absurd q (by decide)
  · exact q
  · exact absurd h6 q)
theorem fmN_both {p p' : Nat → Bool} {rs rs' : Nat → Int32} {n : Nat} (h : ∀ c, c < n → p c = p' c) (h2 : ∀ c, c < n → p c = true → rs c = rs' c) : fmN p rs n = fmN p' rs' n := (fmN_rs h2).trans (fmN_congr h)
/-- the turns of one time -/
theorem begin_all {n : Nat} {T Q : Nat → Nat → Int32} {w : Int32} {C M : Nat} {tn cn mn fn : Nat → Nat} {Y y0 : Nat} {F ag : Nat → Int32} (hs : sdP n T tn cn mn fn) (hq : qtP T Q) (hY : y0 + 1000 ≤ Y) (hY2 : Y < 1000000) : ∀ (k : Nat) (p p' : Nat → Bool) (s : BS), RJ n T w C M cn mn Y s.1 F ag s.2.2.1 → (∀ c, c < n → p c = p' c) → (∀ c, c < n → p c = true → s.2.2.1 0 c = 6 ∧ T 11 c = Q 13 c) → s.2.2.2 = trs s.2.2.1 n →
    mBL F n Q (nI y0) k p' s.2 = (oBL n T (nI y0) k p s).2 ∧ RJ n T w C M cn mn Y (oBL n T (nI y0) k p s).1 F ag (oBL n T (nI y0) k p s).2.2.1 ∧ (oBL n T (nI y0) k p s).2.2.2 = trs (oBL n T (nI y0) k p s).2.2.1 n ∧ (oBL n T (nI y0) k p s).2.2.2 + c7 s.2.2.1 n = s.2.2.2 + c7 (oBL n T (nI y0) k p s).2.2.1 n
  | 0, p, p', s, h, _, _, hb => ⟨rfl, h, hb, rfl⟩
  | k + 1, p, p', s, h, hp, h6, hb => by
    have hf := fmN_both (rs := T 11) (rs' := Q 13) hp (fun c hc q => (h6 c hc q).2)
    unfold mBL oBL
    rw [← hf]
    cases e : fmN p (T 11) n with
    | none => exact ⟨rfl, h, hb, rfl⟩
    | some a =>
      have ha := fmN_lt e
      have hpa := fmN_p e
      obtain ⟨h60, _⟩ := h6 a ha hpa
      have hd : ∀ c, c < n → delB p a c = delB p' a c := fun c hc => by unfold delB; rw [hp c hc]
      dsimp only
      rw [show mT Q s.2.2.1 = mT Q s.2.2.1 from rfl, (fr_eq hs hq h ha).1, hq.2.2.2.2.2.2.2.2.2.1]
      by_cases hfr : frB s.1 (T 1 a) (T 2 a) (T 3 a) = true
      · rw [if_pos hfr, if_pos hfr]
        obtain ⟨q1, q2⟩ := begin_one hs hq h ha h60 hY hY2 hfr
        have es : mBg F n Q (nI y0) a s.2 = (oBg T (nI y0) a s).2 := by
          unfold mBg oBg
          dsimp only
          rw [q1]
        rw [es]
        obtain ⟨e0, e3, e5, e6, _, _⟩ := bgR_rows (r := s.2.2.1) (a := a) (ck := nI y0) (tm := T 0 a) (fr := T 4 a) (aw := awB (T 12 3) (T 4 a) (s.1 6) (s.1 2))
        obtain ⟨tr, t1, t2, _⟩ := h.1 a ha
        have b1 : (oBg T (nI y0) a s).2.2.2 = trs (oBg T (nI y0) a s).2.2.1 n := by
          show s.2.2.2 + 1 = trs (bgR s.2.2.1 a (nI y0) (T 0 a) (T 4 a) (awB (T 12 3) (T 4 a) (s.1 6) (s.1 2))) n
          unfold trs
          rw [e3, hb]
          refine (suN_add ha (fun c _ hne => ?_) ?_).symm
          · rw [pk_un hne]
          · rw [pk_us, t2, nI_1, nI_clamp (by omega), nI_clamp (by omega)]
        have b2 : c7 (oBg T (nI y0) a s).2.2.1 n = c7 s.2.2.1 n + 1 := by
          show c7 (bgR s.2.2.1 a (nI y0) (T 0 a) (T 4 a) (awB (T 12 3) (T 4 a) (s.1 6) (s.1 2))) n = _
          unfold c7
          rw [e0]
          refine cntB_add ha (fun c _ hne => ?_) ?_ ?_
          · rw [pk_un hne]
          · rw [h60]; decide
          · rw [pk_us]; decide
        have b3 : (oBg T (nI y0) a s).2.2.2 = s.2.2.2 + 1 := rfl
        obtain ⟨i1, i2, i3, i4⟩ := begin_all hs hq hY hY2 k (delB p a) (delB p' a) (oBg T (nI y0) a s) q2 hd (fun c hc q => by
          unfold delB at q
          rw [Bool.and_eq_true] at q
          have hne : c ≠ a := fun z => by rw [decide_eq_true z] at q; exact absurd q.2 (by decide)
          refine ⟨?_, (h6 c hc q.1).2⟩
          show bgR s.2.2.1 a (nI y0) (T 0 a) (T 4 a) (awB (T 12 3) (T 4 a) (s.1 6) (s.1 2)) 0 c = 6
          rw [e0, pk_un hne]
          exact (h6 c hc q.1).1) b1
        exact ⟨i1, i2, i3, by omega⟩
      · rw [if_neg hfr, if_neg hfr]
        by_cases hpk : T 12 2 = 0
        · rw [if_pos hpk, if_pos hpk]
          exact ⟨rfl, h, hb, rfl⟩
        · rw [if_neg hpk, if_neg hpk]
          exact begin_all hs hq hY hY2 k (delB p a) (delB p' a) s h hd (fun c hc q => by
            unfold delB at q
            rw [Bool.and_eq_true] at q
            exact h6 c hc q.1) hb
/-- both see the same ones ready -/
theorem pd_eq {n : Nat} {T Q : Nat → Nat → Int32} {tn cn mn fn : Nat → Nat} {r : Nat → Nat → Int32} (hn : n ≤ 24) (hs : sdP n T tn cn mn fn) (hq : qtP T Q) {c : Nat} (hc : c < n) : rdO (oT T r) n (tzO (oT T r) n) c = rdM Q r n (tzM Q r n) c := by
  obtain ⟨q0, q1, q2, q3, q4, q5, q6, q7, q8, q11, q12⟩ := hq
  have ez : tzO (oT T r) n = tzM Q r n := by
    unfold tzO tzM
    rw [Bool.or_comm, q11]
    show (!anyB (olB (oT T r)) n || decide (T 12 0 = 0)) = (!anyB (olM Q r) n || decide (T 12 0 = 0))
    rw [show olB (oT T r) = olM Q r by
      funext a
      unfold olB olM
      rw [q8]
      rfl]
  have em : (T 9 c &&& (maskI (fun c => decide (r 0 c = 1)) n ^^^ (-1)) = 0) ↔ ∀ i, i < n → bt (T 9 c) i = true → r 0 i = 1 := by
    rw [b_and0]
    constructor
    · intro h i hi hb
      refine Classical.byContradiction (fun q => h i (by omega) hb ?_)
      rw [b_not (by omega), bt_mask n (by omega) (by omega), decide_eq_false q, Bool.and_false]
      rfl
    · intro h i hi hb hm
      by_cases hin : i < n
      · rw [b_not hi, bt_mask n (by omega) hi, decide_eq_true hin, decide_eq_true (h i hin hb)] at hm
        cases hm
      · rw [hs.2.2.2 c hc i (by omega) hi] at hb
        cases hb
  refine bool_ext ?_
  unfold rdM
  rw [rdB_iff, ez, q7, q8]
  unfold rdO
  show (decide (r 0 c = 6) && decide (T 9 c &&& (maskI (fun c => decide (r 0 c = 1)) n ^^^ (-1)) = 0) && (tzM Q r n || decide (T 7 c = 0))) = true ↔ _
  rw [Bool.and_eq_true, Bool.and_eq_true, Bool.and_eq_true, decide_eq_true_iff (p := T 9 c &&& _ = 0), em]
  constructor
  · rintro ⟨⟨a1, a2⟩, a3⟩; exact ⟨⟨a1, a3⟩, a2⟩
  · rintro ⟨⟨a1, a3⟩, a2⟩; exact ⟨⟨a1, a2⟩, a3⟩
/-- and the same next end -/
theorem ne_eq {n : Nat} {T Q : Nat → Nat → Int32} {w : Int32} {ag : Nat → Int32} {r : Nat → Nat → Int32} {Y : Nat} (hY : Y < 1000000) (h : ∀ a, a < n → rowI w ag r Y a) : ∀ m, m ≤ n → mnE (mT Q r) m = neI (oT T r) m ∧ (neI (oT T r) m = -1 ∨ ∃ y c, y ≤ Y ∧ neI (oT T r) m = nI y ∧ c < m ∧ r 0 c = 7 ∧ (r 5 c = nI y ∨ r 6 c = nI y))
  | 0, _ => ⟨rfl, Or.inl rfl⟩
  | m + 1, hm => by
    obtain ⟨i1, i2⟩ := ne_eq (T := T) (Q := Q) hY h m (by omega)
    obtain ⟨tr, t1, t2, hcase⟩ := h m (by omega)
    have hE : mnE (mT Q r) (m + 1) = if r 0 m = 7 then lsI (mnE (mT Q r) m) (if r 6 m < 0 then r 5 m else if r 5 m ≤ r 6 m then r 5 m else r 6 m) else mnE (mT Q r) m := rfl
    have hN : neI (oT T r) (m + 1) = soI (soI (neI (oT T r) m) (r 5 m)) (r 6 m) := rfl
    rw [hE, hN, i1]
    generalize neI (oT T r) m = x at i2
    have hup : ∀ v : Int32, (v = -1 ∨ ∃ y c, y ≤ Y ∧ v = nI y ∧ c < m ∧ r 0 c = 7 ∧ (r 5 c = nI y ∨ r 6 c = nI y)) → (v = -1 ∨ ∃ y c, y ≤ Y ∧ v = nI y ∧ c < m + 1 ∧ r 0 c = 7 ∧ (r 5 c = nI y ∨ r 6 c = nI y)) := by
      rintro v (q | ⟨y, c, q1, q2, q3, q4⟩)
      · exact Or.inl q
      · exact Or.inr ⟨y, c, q1, q2, by omega, q4⟩
    by_cases h7 : r 0 m = 7
    · rw [if_pos h7]
      have hr : (∃ y, y ≤ Y ∧ r 5 m = nI y) ∧ (r 6 m = -1 ∨ ∃ y, y ≤ Y ∧ r 6 m = nI y) := by
        rcases hcase with ⟨_, _, _, _, q⟩ | ⟨q, _⟩ | ⟨q, _⟩
        · exact q
        · rw [h7] at q; exact absurd q (by decide)
        · exact absurd h7 q
      obtain ⟨⟨y5, hy5, e5⟩, hr6⟩ := hr
      have s1 : ∀ y, y ≤ Y → soI (nI y) (-1) = nI y := fun y hy => by
        unfold soI
        rw [if_neg (nI_ne_m1 (by omega)), if_pos rfl]
      have s2 : ∀ y z, y ≤ Y → z ≤ Y → soI (nI y) (nI z) = nI (min y z) := fun y z hy hz => by
        unfold soI mnI
        rw [if_neg (nI_ne_m1 (by omega)), if_neg (nI_ne_m1 (by omega))]
        by_cases q : z < y
        · rw [if_pos (nI_lt q (by omega)), Nat.min_eq_right (by omega)]
        · rw [if_neg (nI_nlt (by omega) (by omega)), Nat.min_eq_left (by omega)]
      have s3 : ∀ y z, y ≤ Y → z ≤ Y → lsI (nI y) (nI z) = nI (min y z) := fun y z hy hz => by
        unfold lsI
        rw [if_neg (nI_pos (by omega))]
        by_cases q : y ≤ z
        · rw [if_pos (nI_le q (by omega)), Nat.min_eq_left q]
        · rw [if_neg (nI_ge (by omega) (by omega)), Nat.min_eq_right (by omega)]
      have s4 : ∀ z, soI (-1) z = z := fun z => if_pos rfl
      have s5 : ∀ z, lsI (-1) z = z := fun z => if_pos (by decide)
      rcases hr6 with e6 | ⟨y6, hy6, e6⟩
      · rw [e6, if_pos (by decide), e5]
        rcases i2 with ex | ⟨y, c, u1, u2, u3, u4, u5⟩
        · rw [ex, s4, s5, s1 y5 hy5]
          exact ⟨rfl, Or.inr ⟨y5, m, hy5, rfl, by omega, h7, Or.inl e5⟩⟩
        · rw [u2, s2 y y5 u1 hy5, s3 y y5 u1 hy5, s1 _ (by omega)]
          refine ⟨rfl, Or.inr ?_⟩
          rcases Nat.le_total y y5 with q | q
          · rw [Nat.min_eq_left q]; exact ⟨y, c, u1, rfl, by omega, u4, u5⟩
          · rw [Nat.min_eq_right q]; exact ⟨y5, m, hy5, rfl, by omega, h7, Or.inl e5⟩
      · have em : (if r 6 m < 0 then r 5 m else if r 5 m ≤ r 6 m then r 5 m else r 6 m) = nI (min y5 y6) := by
          rw [e6, e5, if_neg (nI_pos (by omega))]
          by_cases q : y5 ≤ y6
          · rw [if_pos (nI_le q (by omega)), Nat.min_eq_left q]
          · rw [if_neg (nI_ge (by omega) (by omega)), Nat.min_eq_right (by omega)]
        have hmn : ∃ c, c < m + 1 ∧ r 0 c = 7 ∧ (r 5 c = nI (min y5 y6) ∨ r 6 c = nI (min y5 y6)) := by
          rcases Nat.le_total y5 y6 with q | q
          · rw [Nat.min_eq_left q]; exact ⟨m, by omega, h7, Or.inl e5⟩
          · rw [Nat.min_eq_right q]; exact ⟨m, by omega, h7, Or.inr e6⟩
        rw [em, e5, e6]
        rcases i2 with ex | ⟨y, c, u1, u2, u3, u4, u5⟩
        · rw [ex, s4, s5, s2 y5 y6 hy5 hy6]
          obtain ⟨c, v1, v2⟩ := hmn
          exact ⟨rfl, Or.inr ⟨min y5 y6, c, by omega, rfl, v1, v2⟩⟩
        · rw [u2, s2 y y5 u1 hy5, s2 (min y y5) y6 (by omega) hy6, s3 y (min y5 y6) u1 (by omega), show min (min y y5) y6 = min y (min y5 y6) by omega]
          refine ⟨rfl, Or.inr ?_⟩
          rcases Nat.le_total y (min y5 y6) with q | q
          · rw [Nat.min_eq_left q]; exact ⟨y, c, u1, rfl, by omega, u4, u5⟩
          · rw [Nat.min_eq_right q]
            obtain ⟨c, v1, v2⟩ := hmn
            exact ⟨min y5 y6, c, by omega, rfl, v1, v2⟩
    · rw [if_neg h7]
      have hr : r 5 m = -1 ∧ r 6 m = -1 := by
        rcases hcase with ⟨q, _⟩ | ⟨_, _, _, _, q⟩ | ⟨_, _, q⟩
        · exact absurd q h7
        · exact q
        · exact q
      have s0 : ∀ z, soI z (-1) = z := fun z => by
        unfold soI
        by_cases q : z = -1
        · rw [if_pos q, q]
        · rw [if_neg q, if_pos rfl]
      rw [hr.1, hr.2, s0, s0]
      exact ⟨rfl, hup x i2⟩
