/-! Pure: class and reference side by side in a run; the ends. T: the class's rows, Q: the reference's; C, M: what the house has; Y: no end is later. -/
def sdP (n : Nat) (T : Nat → Nat → Int32) (tn cn mn fn : Nat → Nat) : Prop :=
  (∀ a, a < n → (tn a ≤ 1000 ∧ T 0 a = nI (tn a)) ∧ (cn a ≤ 16 ∧ T 1 a = nI (cn a)) ∧ (mn a ≤ 1000000 ∧ T 2 a = nI (mn a)) ∧ (fn a ≤ 1000 ∧ T 4 a = nI (fn a))) ∧
  (∀ a, a < n → ∃ q, q < 4 ∧ T 6 a = nI q) ∧ (∀ q, q < 4 → ∃ l, l ≤ 3 ∧ T 13 q = nI l) ∧
  (∀ a, a < n → ∀ i, n ≤ i → i < 32 → bt (T 9 a) i = false)
def qtP (T Q : Nat → Nat → Int32) : Prop := Q 0 = T 0 ∧ Q 1 = T 1 ∧ Q 2 = T 2 ∧ Q 3 = T 3 ∧ Q 4 = T 4 ∧ Q 5 = T 5 ∧ Q 6 = T 6 ∧ Q 7 = T 9 ∧ Q 8 = T 7 ∧ Q 11 = T 12 ∧ Q 12 = T 13
def rowI (w : Int32) (ag : Nat → Int32) (r : Nat → Nat → Int32) (Y a : Nat) : Prop := ∃ tr, tr ≤ 4 ∧ r 3 a = nI tr ∧
  ((r 0 a = 7 ∧ 1 ≤ tr ∧ ag a = nI (tr - 1) ∧ bt w a = true ∧ (∃ y, y ≤ Y ∧ r 5 a = nI y) ∧ (r 6 a = -1 ∨ ∃ y, y ≤ Y ∧ r 6 a = nI y)) ∨
   (r 0 a = 6 ∧ tr ≤ 3 ∧ ag a = nI tr ∧ bt w a = true ∧ r 5 a = -1 ∧ r 6 a = -1) ∨
   (¬ r 0 a = 7 ∧ ¬ r 0 a = 6 ∧ r 5 a = -1 ∧ r 6 a = -1))
def faR (r : Nat → Nat → Int32) (c : Nat) : Int32 := if r 6 c < 0 then 0 else 1
def cntI (n : Nat) (T : Nat → Nat → Int32) (f : Nat → Int32) (r : Nat → Nat → Int32) : Prop := f 3 = smI (r 0) (T 1) n ∧ f 4 = smI (r 0) (T 2) n ∧ f 5 = orI (r 0) (T 3) n ∧ f 6 = smI (r 0) (faR r) n
def locI (n : Nat) (T r : Nat → Nat → Int32) : Prop := ∀ a c, a < n → c < n → a ≠ c → r 0 a = 7 → r 0 c = 7 → T 3 a &&& T 3 c = 0
def capI (n C M : Nat) (cn mn : Nat → Nat) (f : Nat → Int32) (r : Nat → Nat → Int32) : Prop := ∃ X7 X8, smN (r 0) cn n ≤ X7 ∧ smN (r 0) mn n ≤ X8 ∧ X7 ≤ C ∧ X8 ≤ M ∧ f 7 = nI X7 ∧ f 8 = nI X8
def houI (C M : Nat) (f F : Nat → Int32) : Prop := f 0 = nI C ∧ f 1 = nI M ∧ F 0 = f 0 ∧ F 1 = f 1 ∧ F 2 = f 2 ∧ F 3 = f 7 ∧ F 4 = f 8 ∧ C ≤ 16 ∧ M ≤ 1000000
def RI (n : Nat) (T : Nat → Nat → Int32) (w : Int32) (C M : Nat) (cn mn : Nat → Nat) (Y : Nat) (f F ag : Nat → Int32) (r : Nat → Nat → Int32) : Prop := (∀ a, a < n → rowI w ag r Y a) ∧ cntI n T f r ∧ locI n T r ∧ capI n C M cn mn f r ∧ houI C M f F
def edV (fl : Nat → Int32) (m : Bool) (r : Nat → Nat → Int32) (a : Nat) : Int32 := if fl a < r 3 a then 1 else bif m then 6 else 2
theorem edV_7 {fl : Nat → Int32} {m : Bool} {r : Nat → Nat → Int32} {a : Nat} : ¬ edV fl m r a = 7 := by
  unfold edV
  split
  · decide
  · cases m <;> decide
theorem endR_rows {fl : Nat → Int32} {m : Bool} {r : Nat → Nat → Int32} {a : Nat} {sd ck : Int32} : endR fl m r a sd ck 0 = upd (r 0) a (edV fl m r a) ∧ endR fl m r a sd ck 3 = r 3 ∧ endR fl m r a sd ck 5 = upd (r 5) a (-1) ∧ endR fl m r a sd ck 6 = upd (r 6) a (-1) := by
  unfold endR edV
  split <;> exact ⟨rfl, rfl, rfl, rfl⟩
theorem lvF_rows {f : Nat → Int32} {c m l e : Int32} : lvF f c m l e 3 = f 3 - c ∧ lvF f c m l e 4 = f 4 - m ∧ lvF f c m l e 5 = f 5 &&& (l ^^^ (-1)) ∧ lvF f c m l e 6 = (if e = -1 then f 6 else f 6 - 1) ∧ lvF f c m l e 0 = f 0 ∧ lvF f c m l e 1 = f 1 ∧ lvF f c m l e 2 = f 2 ∧ lvF f c m l e 7 = f 7 ∧ lvF f c m l e 8 = f 8 := by
  unfold lvF
  by_cases h : e = -1
  · rw [if_pos h, if_pos h]
    exact ⟨rfl, rfl, rfl, rfl, rfl, rfl, rfl, rfl, rfl⟩
  · rw [if_neg h, if_neg h]
    exact ⟨rfl, rfl, rfl, rfl, rfl, rfl, rfl, rfl, rfl⟩
theorem i_sub0 (x : Int32) : x - 0 = x := by
  apply Int32.toBitVec_inj.mp
  show x.toBitVec - (0 : Int32).toBitVec = x.toBitVec
  rw [show (0 : Int32).toBitVec = 0#32 from rfl, BitVec.sub_zero]
theorem nI_ne_m1 {y : Nat} (h : y < 2147483648) : ¬ nI y = -1 := fun q => by
  have h3 : (nI y).toInt = (y : Int) := nI_toInt (by omega)
  rw [q, show (-1 : Int32).toInt = -1 by decide] at h3
  omega
/-- one try ends -/
theorem end_one {n : Nat} {T : Nat → Nat → Int32} {w : Int32} {C M : Nat} {cn mn : Nat → Nat} {Y : Nat} {f F ag : Nat → Int32} {r : Nat → Nat → Int32} {a : Nat} {m : Bool} {sd ck : Int32} (hY : Y < 1000000) (h : RI n T w C M cn mn Y f F ag r) (ha : a < n) (h7 : r 0 a = 7) (hm : m = true → r 3 a ≤ nI 3) :
    RI n T w C M cn mn Y (lvF f (T 1 a) (T 2 a) (T 3 a) (r 6 a)) (va_up F 5 ck) (agR (T 5) ag r a) (endR (T 5) m r a sd ck) := by
  obtain ⟨hrow, ⟨c3, c4, c5, c6⟩, hloc, ⟨X7, X8, x1, x2, x3, x4, x5, x6⟩, ⟨o1, o2, o3, o4, o5, o6, o7, o8, o9⟩⟩ := h
  obtain ⟨e0, e3, e5, e6⟩ := endR_rows (fl := T 5) (m := m) (r := r) (a := a) (sd := sd) (ck := ck)
  obtain ⟨l3, l4, l5, l6, l0, l1, l2, l7, l8⟩ := lvF_rows (f := f) (c := T 1 a) (m := T 2 a) (l := T 3 a) (e := r 6 a)
  obtain ⟨tr, t1, t2, hcase⟩ := hrow a ha
  have hrun : 1 ≤ tr ∧ ag a = nI (tr - 1) ∧ bt w a = true ∧ (r 6 a = -1 ∨ ∃ y, y ≤ Y ∧ r 6 a = nI y) := by
    rcases hcase with ⟨q1, q2, q3, q4, q5, q6⟩ | ⟨q1, _⟩ | ⟨q1, _⟩
    · exact ⟨q2, q3, q4, q6⟩
    · rw [h7] at q1; exact absurd q1 (by decide)
    · exact absurd h7 q1
  refine ⟨fun c hc => ?_, ⟨?_, ?_, ?_, ?_⟩, ?_, ⟨X7, X8, ?_, ?_, x3, x4, l7.trans x5, l8.trans x6⟩, ⟨l0.trans o1, l1.trans o2, o3.trans l0.symm, o4.trans l1.symm, o5.trans l2.symm, o6.trans l7.symm, o7.trans l8.symm, o8, o9⟩⟩
  · by_cases e : c = a
    · subst e
      refine ⟨tr, t1, by rw [e3]; exact t2, ?_⟩
      rw [e0, e5, e6, pk_us, pk_us, pk_us]
      by_cases hd : T 5 c < r 3 c
      · refine Or.inr (Or.inr ⟨?_, ?_, rfl, rfl⟩) <;> (unfold edV; rw [if_pos hd]; decide)
      · cases m
        · refine Or.inr (Or.inr ⟨?_, ?_, rfl, rfl⟩) <;> (unfold edV; rw [if_neg hd]; decide)
        · refine Or.inr (Or.inl ⟨by unfold edV; rw [if_neg hd]; rfl, ?_, ?_, hrun.2.2.1, rfl, rfl⟩)
          · have := hm rfl
            rw [t2, nI_leI (by omega) (by omega)] at this
            exact this
          · unfold agR
            rw [if_neg hd, pk_us, hrun.2.1, nI_1]
            congr 1
            omega
    · obtain ⟨tr, t1, t2, hcase⟩ := hrow c hc
      refine ⟨tr, t1, by rw [e3]; exact t2, ?_⟩
      rw [e0, e5, e6, pk_un e, pk_un e, pk_un e, agR_ne e]
      exact hcase
  · rw [l3, e0, smI_del ha h7 edV_7, c3]
  · rw [l4, e0, smI_del ha h7 edV_7, c4]
  · rw [l5, e0, orI_del ha h7 edV_7 (fun c hc hne h => hloc c a hc ha hne h h7), c5]
  · have hcg : smI (upd (r 0) a (edV (T 5) m r a)) (faR (endR (T 5) m r a sd ck)) n = smI (upd (r 0) a (edV (T 5) m r a)) (faR r) n := smI_congr (fun c hc => ⟨Iff.rfl, fun q => by
      have e : c ≠ a := fun e => by subst e; rw [pk_us] at q; exact edV_7 q
      unfold faR
      rw [e6, pk_un e]⟩)
    rw [l6, e0, hcg, smI_del ha h7 edV_7, ← c6]
    rcases hrun.2.2.2 with q | ⟨y, hy, q⟩
    · rw [if_pos q]
      unfold faR
      rw [q, if_pos (by decide), i_sub0]
    · rw [if_neg (by rw [q]; exact nI_ne_m1 (by omega))]
      unfold faR
      rw [q, if_neg (nI_pos (by omega))]
  · intro c d hc hd hne q1 q2
    rw [e0] at q1 q2
    have ec : c ≠ a := fun e => by subst e; rw [pk_us] at q1; exact edV_7 q1
    have ed : d ≠ a := fun e => by subst e; rw [pk_us] at q2; exact edV_7 q2
    rw [pk_un ec] at q1
    rw [pk_un ed] at q2
    exact hloc c d hc hd hne q1 q2
  · rw [e0]
    have := smN_del (x := cn) ha h7 (edV_7 (fl := T 5) (m := m) (r := r) (a := a))
    omega
  · rw [e0]
    have := smN_del (x := mn) ha h7 (edV_7 (fl := T 5) (m := m) (r := r) (a := a))
    omega
/-- at one action: both do the same -/
theorem end_step {n : Nat} {T Q : Nat → Nat → Int32} {w : Int32} {C M : Nat} {tn cn mn fn : Nat → Nat} {Y y0 : Nat} {f F ag : Nat → Int32} {r : Nat → Nat → Int32} {a : Nat} (hY : Y < 1000000) (hy0 : y0 < 1000000) (hs : sdP n T tn cn mn fn) (hq : qtP T Q) (h : RI n T w C M cn mn Y f F ag r) (ha : a < n) :
    (mES n Q (nI y0) a (F, ag, r)).2.2 = (oES n T (nI y0) a (f, r)).2 ∧ RI n T w C M cn mn Y (oES n T (nI y0) a (f, r)).1 (mES n Q (nI y0) a (F, ag, r)).1 (mES n Q (nI y0) a (F, ag, r)).2.1 (oES n T (nI y0) a (f, r)).2 ∧
    ((mES n Q (nI y0) a (F, ag, r)).1 5 = nI y0 ∨ (mES n Q (nI y0) a (F, ag, r)).1 5 = F 5) ∧ (∀ c, (oES n T (nI y0) a (f, r)).2 0 c = 7 → r 0 c = 7) ∧ ((oES n T (nI y0) a (f, r)).2 3 = r 3) ∧
    (r 0 a = 7 → (r 5 a = nI y0 ∨ r 6 a = nI y0) → ¬ (oES n T (nI y0) a (f, r)).2 0 a = 7 ∧ (mES n Q (nI y0) a (F, ag, r)).1 5 = nI y0) := by
  obtain ⟨q0, q1, q2, q3, q4, q5, q6, q7, q8, q11, q12⟩ := hq
  unfold oES mES
  dsimp only
  rw [q5, q6, q12, q11]
  have hmay : mayR n (T 6) (T 13) (T 12) r a = true → r 3 a ≤ nI 3 := by
    intro hm
    unfold mayR maB at hm
    rw [Bool.and_eq_true] at hm
    obtain ⟨q, hq4, eq⟩ := hs.2.1 a ha
    rw [eq, nI_clamp (by omega)] at hm
    obtain ⟨l, hl, el⟩ := hs.2.2.1 q hq4
    have := of_decide_eq_true hm.1
    rw [el] at this
    obtain ⟨tr, t1, t2, _⟩ := h.1 a ha
    rw [t2, nI_leI (by omega) (by omega)] at this ⊢
    omega
  have hst : ∀ sd : Int32, r 0 a = 7 → (∀ c, endR (T 5) (mayR n (T 6) (T 13) (T 12) r a) r a sd (nI y0) 0 c = 7 → r 0 c = 7) ∧ ¬ endR (T 5) (mayR n (T 6) (T 13) (T 12) r a) r a sd (nI y0) 0 a = 7 := by
    intro sd h7
    rw [(endR_rows (fl := T 5) (r := r) (a := a)).1]
    refine ⟨fun c q => ?_, by rw [pk_us]; exact edV_7⟩
    by_cases e : c = a
    · subst e; exact h7
    · rw [pk_un e] at q; exact q
  by_cases h7 : r 0 a = 7
  · rw [if_pos h7]
    by_cases h5 : r 5 a = nI y0
    · rw [if_pos h5, if_pos h5]
      exact ⟨rfl, end_one hY h ha h7 hmay, Or.inl rfl, (hst 0 h7).1, endR_rows.2.1, fun _ _ => ⟨(hst 0 h7).2, rfl⟩⟩
    · rw [if_neg h5, if_neg h5]
      by_cases h6 : r 6 a = nI y0
      · rw [if_pos h6, if_pos h6]
        exact ⟨rfl, end_one hY h ha h7 hmay, Or.inl rfl, (hst 1 h7).1, endR_rows.2.1, fun _ _ => ⟨(hst 1 h7).2, rfl⟩⟩
      · rw [if_neg h6, if_neg h6]
        exact ⟨rfl, h, Or.inr rfl, fun c q => q, rfl, fun _ q => absurd q (fun q => q.elim h5 h6)⟩
  · rw [if_neg h7]
    obtain ⟨tr, t1, t2, hcase⟩ := h.1 a ha
    have hno : r 5 a = -1 ∧ r 6 a = -1 := by
      rcases hcase with ⟨q1, _⟩ | ⟨_, _, _, _, q5, q6⟩ | ⟨_, _, q5, q6⟩
      · exact absurd q1 h7
      · exact ⟨q5, q6⟩
      · exact ⟨q5, q6⟩
    have n5 : ¬ r 5 a = nI y0 := fun q => nI_ne_m1 (by omega) (q.symm.trans hno.1)
    have n6 : ¬ r 6 a = nI y0 := fun q => nI_ne_m1 (by omega) (q.symm.trans hno.2)
    rw [if_neg n5, if_neg n6]
    exact ⟨rfl, h, Or.inr rfl, fun c q => q, rfl, fun q => absurd q h7⟩
theorem oES_ne {n : Nat} {T : Nat → Nat → Int32} {ck : Int32} {a c : Nat} {p : FR} (h : c ≠ a) (j : Nat) : (oES n T ck a p).2 j c = p.2 j c := by
  unfold oES
  split
  · exact endR_ne h
  · split
    · exact endR_ne h
    · rfl
/-- all the ends of one time -/
theorem end_all {n : Nat} {T Q : Nat → Nat → Int32} {w : Int32} {C M : Nat} {tn cn mn fn : Nat → Nat} {Y y0 : Nat} {f F ag : Nat → Int32} {r : Nat → Nat → Int32} (hY : Y < 1000000) (hy0 : y0 < 1000000) (hs : sdP n T tn cn mn fn) (hq : qtP T Q) (h : RI n T w C M cn mn Y f F ag r) : ∀ k, k ≤ n →
    (itN (mES n Q (nI y0)) k (F, ag, r)).2.2 = (itN (oES n T (nI y0)) k (f, r)).2 ∧ RI n T w C M cn mn Y (itN (oES n T (nI y0)) k (f, r)).1 (itN (mES n Q (nI y0)) k (F, ag, r)).1 (itN (mES n Q (nI y0)) k (F, ag, r)).2.1 (itN (oES n T (nI y0)) k (f, r)).2 ∧
    ((itN (mES n Q (nI y0)) k (F, ag, r)).1 5 = nI y0 ∨ (itN (mES n Q (nI y0)) k (F, ag, r)).1 5 = F 5) ∧ (∀ c, (itN (oES n T (nI y0)) k (f, r)).2 0 c = 7 → r 0 c = 7) ∧ ((itN (oES n T (nI y0)) k (f, r)).2 3 = r 3) ∧
    (∀ c, c < k → r 0 c = 7 → (r 5 c = nI y0 ∨ r 6 c = nI y0) → ¬ (itN (oES n T (nI y0)) k (f, r)).2 0 c = 7 ∧ (itN (mES n Q (nI y0)) k (F, ag, r)).1 5 = nI y0) ∧ (∀ c, k ≤ c → ∀ j, (itN (oES n T (nI y0)) k (f, r)).2 j c = r j c)
  | 0, _ => ⟨rfl, h, Or.inr rfl, fun c q => q, rfl, fun c hc => absurd hc (Nat.not_lt_zero c), fun c _ j => rfl⟩
  | k + 1, hk => by
    obtain ⟨i1, i2, i3, i4, i5, i6, i7⟩ := end_all hY hy0 hs hq h k (by omega)
    show (mES n Q (nI y0) k (itN (mES n Q (nI y0)) k (F, ag, r))).2.2 = (oES n T (nI y0) k (itN (oES n T (nI y0)) k (f, r))).2 ∧ _
    generalize hg : itN (mES n Q (nI y0)) k (F, ag, r) = g at i1 i2 i3 i6
    generalize hp : itN (oES n T (nI y0)) k (f, r) = p at i1 i2 i4 i5 i6 i7
    rw [show itN (mES n Q (nI y0)) (k + 1) (F, ag, r) = mES n Q (nI y0) k g by rw [← hg]; rfl, show itN (oES n T (nI y0)) (k + 1) (f, r) = oES n T (nI y0) k p by rw [← hp]; rfl]
    obtain ⟨g1, g2, g3⟩ := g
    obtain ⟨p1, p2⟩ := p
    dsimp only at i1 i2 i3 i4 i5 i6 i7
    subst i1
    obtain ⟨s1, s2, s3, s4, s5, s6⟩ := end_step hY hy0 hs hq i2 (show k < n by omega)
    refine ⟨s1, s2, ?_, fun c q => i4 c (s4 c q), s5.trans i5, fun c hc q1 q2 => ?_, fun c hc j => ?_⟩
    · rcases s3 with s3 | s3
      · exact Or.inl s3
      · rcases i3 with i3 | i3
        · exact Or.inl (s3.trans i3)
        · exact Or.inr (s3.trans i3)
    · by_cases e : c = k
      · subst e
        rw [← i7 c (Nat.le_refl c) 0] at q1
        rw [← i7 c (Nat.le_refl c) 5, ← i7 c (Nat.le_refl c) 6] at q2
        exact s6 q1 q2
      · obtain ⟨u1, u2⟩ := i6 c (by omega) q1 q2
        refine ⟨fun q => u1 (s4 c q), ?_⟩
        rcases s3 with s3 | s3
        · exact s3
        · exact s3.trans u2
    · rw [oES_ne (by omega)]
      exact i7 c (by omega) j
