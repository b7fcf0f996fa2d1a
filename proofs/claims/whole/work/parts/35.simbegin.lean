/-! Pure: class and reference side by side: those that begin. -/
def capB (n C M : Nat) (cn mn : Nat → Nat) (f F : Nat → Int32) (r : Nat → Nat → Int32) : Prop := ∃ B7 B8, F 3 = nI B7 ∧ F 4 = nI B8 ∧ B7 ≤ C ∧ B8 ≤ M ∧ smN (r 0) cn n ≤ C ∧ smN (r 0) mn n ≤ M ∧ f 7 = nI (max B7 (smN (r 0) cn n)) ∧ f 8 = nI (max B8 (smN (r 0) mn n))
def houB (C M : Nat) (f F : Nat → Int32) : Prop := f 0 = nI C ∧ f 1 = nI M ∧ F 0 = f 0 ∧ F 1 = f 1 ∧ F 2 = f 2 ∧ C ≤ 16 ∧ M ≤ 1000000
def RJ (n : Nat) (T : Nat → Nat → Int32) (w : Int32) (C M : Nat) (cn mn : Nat → Nat) (Y : Nat) (f F ag : Nat → Int32) (r : Nat → Nat → Int32) : Prop := (∀ a, a < n → rowI w ag r Y a) ∧ cntI n T f r ∧ locI n T r ∧ capB n C M cn mn f F r ∧ houB C M f F
theorem RI_J {n : Nat} {T : Nat → Nat → Int32} {w : Int32} {C M : Nat} {cn mn : Nat → Nat} {Y : Nat} {f F ag : Nat → Int32} {r : Nat → Nat → Int32} (h : RI n T w C M cn mn Y f F ag r) : RJ n T w C M cn mn Y f F ag r := by
  obtain ⟨h1, h2, h3, ⟨X7, X8, x1, x2, x3, x4, x5, x6⟩, ⟨o1, o2, o3, o4, o5, o6, o7, o8, o9⟩⟩ := h
  exact ⟨h1, h2, h3, ⟨X7, X8, o6.trans x5, o7.trans x6, x3, x4, by omega, by omega, by rw [Nat.max_eq_left x1]; exact x5, by rw [Nat.max_eq_left x2]; exact x6⟩, ⟨o1, o2, o3, o4, o5, o8, o9⟩⟩
theorem mxI_nJ {a b : Nat} (ha : a < 2 ^ 31) (hb : b < 2 ^ 31) : mxI (nI a) (nI b) = nI (max a b) := by
  unfold mxI
  by_cases h : a < b
  · rw [if_pos (nI_lt h hb), Nat.max_eq_right (by omega)]
  · rw [if_neg (nI_nlt (by omega) ha), Nat.max_eq_left (by omega)]
theorem sm_N {n : Nat} {T : Nat → Nat → Int32} {tn cn mn fn : Nat → Nat} (hs : sdP n T tn cn mn fn) (st : Nat → Int32) : smI st (T 1) n = nI (smN st cn n) ∧ smI st (T 2) n = nI (smN st mn n) :=
  ⟨smI_N (fun a ha => (hs.1 a ha).2.1.2), smI_N (fun a ha => (hs.1 a ha).2.2.1.2)⟩
theorem J_RI {n : Nat} {T Q : Nat → Nat → Int32} {w : Int32} {C M : Nat} {tn cn mn fn : Nat → Nat} {Y : Nat} {f F ag : Nat → Int32} {r : Nat → Nat → Int32} (hs : sdP n T tn cn mn fn) (hq : qtP T Q) (h : RJ n T w C M cn mn Y f F ag r) : RI n T w C M cn mn Y f (msF F n Q r) ag r := by
  obtain ⟨h1, h2, h3, ⟨B7, B8, b1, b2, b3, b4, b5, b6, b7, b8⟩, ⟨o1, o2, o3, o4, o5, o8, o9⟩⟩ := h
  obtain ⟨s1, s2⟩ := sm_N hs (r 0)
  refine ⟨h1, h2, h3, ⟨max B7 (smN (r 0) cn n), max B8 (smN (r 0) mn n), by omega, by omega, by omega, by omega, b7, b8⟩, ⟨o1, o2, o3, o4, o5, ?_, ?_, o8, o9⟩⟩
  · show mxI (F 3) (smI (r 0) (Q 1) n) = f 7
    rw [hq.2.1, s1, b1, b7, mxI_nJ (by omega) (by omega)]
  · show mxI (F 4) (smI (r 0) (Q 2) n) = f 8
    rw [hq.2.2.1, s2, b2, b8, mxI_nJ (by omega) (by omega)]
theorem ts_row {r : Nat → Nat → Int32} {j i a : Nat} {v : Int32} (h : i ≠ j) : ts r j a v i = r i := if_neg h
theorem ts_at {r : Nat → Nat → Int32} {j a : Nat} {v : Int32} : ts r j a v j = upd (r j) a v := if_pos rfl
theorem bgR_rows {r : Nat → Nat → Int32} {a : Nat} {ck tm fr : Int32} {aw : Bool} : bgR r a ck tm fr aw 0 = upd (r 0) a 7 ∧ bgR r a ck tm fr aw 3 = upd (r 3) a (r 3 a + 1) ∧ bgR r a ck tm fr aw 5 = upd (r 5) a (ck + tm) ∧ bgR r a ck tm fr aw 6 = (bif aw then upd (r 6) a (ck + fr) else r 6) ∧ bgR r a ck tm fr aw 1 = (if r 3 a = 0 then upd (r 1) a ck else r 1) ∧ ∀ j, j ≠ 0 → j ≠ 1 → j ≠ 3 → j ≠ 5 → j ≠ 6 → bgR r a ck tm fr aw j = r j := by
  unfold bgR bgT bgA
  cases aw <;> dsimp only [cond_true, cond_false] <;> split <;> refine ⟨rfl, rfl, rfl, rfl, rfl, fun j h0 h1 h3 h5 h6 => ?_⟩
  · rw [ts_row h3, ts_row h1, ts_row h5, ts_row h0]
  · rw [ts_row h3, ts_row h5, ts_row h0]
  · rw [ts_row h3, ts_row h1, ts_row h6, ts_row h5, ts_row h0]
  · rw [ts_row h3, ts_row h6, ts_row h5, ts_row h0]
theorem mb_bg {r : Nat → Nat → Int32} {a : Nat} {ck tm fr : Int32} {aw : Bool} (h : r 6 a = -1) : mbR r a ck tm fr aw = bgR r a ck tm fr aw := by
  obtain ⟨e0, e3, e5, e6, e1, ej⟩ := bgR_rows (r := r) (a := a) (ck := ck) (tm := tm) (fr := fr) (aw := aw)
  funext j
  by_cases h0 : j = 0
  · subst h0; rw [e0]; rfl
  · by_cases h1 : j = 1
    · subst h1
      rw [e1]
      show upd (r 1) a (if r 3 a = 0 then ck else r 1 a) = _
      split
      · rfl
      · exact upd_id rfl
    · by_cases h3 : j = 3
      · subst h3; rw [e3]; rfl
      · by_cases h5 : j = 5
        · subst h5; rw [e5]; rfl
        · by_cases h6 : j = 6
          · subst h6
            rw [e6]
            show upd (r 6) a (bif aw then ck + fr else -1) = _
            cases aw
            · exact upd_id h
            · rfl
          · rw [ej j h0 h1 h3 h5 h6]
            unfold mbR
            rw [ts_row h6, ts_row h5, ts_row h3, ts_row h1, ts_row h0]
theorem bgF_rows {f : Nat → Int32} {c m l : Int32} {aw : Bool} : bgF f c m l aw 3 = f 3 + c ∧ bgF f c m l aw 4 = f 4 + m ∧ bgF f c m l aw 5 = f 5 ||| l ∧ bgF f c m l aw 6 = (bif aw then f 6 + 1 else f 6) ∧ bgF f c m l aw 0 = f 0 ∧ bgF f c m l aw 1 = f 1 ∧ bgF f c m l aw 2 = f 2 ∧ bgF f c m l aw 7 = mxI (f 7) (f 3 + c) ∧ bgF f c m l aw 8 = mxI (f 8) (f 4 + m) := by
  unfold bgF tkF
  generalize mxI (f 7) (f 3 + c) = x
  generalize mxI (f 8) (f 4 + m) = y
  cases aw <;> exact ⟨rfl, rfl, rfl, rfl, rfl, rfl, rfl, rfl, rfl⟩
theorem fr_eq {n : Nat} {T Q : Nat → Nat → Int32} {w : Int32} {C M : Nat} {tn cn mn fn : Nat → Nat} {Y : Nat} {f F ag : Nat → Int32} {r : Nat → Nat → Int32} {a : Nat} (hs : sdP n T tn cn mn fn) (hq : qtP T Q) (h : RJ n T w C M cn mn Y f F ag r) (ha : a < n) : mfB F n (mT Q r) a = frB f (T 1 a) (T 2 a) (T 3 a) ∧ (frB f (T 1 a) (T 2 a) (T 3 a) = true → smN (r 0) cn n + cn a ≤ C ∧ smN (r 0) mn n + mn a ≤ M ∧ T 3 a &&& f 5 = 0) := by
  obtain ⟨h1, ⟨c3, c4, c5, c6⟩, h3, ⟨B7, B8, b1, b2, b3, b4, b5, b6, b7, b8⟩, ⟨o1, o2, o3, o4, o5, o8, o9⟩⟩ := h
  obtain ⟨s1, s2⟩ := sm_N hs (r 0)
  obtain ⟨_, ⟨k1, k2⟩, ⟨k3, k4⟩, _⟩ := hs.1 a ha
  have e1 : (T 1 a ≤ f 0 - f 3) ↔ smN (r 0) cn n + cn a ≤ C := by
    rw [k2, o1, c3, s1, pk_sub b5, nI_leI (by omega) (by omega)]; omega
  have e2 : (T 2 a ≤ f 1 - f 4) ↔ smN (r 0) mn n + mn a ≤ M := by
    rw [k4, o2, c4, s2, pk_sub b6, nI_leI (by omega) (by omega)]; omega
  have g1 : (smI (r 0) (T 1) n + T 1 a ≤ F 0) ↔ smN (r 0) cn n + cn a ≤ C := by
    rw [k2, o3, o1, s1, nI_add, nI_leI (by omega) (by omega)]
  have g2 : (smI (r 0) (T 2) n + T 2 a ≤ F 1) ↔ smN (r 0) mn n + mn a ≤ M := by
    rw [k4, o4, o2, s2, nI_add, nI_leI (by omega) (by omega)]
  constructor
  · show (decide (smI (r 0) (Q 1) n + Q 1 a ≤ F 0) && (decide (smI (r 0) (Q 2) n + Q 2 a ≤ F 1) && decide (orI (r 0) (Q 3) n &&& Q 3 a = 0))) = _
    unfold frB
    rw [hq.2.1, hq.2.2.1, hq.2.2.2.1, c5, Int32.and_comm (T 3 a), decide_eq_decide.mpr (e1.trans g1.symm), decide_eq_decide.mpr (e2.trans g2.symm)]
  · intro q
    unfold frB at q
    rw [Bool.and_eq_true, Bool.and_eq_true] at q
    exact ⟨e1.mp (of_decide_eq_true q.1), e2.mp (of_decide_eq_true q.2.1), of_decide_eq_true q.2.2⟩
/-- one try begins -/
theorem begin_one {n : Nat} {T Q : Nat → Nat → Int32} {w : Int32} {C M : Nat} {tn cn mn fn : Nat → Nat} {Y y0 : Nat} {f F ag : Nat → Int32} {r : Nat → Nat → Int32} {a : Nat} (hs : sdP n T tn cn mn fn) (hq : qtP T Q) (h : RJ n T w C M cn mn Y f F ag r) (ha : a < n) (h6 : r 0 a = 6) (hY : y0 + 1000 ≤ Y) (hY2 : Y < 1000000) (hf : frB f (T 1 a) (T 2 a) (T 3 a) = true) :
    mbR r a (nI y0) (Q 0 a) (Q 4 a) (awB (Q 11 3) (Q 4 a) (smI (r 0) (faI (mT Q r)) n) (F 2)) = bgR r a (nI y0) (T 0 a) (T 4 a) (awB (T 12 3) (T 4 a) (f 6) (f 2)) ∧
    RJ n T w C M cn mn Y (bgF f (T 1 a) (T 2 a) (T 3 a) (awB (T 12 3) (T 4 a) (f 6) (f 2))) F ag (bgR r a (nI y0) (T 0 a) (T 4 a) (awB (T 12 3) (T 4 a) (f 6) (f 2))) := by
  obtain ⟨fq1, fq2, fq3⟩ := (fr_eq hs hq h ha).2 hf
  obtain ⟨h1, ⟨c3, c4, c5, c6⟩, h3, ⟨B7, B8, b1, b2, b3, b4, b5, b6, b7, b8⟩, ⟨o1, o2, o3, o4, o5, o8, o9⟩⟩ := h
  obtain ⟨s1, s2⟩ := sm_N hs (r 0)
  obtain ⟨⟨k01, k02⟩, ⟨k1, k2⟩, ⟨k3, k4⟩, ⟨k5, k6⟩⟩ := hs.1 a ha
  obtain ⟨tr, t1, t2, hcase⟩ := h1 a ha
  have hw : tr ≤ 3 ∧ ag a = nI tr ∧ bt w a = true ∧ r 5 a = -1 ∧ r 6 a = -1 := by
    rcases hcase with ⟨q, _⟩ | ⟨_, q⟩ | ⟨_, q, _⟩
    · rw [h6] at q; exact absurd q (by decide)
    · exact q
    · exact absurd h6 q
  have n7 : ¬ r 0 a = 7 := by rw [h6]; decide
  have efa : faI (mT Q r) = faR r := rfl
  constructor
  · rw [mb_bg hw.2.2.2.2, hq.1, hq.2.2.2.2.1, hq.2.2.2.2.2.2.2.2.2.1, efa, c6, o5]
  · generalize awB (T 12 3) (T 4 a) (f 6) (f 2) = aw
    obtain ⟨e0, e3, e5, e6, _, _⟩ := bgR_rows (r := r) (a := a) (ck := nI y0) (tm := T 0 a) (fr := T 4 a) (aw := aw)
    obtain ⟨g3, g4, g5, g6, g0, g1, g2, g7, g8⟩ := bgF_rows (f := f) (c := T 1 a) (m := T 2 a) (l := T 3 a) (aw := aw)
    have eN1 : smN (upd (r 0) a 7) cn n = smN (r 0) cn n + cn a := smN_add ha n7
    have eN2 : smN (upd (r 0) a 7) mn n = smN (r 0) mn n + mn a := smN_add ha n7
    refine ⟨fun c hc => ?_, ⟨?_, ?_, ?_, ?_⟩, fun c d hc hd hne q1 q2 => ?_, ⟨B7, B8, b1, b2, b3, b4, ?_, ?_, ?_, ?_⟩, ⟨g0.trans o1, g1.trans o2, o3.trans g0.symm, o4.trans g1.symm, o5.trans g2.symm, o8, o9⟩⟩
    · by_cases e : c = a
      · subst e
        refine ⟨tr + 1, by omega, by rw [e3, pk_us, t2, nI_1], Or.inl ⟨by rw [e0, pk_us], by omega, hw.2.1, hw.2.2.1, ⟨y0 + tn c, by omega, by rw [e5, pk_us, k02, nI_add]⟩, ?_⟩⟩
        rw [e6]
        cases aw
        · exact Or.inl hw.2.2.2.2
        · exact Or.inr ⟨y0 + fn c, by omega, by rw [cond_true, pk_us, k6, nI_add]⟩
      · obtain ⟨tr, t1, t2, hcase⟩ := h1 c hc
        refine ⟨tr, t1, by rw [e3, pk_un e]; exact t2, ?_⟩
        have e6' : bgR r a (nI y0) (T 0 a) (T 4 a) aw 6 c = r 6 c := by rw [e6]; cases aw; exact rfl; exact pk_un e
        rw [e0, e5, e6', pk_un e, pk_un e]
        exact hcase
    · rw [g3, e0, smI_add ha n7, c3]
    · rw [g4, e0, smI_add ha n7, c4]
    · rw [g5, e0, orI_add ha n7, c5]
    · have hcg : smI (r 0) (faR (bgR r a (nI y0) (T 0 a) (T 4 a) aw)) n = smI (r 0) (faR r) n := smI_congr (fun c hc => ⟨Iff.rfl, fun q => by
        have e : c ≠ a := fun e => by subst e; exact n7 q
        unfold faR
        rw [e6]
        cases aw
        · rfl
        · rw [cond_true, pk_un e]⟩)
      rw [g6, e0, smI_add ha n7, hcg, ← c6]
      unfold faR
      rw [e6]
      cases aw
      · rw [cond_false, cond_false, hw.2.2.2.2, if_pos (by decide), Int32.add_zero]
      · rw [cond_true, cond_true, pk_us, k6, nI_add, if_neg (nI_pos (by omega))]
    · rw [e0] at q1 q2
      have hx : ∀ d, d < n → r 0 d = 7 → T 3 a &&& T 3 d = 0 := fun d hd q => by
        rw [b_and0]
        intro i hi i1 i2
        refine (b_and0 _ _).mp fq3 i hi i1 ?_
        rw [c5, bt_orI]
        exact ⟨d, hd, q, i2⟩
      by_cases ec : c = a
      · subst ec
        rw [pk_un (fun q => hne q.symm)] at q2
        exact hx d hd q2
      · rw [pk_un ec] at q1
        by_cases ed : d = a
        · subst ed
          rw [Int32.and_comm]
          exact hx c hc q1
        · rw [pk_un ed] at q2
          exact h3 c d hc hd hne q1 q2
    · rw [e0, eN1]; exact fq1
    · rw [e0, eN2]; exact fq2
    · rw [g7, e0, eN1, b7, c3, s1, k2, nI_add, mxI_nJ (by omega) (by omega)]
      congr 1
      omega
    · rw [g8, e0, eN2, b8, c4, s2, k4, nI_add, mxI_nJ (by omega) (by omega)]
      congr 1
      omega
