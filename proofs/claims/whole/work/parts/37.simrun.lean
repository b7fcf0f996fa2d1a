/-! Pure: the whole run, class and reference side by side. -/
theorem rowI_mono {w : Int32} {ag : Nat → Int32} {r : Nat → Nat → Int32} {Y Z a : Nat} (hYZ : Y ≤ Z) (h : rowI w ag r Y a) : rowI w ag r Z a := by
  obtain ⟨tr, t1, t2, hc⟩ := h
  refine ⟨tr, t1, t2, ?_⟩
  rcases hc with ⟨a1, a2, a3, a4, ⟨y, y1, y2⟩, a6⟩ | hc
  · refine Or.inl ⟨a1, a2, a3, a4, ⟨y, by omega, y2⟩, ?_⟩
    rcases a6 with a6 | ⟨z, z1, z2⟩
    · exact Or.inl a6
    · exact Or.inr ⟨z, by omega, z2⟩
  · exact Or.inr hc
theorem RJ_mono {n : Nat} {T : Nat → Nat → Int32} {w : Int32} {C M : Nat} {cn mn : Nat → Nat} {Y Z : Nat} {f F ag : Nat → Int32} {r : Nat → Nat → Int32} (hYZ : Y ≤ Z) (h : RJ n T w C M cn mn Y f F ag r) : RJ n T w C M cn mn Z f F ag r := ⟨fun a ha => rowI_mono hYZ (h.1 a ha), h.2⟩
theorem cnt_pos {p : Nat → Bool} {c : Nat} : ∀ {n : Nat}, c < n → p c = true → 1 ≤ cntB p n
  | 0, h, _ => absurd h (Nat.not_lt_zero c)
  | n + 1, h, hp => by
    rw [cntB]
    by_cases e : c = n
    · subst e; rw [hp, cond_true]; omega
    · have := cnt_pos (n := n) (by omega) hp
      omega
def SI (n : Nat) (T : Nat → Nat → Int32) (w : Int32) (C M : Nat) (cn mn : Nat → Nat) (i y0 : Nat) (s : BS) (F ag : Nat → Int32) : Prop :=
  RI n T w C M cn mn (1000 * i) s.1 F ag s.2.2.1 ∧ s.2.2.2 = trs s.2.2.1 n ∧ y0 ≤ 1000 * i ∧ ((i = 0 ∧ F 5 = nI y0) ∨ (1 ≤ i ∧ (∃ c, c < n ∧ s.2.2.1 0 c = 7 ∧ (s.2.2.1 5 c = nI y0 ∨ s.2.2.1 6 c = nI y0)) ∧ i - 1 + c7 s.2.2.1 n ≤ s.2.2.2))
theorem trs_96 {n : Nat} {w : Int32} {ag : Nat → Int32} {r : Nat → Nat → Int32} {Y : Nat} (hn : n ≤ 24) (h : ∀ a, a < n → rowI w ag r Y a) : trs r n ≤ 96 := by
  have := trs_le (p := fun _ => false) h (fun c _ q => absurd q (by decide))
  omega
theorem sim_step {n : Nat} {T Q : Nat → Nat → Int32} {w : Int32} {C M : Nat} {tn cn mn fn : Nat → Nat} {i y0 : Nat} {s : BS} {F ag : Nat → Int32} (hn : n ≤ 24) (hs : sdP n T tn cn mn fn) (hq : qtP T Q) (hR : ∀ c, c < n → bt w c = true → T 11 c = Q 13 c) (hi : i ≤ 96) (h : SI n T w C M cn mn i y0 s F ag) :
    (∀ a, a < n → s.2.2.1 0 a = 7 → ∃ c, c < 100 ∧ ag a = nI c ∧ s.2.2.1 3 a = nI (c + 1)) ∧ (oMd n T (nI y0) s).2.2.2 + cntB (oPd n T (oMd n T (nI y0) s)) n ≤ 96 ∧ (mMd n Q (nI y0) (F, ag, s.2)).2.2.2.2 + cntB (mPd n Q (mMd n Q (nI y0) (F, ag, s.2))) n ≤ 96 ∧
    ∃ F2 ag2, mSt n Q (nI y0) (F, ag, s.2) = (F2, ag2, (oSt n T (nI y0) s).2) ∧ RI n T w C M cn mn (1000 * (i + 1)) (oSt n T (nI y0) s).1 F2 ag2 (oSt n T (nI y0) s).2.2.1 ∧ (oSt n T (nI y0) s).2.2.2 ≤ 96 ∧ F2 5 = nI y0 ∧
      (oNe n T (oSt n T (nI y0) s) = -1 ∨ ∃ y, oNe n T (oSt n T (nI y0) s) = nI y ∧ y < 1000000 ∧ SI n T w C M cn mn (i + 1) y (oSt n T (nI y0) s) F2 ag2) := by
  obtain ⟨hRI, hb, hy0, hcase⟩ := h
  obtain ⟨a1, a2, a3, a4, a5, a6, a7⟩ := end_all (Y := 1000 * i) (y0 := y0) (by omega) (by omega) hs hq hRI n (Nat.le_refl n)
  have hF5 : (itN (mES n Q (nI y0)) n (F, ag, s.2.2.1)).1 5 = nI y0 := by
    rcases hcase with ⟨_, e⟩ | ⟨_, ⟨c, c1, c2, c3⟩, _⟩
    · rcases a3 with a3 | a3
      · exact a3
      · exact a3.trans e
    · exact (a6 c c1 c2 c3).2
  have hc7 : i + c7 (itN (oES n T (nI y0)) n (s.1, s.2.2.1)).2 n ≤ s.2.2.2 ∨ i = 0 := by
    rcases hcase with ⟨e, _⟩ | ⟨e, ⟨c, c1, c2, c3⟩, c4⟩
    · exact Or.inr e
    · refine Or.inl ?_
      have hl : c7 (itN (oES n T (nI y0)) n (s.1, s.2.2.1)).2 n < c7 s.2.2.1 n := cntB_lt (fun d _ q => decide_eq_true (a4 d (of_decide_eq_true q))) ⟨c, c1, decide_eq_false (a6 c c1 c2 c3).1, decide_eq_true c2⟩
      omega
  have hc0 : c7 (itN (oES n T (nI y0)) n (s.1, s.2.2.1)).2 n ≤ c7 s.2.2.1 n := cntB_le2 (fun d _ q => decide_eq_true (a4 d (of_decide_eq_true q)))
  have hpos : ∀ a, a < n → s.2.2.1 0 a = 7 → 1 ≤ (s.2.2.1 3 a).toNatClampNeg := fun a ha h7 => by
    obtain ⟨tr, t1, t2, hcs⟩ := hRI.1 a ha
    rw [t2, nI_clamp (by omega)]
    rcases hcs with ⟨_, q, _⟩ | ⟨q, _⟩ | ⟨q, _⟩
    · exact q
    · rw [h7] at q; exact absurd q (by decide)
    · exact absurd h7 q
  have hc1 : ∀ m, m ≤ n → cntB (fun a => decide (s.2.2.1 0 a = 7)) m ≤ suN (fun a => (s.2.2.1 3 a).toNatClampNeg) m := fun m => by
    induction m with
    | zero => intro _; exact Nat.le_refl 0
    | succ m ih =>
      intro hm
      have := ih (by omega)
      rw [cntB, suN]
      by_cases q : s.2.2.1 0 m = 7
      · have := hpos m (by omega) q
        rw [decide_eq_true q, cond_true]
        omega
      · rw [decide_eq_false q, cond_false]
        omega
  have hc1 : c7 s.2.2.1 n ≤ s.2.2.2 := by rw [hb]; exact hc1 n (Nat.le_refl n)
  have hc8 : i + c7 (itN (oES n T (nI y0)) n (s.1, s.2.2.1)).2 n ≤ s.2.2.2 := by
    rcases hc7 with q | q
    · exact q
    · omega
  have ew : (mMd n Q (nI y0) (F, ag, s.2)) = ((itN (mES n Q (nI y0)) n (F, ag, s.2.2.1)).1, (itN (mES n Q (nI y0)) n (F, ag, s.2.2.1)).2.1, (oMd n T (nI y0) s).2) := by
    unfold mMd oMd
    dsimp only
    rw [a1, hq.2.2.2.2.2.2.2.1, hq.2.2.2.2.2.2.2.2.2.1]
  rw [ew]
  have eo : oMd n T (nI y0) s = ((itN (oES n T (nI y0)) n (s.1, s.2.2.1)).1, s.2.1, mdR n (T 9) (T 12 1) (itN (oES n T (nI y0)) n (s.1, s.2.2.1)).2, s.2.2.2) := rfl
  have hRI1 := RI_md (nd := T 9) (on := T 12 1) a2
  have e3 : mdR n (T 9) (T 12 1) (itN (oES n T (nI y0)) n (s.1, s.2.2.1)).2 3 = s.2.2.1 3 := (mdR_j (by omega)).trans a5
  have e7 : c7 (mdR n (T 9) (T 12 1) (itN (oES n T (nI y0)) n (s.1, s.2.2.1)).2) n = c7 (itN (oES n T (nI y0)) n (s.1, s.2.2.1)).2 n := cntB_congr (fun c _ => decide_eq_decide.mpr (mdR_7 c).symm)
  unfold mSt oSt
  rw [ew, eo]
  generalize (itN (mES n Q (nI y0)) n (F, ag, s.2.2.1)).1 = F1 at hRI1 hF5
  generalize (itN (mES n Q (nI y0)) n (F, ag, s.2.2.1)).2.1 = ag1 at hRI1
  generalize mdR n (T 9) (T 12 1) (itN (oES n T (nI y0)) n (s.1, s.2.2.1)).2 = r1 at hRI1 e3 e7
  generalize (itN (oES n T (nI y0)) n (s.1, s.2.2.1)).1 = f1 at hRI1
  generalize c7 (itN (oES n T (nI y0)) n (s.1, s.2.2.1)).2 n = z7 at e7 hc8
  have hb1 : s.2.2.2 = trs r1 n := by unfold trs; rw [e3]; exact hb
  have hp6 : ∀ c, c < n → oPd n T (f1, s.2.1, r1, s.2.2.2) c = true → r1 0 c = 6 := fun c _ q => by
    unfold oPd rdO at q
    rw [Bool.and_eq_true, Bool.and_eq_true] at q
    exact of_decide_eq_true q.1.1
  have hpe : ∀ c, c < n → oPd n T (f1, s.2.1, r1, s.2.2.2) c = mPd n Q (F1, ag1, s.2.1, r1, s.2.2.2) c := fun c hc => pd_eq hn hs hq hc
  have hle := trs_le hRI1.1 hp6
  have hrow6 : ∀ c, c < n → r1 0 c = 6 → bt w c = true := fun c hc q6 => by
    obtain ⟨tr, t1, t2, hcs⟩ := hRI1.1 c hc
    rcases hcs with ⟨q, _⟩ | ⟨_, _, _, q, _⟩ | ⟨_, q, _⟩
    · rw [q6] at q; exact absurd q (by decide)
    · exact q
    · exact absurd q6 q
  obtain ⟨g1, g2, g3, g4⟩ := begin_all (F := F1) (ag := ag1) hs hq (show y0 + 1000 ≤ 1000 * (i + 1) by omega) (by omega) n (oPd n T (f1, s.2.1, r1, s.2.2.2)) (mPd n Q (F1, ag1, s.2.1, r1, s.2.2.2)) (f1, s.2.1, r1, s.2.2.2) (RJ_mono (by omega) (RI_J hRI1)) hpe (fun c hc q => ⟨hp6 c hc q, hR c hc (hrow6 c hc (hp6 c hc q))⟩) hb1
  refine ⟨fun a ha h7 => ?_, ?_, ?_, ?_⟩
  · obtain ⟨tr, t1, t2, hcs⟩ := hRI.1 a ha
    rcases hcs with ⟨_, q1, q2, _⟩ | ⟨q, _⟩ | ⟨q, _⟩
    · exact ⟨tr - 1, by omega, q2, by rw [t2]; congr 1; omega⟩
    · rw [h7] at q; exact absurd q (by decide)
    · exact absurd h7 q
  · show s.2.2.2 + cntB (oPd n T (f1, s.2.1, r1, s.2.2.2)) n ≤ 96
    omega
  · show s.2.2.2 + cntB (mPd n Q (F1, ag1, s.2.1, r1, s.2.2.2)) n ≤ 96
    rw [← cntB_congr hpe]; omega
  · generalize oBL n T (nI y0) n (oPd n T (f1, s.2.1, r1, s.2.2.2)) (f1, s.2.1, r1, s.2.2.2) = e at g1 g2 g3 g4
    dsimp only at g1 g4 ⊢
    rw [g1]
    have hRI2 := J_RI hs hq g2
    refine ⟨_, ag1, rfl, hRI2, by rw [g3]; exact trs_96 hn hRI2.1, hF5, ?_⟩
    obtain ⟨_, v2⟩ := ne_eq (T := T) (Q := Q) (by omega) hRI2.1 n (Nat.le_refl n)
    rcases v2 with v2 | ⟨y, c, v3, v4, v5, v6, v7⟩
    · exact Or.inl v2
    · refine Or.inr ⟨y, v4, by omega, hRI2, g3, v3, Or.inr ⟨by omega, ⟨c, v5, v6, v7⟩, ?_⟩⟩
      omega
theorem sim_run {n : Nat} {T Q : Nat → Nat → Int32} {w : Int32} {C M : Nat} {tn cn mn fn : Nat → Nat} (hn : n ≤ 24) (hs : sdP n T tn cn mn fn) (hq : qtP T Q) (hR : ∀ c, c < n → bt w c = true → T 11 c = Q 13 c) : ∀ (k i y0 : Nat) (s : BS) (F ag : Nat → Int32), k + i = 97 → SI n T w C M cn mn i y0 s F ag →
    oOk n T k (nI y0) s ∧ mOk n Q k (nI y0) (F, ag, s.2) ∧ ∃ F2 ag2, mRn n Q k (nI y0) (F, ag, s.2) = (F2, ag2, (oRn n T k (nI y0) s).2.2) ∧ F2 5 = (oRn n T k (nI y0) s).1 ∧ RI n T w C M cn mn 97000 (oRn n T k (nI y0) s).2.1 F2 ag2 (oRn n T k (nI y0) s).2.2.2.1 ∧ (oRn n T k (nI y0) s).2.2.2.2 ≤ 96
  | 0, i, y0, s, F, ag, hk, h => by
    obtain ⟨hRI, hb, hy0, hcase⟩ := h
    have h1 := trs_96 hn hRI.1
    rcases hcase with ⟨q, _⟩ | ⟨_, ⟨c, c1, c2, _⟩, c4⟩
    · omega
    · have : 1 ≤ c7 s.2.2.1 n := cnt_pos c1 (decide_eq_true c2)
      omega
  | k + 1, i, y0, s, F, ag, hk, h => by
    obtain ⟨b1, b2, b3, F2, ag2, b4, b5, b6, b7, b8⟩ := sim_step hn hs hq hR (by omega) h
    have hne : mNe n Q (F2, ag2, (oSt n T (nI y0) s).2) = oNe n T (oSt n T (nI y0) s) := (ne_eq (T := T) (Q := Q) (by omega) b5.1 n (Nat.le_refl n)).1
    unfold oOk mOk mRn oRn
    rw [b4, hne]
    rcases b8 with e | ⟨y, e, hy, hSI⟩
    · rw [e]
      refine ⟨⟨b2, fun q => absurd rfl q⟩, ⟨b1, b3, fun q => absurd (by decide) q⟩, F2, ag2, ?_, ?_, ?_, ?_⟩
      · rw [if_pos (by decide), if_pos rfl]
      · rw [if_pos rfl]; exact b7
      · rw [if_pos rfl]
        exact ⟨fun a ha => rowI_mono (by omega) (b5.1 a ha), b5.2⟩
      · rw [if_pos rfl]; exact b6
    · obtain ⟨i1, i2, F3, ag3, i3, i4, i5, i6⟩ := sim_run hn hs hq hR k (i + 1) y (oSt n T (nI y0) s) F2 ag2 (by omega) hSI
      rw [e, if_neg (nI_pos (by omega)), if_neg (nI_ne_m1 (by omega))]
      exact ⟨⟨b2, fun _ => i1⟩, ⟨b1, b3, fun _ => i2⟩, F3, ag3, i3, i4, i5, i6⟩
