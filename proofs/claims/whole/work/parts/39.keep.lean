/-! Pure: what a run leaves as it was; the start of a run. -/
theorem mES_6 {n : Nat} {t : Nat → Nat → Int32} {ck : Int32} {a : Nat} {p : FGR} : (mES n t ck a p).1 6 = p.1 6 := by
  unfold mES
  split
  · split
    · rfl
    · split
      · rfl
      · rfl
  · rfl
theorem mES_n6 {n : Nat} {t : Nat → Nat → Int32} {ck : Int32} {p : FGR} : ∀ k, (itN (mES n t ck) k p).1 6 = p.1 6
  | 0 => rfl
  | k + 1 => mES_6.trans (mES_n6 k)
theorem mSt_6 {n : Nat} {t : Nat → Nat → Int32} {ck : Int32} {s : MS} : (mSt n t ck s).1 6 = s.1 6 := mES_n6 (n := n) (t := t) (ck := ck) (p := (s.1, s.2.1, s.2.2.2.1)) n
theorem mRn_6 {n : Nat} {t : Nat → Nat → Int32} : ∀ (k : Nat) (ck : Int32) (s : MS), (mRn n t k ck s).1 6 = s.1 6
  | 0, _, _ => rfl
  | k + 1, ck, s => by
    unfold mRn
    split
    · exact mSt_6
    · exact (mRn_6 k _ _).trans mSt_6
theorem oES_ge {n : Nat} {T : Nat → Nat → Int32} {ck : Int32} {p : FR} {c j : Nat} : ∀ k, k ≤ c → (itN (oES n T ck) k p).2 j c = p.2 j c
  | 0, _ => rfl
  | k + 1, h => (oES_ne (by omega) j).trans (oES_ge k (by omega))
theorem mdR_ge {n : Nat} {nd : Nat → Int32} {on : Int32} {r : Nat → Nat → Int32} {a : Nat} (h : n ≤ a) : mdR n nd on r 0 a = r 0 a := by
  have hk : skF n nd (r 0) a = r 0 a := by
    rcases (skF_C (n := n) (nd := nd) (st := r 0)).1 a with e | ⟨e, _⟩
    · exact e
    · omega
  unfold mdR
  split
  · show stF n (skF n nd (r 0)) a = r 0 a
    unfold stF
    rw [if_neg (fun q => absurd q.1 (by omega))]
    exact hk
  · exact hk
theorem oBL_ge {n : Nat} {T : Nat → Nat → Int32} {ck : Int32} {c : Nat} (hc : n ≤ c) : ∀ (k : Nat) (p : Nat → Bool) (s : BS), (oBL n T ck k p s).2.2.1 0 c = s.2.2.1 0 c
  | 0, _, _ => rfl
  | k + 1, p, s => by
    unfold oBL
    cases e : fmN p (T 11) n with
    | none => rfl
    | some a =>
      have ha := fmN_lt e
      dsimp only
      split
      · refine (oBL_ge hc k _ _).trans ?_
        show bgR s.2.2.1 a ck (T 0 a) (T 4 a) (awB (T 12 3) (T 4 a) (s.1 6) (s.1 2)) 0 c = s.2.2.1 0 c
        rw [bgR_rows.1, pk_un (by omega)]
      · split
        · rfl
        · exact oBL_ge hc k _ _
theorem oSt_ge {n : Nat} {T : Nat → Nat → Int32} {ck : Int32} {s : BS} {c : Nat} (hc : n ≤ c) : (oSt n T ck s).2.2.1 0 c = s.2.2.1 0 c :=
  (oBL_ge hc _ _ _).trans ((mdR_ge hc).trans (oES_ge n hc))
theorem oRn_ge {n : Nat} {T : Nat → Nat → Int32} {c : Nat} (hc : n ≤ c) : ∀ (k : Nat) (ck : Int32) (s : BS), (oRn n T k ck s).2.2.2.1 0 c = s.2.2.1 0 c
  | 0, _, _ => rfl
  | k + 1, ck, s => by
    unfold oRn
    split
    · exact oSt_ge hc
    · exact (oRn_ge hc k _ _).trans (oSt_ge hc)
/-- the rows at the start -/
theorem fill_at {g : Nat → Int32} {r : Nat → Nat → Int32} : ∀ (k c : Nat), (c < k → itN (fun a r => fillR r a (g a)) k r 0 c = g c ∧ itN (fun a r => fillR r a (g a)) k r 3 c = 0 ∧ itN (fun a r => fillR r a (g a)) k r 5 c = -1 ∧ itN (fun a r => fillR r a (g a)) k r 6 c = -1)
  | 0, c => fun h => absurd h (Nat.not_lt_zero c)
  | k + 1, c => fun h => by
    show fillR (itN (fun a r => fillR r a (g a)) k r) k (g k) 0 c = g c ∧ fillR (itN (fun a r => fillR r a (g a)) k r) k (g k) 3 c = 0 ∧ fillR (itN (fun a r => fillR r a (g a)) k r) k (g k) 5 c = -1 ∧ fillR (itN (fun a r => fillR r a (g a)) k r) k (g k) 6 c = -1
    have ih := fill_at (g := g) (r := r) k c
    generalize itN (fun a r => fillR r a (g a)) k r = r1 at ih
    by_cases e : c = k
    · subst e
      refine ⟨?_, ?_, ?_, ?_⟩
      · show upd (r1 0) c (g c) c = g c
        exact pk_us
      · show upd (r1 3) c 0 c = 0
        exact pk_us
      · show upd (r1 5) c (-1) c = -1
        exact pk_us
      · show upd (r1 6) c (-1) c = -1
        exact pk_us
    · obtain ⟨h1, h2, h3, h4⟩ := ih (by omega)
      unfold fillR
      rw [ts_ne e, ts_ne e, ts_ne e, ts_ne e, ts_ne e, ts_ne e, ts_ne e, ts_ne e, ts_ne e, ts_ne e, ts_ne e, ts_ne e, ts_ne e, ts_ne e, ts_ne e, ts_ne e, ts_ne e, ts_ne e, ts_ne e, ts_ne e, ts_ne e, ts_ne e, ts_ne e, ts_ne e, ts_ne e, ts_ne e, ts_ne e, ts_ne e]
      exact ⟨h1, h2, h3, h4⟩
theorem ag_at {g : Nat → Int32} : ∀ (k c : Nat), c < k → itN (fun a g => upd g a 0) k g c = 0
  | 0, c => fun h => absurd h (Nat.not_lt_zero c)
  | k + 1, c => fun h => by
    show upd (itN (fun a g => upd g a 0) k g) k 0 c = 0
    by_cases e : c = k
    · subst e; exact pk_us
    · rw [pk_un e]; exact ag_at k c (by omega)
theorem sm_0 {st g : Nat → Int32} : ∀ {n : Nat}, (∀ a, a < n → ¬ st a = 7) → smI st g n = 0 ∧ orI st g n = 0
  | 0, _ => ⟨rfl, rfl⟩
  | n + 1, h => by rw [smI_f (h n (by omega)), orI_f (h n (by omega))]; exact sm_0 (fun a ha => h a (by omega))
theorem smN_0 {st : Nat → Int32} {x : Nat → Nat} : ∀ {n : Nat}, (∀ a, a < n → ¬ st a = 7) → smN st x n = 0
  | 0, _ => rfl
  | n + 1, h => by rw [smN_f (h n (by omega))]; exact smN_0 (fun a ha => h a (by omega))
theorem suN_0 {g : Nat → Nat} : ∀ {n : Nat}, (∀ a, a < n → g a = 0) → suN g n = 0
  | 0, _ => rfl
  | n + 1, h => by rw [suN, h n (by omega), suN_0 (fun a ha => h a (by omega))]
theorem inV_cases (f : Nat → Int32) (t : Nat → Nat → Int32) (w : Int32) (a : Nat) : (inV f t w a = 6 ∧ bt w a = true) ∨ inV f t w a = 5 ∨ (inV f t w a = 0 ∧ bt w a = false) := by
  unfold inV
  split
  · rename_i h
    split
    · exact Or.inr (Or.inl rfl)
    · exact Or.inl ⟨rfl, h⟩
  · rename_i h
    exact Or.inr (Or.inr ⟨rfl, bt_and (q := true) h⟩)
theorem start_SI {n : Nat} {t T : Nat → Nat → Int32} {w : Int32} {C M : Nat} {cn mn : Nat → Nat} {f F ag bg : Nat → Int32} {r : Nat → Nat → Int32} (hn : n ≤ 24) (hh : houI C M f F) : SI n T w C M cn mn 0 0 (clF f, bg, itN (fun a r => fillR r a (inV (clF f) t w a)) 24 r, 0) (frM F) (itN (fun a g => upd g a 0) 24 ag) := by
  obtain ⟨o1, o2, o3, o4, o5, o6, o7, o8, o9⟩ := hh
  have hf := fun c (hc : c < n) => fill_at (g := inV (clF f) t w) (r := r) 24 c (by omega)
  have ha := fun c (hc : c < n) => ag_at (g := ag) 24 c (by omega)
  generalize itN (fun a r => fillR r a (inV (clF f) t w a)) 24 r = r0 at hf
  generalize itN (fun a g => upd g a 0) 24 ag = ag0 at ha
  have h7 : ∀ a, a < n → ¬ r0 0 a = 7 := fun a h => by
    rw [(hf a h).1]
    rcases inV_cases (clF f) t w a with ⟨e, _⟩ | e | ⟨e, _⟩ <;> (rw [e]; decide)
  refine ⟨⟨fun a h => ?_, ⟨(sm_0 h7).1.symm, (sm_0 h7).1.symm, (sm_0 h7).2.symm, (sm_0 h7).1.symm⟩, fun a c h1 _ _ q _ => absurd q (h7 a h1), ⟨0, 0, ?_, ?_, Nat.zero_le _, Nat.zero_le _, rfl, rfl⟩, ⟨o1, o2, o3, o4, o5, rfl, rfl, o8, o9⟩⟩, ?_, Nat.zero_le _, Or.inl ⟨rfl, rfl⟩⟩
  · obtain ⟨e0, e3, e5, e6⟩ := hf a h
    refine ⟨0, Nat.zero_le _, e3, ?_⟩
    dsimp only
    rw [e0]
    rcases inV_cases (clF f) t w a with ⟨e, hb⟩ | e | ⟨e, _⟩
    · exact Or.inr (Or.inl ⟨e, Nat.zero_le _, ha a h, hb, e5, e6⟩)
    · exact Or.inr (Or.inr ⟨by rw [e]; decide, by rw [e]; decide, e5, e6⟩)
    · exact Or.inr (Or.inr ⟨by rw [e]; decide, by rw [e]; decide, e5, e6⟩)
  · exact Nat.le_of_eq (smN_0 h7)
  · exact Nat.le_of_eq (smN_0 h7)
  · exact (suN_0 (fun a h => by dsimp only; rw [(hf a h).2.1]; rfl)).symm
