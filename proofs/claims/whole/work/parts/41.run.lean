/-! Class and reference: rest and run. -/
theorem Rel_rows {f : Nat → Int32} {n : Nat} {t r : Nat → Nat → Int32} {u : Int32} {b : Nat} {F : Nat → Int32} {kn : Nat} {q : Nat → Nat → Int32} (g wd rs : Nat → Int32) (h : Rel f n t r u b F kn q) : Rel f n (va_up t 11 g) r u b F kn (va_up (va_up q 10 wd) 13 rs) ∧ Rel f n t r u b F kn (va_up (va_up q 10 wd) 13 rs) := by
  obtain ⟨e1, e2, e3, e4, e5, e6, ⟨g0, g1, g2, g3, g4, g5, g6, g7, g8, g11, g12⟩, e8, e9, ⟨tn, cn, mn, fn, s1, s2, s3, s4⟩, e11, e12, e13⟩ := h
  exact ⟨⟨e1, e2, e3, e4, e5, e6, ⟨g0, g1, g2, g3, g4, g5, g6, g7, g8, g11, g12⟩, e8, e9, ⟨tn, cn, mn, fn, s1, s2, s3, s4⟩, e11, e12, e13⟩, ⟨e1, e2, e3, e4, e5, e6, ⟨g0, g1, g2, g3, g4, g5, g6, g7, g8, g11, g12⟩, e8, e9, ⟨tn, cn, mn, fn, s1, s2, s3, s4⟩, e11, e12, e13⟩⟩
theorem two_rest {C : ax_O} (an : Sp_O_rest_n C) (a0 : Sp_O_rest_0 C) (a1 : Sp_O_rest_1 C) (bn : Sp_M_rest_n C) (b1 : Sp_M_rest_1 C) {h1 h2 : ax_H} (x : Int32) (h : RH h1 h2) : Two C no_O_rest no_M_rest [.int x] h1 h2 := by
  obtain ⟨f, n, t, r, u, b, F, kn, q, rfl, rfl, hR⟩ := h
  have hR0 := hR
  obtain ⟨e1, e2, e3, e4, e5, e6, ⟨g0, g1, g2, g3, g4, g5, g6, g7, g8, g11, g12⟩, e8, e9, ⟨tn, cn, mn, fn, s1, s2, s3, s4⟩, e11, e12, e13⟩ := hR
  by_cases hx : hasB n x = true
  · obtain ⟨k, hk, rfl⟩ := has_nI e1 hx
    have hrk := dp_rk e1 e12
    have hb := b1 F n kn (mT q r) b (t 10) _ tn k e1 (show rkP n (q 7) _ by rw [g7]; exact hrk) (show tmP n (q 0) tn by rw [g0]; exact fun a ha => (s1 a ha).1) (fun a ha => show allP n (q 7) a (t 10 a) by rw [g7]; exact (e12 a ha).1) hk
    rw [show mT q r 9 = q 9 from rfl, show mT q r 7 = q 7 from rfl, show mT q r 0 = q 0 from rfl, e8, g7, g0] at hb
    have ew : wtI (oT t r) n = wtG (t 8) (t 10) n := (wtI_oT n).trans (wtI_eq n)
    cases hw : bt (wtG (t 8) (t 10) n) k
    · rw [hw] at hb
      exact ⟨_, _, 0, a0 f n (oT t r) u b k e1 hk (by rw [ew]; exact hw), hb, fun _ _ q => q.1, fun _ _ q => q.1, fun x x' y1 y2 q1 q2 => by
        obtain ⟨_, rfl⟩ := q1
        obtain ⟨_, wd, rs, rfl⟩ := q2
        exact ⟨f, n, t, r, u, b, F, kn, va_up (va_up q 10 wd) 13 rs, rfl, rfl, (Rel_rows (fun _ => 0) wd rs hR0).2⟩⟩
    · rw [hw] at hb
      have ha := a1 f n (oT t r) u b k _ e1 hk hrk (by rw [ew]; exact hw)
      rw [ew] at ha
      exact ⟨_, _, _, ha, hb, fun _ _ q => q.1, fun _ _ q => q.1, fun x x' y1 y2 q1 q2 => by
        obtain ⟨_, g, rfl⟩ := q1
        obtain ⟨_, wd, rs, rfl⟩ := q2
        exact ⟨f, n, va_up t 11 g, r, u, b, F, kn, va_up (va_up q 10 wd) 13 rs, rfl, rfl, (Rel_rows g wd rs hR0).1⟩⟩
  · exact two_is (an _ _ _ _ _ x (nb hx)) (bn _ _ _ _ _ x e1 (nb hx)) ⟨f, n, t, r, u, b, F, kn, q, rfl, rfl, hR0⟩
def Sp_O_run (C : ax_O) : Prop := ∀ (f : Nat → Int32) (n : Nat) (t : Nat → Nat → Int32) (u : Int32) (b : Nat) (r : Nat → Nat → Int32) (rk : Nat → Nat), n ≤ 24 → rkP n (t 9) rk → (∀ a, a < n → ∃ q, q < 4 ∧ t 6 a = nI q) → (∀ g : Nat → Int32, (∀ a, a < n → g a = reN (t 9) (t 0) (wtI t n) n a) → oOk n (va_up t 11 g) 97 0 (clF f, t 21, itN (fun a r => fillR r a (inV (clF f) t (wtI t n) a)) 24 r, 0)) →
  C no_O_run [.ref 0] (oH f n (oT t r) u b) (fun x h' => ∃ g : Nat → Int32, (∀ a, a < n → g a = reN (t 9) (t 0) (wtI t n) n a) ∧ ∃ (ck : Int32) (s : BS), oRn n (va_up t 11 g) 97 0 (clF f, t 21, itN (fun a r => fillR r a (inV (clF f) t (wtI t n) a)) 24 r, 0) = (ck, s) ∧ x = some (.int ck) ∧ h' = oHs n (va_up t 11 g) 1 (s.1, s.2.1, va_up s.2.2.1 0 (stF n (s.2.2.1 0)), s.2.2.2))
theorem p_O_run {C : ax_O} (h : Sp_N_go C) : Sp_O_run (ax_B ax_Ms ax_Xs C) := by
  intro f n t u b r rk hn hrk hq hok
  have hc := h f n t u b r rk hn hrk hq hok
  generalize itN (fun a r => fillR r a (inV (clF f) t (wtI t n) a)) 24 r = r0 at hc ⊢
  refine ax_X.steps 3 (ax_goP hc (fun z h' hz => ?_))
  obtain ⟨g, hg, ck, s, e1, e2, rfl⟩ := hz
  cases e2
  exact ax_X.steps 1 ⟨Or.inl rfl, g, hg, z, s, e1, rfl, rfl⟩
theorem two_run {C : ax_O} (a1 : Sp_O_run C) (b1 : Sp_M_run C) {h1 h2 : ax_H} (h : RH h1 h2) : Two C no_O_run no_M_run [] h1 h2 := by
  obtain ⟨f, n, t, r, u, b, F, kn, q, rfl, rfl, hR⟩ := h
  obtain ⟨e1, e2, e3, e4, e5, ⟨C, M, hh⟩, hq, e8, e9, ⟨tn, cn, mn, fn, hs⟩, e11, e12, e13⟩ := hR
  have hrk := dp_rk e1 e12
  have hlow : ∀ c, n ≤ c → c < 24 → bt (wtG (t 8) (t 10) n) c = false := fun c h1 h2 => by
    cases e : bt (wtG (t 8) (t 10) n) c
    · rfl
    · obtain ⟨a, ha, _, hb⟩ := (wt_iff (by omega) (by omega)).mp e
      rcases hb with hb | hb
      · omega
      · rw [dp_low e1 e12 hs.2.2.2 ha h1 (by omega)] at hb
        cases hb
  have ewt : wtI t n = wtG (t 8) (t 10) n := wtI_eq n
  have einv : (fun a r => fillR r a (inV F q (wtG (t 8) (t 10) n) a)) = (fun a r => fillR r a (inV (clF f) t (wtG (t 8) (t 10) n) a)) := by
    funext a r
    congr 1
    unfold inV tsB
    rw [hq.2.1, hq.2.2.1, hh.2.2.1, hh.2.2.2.1]
    rfl
  have hsim : ∀ g wd rs : Nat → Int32, (∀ a, a < n → g a = reN (t 9) (t 0) (wtG (t 8) (t 10) n) n a) → (∀ c, c < n → rs c = if bt (wtG (t 8) (t 10) n) c = true then reN (t 9) (t 0) (wtG (t 8) (t 10) n) n c else 0) →
      oOk n (va_up t 11 g) 97 (nI 0) (clF f, t 21, itN (fun a r => fillR r a (inV (clF f) t (wtG (t 8) (t 10) n) a)) 24 r, 0) ∧ mOk n (va_up (va_up q 10 wd) 13 rs) 97 (nI 0) (frM F, itN (fun a g => upd g a 0) 24 (q 21), t 21, itN (fun a r => fillR r a (inV (clF f) t (wtG (t 8) (t 10) n) a)) 24 r, 0) ∧
      ∃ F2 ag2, mRn n (va_up (va_up q 10 wd) 13 rs) 97 (nI 0) (frM F, itN (fun a g => upd g a 0) 24 (q 21), t 21, itN (fun a r => fillR r a (inV (clF f) t (wtG (t 8) (t 10) n) a)) 24 r, 0) = (F2, ag2, (oRn n (va_up t 11 g) 97 (nI 0) (clF f, t 21, itN (fun a r => fillR r a (inV (clF f) t (wtG (t 8) (t 10) n) a)) 24 r, 0)).2.2) ∧
        F2 5 = (oRn n (va_up t 11 g) 97 (nI 0) (clF f, t 21, itN (fun a r => fillR r a (inV (clF f) t (wtG (t 8) (t 10) n) a)) 24 r, 0)).1 ∧ RI n (va_up t 11 g) (wtG (t 8) (t 10) n) C M cn mn 97000 (oRn n (va_up t 11 g) 97 (nI 0) (clF f, t 21, itN (fun a r => fillR r a (inV (clF f) t (wtG (t 8) (t 10) n) a)) 24 r, 0)).2.1 F2 ag2 (oRn n (va_up t 11 g) 97 (nI 0) (clF f, t 21, itN (fun a r => fillR r a (inV (clF f) t (wtG (t 8) (t 10) n) a)) 24 r, 0)).2.2.2.1 ∧ (oRn n (va_up t 11 g) 97 (nI 0) (clF f, t 21, itN (fun a r => fillR r a (inV (clF f) t (wtG (t 8) (t 10) n) a)) 24 r, 0)).2.2.2.2 ≤ 96 := fun g wd rs hg hrs =>
    sim_run (T := va_up t 11 g) (Q := va_up (va_up q 10 wd) 13 rs) (w := wtG (t 8) (t 10) n) e1 hs hq (fun c hc hw => by
      show g c = rs c
      rw [hg c hc, hrs c hc, if_pos hw]) 97 0 0 _ _ _ rfl (start_SI e1 hh)
  have ha := a1 f n t u b r _ e1 hrk hs.2.1 (fun g hg => by
    rw [ewt] at hg ⊢
    exact (hsim g (fun _ => 0) (fun c => if bt (wtG (t 8) (t 10) n) c = true then reN (t 9) (t 0) (wtG (t 8) (t 10) n) n c else 0) hg (fun c _ => rfl)).1)
  have hb := b1 F n kn q b r (t 10) _ tn 97 e1 (show rkP n (q 7) _ by rw [hq.2.2.2.2.2.2.2.1]; exact hrk) (show tmP n (q 0) tn by rw [hq.1]; exact fun a ha => (hs.1 a ha).1) (fun a ha => show allP n (q 7) a (t 10 a) by rw [hq.2.2.2.2.2.2.2.1]; exact (e12 a ha).1) (by rw [e8]; exact hlow) (by rw [hq.2.2.2.2.2.2.1]; exact hs.2.1) (fun wd rs hwd hrs => by
    rw [e8, hq.1, hq.2.2.2.2.2.2.2.1] at hrs
    rw [e8, e9, einv]
    exact (hsim (reN (t 9) (t 0) (wtG (t 8) (t 10) n) n) wd rs (fun _ _ => rfl) hrs).2.1)
  rw [ewt] at ha
  rw [e8, e9, einv, hq.1, hq.2.2.2.2.2.2.2.1] at hb
  have hfill := fun c (h1 : n ≤ c) (h2 : c < 24) => (fill_at (g := inV (clF f) t (wtG (t 8) (t 10) n)) (r := r) 24 c h2).1
  generalize itN (fun a r => fillR r a (inV (clF f) t (wtG (t 8) (t 10) n) a)) 24 r = r0 at ha hb hsim hfill
  generalize itN (fun a g => upd g a 0) 24 (q 21) = ag0 at ha hb hsim
  have hone : ∀ g g' : Nat → Int32, (∀ a, a < n → g a = reN (t 9) (t 0) (wtG (t 8) (t 10) n) n a) → (∀ a, a < n → g' a = reN (t 9) (t 0) (wtG (t 8) (t 10) n) n a) → (oRn n (va_up t 11 g) 97 (nI 0) (clF f, t 21, r0, 0)).1 = (oRn n (va_up t 11 g') 97 (nI 0) (clF f, t 21, r0, 0)).1 := fun g g' hg hg' => by
    obtain ⟨_, _, F2, ag2, m1, m2, _⟩ := hsim g (fun _ => 0) (fun c => if bt (wtG (t 8) (t 10) n) c = true then reN (t 9) (t 0) (wtG (t 8) (t 10) n) n c else 0) hg (fun c _ => rfl)
    obtain ⟨_, _, F3, ag3, k1, k2, _⟩ := hsim g' (fun _ => 0) (fun c => if bt (wtG (t 8) (t 10) n) c = true then reN (t 9) (t 0) (wtG (t 8) (t 10) n) n c else 0) hg' (fun c _ => rfl)
    have := m1.symm.trans k1
    rw [← m2, ← k2, show F2 = F3 from congrArg Prod.fst this]
  refine ⟨_, _, (oRn n (va_up t 11 (reN (t 9) (t 0) (wtG (t 8) (t 10) n) n)) 97 (nI 0) (clF f, t 21, r0, 0)).1, ha, hb, fun x h' hx => ?_, fun x h' hx => ?_, fun x x' y1 y2 q1 q2 => ?_⟩
  · obtain ⟨g, hg, ck, s, k1, k2, _⟩ := hx
    rw [k2, hone (reN (t 9) (t 0) (wtG (t 8) (t 10) n) n) g (fun _ _ => rfl) hg]
    have k1' : oRn n (va_up t 11 g) 97 (nI 0) (clF f, t 21, r0, 0) = (ck, s) := k1
    rw [k1']
  · obtain ⟨wd, rs, hwd, hrs, hx, _⟩ := hx
    obtain ⟨_, _, F2, ag2, m1, m2, _⟩ := hsim (reN (t 9) (t 0) (wtG (t 8) (t 10) n) n) wd rs (fun _ _ => rfl) hrs
    rw [hx]
    have : (mRn n (va_up (va_up q 10 wd) 13 rs) 97 0 (frM F, ag0, t 21, r0, 0)).1 = F2 := congrArg Prod.fst m1
    rw [this, m2]
  · obtain ⟨g, hg, ck, s, k1, _, rfl⟩ := q1
    obtain ⟨wd, rs, hwd, hrs, _, sn, rfl⟩ := q2
    obtain ⟨_, _, F2, ag2, m1, m2, m3, m4⟩ := hsim g wd rs hg hrs
    have h6 : F2 6 = 1 := by
      have := mRn_6 (n := n) (t := va_up (va_up q 10 wd) 13 rs) 97 (nI 0) (frM F, ag0, t 21, r0, 0)
      rw [m1] at this
      exact this
    have hge := fun c (hc : n ≤ c) => oRn_ge (T := va_up t 11 g) hc 97 (nI 0) (clF f, t 21, r0, 0)
    have k1' : oRn n (va_up t 11 g) 97 (nI 0) (clF f, t 21, r0, 0) = (ck, s) := k1
    have m1' : mRn n (va_up (va_up q 10 wd) 13 rs) 97 0 (frM F, ag0, t 21, r0, 0) = (F2, ag2, s.2) := by
      have := m1
      rw [k1'] at this
      exact this
    rw [k1'] at m3 m4 hge
    rw [m1']
    obtain ⟨s1, s2, s3, s4⟩ := s
    refine ⟨s1, n, va_up (va_up t 11 g) 21 s2, va_up s3 0 (stF n (s3 0)), 1, s4, F2, n, va_up (va_up (va_up (va_up (va_up q 10 wd) 13 rs) 21 ag2) 22 sn) 23 s2, rfl, rfl, e1, Nat.le_refl n, m4, Or.inr rfl, h6, ⟨C, M, m3.2.2.2.2⟩, hq, e8, rfl, ⟨tn, cn, mn, fn, hs⟩, e11, e12, fun a h1 h2 => ?_⟩
    have hna : n ≤ a := h1.elim id (fun q => absurd q (by decide))
    have h0 : va_up s3 0 (stF n (s3 0)) 0 a = 0 := by
      show stF n (s3 0) a = 0
      unfold stF
      rw [if_neg (fun q => absurd q.1 (by omega))]
      have h3 : s3 0 a = r0 0 a := hge a hna
      rw [h3, hfill a hna h2]
      unfold inV
      rw [if_neg (by rw [hlow a hna h2]; decide)]
    exact badB_n (by rw [h0]; decide) (by rw [h0]; decide)
