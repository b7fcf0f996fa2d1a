/-! What is needed, all the way. -/
def sub (v w : Int32) : Prop := ∀ i, i < 32 → bt v i = true → bt w i = true
theorem sub_rf {v : Int32} : sub v v := fun _ _ h => h
theorem sub_tr {u v w : Int32} (h1 : sub u v) (h2 : sub v w) : sub u w := fun i hi h => h2 i hi (h1 i hi h)
theorem sub_eq {v w : Int32} (h1 : sub v w) (h2 : sub w v) : v = w := b_ext (fun i hi => by
  cases e : bt v i
  · cases e2 : bt w i
    · rfl
    · rw [h2 i hi e2] at e; cases e
  · exact (h1 i hi e).symm)
theorem sub_or {u v w : Int32} (h1 : sub u w) (h2 : sub v w) : sub (u ||| v) w := fun i hi h => by
  rw [b_or, Bool.or_eq_true] at h
  exact h.elim (h1 i hi) (h2 i hi)
theorem sub_l {u v : Int32} : sub u (u ||| v) := fun i _ h => by rw [b_or, h, Bool.true_or]
theorem sub_r {u v : Int32} : sub v (u ||| v) := fun i _ h => by rw [b_or, h, Bool.or_true]
/-- closed under what is needed -/
def clo (n : Nat) (nd : Nat → Int32) (v : Int32) : Prop := ∀ c, c < n → bt v c = true → sub (nd c) v
def allP (n : Nat) (nd : Nat → Int32) (a : Nat) (v : Int32) : Prop := sub (nd a) v ∧ clo n nd v ∧ ∀ w, sub (nd a) w → clo n nd w → sub v w
theorem allP_one {n a : Nat} {nd : Nat → Int32} {v w : Int32} (h : allP n nd a v) (h' : allP n nd a w) : v = w := sub_eq (h.2.2 w h'.1 h'.2.1) (h'.2.2 v h.1 h.2.1)
def nxI (nd : Nat → Int32) (v : Int32) : Nat → Int32
  | 0 => v
  | m + 1 => if bt v m = true then nxI nd v m ||| nd m else nxI nd v m
theorem nxI_t {nd : Nat → Int32} {v : Int32} {m : Nat} (h : bt v m = true) : nxI nd v (m + 1) = nxI nd v m ||| nd m := if_pos h
theorem nxI_f {nd : Nat → Int32} {v : Int32} {m : Nat} (h : ¬ bt v m = true) : nxI nd v (m + 1) = nxI nd v m := if_neg h
theorem nxI_sup {nd : Nat → Int32} {v : Int32} : ∀ n, sub v (nxI nd v n)
  | 0 => sub_rf
  | n + 1 => by
    by_cases h : bt v n = true
    · rw [nxI_t h]; exact sub_tr (nxI_sup n) sub_l
    · rw [nxI_f h]; exact nxI_sup n
theorem nxI_has {nd : Nat → Int32} {v : Int32} : ∀ n c, c < n → bt v c = true → sub (nd c) (nxI nd v n)
  | 0, c, h, _ => absurd h (Nat.not_lt_zero c)
  | n + 1, c, h, hb => by
    by_cases e : c = n
    · subst e
      rw [nxI_t hb]; exact sub_r
    · have ih := nxI_has (nd := nd) (v := v) n c (by omega) hb
      by_cases h2 : bt v n = true
      · rw [nxI_t h2]; exact sub_tr ih sub_l
      · rw [nxI_f h2]; exact ih
theorem nxI_in {nd : Nat → Int32} {v w : Int32} {N : Nat} (hv : sub v w) (hw : clo N nd w) : ∀ n, n ≤ N → n ≤ 32 → sub (nxI nd v n) w
  | 0, _, _ => hv
  | n + 1, h, h3 => by
    by_cases h2 : bt v n = true
    · rw [nxI_t h2]; exact sub_or (nxI_in hv hw n (by omega) (by omega)) (hw n (by omega) (hv n (by omega) h2))
    · rw [nxI_f h2]; exact nxI_in hv hw n (by omega) (by omega)
def zbt (v : Int32) : Nat := cntB (fun i => !bt v i) 32
theorem cntB_le2 {p q : Nat → Bool} : ∀ {n : Nat}, (∀ c, c < n → p c = true → q c = true) → cntB p n ≤ cntB q n
  | 0, _ => Nat.le_refl 0
  | n + 1, h => by
    have ih := cntB_le2 (p := p) (q := q) (n := n) (fun c hc => h c (by omega))
    rw [cntB, cntB]
    cases e : p n
    · exact Nat.le_trans ih (Nat.le_add_right _ _)
    · rw [h n (by omega) e]; exact Nat.add_le_add_right ih _
theorem cntB_lt {p q : Nat → Bool} : ∀ {n : Nat}, (∀ c, c < n → p c = true → q c = true) → (∃ c, c < n ∧ p c = false ∧ q c = true) → cntB p n < cntB q n
  | 0, _, ⟨c, h, _⟩ => absurd h (Nat.not_lt_zero c)
  | n + 1, h, ⟨c, h1, h2, h3⟩ => by
    rw [cntB, cntB]
    by_cases e : c = n
    · subst e
      have := cntB_le2 (p := p) (q := q) (n := c) (fun d hd => h d (by omega))
      rw [h2, h3]
      show cntB p c + 0 < cntB q c + 1
      omega
    · have ih := cntB_lt (p := p) (q := q) (n := n) (fun d hd => h d (by omega)) ⟨c, by omega, h2, h3⟩
      cases e2 : p n
      · show cntB p n + 0 < _
        omega
      · rw [h n (by omega) e2]; exact Nat.add_lt_add_right ih _
theorem zbt_lt {v w : Int32} (h : sub v w) (hne : ¬ w = v) : zbt w < zbt v := by
  refine cntB_lt (fun c hc h1 => ?_) ?_
  · cases e : bt v c
    · rfl
    · rw [h c hc e] at h1; cases h1
  · apply Classical.byContradiction
    intro q
    refine hne (sub_eq (fun i hi hw => ?_) h)
    apply Classical.byContradiction
    intro hv
    exact q ⟨i, hi, by rw [hw]; rfl, by rw [Bool.not_eq_true] at hv; rw [hv]; rfl⟩
def Sp_M_all (C : ax_O) : Prop := ∀ (f : Nat → Int32) (n kn : Nat) (t : Nat → Nat → Int32) (b : Nat) (j : Nat), n ≤ 24 → j < 24 → C no_M_all [.ref 0, .int (nI j)] (mH f n kn t b) (fun x h' => ∃ v, allP n (t 7) j v ∧ x = some (.int v) ∧ h' = mH f n kn t b)
theorem p_M_all {C : ax_O} : Sp_M_all (ax_B ax_Ms ax_Xs C) := by
  intro f n kn t b j hn hj
  have outer : ∀ (m : Nat) (v : Int32) (q4 q5 : Option Value), zbt v ≤ m → sub (t 7 j) v → (∀ w, sub (t 7 j) w → clo n (t 7) w → sub v w) → ax_X ax_Ms ax_Xs no_M_all C (fun x h' => ∃ v, allP n (t 7) j v ∧ x = some (.int v) ∧ h' = mH f n kn t b) 7 [some (.ref 0), some (.int (nI j)), some (.int v), some (.int 1), q4, q5] [] (mH f n kn t b) 0 0 := by
    intro m
    induction m with
    | zero =>
      intro v q4 q5 hm h1 h2
      have hfix : nxI (t 7) v n = v := Classical.byContradiction (fun q => by have := zbt_lt (nxI_sup n) q; omega)
      have hclo : clo n (t 7) v := fun c hc hb => by have := nxI_has (nd := t 7) (v := v) n c hc hb; rw [hfix] at this; exact this
      have loop : ∀ (k a : Nat) (x : Int32) (w : Int32), x = nI a → w = nxI (t 7) v a → a + k = n → ax_X ax_Ms ax_Xs no_M_all C (fun x h' => ∃ v, allP n (t 7) j v ∧ x = some (.int v) ∧ h' = mH f n kn t b) 13 [some (.ref 0), some (.int (nI j)), some (.int v), some (.int 1), some (.int w), some (.int x)] [] (mH f n kn t b) 0 0 := by
        intro k
        induction k with
        | zero =>
          intro a x w hx hw hk
          subst hx
          have hk : a = n := hk
          subst hk
          subst hw
          rw [hfix]
          refine ax_X.steps 4 (ax_brT (nI_le (by omega) (by omega)) ?_)
          refine ax_X.steps 3 (ax_brT (rfl) ?_)
          refine ax_X.steps 7 (ax_brT (rfl) ?_)
          exact ax_X.steps 2 ⟨Or.inl rfl, v, ⟨h1, hclo, h2⟩, rfl, rfl⟩
        | succ k ih =>
          intro a x w hx hw hk
          subst hx
          subst hw
          refine ax_X.steps 4 (ax_brF (nI_ge (by omega) (by omega)) ?_)
          refine ax_X.steps 7 (ax_br2 (fun c23 => ?_) (fun c23 => ?_))
          · exact ax_X.steps 4 (ih (a + 1) _ _ (nI_1 a) (nxI_f (fun q => c23 ((b_rt1 (by omega)).mpr q))).symm (by omega))
          · refine ax_X.steps 5 ⟨a, ⟨by omega, by omega⟩, rfl, ?_⟩
            exact ax_X.steps 5 (ih (a + 1) _ _ (nI_1 a) (nxI_t ((b_rt1 (by omega)).mp (nn c23))).symm (by omega))
      refine ax_X.steps 2 (ax_brF (bI_n0) ?_)
      exact ax_X.steps 4 (loop n 0 0 v rfl rfl (by omega))
    | succ m ihm =>
      intro v q4 q5 hm h1 h2
      have loop : ∀ (k a : Nat) (x : Int32) (w : Int32), x = nI a → w = nxI (t 7) v a → a + k = n → ax_X ax_Ms ax_Xs no_M_all C (fun x h' => ∃ v, allP n (t 7) j v ∧ x = some (.int v) ∧ h' = mH f n kn t b) 13 [some (.ref 0), some (.int (nI j)), some (.int v), some (.int 1), some (.int w), some (.int x)] [] (mH f n kn t b) 0 0 := by
        intro k
        induction k with
        | zero =>
          intro a x w hx hw hk
          subst hx
          have hk : a = n := hk
          subst hk
          subst hw
          by_cases hfix : nxI (t 7) v a = v
          · have hclo : clo a (t 7) v := fun c hc hb => by have := nxI_has (nd := t 7) (v := v) a c hc hb; rw [hfix] at this; exact this
            rw [hfix]
            refine ax_X.steps 4 (ax_brT (nI_le (by omega) (by omega)) ?_)
            refine ax_X.steps 3 (ax_brT (rfl) ?_)
            refine ax_X.steps 7 (ax_brT (rfl) ?_)
            exact ax_X.steps 2 ⟨Or.inl rfl, v, ⟨h1, hclo, h2⟩, rfl, rfl⟩
          · have hlt := zbt_lt (nxI_sup a) hfix
            refine ax_X.steps 4 (ax_brT (nI_le (by omega) (by omega)) ?_)
            refine ax_X.steps 3 (ax_brF (hfix) ?_)
            exact ax_X.steps 6 (ihm (nxI (t 7) v a) _ _ (by omega) (sub_tr h1 (nxI_sup a)) (fun w q1 q2 => nxI_in (h2 w q1 q2) q2 a (Nat.le_refl a) (by omega)))
        | succ k ih =>
          intro a x w hx hw hk
          subst hx
          subst hw
          refine ax_X.steps 4 (ax_brF (nI_ge (by omega) (by omega)) ?_)
          refine ax_X.steps 7 (ax_br2 (fun c23 => ?_) (fun c23 => ?_))
          · exact ax_X.steps 4 (ih (a + 1) _ _ (nI_1 a) (nxI_f (fun q => c23 ((b_rt1 (by omega)).mpr q))).symm (by omega))
          · refine ax_X.steps 5 ⟨a, ⟨by omega, by omega⟩, rfl, ?_⟩
            exact ax_X.steps 5 (ih (a + 1) _ _ (nI_1 a) (nxI_t ((b_rt1 (by omega)).mp (nn c23))).symm (by omega))
      refine ax_X.steps 2 (ax_brF (bI_n0) ?_)
      exact ax_X.steps 4 (loop n 0 0 v rfl rfl (by omega))
  refine ax_X.steps 4 ⟨j, ⟨by omega, by omega⟩, rfl, ?_⟩
  exact ax_X.steps 3 (outer (zbt (t 7 j)) (t 7 j) none none (Nat.le_refl _) sub_rf (fun w h _ => h))
def Sp_M_needs_n (C : ax_O) : Prop := ∀ (f : Nat → Int32) (n kn : Nat) (t : Nat → Nat → Int32) (b : Nat) (x y : Int32), n ≤ 24 → (hasB n x = false ∨ hasB n y = false) → C no_M_needs [.ref 0, .int x, .int y] (mH f n kn t b) (ax_is (some (.int (-1))) (mH f n kn t b))
theorem p_M_needs_n {C : ax_O} (hH : Sp_M_isAction C) : Sp_M_needs_n (ax_B ax_Ms ax_Xs C) := by
  intro f n kn t b x y hn hx
  cases a1 : hasB n x
  · refine ax_X.steps 3 ⟨Or.inl rfl, ?_⟩
    refine ax_X.steps 3 (ax_go (hH _ _ _ _ _ _ false hn a1) ?_)
    refine ax_X.steps 1 (ax_brT (rfl) ?_)
    exact ax_X.steps 2 ⟨Or.inl rfl, rfl, rfl⟩
  · have a2 : hasB n y = false := hx.resolve_left (by rw [a1]; decide)
    refine ax_X.steps 3 ⟨Or.inl rfl, ?_⟩
    refine ax_X.steps 3 (ax_go (hH _ _ _ _ _ _ true hn a1) ?_)
    refine ax_X.steps 1 (ax_brF (bI_n0) ?_)
    refine ax_X.steps 3 (ax_go (hH _ _ _ _ _ _ false hn a2) ?_)
    refine ax_X.steps 1 (ax_brT (rfl) ?_)
    exact ax_X.steps 2 ⟨Or.inl rfl, rfl, rfl⟩
def Sp_M_needs_0 (C : ax_O) : Prop := ∀ (f : Nat → Int32) (n kn : Nat) (t : Nat → Nat → Int32) (b : Nat) (k j : Nat), n ≤ 24 → k < n → j < n → bt (t 7 k) j = true → C no_M_needs [.ref 0, .int (nI k), .int (nI j)] (mH f n kn t b) (ax_is (some (.int (-1))) (mH f n kn t b))
theorem p_M_needs_0 {C : ax_O} (hH : Sp_M_isAction C) : Sp_M_needs_0 (ax_B ax_Ms ax_Xs C) := by
  intro f n kn t b k j hn hk hj hb
  refine ax_X.steps 3 ⟨Or.inl rfl, ?_⟩
  refine ax_X.steps 3 (ax_go (hH _ _ _ _ _ _ true hn (hasB_k hn hk)) ?_)
  refine ax_X.steps 1 (ax_brF (bI_n0) ?_)
  refine ax_X.steps 3 (ax_go (hH _ _ _ _ _ _ true hn (hasB_k hn hj)) ?_)
  refine ax_X.steps 1 (ax_brF (bI_n0) ?_)
  refine ax_X.steps 4 ⟨k, ⟨by omega, by omega⟩, rfl, ?_⟩
  refine ax_X.steps 6 (ax_brF (fun q => q ((b_rt1 (by omega)).mpr hb)) ?_)
  exact ax_X.steps 2 ⟨Or.inl rfl, rfl, rfl⟩
def Sp_M_needs_2 (C : ax_O) : Prop := ∀ (f : Nat → Int32) (n kn : Nat) (t : Nat → Nat → Int32) (b : Nat) (k j : Nat) (v : Int32), n ≤ 24 → k < n → j < n → ¬ bt (t 7 k) j = true → allP n (t 7) j v → (k = j ∨ bt v k = true) → C no_M_needs [.ref 0, .int (nI k), .int (nI j)] (mH f n kn t b) (ax_is (some (.int (-2))) (mH f n kn t b))
theorem p_M_needs_2 {C : ax_O} (hH : Sp_M_isAction C) (h1 : Sp_M_all C) : Sp_M_needs_2 (ax_B ax_Ms ax_Xs C) := by
  intro f n kn t b k j v hn hk hj hb hv hc
  by_cases e : k = j
  · subst e
    refine ax_X.steps 3 ⟨Or.inl rfl, ?_⟩
    refine ax_X.steps 3 (ax_go (hH _ _ _ _ _ _ true hn (hasB_k hn hk)) ?_)
    refine ax_X.steps 1 (ax_brF (bI_n0) ?_)
    refine ax_X.steps 3 (ax_go (hH _ _ _ _ _ _ true hn (hasB_k hn hk)) ?_)
    refine ax_X.steps 1 (ax_brF (bI_n0) ?_)
    refine ax_X.steps 4 ⟨k, ⟨by omega, by omega⟩, rfl, ?_⟩
    refine ax_X.steps 6 (ax_brT (fun q => hb ((b_rt1 (by omega)).mp q)) ?_)
    refine ax_X.steps 3 (ax_brT (rfl) ?_)
    exact ax_X.steps 2 ⟨Or.inl rfl, rfl, rfl⟩
  have hc := hc.resolve_left e
  refine ax_X.steps 3 ⟨Or.inl rfl, ?_⟩
  refine ax_X.steps 3 (ax_go (hH _ _ _ _ _ _ true hn (hasB_k hn hk)) ?_)
  refine ax_X.steps 1 (ax_brF (bI_n0) ?_)
  refine ax_X.steps 3 (ax_go (hH _ _ _ _ _ _ true hn (hasB_k hn hj)) ?_)
  refine ax_X.steps 1 (ax_brF (bI_n0) ?_)
  refine ax_X.steps 4 ⟨k, ⟨by omega, by omega⟩, rfl, ?_⟩
  refine ax_X.steps 6 (ax_brT (fun q => hb ((b_rt1 (by omega)).mp q)) ?_)
  refine ax_X.steps 3 (ax_brF (fun q => e ((nI_eq (by omega) (by omega)).mp q)) ?_)
  refine ax_X.steps 3 (ax_goP (h1 f n kn t b j hn (by omega)) (fun z h2 hz => ?_))
  obtain ⟨v2, hv2, hz1, rfl⟩ := hz
  cases hz1
  have ev := allP_one hv2 hv
  subst ev
  refine ax_X.steps 6 (ax_brF (fun q => q ((b_rt1 (by omega)).mpr hc)) ?_)
  exact ax_X.steps 2 ⟨Or.inl rfl, rfl, rfl⟩
def Sp_M_needs_1 (C : ax_O) : Prop := ∀ (f : Nat → Int32) (n kn : Nat) (t : Nat → Nat → Int32) (b : Nat) (k j : Nat) (v : Int32), n ≤ 24 → k < n → j < n → ¬ bt (t 7 k) j = true → allP n (t 7) j v → ¬ k = j → ¬ bt v k = true → C no_M_needs [.ref 0, .int (nI k), .int (nI j)] (mH f n kn t b) (ax_is (some (.int 1)) (mH f n kn (ts t 7 k (t 7 k ||| sB j)) b))
theorem p_M_needs_1 {C : ax_O} (hH : Sp_M_isAction C) (h1 : Sp_M_all C) : Sp_M_needs_1 (ax_B ax_Ms ax_Xs C) := by
  intro f n kn t b k j v hn hk hj hb hv hne hc
  refine ax_X.steps 3 ⟨Or.inl rfl, ?_⟩
  refine ax_X.steps 3 (ax_go (hH _ _ _ _ _ _ true hn (hasB_k hn hk)) ?_)
  refine ax_X.steps 1 (ax_brF (bI_n0) ?_)
  refine ax_X.steps 3 (ax_go (hH _ _ _ _ _ _ true hn (hasB_k hn hj)) ?_)
  refine ax_X.steps 1 (ax_brF (bI_n0) ?_)
  refine ax_X.steps 4 ⟨k, ⟨by omega, by omega⟩, rfl, ?_⟩
  refine ax_X.steps 6 (ax_brT (fun q => hb ((b_rt1 (by omega)).mp q)) ?_)
  refine ax_X.steps 3 (ax_brF (fun q => hne ((nI_eq (by omega) (by omega)).mp q)) ?_)
  refine ax_X.steps 3 (ax_goP (h1 f n kn t b j hn (by omega)) (fun z h2 hz => ?_))
  obtain ⟨v2, hv2, hz1, rfl⟩ := hz
  cases hz1
  have ev := allP_one hv2 hv
  subst ev
  refine ax_X.steps 6 (ax_brT (fun q => hc ((b_rt1 (by omega)).mp q)) ?_)
  refine ax_X.steps 7 ⟨k, ⟨by omega, by omega⟩, rfl, ?_⟩
  refine ax_X.steps 5 ⟨k, ⟨by omega, by omega⟩, rfl, ?_⟩
  exact ax_X.steps 2 ⟨Or.inl rfl, rfl, rfl⟩
def dpJ (n : Nat) (dp : Nat → Int32) (k : Nat) (m : Int32) : Nat → Int32 := fun a => if a < n ∧ (a = k ∨ bt (dp a) k = true) then dp a ||| m else dp a
theorem dpJ_0 {dp : Nat → Int32} {k : Nat} {m : Int32} : dpJ 0 dp k m = dp := by
  funext a
  exact if_neg (fun h => absurd h.1 (Nat.not_lt_zero a))
theorem dpJ_at {dp : Nat → Int32} {k n : Nat} {m : Int32} : dpJ n dp k m n = dp n := if_neg (fun h => absurd h.1 (Nat.lt_irrefl n))
theorem dpJ_s {dp : Nat → Int32} {k n : Nat} {m : Int32} (h : n = k ∨ bt (dp n) k = true) : upd (dpJ n dp k m) n (dpJ n dp k m n ||| m) = dpJ (n + 1) dp k m := by
  rw [dpJ_at]
  funext a
  unfold upd dpJ
  by_cases e : a = n
  · subst e
    rw [if_pos rfl, if_pos ⟨by omega, h⟩]
  · rw [if_neg e]
    by_cases h2 : a < n ∧ (a = k ∨ bt (dp a) k = true)
    · rw [if_pos h2, if_pos ⟨by omega, h2.2⟩]
    · rw [if_neg h2, if_neg (fun q => h2 ⟨by omega, q.2⟩)]
theorem dpJ_n {dp : Nat → Int32} {k n : Nat} {m : Int32} (h : ¬ n = k) (h1 : bt (dp n) k = false) : dpJ n dp k m = dpJ (n + 1) dp k m := by
  funext a
  unfold dpJ
  by_cases h2 : a < n ∧ (a = k ∨ bt (dp a) k = true)
  · rw [if_pos h2, if_pos ⟨by omega, h2.2⟩]
  · rw [if_neg h2, if_neg]
    intro q
    by_cases e : a = n
    · subst e
      rcases q.2 with q2 | q2
      · exact h q2
      · rw [h1] at q2; cases q2
    · exact h2 ⟨by omega, q.2⟩
def Sp_A_join_0 (C : ax_O) : Prop := ∀ (f : Nat → Int32) (n : Nat) (t : Nat → Nat → Int32) (u : Int32) (b : Nat) (k j : Nat), k < 24 → j < 24 → bt (t 9 k) j = true → C no_A_join [.ref 2, .int (nI k), .int (nI j)] (oH f n t u b) (ax_is (some (.int (-1))) (oH f n t u b))
theorem p_A_join_0 {C : ax_O} (hI : Sp_O_isIn C) : Sp_A_join_0 (ax_B ax_Ms ax_Xs C) := by
  intro f n t u b k j hk hj hb
  refine ax_X.steps 4 ⟨k, ⟨by omega, by omega⟩, rfl, ?_⟩
  refine ax_X.steps 2 (ax_go (hI _ _ _ true (by omega) hb) ?_)
  refine ax_X.steps 1 (ax_brF (bI_n0) ?_)
  exact ax_X.steps 2 ⟨Or.inl rfl, rfl, rfl⟩
def Sp_A_join_2 (C : ax_O) : Prop := ∀ (f : Nat → Int32) (n : Nat) (t : Nat → Nat → Int32) (u : Int32) (b : Nat) (k j : Nat), k < 24 → j < 24 → bt (t 9 k) j = false → (k = j ∨ bt (t 10 j) k = true) → C no_A_join [.ref 2, .int (nI k), .int (nI j)] (oH f n t u b) (ax_is (some (.int (-2))) (oH f n t u b))
theorem p_A_join_2 {C : ax_O} (hI : Sp_O_isIn C) : Sp_A_join_2 (ax_B ax_Ms ax_Xs C) := by
  intro f n t u b k j hk hj hb hc
  by_cases e : k = j
  · subst e
    refine ax_X.steps 4 ⟨k, ⟨by omega, by omega⟩, rfl, ?_⟩
    refine ax_X.steps 2 (ax_go (hI _ _ _ false (by omega) hb) ?_)
    refine ax_X.steps 1 (ax_brT (rfl) ?_)
    refine ax_X.steps 3 (ax_brT (rfl) ?_)
    exact ax_X.steps 2 ⟨Or.inl rfl, rfl, rfl⟩
  have hc := hc.resolve_left e
  refine ax_X.steps 4 ⟨k, ⟨by omega, by omega⟩, rfl, ?_⟩
  refine ax_X.steps 2 (ax_go (hI _ _ _ false (by omega) hb) ?_)
  refine ax_X.steps 1 (ax_brT (rfl) ?_)
  refine ax_X.steps 3 (ax_brF (fun q => e ((nI_eq (by omega) (by omega)).mp q)) ?_)
  refine ax_X.steps 4 ⟨j, ⟨by omega, by omega⟩, rfl, ?_⟩
  refine ax_X.steps 2 (ax_go (hI _ _ _ true (by omega) hc) ?_)
  refine ax_X.steps 1 (ax_brF (bI_n0) ?_)
  exact ax_X.steps 2 ⟨Or.inl rfl, rfl, rfl⟩
def Sp_A_join_1 (C : ax_O) : Prop := ∀ (f : Nat → Int32) (n : Nat) (t : Nat → Nat → Int32) (u : Int32) (b : Nat) (i j : Nat), n ≤ 24 → i < 24 → j < 24 → bt (t 9 i) j = false → ¬ i = j → bt (t 10 j) i = false → C no_A_join [.ref 2, .int (nI i), .int (nI j)] (oH f n t u b) (ax_is (some (.int 1)) (oH f n (va_up (ts t 9 i (t 9 i ||| sB j)) 10 (dpJ n (t 10) i (t 10 j ||| sB j))) u b))
theorem p_A_join_1 {C : ax_O} (hI : Sp_O_isIn C) (hO : Sp_O_only C) : Sp_A_join_1 (ax_B ax_Ms ax_Xs C) := by
  intro f n t u b i j hn hi hj hb hne hc
  have loop : ∀ (k a : Nat) (x : Int32) (g : Nat → Int32), x = nI a → g = dpJ a (t 10) i (t 10 j ||| sB j) → a + k = n → ax_X ax_Ms ax_Xs no_A_join C (ax_is (some (.int 1)) (oH f n (va_up (ts t 9 i (t 9 i ||| sB j)) 10 (dpJ n (t 10) i (t 10 j ||| sB j))) u b)) 40 [some (.ref 2), some (.int (nI i)), some (.int (nI j)), some (.int (t 10 j ||| sB j)), some (.int x)] [] (oH f n (va_up (ts t 9 i (t 9 i ||| sB j)) 10 g) u b) 0 0 := by
    intro k
    induction k with
    | zero =>
      intro a x g hx hg hk
      subst hx
      have hk : a = n := hk
      subst hk
      subst hg
      refine ax_X.steps 4 (ax_brT (nI_le (by omega) (by omega)) ?_)
      exact ax_X.steps 2 ⟨Or.inl rfl, rfl, rfl⟩
    | succ k ih =>
      intro a x g hx hg hk
      subst hx
      subst hg
      by_cases ek : a = i
      · refine ax_X.steps 4 (ax_brF (nI_ge (by omega) (by omega)) ?_)
        refine ax_X.steps 3 (ax_brT (by rw [ek]; rfl) ?_)
        refine ax_X.steps 5 ⟨a, ⟨by omega, by omega⟩, rfl, ?_⟩
        refine ax_X.steps 3 ⟨a, ⟨by omega, by omega⟩, rfl, ?_⟩
        exact ax_X.steps 2 (ih (a + 1) _ (upd (dpJ a (t 10) i (t 10 j ||| sB j)) a (dpJ a (t 10) i (t 10 j ||| sB j) a ||| (t 10 j ||| sB j))) (nI_1 a) (dpJ_s (Or.inl ek)) (by omega))
      have nek : ¬ nI a = nI i := fun q => ek ((nI_eq (by omega) (by omega)).mp q)
      cases eb : bt (t 10 a) i
      · refine ax_X.steps 4 (ax_brF (nI_ge (by omega) (by omega)) ?_)
        refine ax_X.steps 3 (ax_brF (nek) ?_)
        refine ax_X.steps 4 ⟨a, ⟨by omega, by omega⟩, rfl, ?_⟩
        refine ax_X.steps 2 (ax_go (hI _ _ _ false (by omega) (by show bt (dpJ a (t 10) i (t 10 j ||| sB j) a) i = _; rw [dpJ_at]; exact eb)) ?_)
        refine ax_X.steps 1 (ax_brT (rfl) ?_)
        exact ax_X.steps 2 (ih (a + 1) _ _ (nI_1 a) (dpJ_n ek eb) (by omega))
      · refine ax_X.steps 4 (ax_brF (nI_ge (by omega) (by omega)) ?_)
        refine ax_X.steps 3 (ax_brF (nek) ?_)
        refine ax_X.steps 4 ⟨a, ⟨by omega, by omega⟩, rfl, ?_⟩
        refine ax_X.steps 2 (ax_go (hI _ _ _ true (by omega) (by show bt (dpJ a (t 10) i (t 10 j ||| sB j) a) i = _; rw [dpJ_at]; exact eb)) ?_)
        refine ax_X.steps 1 (ax_brF (bI_n0) ?_)
        refine ax_X.steps 5 ⟨a, ⟨by omega, by omega⟩, rfl, ?_⟩
        refine ax_X.steps 3 ⟨a, ⟨by omega, by omega⟩, rfl, ?_⟩
        exact ax_X.steps 2 (ih (a + 1) _ (upd (dpJ a (t 10) i (t 10 j ||| sB j)) a (dpJ a (t 10) i (t 10 j ||| sB j) a ||| (t 10 j ||| sB j))) (nI_1 a) (dpJ_s (Or.inr eb)) (by omega))
  refine ax_X.steps 4 ⟨i, ⟨by omega, by omega⟩, rfl, ?_⟩
  refine ax_X.steps 2 (ax_go (hI _ _ _ false (by omega) hb) ?_)
  refine ax_X.steps 1 (ax_brT (rfl) ?_)
  refine ax_X.steps 3 (ax_brF (fun q => hne ((nI_eq (by omega) (by omega)).mp q)) ?_)
  refine ax_X.steps 4 ⟨j, ⟨by omega, by omega⟩, rfl, ?_⟩
  refine ax_X.steps 2 (ax_go (hI _ _ _ false (by omega) hc) ?_)
  refine ax_X.steps 1 (ax_brT (rfl) ?_)
  refine ax_X.steps 5 ⟨i, ⟨by omega, by omega⟩, rfl, ?_⟩
  refine ax_X.steps 2 (ax_go (hO _ _) ?_)
  refine ax_X.steps 2 ⟨i, ⟨by omega, by omega⟩, rfl, (?_ : ax_X ax_Ms ax_Xs no_A_join C _ 30 [some (.ref 2), some (.int (nI i)), some (.int (nI j)), none, none] [] (oH f n (ts t 9 i (t 9 i ||| sB j)) u b) 0 0)⟩
  refine ax_X.steps 4 ⟨j, ⟨by omega, by omega⟩, rfl, ?_⟩
  refine ax_X.steps 2 (ax_go (hO _ _) ?_)
  exact ax_X.steps 4 (loop n 0 0 (t 10) rfl dpJ_0.symm (by omega))
def Sp_O_needs_n (C : ax_O) : Prop := ∀ (f : Nat → Int32) (n : Nat) (t : Nat → Nat → Int32) (u : Int32) (b : Nat) (x y : Int32), (hasB n x = false ∨ hasB n y = false) → C no_O_needs [.ref 0, .int x, .int y] (oH f n t u b) (ax_is (some (.int (-1))) (oH f n t u b))
theorem p_O_needs_n {C : ax_O} (hH : Sp_A_has C) : Sp_O_needs_n (ax_B ax_Ms ax_Xs C) := by
  intro f n t u b x y hx
  cases a1 : hasB n x
  · refine ax_X.steps 4 (ax_go (hH _ _ _ _ _ _ false a1) ?_)
    refine ax_X.steps 1 (ax_brT (rfl) ?_)
    exact ax_X.steps 2 ⟨Or.inl rfl, rfl, rfl⟩
  · have a2 : hasB n y = false := hx.resolve_left (by rw [a1]; decide)
    refine ax_X.steps 4 (ax_go (hH _ _ _ _ _ _ true a1) ?_)
    refine ax_X.steps 1 (ax_brF (bI_n0) ?_)
    refine ax_X.steps 4 (ax_go (hH _ _ _ _ _ _ false a2) ?_)
    refine ax_X.steps 1 (ax_brF (fun q => q rfl) ?_)
    exact ax_X.steps 2 ⟨Or.inl rfl, rfl, rfl⟩
/-- needs, of two that are there: what join does -/
def Sp_O_needs (C : ax_O) : Prop := ∀ (f : Nat → Int32) (n : Nat) (t : Nat → Nat → Int32) (u : Int32) (b : Nat) (k j : Nat), n ≤ 24 → k < n → j < n → (bt (t 9 k) j = true → C no_O_needs [.ref 0, .int (nI k), .int (nI j)] (oH f n t u b) (ax_is (some (.int (-1))) (oH f n t u b))) ∧
  (bt (t 9 k) j = false → (k = j ∨ bt (t 10 j) k = true) → C no_O_needs [.ref 0, .int (nI k), .int (nI j)] (oH f n t u b) (ax_is (some (.int (-2))) (oH f n t u b))) ∧
  (bt (t 9 k) j = false → ¬ k = j → bt (t 10 j) k = false → C no_O_needs [.ref 0, .int (nI k), .int (nI j)] (oH f n t u b) (ax_is (some (.int 1)) (oH f n (va_up (ts t 9 k (t 9 k ||| sB j)) 10 (dpJ n (t 10) k (t 10 j ||| sB j))) u b)))
theorem p_O_needs {C : ax_O} (hH : Sp_A_has C) (h0 : Sp_A_join_0 C) (h2 : Sp_A_join_2 C) (h1 : Sp_A_join_1 C) : Sp_O_needs (ax_B ax_Ms ax_Xs C) := by
  intro f n t u b k j hn hk hj
  refine ⟨fun hb => ?_, fun hb hc => ?_, fun hb hne hc => ?_⟩
  · refine ax_X.steps 4 (ax_go (hH _ _ _ _ _ _ true (hasB_k hn hk)) ?_)
    refine ax_X.steps 1 (ax_brF (bI_n0) ?_)
    refine ax_X.steps 4 (ax_go (hH _ _ _ _ _ _ true (hasB_k hn hj)) ?_)
    refine ax_X.steps 1 (ax_brT (bI_n0) ?_)
    refine ax_X.steps 5 (ax_go (h0 f n t u b k j (by omega) (by omega) hb) ?_)
    exact ax_X.steps 1 ⟨Or.inl rfl, rfl, rfl⟩
  · refine ax_X.steps 4 (ax_go (hH _ _ _ _ _ _ true (hasB_k hn hk)) ?_)
    refine ax_X.steps 1 (ax_brF (bI_n0) ?_)
    refine ax_X.steps 4 (ax_go (hH _ _ _ _ _ _ true (hasB_k hn hj)) ?_)
    refine ax_X.steps 1 (ax_brT (bI_n0) ?_)
    refine ax_X.steps 5 (ax_go (h2 f n t u b k j (by omega) (by omega) hb hc) ?_)
    exact ax_X.steps 1 ⟨Or.inl rfl, rfl, rfl⟩
  · refine ax_X.steps 4 (ax_go (hH _ _ _ _ _ _ true (hasB_k hn hk)) ?_)
    refine ax_X.steps 1 (ax_brF (bI_n0) ?_)
    refine ax_X.steps 4 (ax_go (hH _ _ _ _ _ _ true (hasB_k hn hj)) ?_)
    refine ax_X.steps 1 (ax_brT (bI_n0) ?_)
    refine ax_X.steps 5 (ax_go (h1 f n t u b k j hn (by omega) (by omega) hb hne hc) ?_)
    exact ax_X.steps 1 ⟨Or.inl rfl, rfl, rfl⟩
