/-! Pure: sums over those that run. -/
theorem i_addc (x y z : Int32) : x + y + z = x + z + y := by rw [Int32.add_assoc, Int32.add_comm y z, ← Int32.add_assoc]
theorem i_sub_of {x y z : Int32} (h : x = y + z) : y = x - z := by
  apply Int32.toBitVec_inj.mp
  have h2 : x.toBitVec = y.toBitVec + z.toBitVec := by rw [h]; rfl
  show y.toBitVec = x.toBitVec - z.toBitVec
  rw [h2, BitVec.add_sub_cancel]
theorem smI_congr {st st' g g' : Nat → Int32} : ∀ {n : Nat}, (∀ a, a < n → (st a = 7 ↔ st' a = 7) ∧ (st a = 7 → g a = g' a)) → smI st g n = smI st' g' n
  | 0, _ => rfl
  | n + 1, h => by
    have ih := smI_congr (n := n) (fun a ha => h a (by omega))
    by_cases e : st n = 7
    · rw [smI_t e, smI_t ((h n (by omega)).1.mp e), ih, (h n (by omega)).2 e]
    · rw [smI_f e, smI_f (fun q => e ((h n (by omega)).1.mpr q)), ih]
theorem smI_add {st g : Nat → Int32} {a : Nat} : ∀ {n : Nat}, a < n → ¬ st a = 7 → smI (upd st a 7) g n = smI st g n + g a
  | 0, ha, _ => absurd ha (Nat.not_lt_zero a)
  | n + 1, ha, h => by
    by_cases e : a = n
    · subst e
      rw [smI_t (pk_us), smI_f h, smI_congr (st := upd st a 7) (st' := st) (g := g) (g' := g) (n := a) (fun c hc => by rw [pk_un (by omega)]; exact ⟨Iff.rfl, fun _ => rfl⟩)]
    · have ih := smI_add (st := st) (g := g) (a := a) (n := n) (by omega) h
      have e2 : upd st a 7 n = st n := pk_un (fun q => e q.symm)
      by_cases q : st n = 7
      · rw [smI_t (e2.trans q), smI_t q, ih, i_addc]
      · rw [smI_f (fun z => q (e2.symm.trans z)), smI_f q, ih]
theorem upd_upd {g : Nat → Int32} {a : Nat} {v w : Int32} : upd (upd g a v) a w = upd g a w := by
  funext c
  unfold upd
  by_cases e : c = a
  · rw [if_pos e, if_pos e]
  · rw [if_neg e, if_neg e, if_neg e]
theorem smI_del {st g : Nat → Int32} {a n : Nat} {v : Int32} (ha : a < n) (h : st a = 7) (hv : ¬ v = 7) : smI (upd st a v) g n = smI st g n - g a := by
  have h1 := smI_add (st := upd st a v) (g := g) ha (by rw [pk_us]; exact hv)
  rw [upd_upd, upd_id h] at h1
  exact i_sub_of h1
theorem bt_orI {st g : Nat → Int32} {i : Nat} : ∀ {n : Nat}, bt (orI st g n) i = true ↔ ∃ c, c < n ∧ st c = 7 ∧ bt (g c) i = true
  | 0 => ⟨fun h => (by rw [orI, b_0] at h; cases h), fun ⟨c, h, _⟩ => absurd h (Nat.not_lt_zero c)⟩
  | n + 1 => by
    have ih := bt_orI (st := st) (g := g) (i := i) (n := n)
    by_cases e : st n = 7
    · rw [orI_t e, b_or, Bool.or_eq_true, ih]
      constructor
      · rintro (⟨c, h1, h2⟩ | h)
        · exact ⟨c, by omega, h2⟩
        · exact ⟨n, by omega, e, h⟩
      · rintro ⟨c, h1, h2, h3⟩
        by_cases ec : c = n
        · subst ec; exact Or.inr h3
        · exact Or.inl ⟨c, by omega, h2, h3⟩
    · rw [orI_f e, ih]
      constructor
      · rintro ⟨c, h1, h2⟩; exact ⟨c, by omega, h2⟩
      · rintro ⟨c, h1, h2, h3⟩
        by_cases ec : c = n
        · subst ec; exact absurd h2 e
        · exact ⟨c, by omega, h2, h3⟩
theorem bool_ext {p q : Bool} (h : p = true ↔ q = true) : p = q := by
  cases p <;> cases q <;> simp_all
theorem orI_congr {st st' g : Nat → Int32} {n : Nat} (h : ∀ a, a < n → (st a = 7 ↔ st' a = 7)) : orI st g n = orI st' g n := b_ext (fun i _ => bool_ext (by
  rw [bt_orI, bt_orI]
  constructor
  · rintro ⟨c, h1, h2, h3⟩; exact ⟨c, h1, (h c h1).mp h2, h3⟩
  · rintro ⟨c, h1, h2, h3⟩; exact ⟨c, h1, (h c h1).mpr h2, h3⟩))
theorem orI_add {st g : Nat → Int32} {a n : Nat} (ha : a < n) (h : ¬ st a = 7) : orI (upd st a 7) g n = orI st g n ||| g a := b_ext (fun i _ => bool_ext (by
  rw [b_or, Bool.or_eq_true, bt_orI, bt_orI]
  constructor
  · rintro ⟨c, h1, h2, h3⟩
    by_cases e : c = a
    · subst e; exact Or.inr h3
    · rw [pk_un e] at h2; exact Or.inl ⟨c, h1, h2, h3⟩
  · rintro (⟨c, h1, h2, h3⟩ | h3)
    · by_cases e : c = a
      · subst e; exact absurd h2 h
      · exact ⟨c, h1, by rw [pk_un e]; exact h2, h3⟩
    · exact ⟨a, ha, pk_us, h3⟩))
theorem orI_del {st g : Nat → Int32} {a n : Nat} {v : Int32} (ha : a < n) (h : st a = 7) (hv : ¬ v = 7) (hd : ∀ c, c < n → c ≠ a → st c = 7 → g c &&& g a = 0) : orI (upd st a v) g n = orI st g n &&& (g a ^^^ (-1)) := b_ext (fun i hi => bool_ext (by
  rw [b_and, Bool.and_eq_true, b_not hi, bt_orI, bt_orI]
  constructor
  · rintro ⟨c, h1, h2, h3⟩
    by_cases e : c = a
    · subst e; rw [pk_us] at h2; exact absurd h2 hv
    · rw [pk_un e] at h2
      refine ⟨⟨c, h1, h2, h3⟩, ?_⟩
      cases q : bt (g a) i
      · rfl
      · exact absurd ((b_and0 _ _).mp (hd c h1 e h2) i hi h3 q) id
  · rintro ⟨⟨c, h1, h2, h3⟩, h4⟩
    by_cases e : c = a
    · subst e; rw [h3] at h4; cases h4
    · exact ⟨c, h1, by rw [pk_un e]; exact h2, h3⟩))
/-- the sum as a number -/
def smN (st : Nat → Int32) (x : Nat → Nat) : Nat → Nat
  | 0 => 0
  | m + 1 => if st m = 7 then smN st x m + x m else smN st x m
theorem smN_t {st : Nat → Int32} {x : Nat → Nat} {m : Nat} (h : st m = 7) : smN st x (m + 1) = smN st x m + x m := if_pos h
theorem smN_f {st : Nat → Int32} {x : Nat → Nat} {m : Nat} (h : ¬ st m = 7) : smN st x (m + 1) = smN st x m := if_neg h
theorem smI_N {st g : Nat → Int32} {x : Nat → Nat} : ∀ {n : Nat}, (∀ a, a < n → g a = nI (x a)) → smI st g n = nI (smN st x n)
  | 0, _ => rfl
  | n + 1, h => by
    have ih := smI_N (st := st) (n := n) (fun a ha => h a (by omega))
    by_cases e : st n = 7
    · rw [smI_t e, smN_t e, ih, h n (by omega), nI_add]
    · rw [smI_f e, smN_f e, ih]
theorem smN_congr {st st' : Nat → Int32} {x y : Nat → Nat} : ∀ {n : Nat}, (∀ a, a < n → (st a = 7 ↔ st' a = 7) ∧ (st a = 7 → x a = y a)) → smN st x n = smN st' y n
  | 0, _ => rfl
  | n + 1, h => by
    have ih := smN_congr (n := n) (fun a ha => h a (by omega))
    by_cases e : st n = 7
    · rw [smN_t e, smN_t ((h n (by omega)).1.mp e), ih, (h n (by omega)).2 e]
    · rw [smN_f e, smN_f (fun q => e ((h n (by omega)).1.mpr q)), ih]
theorem smN_add {st : Nat → Int32} {x : Nat → Nat} {a : Nat} : ∀ {n : Nat}, a < n → ¬ st a = 7 → smN (upd st a 7) x n = smN st x n + x a
  | 0, ha, _ => absurd ha (Nat.not_lt_zero a)
  | n + 1, ha, h => by
    by_cases e : a = n
    · subst e
      rw [smN_t (pk_us), smN_f h, smN_congr (st := upd st a 7) (st' := st) (x := x) (y := x) (n := a) (fun c hc => by rw [pk_un (by omega)]; exact ⟨Iff.rfl, fun _ => rfl⟩)]
    · have ih := smN_add (st := st) (x := x) (a := a) (n := n) (by omega) h
      have e2 : upd st a 7 n = st n := pk_un (fun q => e q.symm)
      by_cases q : st n = 7
      · rw [smN_t (e2.trans q), smN_t q, ih]; omega
      · rw [smN_f (fun z => q (e2.symm.trans z)), smN_f q, ih]
theorem smN_del {st : Nat → Int32} {x : Nat → Nat} {a n : Nat} {v : Int32} (ha : a < n) (h : st a = 7) (hv : ¬ v = 7) : smN (upd st a v) x n + x a = smN st x n := by
  have h1 := smN_add (st := upd st a v) (x := x) ha (by rw [pk_us]; exact hv)
  rw [upd_upd, upd_id h] at h1
  exact h1.symm
theorem fmN_rs {p : Nat → Bool} {rs rs' : Nat → Int32} : ∀ {n : Nat}, (∀ c, c < n → p c = true → rs c = rs' c) → fmN p rs n = fmN p rs' n
  | 0, _ => rfl
  | n + 1, h => by
    have ih := fmN_rs (p := p) (rs := rs) (rs' := rs') (n := n) (fun c hc => h c (by omega))
    rw [fmN, fmN, ih]
    cases e : fmN p rs' n with
    | none => rfl
    | some j =>
      dsimp only
      have hj := fmN_lt e
      have hp := fmN_p e
      cases q : p n
      · rw [Bool.false_and, Bool.false_and]
      · rw [h n (by omega) q, h j (by omega) hp]
