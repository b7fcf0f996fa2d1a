/-! What the methods' proofs use: answers, branches, calls, bits (the family bt is pasted out of kit/laws/BITS.to-paste). -/
def ax_is (r : Option Value) (h : ax_H) : ax_K := fun r' h' => r' = r ∧ h' = h
theorem ax_br2 {P a b : Prop} (h1 : P → a) (h2 : ¬ P → b) : ax_br P a b := ⟨h1, h2⟩
theorem ax_brT {P a b : Prop} (h : P) (k : a) : ax_br P a b := ⟨fun _ => k, fun q => absurd h q⟩
theorem ax_brF {P a b : Prop} (h : ¬ P) (k : b) : ax_br P a b := ⟨fun q => absurd q h, fun _ => k⟩
theorem ax_go {C : ax_O} {a : Nat} {As : List Value} {h h0 : ax_H} {v : Int32} {R : Int32 → ax_H → Prop} (hc : C a As h (ax_is (some (.int v)) h0)) (k : R v h0) : ∃ K : ax_K, C a As h K ∧ ∀ (z : Int32) (h' : ax_H), K (some (.int z)) h' → R z h' :=
  ⟨_, hc, fun z h' hz => by
    obtain ⟨h1, rfl⟩ := hz
    cases h1
    exact k⟩
theorem ax_gov {C : ax_O} {a : Nat} {As : List Value} {h h0 : ax_H} {R : ax_H → Prop} (hc : C a As h (ax_is none h0)) (k : R h0) : ∃ K : ax_K, C a As h K ∧ ∀ h' : ax_H, K none h' → R h' :=
  ⟨_, hc, fun h' hz => by
    obtain ⟨-, rfl⟩ := hz
    exact k⟩
/-- a call whose answer is told by a property -/
theorem ax_goP {C : ax_O} {a : Nat} {As : List Value} {h : ax_H} {K : ax_K} {R : Int32 → ax_H → Prop} (hc : C a As h K) (k : ∀ z h', K (some (.int z)) h' → R z h') : ∃ K : ax_K, C a As h K ∧ ∀ (z : Int32) (h' : ax_H), K (some (.int z)) h' → R z h' := ⟨K, hc, k⟩
theorem ax_goPv {C : ax_O} {a : Nat} {As : List Value} {h : ax_H} {K : ax_K} {R : ax_H → Prop} (hc : C a As h K) (k : ∀ h', K none h' → R h') : ∃ K : ax_K, C a As h K ∧ ∀ h' : ax_H, K none h' → R h' := ⟨K, hc, k⟩
def bI (b : Bool) : Int32 := if b then 1 else 0
theorem bI_t : bI true = 1 := rfl
theorem bI_f : bI false = 0 := rfl
theorem bI_0 {b : Bool} : bI b = 0 ↔ b = false := by cases b <;> decide
theorem bI_01 (b : Bool) : bI b = 0 ∨ bI b = 1 := by cases b <;> decide
theorem bI_eq {b c : Bool} : bI b = bI c ↔ b = c := by cases b <;> cases c <;> decide
theorem bI_and1 (b : Bool) : bI b &&& 1 = bI b := by cases b <;> decide
def mxI (x y : Int32) : Int32 := if x < y then y else x
def mnI (x y : Int32) : Int32 := if y < x then y else x
/-- a table of rows, one place of one row written -/
def ts (t : Nat → Nat → Int32) (j a : Nat) (v : Int32) : Nat → Nat → Int32 := va_up t j (upd (t j) a v)
/-! ===== Int32 by its bits: bt x i ===== -/
def bt (x : Int32) (i : Nat) : Bool := x.toBitVec.getLsbD i
theorem b_ext {x y : Int32} (h : ∀ i, i < 32 → bt x i = bt y i) : x = y := Int32.toBitVec_inj.mp (BitVec.eq_of_getLsbD_eq (fun i hi => h i hi))
theorem b_or (x y : Int32) (i : Nat) : bt (x ||| y) i = (bt x i || bt y i) := by unfold bt; rw [Int32.toBitVec_or, BitVec.getLsbD_or]
theorem b_and (x y : Int32) (i : Nat) : bt (x &&& y) i = (bt x i && bt y i) := by unfold bt; rw [Int32.toBitVec_and, BitVec.getLsbD_and]
theorem b_xor (x y : Int32) (i : Nat) : bt (x ^^^ y) i = (bt x i ^^ bt y i) := by unfold bt; rw [Int32.toBitVec_xor, BitVec.getLsbD_xor]
theorem b_big {x : Int32} {i : Nat} (h : 32 ≤ i) : bt x i = false := BitVec.getLsbD_of_ge _ _ h
theorem b_255 (i : Nat) : bt 255 i = decide (i < 8) := by
  rcases Nat.lt_or_ge i 32 with h | h
  · exact (by decide +kernel : ∀ i, i < 32 → bt 255 i = decide (i < 8)) i h
  · rw [b_big h, decide_eq_false (by omega)]
theorem b_65535 (i : Nat) : bt 65535 i = decide (i < 16) := by
  rcases Nat.lt_or_ge i 32 with h | h
  · exact (by decide +kernel : ∀ i, i < 32 → bt 65535 i = decide (i < 16)) i h
  · rw [b_big h, decide_eq_false (by omega)]
theorem b_m1 : ∀ i, i < 32 → bt (-1) i = true := by decide +kernel
theorem b_0 (i : Nat) : bt 0 i = false := BitVec.getLsbD_zero
theorem s_l : ∀ n, n < 32 → ((nI n &&& 31).toBitVec.smod 32).toNat = n := by decide +kernel
theorem s_u : ∀ n, n < 32 → (((nI n).toUInt32 &&& Int32.toUInt32 31).toBitVec % 32).toNat = n := by decide +kernel
theorem b_shl (n : Nat) (hn : n < 32) (x : Int32) {i : Nat} (hi : i < 32) : bt (x <<< (nI n &&& 31)) i = (decide (n ≤ i) && bt x (i - n)) := by
  unfold bt
  rw [Int32.toBitVec_shiftLeft]
  show (x.toBitVec <<< ((nI n &&& 31).toBitVec.smod 32).toNat).getLsbD i = _
  rw [s_l n hn, BitVec.getLsbD_shiftLeft]
  rcases Nat.lt_or_ge i n with h | h
  · simp [h, Nat.not_le.mpr h]
  · simp [hi, h, Nat.not_lt.mpr h]
theorem b_ushr (n : Nat) (hn : n < 32) (x : Int32) (i : Nat) : bt ((x.toUInt32 >>> ((nI n).toUInt32 &&& Int32.toUInt32 31)).toInt32) i = bt x (n + i) := by
  show (x.toUInt32 >>> ((nI n).toUInt32 &&& Int32.toUInt32 31)).toBitVec.getLsbD i = x.toUInt32.toBitVec.getLsbD (n + i)
  rw [UInt32.toBitVec_shiftRight]
  show (x.toUInt32.toBitVec >>> (((nI n).toUInt32 &&& Int32.toUInt32 31).toBitVec % 32).toNat).getLsbD i = _
  rw [s_u n hn, BitVec.getLsbD_ushiftRight]
theorem b_sshr (n : Nat) (hn : n < 32) (x : Int32) {i : Nat} (hi : i < 32) : bt (x >>> (nI n &&& 31)) i = if n + i < 32 then bt x (n + i) else bt x 31 := by
  unfold bt
  rw [Int32.toBitVec_shiftRight]
  show (x.toBitVec.sshiftRight ((nI n &&& 31).toBitVec.smod 32).toNat).getLsbD i = _
  rw [s_l n hn, BitVec.getLsbD_sshiftRight, BitVec.msb_eq_getLsbD_last]
  simp [hi]
def sB (k : Nat) : Int32 := (1 : Int32) <<< (nI k &&& 31)
theorem b_1 : ∀ i, i < 32 → bt 1 i = decide (i = 0) := by decide +kernel
theorem b_sB {k i : Nat} (hk : k < 32) (hi : i < 32) : bt (sB k) i = decide (i = k) := by
  unfold sB
  rw [b_shl k hk 1 hi]
  rcases Nat.lt_or_ge i k with h | h
  · rw [decide_eq_false (by omega), decide_eq_false (by omega)]
    rfl
  · rw [b_1 _ (by omega), decide_eq_true h, Bool.true_and]
    by_cases e : i = k
    · rw [decide_eq_true (by omega), decide_eq_true e]
    · rw [decide_eq_false (by omega), decide_eq_false e]
theorem b_and0 (x y : Int32) : x &&& y = 0 ↔ ∀ i, i < 32 → bt x i = true → bt y i = true → False := by
  constructor
  · intro h i hi hx hy
    have := b_and x y i
    rw [h, b_0, hx, hy] at this
    cases this
  · intro h
    refine b_ext (fun i hi => ?_)
    rw [b_0, b_and]
    cases hx : bt x i <;> cases hy : bt y i <;> first | rfl | exact absurd (h i hi hx hy) id
theorem b_in {x : Int32} {k : Nat} (hk : k < 32) : x &&& sB k = 0 ↔ bt x k = false := by
  rw [b_and0]
  constructor
  · intro h
    cases hx : bt x k with
    | false => rfl
    | true => exact absurd (h k hk hx (by rw [b_sB hk hk, decide_eq_true rfl])) id
  · intro h i hi hx hy
    rw [b_sB hk hi] at hy
    have e : i = k := of_decide_eq_true hy
    rw [e, h] at hx
    cases hx
theorem b_rt {x : Int32} {k : Nat} (hk : k < 32) : (x >>> (nI k &&& 31)) &&& 1 = bI (bt x k) := by
  refine b_ext (fun i hi => ?_)
  rw [b_and, b_sshr k hk x hi, b_1 i hi]
  cases i with
  | zero =>
    rw [Nat.add_zero, if_pos hk, decide_eq_true rfl, Bool.and_true]
    cases bt x k
    · rw [bI_f, b_0]
    · rw [bI_t]; exact (b_1 0 (by omega)).symm
  | succ i =>
    rw [decide_eq_false (Nat.succ_ne_zero i), Bool.and_false]
    cases bt x k
    · rw [bI_f, b_0]
    · rw [bI_t]; exact (b_1 _ hi).symm
theorem b_not {y : Int32} {i : Nat} (hi : i < 32) : bt (y ^^^ (-1)) i = !(bt y i) := by
  rw [b_xor, b_m1 i hi, Bool.xor_true]
theorem b_del {x : Int32} {k i : Nat} (hk : k < 32) (hi : i < 32) : bt (x &&& (sB k ^^^ (-1))) i = (bt x i && !decide (i = k)) := by
  rw [b_and, b_not hi, b_sB hk hi]
theorem b_add {x : Int32} {k i : Nat} (hk : k < 32) (hi : i < 32) : bt (x ||| sB k) i = (bt x i || decide (i = k)) := by
  rw [b_or, b_sB hk hi]
/-- loops: what the first n turns make of x -/
def itN {α : Type} (f : Nat → α → α) : Nat → α → α
  | 0, x => x
  | n + 1, x => f n (itN f n x)
