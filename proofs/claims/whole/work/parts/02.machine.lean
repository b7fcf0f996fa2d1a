/-! A SMALL MACHINE over places: the walk of a method as a predicate that unfolds; proved sound over the kit's rows in the next part.
A reference is the number of a place in the list of cells; a cell is an array (boolean or int, length, contents) or an object (number of its kind, fields). -/
abbrev ax_C : Type := (Bool × Nat × (Nat → Int32)) ⊕ (Nat × List Value)
abbrev ax_H : Type := List ax_C
abbrev ax_L : Type := List (Option Value)
abbrev ax_K : Type := Option Value → ax_H → Prop
abbrev ax_O : Type := Nat → List Value → ax_H → ax_K → Prop
/-- an instruction: its pc, itself, two numbers, a constant, targets -/
abbrev ax_I : Type := Nat × Instr × Nat × Nat × Int32 × List Nat
/-- a method: its instructions, its locals, its arguments, the cells and slots that it makes -/
abbrev ax_M : Type := List ax_I × Nat × Nat × Nat × Nat
abbrev ax_R : Type := Nat → ax_L → List Value → ax_H → Nat → Nat → Prop
def ax_nth {α : Type} : List α → Nat → Option α
  | [], _ => none
  | a :: _, 0 => some a
  | _ :: l, n + 1 => ax_nth l n
theorem ax_nth_eq {α : Type} : ∀ (l : List α) (n : Nat), ax_nth l n = l[n]?
  | [], n => by simp [ax_nth]
  | a :: l, 0 => by simp [ax_nth]
  | a :: l, n + 1 => by simp [ax_nth, ax_nth_eq l n]
/-- refs lie below n -/
def ax_okv (n : Nat) : Value → Bool
  | .ref k => Nat.blt k n
  | _ => true
def ax_okc (n : Nat) : ax_C → Bool
  | .inl _ => true
  | .inr (_, fs) => fs.all (ax_okv n)
def ax_oko (n : Nat) : Option Value → Bool
  | none => true
  | some v => ax_okv n v
def ax_okf (n : Nat) (L : ax_L) (S : List Value) : Bool := L.all (ax_oko n) && S.all (ax_okv n)
def ax_okh (n : Nat) (h : ax_H) : Bool := h.all (ax_okc n)
def ax_if (b : Bool) (k : Prop) : Prop := match b with
  | true => k
  | false => False
def ax_bin (f : Int32 → Int32 → Int32) (S : List Value) (k : List Value → Prop) : Prop := match S with
  | .int y :: .int x :: r => k (.int (f x y) :: r)
  | _ => False
def ax_ldi (L : ax_L) (i : Nat) (k : Value → Prop) : Prop := match ax_nth L i with
  | some (some (.int x)) => k (.int x)
  | _ => False
def ax_lda (L : ax_L) (i : Nat) (k : Value → Prop) : Prop := match ax_nth L i with
  | some (some (.ref q)) => k (.ref q)
  | some (some .null) => k .null
  | _ => False
def ax_sti (S : List Value) (k : Value → List Value → Prop) : Prop := match S with
  | .int x :: r => k (.int x) r
  | _ => False
def ax_sta (S : List Value) (k : Value → List Value → Prop) : Prop := match S with
  | .ref q :: r => k (.ref q) r
  | .null :: r => k .null r
  | _ => False
def ax_inc (L : ax_L) (i : Nat) (v : Int32) (k : ax_L → Prop) : Prop := match ax_nth L i with
  | some (some (.int x)) => k (L.set i (some (.int (x + v))))
  | _ => False
def ax_getf (S : List Value) (h : ax_H) (ci f : Nat) (k : List Value → Prop) : Prop := match S with
  | .ref q :: r => match ax_nth h q with
    | some (.inr (c, fs)) => ax_if (Nat.beq c ci) (match ax_nth fs f with
      | some x => k (x :: r)
      | none => False)
    | _ => False
  | _ => False
/-- ty: 0 int, 1 boolean, 2 a reference -/
def ax_fit (ty : Int32) (v : Value) (k : Prop) : Prop := match v with
  | .int x => (ty = 0 ∨ (ty = 1 ∧ (x = 0 ∨ x = 1))) ∧ k
  | .ref _ => ty = 2 ∧ k
  | .null => ty = 2 ∧ k
  | _ => False
def ax_putf (S : List Value) (h : ax_H) (ci f : Nat) (ty : Int32) (k : List Value → ax_H → Prop) : Prop := match S with
  | v :: .ref q :: r => match ax_nth h q with
    | some (.inr (c, fs)) => ax_if (Nat.beq c ci && Nat.blt f fs.length) (ax_fit ty v (k r (h.set q (.inr (c, fs.set f v)))))
    | _ => False
  | _ => False
def ax_ald (z : Bool) (S : List Value) (h : ax_H) (k : List Value → Prop) : Prop := match S with
  | .int j :: .ref q :: r => match ax_nth h q with
    | some (.inl (z', n, f)) => ax_if (z == z') (∃ a : Nat, (a < n ∧ a < 2147483648) ∧ j = nI a ∧ k (.int (f a) :: r))
    | _ => False
  | _ => False
def ax_zv (z : Bool) (x : Int32) : Int32 := match z with
  | true => x &&& 1
  | false => x
def ax_ast (z : Bool) (S : List Value) (h : ax_H) (k : List Value → ax_H → Prop) : Prop := match S with
  | .int x :: .int j :: .ref q :: r => match ax_nth h q with
    | some (.inl (z', n, f)) => ax_if (z == z') (∃ a : Nat, (a < n ∧ a < 2147483648) ∧ j = nI a ∧ k r (h.set q (.inl (z', n, upd f a (ax_zv z x)))))
    | _ => False
  | _ => False
def ax_alen (S : List Value) (h : ax_H) (k : List Value → Prop) : Prop := match S with
  | .ref q :: r => match ax_nth h q with
    | some (.inl (_, n, _)) => k (.int (nI n) :: r)
    | _ => False
  | _ => False
def ax_cmp (c : ClassFile.Cond) (x y : Int32) : Prop := match c with
  | .eq => x = y
  | .ne => ¬ x = y
  | .lt => x < y
  | .ge => y ≤ x
  | .gt => y < x
  | .le => x ≤ y
def ax_br (P : Prop) (a b : Prop) : Prop := (P → a) ∧ (¬ P → b)
def ax_args : Nat → List Value → List Value → Option (List Value × List Value)
  | 0, acc, S => some (acc, S)
  | _ + 1, _, [] => none
  | n + 1, acc, v :: S => ax_args n (v :: acc) S
/-- the receiver of a call is an object of the kind told (static calls tell none) -/
def ax_rcv (ts : List Nat) (As : List Value) (h : ax_H) : Bool := match ts with
  | [] => true
  | ci :: _ => match As with
    | .ref p :: _ => match ax_nth h p with
      | some (.inr (c, _)) => Nat.beq c ci
      | _ => false
    | _ => false
/-- a call of method a: kind 3 answers an int, kind 4 nothing; 0 Object(), 1 max, 2 min -/
def ax_call (M : List ax_M) (mc ms : Nat) (C : ax_O) (a b : Nat) (ts : List Nat) (L : ax_L) (S : List Value) (h : ax_H) (ce sl : Nat) (R : List Value → ax_H → Nat → Nat → Prop) : Prop := match b with
  | 0 => match S with
    | .ref _ :: r => ax_if (Nat.ble r.length 4) (R r h ce sl)
    | _ => False
  | 1 => match S with
    | .int y :: .int x :: r => ax_if (Nat.ble r.length 4 && (Nat.ble ce mc && Nat.ble sl ms)) (R (.int (if x < y then y else x) :: r) h ce sl)
    | _ => False
  | 2 => match S with
    | .int y :: .int x :: r => ax_if (Nat.ble r.length 4 && (Nat.ble ce mc && Nat.ble sl ms)) (R (.int (if y < x then y else x) :: r) h ce sl)
    | _ => False
  | 3 => match ax_nth M a with
    | none => False
    | some (_, _, n, mA, sA) => match ax_args n [] S with
      | none => False
      | some (As, r) => ax_if (Nat.ble r.length 4 && (Nat.ble (ce + mA) mc && (Nat.ble (sl + sA) ms && ((Nat.beq mA 0 || ax_okf h.length L r) && ax_rcv ts As h)))) (∃ K : ax_K, C a As h K ∧ ∀ (z : Int32) (h' : ax_H), K (some (.int z)) h' → R (.int z :: r) h' (ce + mA) (sl + sA))
  | 4 => match ax_nth M a with
    | none => False
    | some (_, _, n, mA, sA) => match ax_args n [] S with
      | none => False
      | some (As, r) => ax_if (Nat.ble r.length 4 && (Nat.ble (ce + mA) mc && (Nat.ble (sl + sA) ms && ((Nat.beq mA 0 || ax_okf h.length L r) && ax_rcv ts As h)))) (∃ K : ax_K, C a As h K ∧ ∀ h' : ax_H, K none h' → R r h' (ce + mA) (sl + sA))
  | _ => False
def ax_sw (x : Int32) (lo : Int32) (ts : List Nat) (R : Nat → Prop) (d : Nat) : Prop :=
  (∀ (k t : Nat), ax_nth ts k = some t → x.toInt = lo.toInt + k → R t) ∧ ((x.toInt < lo.toInt ∨ lo.toInt + ts.length ≤ x.toInt) → R d)
/-- one instruction. X: fields of a kind at its birth -/
def ax_F (M : List ax_M) (X : List (List Value)) (y : Nat) (C : ax_O) (K : ax_K) (R : ax_R) (i : Nat) (L : ax_L) (S : List Value) (h : ax_H) (ce sl : Nat) : Prop :=
  match ax_nth M y with
  | none => False
  | some (cd, _, _, mc, ms) => match ax_nth cd i with
    | none => False
    | some (_, ins, a, b, v, ts) => match ins with
      | .iconst _ => R (i + 1) L (.int v :: S) h ce sl
      | .bipush _ => R (i + 1) L (.int v :: S) h ce sl
      | .sipush _ => R (i + 1) L (.int v :: S) h ce sl
      | .ldc _ => R (i + 1) L (.int v :: S) h ce sl
      | .aconst_null => R (i + 1) L (.null :: S) h ce sl
      | .iload_n _ => ax_ldi L a (fun x => R (i + 1) L (x :: S) h ce sl)
      | .iload _ => ax_ldi L a (fun x => R (i + 1) L (x :: S) h ce sl)
      | .aload_n _ => ax_lda L a (fun x => R (i + 1) L (x :: S) h ce sl)
      | .aload _ => ax_lda L a (fun x => R (i + 1) L (x :: S) h ce sl)
      | .istore_n _ => ax_sti S (fun x r => R (i + 1) (L.set a (some x)) r h ce sl)
      | .istore _ => ax_sti S (fun x r => R (i + 1) (L.set a (some x)) r h ce sl)
      | .astore_n _ => ax_sta S (fun x r => R (i + 1) (L.set a (some x)) r h ce sl)
      | .astore _ => ax_sta S (fun x r => R (i + 1) (L.set a (some x)) r h ce sl)
      | .iinc _ _ => ax_inc L a v (fun L' => R (i + 1) L' S h ce sl)
      | .iadd => ax_bin (fun x y => x + y) S (fun S' => R (i + 1) L S' h ce sl)
      | .isub => ax_bin (fun x y => x - y) S (fun S' => R (i + 1) L S' h ce sl)
      | .imul => ax_bin (fun x y => x * y) S (fun S' => R (i + 1) L S' h ce sl)
      | .iand => ax_bin (fun x y => x &&& y) S (fun S' => R (i + 1) L S' h ce sl)
      | .ior => ax_bin (fun x y => x ||| y) S (fun S' => R (i + 1) L S' h ce sl)
      | .ixor => ax_bin (fun x y => x ^^^ y) S (fun S' => R (i + 1) L S' h ce sl)
      | .ishl => ax_bin (fun x y => x <<< (y &&& 31)) S (fun S' => R (i + 1) L S' h ce sl)
      | .ishr => ax_bin (fun x y => x >>> (y &&& 31)) S (fun S' => R (i + 1) L S' h ce sl)
      | .dup => match S with
        | v :: r => ax_if (Nat.beq v.category 1) (R (i + 1) L (v :: v :: r) h ce sl)
        | _ => False
      | .pop => match S with
        | v :: r => ax_if (Nat.beq v.category 1) (R (i + 1) L r h ce sl)
        | _ => False
      | .dup2 => match S with
        | v :: w :: r => ax_if (Nat.beq v.category 1 && Nat.beq w.category 1) (R (i + 1) L (v :: w :: v :: w :: r) h ce sl)
        | _ => False
      | .dup_x1 => match S with
        | v :: w :: r => ax_if (Nat.beq v.category 1 && Nat.beq w.category 1) (R (i + 1) L (v :: w :: v :: r) h ce sl)
        | _ => False
      | .getfield _ => ax_getf S h a b (fun S' => R (i + 1) L S' h ce sl)
      | .putfield _ => ax_putf S h a b v (fun S' h' => R (i + 1) L S' h' ce sl)
      | .iaload => ax_ald false S h (fun S' => R (i + 1) L S' h ce sl)
      | .baload => ax_ald true S h (fun S' => R (i + 1) L S' h ce sl)
      | .iastore => ax_ast false S h (fun S' h' => R (i + 1) L S' h' ce sl)
      | .bastore => ax_ast true S h (fun S' h' => R (i + 1) L S' h' ce sl)
      | .arraylength => ax_alen S h (fun S' => R (i + 1) L S' h ce sl)
      | .if_icmp c _ => match S with
        | .int y :: .int x :: r => ax_br (ax_cmp c x y) (R a L r h ce sl) (R (i + 1) L r h ce sl)
        | _ => False
      | .ifCond c _ => match S with
        | .int x :: r => ax_br (ax_cmp c x 0) (R a L r h ce sl) (R (i + 1) L r h ce sl)
        | _ => False
      | .goto _ => R a L S h ce sl
      | .tableswitch _ _ _ _ => match S with
        | .int x :: r => ax_sw x v ts (fun t => R t L r h ce sl) a
        | _ => False
      | .new _ => match ax_nth X a with
        | some fs => ax_if (ax_okf h.length L S && (ax_okh h.length h && (Nat.ble (ce + 1) mc && Nat.ble (sl + b) ms))) (R (i + 1) L (.ref h.length :: S) (h ++ [.inr (a, fs)]) (ce + 1) (sl + b))
        | none => False
      | .newarray _ => match S with
        | .int n :: r => ∃ N : Nat, (n = nI N ∧ N ≤ 100000) ∧ ax_if (ax_okf h.length L r && (ax_okh h.length h && (Nat.ble (ce + 1) mc && Nat.ble (sl + N) ms))) (R (i + 1) L (.ref h.length :: r) (h ++ [.inl (Nat.beq a 1, N, fun _ => 0)]) (ce + 1) (sl + N))
        | _ => False
      | .invokevirtual _ => ax_call M mc ms C a b ts L S h ce sl (fun S' h' ce' sl' => R (i + 1) L S' h' ce' sl')
      | .invokestatic _ => ax_call M mc ms C a b ts L S h ce sl (fun S' h' ce' sl' => R (i + 1) L S' h' ce' sl')
      | .invokespecial _ => ax_call M mc ms C a b ts L S h ce sl (fun S' h' ce' sl' => R (i + 1) L S' h' ce' sl')
      | .ireturn => match S with
        | [.int x] => ax_if (Nat.ble ce mc && Nat.ble sl ms) ((a = 0 ∨ (x = 0 ∨ x = 1)) ∧ K (some (.int x)) h)
        | _ => False
      | .return_ => match S with
        | [] => ax_if (Nat.ble ce mc && Nat.ble sl ms) (K none h)
        | _ => False
      | _ => False
/-- the least predicate that the instructions lead back to -/
def ax_X (M : List ax_M) (X : List (List Value)) (y : Nat) (C : ax_O) (K : ax_K) (i : Nat) (L : ax_L) (S : List Value) (h : ax_H) (ce sl : Nat) : Prop :=
  ∀ R : ax_R, (∀ (i : Nat) (L : ax_L) (S : List Value) (h : ax_H) (ce sl : Nat), ax_F M X y C K R i L S h ce sl → R i L S h ce sl) → R i L S h ce sl
/-- a method's body -/
def ax_B (M : List ax_M) (X : List (List Value)) (C : ax_O) : ax_O := fun y As h K => match ax_nth M y with
  | none => False
  | some (_, nl, n, _, _) => ax_if (Nat.beq As.length n && As.all (fun v => Nat.beq v.category 1)) (ax_X M X y C K 0 (As.map some ++ List.replicate (nl - n) none) [] h 0 0)
/-- calls, d deep -/
def ax_D (M : List ax_M) (X : List (List Value)) : Nat → ax_O
  | 0 => fun _ _ _ _ => False
  | d + 1 => ax_B M X (ax_D M X d)
