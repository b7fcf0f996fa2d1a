section
-- ===== PART A: goes FIRST, ahead of the names: the tables' words, and 'selects' of the private methods out of them =====
/-- a private method of a class that the tables say can be made, by its rows of tables_1 -/
def lw_okq (q : MethodName × Nat) : Prop := (q.1.cls ≠ "java/lang/invoke/MethodHandle" ∧ q.1.cls ≠ "java/lang/invoke/VarHandle") ∧ Cond.instantiable q.1.cls q.2 ∈ tables_1 ∧ Cond.privateMethod q.1 ∈ tables_1 ∧ Cond.instanceMethod q.1 ∈ tables_1
theorem lw_p0 : lw_okq (⟨"RunOrder$Run", "prepare", "()V"⟩, 13) := ⟨⟨by decide +kernel, by decide +kernel⟩, List.mem_of_getElem? (i := 148) (by decide +kernel), List.mem_of_getElem? (i := 269) (by decide +kernel), List.mem_of_getElem? (i := 270) (by decide +kernel)⟩
theorem lw_p1 : lw_okq (⟨"RunOrder$Actions", "greatestRestAbove", "(II)I"⟩, 13) := ⟨⟨by decide +kernel, by decide +kernel⟩, List.mem_of_getElem? (i := 65) (by decide +kernel), List.mem_of_getElem? (i := 285) (by decide +kernel), List.mem_of_getElem? (i := 286) (by decide +kernel)⟩
theorem lw_p2 : lw_okq (⟨"RunOrder$Run", "stateAtFirst", "(I)I"⟩, 13) := ⟨⟨by decide +kernel, by decide +kernel⟩, List.mem_of_getElem? (i := 148) (by decide +kernel), List.mem_of_getElem? (i := 291) (by decide +kernel), List.mem_of_getElem? (i := 292) (by decide +kernel)⟩
theorem lw_p3 : lw_okq (⟨"RunOrder$Run", "endTries", "(I)V"⟩, 13) := ⟨⟨by decide +kernel, by decide +kernel⟩, List.mem_of_getElem? (i := 148) (by decide +kernel), List.mem_of_getElem? (i := 299) (by decide +kernel), List.mem_of_getElem? (i := 300) (by decide +kernel)⟩
theorem lw_p4 : lw_okq (⟨"RunOrder$Run", "endTry", "(III)V"⟩, 13) := ⟨⟨by decide +kernel, by decide +kernel⟩, List.mem_of_getElem? (i := 148) (by decide +kernel), List.mem_of_getElem? (i := 303) (by decide +kernel), List.mem_of_getElem? (i := 304) (by decide +kernel)⟩
theorem lw_p5 : lw_okq (⟨"RunOrder$Run", "leaveBothSides", "(I)V"⟩, 13) := ⟨⟨by decide +kernel, by decide +kernel⟩, List.mem_of_getElem? (i := 148) (by decide +kernel), List.mem_of_getElem? (i := 307) (by decide +kernel), List.mem_of_getElem? (i := 308) (by decide +kernel)⟩
theorem lw_p6 : lw_okq (⟨"RunOrder$Run", "mayTryAgain", "(I)Z"⟩, 13) := ⟨⟨by decide +kernel, by decide +kernel⟩, List.mem_of_getElem? (i := 148) (by decide +kernel), List.mem_of_getElem? (i := 315) (by decide +kernel), List.mem_of_getElem? (i := 316) (by decide +kernel)⟩
theorem lw_p7 : lw_okq (⟨"RunOrder$Run", "isOneBad", "()Z"⟩, 13) := ⟨⟨by decide +kernel, by decide +kernel⟩, List.mem_of_getElem? (i := 148) (by decide +kernel), List.mem_of_getElem? (i := 319) (by decide +kernel), List.mem_of_getElem? (i := 320) (by decide +kernel)⟩
theorem lw_p8 : lw_okq (⟨"RunOrder$Run", "skipHindered", "()V"⟩, 13) := ⟨⟨by decide +kernel, by decide +kernel⟩, List.mem_of_getElem? (i := 148) (by decide +kernel), List.mem_of_getElem? (i := 327) (by decide +kernel), List.mem_of_getElem? (i := 328) (by decide +kernel)⟩
theorem lw_p9 : lw_okq (⟨"RunOrder$Run", "allIn", "(I)I"⟩, 13) := ⟨⟨by decide +kernel, by decide +kernel⟩, List.mem_of_getElem? (i := 148) (by decide +kernel), List.mem_of_getElem? (i := 331) (by decide +kernel), List.mem_of_getElem? (i := 332) (by decide +kernel)⟩
theorem lw_p10 : lw_okq (⟨"RunOrder$Run", "stopWaiting", "()V"⟩, 13) := ⟨⟨by decide +kernel, by decide +kernel⟩, List.mem_of_getElem? (i := 148) (by decide +kernel), List.mem_of_getElem? (i := 336) (by decide +kernel), List.mem_of_getElem? (i := 337) (by decide +kernel)⟩
theorem lw_p11 : lw_okq (⟨"RunOrder$Run", "beginReady", "(I)V"⟩, 13) := ⟨⟨by decide +kernel, by decide +kernel⟩, List.mem_of_getElem? (i := 148) (by decide +kernel), List.mem_of_getElem? (i := 340) (by decide +kernel), List.mem_of_getElem? (i := 341) (by decide +kernel)⟩
theorem lw_p12 : lw_okq (⟨"RunOrder$Run", "allReady", "()I"⟩, 13) := ⟨⟨by decide +kernel, by decide +kernel⟩, List.mem_of_getElem? (i := 148) (by decide +kernel), List.mem_of_getElem? (i := 344) (by decide +kernel), List.mem_of_getElem? (i := 345) (by decide +kernel)⟩
theorem lw_p13 : lw_okq (⟨"RunOrder$Run", "isOtherThanTestLeft", "()Z"⟩, 13) := ⟨⟨by decide +kernel, by decide +kernel⟩, List.mem_of_getElem? (i := 148) (by decide +kernel), List.mem_of_getElem? (i := 348) (by decide +kernel), List.mem_of_getElem? (i := 349) (by decide +kernel)⟩
theorem lw_p14 : lw_okq (⟨"RunOrder$Run", "foremost", "(I)I"⟩, 13) := ⟨⟨by decide +kernel, by decide +kernel⟩, List.mem_of_getElem? (i := 148) (by decide +kernel), List.mem_of_getElem? (i := 352) (by decide +kernel), List.mem_of_getElem? (i := 353) (by decide +kernel)⟩
theorem lw_p15 : lw_okq (⟨"RunOrder$Run", "beginTry", "(II)V"⟩, 13) := ⟨⟨by decide +kernel, by decide +kernel⟩, List.mem_of_getElem? (i := 148) (by decide +kernel), List.mem_of_getElem? (i := 360) (by decide +kernel), List.mem_of_getElem? (i := 361) (by decide +kernel)⟩
def lw_privs_1 : List (MethodName × Nat) := [(⟨"RunOrder$Run", "prepare", "()V"⟩, 13), (⟨"RunOrder$Actions", "greatestRestAbove", "(II)I"⟩, 13), (⟨"RunOrder$Run", "stateAtFirst", "(I)I"⟩, 13), (⟨"RunOrder$Run", "endTries", "(I)V"⟩, 13), (⟨"RunOrder$Run", "endTry", "(III)V"⟩, 13), (⟨"RunOrder$Run", "leaveBothSides", "(I)V"⟩, 13), (⟨"RunOrder$Run", "mayTryAgain", "(I)Z"⟩, 13), (⟨"RunOrder$Run", "isOneBad", "()Z"⟩, 13), (⟨"RunOrder$Run", "skipHindered", "()V"⟩, 13), (⟨"RunOrder$Run", "allIn", "(I)I"⟩, 13), (⟨"RunOrder$Run", "stopWaiting", "()V"⟩, 13), (⟨"RunOrder$Run", "beginReady", "(I)V"⟩, 13), (⟨"RunOrder$Run", "allReady", "()I"⟩, 13), (⟨"RunOrder$Run", "isOtherThanTestLeft", "()Z"⟩, 13), (⟨"RunOrder$Run", "foremost", "(I)I"⟩, 13), (⟨"RunOrder$Run", "beginTry", "(II)V"⟩, 13)]
theorem lw_r1 : ∀ q ∈ lw_privs_1, lw_okq q := List.forall_mem_cons.mpr ⟨lw_p0, List.forall_mem_cons.mpr ⟨lw_p1, List.forall_mem_cons.mpr ⟨lw_p2, List.forall_mem_cons.mpr ⟨lw_p3, List.forall_mem_cons.mpr ⟨lw_p4, List.forall_mem_cons.mpr ⟨lw_p5, List.forall_mem_cons.mpr ⟨lw_p6, List.forall_mem_cons.mpr ⟨lw_p7, List.forall_mem_cons.mpr ⟨lw_p8, List.forall_mem_cons.mpr ⟨lw_p9, List.forall_mem_cons.mpr ⟨lw_p10, List.forall_mem_cons.mpr ⟨lw_p11, List.forall_mem_cons.mpr ⟨lw_p12, List.forall_mem_cons.mpr ⟨lw_p13, List.forall_mem_cons.mpr ⟨lw_p14, List.forall_mem_cons.mpr ⟨lw_p15, fun _ h => absurd h List.not_mem_nil⟩⟩⟩⟩⟩⟩⟩⟩⟩⟩⟩⟩⟩⟩⟩⟩
theorem lw_p16 : lw_okq (⟨"RunOrder$Run", "nextEnd", "()I"⟩, 13) := ⟨⟨by decide +kernel, by decide +kernel⟩, List.mem_of_getElem? (i := 148) (by decide +kernel), List.mem_of_getElem? (i := 373) (by decide +kernel), List.mem_of_getElem? (i := 374) (by decide +kernel)⟩
theorem lw_p17 : lw_okq (⟨"RunOrderModel", "isAction", "(I)Z"⟩, 35) := ⟨⟨by decide +kernel, by decide +kernel⟩, List.mem_of_getElem? (i := 416) (by decide +kernel), List.mem_of_getElem? (i := 547) (by decide +kernel), List.mem_of_getElem? (i := 548) (by decide +kernel)⟩
theorem lw_p18 : lw_okq (⟨"RunOrderModel", "all", "(I)I"⟩, 35) := ⟨⟨by decide +kernel, by decide +kernel⟩, List.mem_of_getElem? (i := 416) (by decide +kernel), List.mem_of_getElem? (i := 559) (by decide +kernel), List.mem_of_getElem? (i := 560) (by decide +kernel)⟩
theorem lw_p19 : lw_okq (⟨"RunOrderModel", "want", "()V"⟩, 35) := ⟨⟨by decide +kernel, by decide +kernel⟩, List.mem_of_getElem? (i := 416) (by decide +kernel), List.mem_of_getElem? (i := 579) (by decide +kernel), List.mem_of_getElem? (i := 580) (by decide +kernel)⟩
theorem lw_p20 : lw_okq (⟨"RunOrderModel", "fresh", "()V"⟩, 35) := ⟨⟨by decide +kernel, by decide +kernel⟩, List.mem_of_getElem? (i := 416) (by decide +kernel), List.mem_of_getElem? (i := 587) (by decide +kernel), List.mem_of_getElem? (i := 588) (by decide +kernel)⟩
theorem lw_p21 : lw_okq (⟨"RunOrderModel", "endAll", "(I)V"⟩, 35) := ⟨⟨by decide +kernel, by decide +kernel⟩, List.mem_of_getElem? (i := 416) (by decide +kernel), List.mem_of_getElem? (i := 591) (by decide +kernel), List.mem_of_getElem? (i := 592) (by decide +kernel)⟩
theorem lw_p22 : lw_okq (⟨"RunOrderModel", "end", "(III)V"⟩, 35) := ⟨⟨by decide +kernel, by decide +kernel⟩, List.mem_of_getElem? (i := 416) (by decide +kernel), List.mem_of_getElem? (i := 595) (by decide +kernel), List.mem_of_getElem? (i := 596) (by decide +kernel)⟩
theorem lw_p23 : lw_okq (⟨"RunOrderModel", "isSpoilt", "()Z"⟩, 35) := ⟨⟨by decide +kernel, by decide +kernel⟩, List.mem_of_getElem? (i := 416) (by decide +kernel), List.mem_of_getElem? (i := 599) (by decide +kernel), List.mem_of_getElem? (i := 600) (by decide +kernel)⟩
theorem lw_p24 : lw_okq (⟨"RunOrderModel", "skipAll", "()V"⟩, 35) := ⟨⟨by decide +kernel, by decide +kernel⟩, List.mem_of_getElem? (i := 416) (by decide +kernel), List.mem_of_getElem? (i := 603) (by decide +kernel), List.mem_of_getElem? (i := 604) (by decide +kernel)⟩
theorem lw_p25 : lw_okq (⟨"RunOrderModel", "lacks", "(I)Z"⟩, 35) := ⟨⟨by decide +kernel, by decide +kernel⟩, List.mem_of_getElem? (i := 416) (by decide +kernel), List.mem_of_getElem? (i := 607) (by decide +kernel), List.mem_of_getElem? (i := 608) (by decide +kernel)⟩
theorem lw_p26 : lw_okq (⟨"RunOrderModel", "stopAll", "()V"⟩, 35) := ⟨⟨by decide +kernel, by decide +kernel⟩, List.mem_of_getElem? (i := 416) (by decide +kernel), List.mem_of_getElem? (i := 611) (by decide +kernel), List.mem_of_getElem? (i := 612) (by decide +kernel)⟩
theorem lw_p27 : lw_okq (⟨"RunOrderModel", "beginAll", "(I)V"⟩, 35) := ⟨⟨by decide +kernel, by decide +kernel⟩, List.mem_of_getElem? (i := 416) (by decide +kernel), List.mem_of_getElem? (i := 615) (by decide +kernel), List.mem_of_getElem? (i := 616) (by decide +kernel)⟩
theorem lw_p28 : lw_okq (⟨"RunOrderModel", "isReady", "(IZ)Z"⟩, 35) := ⟨⟨by decide +kernel, by decide +kernel⟩, List.mem_of_getElem? (i := 416) (by decide +kernel), List.mem_of_getElem? (i := 619) (by decide +kernel), List.mem_of_getElem? (i := 620) (by decide +kernel)⟩
theorem lw_p29 : lw_okq (⟨"RunOrderModel", "next", "()I"⟩, 35) := ⟨⟨by decide +kernel, by decide +kernel⟩, List.mem_of_getElem? (i := 416) (by decide +kernel), List.mem_of_getElem? (i := 623) (by decide +kernel), List.mem_of_getElem? (i := 624) (by decide +kernel)⟩
theorem lw_p30 : lw_okq (⟨"RunOrderModel", "fits", "(I)Z"⟩, 35) := ⟨⟨by decide +kernel, by decide +kernel⟩, List.mem_of_getElem? (i := 416) (by decide +kernel), List.mem_of_getElem? (i := 627) (by decide +kernel), List.mem_of_getElem? (i := 628) (by decide +kernel)⟩
theorem lw_p31 : lw_okq (⟨"RunOrderModel", "taken", "(I)I"⟩, 35) := ⟨⟨by decide +kernel, by decide +kernel⟩, List.mem_of_getElem? (i := 416) (by decide +kernel), List.mem_of_getElem? (i := 631) (by decide +kernel), List.mem_of_getElem? (i := 632) (by decide +kernel)⟩
def lw_privs_2 : List (MethodName × Nat) := [(⟨"RunOrder$Run", "nextEnd", "()I"⟩, 13), (⟨"RunOrderModel", "isAction", "(I)Z"⟩, 35), (⟨"RunOrderModel", "all", "(I)I"⟩, 35), (⟨"RunOrderModel", "want", "()V"⟩, 35), (⟨"RunOrderModel", "fresh", "()V"⟩, 35), (⟨"RunOrderModel", "endAll", "(I)V"⟩, 35), (⟨"RunOrderModel", "end", "(III)V"⟩, 35), (⟨"RunOrderModel", "isSpoilt", "()Z"⟩, 35), (⟨"RunOrderModel", "skipAll", "()V"⟩, 35), (⟨"RunOrderModel", "lacks", "(I)Z"⟩, 35), (⟨"RunOrderModel", "stopAll", "()V"⟩, 35), (⟨"RunOrderModel", "beginAll", "(I)V"⟩, 35), (⟨"RunOrderModel", "isReady", "(IZ)Z"⟩, 35), (⟨"RunOrderModel", "next", "()I"⟩, 35), (⟨"RunOrderModel", "fits", "(I)Z"⟩, 35), (⟨"RunOrderModel", "taken", "(I)I"⟩, 35)]
theorem lw_r2 : ∀ q ∈ lw_privs_2, lw_okq q := List.forall_mem_cons.mpr ⟨lw_p16, List.forall_mem_cons.mpr ⟨lw_p17, List.forall_mem_cons.mpr ⟨lw_p18, List.forall_mem_cons.mpr ⟨lw_p19, List.forall_mem_cons.mpr ⟨lw_p20, List.forall_mem_cons.mpr ⟨lw_p21, List.forall_mem_cons.mpr ⟨lw_p22, List.forall_mem_cons.mpr ⟨lw_p23, List.forall_mem_cons.mpr ⟨lw_p24, List.forall_mem_cons.mpr ⟨lw_p25, List.forall_mem_cons.mpr ⟨lw_p26, List.forall_mem_cons.mpr ⟨lw_p27, List.forall_mem_cons.mpr ⟨lw_p28, List.forall_mem_cons.mpr ⟨lw_p29, List.forall_mem_cons.mpr ⟨lw_p30, List.forall_mem_cons.mpr ⟨lw_p31, fun _ h => absurd h List.not_mem_nil⟩⟩⟩⟩⟩⟩⟩⟩⟩⟩⟩⟩⟩⟩⟩⟩
theorem lw_p32 : lw_okq (⟨"RunOrderModel", "begin", "(II)V"⟩, 35) := ⟨⟨by decide +kernel, by decide +kernel⟩, List.mem_of_getElem? (i := 416) (by decide +kernel), List.mem_of_getElem? (i := 635) (by decide +kernel), List.mem_of_getElem? (i := 636) (by decide +kernel)⟩
theorem lw_p33 : lw_okq (⟨"RunOrderModel", "nextEnd", "()I"⟩, 35) := ⟨⟨by decide +kernel, by decide +kernel⟩, List.mem_of_getElem? (i := 416) (by decide +kernel), List.mem_of_getElem? (i := 639) (by decide +kernel), List.mem_of_getElem? (i := 640) (by decide +kernel)⟩
def lw_privs_3 : List (MethodName × Nat) := [(⟨"RunOrderModel", "begin", "(II)V"⟩, 35), (⟨"RunOrderModel", "nextEnd", "()I"⟩, 35)]
theorem lw_r3 : ∀ q ∈ lw_privs_3, lw_okq q := List.forall_mem_cons.mpr ⟨lw_p32, List.forall_mem_cons.mpr ⟨lw_p33, fun _ h => absurd h List.not_mem_nil⟩⟩
def lw_privs : List (MethodName × Nat) := lw_privs_1 ++ (lw_privs_2 ++ (lw_privs_3))
def lw_tbl : List Cond := k2_sels lw_privs ++ tables_1
theorem lw_privs_ok : ∀ q ∈ lw_privs, lw_okq q := by
  show ∀ q ∈ lw_privs_1 ++ (lw_privs_2 ++ (lw_privs_3)), lw_okq q
  exact List.forall_mem_append.mpr ⟨lw_r1, List.forall_mem_append.mpr ⟨lw_r2, lw_r3⟩⟩
end
section
/-! A SMALL MACHINE over places: the walk of a method as a predicate that unfolds; proved sound over the kit's rows in the next part.
A reference is the number of a place in the list of cells; a cell is an array (boolean or int, length, contents) or an object (number of its kind, fields). -/
abbrev ax_C : Type := (Bool × Nat × (Nat → Int32)) ⊕ (Nat × List Value)
abbrev ax_H : Type := List ax_C
abbrev ax_L : Type := List (Option Value)
abbrev ax_K : Type := Option Value → ax_H → Prop
abbrev ax_O : Type := Nat → List Value → ax_H → ax_K → Prop
/-- an instruction: its pc, itself, two numbers, a constant, targets -/
abbrev ax_I : Type := Nat × Instr × Nat × Nat × Int32 × List Nat
/-- a method: its instructions, its locals, its arguments, the cells and slots that it makes -/
abbrev ax_M : Type := List ax_I × Nat × Nat × Nat × Nat
abbrev ax_R : Type := Nat → ax_L → List Value → ax_H → Nat → Nat → Prop
def ax_nth {α : Type} : List α → Nat → Option α
  | [], _ => none
  | a :: _, 0 => some a
  | _ :: l, n + 1 => ax_nth l n
theorem ax_nth_eq {α : Type} : ∀ (l : List α) (n : Nat), ax_nth l n = l[n]?
  | [], n => by simp [ax_nth]
  | a :: l, 0 => by simp [ax_nth]
  | a :: l, n + 1 => by simp [ax_nth, ax_nth_eq l n]
/-- refs lie below n -/
def ax_okv (n : Nat) : Value → Bool
  | .ref k => Nat.blt k n
  | _ => true
def ax_okc (n : Nat) : ax_C → Bool
  | .inl _ => true
  | .inr (_, fs) => fs.all (ax_okv n)
def ax_oko (n : Nat) : Option Value → Bool
  | none => true
  | some v => ax_okv n v
def ax_okf (n : Nat) (L : ax_L) (S : List Value) : Bool := L.all (ax_oko n) && S.all (ax_okv n)
def ax_okh (n : Nat) (h : ax_H) : Bool := h.all (ax_okc n)
def ax_if (b : Bool) (k : Prop) : Prop := match b with
  | true => k
  | false => False
def ax_bin (f : Int32 → Int32 → Int32) (S : List Value) (k : List Value → Prop) : Prop := match S with
  | .int y :: .int x :: r => k (.int (f x y) :: r)
  | _ => False
def ax_ldi (L : ax_L) (i : Nat) (k : Value → Prop) : Prop := match ax_nth L i with
  | some (some (.int x)) => k (.int x)
  | _ => False
def ax_lda (L : ax_L) (i : Nat) (k : Value → Prop) : Prop := match ax_nth L i with
  | some (some (.ref q)) => k (.ref q)
  | some (some .null) => k .null
  | _ => False
def ax_sti (S : List Value) (k : Value → List Value → Prop) : Prop := match S with
  | .int x :: r => k (.int x) r
  | _ => False
def ax_sta (S : List Value) (k : Value → List Value → Prop) : Prop := match S with
  | .ref q :: r => k (.ref q) r
  | .null :: r => k .null r
  | _ => False
def ax_inc (L : ax_L) (i : Nat) (v : Int32) (k : ax_L → Prop) : Prop := match ax_nth L i with
  | some (some (.int x)) => k (L.set i (some (.int (x + v))))
  | _ => False
def ax_getf (S : List Value) (h : ax_H) (ci f : Nat) (k : List Value → Prop) : Prop := match S with
  | .ref q :: r => match ax_nth h q with
    | some (.inr (c, fs)) => ax_if (Nat.beq c ci) (match ax_nth fs f with
      | some x => k (x :: r)
      | none => False)
    | _ => False
  | _ => False
/-- ty: 0 int, 1 boolean, 2 a reference -/
def ax_fit (ty : Int32) (v : Value) (k : Prop) : Prop := match v with
  | .int x => (ty = 0 ∨ (ty = 1 ∧ (x = 0 ∨ x = 1))) ∧ k
  | .ref _ => ty = 2 ∧ k
  | .null => ty = 2 ∧ k
  | _ => False
def ax_putf (S : List Value) (h : ax_H) (ci f : Nat) (ty : Int32) (k : List Value → ax_H → Prop) : Prop := match S with
  | v :: .ref q :: r => match ax_nth h q with
    | some (.inr (c, fs)) => ax_if (Nat.beq c ci && Nat.blt f fs.length) (ax_fit ty v (k r (h.set q (.inr (c, fs.set f v)))))
    | _ => False
  | _ => False
def ax_ald (z : Bool) (S : List Value) (h : ax_H) (k : List Value → Prop) : Prop := match S with
  | .int j :: .ref q :: r => match ax_nth h q with
    | some (.inl (z', n, f)) => ax_if (z == z') (∃ a : Nat, (a < n ∧ a < 2147483648) ∧ j = nI a ∧ k (.int (f a) :: r))
    | _ => False
  | _ => False
def ax_zv (z : Bool) (x : Int32) : Int32 := match z with
  | true => x &&& 1
  | false => x
def ax_ast (z : Bool) (S : List Value) (h : ax_H) (k : List Value → ax_H → Prop) : Prop := match S with
  | .int x :: .int j :: .ref q :: r => match ax_nth h q with
    | some (.inl (z', n, f)) => ax_if (z == z') (∃ a : Nat, (a < n ∧ a < 2147483648) ∧ j = nI a ∧ k r (h.set q (.inl (z', n, upd f a (ax_zv z x)))))
    | _ => False
  | _ => False
def ax_alen (S : List Value) (h : ax_H) (k : List Value → Prop) : Prop := match S with
  | .ref q :: r => match ax_nth h q with
    | some (.inl (_, n, _)) => k (.int (nI n) :: r)
    | _ => False
  | _ => False
def ax_cmp (c : ClassFile.Cond) (x y : Int32) : Prop := match c with
  | .eq => x = y
  | .ne => ¬ x = y
  | .lt => x < y
  | .ge => y ≤ x
  | .gt => y < x
  | .le => x ≤ y
def ax_br (P : Prop) (a b : Prop) : Prop := (P → a) ∧ (¬ P → b)
def ax_args : Nat → List Value → List Value → Option (List Value × List Value)
  | 0, acc, S => some (acc, S)
  | _ + 1, _, [] => none
  | n + 1, acc, v :: S => ax_args n (v :: acc) S
/-- the receiver of a call is an object of the kind told (static calls tell none) -/
def ax_rcv (ts : List Nat) (As : List Value) (h : ax_H) : Bool := match ts with
  | [] => true
  | ci :: _ => match As with
    | .ref p :: _ => match ax_nth h p with
      | some (.inr (c, _)) => Nat.beq c ci
      | _ => false
    | _ => false
/-- a call of method a: kind 3 answers an int, kind 4 nothing; 0 Object(), 1 max, 2 min -/
def ax_call (M : List ax_M) (mc ms : Nat) (C : ax_O) (a b : Nat) (ts : List Nat) (L : ax_L) (S : List Value) (h : ax_H) (ce sl : Nat) (R : List Value → ax_H → Nat → Nat → Prop) : Prop := match b with
  | 0 => match S with
    | .ref _ :: r => ax_if (Nat.ble r.length 4) (R r h ce sl)
    | _ => False
  | 1 => match S with
    | .int y :: .int x :: r => ax_if (Nat.ble r.length 4 && (Nat.ble ce mc && Nat.ble sl ms)) (R (.int (if x < y then y else x) :: r) h ce sl)
    | _ => False
  | 2 => match S with
    | .int y :: .int x :: r => ax_if (Nat.ble r.length 4 && (Nat.ble ce mc && Nat.ble sl ms)) (R (.int (if y < x then y else x) :: r) h ce sl)
    | _ => False
  | 3 => match ax_nth M a with
    | none => False
    | some (_, _, n, mA, sA) => match ax_args n [] S with
      | none => False
      | some (As, r) => ax_if (Nat.ble r.length 4 && (Nat.ble (ce + mA) mc && (Nat.ble (sl + sA) ms && ((Nat.beq mA 0 || ax_okf h.length L r) && ax_rcv ts As h)))) (∃ K : ax_K, C a As h K ∧ ∀ (z : Int32) (h' : ax_H), K (some (.int z)) h' → R (.int z :: r) h' (ce + mA) (sl + sA))
  | 4 => match ax_nth M a with
    | none => False
    | some (_, _, n, mA, sA) => match ax_args n [] S with
      | none => False
      | some (As, r) => ax_if (Nat.ble r.length 4 && (Nat.ble (ce + mA) mc && (Nat.ble (sl + sA) ms && ((Nat.beq mA 0 || ax_okf h.length L r) && ax_rcv ts As h)))) (∃ K : ax_K, C a As h K ∧ ∀ h' : ax_H, K none h' → R r h' (ce + mA) (sl + sA))
  | _ => False
def ax_sw (x : Int32) (lo : Int32) (ts : List Nat) (R : Nat → Prop) (d : Nat) : Prop :=
  (∀ (k t : Nat), ax_nth ts k = some t → x.toInt = lo.toInt + k → R t) ∧ ((x.toInt < lo.toInt ∨ lo.toInt + ts.length ≤ x.toInt) → R d)
/-- one instruction. X: fields of a kind at its birth -/
def ax_F (M : List ax_M) (X : List (List Value)) (y : Nat) (C : ax_O) (K : ax_K) (R : ax_R) (i : Nat) (L : ax_L) (S : List Value) (h : ax_H) (ce sl : Nat) : Prop :=
  match ax_nth M y with
  | none => False
  | some (cd, _, _, mc, ms) => match ax_nth cd i with
    | none => False
    | some (_, ins, a, b, v, ts) => match ins with
      | .iconst _ => R (i + 1) L (.int v :: S) h ce sl
      | .bipush _ => R (i + 1) L (.int v :: S) h ce sl
      | .sipush _ => R (i + 1) L (.int v :: S) h ce sl
      | .ldc _ => R (i + 1) L (.int v :: S) h ce sl
      | .aconst_null => R (i + 1) L (.null :: S) h ce sl
      | .iload_n _ => ax_ldi L a (fun x => R (i + 1) L (x :: S) h ce sl)
      | .iload _ => ax_ldi L a (fun x => R (i + 1) L (x :: S) h ce sl)
      | .aload_n _ => ax_lda L a (fun x => R (i + 1) L (x :: S) h ce sl)
      | .aload _ => ax_lda L a (fun x => R (i + 1) L (x :: S) h ce sl)
      | .istore_n _ => ax_sti S (fun x r => R (i + 1) (L.set a (some x)) r h ce sl)
      | .istore _ => ax_sti S (fun x r => R (i + 1) (L.set a (some x)) r h ce sl)
      | .astore_n _ => ax_sta S (fun x r => R (i + 1) (L.set a (some x)) r h ce sl)
      | .astore _ => ax_sta S (fun x r => R (i + 1) (L.set a (some x)) r h ce sl)
      | .iinc _ _ => ax_inc L a v (fun L' => R (i + 1) L' S h ce sl)
      | .iadd => ax_bin (fun x y => x + y) S (fun S' => R (i + 1) L S' h ce sl)
      | .isub => ax_bin (fun x y => x - y) S (fun S' => R (i + 1) L S' h ce sl)
      | .imul => ax_bin (fun x y => x * y) S (fun S' => R (i + 1) L S' h ce sl)
      | .iand => ax_bin (fun x y => x &&& y) S (fun S' => R (i + 1) L S' h ce sl)
      | .ior => ax_bin (fun x y => x ||| y) S (fun S' => R (i + 1) L S' h ce sl)
      | .ixor => ax_bin (fun x y => x ^^^ y) S (fun S' => R (i + 1) L S' h ce sl)
      | .ishl => ax_bin (fun x y => x <<< (y &&& 31)) S (fun S' => R (i + 1) L S' h ce sl)
      | .ishr => ax_bin (fun x y => x >>> (y &&& 31)) S (fun S' => R (i + 1) L S' h ce sl)
      | .dup => match S with
        | v :: r => ax_if (Nat.beq v.category 1) (R (i + 1) L (v :: v :: r) h ce sl)
        | _ => False
      | .pop => match S with
        | v :: r => ax_if (Nat.beq v.category 1) (R (i + 1) L r h ce sl)
        | _ => False
      | .dup2 => match S with
        | v :: w :: r => ax_if (Nat.beq v.category 1 && Nat.beq w.category 1) (R (i + 1) L (v :: w :: v :: w :: r) h ce sl)
        | _ => False
      | .dup_x1 => match S with
        | v :: w :: r => ax_if (Nat.beq v.category 1 && Nat.beq w.category 1) (R (i + 1) L (v :: w :: v :: r) h ce sl)
        | _ => False
      | .getfield _ => ax_getf S h a b (fun S' => R (i + 1) L S' h ce sl)
      | .putfield _ => ax_putf S h a b v (fun S' h' => R (i + 1) L S' h' ce sl)
      | .iaload => ax_ald false S h (fun S' => R (i + 1) L S' h ce sl)
      | .baload => ax_ald true S h (fun S' => R (i + 1) L S' h ce sl)
      | .iastore => ax_ast false S h (fun S' h' => R (i + 1) L S' h' ce sl)
      | .bastore => ax_ast true S h (fun S' h' => R (i + 1) L S' h' ce sl)
      | .arraylength => ax_alen S h (fun S' => R (i + 1) L S' h ce sl)
      | .if_icmp c _ => match S with
        | .int y :: .int x :: r => ax_br (ax_cmp c x y) (R a L r h ce sl) (R (i + 1) L r h ce sl)
        | _ => False
      | .ifCond c _ => match S with
        | .int x :: r => ax_br (ax_cmp c x 0) (R a L r h ce sl) (R (i + 1) L r h ce sl)
        | _ => False
      | .goto _ => R a L S h ce sl
      | .tableswitch _ _ _ _ => match S with
        | .int x :: r => ax_sw x v ts (fun t => R t L r h ce sl) a
        | _ => False
      | .new _ => match ax_nth X a with
        | some fs => ax_if (ax_okf h.length L S && (ax_okh h.length h && (Nat.ble (ce + 1) mc && Nat.ble (sl + b) ms))) (R (i + 1) L (.ref h.length :: S) (h ++ [.inr (a, fs)]) (ce + 1) (sl + b))
        | none => False
      | .newarray _ => match S with
        | .int n :: r => ∃ N : Nat, (n = nI N ∧ N ≤ 100000) ∧ ax_if (ax_okf h.length L r && (ax_okh h.length h && (Nat.ble (ce + 1) mc && Nat.ble (sl + N) ms))) (R (i + 1) L (.ref h.length :: r) (h ++ [.inl (Nat.beq a 1, N, fun _ => 0)]) (ce + 1) (sl + N))
        | _ => False
      | .invokevirtual _ => ax_call M mc ms C a b ts L S h ce sl (fun S' h' ce' sl' => R (i + 1) L S' h' ce' sl')
      | .invokestatic _ => ax_call M mc ms C a b ts L S h ce sl (fun S' h' ce' sl' => R (i + 1) L S' h' ce' sl')
      | .invokespecial _ => ax_call M mc ms C a b ts L S h ce sl (fun S' h' ce' sl' => R (i + 1) L S' h' ce' sl')
      | .ireturn => match S with
        | [.int x] => ax_if (Nat.ble ce mc && Nat.ble sl ms) ((a = 0 ∨ (x = 0 ∨ x = 1)) ∧ K (some (.int x)) h)
        | _ => False
      | .return_ => match S with
        | [] => ax_if (Nat.ble ce mc && Nat.ble sl ms) (K none h)
        | _ => False
      | _ => False
/-- the least predicate that the instructions lead back to -/
def ax_X (M : List ax_M) (X : List (List Value)) (y : Nat) (C : ax_O) (K : ax_K) (i : Nat) (L : ax_L) (S : List Value) (h : ax_H) (ce sl : Nat) : Prop :=
  ∀ R : ax_R, (∀ (i : Nat) (L : ax_L) (S : List Value) (h : ax_H) (ce sl : Nat), ax_F M X y C K R i L S h ce sl → R i L S h ce sl) → R i L S h ce sl
/-- a method's body -/
def ax_B (M : List ax_M) (X : List (List Value)) (C : ax_O) : ax_O := fun y As h K => match ax_nth M y with
  | none => False
  | some (_, nl, n, _, _) => ax_if (Nat.beq As.length n && As.all (fun v => Nat.beq v.category 1)) (ax_X M X y C K 0 (As.map some ++ List.replicate (nl - n) none) [] h 0 0)
/-- calls, d deep -/
def ax_D (M : List ax_M) (X : List (List Value)) : Nat → ax_O
  | 0 => fun _ _ _ _ => False
  | d + 1 => ax_B M X (ax_D M X d)
end
section
/-! The small machine against the kit's rows, 1: places and addresses. -/
def ax_v (ad : Nat → Nat) : Value → Value
  | .ref k => .ref (ad k)
  | v => v
def ax_c (cI cZ : ClassId) (ad : Nat → Nat) : ax_C → va_E
  | .inl (z, n, f) => .inl (cond z cZ cI, n, .inl f)
  | .inr (ci, fs) => .inr (ci, fs.map (ax_v ad))
def ax_w (cI cZ : ClassId) (ad : Nat → Nat) (h : ax_H) : va_W := h.mapIdx (fun k c => (ad k, ax_c cI cZ ad c))
theorem ax_w_at (cI cZ : ClassId) (ad : Nat → Nat) (h : ax_H) (q : Nat) : (ax_w cI cZ ad h)[q]? = (h[q]?).map (fun c => (ad q, ax_c cI cZ ad c)) := by
  simp [ax_w]
theorem ax_w_get {cI cZ : ClassId} {ad : Nat → Nat} {h : ax_H} {q : Nat} {c : ax_C} (e : ax_nth h q = some c) : (ax_w cI cZ ad h)[q]? = some (ad q, ax_c cI cZ ad c) := by
  rw [ax_w_at, ← ax_nth_eq, e]
  rfl
theorem ax_w_len (cI cZ : ClassId) (ad : Nat → Nat) (h : ax_H) : (ax_w cI cZ ad h).length = h.length := by simp [ax_w]
theorem ax_w_set (cI cZ : ClassId) (ad : Nat → Nat) (h : ax_H) (q : Nat) (c : ax_C) : (ax_w cI cZ ad h).set q (ad q, ax_c cI cZ ad c) = ax_w cI cZ ad (h.set q c) := by
  apply List.ext_getElem?
  intro i
  rw [ax_w_at, List.getElem?_set, List.getElem?_set, ax_w_at, ax_w_len]
  by_cases hq : q = i
  · subst hq
    by_cases h2 : q < h.length <;> simp [h2]
  · simp [hq]
theorem ax_v_cat (ad : Nat → Nat) (v : Value) : (ax_v ad v).category = v.category := by cases v <;> rfl
theorem ax_v_eq {ad ad' : Nat → Nat} {n : Nat} {v : Value} (h : ∀ k, k < n → ad' k = ad k) (hv : ax_okv n v = true) : ax_v ad' v = ax_v ad v := by
  cases v with
  | ref k => exact congrArg Value.ref (h k (Nat.le_of_ble_eq_true hv))
  | _ => rfl
theorem ax_vs_eq {ad ad' : Nat → Nat} {n : Nat} {S : List Value} (h : ∀ k, k < n → ad' k = ad k) (hv : S.all (ax_okv n) = true) : S.map (ax_v ad') = S.map (ax_v ad) := by
  apply List.map_congr_left
  intro v hm
  exact ax_v_eq h (List.all_eq_true.mp hv v hm)
theorem ax_c_eq {cI cZ : ClassId} {ad ad' : Nat → Nat} {n : Nat} {c : ax_C} (h : ∀ k, k < n → ad' k = ad k) (hv : ax_okc n c = true) : ax_c cI cZ ad' c = ax_c cI cZ ad c := by
  rcases c with ⟨z, n, f⟩ | ⟨ci, fs⟩
  · rfl
  · show Sum.inr (ci, fs.map (ax_v ad')) = Sum.inr (ci, fs.map (ax_v ad))
    rw [ax_vs_eq h hv]
theorem ax_w_eq {cI cZ : ClassId} {ad ad' : Nat → Nat} {h : ax_H} (hk : ∀ k, k < h.length → ad' k = ad k) (ho : ax_okh h.length h = true) : ax_w cI cZ ad' h = ax_w cI cZ ad h := by
  apply List.ext_getElem?
  intro i
  rw [ax_w_at, ax_w_at]
  cases hc : h[i]? with
  | none => rfl
  | some c =>
    have hi : i < h.length := (List.getElem?_eq_some_iff.mp hc).1
    have h1 : ax_okc h.length c = true := List.all_eq_true.mp ho c (List.mem_of_getElem? hc)
    show some (ad' i, ax_c cI cZ ad' c) = some (ad i, ax_c cI cZ ad c)
    rw [hk i hi, ax_c_eq hk h1]
def ax_up (ad : Nat → Nat) (n q : Nat) : Nat → Nat := fun k => if k = n then q else ad k
theorem ax_up_lt {ad : Nat → Nat} {n q k : Nat} (h : k < n) : ax_up ad n q k = ad k := if_neg (Nat.ne_of_lt h)
theorem ax_up_self {ad : Nat → Nat} {n q : Nat} : ax_up ad n q n = q := if_pos rfl
theorem ax_w_push {cI cZ : ClassId} {ad : Nat → Nat} {h : ax_H} {c : ax_C} {q : Nat} (ho : ax_okh h.length h = true) (hc : ax_c cI cZ (ax_up ad h.length q) c = ax_c cI cZ ad c) : ax_w cI cZ (ax_up ad h.length q) (h ++ [c]) = ax_w cI cZ ad h ++ [(q, ax_c cI cZ ad c)] := by
  have e := ax_w_eq (cI := cI) (cZ := cZ) (ad := ad) (ad' := ax_up ad h.length q) (h := h) (fun k hk => ax_up_lt hk) ho
  rw [← e]
  unfold ax_w
  rw [List.mapIdx_append]
  simp only [List.mapIdx_cons, List.mapIdx_nil, Nat.zero_add, ax_up_self, hc]
/-! locals -/
def ax_lv1 (ad : Nat → Nat) (L : ax_L) (i : Nat) : Option (Nat × Value) := match ax_nth L i with
  | some (some v) => if v.category = 1 then some (i, ax_v ad v) else none
  | _ => none
def ax_lv (ad : Nat → Nat) (L : ax_L) : List (Nat × Value) := (List.range L.length).filterMap (ax_lv1 ad L)
theorem ax_lv1_eq {ad : Nat → Nat} {L : ax_L} {i : Nat} {q : Nat × Value} (h : ax_lv1 ad L i = some q) : ∃ v, ax_nth L i = some (some v) ∧ v.category = 1 ∧ q = (i, ax_v ad v) := by
  unfold ax_lv1 at h
  split at h
  · rename_i v hv
    split at h
    · rename_i hc
      cases h
      exact ⟨v, hv, hc, rfl⟩
    · cases h
  · cases h
theorem ax_lv_mem {ad : Nat → Nat} {L : ax_L} {i : Nat} {v : Value} (h : ax_nth L i = some (some v)) (hc : v.category = 1) : (i, ax_v ad v) ∈ ax_lv ad L := by
  have hi : i < L.length := by
    rw [ax_nth_eq] at h
    exact (List.getElem?_eq_some_iff.mp h).1
  refine List.mem_filterMap.mpr ⟨i, List.mem_range.mpr hi, ?_⟩
  unfold ax_lv1
  rw [h]
  simp [hc]
theorem ax_lv_of {ad : Nat → Nat} {L : ax_L} {q : Nat × Value} (h : q ∈ ax_lv ad L) : ∃ v, ax_nth L q.1 = some (some v) ∧ v.category = 1 ∧ q.2 = ax_v ad v := by
  obtain ⟨i, -, h1⟩ := List.mem_filterMap.mp h
  obtain ⟨v, e1, e2, rfl⟩ := ax_lv1_eq h1
  exact ⟨v, e1, e2, rfl⟩
theorem ax_lv_at {ad : Nat → Nat} {L : ax_L} {ls : Array Slot} {nl i : Nat} {v : Value} (hl : lv_has ls nl (ax_lv ad L)) (h : ax_nth L i = some (some v)) (hc : v.category = 1) : ls[i]? = some (.val (ax_v ad v)) := hl.2.2 (i, ax_v ad v) (ax_lv_mem h hc)
theorem ax_lv_set {ad : Nat → Nat} {L : ax_L} {ls : Array Slot} {nl i : Nat} {w : Value} (hL : L.length = nl) (hi : i < nl) (h : lv_has ls nl ((i, ax_v ad w) :: (ax_lv ad L).filter (fun q => !(q.1 == i) && !(q.1 + 1 == i && q.2.category == 2)))) : lv_has ls nl (ax_lv ad (L.set i (some w))) := by
  refine ⟨h.1, h.2.1, fun q hq => h.2.2 q ?_⟩
  obtain ⟨v, e1, e2, e3⟩ := ax_lv_of hq
  obtain ⟨j, u⟩ := q
  dsimp only at e1 e3
  subst e3
  rw [ax_nth_eq, List.getElem?_set] at e1
  by_cases hj : i = j
  · subst hj
    rw [if_pos rfl, if_pos (by rw [hL]; exact hi)] at e1
    cases e1
    exact List.mem_cons_self
  · rw [if_neg hj, ← ax_nth_eq] at e1
    refine List.mem_cons_of_mem _ (List.mem_filter.mpr ⟨ax_lv_mem e1 e2, ?_⟩)
    have h2 : (ax_v ad v).category = 1 := by rw [ax_v_cat]; exact e2
    have h3 : (j == i) = false := by simpa using fun h => hj h.symm
    simp [h2, h3]
theorem ax_lv_ad {ad ad' : Nat → Nat} {n : Nat} {L : ax_L} (h : ∀ k, k < n → ad' k = ad k) (hv : L.all (ax_oko n) = true) {ls : Array Slot} {nl : Nat} (hl : lv_has ls nl (ax_lv ad L)) : lv_has ls nl (ax_lv ad' L) := by
  refine ⟨hl.1, hl.2.1, fun q hq => ?_⟩
  obtain ⟨v, e1, e2, e3⟩ := ax_lv_of hq
  have hm : some v ∈ L := by
    rw [ax_nth_eq] at e1
    exact List.mem_of_getElem? e1
  have h1 : ax_okv n v = true := List.all_eq_true.mp hv (some v) hm
  rw [e3, ax_v_eq h h1]
  exact ax_lv_at hl e1 e2
theorem ax_lv_entry (ad : Nat → Nat) (As : List Value) (k : Nat) (hc : ∀ v ∈ As, v.category = 1) {ls : Array Slot} {nl : Nat} (hl : lv_has ls nl (lv_args 0 (As.map (ax_v ad)))) : lv_has ls nl (ax_lv ad (As.map some ++ List.replicate k none)) := by
  refine ⟨hl.1, hl.2.1, fun q hq => ?_⟩
  obtain ⟨v, e1, e2, e3⟩ := ax_lv_of hq
  have key : ∀ (Bs : List Value) (o i : Nat) (v : Value), (∀ v ∈ Bs, v.category = 1) → ax_nth (Bs.map some ++ List.replicate k none) i = some (some v) → (o + i, ax_v ad v) ∈ lv_args o (Bs.map (ax_v ad)) := by
    intro Bs
    induction Bs with
    | nil =>
      intro o i v _ h
      rw [ax_nth_eq] at h
      have := List.mem_of_getElem? h
      simp at this
    | cons b Bs ih =>
      intro o i v hc h
      cases i with
      | zero =>
        have : b = v := by simpa [ax_nth] using h
        subst this
        simp [lv_args]
      | succ i =>
        have h' : ax_nth (Bs.map some ++ List.replicate k none) i = some (some v) := by simpa [ax_nth] using h
        have h1 : (ax_v ad b).category = 1 := by rw [ax_v_cat]; exact hc b List.mem_cons_self
        have := ih (o + 1) i v (fun u hu => hc u (List.mem_cons_of_mem _ hu)) h'
        simp only [List.map_cons, lv_args, h1]
        rw [if_neg (by decide)]
        refine List.mem_cons_of_mem _ ?_
        rw [show o + (i + 1) = o + 1 + i by omega]
        exact this
  have := key As 0 q.1 v hc e1
  rw [Nat.zero_add] at this
  rw [e3]
  exact hl.2.2 (q.1, ax_v ad v) this
/-! monotone -/
theorem ax_if_mono {b : Bool} {k k' : Prop} (h : k → k') : ax_if b k → ax_if b k' := by
  cases b
  · exact id
  · exact h
theorem ax_if_t {b : Bool} {k : Prop} (h : ax_if b k) : b = true ∧ k := by
  cases b
  · exact h.elim
  · exact ⟨rfl, h⟩
theorem ax_bin_mono {f : Int32 → Int32 → Int32} {S : List Value} {k k' : List Value → Prop} (h : ∀ S, k S → k' S) : ax_bin f S k → ax_bin f S k' := by
  unfold ax_bin
  split
  · exact h _
  · exact id
theorem ax_ldi_mono {L : ax_L} {i : Nat} {k k' : Value → Prop} (h : ∀ v, k v → k' v) : ax_ldi L i k → ax_ldi L i k' := by
  unfold ax_ldi
  split
  · exact h _
  · exact id
theorem ax_lda_mono {L : ax_L} {i : Nat} {k k' : Value → Prop} (h : ∀ v, k v → k' v) : ax_lda L i k → ax_lda L i k' := by
  unfold ax_lda
  split
  · exact h _
  · exact h _
  · exact id
theorem ax_sti_mono {S : List Value} {k k' : Value → List Value → Prop} (h : ∀ v r, k v r → k' v r) : ax_sti S k → ax_sti S k' := by
  unfold ax_sti
  split
  · exact h _ _
  · exact id
theorem ax_sta_mono {S : List Value} {k k' : Value → List Value → Prop} (h : ∀ v r, k v r → k' v r) : ax_sta S k → ax_sta S k' := by
  unfold ax_sta
  split
  · exact h _ _
  · exact h _ _
  · exact id
theorem ax_inc_mono {L : ax_L} {i : Nat} {v : Int32} {k k' : ax_L → Prop} (h : ∀ L, k L → k' L) : ax_inc L i v k → ax_inc L i v k' := by
  unfold ax_inc
  split
  · exact h _
  · exact id
theorem ax_getf_mono {S : List Value} {h : ax_H} {ci f : Nat} {k k' : List Value → Prop} (hk : ∀ S, k S → k' S) : ax_getf S h ci f k → ax_getf S h ci f k' := by
  unfold ax_getf
  split
  · split
    · refine ax_if_mono ?_
      split
      · exact hk _
      · exact id
    · exact id
  · exact id
theorem ax_fit_mono {ty : Int32} {v : Value} {k k' : Prop} (h : k → k') : ax_fit ty v k → ax_fit ty v k' := by
  unfold ax_fit
  split
  · exact fun q => ⟨q.1, h q.2⟩
  · exact fun q => ⟨q.1, h q.2⟩
  · exact fun q => ⟨q.1, h q.2⟩
  · exact id
theorem ax_putf_mono {S : List Value} {h : ax_H} {ci f : Nat} {ty : Int32} {k k' : List Value → ax_H → Prop} (hk : ∀ S h, k S h → k' S h) : ax_putf S h ci f ty k → ax_putf S h ci f ty k' := by
  unfold ax_putf
  split
  · split
    · exact ax_if_mono (ax_fit_mono (hk _ _))
    · exact id
  · exact id
theorem ax_ald_mono {z : Bool} {S : List Value} {h : ax_H} {k k' : List Value → Prop} (hk : ∀ S, k S → k' S) : ax_ald z S h k → ax_ald z S h k' := by
  unfold ax_ald
  split
  · split
    · exact ax_if_mono (fun ⟨a, h1, h2, h3⟩ => ⟨a, h1, h2, hk _ h3⟩)
    · exact id
  · exact id
theorem ax_ast_mono {z : Bool} {S : List Value} {h : ax_H} {k k' : List Value → ax_H → Prop} (hk : ∀ S h, k S h → k' S h) : ax_ast z S h k → ax_ast z S h k' := by
  unfold ax_ast
  split
  · split
    · exact ax_if_mono (fun ⟨a, h1, h2, h3⟩ => ⟨a, h1, h2, hk _ _ h3⟩)
    · exact id
  · exact id
theorem ax_alen_mono {S : List Value} {h : ax_H} {k k' : List Value → Prop} (hk : ∀ S, k S → k' S) : ax_alen S h k → ax_alen S h k' := by
  unfold ax_alen
  split
  · split
    · exact hk _
    · exact id
  · exact id
theorem ax_br_mono {P a b a' b' : Prop} (h1 : a → a') (h2 : b → b') : ax_br P a b → ax_br P a' b' := fun q => ⟨fun p => h1 (q.1 p), fun p => h2 (q.2 p)⟩
theorem ax_sw_mono {x lo : Int32} {ts : List Nat} {R R' : Nat → Prop} {d : Nat} (h : ∀ t, R t → R' t) : ax_sw x lo ts R d → ax_sw x lo ts R' d := fun q => ⟨fun k t h1 h2 => h _ (q.1 k t h1 h2), fun p => h _ (q.2 p)⟩
theorem ax_call_mono {M : List ax_M} {mc ms : Nat} {C : ax_O} {a b : Nat} {ts : List Nat} {L : ax_L} {S : List Value} {h : ax_H} {ce sl : Nat} {R R' : List Value → ax_H → Nat → Nat → Prop} (hk : ∀ S h ce sl, R S h ce sl → R' S h ce sl) : ax_call M mc ms C a b ts L S h ce sl R → ax_call M mc ms C a b ts L S h ce sl R' := by
  unfold ax_call
  split
  · split
    · exact ax_if_mono (hk _ _ _ _)
    · exact id
  · split
    · exact ax_if_mono (hk _ _ _ _)
    · exact id
  · split
    · exact ax_if_mono (hk _ _ _ _)
    · exact id
  · split
    · exact id
    · split
      · exact id
      · exact ax_if_mono (fun ⟨K, h1, h2⟩ => ⟨K, h1, fun z h' q => hk _ _ _ _ (h2 z h' q)⟩)
  · split
    · exact id
    · split
      · exact id
      · exact ax_if_mono (fun ⟨K, h1, h2⟩ => ⟨K, h1, fun h' q => hk _ _ _ _ (h2 h' q)⟩)
  · exact id
set_option maxHeartbeats 4000000 in
theorem ax_F_mono {M : List ax_M} {X : List (List Value)} {y : Nat} {C : ax_O} {K : ax_K} {R R' : ax_R} (hR : ∀ i L S h ce sl, R i L S h ce sl → R' i L S h ce sl) {i : Nat} {L : ax_L} {S : List Value} {h : ax_H} {ce sl : Nat} : ax_F M X y C K R i L S h ce sl → ax_F M X y C K R' i L S h ce sl := by
  unfold ax_F
  rcases ax_nth M y with _ | ⟨cd, nl, n, mc, ms⟩
  · exact id
  dsimp only
  rcases ax_nth cd i with _ | ⟨pc, ins, a, b, v, ts⟩
  · exact id
  dsimp only
  cases ins
  all_goals dsimp only
  all_goals first
    | exact id
    | exact hR _ _ _ _ _ _
    | exact ax_ldi_mono (fun _ => hR _ _ _ _ _ _)
    | exact ax_lda_mono (fun _ => hR _ _ _ _ _ _)
    | exact ax_sti_mono (fun _ _ => hR _ _ _ _ _ _)
    | exact ax_sta_mono (fun _ _ => hR _ _ _ _ _ _)
    | exact ax_inc_mono (fun _ => hR _ _ _ _ _ _)
    | exact ax_bin_mono (fun _ => hR _ _ _ _ _ _)
    | exact ax_getf_mono (fun _ => hR _ _ _ _ _ _)
    | exact ax_putf_mono (fun _ _ => hR _ _ _ _ _ _)
    | exact ax_ald_mono (fun _ => hR _ _ _ _ _ _)
    | exact ax_ast_mono (fun _ _ => hR _ _ _ _ _ _)
    | exact ax_alen_mono (fun _ => hR _ _ _ _ _ _)
    | exact ax_call_mono (fun _ _ _ _ => hR _ _ _ _ _ _)
    | (split <;> first
      | exact id
      | exact ax_if_mono (hR _ _ _ _ _ _)
      | exact ax_br_mono (hR _ _ _ _ _ _) (hR _ _ _ _ _ _)
      | exact ax_sw_mono (fun _ => hR _ _ _ _ _ _)
      | exact fun ⟨N, h1, h2⟩ => ⟨N, h1, ax_if_mono (hR _ _ _ _ _ _) h2⟩)
theorem ax_X.step {M : List ax_M} {X : List (List Value)} {y : Nat} {C : ax_O} {K : ax_K} {i : Nat} {L : ax_L} {S : List Value} {h : ax_H} {ce sl : Nat} (hF : ax_F M X y C K (ax_X M X y C K) i L S h ce sl) : ax_X M X y C K i L S h ce sl := by
  intro R hR
  exact hR _ _ _ _ _ _ (ax_F_mono (fun _ _ _ _ _ _ hx => hx R hR) hF)
/-- k instructions -/
def ax_Fk (M : List ax_M) (X : List (List Value)) (y : Nat) (C : ax_O) (K : ax_K) : Nat → ax_R → ax_R
  | 0, R => R
  | k + 1, R => ax_F M X y C K (ax_Fk M X y C K k R)
theorem ax_X.steps {M : List ax_M} {X : List (List Value)} {y : Nat} {C : ax_O} {K : ax_K} : ∀ (k : Nat) {i : Nat} {L : ax_L} {S : List Value} {h : ax_H} {ce sl : Nat} (_ : ax_Fk M X y C K k (ax_X M X y C K) i L S h ce sl), ax_X M X y C K i L S h ce sl
  | 0, _, _, _, _, _, _, h => h
  | k + 1, _, _, _, _, _, _, h => ax_X.step (ax_F_mono (fun _ _ _ _ _ _ q => ax_X.steps k q) h)
end
section
/-! The small machine against the kit's rows, 2: what the tables must hold, and each instruction. -/
/-- name, code, answer -/
abbrev ax_N : Type := MethodName × ByteArray × Option FieldType
def ax_pc (cd : List ax_I) (i : Nat) : Nat := match ax_nth cd i with
  | some e => e.1
  | none => 0
theorem ax_pc_eq {cd : List ax_I} {i pc : Nat} {r : Instr × Nat × Nat × Int32 × List Nat} (h : ax_nth cd i = some (pc, r)) : ax_pc cd i = pc := by
  unfold ax_pc
  rw [h]
/-- a link to a method: of the tables, or of the nest -/
def ax_lk (TT : List Cond) (NL : List (String × Nat × MethodName × String)) (own : String) (idx : Nat) (y : MethodName) : Prop := Cond.methodLink own idx y ∈ TT ∨ ∃ host : String, (own, idx, y, host) ∈ NL
/-- what an instruction's entry must say; k: how many bytes further the next one stands -/
def ax_ok (M : List ax_M) (X : List (List Value)) (NM : List ax_N) (cl : List vw_C) (TT : List Cond) (NL : List (String × Nat × MethodName × String)) (nm : MethodName) (cc : ByteArray) (rt : Option FieldType) (nl : Nat) (cd : List ax_I) (i : Nat) (e : ax_I) : Prop := match e with
  | (pc, ins, a, b, v, ts) => match ins with
    | .iconst n => decode cc pc = .ok (.iconst n, 1) ∧ ax_pc cd (i + 1) = pc + 1 ∧ Int32.ofInt n = v
    | .bipush n => decode cc pc = .ok (.bipush n, 2) ∧ ax_pc cd (i + 1) = pc + 2 ∧ (Int8.ofInt n).toInt32 = v
    | .sipush n => decode cc pc = .ok (.sipush n, 3) ∧ ax_pc cd (i + 1) = pc + 3 ∧ (Int16.ofInt n).toInt32 = v
    | .ldc n => decode cc pc = .ok (.ldc n, 2) ∧ ax_pc cd (i + 1) = pc + 2 ∧ Cond.constant nm.cls n v ∈ TT
    | .aconst_null => decode cc pc = .ok (.aconst_null, 1) ∧ ax_pc cd (i + 1) = pc + 1
    | .iload_n n => decode cc pc = .ok (.iload_n n, 1) ∧ ax_pc cd (i + 1) = pc + 1 ∧ (n : Nat) = a
    | .iload n => decode cc pc = .ok (.iload n, 2) ∧ ax_pc cd (i + 1) = pc + 2 ∧ n = a
    | .aload_n n => decode cc pc = .ok (.aload_n n, 1) ∧ ax_pc cd (i + 1) = pc + 1 ∧ (n : Nat) = a
    | .aload n => decode cc pc = .ok (.aload n, 2) ∧ ax_pc cd (i + 1) = pc + 2 ∧ n = a
    | .istore_n n => decode cc pc = .ok (.istore_n n, 1) ∧ ax_pc cd (i + 1) = pc + 1 ∧ (n : Nat) = a ∧ a < nl
    | .istore n => decode cc pc = .ok (.istore n, 2) ∧ ax_pc cd (i + 1) = pc + 2 ∧ n = a ∧ a < nl
    | .astore_n n => decode cc pc = .ok (.astore_n n, 1) ∧ ax_pc cd (i + 1) = pc + 1 ∧ (n : Nat) = a ∧ a < nl
    | .astore n => decode cc pc = .ok (.astore n, 2) ∧ ax_pc cd (i + 1) = pc + 2 ∧ n = a ∧ a < nl
    | .iinc n z => decode cc pc = .ok (.iinc n z, 3) ∧ ax_pc cd (i + 1) = pc + 3 ∧ n = a ∧ a < nl ∧ Int32.ofInt z = v
    | .iadd => decode cc pc = .ok (.iadd, 1) ∧ ax_pc cd (i + 1) = pc + 1
    | .isub => decode cc pc = .ok (.isub, 1) ∧ ax_pc cd (i + 1) = pc + 1
    | .imul => decode cc pc = .ok (.imul, 1) ∧ ax_pc cd (i + 1) = pc + 1
    | .iand => decode cc pc = .ok (.iand, 1) ∧ ax_pc cd (i + 1) = pc + 1
    | .ior => decode cc pc = .ok (.ior, 1) ∧ ax_pc cd (i + 1) = pc + 1
    | .ixor => decode cc pc = .ok (.ixor, 1) ∧ ax_pc cd (i + 1) = pc + 1
    | .ishl => decode cc pc = .ok (.ishl, 1) ∧ ax_pc cd (i + 1) = pc + 1
    | .ishr => decode cc pc = .ok (.ishr, 1) ∧ ax_pc cd (i + 1) = pc + 1
    | .dup => decode cc pc = .ok (.dup, 1) ∧ ax_pc cd (i + 1) = pc + 1
    | .pop => decode cc pc = .ok (.pop, 1) ∧ ax_pc cd (i + 1) = pc + 1
    | .dup2 => decode cc pc = .ok (.dup2, 1) ∧ ax_pc cd (i + 1) = pc + 1
    | .dup_x1 => decode cc pc = .ok (.dup_x1, 1) ∧ ax_pc cd (i + 1) = pc + 1
    | .getfield n => decode cc pc = .ok (.getfield n, 3) ∧ ax_pc cd (i + 1) = pc + 3 ∧ ∃ q : vw_C, cl[a]? = some q ∧ b < q.2.2 ∧ Cond.fieldLink nm.cls n (q.2.1 b).1 (q.2.1 b).2.1 (q.2.1 b).2.2.1 ∈ TT
    | .putfield n => decode cc pc = .ok (.putfield n, 3) ∧ ax_pc cd (i + 1) = pc + 3 ∧ ∃ q : vw_C, cl[a]? = some q ∧ b < q.2.2 ∧ Cond.fieldLink nm.cls n (q.2.1 b).1 (q.2.1 b).2.1 (q.2.1 b).2.2.1 ∈ TT ∧ (∃ ty : FieldType, parseFieldDescriptor (q.2.1 b).2.2.1 = some ty ∧ ((v = 0 ∧ ty = .int) ∨ (v = 1 ∧ ty = .boolean) ∨ (v = 2 ∧ ((∃ t, ty = .object t) ∨ ∃ t, ty = .array t)))) ∧ ((q.2.1 b).2.2.2 = false ∨ ((q.2.1 b).2.2.2 = true ∧ nm.name = "<init>" ∧ (q.2.1 b).1 = nm.cls))
    | .iaload => decode cc pc = .ok (.iaload, 1) ∧ ax_pc cd (i + 1) = pc + 1
    | .baload => decode cc pc = .ok (.baload, 1) ∧ ax_pc cd (i + 1) = pc + 1
    | .iastore => decode cc pc = .ok (.iastore, 1) ∧ ax_pc cd (i + 1) = pc + 1
    | .bastore => decode cc pc = .ok (.bastore, 1) ∧ ax_pc cd (i + 1) = pc + 1
    | .arraylength => decode cc pc = .ok (.arraylength, 1) ∧ ax_pc cd (i + 1) = pc + 1
    | .if_icmp c o => decode cc pc = .ok (.if_icmp c o, 3) ∧ ax_pc cd (i + 1) = pc + 3 ∧ (pc : Int) + o = (ax_pc cd a : Int)
    | .ifCond c o => decode cc pc = .ok (.ifCond c o, 3) ∧ ax_pc cd (i + 1) = pc + 3 ∧ (pc : Int) + o = (ax_pc cd a : Int)
    | .goto o => decode cc pc = .ok (.goto o, 3) ∧ (pc : Int) + o = (ax_pc cd a : Int)
    | .tableswitch d lo hi os => (∃ n, decode cc pc = .ok (.tableswitch d lo hi os, n)) ∧ v.toInt = lo ∧ hi = lo + ts.length - 1 ∧ (pc : Int) + d = (ax_pc cd a : Int) ∧ ∀ k t : Nat, ax_nth ts k = some t → ∃ o : Int, os[k]? = some o ∧ (pc : Int) + o = (ax_pc cd t : Int)
    | .new n => decode cc pc = .ok (.new n, 3) ∧ ax_pc cd (i + 1) = pc + 3 ∧ ∃ (q : vw_C) (fs : List Value), cl[a]? = some q ∧ ax_nth X a = some fs ∧ b = q.2.2 ∧ Cond.classLink nm.cls n q.1 ∈ TT ∧ Cond.instantiable q.1 q.2.2 ∈ TT ∧ Cond.initialized q.1 ∈ TT ∧ (∀ ty : Nat → FieldType, (∀ k, k < q.2.2 → parseFieldDescriptor (q.2.1 k).2.2.1 = some (ty k)) → ∀ j, j < q.2.2 → defaultValue (ty j) = vp_V fs j) ∧ fs.all (ax_okv 0) = true
    | .newarray t => decode cc pc = .ok (.newarray t, 2) ∧ ax_pc cd (i + 1) = pc + 2 ∧ ((t = .int ∧ a = 0) ∨ (t = .boolean ∧ a = 1)) ∧ Cond.arrayClass (newarray.typeOf t) ∈ TT
    | .invokevirtual n => decode cc pc = .ok (.invokevirtual n, 3) ∧ ax_pc cd (i + 1) = pc + 3 ∧ (b = 3 ∨ b = 4) ∧ ∃ (q : ax_N) (ci : Nat) (qc : vw_C), ax_nth NM a = some q ∧ ts = [ci] ∧ cl[ci]? = some qc ∧ qc.1 = q.1.cls ∧ (b = 4 ↔ q.2.2 = none) ∧ ax_lk TT NL nm.cls n q.1 ∧ Cond.instanceMethod q.1 ∈ TT ∧ Cond.selects q.1.cls q.1 q.1 ∈ TT ∧ ∀ r : ax_M, ax_nth M a = some r → ∃ n : Nat, r.2.2.1 = n + 1 ∧ (parseMethodDescriptor q.1.desc).map (fun d => d.parameters.length) = some n
    | .invokestatic n => decode cc pc = .ok (.invokestatic n, 3) ∧ ax_pc cd (i + 1) = pc + 3 ∧ ((b = 1 ∧ Cond.methodLink nm.cls n Lib.Math.max.name ∈ TT ∧ Cond.static Lib.Math.max.name ∈ TT ∧ Cond.initialized "java/lang/Math" ∈ TT ∧ Cond.code Lib.Math.max.name Lib.Math.max.code 2 (some .int) ∈ TT) ∨ (b = 2 ∧ Cond.methodLink nm.cls n Lib.Math.min.name ∈ TT ∧ Cond.static Lib.Math.min.name ∈ TT ∧ Cond.initialized "java/lang/Math" ∈ TT ∧ Cond.code Lib.Math.min.name Lib.Math.min.code 2 (some .int) ∈ TT) ∨
        ((b = 3 ∨ b = 4) ∧ ∃ q : ax_N, ax_nth NM a = some q ∧ (b = 4 ↔ q.2.2 = none) ∧ ax_lk TT NL nm.cls n q.1 ∧ Cond.static q.1 ∈ TT ∧ ∀ r : ax_M, ax_nth M a = some r → (parseMethodDescriptor q.1.desc).map (fun d => d.parameters.length) = some r.2.2.1))
    | .invokespecial n => decode cc pc = .ok (.invokespecial n, 3) ∧ ax_pc cd (i + 1) = pc + 3 ∧ ((b = 0 ∧ Cond.methodLink nm.cls n Lib.objectInit ∈ TT ∧ Cond.instanceMethod Lib.objectInit ∈ TT ∧ Cond.code Lib.objectInit ⟨#[0xb1]⟩ 1 none ∈ TT) ∨
        (b = 4 ∧ ∃ (q : ax_N) (ci : Nat), ax_nth NM a = some q ∧ ts = [ci] ∧ q.2.2 = none ∧ ax_lk TT NL nm.cls n q.1 ∧ q.1.name = "<init>" ∧ Cond.instanceMethod q.1 ∈ TT ∧ ∀ r : ax_M, ax_nth M a = some r → ∃ n : Nat, r.2.2.1 = n + 1 ∧ (parseMethodDescriptor q.1.desc).map (fun d => d.parameters.length) = some n))
    | .ireturn => decode cc pc = .ok (.ireturn, 1) ∧ ((a = 0 ∧ rt = some .int) ∨ (a = 1 ∧ rt = some .boolean))
    | .return_ => decode cc pc = .ok (.return_, 1) ∧ rt = none
    | _ => True
section AXG
variable (M : List ax_M) (X : List (List Value)) (NM : List ax_N) (cl : List vw_C) (TT : List Cond) (NL : List (String × Nat × MethodName × String))
def ax_okl (nm : MethodName) (cc : ByteArray) (rt : Option FieldType) (nl : Nat) (cd : List ax_I) : Nat → List ax_I → Prop
  | _, [] => True
  | i, e :: l => ax_ok M X NM cl TT NL nm cc rt nl cd i e ∧ ax_okl nm cc rt nl cd (i + 1) l
/-- what a method's tables must hold -/
def ax_g3 (q : ax_N) (r : ax_M) : Prop := plainName q.1.cls = true ∧ Cond.code q.1 q.2.1 r.2.1 q.2.2 ∈ TT ∧ Cond.initialized q.1.cls ∈ TT ∧ (q.1.cls ≠ "java/lang/invoke/MethodHandle" ∧ q.1.cls ≠ "java/lang/invoke/VarHandle") ∧ r.2.1 ≤ 21 ∧ r.2.2.1 ≤ r.2.1 ∧ ax_pc r.1 0 = 0 ∧
    ∀ (i : Nat) (e : ax_I), ax_nth r.1 i = some e → ax_ok M X NM cl TT NL q.1 q.2.1 q.2.2 r.2.1 r.1 i e
/-- what the tables must hold -/
def ax_Good : Prop :=
  (∀ w ∈ TT, (w.onTables && w.keeps) = true ∨ ∃ ty, w = Cond.arrayClass ty) ∧
  (∀ (a : Nat) (q : vw_C), cl[a]? = some q → (∀ w ∈ u_ws q.1 q.2.1 q.2.2, w ∈ TT) ∧ (∃ ty : Nat → FieldType, ∀ k, k < q.2.2 → parseFieldDescriptor (q.2.1 k).2.2.1 = some (ty k)) ∧ ∀ a, a < q.2.2 → ∀ b, b < q.2.2 → a ≠ b → (q.2.1 a).2.1 ≠ (q.2.1 b).2.1) ∧
  (∀ (y : Nat) (q : ax_N) (r : ax_M), ax_nth NM y = some q → ax_nth M y = some r → ax_g3 M X NM cl TT NL q r) ∧
  (∀ (y : Nat) (r : ax_M), ax_nth M y = some r → ∃ q : ax_N, ax_nth NM y = some q)
end AXG
theorem ax_okl_at' {M : List ax_M} {X : List (List Value)} {NM : List ax_N} {cl : List vw_C} {TT : List Cond} {NL : List (String × Nat × MethodName × String)} {nm : MethodName} {cc : ByteArray} {rt : Option FieldType} {nl : Nat} {cd : List ax_I} : ∀ (l : List ax_I) (k : Nat), ax_okl M X NM cl TT NL nm cc rt nl cd k l → ∀ (i : Nat) (e : ax_I), ax_nth l i = some e → ax_ok M X NM cl TT NL nm cc rt nl cd (k + i) e
  | [], _, _, _, _, h => by cases h
  | a :: l, k, h, 0, e, he => by
    cases he
    exact h.1
  | a :: l, k, h, i + 1, e, he => by
    have := ax_okl_at' l (k + 1) h.2 i e he
    rw [show k + (i + 1) = k + 1 + i by omega]
    exact this
theorem ax_okl_at {M : List ax_M} {X : List (List Value)} {NM : List ax_N} {cl : List vw_C} {TT : List Cond} {NL : List (String × Nat × MethodName × String)} {nm : MethodName} {cc : ByteArray} {rt : Option FieldType} {nl : Nat} {cd : List ax_I} (h : ax_okl M X NM cl TT NL nm cc rt nl cd 0 cd) (i : Nat) (e : ax_I) (he : ax_nth cd i = some e) : ax_ok M X NM cl TT NL nm cc rt nl cd i e := by
  have := ax_okl_at' cd 0 h i e he
  rwa [Nat.zero_add] at this
def ax_all2 (P : ax_N → ax_M → Prop) : List ax_N → List ax_M → Prop
  | [], [] => True
  | a :: l, b :: m => P a b ∧ ax_all2 P l m
  | _, _ => False
theorem ax_all2_at {P : ax_N → ax_M → Prop} : ∀ {l : List ax_N} {m : List ax_M}, ax_all2 P l m → ∀ (y : Nat) (q : ax_N) (r : ax_M), ax_nth l y = some q → ax_nth m y = some r → P q r
  | [], _, _, _, _, _, h, _ => by cases h
  | _ :: _, [], h, _, _, _, _, _ => False.elim h
  | a :: l, b :: m, h, 0, q, r, h1, h2 => by
    cases h1
    cases h2
    exact h.1
  | a :: l, b :: m, h, y + 1, q, r, h1, h2 => ax_all2_at (l := l) (m := m) h.2 y q r h1 h2
theorem ax_all2_ex {P : ax_N → ax_M → Prop} : ∀ {l : List ax_N} {m : List ax_M}, ax_all2 P l m → ∀ (y : Nat) (r : ax_M), ax_nth m y = some r → ∃ q : ax_N, ax_nth l y = some q
  | _, [], _, _, _, h => by cases h
  | [], _ :: _, h, _, _, _ => False.elim h
  | a :: l, b :: m, _, 0, _, _ => ⟨a, rfl⟩
  | a :: l, b :: m, h, y + 1, r, h2 => ax_all2_ex (l := l) (m := m) h.2 y r h2
abbrev ax_ty (cI cZ : ClassId) : List (ClassId × FieldType) := [(cI, .int), (cZ, .boolean)]
def ax_rm (d mc ms : Nat) : Room := { frames := d, cells := mc, slots := ms, locals := 40 * d }
/-- the world behind a method -/
def ax_Bw (D : va_G) (cl : List vw_C) (cI cZ : ClassId) (A : Nat → Prop) (mc : Nat) (h : ax_H) (ad : Nat → Nat) (u : ax_H × (Nat → Nat)) (t : State) : Prop :=
  va_P D cl (ax_w cI cZ u.2 u.1) t.heap ∧ va_K D cl (ax_ty cI cZ) t ∧ va_D A (ax_w cI cZ u.2 u.1) ∧ (∀ k, k < h.length → u.2 k = ad k) ∧ (mc = 0 → u.2 = ad) ∧ h.length ≤ u.1.length
def ax_Q (D : va_G) (cl : List vw_C) (cI cZ : ClassId) (A : Nat → Prop) (mc : Nat) (h : ax_H) (ad : Nat → Nat) (K : ax_K) (rt : Option FieldType) : Array Value → State → Outcome → State → Prop := match rt with
  | none => va_Qv (fun u : ax_H × (Nat → Nat) => K none u.1) (ax_Bw D cl cI cZ A mc h ad) A
  | some _ => va_Qi (fun (r : Int32) (u : ax_H × (Nat → Nat)) => K (some (.int r)) u.1) (ax_Bw D cl cI cZ A mc h ad) A
def ax_P (D : va_G) (cl : List vw_C) (NL : List (String × Nat × MethodName × String)) (cI cZ : ClassId) (sz : Nat) (h : ax_H) (ad : Nat → Nat) (U : State) : Prop :=
  U.heap.size = sz ∧ va_P D cl (ax_w cI cZ ad h) U.heap ∧ va_K D cl (ax_ty cI cZ) U ∧ va_D (fun _ => True) (ax_w cI cZ ad h) ∧ ∀ q ∈ NL, va_Nw (.methodLinkNest q.1 q.2.1 q.2.2.1 q.2.2.2) U
/-- a method's contract -/
def ax_Met (l : Launch) (D : va_G) (cl : List vw_C) (TT : List Cond) (NL : List (String × Nat × MethodName × String)) (NM : List ax_N) (M : List ax_M) (cI cZ : ClassId) (d : Nat) (y : Nat) (As : List Value) (h : ax_H) (K : ax_K) : Prop :=
  ∀ (q : ax_N) (r : ax_M), ax_nth NM y = some q → ax_nth M y = some r → ∀ (ad : Nat → Nat) (sz : Nat),
    Met l q.1 (Cond.code q.1 q.2.1 r.2.1 q.2.2 :: TT) (ax_rm d r.2.2.2.1 r.2.2.2.2) (va_Pc (As.map (ax_v ad)) (ax_P D cl NL cI cZ sz h ad)) (ax_Q D cl cI cZ (va_A (ax_w cI cZ ad h) sz) r.2.2.2.1 h ad K q.2.2) r.2.2.2.1 r.2.2.2.2 (va_A (ax_w cI cZ ad h) sz)
def ax_Inv (D : va_G) (cl : List vw_C) (cI cZ : ClassId) (A : Nat → Prop) (H0 : Heap) (nl : Nat) (h0 : ax_H) (ad0 : Nat → Nat) (L : ax_L) (h : ax_H) (ce : Nat) (ad : Nat → Nat) (H : Heap) (locs : List Loc) (ls : Array Slot) : Prop :=
  L.length = nl ∧ lv_has ls nl (ax_lv ad L) ∧ va_P D cl (ax_w cI cZ ad h) H ∧ va_D A (ax_w cI cZ ad h) ∧ va_S A H0 H locs ∧ (∀ k, k < h0.length → ad k = ad0 k) ∧ (ce = 0 → ad = ad0) ∧ h0.length ≤ h.length
def ax_W (p : Program) (l : Launch) (e : Env) (R : Room) (s : State) (m : MethodId) (args : Array Value) (below : List Frame) (meth : Method) (c : Code) (D : va_G) (cl : List vw_C) (cI cZ : ClassId) (A : Nat → Prop) (nl : Nat) (cd : List ax_I) (h0 : ax_H) (ad0 : Nat → Nat) (Q : State → Prop) : ax_R := fun i L S h ce sl =>
  ∀ (ad : Nat → Nat) (H : Heap) (locs : List Loc) (ls : Array Slot), ax_Inv D cl cI cZ A s.heap nl h0 ad0 L h ce ad H locs ls → W p l e R s m args below meth c H locs ce sl Q (F0 m (ax_pc cd i) ls (S.map (ax_v ad)))
end
section
/-! The small machine against the kit's rows, 3: what an instruction's predicate says, taken apart. -/
theorem ax_bin_inv {f : Int32 → Int32 → Int32} {S : List Value} {k : List Value → Prop} (h : ax_bin f S k) : ∃ x y r, S = .int y :: .int x :: r ∧ k (.int (f x y) :: r) := by
  rcases S with _ | ⟨v1, _ | ⟨v2, r⟩⟩
  · exact False.elim h
  · cases v1 <;> exact False.elim h
  · cases v1 <;> cases v2 <;> first | exact ⟨_, _, _, rfl, h⟩ | exact False.elim h
theorem ax_ldi_inv {L : ax_L} {i : Nat} {k : Value → Prop} (h : ax_ldi L i k) : ∃ x, ax_nth L i = some (some (.int x)) ∧ k (.int x) := by
  unfold ax_ldi at h
  rcases e : ax_nth L i with _ | _ | v
  · rw [e] at h; exact False.elim h
  · rw [e] at h; exact False.elim h
  · rw [e] at h
    cases v <;> first | exact ⟨_, rfl, h⟩ | exact False.elim h
theorem ax_lda_inv {L : ax_L} {i : Nat} {k : Value → Prop} (h : ax_lda L i k) : (∃ q, ax_nth L i = some (some (.ref q)) ∧ k (.ref q)) ∨ (ax_nth L i = some (some .null) ∧ k .null) := by
  unfold ax_lda at h
  rcases e : ax_nth L i with _ | _ | v
  · rw [e] at h; exact False.elim h
  · rw [e] at h; exact False.elim h
  · rw [e] at h
    cases v <;> first | exact Or.inl ⟨_, rfl, h⟩ | exact Or.inr ⟨rfl, h⟩ | exact False.elim h
theorem ax_sti_inv {S : List Value} {k : Value → List Value → Prop} (h : ax_sti S k) : ∃ x r, S = .int x :: r ∧ k (.int x) r := by
  rcases S with _ | ⟨v, r⟩
  · exact False.elim h
  · cases v <;> first | exact ⟨_, _, rfl, h⟩ | exact False.elim h
theorem ax_sta_inv {S : List Value} {k : Value → List Value → Prop} (h : ax_sta S k) : (∃ q r, S = .ref q :: r ∧ k (.ref q) r) ∨ (∃ r, S = .null :: r ∧ k .null r) := by
  rcases S with _ | ⟨v, r⟩
  · exact False.elim h
  · cases v <;> first | exact Or.inl ⟨_, _, rfl, h⟩ | exact Or.inr ⟨_, rfl, h⟩ | exact False.elim h
theorem ax_inc_inv {L : ax_L} {i : Nat} {v : Int32} {k : ax_L → Prop} (h : ax_inc L i v k) : ∃ x, ax_nth L i = some (some (.int x)) ∧ k (L.set i (some (.int (x + v)))) := by
  unfold ax_inc at h
  rcases e : ax_nth L i with _ | _ | v
  · rw [e] at h; exact False.elim h
  · rw [e] at h; exact False.elim h
  · rw [e] at h
    cases v <;> first | exact ⟨_, rfl, h⟩ | exact False.elim h
theorem ax_getf_inv {S : List Value} {h : ax_H} {ci f : Nat} {k : List Value → Prop} (hh : ax_getf S h ci f k) : ∃ q r fs x, S = .ref q :: r ∧ ax_nth h q = some (.inr (ci, fs)) ∧ ax_nth fs f = some x ∧ k (x :: r) := by
  rcases S with _ | ⟨v, r⟩
  · exact False.elim hh
  · cases v with
    | ref q =>
      unfold ax_getf at hh
      dsimp only at hh
      rcases e : ax_nth h q with _ | c | ⟨c, fs⟩
      · rw [e] at hh; exact False.elim hh
      · rw [e] at hh; exact False.elim hh
      · rw [e] at hh
        obtain ⟨h1, h2⟩ := ax_if_t hh
        have h3 := Nat.eq_of_beq_eq_true h1
        subst h3
        rcases e2 : ax_nth fs f with _ | x
        · rw [e2] at h2; exact False.elim h2
        · rw [e2] at h2
          exact ⟨q, r, fs, x, rfl, e, e2, h2⟩
    | _ => exact False.elim hh
theorem ax_fit_inv {ty : Int32} {v : Value} {k : Prop} (h : ax_fit ty v k) : k ∧ ((∃ x, v = .int x ∧ (ty = 0 ∨ (ty = 1 ∧ (x = 0 ∨ x = 1)))) ∨ (ty = 2 ∧ (v = .null ∨ ∃ q, v = .ref q))) := by
  cases v <;> first | exact ⟨h.2, Or.inl ⟨_, rfl, h.1⟩⟩ | exact ⟨h.2, Or.inr ⟨h.1, Or.inl rfl⟩⟩ | exact ⟨h.2, Or.inr ⟨h.1, Or.inr ⟨_, rfl⟩⟩⟩ | exact False.elim h
theorem ax_putf_inv {S : List Value} {h : ax_H} {ci f : Nat} {ty : Int32} {k : List Value → ax_H → Prop} (hh : ax_putf S h ci f ty k) : ∃ v q r fs, S = v :: .ref q :: r ∧ ax_nth h q = some (.inr (ci, fs)) ∧ f < fs.length ∧ ((∃ x, v = .int x ∧ (ty = 0 ∨ (ty = 1 ∧ (x = 0 ∨ x = 1)))) ∨ (ty = 2 ∧ (v = .null ∨ ∃ q, v = .ref q))) ∧ k r (h.set q (.inr (ci, fs.set f v))) := by
  rcases S with _ | ⟨v, _ | ⟨w, r⟩⟩
  · exact False.elim hh
  · exact False.elim hh
  · cases w with
    | ref q =>
      unfold ax_putf at hh
      dsimp only at hh
      rcases e : ax_nth h q with _ | c | ⟨c, fs⟩
      · rw [e] at hh; exact False.elim hh
      · rw [e] at hh; exact False.elim hh
      · rw [e] at hh
        obtain ⟨h1, h2⟩ := ax_if_t hh
        rw [Bool.and_eq_true] at h1
        have h3 := Nat.eq_of_beq_eq_true h1.1
        subst h3
        obtain ⟨h4, h5⟩ := ax_fit_inv h2
        exact ⟨v, q, r, fs, rfl, e, Nat.le_of_ble_eq_true h1.2, h5, h4⟩
    | _ => exact False.elim hh
theorem ax_ald_inv {z : Bool} {S : List Value} {h : ax_H} {k : List Value → Prop} (hh : ax_ald z S h k) : ∃ a q r n f, S = .int (nI a) :: .ref q :: r ∧ ax_nth h q = some (.inl (z, n, f)) ∧ a < n ∧ a < 2147483648 ∧ k (.int (f a) :: r) := by
  rcases S with _ | ⟨v, _ | ⟨w, r⟩⟩
  · exact False.elim hh
  · cases v <;> exact False.elim hh
  · cases v with
    | int j =>
      cases w with
      | ref q =>
        unfold ax_ald at hh
        dsimp only at hh
        rcases e : ax_nth h q with _ | ⟨z', n, f⟩ | c
        · rw [e] at hh; exact False.elim hh
        · rw [e] at hh
          obtain ⟨h1, a, h2, h3, h4⟩ := ax_if_t hh
          have h5 : z = z' := by simpa using h1
          subst h5
          subst h3
          exact ⟨a, q, r, n, f, rfl, e, h2.1, h2.2, h4⟩
        · rw [e] at hh; exact False.elim hh
      | _ => exact False.elim hh
    | _ => exact False.elim hh
theorem ax_ast_inv {z : Bool} {S : List Value} {h : ax_H} {k : List Value → ax_H → Prop} (hh : ax_ast z S h k) : ∃ x a q r n f, S = .int x :: .int (nI a) :: .ref q :: r ∧ ax_nth h q = some (.inl (z, n, f)) ∧ a < n ∧ a < 2147483648 ∧ k r (h.set q (.inl (z, n, upd f a (ax_zv z x)))) := by
  rcases S with _ | ⟨u, _ | ⟨v, _ | ⟨w, r⟩⟩⟩
  · exact False.elim hh
  · cases u <;> exact False.elim hh
  · cases u <;> cases v <;> exact False.elim hh
  · cases u with
    | int x =>
      cases v with
      | int j =>
        cases w with
        | ref q =>
          unfold ax_ast at hh
          dsimp only at hh
          rcases e : ax_nth h q with _ | ⟨z', n, f⟩ | c
          · rw [e] at hh; exact False.elim hh
          · rw [e] at hh
            obtain ⟨h1, a, h2, h3, h4⟩ := ax_if_t hh
            have h5 : z = z' := by simpa using h1
            subst h5
            subst h3
            exact ⟨x, a, q, r, n, f, rfl, e, h2.1, h2.2, h4⟩
          · rw [e] at hh; exact False.elim hh
        | _ => exact False.elim hh
      | _ => exact False.elim hh
    | _ => exact False.elim hh
theorem ax_alen_inv {S : List Value} {h : ax_H} {k : List Value → Prop} (hh : ax_alen S h k) : ∃ q r z n f, S = .ref q :: r ∧ ax_nth h q = some (.inl (z, n, f)) ∧ k (.int (nI n) :: r) := by
  rcases S with _ | ⟨v, r⟩
  · exact False.elim hh
  · cases v with
    | ref q =>
      unfold ax_alen at hh
      dsimp only at hh
      rcases e : ax_nth h q with _ | ⟨z', n, f⟩ | c
      · rw [e] at hh; exact False.elim hh
      · rw [e] at hh
        exact ⟨q, r, z', n, f, rfl, e, hh⟩
      · rw [e] at hh; exact False.elim hh
    | _ => exact False.elim hh
theorem ax_args_spec : ∀ (n : Nat) (acc S As r : List Value), ax_args n acc S = some (As, r) → ∃ Bs : List Value, Bs.length = n ∧ S = Bs ++ r ∧ As = Bs.reverse ++ acc := by
  intro n
  induction n with
  | zero =>
    intro acc S As r h
    cases h
    exact ⟨[], rfl, rfl, rfl⟩
  | succ n ih =>
    intro acc S As r h
    cases S with
    | nil => cases h
    | cons v S =>
      obtain ⟨Bs, h1, h2, h3⟩ := ih (v :: acc) S As r h
      refine ⟨v :: Bs, by simp [h1], by simp [h2], by simp [h3]⟩
theorem ax_args_0 {n : Nat} {S As r : List Value} (h : ax_args n [] S = some (As, r)) : As.length = n ∧ S = As.reverse ++ r := by
  obtain ⟨Bs, h1, h2, h3⟩ := ax_args_spec n [] S As r h
  subst h3
  exact ⟨by simp [h1], by simp [h2]⟩
theorem ax_rcv_inv {ci : Nat} {ts : List Nat} {As : List Value} {h : ax_H} (hh : ax_rcv (ci :: ts) As h = true) : ∃ p As' fs, As = .ref p :: As' ∧ ax_nth h p = some (.inr (ci, fs)) := by
  rcases As with _ | ⟨v, As'⟩
  · cases hh
  · cases v with
    | ref p =>
      unfold ax_rcv at hh
      dsimp only at hh
      rcases e : ax_nth h p with _ | c | ⟨c, fs⟩
      · rw [e] at hh; cases hh
      · rw [e] at hh; cases hh
      · rw [e] at hh
        have h3 := Nat.eq_of_beq_eq_true hh
        subst h3
        exact ⟨p, As', fs, rfl, e⟩
    | _ => cases hh
theorem ax_call3_inv {M : List ax_M} {mc ms : Nat} {C : ax_O} {a : Nat} {ts : List Nat} {L : ax_L} {S : List Value} {h : ax_H} {ce sl : Nat} {R : List Value → ax_H → Nat → Nat → Prop} (hh : ax_call M mc ms C a 3 ts L S h ce sl R) :
    ∃ (rM : ax_M) (As r : List Value) (K : ax_K), ax_nth M a = some rM ∧ As.length = rM.2.2.1 ∧ S = As.reverse ++ r ∧ r.length ≤ 4 ∧ ce + rM.2.2.2.1 ≤ mc ∧ sl + rM.2.2.2.2 ≤ ms ∧ (rM.2.2.2.1 = 0 ∨ ax_okf h.length L r = true) ∧ ax_rcv ts As h = true ∧ C a As h K ∧ ∀ (z : Int32) (h' : ax_H), K (some (.int z)) h' → R (.int z :: r) h' (ce + rM.2.2.2.1) (sl + rM.2.2.2.2) := by
  unfold ax_call at hh
  rcases e : ax_nth M a with _ | ⟨cdA, nlA, n, mA, sA⟩
  · rw [e] at hh; exact False.elim hh
  · rw [e] at hh
    dsimp only at hh
    rcases e2 : ax_args n [] S with _ | ⟨As, r⟩
    · rw [e2] at hh; exact False.elim hh
    · rw [e2] at hh
      obtain ⟨h1, K, h2, h3⟩ := ax_if_t hh
      simp only [Bool.and_eq_true, Bool.or_eq_true] at h1
      obtain ⟨g1, g2, g3, g4, g5⟩ := h1
      obtain ⟨k1, k2⟩ := ax_args_0 e2
      exact ⟨_, As, r, K, rfl, k1, k2, Nat.le_of_ble_eq_true g1, Nat.le_of_ble_eq_true g2, Nat.le_of_ble_eq_true g3, g4.imp Nat.eq_of_beq_eq_true id, g5, h2, h3⟩
theorem ax_call4_inv {M : List ax_M} {mc ms : Nat} {C : ax_O} {a : Nat} {ts : List Nat} {L : ax_L} {S : List Value} {h : ax_H} {ce sl : Nat} {R : List Value → ax_H → Nat → Nat → Prop} (hh : ax_call M mc ms C a 4 ts L S h ce sl R) :
    ∃ (rM : ax_M) (As r : List Value) (K : ax_K), ax_nth M a = some rM ∧ As.length = rM.2.2.1 ∧ S = As.reverse ++ r ∧ r.length ≤ 4 ∧ ce + rM.2.2.2.1 ≤ mc ∧ sl + rM.2.2.2.2 ≤ ms ∧ (rM.2.2.2.1 = 0 ∨ ax_okf h.length L r = true) ∧ ax_rcv ts As h = true ∧ C a As h K ∧ ∀ h' : ax_H, K none h' → R r h' (ce + rM.2.2.2.1) (sl + rM.2.2.2.2) := by
  unfold ax_call at hh
  rcases e : ax_nth M a with _ | ⟨cdA, nlA, n, mA, sA⟩
  · rw [e] at hh; exact False.elim hh
  · rw [e] at hh
    dsimp only at hh
    rcases e2 : ax_args n [] S with _ | ⟨As, r⟩
    · rw [e2] at hh; exact False.elim hh
    · rw [e2] at hh
      obtain ⟨h1, K, h2, h3⟩ := ax_if_t hh
      simp only [Bool.and_eq_true, Bool.or_eq_true] at h1
      obtain ⟨g1, g2, g3, g4, g5⟩ := h1
      obtain ⟨k1, k2⟩ := ax_args_0 e2
      exact ⟨_, As, r, K, rfl, k1, k2, Nat.le_of_ble_eq_true g1, Nat.le_of_ble_eq_true g2, Nat.le_of_ble_eq_true g3, g4.imp Nat.eq_of_beq_eq_true id, g5, h2, h3⟩
theorem ax_call0_inv {M : List ax_M} {mc ms : Nat} {C : ax_O} {a : Nat} {ts : List Nat} {L : ax_L} {S : List Value} {h : ax_H} {ce sl : Nat} {R : List Value → ax_H → Nat → Nat → Prop} (hh : ax_call M mc ms C a 0 ts L S h ce sl R) : ∃ q r, S = .ref q :: r ∧ r.length ≤ 4 ∧ R r h ce sl := by
  rcases S with _ | ⟨v, r⟩
  · exact False.elim hh
  · cases v with
    | ref q =>
      obtain ⟨h1, h2⟩ := ax_if_t (show ax_if (Nat.ble r.length 4) (R r h ce sl) from hh)
      exact ⟨q, r, rfl, Nat.le_of_ble_eq_true h1, h2⟩
    | _ => exact False.elim hh
theorem ax_call1_inv {M : List ax_M} {mc ms : Nat} {C : ax_O} {a : Nat} {ts : List Nat} {L : ax_L} {S : List Value} {h : ax_H} {ce sl : Nat} {R : List Value → ax_H → Nat → Nat → Prop} (hh : ax_call M mc ms C a 1 ts L S h ce sl R) : ∃ x y r, S = .int y :: .int x :: r ∧ r.length ≤ 4 ∧ ce ≤ mc ∧ sl ≤ ms ∧ R (.int (if x < y then y else x) :: r) h ce sl := by
  rcases S with _ | ⟨v, _ | ⟨w, r⟩⟩
  · exact False.elim hh
  · cases v <;> exact False.elim hh
  · cases v with
    | int y =>
      cases w with
      | int x =>
        obtain ⟨h1, h2⟩ := ax_if_t (show ax_if (Nat.ble r.length 4 && (Nat.ble ce mc && Nat.ble sl ms)) (R (.int (if x < y then y else x) :: r) h ce sl) from hh)
        simp only [Bool.and_eq_true] at h1
        exact ⟨x, y, r, rfl, Nat.le_of_ble_eq_true h1.1, Nat.le_of_ble_eq_true h1.2.1, Nat.le_of_ble_eq_true h1.2.2, h2⟩
      | _ => exact False.elim hh
    | _ => exact False.elim hh
theorem ax_call2_inv {M : List ax_M} {mc ms : Nat} {C : ax_O} {a : Nat} {ts : List Nat} {L : ax_L} {S : List Value} {h : ax_H} {ce sl : Nat} {R : List Value → ax_H → Nat → Nat → Prop} (hh : ax_call M mc ms C a 2 ts L S h ce sl R) : ∃ x y r, S = .int y :: .int x :: r ∧ r.length ≤ 4 ∧ ce ≤ mc ∧ sl ≤ ms ∧ R (.int (if y < x then y else x) :: r) h ce sl := by
  rcases S with _ | ⟨v, _ | ⟨w, r⟩⟩
  · exact False.elim hh
  · cases v <;> exact False.elim hh
  · cases v with
    | int y =>
      cases w with
      | int x =>
        obtain ⟨h1, h2⟩ := ax_if_t (show ax_if (Nat.ble r.length 4 && (Nat.ble ce mc && Nat.ble sl ms)) (R (.int (if y < x then y else x) :: r) h ce sl) from hh)
        simp only [Bool.and_eq_true] at h1
        exact ⟨x, y, r, rfl, Nat.le_of_ble_eq_true h1.1, Nat.le_of_ble_eq_true h1.2.1, Nat.le_of_ble_eq_true h1.2.2, h2⟩
      | _ => exact False.elim hh
    | _ => exact False.elim hh
/-- words of a stack of places: at most two each -/
theorem ax_cat_le (ad : Nat → Nat) (r : List Value) : ((r.map (ax_v ad)).map fun v => v.category).sum ≤ 2 * r.length := by
  induction r with
  | nil => exact Nat.le_refl _
  | cons v r ih =>
    have h1 : (ax_v ad v).category = 1 ∨ (ax_v ad v).category = 2 := lv_cat _
    simp only [List.map_cons, List.sum_cons, List.length_cons]
    omega
end
section
/-! The small machine against the kit's rows, 4: each instruction, then methods by depth. -/
section AXS
variable {l : Launch} {D : va_G} {cl : List vw_C} {TT : List Cond} {NL : List (String × Nat × MethodName × String)} {NM : List ax_N} {M : List ax_M} {X : List (List Value)} {cI cZ : ClassId}
/-- behind a call: the world has moved, the frame stands -/
theorem ax_back {A : Nat → Prop} {H0 H1 : Heap} {nl : Nat} {h0 : ax_H} {ad0 ad ad' : Nat → Nat} {L : ax_L} {r : List Value} {h h' : ax_H} {ce mA : Nat} {H : Heap} {locs locs1 : List Loc} {ls : Array Slot} {t : State}
    (hI : ax_Inv D cl cI cZ A H0 nl h0 ad0 L h ce ad H locs ls) (hF : ∀ q, va_A (ax_w cI cZ ad h) H.size q → A q) (hok : mA = 0 ∨ ax_okf h.length L r = true) (hB : ax_Bw D cl cI cZ (va_A (ax_w cI cZ ad h) H.size) mA h ad (h', ad') t) (ht : t.heap = H1) (hS1 : va_S A H0 H1 locs1) :
    ax_Inv D cl cI cZ A H0 nl h0 ad0 L h' (ce + mA) ad' H1 locs1 ls ∧ r.map (ax_v ad') = r.map (ax_v ad) := by
  obtain ⟨hL, hl, hP, hD, hS, hag, hz, hlen⟩ := hI
  obtain ⟨bP, bK, bD, b1, b2, b3⟩ := hB
  dsimp only at bP bD b1 b2 b3
  have hk : lv_has ls nl (ax_lv ad' L) ∧ r.map (ax_v ad') = r.map (ax_v ad) := by
    rcases hok with h1 | h1
    · rw [b2 h1]
      exact ⟨hl, rfl⟩
    · unfold ax_okf at h1
      rw [Bool.and_eq_true] at h1
      exact ⟨ax_lv_ad b1 h1.1 hl, ax_vs_eq b1 h1.2⟩
  refine ⟨⟨hL, hk.1, by rw [← ht]; exact bP, bD.weaken (fun k q _ hq => hF q.1 hq), hS1, fun k hk => ?_, fun hc => ?_, Nat.le_trans hlen b3⟩, hk.2⟩
  · rw [b1 k (Nat.lt_of_lt_of_le hk hlen), hag k hk]
  · rw [b2 (by omega), hz (by omega)]
theorem ax_blind {As : List Value} {sz : Nat} {h : ax_H} {ad : Nat → Nat} : FrameBlind (va_Pc As (ax_P D cl NL cI cZ sz h ad)) := by
  intro a U g mk q
  obtain ⟨q0, q1, qP, qK, qD, qN⟩ := q
  exact ⟨q0, q1, qP, va_K.moved (u := U) (U := U.calling g mk a) (Vm.Alike.refl U.vm) qK, qD, fun w hw => va_Nw.same rfl rfl (qN w hw)⟩
theorem ax_pre {s : State} {As : List Value} {h : ax_H} {ad : Nat → Nat} {H : Heap} {A : Nat → Prop} (hP : va_P D cl (ax_w cI cZ ad h) H) (hD : va_D A (ax_w cI cZ ad h)) (hK : va_K D cl (ax_ty cI cZ) s) (hN : ∀ q ∈ NL, va_Nw (.methodLinkNest q.1 q.2.1 q.2.2.1 q.2.2.2) s) (U : State) (hU : U.heap = H) (hW : s.WarmedH U.vm) : va_Pc As (ax_P D cl NL cI cZ H.size h ad) As.toArray U :=
  ⟨rfl, by rw [hU], by rw [hU]; exact hP, va_K.moved hW.alike hK, hD.weaken (fun _ _ _ _ => trivial), fun q hq => va_Nw.warmM hW (hN q hq)⟩
theorem ax_inA {A : Nat → Prop} {H0 H : Heap} {locs : List Loc} {ad : Nat → Nat} {h : ax_H} (hD : va_D A (ax_w cI cZ ad h)) (hS : va_S A H0 H locs) (hA : ∀ q, H0.size ≤ q → A q) : ∀ q, va_A (ax_w cI cZ ad h) H.size q → A q := by
  intro q hq
  rcases hq with ⟨k, e, hk⟩ | hq
  · exact hD.2 k (q, e) hk
  · exact hA q (Nat.le_trans hS.1 hq)
variable {p : Program} {e : Env} {s : State} {m : MethodId} {args : Array Value} {below : List Frame} {meth : Method} {c : Code} {H : Heap} {locs : List Loc} {ce sl : Nat} {Q : State → Prop} {A : Nat → Prop}
/-- a call that answers an int, whatever its kind -/
theorem ax_calli {d mc ms : Nat} {h0 : ax_H} {ad0 ad : Nat → Nat} {L : ax_L} {h : ax_H} {ls : Array Slot} {nl pc : Nat} {rM : ax_M} {qN : ax_N} {As r st0 : List Value} {K : ax_K} {ty : FieldType}
    (hr : va_Run p l e (ax_rm (d + 1) mc ms) s m args below meth c H locs ce sl rM.2.2.2.1 rM.2.2.2.2 (F0 m pc ls st0) (r.map (ax_v ad)) (ax_Q D cl cI cZ (va_A (ax_w cI cZ ad h) H.size) rM.2.2.2.1 h ad K qN.2.2 (As.map (ax_v ad)).toArray) (va_A (ax_w cI cZ ad h) H.size))
    (hrt : qN.2.2 = some ty) (hI : ax_Inv D cl cI cZ A s.heap nl h0 ad0 L h ce ad H locs ls) (hA : ∀ q, s.heap.size ≤ q → A q) (hok : rM.2.2.2.1 = 0 ∨ ax_okf h.length L r = true)
    (kk : ∀ (z : Int32) (h' : ax_H), K (some (.int z)) h' → ∀ (ad' : Nat → Nat) (H1 : Heap) (locs1 : List Loc), ax_Inv D cl cI cZ A s.heap nl h0 ad0 L h' (ce + rM.2.2.2.1) ad' H1 locs1 ls → W p l e (ax_rm (d + 1) mc ms) s m args below meth c H1 locs1 (ce + rM.2.2.2.1) (sl + rM.2.2.2.2) Q (F0 m (pc + 3) ls ((Value.int z :: r).map (ax_v ad')))) :
    W p l e (ax_rm (d + 1) mc ms) s m args below meth c H locs ce sl Q (F0 m pc ls st0) := by
  have hF := ax_inA hI.2.2.2.1 hI.2.2.2.2.1 hA
  rw [hrt] at hr
  refine va_calli (a := (As.map (ax_v ad)).toArray) (post := fun (r : Int32) (u : ax_H × (Nat → Nat)) => K (some (.int r)) u.1) (B := ax_Bw D cl cI cZ (va_A (ax_w cI cZ ad h) H.size) rM.2.2.2.1 h ad) hr hI.2.2.2.2.1 (fun q _ hq => hF q hq) hF (fun z u t H1 locs1 ht hvm hw hB hz1 hk1 hS1 => ?_)
  obtain ⟨h', ad'⟩ := u
  obtain ⟨hI', he⟩ := ax_back hI hF hok hB ht hS1
  have := kk z h' hw ad' H1 locs1 hI'
  rw [List.map_cons, he] at this
  exact this
theorem ax_callv {d mc ms : Nat} {h0 : ax_H} {ad0 ad : Nat → Nat} {L : ax_L} {h : ax_H} {ls : Array Slot} {nl pc : Nat} {rM : ax_M} {qN : ax_N} {As r st0 : List Value} {K : ax_K}
    (hr : va_Run p l e (ax_rm (d + 1) mc ms) s m args below meth c H locs ce sl rM.2.2.2.1 rM.2.2.2.2 (F0 m pc ls st0) (r.map (ax_v ad)) (ax_Q D cl cI cZ (va_A (ax_w cI cZ ad h) H.size) rM.2.2.2.1 h ad K qN.2.2 (As.map (ax_v ad)).toArray) (va_A (ax_w cI cZ ad h) H.size))
    (hrt : qN.2.2 = none) (hI : ax_Inv D cl cI cZ A s.heap nl h0 ad0 L h ce ad H locs ls) (hA : ∀ q, s.heap.size ≤ q → A q) (hok : rM.2.2.2.1 = 0 ∨ ax_okf h.length L r = true)
    (kk : ∀ h' : ax_H, K none h' → ∀ (ad' : Nat → Nat) (H1 : Heap) (locs1 : List Loc), ax_Inv D cl cI cZ A s.heap nl h0 ad0 L h' (ce + rM.2.2.2.1) ad' H1 locs1 ls → W p l e (ax_rm (d + 1) mc ms) s m args below meth c H1 locs1 (ce + rM.2.2.2.1) (sl + rM.2.2.2.2) Q (F0 m (pc + 3) ls (r.map (ax_v ad')))) :
    W p l e (ax_rm (d + 1) mc ms) s m args below meth c H locs ce sl Q (F0 m pc ls st0) := by
  have hF := ax_inA hI.2.2.2.1 hI.2.2.2.2.1 hA
  rw [hrt] at hr
  refine va_callv (a := (As.map (ax_v ad)).toArray) (post := fun (u : ax_H × (Nat → Nat)) => K none u.1) (B := ax_Bw D cl cI cZ (va_A (ax_w cI cZ ad h) H.size) rM.2.2.2.1 h ad) hr hI.2.2.2.2.1 (fun q _ hq => hF q hq) hF (fun u t H1 locs1 ht hvm hw hB hz1 hk1 hS1 => ?_)
  obtain ⟨h', ad'⟩ := u
  obtain ⟨hI', he⟩ := ax_back hI hF hok hB ht hS1
  have := kk h' hw ad' H1 locs1 hI'
  rw [he] at this
  exact this
/-- the words of a callee, out of the caller's -/
theorem ax_gi (G : ∀ w ∈ TT, (w.onTables && w.keeps) = true ∨ ∃ ty, w = Cond.arrayClass ty) {w0 : Cond} {ws : List Cond} (h : ∀ w ∈ ws, w ∈ TT) : GoodIn (w0 :: TT) ws := fun w hw => ⟨List.mem_cons_of_mem _ (h w hw), G w (h w hw)⟩
theorem ax_runV (G : ax_Good M X NM cl TT NL) {d mc ms : Nat} {C : ax_O} (hC : ∀ y As h K, C y As h K → ax_Met l D cl TT NL NM M cI cZ d y As h K) {w0 : Cond} {own : String} {cc : ByteArray} {nL : Nat} (S : CallFix p m c cc nL s args (w0 :: TT) own)
    (hK : va_K D cl (ax_ty cI cZ) s) (hN : ∀ q ∈ NL, va_Nw (.methodLinkNest q.1 q.2.1 q.2.2.1 q.2.2.2) s) {a idx ci : Nat} {qN : ax_N} {rM : ax_M} {qc : vw_C} (hn : ax_nth NM a = some qN) (hm : ax_nth M a = some rM) (hci : cl[ci]? = some qc) (hcc : qc.1 = qN.1.cls) (hlk : ax_lk TT NL own idx qN.1) (him : Cond.instanceMethod qN.1 ∈ TT) (hse : Cond.selects qN.1.cls qN.1 qN.1 ∈ TT) {n : Nat} (hn1 : rM.2.2.1 = n + 1) (hpd : (parseMethodDescriptor qN.1.desc).map (fun d => d.parameters.length) = some n)
    {h : ax_H} {ad : Nat → Nat} {As r : List Value} {K : ax_K} (hc : C a As h K) (hP : va_P D cl (ax_w cI cZ ad h) H) (hD : va_D A (ax_w cI cZ ad h)) (hAl : As.length = rM.2.2.1) (hrc : ax_rcv [ci] As h = true) (hr4 : r.length ≤ 4) {ls : Array Slot} {pc : Nat} (hls : ls.size = nL) (hdg : decode cc pc = .ok (.invokevirtual idx, 3)) (hcm : ce + rM.2.2.2.1 ≤ mc) (hsm : sl + rM.2.2.2.2 ≤ ms) :
    va_Run p l e (ax_rm (d + 1) mc ms) s m args below meth c H locs ce sl rM.2.2.2.1 rM.2.2.2.2 (F0 m pc ls ((As.reverse ++ r).map (ax_v ad))) (r.map (ax_v ad)) (ax_Q D cl cI cZ (va_A (ax_w cI cZ ad h) H.size) rM.2.2.2.1 h ad K qN.2.2 (As.map (ax_v ad)).toArray) (va_A (ax_w cI cZ ad h) H.size) := by
  obtain ⟨G1, G2, G3, G4⟩ := G
  obtain ⟨g1, g2, g3, g4, g5, g6, g7, g8⟩ := G3 a qN rM hn hm
  have hM := hC a As h K hc qN rM hn hm ad H.size
  obtain ⟨q, As', fs, rfl, hq⟩ := ax_rcv_inv hrc
  have hts := S.2.2.2.2
  have hR : (ax_rm d rM.2.2.2.1 rM.2.2.2.2).frames + 1 ≤ (ax_rm (d + 1) mc ms).frames ∧ 8 + (rM.2.1 + 11) + (ax_rm d rM.2.2.2.1 rM.2.2.2.2).locals ≤ (ax_rm (d + 1) mc ms).locals := by
    refine ⟨Nat.le_refl _, ?_⟩
    show 8 + (rM.2.1 + 11) + 40 * d ≤ 40 * (d + 1)
    omega
  have hGw : GoodIn (w0 :: TT) (Cond.code qN.1 qN.2.1 rM.2.1 qN.2.2 :: TT) := ax_gi G1 (fun w hw => by
    rcases List.mem_cons.mp hw with rfl | hw
    · exact g2
    · exact hw)
  have hd3 : qN.1.cls ≠ "java/lang/invoke/MethodHandle" ∧ qN.1.cls ≠ "java/lang/invoke/VarHandle" ∧ (parseMethodDescriptor qN.1.desc).map (fun d => d.parameters.length) = some n := ⟨g4.1, g4.2, hpd⟩
  have hini : (Cond.initialized qN.1.cls).before args s = true := hts _ (List.mem_cons_of_mem _ g3)
  have him' : (Cond.instanceMethod qN.1).before args s = true := hts _ (List.mem_cons_of_mem _ him)
  have hse' : (Cond.selects qN.1.cls qN.1 qN.1).before args s = true := hts _ (List.mem_cons_of_mem _ hse)
  have hrecv : ∃ cellB : Cell, H[ad q]? = some cellB ∧ cellB.vm.isStatics = false ∧ s.vm.findClass qN.1.cls = some cellB.cls := by
    have := va_recv hK hP (ci := ci) (q0 := q) hci (ax_w_get hq)
    rw [hcc] at this
    exact this
  have hpre : PreV s H qN.1.cls (ad q) (va_Pc ((Value.ref q :: As').map (ax_v ad)) (ax_P D cl NL cI cZ H.size h ad)) (As'.map (ax_v ad)) := ⟨ax_blind, hrecv, fun U hU hW => ax_pre hP hD hK hN U hU hW⟩
  have hst : ((Value.ref q :: As').reverse ++ r).map (ax_v ad) = (As'.map (ax_v ad)).reverse ++ Value.ref (ad q) :: r.map (ax_v ad) := by
    simp [ax_v]
  have hW8 : 2 * (F0 m pc ls (((Value.ref q :: As').reverse ++ r).map (ax_v ad))).monitorRoom + ((r.map (ax_v ad)).map fun v => v.category).sum ≤ 8 := lv_room (Nat.le_trans (ax_cat_le ad r) (by omega))
  have hln : (As'.map (ax_v ad)).length = n := by
    rw [List.length_map]
    have : (Value.ref q :: As').length = n + 1 := hAl.trans hn1
    simpa using this
  have hf : ce + rM.2.2.2.1 ≤ (ax_rm (d + 1) mc ms).cells ∧ sl + rM.2.2.2.2 ≤ (ax_rm (d + 1) mc ms).slots := ⟨hcm, hsm⟩
  rcases hlk with hlk | ⟨host, hlk⟩
  · exact va_runV (As := As'.map (ax_v ad)) (rest := r.map (ax_v ad)) S hM ⟨callB_of n hts hGw rfl rfl rfl hini (hts _ (List.mem_cons_of_mem _ hlk)) hd3 hR, him', hse'⟩ hpre rfl hln hls hst hW8 hdg hf
  · exact va_runVN (As := As'.map (ax_v ad)) (rest := r.map (ax_v ad)) S hM ⟨va_cnB n hts hGw rfl rfl rfl (hN _ hlk) hini hd3 hR, him', hse'⟩ hpre rfl hln hls hst hW8 hdg hf
theorem ax_runS (G : ax_Good M X NM cl TT NL) {d mc ms : Nat} {C : ax_O} (hC : ∀ y As h K, C y As h K → ax_Met l D cl TT NL NM M cI cZ d y As h K) {w0 : Cond} {own : String} {cc : ByteArray} {nL : Nat} (S : CallFix p m c cc nL s args (w0 :: TT) own)
    (hK : va_K D cl (ax_ty cI cZ) s) (hN : ∀ q ∈ NL, va_Nw (.methodLinkNest q.1 q.2.1 q.2.2.1 q.2.2.2) s) {a idx : Nat} {qN : ax_N} {rM : ax_M} (hn : ax_nth NM a = some qN) (hm : ax_nth M a = some rM) (hlk : ax_lk TT NL own idx qN.1) (hstt : Cond.static qN.1 ∈ TT) (hpd : (parseMethodDescriptor qN.1.desc).map (fun d => d.parameters.length) = some rM.2.2.1)
    {h : ax_H} {ad : Nat → Nat} {As r : List Value} {K : ax_K} (hc : C a As h K) (hP : va_P D cl (ax_w cI cZ ad h) H) (hD : va_D A (ax_w cI cZ ad h)) (hAl : As.length = rM.2.2.1) (hr4 : r.length ≤ 4) {ls : Array Slot} {pc : Nat} (hls : ls.size = nL) (hdg : decode cc pc = .ok (.invokestatic idx, 3)) (hcm : ce + rM.2.2.2.1 ≤ mc) (hsm : sl + rM.2.2.2.2 ≤ ms) :
    va_Run p l e (ax_rm (d + 1) mc ms) s m args below meth c H locs ce sl rM.2.2.2.1 rM.2.2.2.2 (F0 m pc ls ((As.reverse ++ r).map (ax_v ad))) (r.map (ax_v ad)) (ax_Q D cl cI cZ (va_A (ax_w cI cZ ad h) H.size) rM.2.2.2.1 h ad K qN.2.2 (As.map (ax_v ad)).toArray) (va_A (ax_w cI cZ ad h) H.size) := by
  obtain ⟨G1, G2, G3, G4⟩ := G
  obtain ⟨g1, g2, g3, g4, g5, g6, g7, g8⟩ := G3 a qN rM hn hm
  have hM := hC a As h K hc qN rM hn hm ad H.size
  have hts := S.2.2.2.2
  have hR : (ax_rm d rM.2.2.2.1 rM.2.2.2.2).frames + 1 ≤ (ax_rm (d + 1) mc ms).frames ∧ 8 + (rM.2.1 + 11) + (ax_rm d rM.2.2.2.1 rM.2.2.2.2).locals ≤ (ax_rm (d + 1) mc ms).locals := by
    refine ⟨Nat.le_refl _, ?_⟩
    show 8 + (rM.2.1 + 11) + 40 * d ≤ 40 * (d + 1)
    omega
  have hGw : GoodIn (w0 :: TT) (Cond.code qN.1 qN.2.1 rM.2.1 qN.2.2 :: TT) := ax_gi G1 (fun w hw => by
    rcases List.mem_cons.mp hw with rfl | hw
    · exact g2
    · exact hw)
  have hd3 : qN.1.cls ≠ "java/lang/invoke/MethodHandle" ∧ qN.1.cls ≠ "java/lang/invoke/VarHandle" ∧ (parseMethodDescriptor qN.1.desc).map (fun d => d.parameters.length) = some rM.2.2.1 := ⟨g4.1, g4.2, hpd⟩
  have hini : (Cond.initialized qN.1.cls).before args s = true := hts _ (List.mem_cons_of_mem _ g3)
  have hst' : (Cond.static qN.1).before args s = true := hts _ (List.mem_cons_of_mem _ hstt)
  have hpre : PreS s H (va_Pc (As.map (ax_v ad)) (ax_P D cl NL cI cZ H.size h ad)) (As.map (ax_v ad)) := ⟨ax_blind, fun U hU hW => ax_pre hP hD hK hN U hU hW⟩
  have hst : (As.reverse ++ r).map (ax_v ad) = (As.map (ax_v ad)).reverse ++ r.map (ax_v ad) := by simp
  have hW8 : 2 * (F0 m pc ls ((As.reverse ++ r).map (ax_v ad))).monitorRoom + ((r.map (ax_v ad)).map fun v => v.category).sum ≤ 8 := lv_room (Nat.le_trans (ax_cat_le ad r) (by omega))
  have hln : (As.map (ax_v ad)).length = rM.2.2.1 := by rw [List.length_map]; exact hAl
  have hf : ce + rM.2.2.2.1 ≤ (ax_rm (d + 1) mc ms).cells ∧ sl + rM.2.2.2.2 ≤ (ax_rm (d + 1) mc ms).slots := ⟨hcm, hsm⟩
  rcases hlk with hlk | ⟨host, hlk⟩
  · exact va_runS (As := As.map (ax_v ad)) (rest := r.map (ax_v ad)) S hM ⟨callB_of _ hts hGw rfl rfl rfl hini (hts _ (List.mem_cons_of_mem _ hlk)) hd3 hR, hst'⟩ hpre rfl hln hls hst hW8 hdg hf
  · exact va_runSN (As := As.map (ax_v ad)) (rest := r.map (ax_v ad)) S hM ⟨va_cnB _ hts hGw rfl rfl rfl (hN _ hlk) hini hd3 hR, hst', trivial⟩ hpre rfl hln hls hst hW8 hdg hf
theorem ax_runI (G : ax_Good M X NM cl TT NL) {d mc ms : Nat} {C : ax_O} (hC : ∀ y As h K, C y As h K → ax_Met l D cl TT NL NM M cI cZ d y As h K) {w0 : Cond} {own : String} {cc : ByteArray} {nL : Nat} (S : CallFix p m c cc nL s args (w0 :: TT) own)
    (hK : va_K D cl (ax_ty cI cZ) s) (hN : ∀ q ∈ NL, va_Nw (.methodLinkNest q.1 q.2.1 q.2.2.1 q.2.2.2) s) {a idx ci : Nat} {qN : ax_N} {rM : ax_M} (hn : ax_nth NM a = some qN) (hm : ax_nth M a = some rM) (hrt : qN.2.2 = none) (hlk : ax_lk TT NL own idx qN.1) (hnm : qN.1.name = "<init>") (him : Cond.instanceMethod qN.1 ∈ TT) {n : Nat} (hn1 : rM.2.2.1 = n + 1) (hpd : (parseMethodDescriptor qN.1.desc).map (fun d => d.parameters.length) = some n)
    {h : ax_H} {ad : Nat → Nat} {As r : List Value} {K : ax_K} (hc : C a As h K) (hP : va_P D cl (ax_w cI cZ ad h) H) (hD : va_D A (ax_w cI cZ ad h)) (hAl : As.length = rM.2.2.1) (hrc : ax_rcv [ci] As h = true) (hr4 : r.length ≤ 4) {ls : Array Slot} {pc : Nat} (hls : ls.size = nL) (hdg : decode cc pc = .ok (.invokespecial idx, 3)) (hcm : ce + rM.2.2.2.1 ≤ mc) (hsm : sl + rM.2.2.2.2 ≤ ms) :
    va_Run p l e (ax_rm (d + 1) mc ms) s m args below meth c H locs ce sl rM.2.2.2.1 rM.2.2.2.2 (F0 m pc ls ((As.reverse ++ r).map (ax_v ad))) (r.map (ax_v ad)) (ax_Q D cl cI cZ (va_A (ax_w cI cZ ad h) H.size) rM.2.2.2.1 h ad K qN.2.2 (As.map (ax_v ad)).toArray) (va_A (ax_w cI cZ ad h) H.size) := by
  obtain ⟨G1, G2, G3, G4⟩ := G
  obtain ⟨g1, g2, g3, g4, g5, g6, g7, g8⟩ := G3 a qN rM hn hm
  have hM := hC a As h K hc qN rM hn hm ad H.size
  obtain ⟨q, As', fs, rfl, hq⟩ := ax_rcv_inv hrc
  have hts := S.2.2.2.2
  have hR : (ax_rm d rM.2.2.2.1 rM.2.2.2.2).frames + 1 ≤ (ax_rm (d + 1) mc ms).frames ∧ 8 + (rM.2.1 + 11) + (ax_rm d rM.2.2.2.1 rM.2.2.2.2).locals ≤ (ax_rm (d + 1) mc ms).locals := by
    refine ⟨Nat.le_refl _, ?_⟩
    show 8 + (rM.2.1 + 11) + 40 * d ≤ 40 * (d + 1)
    omega
  rw [hrt] at g2
  have hGw : GoodIn (w0 :: TT) (Cond.code qN.1 qN.2.1 rM.2.1 none :: TT) := ax_gi G1 (fun w hw => by
    rcases List.mem_cons.mp hw with rfl | hw
    · exact g2
    · exact hw)
  have hd3 : qN.1.cls ≠ "java/lang/invoke/MethodHandle" ∧ qN.1.cls ≠ "java/lang/invoke/VarHandle" ∧ (parseMethodDescriptor qN.1.desc).map (fun d => d.parameters.length) = some n := ⟨g4.1, g4.2, hpd⟩
  have hini : (Cond.initialized qN.1.cls).before args s = true := hts _ (List.mem_cons_of_mem _ g3)
  have him' : (Cond.instanceMethod qN.1).before args s = true := hts _ (List.mem_cons_of_mem _ him)
  have hpre : PreS s H (va_Pc ((Value.ref q :: As').map (ax_v ad)) (ax_P D cl NL cI cZ H.size h ad)) (Value.ref (ad q) :: As'.map (ax_v ad)) := ⟨ax_blind, fun U hU hW => ax_pre hP hD hK hN U hU hW⟩
  have hst : ((Value.ref q :: As').reverse ++ r).map (ax_v ad) = (As'.map (ax_v ad)).reverse ++ Value.ref (ad q) :: r.map (ax_v ad) := by
    simp [ax_v]
  have hW8 : 2 * (F0 m pc ls (((Value.ref q :: As').reverse ++ r).map (ax_v ad))).monitorRoom + ((r.map (ax_v ad)).map fun v => v.category).sum ≤ 8 := lv_room (Nat.le_trans (ax_cat_le ad r) (by omega))
  have hln : (As'.map (ax_v ad)).length = n := by
    rw [List.length_map]
    have : (Value.ref q :: As').length = n + 1 := hAl.trans hn1
    simpa using this
  have hf : ce + rM.2.2.2.1 ≤ (ax_rm (d + 1) mc ms).cells ∧ sl + rM.2.2.2.2 ≤ (ax_rm (d + 1) mc ms).slots := ⟨hcm, hsm⟩
  rw [hrt] at hM ⊢
  rcases hlk with hlk | ⟨host, hlk⟩
  · exact va_runI (As := As'.map (ax_v ad)) (rest := r.map (ax_v ad)) S hM ⟨callB_of n hts hGw rfl rfl rfl hini (hts _ (List.mem_cons_of_mem _ hlk)) hd3 hR, hnm, him'⟩ hpre rfl hln hls hst hW8 hdg hf
  · exact va_runIN (As := As'.map (ax_v ad)) (rest := r.map (ax_v ad)) S hM ⟨va_cnB n hts hGw rfl rfl rfl (hN _ hlk) hini hd3 hR, hnm, him'⟩ hpre rfl hln hls hst hW8 hdg hf
end AXS
end
section
/-! The small machine against the kit's rows, 5: one instruction, and all of them. -/
section AXT
variable {l : Launch} {D : va_G} {cl : List vw_C} {TT : List Cond} {NL : List (String × Nat × MethodName × String)} {NM : List ax_N} {M : List ax_M} {X : List (List Value)} {cI cZ : ClassId}
variable {p : Program} {e : Env} {s : State} {m : MethodId} {args : Array Value} {below : List Frame} {meth : Method} {c : Code}
set_option maxHeartbeats 8000000 in
set_option maxRecDepth 100000 in
theorem ax_one (G : ax_Good M X NM cl TT NL) {d : Nat} {C : ax_O} (hC : ∀ y As h K, C y As h K → ax_Met l D cl TT NL NM M cI cZ d y As h K) {y : Nat} {q : ax_N} {cd : List ax_I} {nl n mc ms : Nat} (hn : ax_nth NM y = some q) (hy : ax_nth M y = some (cd, nl, n, mc, ms))
    {h0 : ax_H} {ad0 : Nat → Nat} {A : Nat → Prop} {K : ax_K} (hx : p.tables.exec = Jvm.exec) (hb : c.code = q.2.1) (hr : meth.sig.returnType = q.2.2) (hml : c.maxLocals = nl) (hts : ∀ w ∈ (Cond.code q.1 q.2.1 nl q.2.2 :: TT), w.before args s = true) (hown : s.vm.findClass q.1.cls = some m.cls) (hlocks : meth.locks = false) (hin : meth.name = q.1.name)
    (hN : ∀ q ∈ NL, va_Nw (.methodLinkNest q.1 q.2.1 q.2.2.1 q.2.2.2) s) (hA : ∀ q, s.heap.size ≤ q → A q) (hK : va_K D cl (ax_ty cI cZ) s) :
    ∀ (i : Nat) (L : ax_L) (S : List Value) (h : ax_H) (ce sl : Nat),
      ax_F M X y C K (ax_W p l e (ax_rm (d + 1) mc ms) s m args below meth c D cl cI cZ A nl cd h0 ad0 (MQ below (ax_Q D cl cI cZ A mc h0 ad0 K q.2.2) args s mc ms A)) i L S h ce sl →
      ax_W p l e (ax_rm (d + 1) mc ms) s m args below meth c D cl cI cZ A nl cd h0 ad0 (MQ below (ax_Q D cl cI cZ A mc h0 ad0 K q.2.2) args s mc ms A) i L S h ce sl := by
  intro i L S h ce sl hF ad H locs ls hI
  have hI0 := hI
  obtain ⟨hL, hl, hP, hD, hS, hag, hz, hlen⟩ := hI
  have hTT : ∀ w ∈ TT, w.before args s = true := fun w hw => hts w (List.mem_cons_of_mem _ hw)
  obtain ⟨G1, G2, G3, G4⟩ := id G
  have hok := (G3 y q _ hn hy).2.2.2.2.2.2.2
  have hlsz : ls.size = nl := hl.1
  unfold ax_F at hF
  rw [hy] at hF
  dsimp only at hF hok
  rcases he : ax_nth cd i with _ | ⟨pc, ins, a, b, v, ts⟩
  · rw [he] at hF
    exact False.elim hF
  rw [he] at hF
  dsimp only at hF
  have ok := hok i _ he
  rw [ax_pc_eq he]
  have nx : ∀ {j pc' : Nat} {L' : ax_L} {S' : List Value} {h' : ax_H} {ce' sl' : Nat} {ad' : Nat → Nat} {H' : Heap} {locs' : List Loc} {ls' : Array Slot}, ax_pc cd j = pc' → ax_W p l e (ax_rm (d + 1) mc ms) s m args below meth c D cl cI cZ A nl cd h0 ad0 (MQ below (ax_Q D cl cI cZ A mc h0 ad0 K q.2.2) args s mc ms A) j L' S' h' ce' sl' → ax_Inv D cl cI cZ A s.heap nl h0 ad0 L' h' ce' ad' H' locs' ls' → W p l e (ax_rm (d + 1) mc ms) s m args below meth c H' locs' ce' sl' (MQ below (ax_Q D cl cI cZ A mc h0 ad0 K q.2.2) args s mc ms A) (F0 m pc' ls' (S'.map (ax_v ad'))) := by
    intro j pc' L' S' h' ce' sl' ad' H' locs' ls' e1 hr hI
    subst e1
    exact hr _ _ _ _ hI
  have st : ∀ {w : Value} {a' : Nat} {ls' : Array Slot}, a' < nl → lv_has ls' nl ((a', ax_v ad w) :: (ax_lv ad L).filter (fun q => !(q.1 == a') && !(q.1 + 1 == a' && q.2.category == 2))) → ax_Inv D cl cI cZ A s.heap nl h0 ad0 (L.set a' (some w)) h ce ad H locs ls' := by
    intro w a' ls' h1 h2
    exact ⟨by rw [List.length_set]; exact hL, ax_lv_set hL h1 h2, hP, hD, hS, hag, hz, hlen⟩
  cases ins with
  | iconst k =>
    obtain ⟨o1, o2, o3⟩ := ok
    exact lv_iconst hx hb o1 o3 (nx o2 hF hI0)
  | bipush k =>
    obtain ⟨o1, o2, o3⟩ := ok
    exact lv_bipush hx hb o1 o3 (nx o2 hF hI0)
  | sipush k =>
    obtain ⟨o1, o2, o3⟩ := ok
    exact lv_sipush hx hb o1 o3 (nx o2 hF hI0)
  | ldc k =>
    obtain ⟨o1, o2, o3⟩ := ok
    exact lv_ldc hx hb hown (hTT _ o3) o1 (nx o2 hF hI0)
  | aconst_null =>
    obtain ⟨o1, o2⟩ := ok
    exact lv_null hx hb o1 (nx o2 hF hI0)
  | iload_n k =>
    obtain ⟨o1, o2, o3⟩ := ok
    obtain ⟨x, h1, h2⟩ := ax_ldi_inv hF
    exact lv_iload_n hx hb o1 o3 (ax_lv_at hl h1 rfl) (nx o2 h2 hI0)
  | iload k =>
    obtain ⟨o1, o2, o3⟩ := ok
    subst o3
    obtain ⟨x, h1, h2⟩ := ax_ldi_inv hF
    exact lv_iload hx hb o1 (ax_lv_at hl h1 rfl) (nx o2 h2 hI0)
  | aload_n k =>
    obtain ⟨o1, o2, o3⟩ := ok
    rcases ax_lda_inv hF with ⟨x, h1, h2⟩ | ⟨h1, h2⟩
    · exact lv_aload_n hx hb o1 o3 (ax_lv_at hl h1 rfl) (nx o2 h2 hI0)
    · exact lv_aload_nN hx hb o1 o3 (ax_lv_at hl h1 rfl) (nx o2 h2 hI0)
  | aload k =>
    obtain ⟨o1, o2, o3⟩ := ok
    subst o3
    rcases ax_lda_inv hF with ⟨x, h1, h2⟩ | ⟨h1, h2⟩
    · exact lv_aload hx hb o1 (ax_lv_at hl h1 rfl) (nx o2 h2 hI0)
    · exact lv_aloadN hx hb o1 (ax_lv_at hl h1 rfl) (nx o2 h2 hI0)
  | istore_n k =>
    obtain ⟨o1, o2, o3, o4⟩ := ok
    obtain ⟨x, r, rfl, h2⟩ := ax_sti_inv hF
    exact lv_istore_n hx hb o1 o3 hl o4 rfl (fun ls' hl' => nx o2 h2 (st o4 hl'))
  | istore k =>
    obtain ⟨o1, o2, o3, o4⟩ := ok
    subst o3
    obtain ⟨x, r, rfl, h2⟩ := ax_sti_inv hF
    exact lv_istore hx hb o1 hl o4 rfl (fun ls' hl' => nx o2 h2 (st o4 hl'))
  | astore_n k =>
    obtain ⟨o1, o2, o3, o4⟩ := ok
    rcases ax_sta_inv hF with ⟨x, r, rfl, h2⟩ | ⟨r, rfl, h2⟩
    · exact lv_astore_n hx hb o1 o3 hl o4 rfl (fun ls' hl' => nx o2 h2 (st (w := .ref x) o4 hl'))
    · exact lv_astore_nN hx hb o1 o3 hl o4 rfl (fun ls' hl' => nx o2 h2 (st (w := .null) o4 hl'))
  | astore k =>
    obtain ⟨o1, o2, o3, o4⟩ := ok
    subst o3
    rcases ax_sta_inv hF with ⟨x, r, rfl, h2⟩ | ⟨r, rfl, h2⟩
    · exact lv_astore hx hb o1 hl o4 rfl (fun ls' hl' => nx o2 h2 (st (w := .ref x) o4 hl'))
    · exact lv_astoreN hx hb o1 hl o4 rfl (fun ls' hl' => nx o2 h2 (st (w := .null) o4 hl'))
  | iinc k z =>
    obtain ⟨o1, o2, o3, o4, o5⟩ := ok
    subst o3
    obtain ⟨x, h1, h2⟩ := ax_inc_inv hF
    obtain ⟨j, hj⟩ := List.getElem?_of_mem (ax_lv_mem (ad := ad) h1 rfl)
    exact lv_iinc (v := x + v) hx hb o1 hl hj (by rw [o5]) o4 rfl (fun ls' hl' => nx o2 h2 (st (w := .int (x + v)) o4 hl'))
  | iadd =>
    obtain ⟨o1, o2⟩ := ok
    obtain ⟨x, y, r, rfl, h2⟩ := ax_bin_inv hF
    exact lv_iadd hx hb o1 (nx o2 h2 hI0)
  | isub =>
    obtain ⟨o1, o2⟩ := ok
    obtain ⟨x, y, r, rfl, h2⟩ := ax_bin_inv hF
    exact lv_isub hx hb o1 (nx o2 h2 hI0)
  | imul =>
    obtain ⟨o1, o2⟩ := ok
    obtain ⟨x, y, r, rfl, h2⟩ := ax_bin_inv hF
    exact lv_imul hx hb o1 (nx o2 h2 hI0)
  | iand =>
    obtain ⟨o1, o2⟩ := ok
    obtain ⟨x, y, r, rfl, h2⟩ := ax_bin_inv hF
    exact lv_iand hx hb o1 (nx o2 h2 hI0)
  | ior =>
    obtain ⟨o1, o2⟩ := ok
    obtain ⟨x, y, r, rfl, h2⟩ := ax_bin_inv hF
    exact lv_ior hx hb o1 (nx o2 h2 hI0)
  | ixor =>
    obtain ⟨o1, o2⟩ := ok
    obtain ⟨x, y, r, rfl, h2⟩ := ax_bin_inv hF
    exact lv_ixor hx hb o1 (nx o2 h2 hI0)
  | ishl =>
    obtain ⟨o1, o2⟩ := ok
    obtain ⟨x, y, r, rfl, h2⟩ := ax_bin_inv hF
    exact lv_ishl hx hb o1 (nx o2 h2 hI0)
  | ishr =>
    obtain ⟨o1, o2⟩ := ok
    obtain ⟨x, y, r, rfl, h2⟩ := ax_bin_inv hF
    exact lv_ishr hx hb o1 (nx o2 h2 hI0)
  | dup =>
    obtain ⟨o1, o2⟩ := ok
    rcases S with _ | ⟨v1, r⟩
    · exact False.elim hF
    obtain ⟨h1, h2⟩ := ax_if_t hF
    exact lv_dup hx hb o1 ((ax_v_cat ad v1).trans (Nat.eq_of_beq_eq_true h1)) (nx o2 h2 hI0)
  | pop =>
    obtain ⟨o1, o2⟩ := ok
    rcases S with _ | ⟨v1, r⟩
    · exact False.elim hF
    obtain ⟨h1, h2⟩ := ax_if_t hF
    exact lv_pop hx hb o1 ((ax_v_cat ad v1).trans (Nat.eq_of_beq_eq_true h1)) (nx o2 h2 hI0)
  | dup2 =>
    obtain ⟨o1, o2⟩ := ok
    rcases S with _ | ⟨v1, _ | ⟨v2, r⟩⟩
    · exact False.elim hF
    · exact False.elim hF
    obtain ⟨h1, h2⟩ := ax_if_t hF
    rw [Bool.and_eq_true] at h1
    exact lv_dup2_11 hx hb o1 ((ax_v_cat ad v1).trans (Nat.eq_of_beq_eq_true h1.1)) ((ax_v_cat ad v2).trans (Nat.eq_of_beq_eq_true h1.2)) (nx o2 h2 hI0)
  | dup_x1 =>
    obtain ⟨o1, o2⟩ := ok
    rcases S with _ | ⟨v1, _ | ⟨v2, r⟩⟩
    · exact False.elim hF
    · exact False.elim hF
    obtain ⟨h1, h2⟩ := ax_if_t hF
    rw [Bool.and_eq_true] at h1
    exact lv_dup_x1 hx hb o1 ((ax_v_cat ad v1).trans (Nat.eq_of_beq_eq_true h1.1)) ((ax_v_cat ad v2).trans (Nat.eq_of_beq_eq_true h1.2)) (nx o2 h2 hI0)
  | getfield k =>
    obtain ⟨o1, o2, qc, o3, o4, o5⟩ := ok
    obtain ⟨u, r, fs, x, rfl, h1, h2, h3⟩ := ax_getf_inv hF
    obtain ⟨C', T', N'⟩ := qc
    refine va_get (D := D) (ci := a) (v := ax_v ad x) (C := C') (T := T') (N := N') hx hb hTT (G2 a _ o3).1 hown hK hP u (ax_w_get h1) o3 b o4 (hTT _ o5) (fun _ h9 => h9) ?_ o1 (nx o2 h3 hI0)
    rw [List.getElem?_map, ← ax_nth_eq, h2]
    rfl
  | putfield k =>
    obtain ⟨o1, o2, qc, o3, o4, o5, ⟨ty, t1, t2⟩, o6⟩ := ok
    obtain ⟨w, u, r, fs, rfl, h1, h2, h3, h4⟩ := ax_putf_inv hF
    obtain ⟨C', T', N'⟩ := qc
    obtain ⟨gw, ⟨ty0, gt⟩, gn⟩ := G2 a _ o3
    have hfit : narrow ty (ax_v ad w) = ax_v ad w ∧ fits ty (ax_v ad w) = true := by
      rcases h3 with ⟨x, rfl, h3 | ⟨h3, h5⟩⟩ | ⟨h3, h5⟩
      · rcases t2 with ⟨t3, rfl⟩ | ⟨t3, -⟩ | ⟨t3, -⟩
        · exact ⟨rfl, rfl⟩
        · rw [h3] at t3; exact absurd t3 (by decide)
        · rw [h3] at t3; exact absurd t3 (by decide)
      · rcases t2 with ⟨t3, rfl⟩ | ⟨t3, rfl⟩ | ⟨t3, -⟩
        · exact ⟨rfl, rfl⟩
        · rcases h5 with rfl | rfl <;> exact ⟨rfl, rfl⟩
        · rw [h3] at t3; exact absurd t3 (by decide)
      · rcases t2 with ⟨t3, -⟩ | ⟨t3, -⟩ | ⟨t3, ⟨t, rfl⟩ | ⟨t, rfl⟩⟩
        · rw [h3] at t3; exact absurd t3 (by decide)
        · rw [h3] at t3; exact absurd t3 (by decide)
        · rcases h5 with rfl | ⟨g, rfl⟩ <;> exact ⟨rfl, rfl⟩
        · rcases h5 with rfl | ⟨g, rfl⟩ <;> exact ⟨rfl, rfl⟩
    have hset : (ax_w cI cZ ad h).set u (ad u, .inr (a, (fs.map (ax_v ad)).set b (ax_v ad w))) = ax_w cI cZ ad (h.set u (.inr (a, fs.set b w))) := by
      rw [← ax_w_set]
      show _ = (ax_w cI cZ ad h).set u (ad u, .inr (a, (fs.set b w).map (ax_v ad)))
      rw [List.map_set]
    have hgo : ∀ (H1 : Heap) (locs1 : List Loc), va_P D cl ((ax_w cI cZ ad h).set u (ad u, .inr (a, (fs.map (ax_v ad)).set b (ax_v ad w)))) H1 → va_D A ((ax_w cI cZ ad h).set u (ad u, .inr (a, (fs.map (ax_v ad)).set b (ax_v ad w)))) → va_S A s.heap H1 locs1 → W p l e (ax_rm (d + 1) mc ms) s m args below meth c H1 locs1 ce sl (MQ below (ax_Q D cl cI cZ A mc h0 ad0 K q.2.2) args s mc ms A) (F0 m (pc + 3) ls (r.map (ax_v ad))) := by
      intro H1 locs1 hP1 hD1 hS1
      rw [hset] at hP1 hD1
      exact nx o2 h4 ⟨hL, hl, hP1, hD1, hS1, hag, hz, by rw [List.length_set]; exact hlen⟩
    rcases o6 with o6 | ⟨o6, o7, o8⟩
    · exact va_put (D := D) (ci := a) (v := ax_v ad w) (ty := ty) (C := C') (T := T') (N := N') hx hb hTT gw ty0 gt gn hown hK hP hD hS u (ax_w_get h1) o3 b o4 (hTT _ o5) (fun _ h9 => h9) o6 t1 hfit.1 hfit.2 (by rw [List.length_map]; exact h2) o1 hgo
    · exact va_putF (D := D) (ci := a) (v := ax_v ad w) (ty := ty) (C := C') (T := T') (N := N') hx hb hTT gw ty0 gt gn hown hK hP hD hS u (ax_w_get h1) o3 b o4 (hTT _ o5) (fun _ h9 => h9) o6 (hin.trans o7) o8 t1 hfit.1 hfit.2 (by rw [List.length_map]; exact h2) o1 hgo
  | iaload =>
    obtain ⟨o1, o2⟩ := ok
    obtain ⟨x, u, r, N, f, rfl, h1, h2, h3, h4⟩ := ax_ald_inv hF
    have hv : vp_in (nI x) N := vp_in_iff.mpr (by rw [nI_toInt (by omega)]; omega)
    refine va_iald hx hb hK hP u 0 (ax_w_get h1) rfl hv o1 ?_
    rw [nI_clamp (by omega)]
    exact nx o2 h4 hI0
  | baload =>
    obtain ⟨o1, o2⟩ := ok
    obtain ⟨x, u, r, N, f, rfl, h1, h2, h3, h4⟩ := ax_ald_inv hF
    have hv : vp_in (nI x) N := vp_in_iff.mpr (by rw [nI_toInt (by omega)]; omega)
    refine va_zald hx hb hK hP u 1 (ax_w_get h1) rfl hv o1 ?_
    rw [nI_clamp (by omega)]
    exact nx o2 h4 hI0
  | iastore =>
    obtain ⟨o1, o2⟩ := ok
    obtain ⟨w, x, u, r, N, f, rfl, h1, h2, h3, h4⟩ := ax_ast_inv hF
    have hv : vp_in (nI x) N := vp_in_iff.mpr (by rw [nI_toInt (by omega)]; omega)
    refine va_iast hx hb hK hP hD hS u 0 (ax_w_get h1) rfl hv o1 (fun H1 locs1 hP1 hD1 hS1 => ?_)
    rw [nI_clamp (by omega)] at hP1 hD1
    have hset : (ax_w cI cZ ad h).set u (ad u, .inl (cI, N, .inl (upd f x w))) = ax_w cI cZ ad (h.set u (.inl (false, N, upd f x w))) := by
      rw [← ax_w_set]
      rfl
    have hP1 : va_P D cl ((ax_w cI cZ ad h).set u (ad u, .inl (cI, N, .inl (upd f x w)))) H1 := hP1
    have hD1 : va_D A ((ax_w cI cZ ad h).set u (ad u, .inl (cI, N, .inl (upd f x w)))) := hD1
    rw [hset] at hP1 hD1
    exact nx o2 h4 ⟨hL, hl, hP1, hD1, hS1, hag, hz, by rw [List.length_set]; exact hlen⟩
  | bastore =>
    obtain ⟨o1, o2⟩ := ok
    obtain ⟨w, x, u, r, N, f, rfl, h1, h2, h3, h4⟩ := ax_ast_inv hF
    have hv : vp_in (nI x) N := vp_in_iff.mpr (by rw [nI_toInt (by omega)]; omega)
    refine va_zast hx hb hK hP hD hS u 1 (ax_w_get h1) rfl hv o1 (fun H1 locs1 hP1 hD1 hS1 => ?_)
    rw [nI_clamp (by omega)] at hP1 hD1
    have hset : (ax_w cI cZ ad h).set u (ad u, .inl (cZ, N, .inl (upd f x (w &&& 1)))) = ax_w cI cZ ad (h.set u (.inl (true, N, upd f x (w &&& 1)))) := by
      rw [← ax_w_set]
      rfl
    have hP1 : va_P D cl ((ax_w cI cZ ad h).set u (ad u, .inl (cZ, N, .inl (upd f x (w &&& 1))))) H1 := hP1
    have hD1 : va_D A ((ax_w cI cZ ad h).set u (ad u, .inl (cZ, N, .inl (upd f x (w &&& 1))))) := hD1
    rw [hset] at hP1 hD1
    exact nx o2 h4 ⟨hL, hl, hP1, hD1, hS1, hag, hz, by rw [List.length_set]; exact hlen⟩
  | arraylength =>
    obtain ⟨o1, o2⟩ := ok
    obtain ⟨u, r, z, N, f, rfl, h1, h4⟩ := ax_alen_inv hF
    cases z
    · exact va_alen hx hb hK hP u 0 (ax_w_get h1) (ty := .int) rfl rfl o1 (nx o2 h4 hI0)
    · exact va_alen hx hb hK hP u 1 (ax_w_get h1) (ty := .boolean) rfl rfl o1 (nx o2 h4 hI0)
  | if_icmp cnd o =>
    obtain ⟨o1, o2, o3⟩ := ok
    rcases S with _ | ⟨v1, _ | ⟨v2, r⟩⟩
    · exact False.elim hF
    · cases v1 <;> exact False.elim hF
    cases v1 with
    | int y =>
      cases v2 with
      | int x =>
        obtain ⟨k1, k2⟩ := hF
        cases cnd with
        | eq => exact lv_icmp_eq hx hb o1 o3 (fun q => nx rfl (k1 q) hI0) (fun q => nx o2 (k2 q) hI0)
        | ne => exact lv_icmp_ne hx hb o1 o3 (fun q => nx rfl (k1 q) hI0) (fun q => nx o2 (k2 (fun z => z q)) hI0)
        | lt => exact lv_icmp_lt hx hb o1 o3 (fun q => nx rfl (k1 q) hI0) (fun q => nx o2 (k2 q) hI0)
        | ge => exact lv_icmp_ge hx hb o1 o3 (fun q => nx rfl (k1 q) hI0) (fun q => nx o2 (k2 q) hI0)
        | gt => exact lv_icmp_gt hx hb o1 o3 (fun q => nx rfl (k1 q) hI0) (fun q => nx o2 (k2 q) hI0)
        | le => exact lv_icmp_le hx hb o1 o3 (fun q => nx rfl (k1 q) hI0) (fun q => nx o2 (k2 q) hI0)
      | _ => exact False.elim hF
    | _ => exact False.elim hF
  | ifCond cnd o =>
    obtain ⟨o1, o2, o3⟩ := ok
    rcases S with _ | ⟨v1, r⟩
    · exact False.elim hF
    cases v1 with
    | int x =>
      obtain ⟨k1, k2⟩ := hF
      cases cnd with
      | eq => exact lv_if_eq hx hb o1 o3 (fun q => nx rfl (k1 q) hI0) (fun q => nx o2 (k2 q) hI0)
      | ne => exact lv_if_ne hx hb o1 o3 (fun q => nx rfl (k1 q) hI0) (fun q => nx o2 (k2 (fun z => z q)) hI0)
      | lt => exact lv_if_lt hx hb o1 o3 (fun q => nx rfl (k1 q) hI0) (fun q => nx o2 (k2 q) hI0)
      | ge => exact lv_if_ge hx hb o1 o3 (fun q => nx rfl (k1 q) hI0) (fun q => nx o2 (k2 q) hI0)
      | gt => exact lv_if_gt hx hb o1 o3 (fun q => nx rfl (k1 q) hI0) (fun q => nx o2 (k2 q) hI0)
      | le => exact lv_if_le hx hb o1 o3 (fun q => nx rfl (k1 q) hI0) (fun q => nx o2 (k2 q) hI0)
    | _ => exact False.elim hF
  | goto o =>
    obtain ⟨o1, o3⟩ := ok
    exact lv_goto hx hb o1 o3 (nx rfl hF hI0)
  | tableswitch df lo hi os =>
    obtain ⟨⟨k, o1⟩, o2, o3, o4, o5⟩ := ok
    rcases S with _ | ⟨v1, r⟩
    · exact False.elim hF
    cases v1 with
    | int x =>
      obtain ⟨k1, k2⟩ := hF
      by_cases hx1 : x.toInt < lo ∨ hi < x.toInt
      · exact lv_tableOut hx hb o1 hx1 o4 (nx rfl (k2 (by rw [o2]; omega)) hI0)
      · have h1 : ¬ x.toInt < lo := fun z => hx1 (Or.inl z)
        have h2 : ¬ hi < x.toInt := fun z => hx1 (Or.inr z)
        have h3 : (x.toInt - lo).toNat < ts.length := by omega
        have h4 : ax_nth ts (x.toInt - lo).toNat = some ts[(x.toInt - lo).toNat] := by rw [ax_nth_eq]; exact List.getElem?_eq_getElem h3
        obtain ⟨of, o6, o7⟩ := o5 _ _ h4
        exact lv_tableIn hx hb o1 h1 h2 o6 o7 (nx rfl (k1 _ _ h4 (by rw [o2]; omega)) hI0)
    | _ => exact False.elim hF
  | new k =>
    obtain ⟨o1, o2, qc, fs, o3, o4, o5, o6, o7, o8, o9, o10⟩ := ok
    obtain ⟨C', T', N'⟩ := qc
    dsimp only at o5 o6 o7 o8 o9
    subst o5
    rw [o4] at hF
    obtain ⟨h1, h2⟩ := ax_if_t hF
    simp only [Bool.and_eq_true] at h1
    obtain ⟨g1, g2, g3, g4⟩ := h1
    unfold ax_okf at g1
    rw [Bool.and_eq_true] at g1
    obtain ⟨gw, ⟨ty0, gt⟩, gn⟩ := G2 a _ o3
    have hfs : ∀ ad' : Nat → Nat, fs.map (ax_v ad') = fs := by
      intro ad'
      have := ax_vs_eq (ad := id) (ad' := ad') (n := 0) (S := fs) (fun k hk => absurd hk (Nat.not_lt_zero k)) o10
      rw [this]
      have h9 : ∀ v : Value, ax_v id v = v := fun v => by cases v <;> rfl
      rw [show (ax_v id) = id from funext h9, List.map_id]
    refine va_new (D := D) (ci := a) (fs := fs) (C := C') (T := T') (N := b) hx hb hTT gw ty0 gt hown (hTT _ o6) (hTT _ o7) (hTT _ o8) hK hP hD hS hA o3 (o9 ty0 gt) (Nat.le_of_ble_eq_true g3) (Nat.le_of_ble_eq_true g4) o1 (fun qa H1 hP1 hD1 hS1 => ?_)
    have hpush : ax_w cI cZ (ax_up ad h.length qa) (h ++ [.inr (a, fs)]) = ax_w cI cZ ad h ++ [(qa, .inr (a, fs))] := by
      rw [ax_w_push (q := qa) (c := .inr (a, fs)) g2 (by show Sum.inr (a, fs.map _) = Sum.inr (a, fs.map _); rw [hfs, hfs])]
      show _ ++ [(qa, Sum.inr (a, fs.map (ax_v ad)))] = _
      rw [hfs]
    have hlt : ∀ k, k < h.length → ax_up ad h.length qa k = ad k := fun k hk => ax_up_lt hk
    have hres := nx (ad' := ax_up ad h.length qa) (H' := H1) (locs' := locs) (ls' := ls) o2 h2 ⟨hL, ax_lv_ad hlt g1.1 hl, by rw [hpush]; exact hP1, by rw [hpush]; exact hD1, hS1, fun k hk => by rw [hlt k (Nat.lt_of_lt_of_le hk hlen)]; exact hag k hk, fun hc => absurd hc (Nat.succ_ne_zero _), by rw [List.length_append]; exact Nat.le_trans hlen (Nat.le_add_right _ _)⟩
    rw [List.map_cons, ax_vs_eq hlt g1.2] at hres
    have hq : ax_v (ax_up ad h.length qa) (.ref h.length) = .ref qa := congrArg Value.ref ax_up_self
    rw [hq] at hres
    exact hres
  | newarray t =>
    obtain ⟨o1, o2, o3, o4⟩ := ok
    rcases S with _ | ⟨v1, r⟩
    · exact False.elim hF
    cases v1 with
    | int x =>
      obtain ⟨N, ⟨rfl, hN2⟩, hF⟩ := hF
      obtain ⟨h1, h2⟩ := ax_if_t hF
      simp only [Bool.and_eq_true] at h1
      obtain ⟨g1, g2, g3, g4⟩ := h1
      unfold ax_okf at g1
      rw [Bool.and_eq_true] at g1
      have hneg : ¬ nI N < 0 := nI_pos (by omega)
      have hcl : (nI N).toNatClampNeg = N := nI_clamp (by omega)
      have key : ∀ (cA : ClassId) (z : Bool) (ty : FieldType), newarray.typeOf t = ty → Nat.beq a 1 = z → cond z cZ cI = cA → (∀ cA' : ClassId, s.vm.findClass ("[" ++ ty.toString) = some cA' → cA' = cA) → defaultValue ty = .int 0 → componentBytes ty ≤ 4 →
          W p l e (ax_rm (d + 1) mc ms) s m args below meth c H locs ce sl (MQ below (ax_Q D cl cI cZ A mc h0 ad0 K q.2.2) args s mc ms A) (F0 m pc ls ((Value.int (nI N) :: r).map (ax_v ad))) := by
        intro cA z ty e1 e2 e3 e4 e5 e6
        refine va_newa (D := D) (ty := ty) (a0 := (N, .inl (fun _ => 0))) hx hb (hTT _ o4) e1 hK hP hD hS hA (fun cA => ?_) hneg hcl ?_ (Nat.le_of_ble_eq_true g3) (Nat.le_of_ble_eq_true g4) o1 (fun qa cA' H1 hK1 hP1 hD1 hS1 => ?_)
        · rw [e5]; rfl
        · calc N * componentBytes ty ≤ 100000 * 4 := Nat.mul_le_mul hN2 e6
            _ ≤ 536870912 := by decide
        · have hA' : cA' = cA := by
            have h9 := (hK1.2 2 (cA', ty) rfl).2
            have hno : ∀ n, ty ≠ .object n := by
              intro n hn
              rw [hn] at e5
              exact absurd e5 (by simp [defaultValue])
            refine e4 cA' ?_
            revert h9 hno
            cases ty <;> intro h9 hno <;> first | exact h9 | exact absurd rfl (hno _)
          subst hA'
          rw [e2] at h2
          have hpush : ax_w cI cZ (ax_up ad h.length qa) (h ++ [.inl (z, N, fun _ => 0)]) = ax_w cI cZ ad h ++ [(qa, .inl (cA', N, .inl (fun _ => 0)))] := by
            rw [ax_w_push (q := qa) (c := .inl (z, N, fun _ => 0)) g2 rfl]
            show _ ++ [(qa, Sum.inl (cond z cZ cI, N, Sum.inl (fun _ => (0 : Int32))))] = _
            rw [e3]
          have hlt : ∀ k, k < h.length → ax_up ad h.length qa k = ad k := fun k hk => ax_up_lt hk
          have hres := nx (ad' := ax_up ad h.length qa) (H' := H1) (locs' := locs) (ls' := ls) o2 h2 ⟨hL, ax_lv_ad hlt g1.1 hl, by rw [hpush]; exact hP1, by rw [hpush]; exact hD1, hS1, fun k hk => by rw [hlt k (Nat.lt_of_lt_of_le hk hlen)]; exact hag k hk, fun hc => absurd hc (Nat.succ_ne_zero _), by rw [List.length_append]; exact Nat.le_trans hlen (Nat.le_add_right _ _)⟩
          rw [List.map_cons, ax_vs_eq hlt g1.2] at hres
          have hq : ax_v (ax_up ad h.length qa) (.ref h.length) = .ref qa := congrArg Value.ref ax_up_self
          rw [hq] at hres
          exact hres
      rcases o3 with ⟨rfl, rfl⟩ | ⟨rfl, rfl⟩
      · exact key cI false .int rfl rfl rfl (fun cA' h9 => Option.some.inj (h9.symm.trans (hK.2 0 (cI, .int) rfl).2)) rfl (by decide)
      · exact key cZ true .boolean rfl rfl rfl (fun cA' h9 => Option.some.inj (h9.symm.trans (hK.2 1 (cZ, .boolean) rfl).2)) rfl (by decide)
    | _ => exact False.elim hF
  | invokevirtual k =>
    obtain ⟨o1, o2, o3, qN, ci, qc, o4, rfl, o5, o6, o7, o8, o9, o10, o11⟩ := ok
    rcases o3 with rfl | rfl
    · obtain ⟨rM, As, r, K', h1, h2, rfl, h4, h5, h6, h7, h8, h9, h10⟩ := ax_call3_inv hF
      obtain ⟨k1, k2, k3⟩ := o11 rM h1
      rcases hrt : qN.2.2 with _ | ty
      · exact absurd (o7.mpr hrt) (by decide)
      exact ax_calli (qN := qN) (ax_runV G hC ⟨hx, hb, hml, hown, hts⟩ hK hN o4 h1 o5 o6 o8 o9 o10 k2 k3 h9 hP hD h2 h8 h4 hlsz o1 h5 h6) hrt hI0 hA h7 (fun z h' hz' ad' H1 locs1 hI1 => nx o2 (h10 z h' hz') hI1)
    · obtain ⟨rM, As, r, K', h1, h2, rfl, h4, h5, h6, h7, h8, h9, h10⟩ := ax_call4_inv hF
      obtain ⟨k1, k2, k3⟩ := o11 rM h1
      exact ax_callv (qN := qN) (ax_runV G hC ⟨hx, hb, hml, hown, hts⟩ hK hN o4 h1 o5 o6 o8 o9 o10 k2 k3 h9 hP hD h2 h8 h4 hlsz o1 h5 h6) (o7.mp rfl) hI0 hA h7 (fun h' hz' ad' H1 locs1 hI1 => nx o2 (h10 h' hz') hI1)
  | invokestatic k =>
    obtain ⟨o1, o2, o3⟩ := ok
    have hr21 : 21 ≤ 40 * (d + 1) := by omega
    rcases o3 with ⟨rfl, p1, p2, p3, p4⟩ | ⟨rfl, p1, p2, p3, p4⟩ | ⟨hb34, qN, o4, o7, o8, o9, o11⟩
    · obtain ⟨x, y, r, rfl, h4, h6, h7, h5⟩ := ax_call1_inv hF
      have hcs : ((r.map (ax_v ad)).map fun v => v.category).sum ≤ 8 := Nat.le_trans (ax_cat_le ad r) (by omega)
      refine va_mmax (rest := r.map (ax_v ad)) hx hb (hml.trans hlsz.symm) hown (hTT _ p1) (hTT _ p2) (hTT _ p3) (hTT _ p4) (by show 1 ≤ d + 1; omega) (by show _ + 13 ≤ 40 * (d + 1); omega) h6 h7 o1 ?_
      exact nx o2 h5 hI0
    · obtain ⟨x, y, r, rfl, h4, h6, h7, h5⟩ := ax_call2_inv hF
      have hcs : ((r.map (ax_v ad)).map fun v => v.category).sum ≤ 8 := Nat.le_trans (ax_cat_le ad r) (by omega)
      refine va_mmin (rest := r.map (ax_v ad)) hx hb (hml.trans hlsz.symm) hown (hTT _ p1) (hTT _ p2) (hTT _ p3) (hTT _ p4) (by show 1 ≤ d + 1; omega) (by show _ + 13 ≤ 40 * (d + 1); omega) h6 h7 o1 ?_
      exact nx o2 h5 hI0
    · rcases hb34 with rfl | rfl
      · obtain ⟨rM, As, r, K', h1, h2, rfl, h4, h5, h6, h7, h8, h9, h10⟩ := ax_call3_inv hF
        rcases hrt : qN.2.2 with _ | ty
        · exact absurd (o7.mpr hrt) (by decide)
        exact ax_calli (qN := qN) (ax_runS G hC ⟨hx, hb, hml, hown, hts⟩ hK hN o4 h1 o8 o9 (o11 rM h1) h9 hP hD h2 h4 hlsz o1 h5 h6) hrt hI0 hA h7 (fun z h' hz' ad' H1 locs1 hI1 => nx o2 (h10 z h' hz') hI1)
      · obtain ⟨rM, As, r, K', h1, h2, rfl, h4, h5, h6, h7, h8, h9, h10⟩ := ax_call4_inv hF
        exact ax_callv (qN := qN) (ax_runS G hC ⟨hx, hb, hml, hown, hts⟩ hK hN o4 h1 o8 o9 (o11 rM h1) h9 hP hD h2 h4 hlsz o1 h5 h6) (o7.mp rfl) hI0 hA h7 (fun h' hz' ad' H1 locs1 hI1 => nx o2 (h10 h' hz') hI1)
  | invokespecial k =>
    obtain ⟨o1, o2, o3⟩ := ok
    rcases o3 with ⟨rfl, p1, p2, p3⟩ | ⟨rfl, qN, ci, o4, rfl, o5, o8, o9, o10, o11⟩
    · obtain ⟨u, r, rfl, h4, h5⟩ := ax_call0_inv hF
      have hcs : ((r.map (ax_v ad)).map fun v => v.category).sum ≤ 8 := Nat.le_trans (ax_cat_le ad r) (by omega)
      refine W.objInit hx hb hown (hTT _ p1) (hTT _ p2) (hTT _ p3) rfl (by rw [hml]; exact hlsz) rfl o1 ?_ ?_ ?_
      · show 1 ≤ d + 1
        omega
      · show 2 * 0 + ((r.map (ax_v ad)).map fun v => v.category).sum + 12 ≤ 40 * (d + 1)
        omega
      · exact nx o2 h5 hI0
    · obtain ⟨rM, As, r, K', h1, h2, rfl, h4, h5, h6, h7, h8, h9, h10⟩ := ax_call4_inv hF
      obtain ⟨k1, k2, k3⟩ := o11 rM h1
      exact ax_callv (qN := qN) (ax_runI G hC ⟨hx, hb, hml, hown, hts⟩ hK hN o4 h1 o5 o8 o9 o10 k2 k3 h9 hP hD h2 h8 h4 hlsz o1 h5 h6) o5 hI0 hA h7 (fun h' hz' ad' H1 locs1 hI1 => nx o2 (h10 h' hz') hI1)
  | ireturn =>
    obtain ⟨o1, o2⟩ := ok
    rcases S with _ | ⟨v1, _ | ⟨v2, r⟩⟩
    · exact False.elim hF
    · cases v1 with
      | int x =>
        obtain ⟨h1, h2, h3⟩ := ax_if_t hF
        rw [Bool.and_eq_true] at h1
        refine W.widen (k := mc) (n := ms) (Nat.le_of_ble_eq_true h1.1) (Nat.le_of_ble_eq_true h1.2) ?_
        have hend : ∀ t : State, t.heap = H → s.WarmedH t.vm → va_Qi (fun (r : Int32) (u : ax_H × (Nat → Nat)) => K (some (.int r)) u.1) (ax_Bw D cl cI cZ A mc h0 ad0) A args s (.returned (some (.int x))) t := fun t ht hW => ⟨⟨x, (h, ad), rfl, h3, by rw [ht]; exact hP, va_K.moved hW.alike hK, hD, hag, fun hm => hz (by have := Nat.le_of_ble_eq_true h1.1; omega), hlen⟩, hS.F ht⟩
        rcases o2 with ⟨o2, o3⟩ | ⟨o2, o3⟩
        · rw [o3] at hr ⊢
          exact W.iret (v := x) hx hb hr hend hS.2.2 o1
        · rw [o3] at hr ⊢
          have hnar : narrow .boolean (.int x) = .int x := by
            rcases h2 with h2 | rfl | rfl
            · exact absurd (h2.symm.trans o2) (by decide)
            · rfl
            · rfl
          exact W.zret (v := x) hx hb hr hnar hend hS.2.2 o1
      | _ => exact False.elim hF
    · cases v1 <;> exact False.elim hF
  | return_ =>
    obtain ⟨o1, o3⟩ := ok
    rcases S with _ | ⟨v1, r⟩
    · obtain ⟨h1, h3⟩ := ax_if_t hF
      rw [Bool.and_eq_true] at h1
      refine W.widen (k := mc) (n := ms) (Nat.le_of_ble_eq_true h1.1) (Nat.le_of_ble_eq_true h1.2) ?_
      rw [o3] at hr ⊢
      exact W.vret hx hb hr (fun t ht hW => ⟨⟨(h, ad), rfl, h3, by rw [ht]; exact hP, va_K.moved hW.alike hK, hD, hag, fun hm => hz (by have := Nat.le_of_ble_eq_true h1.1; omega), hlen⟩, hS.F ht⟩) hS.2.2 o1
    · exact False.elim hF
  | _ => exact False.elim hF
end AXT
theorem ax_sl_len : ∀ (vs : List Value), (∀ v ∈ vs, v.category = 1) → (lg_sl vs).length = vs.length
  | [], _ => rfl
  | v :: vs, h => by
    have h1 := h v List.mem_cons_self
    have ih := ax_sl_len vs (fun u hu => h u (List.mem_cons_of_mem _ hu))
    unfold lg_sl at ih ⊢
    simp [h1, ih]
set_option maxHeartbeats 4000000 in
set_option maxRecDepth 100000 in
/-- every walk of the small machine is a contract of the machine -/
theorem ax_sound {l : Launch} {D : va_G} {cl : List vw_C} {TT : List Cond} {NL : List (String × Nat × MethodName × String)} {NM : List ax_N} {M : List ax_M} {X : List (List Value)} {cI cZ : ClassId} (G : ax_Good M X NM cl TT NL) :
    ∀ (d y : Nat) (As : List Value) (h : ax_H) (K : ax_K), ax_D M X d y As h K → ax_Met l D cl TT NL NM M cI cZ d y As h K := by
  intro d
  induction d with
  | zero => intro y As h K hc; exact False.elim hc
  | succ d ih =>
    intro y As h K hc q r hn hm ad sz
    obtain ⟨cd, nl, n, mc, ms⟩ := r
    have hB : ax_B M X (ax_D M X d) y As h K := hc
    unfold ax_B at hB
    rw [hm] at hB
    obtain ⟨h1, hX⟩ := ax_if_t hB
    rw [Bool.and_eq_true] at h1
    have hAl : As.length = n := Nat.eq_of_beq_eq_true h1.1
    have hAc : ∀ v ∈ As, v.category = 1 := fun v hv => Nat.eq_of_beq_eq_true (List.all_eq_true.mp h1.2 v hv)
    obtain ⟨g1, g2, g3, g4, g5, g6, g7, g8⟩ := G.2.2.1 y q _ hn hm
    dsimp only at g2 g5 g6 g7 g8 ⊢
    refine Met.ofW (cc := q.2.1) (maxL := nl) (ret := q.2.2) g1 rfl ?_
    intro p e s m args below meth c s₁ B hml hv
    obtain ⟨rfl, hsz, hP, hK, hD0, hN⟩ := hv
    have hx := B.exec
    have hb := B.bytes
    have hr := B.returns
    have hts := atoms_spec (ws := Cond.code q.1 q.2.1 nl q.2.2 :: TT) B.pre
    have hown : s.vm.findClass q.1.cls = some m.cls := findClass_of_methodNamed B.named
    have hlocks := B.notSynchronized
    have hin : meth.name = q.1.name := (name_of_methodNamed B.named B.method).1
    subst hsz
    have hD := hD0.self (sz := s.heap.size)
    have hA : ∀ w : Nat, s.heap.size ≤ w → va_A (ax_w cI cZ ad h) s.heap.size w := fun w hw => Or.inr hw
    have hS : va_S (va_A (ax_w cI cZ ad h) s.heap.size) s.heap s.heap [] := va_S.rf
    have hlen : (lg_sl (As.map (ax_v ad))).length ≤ nl := by
      rw [ax_sl_len _ (fun v hv => by
        obtain ⟨u, hu, rfl⟩ := List.mem_map.mp hv
        rw [ax_v_cat]; exact hAc u hu), List.length_map, hAl]
      exact g6
    have hl := lv_entry (As.map (ax_v ad)) (n := nl) hlen
    rw [lg_entry_eq]
    generalize (lg_sl (As.map (ax_v ad)) ++ List.replicate (nl - (lg_sl (As.map (ax_v ad))).length) Slot.unset).toArray = ls at hl ⊢
    have hl2 := ax_lv_entry ad As (nl - n) hAc hl
    have hone := ax_one (l := l) (D := D) (cI := cI) (cZ := cZ) (p := p) (e := e) (s := s) (m := m) (args := (As.map (ax_v ad)).toArray) (below := below) (meth := meth) (c := c) (h0 := h) (ad0 := ad) (A := va_A (ax_w cI cZ ad h) s.heap.size) (K := K) G ih hn hm hx hb hr hml hts hown hlocks hin hN hA hK
    have hres := hX _ hone ad s.heap [] ls ⟨by rw [List.length_append, List.length_map, List.length_replicate, hAl]; omega, hl2, hP, hD, hS, fun _ _ => rfl, fun _ => rfl, Nat.le_refl _⟩
    rw [g7] at hres
    exact hres
end
section
/-! The program's tables, printed by wip/tools/gen.py: kinds of objects, instructions, methods, words. -/
def rn_O : String := "RunOrder"
def fd_O : u_T := fun k => match k with
  | 0 => ("RunOrder", "house", "LRunOrder$House;", true)
  | 1 => ("RunOrder", "actions", "LRunOrder$Actions;", true)
  | 2 => ("RunOrder", "rules", "LRunOrder$Rules;", true)
  | _ => ("RunOrder", "latest", "LRunOrder$Run;", true)
def ft_O : Nat → FieldType := fun k => match k with
  | 0 => .object "RunOrder$House"
  | 1 => .object "RunOrder$Actions"
  | 2 => .object "RunOrder$Rules"
  | _ => .object "RunOrder$Run"
theorem ft_O_ok : ∀ k, k < 4 → parseFieldDescriptor (fd_O k).2.2.1 = some (ft_O k) := by decide +kernel
theorem fd_O_nm : ∀ a, a < 4 → ∀ b, b < 4 → a ≠ b → (fd_O a).2.1 ≠ (fd_O b).2.1 := by decide +kernel
def fv_O : List Value := [.null, .null, .null, .null]
def rn_H : String := "RunOrder$House"
def fd_H : u_T := fun k => match k with
  | 0 => ("RunOrder$House", "cores", "I", true)
  | 1 => ("RunOrder$House", "memory", "I", true)
  | 2 => ("RunOrder$House", "slots", "I", false)
  | 3 => ("RunOrder$House", "coresTaken", "I", false)
  | 4 => ("RunOrder$House", "memoryTaken", "I", false)
  | 5 => ("RunOrder$House", "locksTaken", "I", false)
  | 6 => ("RunOrder$House", "slotsTaken", "I", false)
  | 7 => ("RunOrder$House", "mostCores", "I", false)
  | _ => ("RunOrder$House", "mostMemory", "I", false)
def ft_H : Nat → FieldType := fun k => match k with
  | 0 => .int
  | 1 => .int
  | 2 => .int
  | 3 => .int
  | 4 => .int
  | 5 => .int
  | 6 => .int
  | 7 => .int
  | _ => .int
theorem ft_H_ok : ∀ k, k < 9 → parseFieldDescriptor (fd_H k).2.2.1 = some (ft_H k) := by decide +kernel
theorem fd_H_nm : ∀ a, a < 9 → ∀ b, b < 9 → a ≠ b → (fd_H a).2.1 ≠ (fd_H b).2.1 := by decide +kernel
def fv_H : List Value := [.int 0, .int 0, .int 0, .int 0, .int 0, .int 0, .int 0, .int 0, .int 0]
def rn_A : String := "RunOrder$Actions"
def fd_A : u_T := fun k => match k with
  | 0 => ("RunOrder$Actions", "count", "I", false)
  | 1 => ("RunOrder$Actions", "time", "[I", true)
  | 2 => ("RunOrder$Actions", "cores", "[I", true)
  | 3 => ("RunOrder$Actions", "memory", "[I", true)
  | 4 => ("RunOrder$Actions", "locks", "[I", true)
  | 5 => ("RunOrder$Actions", "farTime", "[I", true)
  | 6 => ("RunOrder$Actions", "failing", "[I", true)
  | 7 => ("RunOrder$Actions", "kind", "[I", true)
  | 8 => ("RunOrder$Actions", "test", "[Z", true)
  | 9 => ("RunOrder$Actions", "wished", "[Z", true)
  | 10 => ("RunOrder$Actions", "needed", "[I", true)
  | 11 => ("RunOrder$Actions", "neededDeep", "[I", true)
  | _ => ("RunOrder$Actions", "rests", "[I", true)
def ft_A : Nat → FieldType := fun k => match k with
  | 0 => .int
  | 1 => .array .int
  | 2 => .array .int
  | 3 => .array .int
  | 4 => .array .int
  | 5 => .array .int
  | 6 => .array .int
  | 7 => .array .int
  | 8 => .array .boolean
  | 9 => .array .boolean
  | 10 => .array .int
  | 11 => .array .int
  | _ => .array .int
theorem ft_A_ok : ∀ k, k < 13 → parseFieldDescriptor (fd_A k).2.2.1 = some (ft_A k) := by decide +kernel
theorem fd_A_nm : ∀ a, a < 13 → ∀ b, b < 13 → a ≠ b → (fd_A a).2.1 ≠ (fd_A b).2.1 := by decide +kernel
def fv_A : List Value := [.int 0, .null, .null, .null, .null, .null, .null, .null, .null, .null, .null, .null, .null]
def rn_U : String := "RunOrder$Rules"
def fd_U : u_T := fun k => match k with
  | 0 => ("RunOrder$Rules", "on", "[Z", true)
  | _ => ("RunOrder$Rules", "again", "[I", true)
def ft_U : Nat → FieldType := fun k => match k with
  | 0 => .array .boolean
  | _ => .array .int
theorem ft_U_ok : ∀ k, k < 2 → parseFieldDescriptor (fd_U k).2.2.1 = some (ft_U k) := by decide +kernel
theorem fd_U_nm : ∀ a, a < 2 → ∀ b, b < 2 → a ≠ b → (fd_U a).2.1 ≠ (fd_U b).2.1 := by decide +kernel
def fv_U : List Value := [.null, .null]
def rn_N : String := "RunOrder$Run"
def fd_N : u_T := fun k => match k with
  | 0 => ("RunOrder$Run", "house", "LRunOrder$House;", true)
  | 1 => ("RunOrder$Run", "actions", "LRunOrder$Actions;", true)
  | 2 => ("RunOrder$Run", "rules", "LRunOrder$Rules;", true)
  | 3 => ("RunOrder$Run", "happened", "Z", false)
  | 4 => ("RunOrder$Run", "state", "[I", true)
  | 5 => ("RunOrder$Run", "firstBegan", "[I", true)
  | 6 => ("RunOrder$Run", "lastEnded", "[I", true)
  | 7 => ("RunOrder$Run", "tries", "[I", true)
  | 8 => ("RunOrder$Run", "doneBy", "[I", true)
  | 9 => ("RunOrder$Run", "endHere", "[I", true)
  | 10 => ("RunOrder$Run", "endFar", "[I", true)
  | 11 => ("RunOrder$Run", "begun", "[I", true)
  | _ => ("RunOrder$Run", "begins", "I", false)
def ft_N : Nat → FieldType := fun k => match k with
  | 0 => .object "RunOrder$House"
  | 1 => .object "RunOrder$Actions"
  | 2 => .object "RunOrder$Rules"
  | 3 => .boolean
  | 4 => .array .int
  | 5 => .array .int
  | 6 => .array .int
  | 7 => .array .int
  | 8 => .array .int
  | 9 => .array .int
  | 10 => .array .int
  | 11 => .array .int
  | _ => .int
theorem ft_N_ok : ∀ k, k < 13 → parseFieldDescriptor (fd_N k).2.2.1 = some (ft_N k) := by decide +kernel
theorem fd_N_nm : ∀ a, a < 13 → ∀ b, b < 13 → a ≠ b → (fd_N a).2.1 ≠ (fd_N b).2.1 := by decide +kernel
def fv_N : List Value := [.null, .null, .null, .int 0, .null, .null, .null, .null, .null, .null, .null, .null, .int 0]
def rn_M : String := "RunOrderModel"
def fd_M : u_T := fun k => match k with
  | 0 => ("RunOrderModel", "thrown", "I", false)
  | 1 => ("RunOrderModel", "cores", "I", true)
  | 2 => ("RunOrderModel", "memory", "I", true)
  | 3 => ("RunOrderModel", "slots", "I", false)
  | 4 => ("RunOrderModel", "many", "I", false)
  | 5 => ("RunOrderModel", "time", "[I", true)
  | 6 => ("RunOrderModel", "core", "[I", true)
  | 7 => ("RunOrderModel", "space", "[I", true)
  | 8 => ("RunOrderModel", "locks", "[I", true)
  | 9 => ("RunOrderModel", "far", "[I", true)
  | 10 => ("RunOrderModel", "bad", "[I", true)
  | 11 => ("RunOrderModel", "kinds", "[I", true)
  | 12 => ("RunOrderModel", "needed", "[I", true)
  | 13 => ("RunOrderModel", "tests", "[Z", true)
  | 14 => ("RunOrderModel", "wished", "[Z", true)
  | 15 => ("RunOrderModel", "wanted", "[Z", true)
  | 16 => ("RunOrderModel", "modes", "[Z", true)
  | 17 => ("RunOrderModel", "left", "[I", true)
  | 18 => ("RunOrderModel", "rests", "[I", true)
  | 19 => ("RunOrderModel", "known", "I", false)
  | 20 => ("RunOrderModel", "state", "[I", true)
  | 21 => ("RunOrderModel", "hereEnd", "[I", true)
  | 22 => ("RunOrderModel", "farEnd", "[I", true)
  | 23 => ("RunOrderModel", "began", "[I", true)
  | 24 => ("RunOrderModel", "ended", "[I", true)
  | 25 => ("RunOrderModel", "tries", "[I", true)
  | 26 => ("RunOrderModel", "side", "[I", true)
  | 27 => ("RunOrderModel", "again", "[I", true)
  | 28 => ("RunOrderModel", "seen", "[Z", true)
  | 29 => ("RunOrderModel", "begun", "[I", true)
  | 30 => ("RunOrderModel", "begins", "I", false)
  | 31 => ("RunOrderModel", "mostCores", "I", false)
  | 32 => ("RunOrderModel", "mostMemory", "I", false)
  | 33 => ("RunOrderModel", "last", "I", false)
  | _ => ("RunOrderModel", "ran", "Z", false)
def ft_M : Nat → FieldType := fun k => match k with
  | 0 => .int
  | 1 => .int
  | 2 => .int
  | 3 => .int
  | 4 => .int
  | 5 => .array .int
  | 6 => .array .int
  | 7 => .array .int
  | 8 => .array .int
  | 9 => .array .int
  | 10 => .array .int
  | 11 => .array .int
  | 12 => .array .int
  | 13 => .array .boolean
  | 14 => .array .boolean
  | 15 => .array .boolean
  | 16 => .array .boolean
  | 17 => .array .int
  | 18 => .array .int
  | 19 => .int
  | 20 => .array .int
  | 21 => .array .int
  | 22 => .array .int
  | 23 => .array .int
  | 24 => .array .int
  | 25 => .array .int
  | 26 => .array .int
  | 27 => .array .int
  | 28 => .array .boolean
  | 29 => .array .int
  | 30 => .int
  | 31 => .int
  | 32 => .int
  | 33 => .int
  | _ => .boolean
theorem ft_M_ok : ∀ k, k < 35 → parseFieldDescriptor (fd_M k).2.2.1 = some (ft_M k) := by decide +kernel
theorem fd_M_nm : ∀ a, a < 35 → ∀ b, b < 35 → a ≠ b → (fd_M a).2.1 ≠ (fd_M b).2.1 := by decide +kernel
def fv_M : List Value := [.int 0, .int 0, .int 0, .int 0, .int 0, .null, .null, .null, .null, .null, .null, .null, .null, .null, .null, .null, .null, .null, .null, .int 0, .null, .null, .null, .null, .null, .null, .null, .null, .null, .null, .int 0, .int 0, .int 0, .int 0, .int 0]
abbrev ax_cl : List vw_C := [(rn_O, fd_O, 4), (rn_H, fd_H, 9), (rn_A, fd_A, 13), (rn_U, fd_U, 2), (rn_N, fd_N, 13), (rn_M, fd_M, 35)]
def ax_Xs : List (List Value) := [fv_O, fv_H, fv_A, fv_U, fv_N, fv_M]
/-- RunOrder.<init>(II)V -/
def cd_O_init : List ax_I := [
  (0, .aload_n 0, 0, 0, 0, []),
  (1, .invokespecial 3, 0, 0, 0, []),
  (4, .aload_n 0, 0, 0, 0, []),
  (5, .new 9, 1, 9, 0, []),
  (8, .dup, 0, 0, 0, []),
  (9, .iload_n 1, 1, 0, 0, []),
  (10, .iconst 1, 0, 0, 1, []),
  (11, .bipush 16, 0, 0, 16, []),
  (13, .invokestatic 11, 16, 3, 0, []),
  (16, .iload_n 2, 2, 0, 0, []),
  (17, .iconst 0, 0, 0, 0, []),
  (18, .ldc 15, 0, 0, 1000000, []),
  (20, .invokestatic 11, 16, 3, 0, []),
  (23, .invokespecial 16, 19, 4, 0, [1]),
  (26, .putfield 19, 0, 0, 2, []),
  (29, .aload_n 0, 0, 0, 0, []),
  (30, .new 23, 2, 13, 0, []),
  (33, .dup, 0, 0, 0, []),
  (34, .invokespecial 25, 26, 4, 0, [2]),
  (37, .putfield 26, 0, 1, 2, []),
  (40, .aload_n 0, 0, 0, 0, []),
  (41, .new 30, 3, 2, 0, []),
  (44, .dup, 0, 0, 0, []),
  (45, .invokespecial 32, 33, 4, 0, [3]),
  (48, .putfield 33, 0, 2, 2, []),
  (51, .aload_n 0, 0, 0, 0, []),
  (52, .new 37, 4, 13, 0, []),
  (55, .dup, 0, 0, 0, []),
  (56, .aload_n 0, 0, 0, 0, []),
  (57, .getfield 19, 0, 0, 0, []),
  (60, .aload_n 0, 0, 0, 0, []),
  (61, .getfield 26, 0, 1, 0, []),
  (64, .aload_n 0, 0, 0, 0, []),
  (65, .getfield 33, 0, 2, 0, []),
  (68, .invokespecial 39, 34, 4, 0, [4]),
  (71, .putfield 42, 0, 3, 2, []),
  (74, .return_, 0, 0, 0, [])]
/-- RunOrder.slots(I)Z -/
def cd_O_slots : List ax_I := [
  (0, .iload_n 1, 1, 0, 0, []),
  (1, .iconst 0, 0, 0, 0, []),
  (2, .iconst 4, 0, 0, 4, []),
  (3, .invokestatic 46, 15, 3, 0, []),
  (6, .ifCond .ne 5, 7, 0, 0, []),
  (9, .iconst 0, 0, 0, 0, []),
  (10, .ireturn, 1, 0, 0, []),
  (11, .aload_n 0, 0, 0, 0, []),
  (12, .getfield 19, 0, 0, 0, []),
  (15, .iload_n 1, 1, 0, 0, []),
  (16, .putfield 50, 1, 2, 0, []),
  (19, .iconst 1, 0, 0, 1, []),
  (20, .ireturn, 1, 0, 0, [])]
/-- RunOrder.action(III)I -/
def cd_O_action : List ax_I := [
  (0, .iload_n 1, 1, 0, 0, []),
  (1, .iconst 1, 0, 0, 1, []),
  (2, .sipush 1000, 0, 0, 1000, []),
  (5, .invokestatic 46, 15, 3, 0, []),
  (8, .ifCond .eq 27, 17, 0, 0, []),
  (11, .iload_n 2, 2, 0, 0, []),
  (12, .iconst 0, 0, 0, 0, []),
  (13, .bipush 16, 0, 0, 16, []),
  (15, .invokestatic 46, 15, 3, 0, []),
  (18, .ifCond .eq 17, 17, 0, 0, []),
  (21, .iload_n 3, 3, 0, 0, []),
  (22, .iconst 0, 0, 0, 0, []),
  (23, .ldc 15, 0, 0, 1000000, []),
  (25, .invokestatic 46, 15, 3, 0, []),
  (28, .ifCond .eq 7, 17, 0, 0, []),
  (31, .iconst 1, 0, 0, 1, []),
  (32, .goto 4, 18, 0, 0, []),
  (35, .iconst 0, 0, 0, 0, []),
  (36, .istore 4, 4, 0, 0, []),
  (38, .iload 4, 4, 0, 0, []),
  (40, .ifCond .eq 16, 28, 0, 0, []),
  (43, .aload_n 0, 0, 0, 0, []),
  (44, .getfield 26, 0, 1, 0, []),
  (47, .iload_n 1, 1, 0, 0, []),
  (48, .iload_n 2, 2, 0, 0, []),
  (49, .iload_n 3, 3, 0, 0, []),
  (50, .invokevirtual 54, 28, 3, 0, [2]),
  (53, .goto 4, 29, 0, 0, []),
  (56, .iconst (-1), 0, 0, (-1), []),
  (57, .ireturn, 0, 0, 0, [])]
/-- RunOrder.about(IZII)Z -/
def cd_O_about : List ax_I := [
  (0, .aload_n 0, 0, 0, 0, []),
  (1, .getfield 26, 0, 1, 0, []),
  (4, .iload_n 1, 1, 0, 0, []),
  (5, .invokevirtual 57, 27, 3, 0, [2]),
  (8, .ifCond .eq 15, 10, 0, 0, []),
  (11, .iload 4, 4, 0, 0, []),
  (13, .iconst 0, 0, 0, 0, []),
  (14, .sipush 1000, 0, 0, 1000, []),
  (17, .invokestatic 46, 15, 3, 0, []),
  (20, .ifCond .ne 5, 12, 0, 0, []),
  (23, .iconst 0, 0, 0, 0, []),
  (24, .ireturn, 1, 0, 0, []),
  (25, .aload_n 0, 0, 0, 0, []),
  (26, .getfield 26, 0, 1, 0, []),
  (29, .getfield 61, 2, 8, 0, []),
  (32, .iload_n 1, 1, 0, 0, []),
  (33, .iload_n 2, 2, 0, 0, []),
  (34, .bastore, 0, 0, 0, []),
  (35, .aload_n 0, 0, 0, 0, []),
  (36, .getfield 26, 0, 1, 0, []),
  (39, .getfield 65, 2, 4, 0, []),
  (42, .iload_n 1, 1, 0, 0, []),
  (43, .iload_n 3, 3, 0, 0, []),
  (44, .sipush 255, 0, 0, 255, []),
  (47, .iand, 0, 0, 0, []),
  (48, .iastore, 0, 0, 0, []),
  (49, .aload_n 0, 0, 0, 0, []),
  (50, .getfield 26, 0, 1, 0, []),
  (53, .getfield 69, 2, 5, 0, []),
  (56, .iload_n 1, 1, 0, 0, []),
  (57, .iload 4, 4, 0, 0, []),
  (59, .iastore, 0, 0, 0, []),
  (60, .iconst 1, 0, 0, 1, []),
  (61, .ireturn, 1, 0, 0, [])]
/-- RunOrder.fails(III)Z -/
def cd_O_fails : List ax_I := [
  (0, .aload_n 0, 0, 0, 0, []),
  (1, .getfield 26, 0, 1, 0, []),
  (4, .iload_n 1, 1, 0, 0, []),
  (5, .invokevirtual 57, 27, 3, 0, [2]),
  (8, .ifCond .eq 21, 15, 0, 0, []),
  (11, .iload_n 2, 2, 0, 0, []),
  (12, .iconst 0, 0, 0, 0, []),
  (13, .iconst 3, 0, 0, 3, []),
  (14, .invokestatic 46, 15, 3, 0, []),
  (17, .ifCond .eq 12, 15, 0, 0, []),
  (20, .iload_n 3, 3, 0, 0, []),
  (21, .iconst 0, 0, 0, 0, []),
  (22, .iconst 3, 0, 0, 3, []),
  (23, .invokestatic 46, 15, 3, 0, []),
  (26, .ifCond .ne 5, 17, 0, 0, []),
  (29, .iconst 0, 0, 0, 0, []),
  (30, .ireturn, 1, 0, 0, []),
  (31, .aload_n 0, 0, 0, 0, []),
  (32, .getfield 26, 0, 1, 0, []),
  (35, .getfield 72, 2, 6, 0, []),
  (38, .iload_n 1, 1, 0, 0, []),
  (39, .iload_n 2, 2, 0, 0, []),
  (40, .iastore, 0, 0, 0, []),
  (41, .aload_n 0, 0, 0, 0, []),
  (42, .getfield 26, 0, 1, 0, []),
  (45, .getfield 75, 2, 7, 0, []),
  (48, .iload_n 1, 1, 0, 0, []),
  (49, .iload_n 3, 3, 0, 0, []),
  (50, .iastore, 0, 0, 0, []),
  (51, .iconst 1, 0, 0, 1, []),
  (52, .ireturn, 1, 0, 0, [])]
/-- RunOrder.needs(II)I -/
def cd_O_needs : List ax_I := [
  (0, .aload_n 0, 0, 0, 0, []),
  (1, .getfield 26, 0, 1, 0, []),
  (4, .iload_n 1, 1, 0, 0, []),
  (5, .invokevirtual 57, 27, 3, 0, [2]),
  (8, .ifCond .eq 14, 10, 0, 0, []),
  (11, .aload_n 0, 0, 0, 0, []),
  (12, .getfield 26, 0, 1, 0, []),
  (15, .iload_n 2, 2, 0, 0, []),
  (16, .invokevirtual 57, 27, 3, 0, [2]),
  (19, .ifCond .ne 5, 12, 0, 0, []),
  (22, .iconst (-1), 0, 0, (-1), []),
  (23, .ireturn, 0, 0, 0, []),
  (24, .aload_n 0, 0, 0, 0, []),
  (25, .getfield 26, 0, 1, 0, []),
  (28, .iload_n 1, 1, 0, 0, []),
  (29, .iload_n 2, 2, 0, 0, []),
  (30, .invokevirtual 78, 29, 3, 0, [2]),
  (33, .ireturn, 0, 0, 0, [])]
/-- RunOrder.wish(IZ)Z -/
def cd_O_wish : List ax_I := [
  (0, .aload_n 0, 0, 0, 0, []),
  (1, .getfield 26, 0, 1, 0, []),
  (4, .iload_n 1, 1, 0, 0, []),
  (5, .invokevirtual 57, 27, 3, 0, [2]),
  (8, .ifCond .ne 5, 7, 0, 0, []),
  (11, .iconst 0, 0, 0, 0, []),
  (12, .ireturn, 1, 0, 0, []),
  (13, .aload_n 0, 0, 0, 0, []),
  (14, .getfield 26, 0, 1, 0, []),
  (17, .getfield 82, 2, 9, 0, []),
  (20, .iload_n 1, 1, 0, 0, []),
  (21, .iload_n 2, 2, 0, 0, []),
  (22, .bastore, 0, 0, 0, []),
  (23, .iconst 1, 0, 0, 1, []),
  (24, .ireturn, 1, 0, 0, [])]
/-- RunOrder.mode(IZ)Z -/
def cd_O_mode : List ax_I := [
  (0, .iload_n 1, 1, 0, 0, []),
  (1, .iconst 0, 0, 0, 0, []),
  (2, .iconst 3, 0, 0, 3, []),
  (3, .invokestatic 46, 15, 3, 0, []),
  (6, .ifCond .ne 5, 7, 0, 0, []),
  (9, .iconst 0, 0, 0, 0, []),
  (10, .ireturn, 1, 0, 0, []),
  (11, .aload_n 0, 0, 0, 0, []),
  (12, .getfield 33, 0, 2, 0, []),
  (15, .getfield 85, 3, 0, 0, []),
  (18, .iload_n 1, 1, 0, 0, []),
  (19, .iload_n 2, 2, 0, 0, []),
  (20, .bastore, 0, 0, 0, []),
  (21, .iconst 1, 0, 0, 1, []),
  (22, .ireturn, 1, 0, 0, [])]
/-- RunOrder.retries(II)Z -/
def cd_O_retries : List ax_I := [
  (0, .iload_n 1, 1, 0, 0, []),
  (1, .iconst 0, 0, 0, 0, []),
  (2, .iconst 3, 0, 0, 3, []),
  (3, .invokestatic 46, 15, 3, 0, []),
  (6, .ifCond .eq 12, 10, 0, 0, []),
  (9, .iload_n 2, 2, 0, 0, []),
  (10, .iconst 0, 0, 0, 0, []),
  (11, .iconst 3, 0, 0, 3, []),
  (12, .invokestatic 46, 15, 3, 0, []),
  (15, .ifCond .ne 5, 12, 0, 0, []),
  (18, .iconst 0, 0, 0, 0, []),
  (19, .ireturn, 1, 0, 0, []),
  (20, .aload_n 0, 0, 0, 0, []),
  (21, .getfield 33, 0, 2, 0, []),
  (24, .getfield 88, 3, 1, 0, []),
  (27, .iload_n 1, 1, 0, 0, []),
  (28, .iload_n 2, 2, 0, 0, []),
  (29, .iastore, 0, 0, 0, []),
  (30, .iconst 1, 0, 0, 1, []),
  (31, .ireturn, 1, 0, 0, [])]
/-- RunOrder.run()I -/
def cd_O_run : List ax_I := [
  (0, .aload_n 0, 0, 0, 0, []),
  (1, .getfield 42, 0, 3, 0, []),
  (4, .invokevirtual 91, 35, 3, 0, [4]),
  (7, .ireturn, 0, 0, 0, [])]
/-- RunOrder.rest(I)I -/
def cd_O_rest : List ax_I := [
  (0, .aload_n 0, 0, 0, 0, []),
  (1, .getfield 26, 0, 1, 0, []),
  (4, .iload_n 1, 1, 0, 0, []),
  (5, .invokevirtual 57, 27, 3, 0, [2]),
  (8, .ifCond .ne 5, 7, 0, 0, []),
  (11, .iconst 0, 0, 0, 0, []),
  (12, .ireturn, 0, 0, 0, []),
  (13, .aload_n 0, 0, 0, 0, []),
  (14, .getfield 26, 0, 1, 0, []),
  (17, .invokevirtual 95, 30, 3, 0, [2]),
  (20, .istore_n 2, 2, 0, 0, []),
  (21, .iload_n 2, 2, 0, 0, []),
  (22, .iload_n 1, 1, 0, 0, []),
  (23, .invokestatic 98, 18, 3, 0, []),
  (26, .ifCond .ne 5, 17, 0, 0, []),
  (29, .iconst 0, 0, 0, 0, []),
  (30, .ireturn, 0, 0, 0, []),
  (31, .aload_n 0, 0, 0, 0, []),
  (32, .getfield 26, 0, 1, 0, []),
  (35, .iload_n 2, 2, 0, 0, []),
  (36, .invokevirtual 102, 31, 4, 0, [2]),
  (39, .aload_n 0, 0, 0, 0, []),
  (40, .getfield 26, 0, 1, 0, []),
  (43, .getfield 106, 2, 12, 0, []),
  (46, .iload_n 1, 1, 0, 0, []),
  (47, .iaload, 0, 0, 0, []),
  (48, .ireturn, 0, 0, 0, [])]
/-- RunOrder.outcome(II)I -/
def cd_O_outcome : List ax_I := [
  (0, .aload_n 0, 0, 0, 0, []),
  (1, .getfield 26, 0, 1, 0, []),
  (4, .iload_n 1, 1, 0, 0, []),
  (5, .invokevirtual 57, 27, 3, 0, [2]),
  (8, .ifCond .eq 15, 11, 0, 0, []),
  (11, .aload_n 0, 0, 0, 0, []),
  (12, .getfield 42, 0, 3, 0, []),
  (15, .iload_n 1, 1, 0, 0, []),
  (16, .iload_n 2, 2, 0, 0, []),
  (17, .invokevirtual 109, 36, 3, 0, [4]),
  (20, .goto 4, 12, 0, 0, []),
  (23, .iconst (-1), 0, 0, (-1), []),
  (24, .ireturn, 0, 0, 0, [])]
/-- RunOrder.first()I -/
def cd_O_first : List ax_I := [
  (0, .aload_n 0, 0, 0, 0, []),
  (1, .getfield 42, 0, 3, 0, []),
  (4, .invokevirtual 112, 37, 3, 0, [4]),
  (7, .ireturn, 0, 0, 0, [])]
/-- RunOrder.order(I)I -/
def cd_O_order : List ax_I := [
  (0, .aload_n 0, 0, 0, 0, []),
  (1, .getfield 42, 0, 3, 0, []),
  (4, .iload_n 1, 1, 0, 0, []),
  (5, .invokevirtual 115, 38, 3, 0, [4]),
  (8, .ireturn, 0, 0, 0, [])]
/-- RunOrder.peak(I)I -/
def cd_O_peak : List ax_I := [
  (0, .iload_n 1, 1, 0, 0, []),
  (1, .ifCond .ne 11, 6, 0, 0, []),
  (4, .aload_n 0, 0, 0, 0, []),
  (5, .getfield 19, 0, 0, 0, []),
  (8, .getfield 119, 1, 7, 0, []),
  (11, .ireturn, 0, 0, 0, []),
  (12, .iload_n 1, 1, 0, 0, []),
  (13, .iconst 1, 0, 0, 1, []),
  (14, .if_icmp .ne 13, 13, 0, 0, []),
  (17, .aload_n 0, 0, 0, 0, []),
  (18, .getfield 19, 0, 0, 0, []),
  (21, .getfield 122, 1, 8, 0, []),
  (24, .goto 4, 14, 0, 0, []),
  (27, .iconst 0, 0, 0, 0, []),
  (28, .ireturn, 0, 0, 0, [])]
/-- RunOrder.within(III)Z -/
def cd_O_within : List ax_I := [
  (0, .iload_n 1, 1, 0, 0, []),
  (1, .iload_n 0, 0, 0, 0, []),
  (2, .if_icmp .gt 12, 8, 0, 0, []),
  (5, .iload_n 0, 0, 0, 0, []),
  (6, .iload_n 2, 2, 0, 0, []),
  (7, .if_icmp .gt 7, 8, 0, 0, []),
  (10, .iconst 1, 0, 0, 1, []),
  (11, .goto 4, 9, 0, 0, []),
  (14, .iconst 0, 0, 0, 0, []),
  (15, .ireturn, 1, 0, 0, [])]
/-- RunOrder.nearest(III)I -/
def cd_O_nearest : List ax_I := [
  (0, .iload_n 1, 1, 0, 0, []),
  (1, .iload_n 0, 0, 0, 0, []),
  (2, .iload_n 2, 2, 0, 0, []),
  (3, .invokestatic 125, 0, 2, 0, []),
  (6, .invokestatic 130, 0, 1, 0, []),
  (9, .ireturn, 0, 0, 0, [])]
/-- RunOrder.only(I)I -/
def cd_O_only : List ax_I := [
  (0, .iconst 1, 0, 0, 1, []),
  (1, .iload_n 0, 0, 0, 0, []),
  (2, .ishl, 0, 0, 0, []),
  (3, .ireturn, 0, 0, 0, [])]
/-- RunOrder.isIn(II)Z -/
def cd_O_isIn : List ax_I := [
  (0, .iload_n 0, 0, 0, 0, []),
  (1, .iload_n 1, 1, 0, 0, []),
  (2, .invokestatic 133, 17, 3, 0, []),
  (5, .iand, 0, 0, 0, []),
  (6, .ifCond .eq 7, 7, 0, 0, []),
  (9, .iconst 1, 0, 0, 1, []),
  (10, .goto 4, 8, 0, 0, []),
  (13, .iconst 0, 0, 0, 0, []),
  (14, .ireturn, 1, 0, 0, [])]
/-- RunOrder$House.<init>(II)V -/
def cd_H_init : List ax_I := [
  (0, .aload_n 0, 0, 0, 0, []),
  (1, .invokespecial 1, 0, 0, 0, []),
  (4, .aload_n 0, 0, 0, 0, []),
  (5, .iload_n 1, 1, 0, 0, []),
  (6, .putfield 7, 1, 0, 0, []),
  (9, .aload_n 0, 0, 0, 0, []),
  (10, .iload_n 2, 2, 0, 0, []),
  (11, .putfield 13, 1, 1, 0, []),
  (14, .return_, 0, 0, 0, [])]
/-- RunOrder$House.clear()V -/
def cd_H_clear : List ax_I := [
  (0, .aload_n 0, 0, 0, 0, []),
  (1, .iconst 0, 0, 0, 0, []),
  (2, .putfield 16, 1, 3, 0, []),
  (5, .aload_n 0, 0, 0, 0, []),
  (6, .iconst 0, 0, 0, 0, []),
  (7, .putfield 19, 1, 4, 0, []),
  (10, .aload_n 0, 0, 0, 0, []),
  (11, .iconst 0, 0, 0, 0, []),
  (12, .putfield 22, 1, 5, 0, []),
  (15, .aload_n 0, 0, 0, 0, []),
  (16, .iconst 0, 0, 0, 0, []),
  (17, .putfield 25, 1, 6, 0, []),
  (20, .aload_n 0, 0, 0, 0, []),
  (21, .iconst 0, 0, 0, 0, []),
  (22, .putfield 28, 1, 7, 0, []),
  (25, .aload_n 0, 0, 0, 0, []),
  (26, .iconst 0, 0, 0, 0, []),
  (27, .putfield 31, 1, 8, 0, []),
  (30, .return_, 0, 0, 0, [])]
/-- RunOrder$House.isTooSmallFor(II)Z -/
def cd_H_isTooSmallFor : List ax_I := [
  (0, .iload_n 1, 1, 0, 0, []),
  (1, .aload_n 0, 0, 0, 0, []),
  (2, .getfield 7, 1, 0, 0, []),
  (5, .if_icmp .gt 11, 8, 0, 0, []),
  (8, .iload_n 2, 2, 0, 0, []),
  (9, .aload_n 0, 0, 0, 0, []),
  (10, .getfield 13, 1, 1, 0, []),
  (13, .if_icmp .le 7, 10, 0, 0, []),
  (16, .iconst 1, 0, 0, 1, []),
  (17, .goto 4, 11, 0, 0, []),
  (20, .iconst 0, 0, 0, 0, []),
  (21, .ireturn, 1, 0, 0, [])]
/-- RunOrder$House.hasFree(III)Z -/
def cd_H_hasFree : List ax_I := [
  (0, .iload_n 1, 1, 0, 0, []),
  (1, .aload_n 0, 0, 0, 0, []),
  (2, .getfield 7, 1, 0, 0, []),
  (5, .aload_n 0, 0, 0, 0, []),
  (6, .getfield 16, 1, 3, 0, []),
  (9, .isub, 0, 0, 0, []),
  (10, .if_icmp .gt 29, 21, 0, 0, []),
  (13, .iload_n 2, 2, 0, 0, []),
  (14, .aload_n 0, 0, 0, 0, []),
  (15, .getfield 13, 1, 1, 0, []),
  (18, .aload_n 0, 0, 0, 0, []),
  (19, .getfield 19, 1, 4, 0, []),
  (22, .isub, 0, 0, 0, []),
  (23, .if_icmp .gt 16, 21, 0, 0, []),
  (26, .iload_n 3, 3, 0, 0, []),
  (27, .aload_n 0, 0, 0, 0, []),
  (28, .getfield 22, 1, 5, 0, []),
  (31, .iand, 0, 0, 0, []),
  (32, .ifCond .ne 7, 21, 0, 0, []),
  (35, .iconst 1, 0, 0, 1, []),
  (36, .goto 4, 22, 0, 0, []),
  (39, .iconst 0, 0, 0, 0, []),
  (40, .ireturn, 1, 0, 0, [])]
/-- RunOrder$House.hasFreeSlot()Z -/
def cd_H_hasFreeSlot : List ax_I := [
  (0, .aload_n 0, 0, 0, 0, []),
  (1, .getfield 25, 1, 6, 0, []),
  (4, .aload_n 0, 0, 0, 0, []),
  (5, .getfield 34, 1, 2, 0, []),
  (8, .if_icmp .ge 7, 7, 0, 0, []),
  (11, .iconst 1, 0, 0, 1, []),
  (12, .goto 4, 8, 0, 0, []),
  (15, .iconst 0, 0, 0, 0, []),
  (16, .ireturn, 1, 0, 0, [])]
/-- RunOrder$House.take(III)V -/
def cd_H_take : List ax_I := [
  (0, .aload_n 0, 0, 0, 0, []),
  (1, .dup, 0, 0, 0, []),
  (2, .getfield 16, 1, 3, 0, []),
  (5, .iload_n 1, 1, 0, 0, []),
  (6, .iadd, 0, 0, 0, []),
  (7, .putfield 16, 1, 3, 0, []),
  (10, .aload_n 0, 0, 0, 0, []),
  (11, .dup, 0, 0, 0, []),
  (12, .getfield 19, 1, 4, 0, []),
  (15, .iload_n 2, 2, 0, 0, []),
  (16, .iadd, 0, 0, 0, []),
  (17, .putfield 19, 1, 4, 0, []),
  (20, .aload_n 0, 0, 0, 0, []),
  (21, .dup, 0, 0, 0, []),
  (22, .getfield 22, 1, 5, 0, []),
  (25, .iload_n 3, 3, 0, 0, []),
  (26, .ior, 0, 0, 0, []),
  (27, .putfield 22, 1, 5, 0, []),
  (30, .aload_n 0, 0, 0, 0, []),
  (31, .aload_n 0, 0, 0, 0, []),
  (32, .getfield 28, 1, 7, 0, []),
  (35, .aload_n 0, 0, 0, 0, []),
  (36, .getfield 16, 1, 3, 0, []),
  (39, .invokestatic 37, 0, 1, 0, []),
  (42, .putfield 28, 1, 7, 0, []),
  (45, .aload_n 0, 0, 0, 0, []),
  (46, .aload_n 0, 0, 0, 0, []),
  (47, .getfield 31, 1, 8, 0, []),
  (50, .aload_n 0, 0, 0, 0, []),
  (51, .getfield 19, 1, 4, 0, []),
  (54, .invokestatic 37, 0, 1, 0, []),
  (57, .putfield 31, 1, 8, 0, []),
  (60, .return_, 0, 0, 0, [])]
/-- RunOrder$House.giveBack(III)V -/
def cd_H_giveBack : List ax_I := [
  (0, .aload_n 0, 0, 0, 0, []),
  (1, .dup, 0, 0, 0, []),
  (2, .getfield 16, 1, 3, 0, []),
  (5, .iload_n 1, 1, 0, 0, []),
  (6, .isub, 0, 0, 0, []),
  (7, .putfield 16, 1, 3, 0, []),
  (10, .aload_n 0, 0, 0, 0, []),
  (11, .dup, 0, 0, 0, []),
  (12, .getfield 19, 1, 4, 0, []),
  (15, .iload_n 2, 2, 0, 0, []),
  (16, .isub, 0, 0, 0, []),
  (17, .putfield 19, 1, 4, 0, []),
  (20, .aload_n 0, 0, 0, 0, []),
  (21, .dup, 0, 0, 0, []),
  (22, .getfield 22, 1, 5, 0, []),
  (25, .iload_n 3, 3, 0, 0, []),
  (26, .iconst (-1), 0, 0, (-1), []),
  (27, .ixor, 0, 0, 0, []),
  (28, .iand, 0, 0, 0, []),
  (29, .putfield 22, 1, 5, 0, []),
  (32, .return_, 0, 0, 0, [])]
/-- RunOrder$Actions.<init>()V -/
def cd_A_init : List ax_I := [
  (0, .aload_n 0, 0, 0, 0, []),
  (1, .invokespecial 3, 0, 0, 0, []),
  (4, .aload_n 0, 0, 0, 0, []),
  (5, .bipush 24, 0, 0, 24, []),
  (7, .newarray .int, 0, 0, 0, []),
  (9, .putfield 9, 2, 1, 2, []),
  (12, .aload_n 0, 0, 0, 0, []),
  (13, .bipush 24, 0, 0, 24, []),
  (15, .newarray .int, 0, 0, 0, []),
  (17, .putfield 15, 2, 2, 2, []),
  (20, .aload_n 0, 0, 0, 0, []),
  (21, .bipush 24, 0, 0, 24, []),
  (23, .newarray .int, 0, 0, 0, []),
  (25, .putfield 18, 2, 3, 2, []),
  (28, .aload_n 0, 0, 0, 0, []),
  (29, .bipush 24, 0, 0, 24, []),
  (31, .newarray .int, 0, 0, 0, []),
  (33, .putfield 21, 2, 4, 2, []),
  (36, .aload_n 0, 0, 0, 0, []),
  (37, .bipush 24, 0, 0, 24, []),
  (39, .newarray .int, 0, 0, 0, []),
  (41, .putfield 24, 2, 5, 2, []),
  (44, .aload_n 0, 0, 0, 0, []),
  (45, .bipush 24, 0, 0, 24, []),
  (47, .newarray .int, 0, 0, 0, []),
  (49, .putfield 27, 2, 6, 2, []),
  (52, .aload_n 0, 0, 0, 0, []),
  (53, .bipush 24, 0, 0, 24, []),
  (55, .newarray .int, 0, 0, 0, []),
  (57, .putfield 30, 2, 7, 2, []),
  (60, .aload_n 0, 0, 0, 0, []),
  (61, .bipush 24, 0, 0, 24, []),
  (63, .newarray .boolean, 1, 0, 0, []),
  (65, .putfield 33, 2, 8, 2, []),
  (68, .aload_n 0, 0, 0, 0, []),
  (69, .bipush 24, 0, 0, 24, []),
  (71, .newarray .boolean, 1, 0, 0, []),
  (73, .putfield 37, 2, 9, 2, []),
  (76, .aload_n 0, 0, 0, 0, []),
  (77, .bipush 24, 0, 0, 24, []),
  (79, .newarray .int, 0, 0, 0, []),
  (81, .putfield 40, 2, 10, 2, []),
  (84, .aload_n 0, 0, 0, 0, []),
  (85, .bipush 24, 0, 0, 24, []),
  (87, .newarray .int, 0, 0, 0, []),
  (89, .putfield 43, 2, 11, 2, []),
  (92, .aload_n 0, 0, 0, 0, []),
  (93, .bipush 24, 0, 0, 24, []),
  (95, .newarray .int, 0, 0, 0, []),
  (97, .putfield 46, 2, 12, 2, []),
  (100, .return_, 0, 0, 0, [])]
/-- RunOrder$Actions.has(I)Z -/
def cd_A_has : List ax_I := [
  (0, .iconst 0, 0, 0, 0, []),
  (1, .iload_n 1, 1, 0, 0, []),
  (2, .if_icmp .gt 15, 9, 0, 0, []),
  (5, .iload_n 1, 1, 0, 0, []),
  (6, .aload_n 0, 0, 0, 0, []),
  (7, .getfield 49, 2, 0, 0, []),
  (10, .if_icmp .ge 7, 9, 0, 0, []),
  (13, .iconst 1, 0, 0, 1, []),
  (14, .goto 4, 10, 0, 0, []),
  (17, .iconst 0, 0, 0, 0, []),
  (18, .ireturn, 1, 0, 0, [])]
/-- RunOrder$Actions.add(III)I -/
def cd_A_add : List ax_I := [
  (0, .aload_n 0, 0, 0, 0, []),
  (1, .getfield 49, 2, 0, 0, []),
  (4, .bipush 24, 0, 0, 24, []),
  (6, .if_icmp .lt 5, 6, 0, 0, []),
  (9, .iconst (-1), 0, 0, (-1), []),
  (10, .ireturn, 0, 0, 0, []),
  (11, .aload_n 0, 0, 0, 0, []),
  (12, .getfield 9, 2, 1, 0, []),
  (15, .aload_n 0, 0, 0, 0, []),
  (16, .getfield 49, 2, 0, 0, []),
  (19, .iload_n 1, 1, 0, 0, []),
  (20, .iastore, 0, 0, 0, []),
  (21, .aload_n 0, 0, 0, 0, []),
  (22, .getfield 15, 2, 2, 0, []),
  (25, .aload_n 0, 0, 0, 0, []),
  (26, .getfield 49, 2, 0, 0, []),
  (29, .iload_n 2, 2, 0, 0, []),
  (30, .iastore, 0, 0, 0, []),
  (31, .aload_n 0, 0, 0, 0, []),
  (32, .getfield 18, 2, 3, 0, []),
  (35, .aload_n 0, 0, 0, 0, []),
  (36, .getfield 49, 2, 0, 0, []),
  (39, .iload_n 3, 3, 0, 0, []),
  (40, .iastore, 0, 0, 0, []),
  (41, .aload_n 0, 0, 0, 0, []),
  (42, .dup, 0, 0, 0, []),
  (43, .getfield 49, 2, 0, 0, []),
  (46, .iconst 1, 0, 0, 1, []),
  (47, .iadd, 0, 0, 0, []),
  (48, .putfield 49, 2, 0, 0, []),
  (51, .aload_n 0, 0, 0, 0, []),
  (52, .getfield 49, 2, 0, 0, []),
  (55, .iconst 1, 0, 0, 1, []),
  (56, .isub, 0, 0, 0, []),
  (57, .ireturn, 0, 0, 0, [])]
/-- RunOrder$Actions.join(II)I -/
def cd_A_join : List ax_I := [
  (0, .aload_n 0, 0, 0, 0, []),
  (1, .getfield 40, 2, 10, 0, []),
  (4, .iload_n 1, 1, 0, 0, []),
  (5, .iaload, 0, 0, 0, []),
  (6, .iload_n 2, 2, 0, 0, []),
  (7, .invokestatic 53, 18, 3, 0, []),
  (10, .ifCond .eq 5, 9, 0, 0, []),
  (13, .iconst (-1), 0, 0, (-1), []),
  (14, .ireturn, 0, 0, 0, []),
  (15, .iload_n 1, 1, 0, 0, []),
  (16, .iload_n 2, 2, 0, 0, []),
  (17, .if_icmp .eq 16, 19, 0, 0, []),
  (20, .aload_n 0, 0, 0, 0, []),
  (21, .getfield 43, 2, 11, 0, []),
  (24, .iload_n 2, 2, 0, 0, []),
  (25, .iaload, 0, 0, 0, []),
  (26, .iload_n 1, 1, 0, 0, []),
  (27, .invokestatic 53, 18, 3, 0, []),
  (30, .ifCond .eq 6, 21, 0, 0, []),
  (33, .bipush (-2), 0, 0, (-2), []),
  (35, .ireturn, 0, 0, 0, []),
  (36, .aload_n 0, 0, 0, 0, []),
  (37, .getfield 40, 2, 10, 0, []),
  (40, .iload_n 1, 1, 0, 0, []),
  (41, .dup2, 0, 0, 0, []),
  (42, .iaload, 0, 0, 0, []),
  (43, .iload_n 2, 2, 0, 0, []),
  (44, .invokestatic 57, 17, 3, 0, []),
  (47, .ior, 0, 0, 0, []),
  (48, .iastore, 0, 0, 0, []),
  (49, .aload_n 0, 0, 0, 0, []),
  (50, .getfield 43, 2, 11, 0, []),
  (53, .iload_n 2, 2, 0, 0, []),
  (54, .iaload, 0, 0, 0, []),
  (55, .iload_n 2, 2, 0, 0, []),
  (56, .invokestatic 57, 17, 3, 0, []),
  (59, .ior, 0, 0, 0, []),
  (60, .istore_n 3, 3, 0, 0, []),
  (61, .iconst 0, 0, 0, 0, []),
  (62, .istore 4, 4, 0, 0, []),
  (64, .iload 4, 4, 0, 0, []),
  (66, .aload_n 0, 0, 0, 0, []),
  (67, .getfield 49, 2, 0, 0, []),
  (70, .if_icmp .ge 40, 64, 0, 0, []),
  (73, .iload 4, 4, 0, 0, []),
  (75, .iload_n 1, 1, 0, 0, []),
  (76, .if_icmp .eq 17, 54, 0, 0, []),
  (79, .aload_n 0, 0, 0, 0, []),
  (80, .getfield 43, 2, 11, 0, []),
  (83, .iload 4, 4, 0, 0, []),
  (85, .iaload, 0, 0, 0, []),
  (86, .iload_n 1, 1, 0, 0, []),
  (87, .invokestatic 53, 18, 3, 0, []),
  (90, .ifCond .eq 14, 62, 0, 0, []),
  (93, .aload_n 0, 0, 0, 0, []),
  (94, .getfield 43, 2, 11, 0, []),
  (97, .iload 4, 4, 0, 0, []),
  (99, .dup2, 0, 0, 0, []),
  (100, .iaload, 0, 0, 0, []),
  (101, .iload_n 3, 3, 0, 0, []),
  (102, .ior, 0, 0, 0, []),
  (103, .iastore, 0, 0, 0, []),
  (104, .iinc 4 1, 4, 0, 1, []),
  (107, .goto (-43), 40, 0, 0, []),
  (110, .iconst 1, 0, 0, 1, []),
  (111, .ireturn, 0, 0, 0, [])]
/-- RunOrder$Actions.wanted()I -/
def cd_A_wanted : List ax_I := [
  (0, .iconst 0, 0, 0, 0, []),
  (1, .istore_n 1, 1, 0, 0, []),
  (2, .iconst 0, 0, 0, 0, []),
  (3, .istore_n 2, 2, 0, 0, []),
  (4, .iload_n 2, 2, 0, 0, []),
  (5, .aload_n 0, 0, 0, 0, []),
  (6, .getfield 49, 2, 0, 0, []),
  (9, .if_icmp .ge 32, 25, 0, 0, []),
  (12, .aload_n 0, 0, 0, 0, []),
  (13, .getfield 37, 2, 9, 0, []),
  (16, .iload_n 2, 2, 0, 0, []),
  (17, .baload, 0, 0, 0, []),
  (18, .ifCond .eq 17, 23, 0, 0, []),
  (21, .iload_n 1, 1, 0, 0, []),
  (22, .iload_n 2, 2, 0, 0, []),
  (23, .invokestatic 57, 17, 3, 0, []),
  (26, .aload_n 0, 0, 0, 0, []),
  (27, .getfield 43, 2, 11, 0, []),
  (30, .iload_n 2, 2, 0, 0, []),
  (31, .iaload, 0, 0, 0, []),
  (32, .ior, 0, 0, 0, []),
  (33, .ior, 0, 0, 0, []),
  (34, .istore_n 1, 1, 0, 0, []),
  (35, .iinc 2 1, 2, 0, 1, []),
  (38, .goto (-34), 4, 0, 0, []),
  (41, .iload_n 1, 1, 0, 0, []),
  (42, .ireturn, 0, 0, 0, [])]
/-- RunOrder$Actions.measureRests(I)V -/
def cd_A_measureRests : List ax_I := [
  (0, .iconst 1, 0, 0, 1, []),
  (1, .istore_n 2, 2, 0, 0, []),
  (2, .iconst 0, 0, 0, 0, []),
  (3, .istore_n 3, 3, 0, 0, []),
  (4, .iload_n 2, 2, 0, 0, []),
  (5, .ifCond .eq 85, 49, 0, 0, []),
  (8, .iload_n 3, 3, 0, 0, []),
  (9, .aload_n 0, 0, 0, 0, []),
  (10, .getfield 49, 2, 0, 0, []),
  (13, .if_icmp .ge 77, 49, 0, 0, []),
  (16, .iconst 0, 0, 0, 0, []),
  (17, .istore_n 2, 2, 0, 0, []),
  (18, .iconst 0, 0, 0, 0, []),
  (19, .istore 4, 4, 0, 0, []),
  (21, .iload 4, 4, 0, 0, []),
  (23, .aload_n 0, 0, 0, 0, []),
  (24, .getfield 49, 2, 0, 0, []),
  (27, .if_icmp .ge 57, 47, 0, 0, []),
  (30, .aload_n 0, 0, 0, 0, []),
  (31, .getfield 9, 2, 1, 0, []),
  (34, .iload 4, 4, 0, 0, []),
  (36, .iaload, 0, 0, 0, []),
  (37, .aload_n 0, 0, 0, 0, []),
  (38, .iload 4, 4, 0, 0, []),
  (40, .iload_n 1, 1, 0, 0, []),
  (41, .invokevirtual 61, 32, 3, 0, [2]),
  (44, .iadd, 0, 0, 0, []),
  (45, .istore 5, 5, 0, 0, []),
  (47, .iload_n 2, 2, 0, 0, []),
  (48, .ifCond .ne 15, 36, 0, 0, []),
  (51, .iload 5, 5, 0, 0, []),
  (53, .aload_n 0, 0, 0, 0, []),
  (54, .getfield 46, 2, 12, 0, []),
  (57, .iload 4, 4, 0, 0, []),
  (59, .iaload, 0, 0, 0, []),
  (60, .if_icmp .eq 7, 38, 0, 0, []),
  (63, .iconst 1, 0, 0, 1, []),
  (64, .goto 4, 39, 0, 0, []),
  (67, .iconst 0, 0, 0, 0, []),
  (68, .istore_n 2, 2, 0, 0, []),
  (69, .aload_n 0, 0, 0, 0, []),
  (70, .getfield 46, 2, 12, 0, []),
  (73, .iload 4, 4, 0, 0, []),
  (75, .iload 5, 5, 0, 0, []),
  (77, .iastore, 0, 0, 0, []),
  (78, .iinc 4 1, 4, 0, 1, []),
  (81, .goto (-60), 14, 0, 0, []),
  (84, .iinc 3 1, 3, 0, 1, []),
  (87, .goto (-83), 4, 0, 0, []),
  (90, .return_, 0, 0, 0, [])]
/-- RunOrder$Actions.greatestRestAbove(II)I -/
def cd_A_greatestRestAbove : List ax_I := [
  (0, .iconst 0, 0, 0, 0, []),
  (1, .istore_n 3, 3, 0, 0, []),
  (2, .iconst 0, 0, 0, 0, []),
  (3, .istore 4, 4, 0, 0, []),
  (5, .iload 4, 4, 0, 0, []),
  (7, .aload_n 0, 0, 0, 0, []),
  (8, .getfield 49, 2, 0, 0, []),
  (11, .if_icmp .ge 44, 28, 0, 0, []),
  (14, .iload_n 2, 2, 0, 0, []),
  (15, .iload 4, 4, 0, 0, []),
  (17, .invokestatic 53, 18, 3, 0, []),
  (20, .ifCond .eq 29, 26, 0, 0, []),
  (23, .aload_n 0, 0, 0, 0, []),
  (24, .getfield 40, 2, 10, 0, []),
  (27, .iload 4, 4, 0, 0, []),
  (29, .iaload, 0, 0, 0, []),
  (30, .iload_n 1, 1, 0, 0, []),
  (31, .invokestatic 53, 18, 3, 0, []),
  (34, .ifCond .eq 15, 26, 0, 0, []),
  (37, .iload_n 3, 3, 0, 0, []),
  (38, .aload_n 0, 0, 0, 0, []),
  (39, .getfield 46, 2, 12, 0, []),
  (42, .iload 4, 4, 0, 0, []),
  (44, .iaload, 0, 0, 0, []),
  (45, .invokestatic 65, 0, 1, 0, []),
  (48, .istore_n 3, 3, 0, 0, []),
  (49, .iinc 4 1, 4, 0, 1, []),
  (52, .goto (-47), 4, 0, 0, []),
  (55, .iload_n 3, 3, 0, 0, []),
  (56, .ireturn, 0, 0, 0, [])]
/-- RunOrder$Rules.<init>()V -/
def cd_U_init : List ax_I := [
  (0, .aload_n 0, 0, 0, 0, []),
  (1, .invokespecial 3, 0, 0, 0, []),
  (4, .aload_n 0, 0, 0, 0, []),
  (5, .iconst 4, 0, 0, 4, []),
  (6, .newarray .boolean, 1, 0, 0, []),
  (8, .putfield 9, 3, 0, 2, []),
  (11, .aload_n 0, 0, 0, 0, []),
  (12, .iconst 4, 0, 0, 4, []),
  (13, .newarray .int, 0, 0, 0, []),
  (15, .putfield 15, 3, 1, 2, []),
  (18, .return_, 0, 0, 0, [])]
/-- RunOrder$Run.<init>(LRunOrder$House;LRunOrder$Actions;LRunOrder$Rules;)V -/
def cd_N_init : List ax_I := [
  (0, .aload_n 0, 0, 0, 0, []),
  (1, .invokespecial 3, 0, 0, 0, []),
  (4, .aload_n 0, 0, 0, 0, []),
  (5, .bipush 24, 0, 0, 24, []),
  (7, .newarray .int, 0, 0, 0, []),
  (9, .putfield 9, 4, 4, 2, []),
  (12, .aload_n 0, 0, 0, 0, []),
  (13, .bipush 24, 0, 0, 24, []),
  (15, .newarray .int, 0, 0, 0, []),
  (17, .putfield 15, 4, 5, 2, []),
  (20, .aload_n 0, 0, 0, 0, []),
  (21, .bipush 24, 0, 0, 24, []),
  (23, .newarray .int, 0, 0, 0, []),
  (25, .putfield 18, 4, 6, 2, []),
  (28, .aload_n 0, 0, 0, 0, []),
  (29, .bipush 24, 0, 0, 24, []),
  (31, .newarray .int, 0, 0, 0, []),
  (33, .putfield 21, 4, 7, 2, []),
  (36, .aload_n 0, 0, 0, 0, []),
  (37, .bipush 24, 0, 0, 24, []),
  (39, .newarray .int, 0, 0, 0, []),
  (41, .putfield 24, 4, 8, 2, []),
  (44, .aload_n 0, 0, 0, 0, []),
  (45, .bipush 24, 0, 0, 24, []),
  (47, .newarray .int, 0, 0, 0, []),
  (49, .putfield 27, 4, 9, 2, []),
  (52, .aload_n 0, 0, 0, 0, []),
  (53, .bipush 24, 0, 0, 24, []),
  (55, .newarray .int, 0, 0, 0, []),
  (57, .putfield 30, 4, 10, 2, []),
  (60, .aload_n 0, 0, 0, 0, []),
  (61, .bipush 96, 0, 0, 96, []),
  (63, .newarray .int, 0, 0, 0, []),
  (65, .putfield 33, 4, 11, 2, []),
  (68, .aload_n 0, 0, 0, 0, []),
  (69, .aload_n 1, 1, 0, 0, []),
  (70, .putfield 36, 4, 0, 2, []),
  (73, .aload_n 0, 0, 0, 0, []),
  (74, .aload_n 2, 2, 0, 0, []),
  (75, .putfield 40, 4, 1, 2, []),
  (78, .aload_n 0, 0, 0, 0, []),
  (79, .aload_n 3, 3, 0, 0, []),
  (80, .putfield 44, 4, 2, 2, []),
  (83, .return_, 0, 0, 0, [])]
/-- RunOrder$Run.goThrough()I -/
def cd_N_goThrough : List ax_I := [
  (0, .aload_n 0, 0, 0, 0, []),
  (1, .invokevirtual 48, 39, 4, 0, [4]),
  (4, .iconst 0, 0, 0, 0, []),
  (5, .istore_n 1, 1, 0, 0, []),
  (6, .iconst 0, 0, 0, 0, []),
  (7, .istore_n 2, 2, 0, 0, []),
  (8, .iload_n 2, 2, 0, 0, []),
  (9, .bipush 96, 0, 0, 96, []),
  (11, .if_icmp .gt 61, 39, 0, 0, []),
  (14, .aload_n 0, 0, 0, 0, []),
  (15, .iload_n 1, 1, 0, 0, []),
  (16, .invokevirtual 51, 41, 4, 0, [4]),
  (19, .aload_n 0, 0, 0, 0, []),
  (20, .invokevirtual 55, 46, 4, 0, [4]),
  (23, .aload_n 0, 0, 0, 0, []),
  (24, .getfield 44, 4, 2, 0, []),
  (27, .getfield 58, 3, 0, 0, []),
  (30, .iconst 1, 0, 0, 1, []),
  (31, .baload, 0, 0, 0, []),
  (32, .ifCond .eq 14, 25, 0, 0, []),
  (35, .aload_n 0, 0, 0, 0, []),
  (36, .invokevirtual 64, 45, 3, 0, [4]),
  (39, .ifCond .eq 7, 25, 0, 0, []),
  (42, .aload_n 0, 0, 0, 0, []),
  (43, .invokevirtual 68, 48, 4, 0, [4]),
  (46, .aload_n 0, 0, 0, 0, []),
  (47, .iload_n 1, 1, 0, 0, []),
  (48, .invokevirtual 71, 49, 4, 0, [4]),
  (51, .aload_n 0, 0, 0, 0, []),
  (52, .invokevirtual 74, 54, 3, 0, [4]),
  (55, .istore_n 3, 3, 0, 0, []),
  (56, .iload_n 3, 3, 0, 0, []),
  (57, .iconst (-1), 0, 0, (-1), []),
  (58, .if_icmp .ne 6, 35, 0, 0, []),
  (61, .goto 11, 39, 0, 0, []),
  (64, .iload_n 3, 3, 0, 0, []),
  (65, .istore_n 1, 1, 0, 0, []),
  (66, .iinc 2 1, 2, 0, 1, []),
  (69, .goto (-61), 6, 0, 0, []),
  (72, .aload_n 0, 0, 0, 0, []),
  (73, .invokevirtual 68, 48, 4, 0, [4]),
  (76, .iload_n 1, 1, 0, 0, []),
  (77, .ireturn, 0, 0, 0, [])]
/-- RunOrder$Run.tell(II)I -/
def cd_N_tell : List ax_I := [
  (0, .aload_n 0, 0, 0, 0, []),
  (1, .getfield 78, 4, 3, 0, []),
  (4, .ifCond .ne 5, 5, 0, 0, []),
  (7, .iconst (-1), 0, 0, (-1), []),
  (8, .ireturn, 0, 0, 0, []),
  (9, .iload_n 2, 2, 0, 0, []),
  (10, .tableswitch 69 0 4 #[34, 41, 48, 55, 62], 32, 0, 0, [7, 12, 17, 22, 27]),
  (44, .aload_n 0, 0, 0, 0, []),
  (45, .getfield 9, 4, 4, 0, []),
  (48, .iload_n 1, 1, 0, 0, []),
  (49, .iaload, 0, 0, 0, []),
  (50, .ireturn, 0, 0, 0, []),
  (51, .aload_n 0, 0, 0, 0, []),
  (52, .getfield 15, 4, 5, 0, []),
  (55, .iload_n 1, 1, 0, 0, []),
  (56, .iaload, 0, 0, 0, []),
  (57, .ireturn, 0, 0, 0, []),
  (58, .aload_n 0, 0, 0, 0, []),
  (59, .getfield 18, 4, 6, 0, []),
  (62, .iload_n 1, 1, 0, 0, []),
  (63, .iaload, 0, 0, 0, []),
  (64, .ireturn, 0, 0, 0, []),
  (65, .aload_n 0, 0, 0, 0, []),
  (66, .getfield 21, 4, 7, 0, []),
  (69, .iload_n 1, 1, 0, 0, []),
  (70, .iaload, 0, 0, 0, []),
  (71, .ireturn, 0, 0, 0, []),
  (72, .aload_n 0, 0, 0, 0, []),
  (73, .getfield 24, 4, 8, 0, []),
  (76, .iload_n 1, 1, 0, 0, []),
  (77, .iaload, 0, 0, 0, []),
  (78, .ireturn, 0, 0, 0, []),
  (79, .iconst (-1), 0, 0, (-1), []),
  (80, .ireturn, 0, 0, 0, [])]
/-- RunOrder$Run.firstBad()I -/
def cd_N_firstBad : List ax_I := [
  (0, .iconst 0, 0, 0, 0, []),
  (1, .istore_n 1, 1, 0, 0, []),
  (2, .iload_n 1, 1, 0, 0, []),
  (3, .aload_n 0, 0, 0, 0, []),
  (4, .getfield 40, 4, 1, 0, []),
  (7, .getfield 82, 2, 0, 0, []),
  (10, .if_icmp .ge 31, 23, 0, 0, []),
  (13, .aload_n 0, 0, 0, 0, []),
  (14, .getfield 9, 4, 4, 0, []),
  (17, .iload_n 1, 1, 0, 0, []),
  (18, .iaload, 0, 0, 0, []),
  (19, .iconst 2, 0, 0, 2, []),
  (20, .if_icmp .eq 13, 19, 0, 0, []),
  (23, .aload_n 0, 0, 0, 0, []),
  (24, .getfield 9, 4, 4, 0, []),
  (27, .iload_n 1, 1, 0, 0, []),
  (28, .iaload, 0, 0, 0, []),
  (29, .iconst 5, 0, 0, 5, []),
  (30, .if_icmp .ne 5, 21, 0, 0, []),
  (33, .iload_n 1, 1, 0, 0, []),
  (34, .ireturn, 0, 0, 0, []),
  (35, .iinc 1 1, 1, 0, 1, []),
  (38, .goto (-36), 2, 0, 0, []),
  (41, .iconst (-1), 0, 0, (-1), []),
  (42, .ireturn, 0, 0, 0, [])]
/-- RunOrder$Run.begunAs(I)I -/
def cd_N_begunAs : List ax_I := [
  (0, .iconst 0, 0, 0, 0, []),
  (1, .iload_n 1, 1, 0, 0, []),
  (2, .if_icmp .gt 20, 12, 0, 0, []),
  (5, .iload_n 1, 1, 0, 0, []),
  (6, .aload_n 0, 0, 0, 0, []),
  (7, .getfield 88, 4, 12, 0, []),
  (10, .if_icmp .ge 12, 12, 0, 0, []),
  (13, .aload_n 0, 0, 0, 0, []),
  (14, .getfield 33, 4, 11, 0, []),
  (17, .iload_n 1, 1, 0, 0, []),
  (18, .iaload, 0, 0, 0, []),
  (19, .goto 4, 13, 0, 0, []),
  (22, .iconst (-1), 0, 0, (-1), []),
  (23, .ireturn, 0, 0, 0, [])]
/-- RunOrder$Run.prepare()V -/
def cd_N_prepare : List ax_I := [
  (0, .aload_n 0, 0, 0, 0, []),
  (1, .iconst 1, 0, 0, 1, []),
  (2, .putfield 78, 4, 3, 1, []),
  (5, .aload_n 0, 0, 0, 0, []),
  (6, .iconst 0, 0, 0, 0, []),
  (7, .putfield 88, 4, 12, 0, []),
  (10, .aload_n 0, 0, 0, 0, []),
  (11, .getfield 36, 4, 0, 0, []),
  (14, .invokevirtual 91, 20, 4, 0, [1]),
  (17, .aload_n 0, 0, 0, 0, []),
  (18, .getfield 40, 4, 1, 0, []),
  (21, .invokevirtual 96, 30, 3, 0, [2]),
  (24, .istore_n 1, 1, 0, 0, []),
  (25, .aload_n 0, 0, 0, 0, []),
  (26, .getfield 40, 4, 1, 0, []),
  (29, .iload_n 1, 1, 0, 0, []),
  (30, .invokevirtual 99, 31, 4, 0, [2]),
  (33, .iconst 0, 0, 0, 0, []),
  (34, .istore_n 2, 2, 0, 0, []),
  (35, .iload_n 2, 2, 0, 0, []),
  (36, .bipush 24, 0, 0, 24, []),
  (38, .if_icmp .ge 74, 67, 0, 0, []),
  (41, .aload_n 0, 0, 0, 0, []),
  (42, .getfield 9, 4, 4, 0, []),
  (45, .iload_n 2, 2, 0, 0, []),
  (46, .iload_n 1, 1, 0, 0, []),
  (47, .iload_n 2, 2, 0, 0, []),
  (48, .invokestatic 102, 18, 3, 0, []),
  (51, .ifCond .eq 11, 33, 0, 0, []),
  (54, .aload_n 0, 0, 0, 0, []),
  (55, .iload_n 2, 2, 0, 0, []),
  (56, .invokevirtual 106, 40, 3, 0, [4]),
  (59, .goto 4, 34, 0, 0, []),
  (62, .iconst 0, 0, 0, 0, []),
  (63, .iastore, 0, 0, 0, []),
  (64, .aload_n 0, 0, 0, 0, []),
  (65, .getfield 15, 4, 5, 0, []),
  (68, .iload_n 2, 2, 0, 0, []),
  (69, .iconst (-1), 0, 0, (-1), []),
  (70, .iastore, 0, 0, 0, []),
  (71, .aload_n 0, 0, 0, 0, []),
  (72, .getfield 18, 4, 6, 0, []),
  (75, .iload_n 2, 2, 0, 0, []),
  (76, .iconst (-1), 0, 0, (-1), []),
  (77, .iastore, 0, 0, 0, []),
  (78, .aload_n 0, 0, 0, 0, []),
  (79, .getfield 21, 4, 7, 0, []),
  (82, .iload_n 2, 2, 0, 0, []),
  (83, .iconst 0, 0, 0, 0, []),
  (84, .iastore, 0, 0, 0, []),
  (85, .aload_n 0, 0, 0, 0, []),
  (86, .getfield 24, 4, 8, 0, []),
  (89, .iload_n 2, 2, 0, 0, []),
  (90, .iconst (-1), 0, 0, (-1), []),
  (91, .iastore, 0, 0, 0, []),
  (92, .aload_n 0, 0, 0, 0, []),
  (93, .getfield 27, 4, 9, 0, []),
  (96, .iload_n 2, 2, 0, 0, []),
  (97, .iconst (-1), 0, 0, (-1), []),
  (98, .iastore, 0, 0, 0, []),
  (99, .aload_n 0, 0, 0, 0, []),
  (100, .getfield 30, 4, 10, 0, []),
  (103, .iload_n 2, 2, 0, 0, []),
  (104, .iconst (-1), 0, 0, (-1), []),
  (105, .iastore, 0, 0, 0, []),
  (106, .iinc 2 1, 2, 0, 1, []),
  (109, .goto (-74), 19, 0, 0, []),
  (112, .return_, 0, 0, 0, [])]
/-- RunOrder$Run.stateAtFirst(I)I -/
def cd_N_stateAtFirst : List ax_I := [
  (0, .aload_n 0, 0, 0, 0, []),
  (1, .getfield 36, 4, 0, 0, []),
  (4, .aload_n 0, 0, 0, 0, []),
  (5, .getfield 40, 4, 1, 0, []),
  (8, .getfield 110, 2, 2, 0, []),
  (11, .iload_n 1, 1, 0, 0, []),
  (12, .iaload, 0, 0, 0, []),
  (13, .aload_n 0, 0, 0, 0, []),
  (14, .getfield 40, 4, 1, 0, []),
  (17, .getfield 113, 2, 3, 0, []),
  (20, .iload_n 1, 1, 0, 0, []),
  (21, .iaload, 0, 0, 0, []),
  (22, .invokevirtual 116, 21, 3, 0, [1]),
  (25, .ifCond .eq 7, 16, 0, 0, []),
  (28, .iconst 5, 0, 0, 5, []),
  (29, .goto 5, 17, 0, 0, []),
  (32, .bipush 6, 0, 0, 6, []),
  (34, .ireturn, 0, 0, 0, [])]
/-- RunOrder$Run.endTries(I)V -/
def cd_N_endTries : List ax_I := [
  (0, .iconst 0, 0, 0, 0, []),
  (1, .istore_n 2, 2, 0, 0, []),
  (2, .iload_n 2, 2, 0, 0, []),
  (3, .aload_n 0, 0, 0, 0, []),
  (4, .getfield 40, 4, 1, 0, []),
  (7, .getfield 82, 2, 0, 0, []),
  (10, .if_icmp .ge 46, 32, 0, 0, []),
  (13, .aload_n 0, 0, 0, 0, []),
  (14, .getfield 27, 4, 9, 0, []),
  (17, .iload_n 2, 2, 0, 0, []),
  (18, .iaload, 0, 0, 0, []),
  (19, .iload_n 1, 1, 0, 0, []),
  (20, .if_icmp .ne 13, 19, 0, 0, []),
  (23, .aload_n 0, 0, 0, 0, []),
  (24, .iload_n 2, 2, 0, 0, []),
  (25, .iload_n 1, 1, 0, 0, []),
  (26, .iconst 0, 0, 0, 0, []),
  (27, .invokevirtual 119, 42, 4, 0, [4]),
  (30, .goto 20, 30, 0, 0, []),
  (33, .aload_n 0, 0, 0, 0, []),
  (34, .getfield 30, 4, 10, 0, []),
  (37, .iload_n 2, 2, 0, 0, []),
  (38, .iaload, 0, 0, 0, []),
  (39, .iload_n 1, 1, 0, 0, []),
  (40, .if_icmp .ne 10, 30, 0, 0, []),
  (43, .aload_n 0, 0, 0, 0, []),
  (44, .iload_n 2, 2, 0, 0, []),
  (45, .iload_n 1, 1, 0, 0, []),
  (46, .iconst 1, 0, 0, 1, []),
  (47, .invokevirtual 119, 42, 4, 0, [4]),
  (50, .iinc 2 1, 2, 0, 1, []),
  (53, .goto (-51), 2, 0, 0, []),
  (56, .return_, 0, 0, 0, [])]
/-- RunOrder$Run.endTry(III)V -/
def cd_N_endTry : List ax_I := [
  (0, .aload_n 0, 0, 0, 0, []),
  (1, .iload_n 1, 1, 0, 0, []),
  (2, .invokevirtual 123, 43, 4, 0, [4]),
  (5, .aload_n 0, 0, 0, 0, []),
  (6, .getfield 18, 4, 6, 0, []),
  (9, .iload_n 1, 1, 0, 0, []),
  (10, .iload_n 2, 2, 0, 0, []),
  (11, .iastore, 0, 0, 0, []),
  (12, .aload_n 0, 0, 0, 0, []),
  (13, .getfield 21, 4, 7, 0, []),
  (16, .iload_n 1, 1, 0, 0, []),
  (17, .iaload, 0, 0, 0, []),
  (18, .aload_n 0, 0, 0, 0, []),
  (19, .getfield 40, 4, 1, 0, []),
  (22, .getfield 126, 2, 6, 0, []),
  (25, .iload_n 1, 1, 0, 0, []),
  (26, .iaload, 0, 0, 0, []),
  (27, .if_icmp .le 20, 29, 0, 0, []),
  (30, .aload_n 0, 0, 0, 0, []),
  (31, .getfield 9, 4, 4, 0, []),
  (34, .iload_n 1, 1, 0, 0, []),
  (35, .iconst 1, 0, 0, 1, []),
  (36, .iastore, 0, 0, 0, []),
  (37, .aload_n 0, 0, 0, 0, []),
  (38, .getfield 24, 4, 8, 0, []),
  (41, .iload_n 1, 1, 0, 0, []),
  (42, .iload_n 3, 3, 0, 0, []),
  (43, .iastore, 0, 0, 0, []),
  (44, .goto 23, 40, 0, 0, []),
  (47, .aload_n 0, 0, 0, 0, []),
  (48, .getfield 9, 4, 4, 0, []),
  (51, .iload_n 1, 1, 0, 0, []),
  (52, .aload_n 0, 0, 0, 0, []),
  (53, .iload_n 1, 1, 0, 0, []),
  (54, .invokevirtual 129, 44, 3, 0, [4]),
  (57, .ifCond .eq 8, 38, 0, 0, []),
  (60, .bipush 6, 0, 0, 6, []),
  (62, .goto 4, 39, 0, 0, []),
  (65, .iconst 2, 0, 0, 2, []),
  (66, .iastore, 0, 0, 0, []),
  (67, .return_, 0, 0, 0, [])]
/-- RunOrder$Run.leaveBothSides(I)V -/
def cd_N_leaveBothSides : List ax_I := [
  (0, .aload_n 0, 0, 0, 0, []),
  (1, .getfield 36, 4, 0, 0, []),
  (4, .aload_n 0, 0, 0, 0, []),
  (5, .getfield 40, 4, 1, 0, []),
  (8, .getfield 110, 2, 2, 0, []),
  (11, .iload_n 1, 1, 0, 0, []),
  (12, .iaload, 0, 0, 0, []),
  (13, .aload_n 0, 0, 0, 0, []),
  (14, .getfield 40, 4, 1, 0, []),
  (17, .getfield 113, 2, 3, 0, []),
  (20, .iload_n 1, 1, 0, 0, []),
  (21, .iaload, 0, 0, 0, []),
  (22, .aload_n 0, 0, 0, 0, []),
  (23, .getfield 40, 4, 1, 0, []),
  (26, .getfield 133, 2, 4, 0, []),
  (29, .iload_n 1, 1, 0, 0, []),
  (30, .iaload, 0, 0, 0, []),
  (31, .invokevirtual 136, 25, 4, 0, [1]),
  (34, .aload_n 0, 0, 0, 0, []),
  (35, .getfield 27, 4, 9, 0, []),
  (38, .iload_n 1, 1, 0, 0, []),
  (39, .iconst (-1), 0, 0, (-1), []),
  (40, .iastore, 0, 0, 0, []),
  (41, .aload_n 0, 0, 0, 0, []),
  (42, .getfield 30, 4, 10, 0, []),
  (45, .iload_n 1, 1, 0, 0, []),
  (46, .iaload, 0, 0, 0, []),
  (47, .iconst (-1), 0, 0, (-1), []),
  (48, .if_icmp .eq 23, 41, 0, 0, []),
  (51, .aload_n 0, 0, 0, 0, []),
  (52, .getfield 36, 4, 0, 0, []),
  (55, .dup, 0, 0, 0, []),
  (56, .getfield 139, 1, 6, 0, []),
  (59, .iconst 1, 0, 0, 1, []),
  (60, .isub, 0, 0, 0, []),
  (61, .putfield 139, 1, 6, 0, []),
  (64, .aload_n 0, 0, 0, 0, []),
  (65, .getfield 30, 4, 10, 0, []),
  (68, .iload_n 1, 1, 0, 0, []),
  (69, .iconst (-1), 0, 0, (-1), []),
  (70, .iastore, 0, 0, 0, []),
  (71, .return_, 0, 0, 0, [])]
/-- RunOrder$Run.mayTryAgain(I)Z -/
def cd_N_mayTryAgain : List ax_I := [
  (0, .aload_n 0, 0, 0, 0, []),
  (1, .getfield 21, 4, 7, 0, []),
  (4, .iload_n 1, 1, 0, 0, []),
  (5, .iaload, 0, 0, 0, []),
  (6, .aload_n 0, 0, 0, 0, []),
  (7, .getfield 44, 4, 2, 0, []),
  (10, .getfield 142, 3, 1, 0, []),
  (13, .aload_n 0, 0, 0, 0, []),
  (14, .getfield 40, 4, 1, 0, []),
  (17, .getfield 145, 2, 7, 0, []),
  (20, .iload_n 1, 1, 0, 0, []),
  (21, .iaload, 0, 0, 0, []),
  (22, .iaload, 0, 0, 0, []),
  (23, .if_icmp .gt 7, 16, 0, 0, []),
  (26, .iconst 1, 0, 0, 1, []),
  (27, .goto 4, 17, 0, 0, []),
  (30, .iconst 0, 0, 0, 0, []),
  (31, .istore_n 2, 2, 0, 0, []),
  (32, .iload_n 2, 2, 0, 0, []),
  (33, .ifCond .eq 26, 31, 0, 0, []),
  (36, .aload_n 0, 0, 0, 0, []),
  (37, .getfield 44, 4, 2, 0, []),
  (40, .getfield 58, 3, 0, 0, []),
  (43, .iconst 1, 0, 0, 1, []),
  (44, .baload, 0, 0, 0, []),
  (45, .ifCond .eq 10, 29, 0, 0, []),
  (48, .aload_n 0, 0, 0, 0, []),
  (49, .invokevirtual 64, 45, 3, 0, [4]),
  (52, .ifCond .ne 7, 31, 0, 0, []),
  (55, .iconst 1, 0, 0, 1, []),
  (56, .goto 4, 32, 0, 0, []),
  (59, .iconst 0, 0, 0, 0, []),
  (60, .ireturn, 1, 0, 0, [])]
/-- RunOrder$Run.isOneBad()Z -/
def cd_N_isOneBad : List ax_I := [
  (0, .aload_n 0, 0, 0, 0, []),
  (1, .invokevirtual 148, 37, 3, 0, [4]),
  (4, .iconst (-1), 0, 0, (-1), []),
  (5, .if_icmp .eq 7, 6, 0, 0, []),
  (8, .iconst 1, 0, 0, 1, []),
  (9, .goto 4, 7, 0, 0, []),
  (12, .iconst 0, 0, 0, 0, []),
  (13, .ireturn, 1, 0, 0, [])]
/-- RunOrder$Run.skipHindered()V -/
def cd_N_skipHindered : List ax_I := [
  (0, .iconst 1, 0, 0, 1, []),
  (1, .istore_n 1, 1, 0, 0, []),
  (2, .iconst 0, 0, 0, 0, []),
  (3, .istore_n 2, 2, 0, 0, []),
  (4, .iload_n 1, 1, 0, 0, []),
  (5, .ifCond .eq 98, 57, 0, 0, []),
  (8, .iload_n 2, 2, 0, 0, []),
  (9, .aload_n 0, 0, 0, 0, []),
  (10, .getfield 40, 4, 1, 0, []),
  (13, .getfield 82, 2, 0, 0, []),
  (16, .if_icmp .ge 87, 57, 0, 0, []),
  (19, .aload_n 0, 0, 0, 0, []),
  (20, .iconst 2, 0, 0, 2, []),
  (21, .invokevirtual 151, 47, 3, 0, [4]),
  (24, .aload_n 0, 0, 0, 0, []),
  (25, .iconst 3, 0, 0, 3, []),
  (26, .invokevirtual 151, 47, 3, 0, [4]),
  (29, .ior, 0, 0, 0, []),
  (30, .aload_n 0, 0, 0, 0, []),
  (31, .iconst 5, 0, 0, 5, []),
  (32, .invokevirtual 151, 47, 3, 0, [4]),
  (35, .ior, 0, 0, 0, []),
  (36, .istore_n 3, 3, 0, 0, []),
  (37, .iconst 0, 0, 0, 0, []),
  (38, .istore_n 1, 1, 0, 0, []),
  (39, .iconst 0, 0, 0, 0, []),
  (40, .istore 4, 4, 0, 0, []),
  (42, .iload 4, 4, 0, 0, []),
  (44, .aload_n 0, 0, 0, 0, []),
  (45, .getfield 40, 4, 1, 0, []),
  (48, .getfield 82, 2, 0, 0, []),
  (51, .if_icmp .ge 46, 55, 0, 0, []),
  (54, .aload_n 0, 0, 0, 0, []),
  (55, .getfield 9, 4, 4, 0, []),
  (58, .iload 4, 4, 0, 0, []),
  (60, .iaload, 0, 0, 0, []),
  (61, .bipush 6, 0, 0, 6, []),
  (63, .if_icmp .ne 28, 53, 0, 0, []),
  (66, .aload_n 0, 0, 0, 0, []),
  (67, .getfield 40, 4, 1, 0, []),
  (70, .getfield 154, 2, 10, 0, []),
  (73, .iload 4, 4, 0, 0, []),
  (75, .iaload, 0, 0, 0, []),
  (76, .iload_n 3, 3, 0, 0, []),
  (77, .iand, 0, 0, 0, []),
  (78, .ifCond .eq 13, 53, 0, 0, []),
  (81, .aload_n 0, 0, 0, 0, []),
  (82, .getfield 9, 4, 4, 0, []),
  (85, .iload 4, 4, 0, 0, []),
  (87, .iconst 3, 0, 0, 3, []),
  (88, .iastore, 0, 0, 0, []),
  (89, .iconst 1, 0, 0, 1, []),
  (90, .istore_n 1, 1, 0, 0, []),
  (91, .iinc 4 1, 4, 0, 1, []),
  (94, .goto (-52), 27, 0, 0, []),
  (97, .iinc 2 1, 2, 0, 1, []),
  (100, .goto (-96), 4, 0, 0, []),
  (103, .return_, 0, 0, 0, [])]
/-- RunOrder$Run.allIn(I)I -/
def cd_N_allIn : List ax_I := [
  (0, .iconst 0, 0, 0, 0, []),
  (1, .istore_n 2, 2, 0, 0, []),
  (2, .iconst 0, 0, 0, 0, []),
  (3, .istore_n 3, 3, 0, 0, []),
  (4, .iload_n 3, 3, 0, 0, []),
  (5, .aload_n 0, 0, 0, 0, []),
  (6, .getfield 40, 4, 1, 0, []),
  (9, .getfield 82, 2, 0, 0, []),
  (12, .if_icmp .ge 26, 22, 0, 0, []),
  (15, .aload_n 0, 0, 0, 0, []),
  (16, .getfield 9, 4, 4, 0, []),
  (19, .iload_n 3, 3, 0, 0, []),
  (20, .iaload, 0, 0, 0, []),
  (21, .iload_n 1, 1, 0, 0, []),
  (22, .if_icmp .ne 10, 20, 0, 0, []),
  (25, .iload_n 2, 2, 0, 0, []),
  (26, .iload_n 3, 3, 0, 0, []),
  (27, .invokestatic 157, 17, 3, 0, []),
  (30, .ior, 0, 0, 0, []),
  (31, .istore_n 2, 2, 0, 0, []),
  (32, .iinc 3 1, 3, 0, 1, []),
  (35, .goto (-31), 4, 0, 0, []),
  (38, .iload_n 2, 2, 0, 0, []),
  (39, .ireturn, 0, 0, 0, [])]
/-- RunOrder$Run.stopWaiting()V -/
def cd_N_stopWaiting : List ax_I := [
  (0, .iconst 0, 0, 0, 0, []),
  (1, .istore_n 1, 1, 0, 0, []),
  (2, .iload_n 1, 1, 0, 0, []),
  (3, .aload_n 0, 0, 0, 0, []),
  (4, .getfield 40, 4, 1, 0, []),
  (7, .getfield 82, 2, 0, 0, []),
  (10, .if_icmp .ge 27, 20, 0, 0, []),
  (13, .aload_n 0, 0, 0, 0, []),
  (14, .getfield 9, 4, 4, 0, []),
  (17, .iload_n 1, 1, 0, 0, []),
  (18, .iaload, 0, 0, 0, []),
  (19, .bipush 6, 0, 0, 6, []),
  (21, .if_icmp .ne 10, 18, 0, 0, []),
  (24, .aload_n 0, 0, 0, 0, []),
  (25, .getfield 9, 4, 4, 0, []),
  (28, .iload_n 1, 1, 0, 0, []),
  (29, .iconst 4, 0, 0, 4, []),
  (30, .iastore, 0, 0, 0, []),
  (31, .iinc 1 1, 1, 0, 1, []),
  (34, .goto (-32), 2, 0, 0, []),
  (37, .return_, 0, 0, 0, [])]
/-- RunOrder$Run.beginReady(I)V -/
def cd_N_beginReady : List ax_I := [
  (0, .aload_n 0, 0, 0, 0, []),
  (1, .invokevirtual 160, 50, 3, 0, [4]),
  (4, .istore_n 2, 2, 0, 0, []),
  (5, .iconst 0, 0, 0, 0, []),
  (6, .istore_n 3, 3, 0, 0, []),
  (7, .iload_n 3, 3, 0, 0, []),
  (8, .aload_n 0, 0, 0, 0, []),
  (9, .getfield 40, 4, 1, 0, []),
  (12, .getfield 82, 2, 0, 0, []),
  (15, .if_icmp .ge 96, 58, 0, 0, []),
  (18, .aload_n 0, 0, 0, 0, []),
  (19, .iload_n 2, 2, 0, 0, []),
  (20, .invokevirtual 163, 52, 3, 0, [4]),
  (23, .istore 4, 4, 0, 0, []),
  (25, .iload 4, 4, 0, 0, []),
  (27, .iconst (-1), 0, 0, (-1), []),
  (28, .if_icmp .ne 4, 18, 0, 0, []),
  (31, .return_, 0, 0, 0, []),
  (32, .iload_n 2, 2, 0, 0, []),
  (33, .iload 4, 4, 0, 0, []),
  (35, .invokestatic 157, 17, 3, 0, []),
  (38, .iconst (-1), 0, 0, (-1), []),
  (39, .ixor, 0, 0, 0, []),
  (40, .iand, 0, 0, 0, []),
  (41, .istore_n 2, 2, 0, 0, []),
  (42, .aload_n 0, 0, 0, 0, []),
  (43, .getfield 36, 4, 0, 0, []),
  (46, .aload_n 0, 0, 0, 0, []),
  (47, .getfield 40, 4, 1, 0, []),
  (50, .getfield 110, 2, 2, 0, []),
  (53, .iload 4, 4, 0, 0, []),
  (55, .iaload, 0, 0, 0, []),
  (56, .aload_n 0, 0, 0, 0, []),
  (57, .getfield 40, 4, 1, 0, []),
  (60, .getfield 113, 2, 3, 0, []),
  (63, .iload 4, 4, 0, 0, []),
  (65, .iaload, 0, 0, 0, []),
  (66, .aload_n 0, 0, 0, 0, []),
  (67, .getfield 40, 4, 1, 0, []),
  (70, .getfield 133, 2, 4, 0, []),
  (73, .iload 4, 4, 0, 0, []),
  (75, .iaload, 0, 0, 0, []),
  (76, .invokevirtual 166, 22, 3, 0, [1]),
  (79, .ifCond .eq 13, 49, 0, 0, []),
  (82, .aload_n 0, 0, 0, 0, []),
  (83, .iload 4, 4, 0, 0, []),
  (85, .iload_n 1, 1, 0, 0, []),
  (86, .invokevirtual 170, 53, 4, 0, [4]),
  (89, .goto 16, 56, 0, 0, []),
  (92, .aload_n 0, 0, 0, 0, []),
  (93, .getfield 44, 4, 2, 0, []),
  (96, .getfield 58, 3, 0, 0, []),
  (99, .iconst 2, 0, 0, 2, []),
  (100, .baload, 0, 0, 0, []),
  (101, .ifCond .ne 4, 56, 0, 0, []),
  (104, .return_, 0, 0, 0, []),
  (105, .iinc 3 1, 3, 0, 1, []),
  (108, .goto (-101), 5, 0, 0, []),
  (111, .return_, 0, 0, 0, [])]
/-- RunOrder$Run.allReady()I -/
def cd_N_allReady : List ax_I := [
  (0, .aload_n 0, 0, 0, 0, []),
  (1, .iconst 1, 0, 0, 1, []),
  (2, .invokevirtual 151, 47, 3, 0, [4]),
  (5, .istore_n 1, 1, 0, 0, []),
  (6, .aload_n 0, 0, 0, 0, []),
  (7, .getfield 44, 4, 2, 0, []),
  (10, .getfield 58, 3, 0, 0, []),
  (13, .iconst 0, 0, 0, 0, []),
  (14, .baload, 0, 0, 0, []),
  (15, .ifCond .eq 10, 13, 0, 0, []),
  (18, .aload_n 0, 0, 0, 0, []),
  (19, .invokevirtual 174, 51, 3, 0, [4]),
  (22, .ifCond .ne 7, 15, 0, 0, []),
  (25, .iconst 1, 0, 0, 1, []),
  (26, .goto 4, 16, 0, 0, []),
  (29, .iconst 0, 0, 0, 0, []),
  (30, .istore_n 2, 2, 0, 0, []),
  (31, .iconst 0, 0, 0, 0, []),
  (32, .istore_n 3, 3, 0, 0, []),
  (33, .iconst 0, 0, 0, 0, []),
  (34, .istore 4, 4, 0, 0, []),
  (36, .iload 4, 4, 0, 0, []),
  (38, .aload_n 0, 0, 0, 0, []),
  (39, .getfield 40, 4, 1, 0, []),
  (42, .getfield 82, 2, 0, 0, []),
  (45, .if_icmp .ge 75, 63, 0, 0, []),
  (48, .aload_n 0, 0, 0, 0, []),
  (49, .getfield 9, 4, 4, 0, []),
  (52, .iload 4, 4, 0, 0, []),
  (54, .iaload, 0, 0, 0, []),
  (55, .bipush 6, 0, 0, 6, []),
  (57, .if_icmp .ne 24, 44, 0, 0, []),
  (60, .aload_n 0, 0, 0, 0, []),
  (61, .getfield 40, 4, 1, 0, []),
  (64, .getfield 154, 2, 10, 0, []),
  (67, .iload 4, 4, 0, 0, []),
  (69, .iaload, 0, 0, 0, []),
  (70, .iload_n 1, 1, 0, 0, []),
  (71, .iconst (-1), 0, 0, (-1), []),
  (72, .ixor, 0, 0, 0, []),
  (73, .iand, 0, 0, 0, []),
  (74, .ifCond .ne 7, 44, 0, 0, []),
  (77, .iconst 1, 0, 0, 1, []),
  (78, .goto 4, 45, 0, 0, []),
  (81, .iconst 0, 0, 0, 0, []),
  (82, .istore 5, 5, 0, 0, []),
  (84, .iload 5, 5, 0, 0, []),
  (86, .ifCond .eq 28, 61, 0, 0, []),
  (89, .iload_n 2, 2, 0, 0, []),
  (90, .ifCond .ne 16, 56, 0, 0, []),
  (93, .aload_n 0, 0, 0, 0, []),
  (94, .getfield 40, 4, 1, 0, []),
  (97, .getfield 177, 2, 8, 0, []),
  (100, .iload 4, 4, 0, 0, []),
  (102, .baload, 0, 0, 0, []),
  (103, .ifCond .ne 11, 61, 0, 0, []),
  (106, .iload_n 3, 3, 0, 0, []),
  (107, .iload 4, 4, 0, 0, []),
  (109, .invokestatic 157, 17, 3, 0, []),
  (112, .ior, 0, 0, 0, []),
  (113, .istore_n 3, 3, 0, 0, []),
  (114, .iinc 4 1, 4, 0, 1, []),
  (117, .goto (-81), 21, 0, 0, []),
  (120, .iload_n 3, 3, 0, 0, []),
  (121, .ireturn, 0, 0, 0, [])]
/-- RunOrder$Run.isOtherThanTestLeft()Z -/
def cd_N_isOtherThanTestLeft : List ax_I := [
  (0, .iconst 0, 0, 0, 0, []),
  (1, .istore_n 1, 1, 0, 0, []),
  (2, .iload_n 1, 1, 0, 0, []),
  (3, .aload_n 0, 0, 0, 0, []),
  (4, .getfield 40, 4, 1, 0, []),
  (7, .getfield 82, 2, 0, 0, []),
  (10, .if_icmp .ge 45, 29, 0, 0, []),
  (13, .aload_n 0, 0, 0, 0, []),
  (14, .getfield 40, 4, 1, 0, []),
  (17, .getfield 177, 2, 8, 0, []),
  (20, .iload_n 1, 1, 0, 0, []),
  (21, .baload, 0, 0, 0, []),
  (22, .ifCond .ne 27, 27, 0, 0, []),
  (25, .aload_n 0, 0, 0, 0, []),
  (26, .getfield 9, 4, 4, 0, []),
  (29, .iload_n 1, 1, 0, 0, []),
  (30, .iaload, 0, 0, 0, []),
  (31, .bipush 6, 0, 0, 6, []),
  (33, .if_icmp .eq 14, 25, 0, 0, []),
  (36, .aload_n 0, 0, 0, 0, []),
  (37, .getfield 9, 4, 4, 0, []),
  (40, .iload_n 1, 1, 0, 0, []),
  (41, .iaload, 0, 0, 0, []),
  (42, .bipush 7, 0, 0, 7, []),
  (44, .if_icmp .ne 5, 27, 0, 0, []),
  (47, .iconst 1, 0, 0, 1, []),
  (48, .ireturn, 1, 0, 0, []),
  (49, .iinc 1 1, 1, 0, 1, []),
  (52, .goto (-50), 2, 0, 0, []),
  (55, .iconst 0, 0, 0, 0, []),
  (56, .ireturn, 1, 0, 0, [])]
/-- RunOrder$Run.foremost(I)I -/
def cd_N_foremost : List ax_I := [
  (0, .iconst (-1), 0, 0, (-1), []),
  (1, .istore_n 2, 2, 0, 0, []),
  (2, .iconst 0, 0, 0, 0, []),
  (3, .istore_n 3, 3, 0, 0, []),
  (4, .iload_n 3, 3, 0, 0, []),
  (5, .aload_n 0, 0, 0, 0, []),
  (6, .getfield 40, 4, 1, 0, []),
  (9, .getfield 82, 2, 0, 0, []),
  (12, .if_icmp .ge 45, 31, 0, 0, []),
  (15, .iload_n 1, 1, 0, 0, []),
  (16, .iload_n 3, 3, 0, 0, []),
  (17, .invokestatic 102, 18, 3, 0, []),
  (20, .ifCond .eq 31, 29, 0, 0, []),
  (23, .iload_n 2, 2, 0, 0, []),
  (24, .iconst (-1), 0, 0, (-1), []),
  (25, .if_icmp .eq 24, 27, 0, 0, []),
  (28, .aload_n 0, 0, 0, 0, []),
  (29, .getfield 40, 4, 1, 0, []),
  (32, .getfield 180, 2, 12, 0, []),
  (35, .iload_n 3, 3, 0, 0, []),
  (36, .iaload, 0, 0, 0, []),
  (37, .aload_n 0, 0, 0, 0, []),
  (38, .getfield 40, 4, 1, 0, []),
  (41, .getfield 180, 2, 12, 0, []),
  (44, .iload_n 2, 2, 0, 0, []),
  (45, .iaload, 0, 0, 0, []),
  (46, .if_icmp .le 5, 29, 0, 0, []),
  (49, .iload_n 3, 3, 0, 0, []),
  (50, .istore_n 2, 2, 0, 0, []),
  (51, .iinc 3 1, 3, 0, 1, []),
  (54, .goto (-50), 4, 0, 0, []),
  (57, .iload_n 2, 2, 0, 0, []),
  (58, .ireturn, 0, 0, 0, [])]
/-- RunOrder$Run.beginTry(II)V -/
def cd_N_beginTry : List ax_I := [
  (0, .aload_n 0, 0, 0, 0, []),
  (1, .getfield 36, 4, 0, 0, []),
  (4, .aload_n 0, 0, 0, 0, []),
  (5, .getfield 40, 4, 1, 0, []),
  (8, .getfield 110, 2, 2, 0, []),
  (11, .iload_n 1, 1, 0, 0, []),
  (12, .iaload, 0, 0, 0, []),
  (13, .aload_n 0, 0, 0, 0, []),
  (14, .getfield 40, 4, 1, 0, []),
  (17, .getfield 113, 2, 3, 0, []),
  (20, .iload_n 1, 1, 0, 0, []),
  (21, .iaload, 0, 0, 0, []),
  (22, .aload_n 0, 0, 0, 0, []),
  (23, .getfield 40, 4, 1, 0, []),
  (26, .getfield 133, 2, 4, 0, []),
  (29, .iload_n 1, 1, 0, 0, []),
  (30, .iaload, 0, 0, 0, []),
  (31, .invokevirtual 183, 24, 4, 0, [1]),
  (34, .aload_n 0, 0, 0, 0, []),
  (35, .getfield 9, 4, 4, 0, []),
  (38, .iload_n 1, 1, 0, 0, []),
  (39, .bipush 7, 0, 0, 7, []),
  (41, .iastore, 0, 0, 0, []),
  (42, .aload_n 0, 0, 0, 0, []),
  (43, .getfield 27, 4, 9, 0, []),
  (46, .iload_n 1, 1, 0, 0, []),
  (47, .iload_n 2, 2, 0, 0, []),
  (48, .aload_n 0, 0, 0, 0, []),
  (49, .getfield 40, 4, 1, 0, []),
  (52, .getfield 186, 2, 1, 0, []),
  (55, .iload_n 1, 1, 0, 0, []),
  (56, .iaload, 0, 0, 0, []),
  (57, .iadd, 0, 0, 0, []),
  (58, .iastore, 0, 0, 0, []),
  (59, .aload_n 0, 0, 0, 0, []),
  (60, .getfield 44, 4, 2, 0, []),
  (63, .getfield 58, 3, 0, 0, []),
  (66, .iconst 3, 0, 0, 3, []),
  (67, .baload, 0, 0, 0, []),
  (68, .ifCond .eq 55, 68, 0, 0, []),
  (71, .aload_n 0, 0, 0, 0, []),
  (72, .getfield 40, 4, 1, 0, []),
  (75, .getfield 189, 2, 5, 0, []),
  (78, .iload_n 1, 1, 0, 0, []),
  (79, .iaload, 0, 0, 0, []),
  (80, .ifCond .le 43, 68, 0, 0, []),
  (83, .aload_n 0, 0, 0, 0, []),
  (84, .getfield 36, 4, 0, 0, []),
  (87, .invokevirtual 192, 23, 3, 0, [1]),
  (90, .ifCond .eq 33, 68, 0, 0, []),
  (93, .aload_n 0, 0, 0, 0, []),
  (94, .getfield 36, 4, 0, 0, []),
  (97, .dup, 0, 0, 0, []),
  (98, .getfield 139, 1, 6, 0, []),
  (101, .iconst 1, 0, 0, 1, []),
  (102, .iadd, 0, 0, 0, []),
  (103, .putfield 139, 1, 6, 0, []),
  (106, .aload_n 0, 0, 0, 0, []),
  (107, .getfield 30, 4, 10, 0, []),
  (110, .iload_n 1, 1, 0, 0, []),
  (111, .iload_n 2, 2, 0, 0, []),
  (112, .aload_n 0, 0, 0, 0, []),
  (113, .getfield 40, 4, 1, 0, []),
  (116, .getfield 189, 2, 5, 0, []),
  (119, .iload_n 1, 1, 0, 0, []),
  (120, .iaload, 0, 0, 0, []),
  (121, .iadd, 0, 0, 0, []),
  (122, .iastore, 0, 0, 0, []),
  (123, .aload_n 0, 0, 0, 0, []),
  (124, .getfield 21, 4, 7, 0, []),
  (127, .iload_n 1, 1, 0, 0, []),
  (128, .iaload, 0, 0, 0, []),
  (129, .ifCond .ne 10, 78, 0, 0, []),
  (132, .aload_n 0, 0, 0, 0, []),
  (133, .getfield 15, 4, 5, 0, []),
  (136, .iload_n 1, 1, 0, 0, []),
  (137, .iload_n 2, 2, 0, 0, []),
  (138, .iastore, 0, 0, 0, []),
  (139, .aload_n 0, 0, 0, 0, []),
  (140, .getfield 21, 4, 7, 0, []),
  (143, .iload_n 1, 1, 0, 0, []),
  (144, .dup2, 0, 0, 0, []),
  (145, .iaload, 0, 0, 0, []),
  (146, .iconst 1, 0, 0, 1, []),
  (147, .iadd, 0, 0, 0, []),
  (148, .iastore, 0, 0, 0, []),
  (149, .aload_n 0, 0, 0, 0, []),
  (150, .getfield 88, 4, 12, 0, []),
  (153, .bipush 96, 0, 0, 96, []),
  (155, .if_icmp .ge 23, 102, 0, 0, []),
  (158, .aload_n 0, 0, 0, 0, []),
  (159, .getfield 33, 4, 11, 0, []),
  (162, .aload_n 0, 0, 0, 0, []),
  (163, .getfield 88, 4, 12, 0, []),
  (166, .iload_n 1, 1, 0, 0, []),
  (167, .iastore, 0, 0, 0, []),
  (168, .aload_n 0, 0, 0, 0, []),
  (169, .dup, 0, 0, 0, []),
  (170, .getfield 88, 4, 12, 0, []),
  (173, .iconst 1, 0, 0, 1, []),
  (174, .iadd, 0, 0, 0, []),
  (175, .putfield 88, 4, 12, 0, []),
  (178, .return_, 0, 0, 0, [])]
/-- RunOrder$Run.nextEnd()I -/
def cd_N_nextEnd : List ax_I := [
  (0, .iconst (-1), 0, 0, (-1), []),
  (1, .istore_n 1, 1, 0, 0, []),
  (2, .iconst 0, 0, 0, 0, []),
  (3, .istore_n 2, 2, 0, 0, []),
  (4, .iload_n 2, 2, 0, 0, []),
  (5, .aload_n 0, 0, 0, 0, []),
  (6, .getfield 40, 4, 1, 0, []),
  (9, .getfield 82, 2, 0, 0, []),
  (12, .if_icmp .ge 31, 25, 0, 0, []),
  (15, .iload_n 1, 1, 0, 0, []),
  (16, .aload_n 0, 0, 0, 0, []),
  (17, .getfield 27, 4, 9, 0, []),
  (20, .iload_n 2, 2, 0, 0, []),
  (21, .iaload, 0, 0, 0, []),
  (22, .invokestatic 195, 55, 3, 0, []),
  (25, .istore_n 1, 1, 0, 0, []),
  (26, .iload_n 1, 1, 0, 0, []),
  (27, .aload_n 0, 0, 0, 0, []),
  (28, .getfield 30, 4, 10, 0, []),
  (31, .iload_n 2, 2, 0, 0, []),
  (32, .iaload, 0, 0, 0, []),
  (33, .invokestatic 195, 55, 3, 0, []),
  (36, .istore_n 1, 1, 0, 0, []),
  (37, .iinc 2 1, 2, 0, 1, []),
  (40, .goto (-36), 4, 0, 0, []),
  (43, .iload_n 1, 1, 0, 0, []),
  (44, .ireturn, 0, 0, 0, [])]
/-- RunOrder$Run.sooner(II)I -/
def cd_N_sooner : List ax_I := [
  (0, .iload_n 0, 0, 0, 0, []),
  (1, .iconst (-1), 0, 0, (-1), []),
  (2, .if_icmp .ne 5, 5, 0, 0, []),
  (5, .iload_n 1, 1, 0, 0, []),
  (6, .ireturn, 0, 0, 0, []),
  (7, .iload_n 1, 1, 0, 0, []),
  (8, .iconst (-1), 0, 0, (-1), []),
  (9, .if_icmp .ne 7, 10, 0, 0, []),
  (12, .iload_n 0, 0, 0, 0, []),
  (13, .goto 8, 13, 0, 0, []),
  (16, .iload_n 0, 0, 0, 0, []),
  (17, .iload_n 1, 1, 0, 0, []),
  (18, .invokestatic 199, 0, 2, 0, []),
  (21, .ireturn, 0, 0, 0, [])]
/-- RunOrderModel.<init>(II)V -/
def cd_M_init : List ax_I := [
  (0, .aload_n 0, 0, 0, 0, []),
  (1, .invokespecial 1, 0, 0, 0, []),
  (4, .aload_n 0, 0, 0, 0, []),
  (5, .bipush 24, 0, 0, 24, []),
  (7, .newarray .int, 0, 0, 0, []),
  (9, .putfield 7, 5, 5, 2, []),
  (12, .aload_n 0, 0, 0, 0, []),
  (13, .bipush 24, 0, 0, 24, []),
  (15, .newarray .int, 0, 0, 0, []),
  (17, .putfield 13, 5, 6, 2, []),
  (20, .aload_n 0, 0, 0, 0, []),
  (21, .bipush 24, 0, 0, 24, []),
  (23, .newarray .int, 0, 0, 0, []),
  (25, .putfield 16, 5, 7, 2, []),
  (28, .aload_n 0, 0, 0, 0, []),
  (29, .bipush 24, 0, 0, 24, []),
  (31, .newarray .int, 0, 0, 0, []),
  (33, .putfield 19, 5, 8, 2, []),
  (36, .aload_n 0, 0, 0, 0, []),
  (37, .bipush 24, 0, 0, 24, []),
  (39, .newarray .int, 0, 0, 0, []),
  (41, .putfield 22, 5, 9, 2, []),
  (44, .aload_n 0, 0, 0, 0, []),
  (45, .bipush 24, 0, 0, 24, []),
  (47, .newarray .int, 0, 0, 0, []),
  (49, .putfield 25, 5, 10, 2, []),
  (52, .aload_n 0, 0, 0, 0, []),
  (53, .bipush 24, 0, 0, 24, []),
  (55, .newarray .int, 0, 0, 0, []),
  (57, .putfield 28, 5, 11, 2, []),
  (60, .aload_n 0, 0, 0, 0, []),
  (61, .bipush 24, 0, 0, 24, []),
  (63, .newarray .int, 0, 0, 0, []),
  (65, .putfield 31, 5, 12, 2, []),
  (68, .aload_n 0, 0, 0, 0, []),
  (69, .bipush 24, 0, 0, 24, []),
  (71, .newarray .boolean, 1, 0, 0, []),
  (73, .putfield 34, 5, 13, 2, []),
  (76, .aload_n 0, 0, 0, 0, []),
  (77, .bipush 24, 0, 0, 24, []),
  (79, .newarray .boolean, 1, 0, 0, []),
  (81, .putfield 38, 5, 14, 2, []),
  (84, .aload_n 0, 0, 0, 0, []),
  (85, .bipush 24, 0, 0, 24, []),
  (87, .newarray .boolean, 1, 0, 0, []),
  (89, .putfield 41, 5, 15, 2, []),
  (92, .aload_n 0, 0, 0, 0, []),
  (93, .iconst 4, 0, 0, 4, []),
  (94, .newarray .boolean, 1, 0, 0, []),
  (96, .putfield 44, 5, 16, 2, []),
  (99, .aload_n 0, 0, 0, 0, []),
  (100, .iconst 4, 0, 0, 4, []),
  (101, .newarray .int, 0, 0, 0, []),
  (103, .putfield 47, 5, 17, 2, []),
  (106, .aload_n 0, 0, 0, 0, []),
  (107, .bipush 24, 0, 0, 24, []),
  (109, .newarray .int, 0, 0, 0, []),
  (111, .putfield 50, 5, 18, 2, []),
  (114, .aload_n 0, 0, 0, 0, []),
  (115, .bipush 24, 0, 0, 24, []),
  (117, .newarray .int, 0, 0, 0, []),
  (119, .putfield 53, 5, 20, 2, []),
  (122, .aload_n 0, 0, 0, 0, []),
  (123, .bipush 24, 0, 0, 24, []),
  (125, .newarray .int, 0, 0, 0, []),
  (127, .putfield 56, 5, 21, 2, []),
  (130, .aload_n 0, 0, 0, 0, []),
  (131, .bipush 24, 0, 0, 24, []),
  (133, .newarray .int, 0, 0, 0, []),
  (135, .putfield 59, 5, 22, 2, []),
  (138, .aload_n 0, 0, 0, 0, []),
  (139, .bipush 24, 0, 0, 24, []),
  (141, .newarray .int, 0, 0, 0, []),
  (143, .putfield 62, 5, 23, 2, []),
  (146, .aload_n 0, 0, 0, 0, []),
  (147, .bipush 24, 0, 0, 24, []),
  (149, .newarray .int, 0, 0, 0, []),
  (151, .putfield 65, 5, 24, 2, []),
  (154, .aload_n 0, 0, 0, 0, []),
  (155, .bipush 24, 0, 0, 24, []),
  (157, .newarray .int, 0, 0, 0, []),
  (159, .putfield 68, 5, 25, 2, []),
  (162, .aload_n 0, 0, 0, 0, []),
  (163, .bipush 24, 0, 0, 24, []),
  (165, .newarray .int, 0, 0, 0, []),
  (167, .putfield 71, 5, 26, 2, []),
  (170, .aload_n 0, 0, 0, 0, []),
  (171, .bipush 24, 0, 0, 24, []),
  (173, .newarray .int, 0, 0, 0, []),
  (175, .putfield 74, 5, 27, 2, []),
  (178, .aload_n 0, 0, 0, 0, []),
  (179, .bipush 24, 0, 0, 24, []),
  (181, .newarray .boolean, 1, 0, 0, []),
  (183, .putfield 77, 5, 28, 2, []),
  (186, .aload_n 0, 0, 0, 0, []),
  (187, .bipush 100, 0, 0, 100, []),
  (189, .newarray .int, 0, 0, 0, []),
  (191, .putfield 80, 5, 29, 2, []),
  (194, .aload_n 0, 0, 0, 0, []),
  (195, .iload_n 1, 1, 0, 0, []),
  (196, .iconst 1, 0, 0, 1, []),
  (197, .bipush 16, 0, 0, 16, []),
  (199, .invokestatic 83, 57, 3, 0, []),
  (202, .putfield 87, 5, 1, 0, []),
  (205, .aload_n 0, 0, 0, 0, []),
  (206, .iload_n 2, 2, 0, 0, []),
  (207, .iconst 0, 0, 0, 0, []),
  (208, .ldc 91, 0, 0, 1000000, []),
  (210, .invokestatic 83, 57, 3, 0, []),
  (213, .putfield 92, 5, 2, 0, []),
  (216, .return_, 0, 0, 0, [])]
/-- RunOrderModel.held(III)I -/
def cd_M_held : List ax_I := [
  (0, .iload_n 0, 0, 0, 0, []),
  (1, .iload_n 1, 1, 0, 0, []),
  (2, .if_icmp .ge 7, 5, 0, 0, []),
  (5, .iload_n 1, 1, 0, 0, []),
  (6, .goto 13, 11, 0, 0, []),
  (9, .iload_n 0, 0, 0, 0, []),
  (10, .iload_n 2, 2, 0, 0, []),
  (11, .if_icmp .le 7, 10, 0, 0, []),
  (14, .iload_n 2, 2, 0, 0, []),
  (15, .goto 4, 11, 0, 0, []),
  (18, .iload_n 0, 0, 0, 0, []),
  (19, .ireturn, 0, 0, 0, [])]
/-- RunOrderModel.in(III)Z -/
def cd_M_in : List ax_I := [
  (0, .iload_n 0, 0, 0, 0, []),
  (1, .iload_n 1, 1, 0, 0, []),
  (2, .if_icmp .lt 12, 8, 0, 0, []),
  (5, .iload_n 0, 0, 0, 0, []),
  (6, .iload_n 2, 2, 0, 0, []),
  (7, .if_icmp .gt 7, 8, 0, 0, []),
  (10, .iconst 1, 0, 0, 1, []),
  (11, .goto 4, 9, 0, 0, []),
  (14, .iconst 0, 0, 0, 0, []),
  (15, .ireturn, 1, 0, 0, [])]
/-- RunOrderModel.isAction(I)Z -/
def cd_M_isAction : List ax_I := [
  (0, .iload_n 1, 1, 0, 0, []),
  (1, .iconst 0, 0, 0, 0, []),
  (2, .aload_n 0, 0, 0, 0, []),
  (3, .getfield 98, 5, 4, 0, []),
  (6, .iconst 1, 0, 0, 1, []),
  (7, .isub, 0, 0, 0, []),
  (8, .invokestatic 101, 58, 3, 0, []),
  (11, .ireturn, 1, 0, 0, [])]
/-- RunOrderModel.slots(I)Z -/
def cd_M_slots : List ax_I := [
  (0, .aload_n 0, 0, 0, 0, []),
  (1, .iconst 0, 0, 0, 0, []),
  (2, .putfield 95, 5, 0, 0, []),
  (5, .iload_n 1, 1, 0, 0, []),
  (6, .iconst 0, 0, 0, 0, []),
  (7, .iconst 4, 0, 0, 4, []),
  (8, .invokestatic 101, 58, 3, 0, []),
  (11, .ifCond .ne 5, 10, 0, 0, []),
  (14, .iconst 0, 0, 0, 0, []),
  (15, .ireturn, 1, 0, 0, []),
  (16, .aload_n 0, 0, 0, 0, []),
  (17, .iload_n 1, 1, 0, 0, []),
  (18, .putfield 105, 5, 3, 0, []),
  (21, .iconst 1, 0, 0, 1, []),
  (22, .ireturn, 1, 0, 0, [])]
/-- RunOrderModel.action(III)I -/
def cd_M_action : List ax_I := [
  (0, .aload_n 0, 0, 0, 0, []),
  (1, .iconst 0, 0, 0, 0, []),
  (2, .putfield 95, 5, 0, 0, []),
  (5, .aload_n 0, 0, 0, 0, []),
  (6, .getfield 98, 5, 4, 0, []),
  (9, .bipush 24, 0, 0, 24, []),
  (11, .if_icmp .eq 34, 22, 0, 0, []),
  (14, .iload_n 1, 1, 0, 0, []),
  (15, .iconst 1, 0, 0, 1, []),
  (16, .sipush 1000, 0, 0, 1000, []),
  (19, .invokestatic 101, 58, 3, 0, []),
  (22, .ifCond .eq 23, 22, 0, 0, []),
  (25, .iload_n 2, 2, 0, 0, []),
  (26, .iconst 0, 0, 0, 0, []),
  (27, .bipush 16, 0, 0, 16, []),
  (29, .invokestatic 101, 58, 3, 0, []),
  (32, .ifCond .eq 13, 22, 0, 0, []),
  (35, .iload_n 3, 3, 0, 0, []),
  (36, .iconst 0, 0, 0, 0, []),
  (37, .ldc 91, 0, 0, 1000000, []),
  (39, .invokestatic 101, 58, 3, 0, []),
  (42, .ifCond .ne 5, 24, 0, 0, []),
  (45, .iconst (-1), 0, 0, (-1), []),
  (46, .ireturn, 0, 0, 0, []),
  (47, .aload_n 0, 0, 0, 0, []),
  (48, .getfield 7, 5, 5, 0, []),
  (51, .aload_n 0, 0, 0, 0, []),
  (52, .getfield 98, 5, 4, 0, []),
  (55, .iload_n 1, 1, 0, 0, []),
  (56, .iastore, 0, 0, 0, []),
  (57, .aload_n 0, 0, 0, 0, []),
  (58, .getfield 13, 5, 6, 0, []),
  (61, .aload_n 0, 0, 0, 0, []),
  (62, .getfield 98, 5, 4, 0, []),
  (65, .iload_n 2, 2, 0, 0, []),
  (66, .iastore, 0, 0, 0, []),
  (67, .aload_n 0, 0, 0, 0, []),
  (68, .getfield 16, 5, 7, 0, []),
  (71, .aload_n 0, 0, 0, 0, []),
  (72, .getfield 98, 5, 4, 0, []),
  (75, .iload_n 3, 3, 0, 0, []),
  (76, .iastore, 0, 0, 0, []),
  (77, .aload_n 0, 0, 0, 0, []),
  (78, .dup, 0, 0, 0, []),
  (79, .getfield 98, 5, 4, 0, []),
  (82, .iconst 1, 0, 0, 1, []),
  (83, .iadd, 0, 0, 0, []),
  (84, .putfield 98, 5, 4, 0, []),
  (87, .aload_n 0, 0, 0, 0, []),
  (88, .getfield 98, 5, 4, 0, []),
  (91, .iconst 1, 0, 0, 1, []),
  (92, .isub, 0, 0, 0, []),
  (93, .ireturn, 0, 0, 0, [])]
/-- RunOrderModel.about(IZII)Z -/
def cd_M_about : List ax_I := [
  (0, .aload_n 0, 0, 0, 0, []),
  (1, .iconst 0, 0, 0, 0, []),
  (2, .putfield 95, 5, 0, 0, []),
  (5, .aload_n 0, 0, 0, 0, []),
  (6, .iload_n 1, 1, 0, 0, []),
  (7, .invokevirtual 108, 59, 3, 0, [5]),
  (10, .ifCond .eq 15, 12, 0, 0, []),
  (13, .iload 4, 4, 0, 0, []),
  (15, .iconst 0, 0, 0, 0, []),
  (16, .sipush 1000, 0, 0, 1000, []),
  (19, .invokestatic 101, 58, 3, 0, []),
  (22, .ifCond .ne 5, 14, 0, 0, []),
  (25, .iconst 0, 0, 0, 0, []),
  (26, .ireturn, 1, 0, 0, []),
  (27, .aload_n 0, 0, 0, 0, []),
  (28, .getfield 34, 5, 13, 0, []),
  (31, .iload_n 1, 1, 0, 0, []),
  (32, .iload_n 2, 2, 0, 0, []),
  (33, .bastore, 0, 0, 0, []),
  (34, .aload_n 0, 0, 0, 0, []),
  (35, .getfield 19, 5, 8, 0, []),
  (38, .iload_n 1, 1, 0, 0, []),
  (39, .iload_n 3, 3, 0, 0, []),
  (40, .sipush 255, 0, 0, 255, []),
  (43, .iand, 0, 0, 0, []),
  (44, .iastore, 0, 0, 0, []),
  (45, .aload_n 0, 0, 0, 0, []),
  (46, .getfield 22, 5, 9, 0, []),
  (49, .iload_n 1, 1, 0, 0, []),
  (50, .iload 4, 4, 0, 0, []),
  (52, .iastore, 0, 0, 0, []),
  (53, .iconst 1, 0, 0, 1, []),
  (54, .ireturn, 1, 0, 0, [])]
/-- RunOrderModel.fails(III)Z -/
def cd_M_fails : List ax_I := [
  (0, .aload_n 0, 0, 0, 0, []),
  (1, .iconst 0, 0, 0, 0, []),
  (2, .putfield 95, 5, 0, 0, []),
  (5, .aload_n 0, 0, 0, 0, []),
  (6, .iload_n 1, 1, 0, 0, []),
  (7, .invokevirtual 108, 59, 3, 0, [5]),
  (10, .ifCond .eq 21, 17, 0, 0, []),
  (13, .iload_n 2, 2, 0, 0, []),
  (14, .iconst 0, 0, 0, 0, []),
  (15, .iconst 3, 0, 0, 3, []),
  (16, .invokestatic 101, 58, 3, 0, []),
  (19, .ifCond .eq 12, 17, 0, 0, []),
  (22, .iload_n 3, 3, 0, 0, []),
  (23, .iconst 0, 0, 0, 0, []),
  (24, .iconst 3, 0, 0, 3, []),
  (25, .invokestatic 101, 58, 3, 0, []),
  (28, .ifCond .ne 5, 19, 0, 0, []),
  (31, .iconst 0, 0, 0, 0, []),
  (32, .ireturn, 1, 0, 0, []),
  (33, .aload_n 0, 0, 0, 0, []),
  (34, .getfield 25, 5, 10, 0, []),
  (37, .iload_n 1, 1, 0, 0, []),
  (38, .iload_n 2, 2, 0, 0, []),
  (39, .iastore, 0, 0, 0, []),
  (40, .aload_n 0, 0, 0, 0, []),
  (41, .getfield 28, 5, 11, 0, []),
  (44, .iload_n 1, 1, 0, 0, []),
  (45, .iload_n 3, 3, 0, 0, []),
  (46, .iastore, 0, 0, 0, []),
  (47, .iconst 1, 0, 0, 1, []),
  (48, .ireturn, 1, 0, 0, [])]
/-- RunOrderModel.all(I)I -/
def cd_M_all : List ax_I := [
  (0, .aload_n 0, 0, 0, 0, []),
  (1, .getfield 31, 5, 12, 0, []),
  (4, .iload_n 1, 1, 0, 0, []),
  (5, .iaload, 0, 0, 0, []),
  (6, .istore_n 2, 2, 0, 0, []),
  (7, .iconst 1, 0, 0, 1, []),
  (8, .istore_n 3, 3, 0, 0, []),
  (9, .iload_n 3, 3, 0, 0, []),
  (10, .ifCond .eq 69, 45, 0, 0, []),
  (13, .iload_n 2, 2, 0, 0, []),
  (14, .istore 4, 4, 0, 0, []),
  (16, .iconst 0, 0, 0, 0, []),
  (17, .istore 5, 5, 0, 0, []),
  (19, .iload 5, 5, 0, 0, []),
  (21, .aload_n 0, 0, 0, 0, []),
  (22, .getfield 98, 5, 4, 0, []),
  (25, .if_icmp .ge 36, 35, 0, 0, []),
  (28, .iload_n 2, 2, 0, 0, []),
  (29, .iload 5, 5, 0, 0, []),
  (31, .ishr, 0, 0, 0, []),
  (32, .iconst 1, 0, 0, 1, []),
  (33, .iand, 0, 0, 0, []),
  (34, .iconst 1, 0, 0, 1, []),
  (35, .if_icmp .ne 16, 31, 0, 0, []),
  (38, .iload 4, 4, 0, 0, []),
  (40, .aload_n 0, 0, 0, 0, []),
  (41, .getfield 31, 5, 12, 0, []),
  (44, .iload 5, 5, 0, 0, []),
  (46, .iaload, 0, 0, 0, []),
  (47, .ior, 0, 0, 0, []),
  (48, .goto 5, 32, 0, 0, []),
  (51, .iload 4, 4, 0, 0, []),
  (53, .istore 4, 4, 0, 0, []),
  (55, .iinc 5 1, 5, 0, 1, []),
  (58, .goto (-39), 13, 0, 0, []),
  (61, .iload 4, 4, 0, 0, []),
  (63, .iload_n 2, 2, 0, 0, []),
  (64, .if_icmp .eq 7, 40, 0, 0, []),
  (67, .iconst 1, 0, 0, 1, []),
  (68, .goto 4, 41, 0, 0, []),
  (71, .iconst 0, 0, 0, 0, []),
  (72, .istore_n 3, 3, 0, 0, []),
  (73, .iload 4, 4, 0, 0, []),
  (75, .istore_n 2, 2, 0, 0, []),
  (76, .goto (-67), 7, 0, 0, []),
  (79, .iload_n 2, 2, 0, 0, []),
  (80, .ireturn, 0, 0, 0, [])]
/-- RunOrderModel.needs(II)I -/
def cd_M_needs : List ax_I := [
  (0, .aload_n 0, 0, 0, 0, []),
  (1, .iconst 0, 0, 0, 0, []),
  (2, .putfield 95, 5, 0, 0, []),
  (5, .aload_n 0, 0, 0, 0, []),
  (6, .iload_n 1, 1, 0, 0, []),
  (7, .invokevirtual 108, 59, 3, 0, [5]),
  (10, .ifCond .eq 25, 21, 0, 0, []),
  (13, .aload_n 0, 0, 0, 0, []),
  (14, .iload_n 2, 2, 0, 0, []),
  (15, .invokevirtual 108, 59, 3, 0, [5]),
  (18, .ifCond .eq 17, 21, 0, 0, []),
  (21, .aload_n 0, 0, 0, 0, []),
  (22, .getfield 31, 5, 12, 0, []),
  (25, .iload_n 1, 1, 0, 0, []),
  (26, .iaload, 0, 0, 0, []),
  (27, .iload_n 2, 2, 0, 0, []),
  (28, .ishr, 0, 0, 0, []),
  (29, .iconst 1, 0, 0, 1, []),
  (30, .iand, 0, 0, 0, []),
  (31, .iconst 1, 0, 0, 1, []),
  (32, .if_icmp .ne 5, 23, 0, 0, []),
  (35, .iconst (-1), 0, 0, (-1), []),
  (36, .ireturn, 0, 0, 0, []),
  (37, .iload_n 1, 1, 0, 0, []),
  (38, .iload_n 2, 2, 0, 0, []),
  (39, .if_icmp .eq 16, 35, 0, 0, []),
  (42, .aload_n 0, 0, 0, 0, []),
  (43, .iload_n 2, 2, 0, 0, []),
  (44, .invokevirtual 112, 64, 3, 0, [5]),
  (47, .iload_n 1, 1, 0, 0, []),
  (48, .ishr, 0, 0, 0, []),
  (49, .iconst 1, 0, 0, 1, []),
  (50, .iand, 0, 0, 0, []),
  (51, .iconst 1, 0, 0, 1, []),
  (52, .if_icmp .ne 6, 37, 0, 0, []),
  (55, .bipush (-2), 0, 0, (-2), []),
  (57, .ireturn, 0, 0, 0, []),
  (58, .aload_n 0, 0, 0, 0, []),
  (59, .getfield 31, 5, 12, 0, []),
  (62, .iload_n 1, 1, 0, 0, []),
  (63, .aload_n 0, 0, 0, 0, []),
  (64, .getfield 31, 5, 12, 0, []),
  (67, .iload_n 1, 1, 0, 0, []),
  (68, .iaload, 0, 0, 0, []),
  (69, .iconst 1, 0, 0, 1, []),
  (70, .iload_n 2, 2, 0, 0, []),
  (71, .ishl, 0, 0, 0, []),
  (72, .ior, 0, 0, 0, []),
  (73, .iastore, 0, 0, 0, []),
  (74, .iconst 1, 0, 0, 1, []),
  (75, .ireturn, 0, 0, 0, [])]
/-- RunOrderModel.wish(IZ)Z -/
def cd_M_wish : List ax_I := [
  (0, .aload_n 0, 0, 0, 0, []),
  (1, .iconst 0, 0, 0, 0, []),
  (2, .putfield 95, 5, 0, 0, []),
  (5, .aload_n 0, 0, 0, 0, []),
  (6, .iload_n 1, 1, 0, 0, []),
  (7, .invokevirtual 108, 59, 3, 0, [5]),
  (10, .ifCond .ne 5, 9, 0, 0, []),
  (13, .iconst 0, 0, 0, 0, []),
  (14, .ireturn, 1, 0, 0, []),
  (15, .aload_n 0, 0, 0, 0, []),
  (16, .getfield 38, 5, 14, 0, []),
  (19, .iload_n 1, 1, 0, 0, []),
  (20, .iload_n 2, 2, 0, 0, []),
  (21, .bastore, 0, 0, 0, []),
  (22, .iconst 1, 0, 0, 1, []),
  (23, .ireturn, 1, 0, 0, [])]
/-- RunOrderModel.mode(IZ)Z -/
def cd_M_mode : List ax_I := [
  (0, .aload_n 0, 0, 0, 0, []),
  (1, .iconst 0, 0, 0, 0, []),
  (2, .putfield 95, 5, 0, 0, []),
  (5, .iload_n 1, 1, 0, 0, []),
  (6, .iconst 0, 0, 0, 0, []),
  (7, .iconst 3, 0, 0, 3, []),
  (8, .invokestatic 101, 58, 3, 0, []),
  (11, .ifCond .ne 5, 10, 0, 0, []),
  (14, .iconst 0, 0, 0, 0, []),
  (15, .ireturn, 1, 0, 0, []),
  (16, .aload_n 0, 0, 0, 0, []),
  (17, .getfield 44, 5, 16, 0, []),
  (20, .iload_n 1, 1, 0, 0, []),
  (21, .iload_n 2, 2, 0, 0, []),
  (22, .bastore, 0, 0, 0, []),
  (23, .iconst 1, 0, 0, 1, []),
  (24, .ireturn, 1, 0, 0, [])]
/-- RunOrderModel.retries(II)Z -/
def cd_M_retries : List ax_I := [
  (0, .aload_n 0, 0, 0, 0, []),
  (1, .iconst 0, 0, 0, 0, []),
  (2, .putfield 95, 5, 0, 0, []),
  (5, .iload_n 1, 1, 0, 0, []),
  (6, .iconst 0, 0, 0, 0, []),
  (7, .iconst 3, 0, 0, 3, []),
  (8, .invokestatic 101, 58, 3, 0, []),
  (11, .ifCond .eq 12, 13, 0, 0, []),
  (14, .iload_n 2, 2, 0, 0, []),
  (15, .iconst 0, 0, 0, 0, []),
  (16, .iconst 3, 0, 0, 3, []),
  (17, .invokestatic 101, 58, 3, 0, []),
  (20, .ifCond .ne 5, 15, 0, 0, []),
  (23, .iconst 0, 0, 0, 0, []),
  (24, .ireturn, 1, 0, 0, []),
  (25, .aload_n 0, 0, 0, 0, []),
  (26, .getfield 47, 5, 17, 0, []),
  (29, .iload_n 1, 1, 0, 0, []),
  (30, .iload_n 2, 2, 0, 0, []),
  (31, .iastore, 0, 0, 0, []),
  (32, .iconst 1, 0, 0, 1, []),
  (33, .ireturn, 1, 0, 0, [])]
/-- RunOrderModel.want()V -/
def cd_M_want : List ax_I := [
  (0, .iconst 0, 0, 0, 0, []),
  (1, .istore_n 1, 1, 0, 0, []),
  (2, .iload_n 1, 1, 0, 0, []),
  (3, .aload_n 0, 0, 0, 0, []),
  (4, .getfield 98, 5, 4, 0, []),
  (7, .if_icmp .ge 16, 13, 0, 0, []),
  (10, .aload_n 0, 0, 0, 0, []),
  (11, .getfield 41, 5, 15, 0, []),
  (14, .iload_n 1, 1, 0, 0, []),
  (15, .iconst 0, 0, 0, 0, []),
  (16, .bastore, 0, 0, 0, []),
  (17, .iinc 1 1, 1, 0, 1, []),
  (20, .goto (-18), 2, 0, 0, []),
  (23, .iconst 0, 0, 0, 0, []),
  (24, .istore_n 1, 1, 0, 0, []),
  (25, .iload_n 1, 1, 0, 0, []),
  (26, .aload_n 0, 0, 0, 0, []),
  (27, .getfield 98, 5, 4, 0, []),
  (30, .if_icmp .ge 76, 62, 0, 0, []),
  (33, .aload_n 0, 0, 0, 0, []),
  (34, .getfield 38, 5, 14, 0, []),
  (37, .iload_n 1, 1, 0, 0, []),
  (38, .baload, 0, 0, 0, []),
  (39, .ifCond .ne 6, 25, 0, 0, []),
  (42, .goto 58, 60, 0, 0, []),
  (45, .aload_n 0, 0, 0, 0, []),
  (46, .iload_n 1, 1, 0, 0, []),
  (47, .invokevirtual 112, 64, 3, 0, [5]),
  (50, .iconst 1, 0, 0, 1, []),
  (51, .iload_n 1, 1, 0, 0, []),
  (52, .ishl, 0, 0, 0, []),
  (53, .ior, 0, 0, 0, []),
  (54, .istore_n 2, 2, 0, 0, []),
  (55, .iconst 0, 0, 0, 0, []),
  (56, .istore_n 3, 3, 0, 0, []),
  (57, .iload_n 3, 3, 0, 0, []),
  (58, .aload_n 0, 0, 0, 0, []),
  (59, .getfield 98, 5, 4, 0, []),
  (62, .if_icmp .ge 38, 60, 0, 0, []),
  (65, .aload_n 0, 0, 0, 0, []),
  (66, .getfield 41, 5, 15, 0, []),
  (69, .iload_n 3, 3, 0, 0, []),
  (70, .aload_n 0, 0, 0, 0, []),
  (71, .getfield 41, 5, 15, 0, []),
  (74, .iload_n 3, 3, 0, 0, []),
  (75, .baload, 0, 0, 0, []),
  (76, .ifCond .ne 12, 54, 0, 0, []),
  (79, .iload_n 2, 2, 0, 0, []),
  (80, .iload_n 3, 3, 0, 0, []),
  (81, .ishr, 0, 0, 0, []),
  (82, .iconst 1, 0, 0, 1, []),
  (83, .iand, 0, 0, 0, []),
  (84, .iconst 1, 0, 0, 1, []),
  (85, .if_icmp .ne 7, 56, 0, 0, []),
  (88, .iconst 1, 0, 0, 1, []),
  (89, .goto 4, 57, 0, 0, []),
  (92, .iconst 0, 0, 0, 0, []),
  (93, .bastore, 0, 0, 0, []),
  (94, .iinc 3 1, 3, 0, 1, []),
  (97, .goto (-40), 35, 0, 0, []),
  (100, .iinc 1 1, 1, 0, 1, []),
  (103, .goto (-78), 15, 0, 0, []),
  (106, .iconst 0, 0, 0, 0, []),
  (107, .istore_n 1, 1, 0, 0, []),
  (108, .iload_n 1, 1, 0, 0, []),
  (109, .aload_n 0, 0, 0, 0, []),
  (110, .getfield 98, 5, 4, 0, []),
  (113, .if_icmp .ge 34, 85, 0, 0, []),
  (116, .aload_n 0, 0, 0, 0, []),
  (117, .getfield 50, 5, 18, 0, []),
  (120, .iload_n 1, 1, 0, 0, []),
  (121, .aload_n 0, 0, 0, 0, []),
  (122, .getfield 41, 5, 15, 0, []),
  (125, .iload_n 1, 1, 0, 0, []),
  (126, .baload, 0, 0, 0, []),
  (127, .ifCond .eq 12, 81, 0, 0, []),
  (130, .aload_n 0, 0, 0, 0, []),
  (131, .getfield 7, 5, 5, 0, []),
  (134, .iload_n 1, 1, 0, 0, []),
  (135, .iaload, 0, 0, 0, []),
  (136, .goto 4, 82, 0, 0, []),
  (139, .iconst 0, 0, 0, 0, []),
  (140, .iastore, 0, 0, 0, []),
  (141, .iinc 1 1, 1, 0, 1, []),
  (144, .goto (-36), 64, 0, 0, []),
  (147, .iconst 1, 0, 0, 1, []),
  (148, .istore_n 1, 1, 0, 0, []),
  (149, .iload_n 1, 1, 0, 0, []),
  (150, .ifCond .eq 108, 152, 0, 0, []),
  (153, .iconst 0, 0, 0, 0, []),
  (154, .istore_n 1, 1, 0, 0, []),
  (155, .iconst 0, 0, 0, 0, []),
  (156, .istore_n 2, 2, 0, 0, []),
  (157, .iload_n 2, 2, 0, 0, []),
  (158, .aload_n 0, 0, 0, 0, []),
  (159, .getfield 98, 5, 4, 0, []),
  (162, .if_icmp .ge 93, 151, 0, 0, []),
  (165, .iconst 0, 0, 0, 0, []),
  (166, .istore_n 3, 3, 0, 0, []),
  (167, .iload_n 3, 3, 0, 0, []),
  (168, .aload_n 0, 0, 0, 0, []),
  (169, .getfield 98, 5, 4, 0, []),
  (172, .if_icmp .ge 77, 149, 0, 0, []),
  (175, .aload_n 0, 0, 0, 0, []),
  (176, .getfield 41, 5, 15, 0, []),
  (179, .iload_n 3, 3, 0, 0, []),
  (180, .baload, 0, 0, 0, []),
  (181, .ifCond .eq 62, 147, 0, 0, []),
  (184, .aload_n 0, 0, 0, 0, []),
  (185, .getfield 31, 5, 12, 0, []),
  (188, .iload_n 3, 3, 0, 0, []),
  (189, .iaload, 0, 0, 0, []),
  (190, .iload_n 2, 2, 0, 0, []),
  (191, .ishr, 0, 0, 0, []),
  (192, .iconst 1, 0, 0, 1, []),
  (193, .iand, 0, 0, 0, []),
  (194, .ifCond .eq 49, 147, 0, 0, []),
  (197, .aload_n 0, 0, 0, 0, []),
  (198, .getfield 50, 5, 18, 0, []),
  (201, .iload_n 3, 3, 0, 0, []),
  (202, .iaload, 0, 0, 0, []),
  (203, .aload_n 0, 0, 0, 0, []),
  (204, .getfield 7, 5, 5, 0, []),
  (207, .iload_n 2, 2, 0, 0, []),
  (208, .iaload, 0, 0, 0, []),
  (209, .iadd, 0, 0, 0, []),
  (210, .aload_n 0, 0, 0, 0, []),
  (211, .getfield 50, 5, 18, 0, []),
  (214, .iload_n 2, 2, 0, 0, []),
  (215, .iaload, 0, 0, 0, []),
  (216, .if_icmp .gt 6, 132, 0, 0, []),
  (219, .goto 24, 147, 0, 0, []),
  (222, .aload_n 0, 0, 0, 0, []),
  (223, .getfield 50, 5, 18, 0, []),
  (226, .iload_n 2, 2, 0, 0, []),
  (227, .aload_n 0, 0, 0, 0, []),
  (228, .getfield 50, 5, 18, 0, []),
  (231, .iload_n 3, 3, 0, 0, []),
  (232, .iaload, 0, 0, 0, []),
  (233, .aload_n 0, 0, 0, 0, []),
  (234, .getfield 7, 5, 5, 0, []),
  (237, .iload_n 2, 2, 0, 0, []),
  (238, .iaload, 0, 0, 0, []),
  (239, .iadd, 0, 0, 0, []),
  (240, .iastore, 0, 0, 0, []),
  (241, .iconst 1, 0, 0, 1, []),
  (242, .istore_n 1, 1, 0, 0, []),
  (243, .iinc 3 1, 3, 0, 1, []),
  (246, .goto (-79), 99, 0, 0, []),
  (249, .iinc 2 1, 2, 0, 1, []),
  (252, .goto (-95), 93, 0, 0, []),
  (255, .goto (-106), 87, 0, 0, []),
  (258, .return_, 0, 0, 0, [])]
/-- RunOrderModel.rest(I)I -/
def cd_M_rest : List ax_I := [
  (0, .aload_n 0, 0, 0, 0, []),
  (1, .iconst 0, 0, 0, 0, []),
  (2, .putfield 95, 5, 0, 0, []),
  (5, .aload_n 0, 0, 0, 0, []),
  (6, .iload_n 1, 1, 0, 0, []),
  (7, .invokevirtual 108, 59, 3, 0, [5]),
  (10, .ifCond .ne 5, 9, 0, 0, []),
  (13, .iconst 0, 0, 0, 0, []),
  (14, .ireturn, 0, 0, 0, []),
  (15, .aload_n 0, 0, 0, 0, []),
  (16, .invokevirtual 116, 69, 4, 0, [5]),
  (19, .aload_n 0, 0, 0, 0, []),
  (20, .getfield 50, 5, 18, 0, []),
  (23, .iload_n 1, 1, 0, 0, []),
  (24, .iaload, 0, 0, 0, []),
  (25, .ireturn, 0, 0, 0, [])]
/-- RunOrderModel.fresh()V -/
def cd_M_fresh : List ax_I := [
  (0, .aload_n 0, 0, 0, 0, []),
  (1, .invokevirtual 116, 69, 4, 0, [5]),
  (4, .aload_n 0, 0, 0, 0, []),
  (5, .aload_n 0, 0, 0, 0, []),
  (6, .getfield 98, 5, 4, 0, []),
  (9, .putfield 119, 5, 19, 0, []),
  (12, .aload_n 0, 0, 0, 0, []),
  (13, .iconst 0, 0, 0, 0, []),
  (14, .putfield 122, 5, 30, 0, []),
  (17, .aload_n 0, 0, 0, 0, []),
  (18, .iconst 0, 0, 0, 0, []),
  (19, .putfield 125, 5, 31, 0, []),
  (22, .aload_n 0, 0, 0, 0, []),
  (23, .iconst 0, 0, 0, 0, []),
  (24, .putfield 128, 5, 32, 0, []),
  (27, .aload_n 0, 0, 0, 0, []),
  (28, .iconst 0, 0, 0, 0, []),
  (29, .putfield 131, 5, 33, 0, []),
  (32, .iconst 0, 0, 0, 0, []),
  (33, .istore_n 1, 1, 0, 0, []),
  (34, .iload_n 1, 1, 0, 0, []),
  (35, .bipush 24, 0, 0, 24, []),
  (37, .if_icmp .ge 127, 98, 0, 0, []),
  (40, .aload_n 0, 0, 0, 0, []),
  (41, .getfield 13, 5, 6, 0, []),
  (44, .iload_n 1, 1, 0, 0, []),
  (45, .iaload, 0, 0, 0, []),
  (46, .aload_n 0, 0, 0, 0, []),
  (47, .getfield 87, 5, 1, 0, []),
  (50, .if_icmp .gt 20, 39, 0, 0, []),
  (53, .aload_n 0, 0, 0, 0, []),
  (54, .getfield 16, 5, 7, 0, []),
  (57, .iload_n 1, 1, 0, 0, []),
  (58, .iaload, 0, 0, 0, []),
  (59, .aload_n 0, 0, 0, 0, []),
  (60, .getfield 92, 5, 2, 0, []),
  (63, .if_icmp .gt 7, 39, 0, 0, []),
  (66, .iconst 1, 0, 0, 1, []),
  (67, .goto 4, 40, 0, 0, []),
  (70, .iconst 0, 0, 0, 0, []),
  (71, .istore_n 2, 2, 0, 0, []),
  (72, .aload_n 0, 0, 0, 0, []),
  (73, .getfield 53, 5, 20, 0, []),
  (76, .iload_n 1, 1, 0, 0, []),
  (77, .iload_n 1, 1, 0, 0, []),
  (78, .aload_n 0, 0, 0, 0, []),
  (79, .getfield 98, 5, 4, 0, []),
  (82, .if_icmp .ge 12, 53, 0, 0, []),
  (85, .aload_n 0, 0, 0, 0, []),
  (86, .getfield 41, 5, 15, 0, []),
  (89, .iload_n 1, 1, 0, 0, []),
  (90, .baload, 0, 0, 0, []),
  (91, .ifCond .ne 7, 55, 0, 0, []),
  (94, .iconst 0, 0, 0, 0, []),
  (95, .goto 13, 60, 0, 0, []),
  (98, .iload_n 2, 2, 0, 0, []),
  (99, .ifCond .eq 8, 59, 0, 0, []),
  (102, .bipush 6, 0, 0, 6, []),
  (104, .goto 4, 60, 0, 0, []),
  (107, .iconst 5, 0, 0, 5, []),
  (108, .iastore, 0, 0, 0, []),
  (109, .aload_n 0, 0, 0, 0, []),
  (110, .getfield 56, 5, 21, 0, []),
  (113, .iload_n 1, 1, 0, 0, []),
  (114, .iconst (-1), 0, 0, (-1), []),
  (115, .iastore, 0, 0, 0, []),
  (116, .aload_n 0, 0, 0, 0, []),
  (117, .getfield 59, 5, 22, 0, []),
  (120, .iload_n 1, 1, 0, 0, []),
  (121, .iconst (-1), 0, 0, (-1), []),
  (122, .iastore, 0, 0, 0, []),
  (123, .aload_n 0, 0, 0, 0, []),
  (124, .getfield 62, 5, 23, 0, []),
  (127, .iload_n 1, 1, 0, 0, []),
  (128, .iconst (-1), 0, 0, (-1), []),
  (129, .iastore, 0, 0, 0, []),
  (130, .aload_n 0, 0, 0, 0, []),
  (131, .getfield 65, 5, 24, 0, []),
  (134, .iload_n 1, 1, 0, 0, []),
  (135, .iconst (-1), 0, 0, (-1), []),
  (136, .iastore, 0, 0, 0, []),
  (137, .aload_n 0, 0, 0, 0, []),
  (138, .getfield 68, 5, 25, 0, []),
  (141, .iload_n 1, 1, 0, 0, []),
  (142, .iconst 0, 0, 0, 0, []),
  (143, .iastore, 0, 0, 0, []),
  (144, .aload_n 0, 0, 0, 0, []),
  (145, .getfield 71, 5, 26, 0, []),
  (148, .iload_n 1, 1, 0, 0, []),
  (149, .iconst (-1), 0, 0, (-1), []),
  (150, .iastore, 0, 0, 0, []),
  (151, .aload_n 0, 0, 0, 0, []),
  (152, .getfield 74, 5, 27, 0, []),
  (155, .iload_n 1, 1, 0, 0, []),
  (156, .iconst 0, 0, 0, 0, []),
  (157, .iastore, 0, 0, 0, []),
  (158, .iinc 1 1, 1, 0, 1, []),
  (161, .goto (-127), 20, 0, 0, []),
  (164, .return_, 0, 0, 0, [])]
/-- RunOrderModel.isSpoilt()Z -/
def cd_M_isSpoilt : List ax_I := [
  (0, .iconst 0, 0, 0, 0, []),
  (1, .istore_n 1, 1, 0, 0, []),
  (2, .iconst 0, 0, 0, 0, []),
  (3, .istore_n 2, 2, 0, 0, []),
  (4, .iload_n 2, 2, 0, 0, []),
  (5, .aload_n 0, 0, 0, 0, []),
  (6, .getfield 98, 5, 4, 0, []),
  (9, .if_icmp .ge 39, 28, 0, 0, []),
  (12, .iload_n 1, 1, 0, 0, []),
  (13, .ifCond .ne 23, 22, 0, 0, []),
  (16, .aload_n 0, 0, 0, 0, []),
  (17, .getfield 53, 5, 20, 0, []),
  (20, .iload_n 2, 2, 0, 0, []),
  (21, .iaload, 0, 0, 0, []),
  (22, .iconst 2, 0, 0, 2, []),
  (23, .if_icmp .eq 13, 22, 0, 0, []),
  (26, .aload_n 0, 0, 0, 0, []),
  (27, .getfield 53, 5, 20, 0, []),
  (30, .iload_n 2, 2, 0, 0, []),
  (31, .iaload, 0, 0, 0, []),
  (32, .iconst 5, 0, 0, 5, []),
  (33, .if_icmp .ne 7, 24, 0, 0, []),
  (36, .iconst 1, 0, 0, 1, []),
  (37, .goto 4, 25, 0, 0, []),
  (40, .iconst 0, 0, 0, 0, []),
  (41, .istore_n 1, 1, 0, 0, []),
  (42, .iinc 2 1, 2, 0, 1, []),
  (45, .goto (-41), 4, 0, 0, []),
  (48, .iload_n 1, 1, 0, 0, []),
  (49, .ireturn, 1, 0, 0, [])]
/-- RunOrderModel.end(III)V -/
def cd_M_end : List ax_I := [
  (0, .aload_n 0, 0, 0, 0, []),
  (1, .getfield 56, 5, 21, 0, []),
  (4, .iload_n 1, 1, 0, 0, []),
  (5, .iconst (-1), 0, 0, (-1), []),
  (6, .iastore, 0, 0, 0, []),
  (7, .aload_n 0, 0, 0, 0, []),
  (8, .getfield 59, 5, 22, 0, []),
  (11, .iload_n 1, 1, 0, 0, []),
  (12, .iconst (-1), 0, 0, (-1), []),
  (13, .iastore, 0, 0, 0, []),
  (14, .aload_n 0, 0, 0, 0, []),
  (15, .getfield 65, 5, 24, 0, []),
  (18, .iload_n 1, 1, 0, 0, []),
  (19, .iload_n 3, 3, 0, 0, []),
  (20, .iastore, 0, 0, 0, []),
  (21, .aload_n 0, 0, 0, 0, []),
  (22, .iload_n 3, 3, 0, 0, []),
  (23, .putfield 131, 5, 33, 0, []),
  (26, .aload_n 0, 0, 0, 0, []),
  (27, .getfield 68, 5, 25, 0, []),
  (30, .iload_n 1, 1, 0, 0, []),
  (31, .iaload, 0, 0, 0, []),
  (32, .aload_n 0, 0, 0, 0, []),
  (33, .getfield 25, 5, 10, 0, []),
  (36, .iload_n 1, 1, 0, 0, []),
  (37, .iaload, 0, 0, 0, []),
  (38, .if_icmp .le 18, 38, 0, 0, []),
  (41, .aload_n 0, 0, 0, 0, []),
  (42, .getfield 53, 5, 20, 0, []),
  (45, .iload_n 1, 1, 0, 0, []),
  (46, .iconst 1, 0, 0, 1, []),
  (47, .iastore, 0, 0, 0, []),
  (48, .aload_n 0, 0, 0, 0, []),
  (49, .getfield 71, 5, 26, 0, []),
  (52, .iload_n 1, 1, 0, 0, []),
  (53, .iload_n 2, 2, 0, 0, []),
  (54, .iastore, 0, 0, 0, []),
  (55, .return_, 0, 0, 0, []),
  (56, .aload_n 0, 0, 0, 0, []),
  (57, .getfield 74, 5, 27, 0, []),
  (60, .iload_n 1, 1, 0, 0, []),
  (61, .iaload, 0, 0, 0, []),
  (62, .aload_n 0, 0, 0, 0, []),
  (63, .getfield 47, 5, 17, 0, []),
  (66, .aload_n 0, 0, 0, 0, []),
  (67, .getfield 28, 5, 11, 0, []),
  (70, .iload_n 1, 1, 0, 0, []),
  (71, .iaload, 0, 0, 0, []),
  (72, .iaload, 0, 0, 0, []),
  (73, .if_icmp .ge 23, 60, 0, 0, []),
  (76, .aload_n 0, 0, 0, 0, []),
  (77, .getfield 44, 5, 16, 0, []),
  (80, .iconst 1, 0, 0, 1, []),
  (81, .baload, 0, 0, 0, []),
  (82, .ifCond .eq 10, 58, 0, 0, []),
  (85, .aload_n 0, 0, 0, 0, []),
  (86, .invokevirtual 134, 72, 3, 0, [5]),
  (89, .ifCond .ne 7, 60, 0, 0, []),
  (92, .iconst 1, 0, 0, 1, []),
  (93, .goto 4, 61, 0, 0, []),
  (96, .iconst 0, 0, 0, 0, []),
  (97, .istore 4, 4, 0, 0, []),
  (99, .aload_n 0, 0, 0, 0, []),
  (100, .getfield 74, 5, 27, 0, []),
  (103, .iload_n 1, 1, 0, 0, []),
  (104, .dup2, 0, 0, 0, []),
  (105, .iaload, 0, 0, 0, []),
  (106, .iconst 1, 0, 0, 1, []),
  (107, .iadd, 0, 0, 0, []),
  (108, .iastore, 0, 0, 0, []),
  (109, .aload_n 0, 0, 0, 0, []),
  (110, .getfield 53, 5, 20, 0, []),
  (113, .iload_n 1, 1, 0, 0, []),
  (114, .iload 4, 4, 0, 0, []),
  (116, .ifCond .eq 8, 77, 0, 0, []),
  (119, .bipush 6, 0, 0, 6, []),
  (121, .goto 4, 78, 0, 0, []),
  (124, .iconst 2, 0, 0, 2, []),
  (125, .iastore, 0, 0, 0, []),
  (126, .return_, 0, 0, 0, [])]
/-- RunOrderModel.endAll(I)V -/
def cd_M_endAll : List ax_I := [
  (0, .iconst 0, 0, 0, 0, []),
  (1, .istore_n 2, 2, 0, 0, []),
  (2, .iload_n 2, 2, 0, 0, []),
  (3, .aload_n 0, 0, 0, 0, []),
  (4, .getfield 98, 5, 4, 0, []),
  (7, .if_icmp .ge 60, 38, 0, 0, []),
  (10, .aload_n 0, 0, 0, 0, []),
  (11, .getfield 53, 5, 20, 0, []),
  (14, .iload_n 2, 2, 0, 0, []),
  (15, .iaload, 0, 0, 0, []),
  (16, .bipush 7, 0, 0, 7, []),
  (18, .if_icmp .eq 6, 13, 0, 0, []),
  (21, .goto 40, 36, 0, 0, []),
  (24, .aload_n 0, 0, 0, 0, []),
  (25, .getfield 56, 5, 21, 0, []),
  (28, .iload_n 2, 2, 0, 0, []),
  (29, .iaload, 0, 0, 0, []),
  (30, .iload_n 1, 1, 0, 0, []),
  (31, .if_icmp .ne 13, 25, 0, 0, []),
  (34, .aload_n 0, 0, 0, 0, []),
  (35, .iload_n 2, 2, 0, 0, []),
  (36, .iconst 0, 0, 0, 0, []),
  (37, .iload_n 1, 1, 0, 0, []),
  (38, .invokevirtual 138, 73, 4, 0, [5]),
  (41, .goto 20, 36, 0, 0, []),
  (44, .aload_n 0, 0, 0, 0, []),
  (45, .getfield 59, 5, 22, 0, []),
  (48, .iload_n 2, 2, 0, 0, []),
  (49, .iaload, 0, 0, 0, []),
  (50, .iload_n 1, 1, 0, 0, []),
  (51, .if_icmp .ne 10, 36, 0, 0, []),
  (54, .aload_n 0, 0, 0, 0, []),
  (55, .iload_n 2, 2, 0, 0, []),
  (56, .iconst 1, 0, 0, 1, []),
  (57, .iload_n 1, 1, 0, 0, []),
  (58, .invokevirtual 138, 73, 4, 0, [5]),
  (61, .iinc 2 1, 2, 0, 1, []),
  (64, .goto (-62), 2, 0, 0, []),
  (67, .return_, 0, 0, 0, [])]
/-- RunOrderModel.lacks(I)Z -/
def cd_M_lacks : List ax_I := [
  (0, .iconst 0, 0, 0, 0, []),
  (1, .istore_n 2, 2, 0, 0, []),
  (2, .iconst 0, 0, 0, 0, []),
  (3, .istore_n 3, 3, 0, 0, []),
  (4, .iload_n 3, 3, 0, 0, []),
  (5, .aload_n 0, 0, 0, 0, []),
  (6, .getfield 98, 5, 4, 0, []),
  (9, .if_icmp .ge 63, 44, 0, 0, []),
  (12, .iload_n 2, 2, 0, 0, []),
  (13, .ifCond .ne 47, 38, 0, 0, []),
  (16, .aload_n 0, 0, 0, 0, []),
  (17, .getfield 31, 5, 12, 0, []),
  (20, .iload_n 1, 1, 0, 0, []),
  (21, .iaload, 0, 0, 0, []),
  (22, .iload_n 3, 3, 0, 0, []),
  (23, .ishr, 0, 0, 0, []),
  (24, .iconst 1, 0, 0, 1, []),
  (25, .iand, 0, 0, 0, []),
  (26, .iconst 1, 0, 0, 1, []),
  (27, .if_icmp .ne 37, 40, 0, 0, []),
  (30, .aload_n 0, 0, 0, 0, []),
  (31, .getfield 53, 5, 20, 0, []),
  (34, .iload_n 3, 3, 0, 0, []),
  (35, .iaload, 0, 0, 0, []),
  (36, .iconst 2, 0, 0, 2, []),
  (37, .if_icmp .eq 23, 38, 0, 0, []),
  (40, .aload_n 0, 0, 0, 0, []),
  (41, .getfield 53, 5, 20, 0, []),
  (44, .iload_n 3, 3, 0, 0, []),
  (45, .iaload, 0, 0, 0, []),
  (46, .iconst 3, 0, 0, 3, []),
  (47, .if_icmp .eq 13, 38, 0, 0, []),
  (50, .aload_n 0, 0, 0, 0, []),
  (51, .getfield 53, 5, 20, 0, []),
  (54, .iload_n 3, 3, 0, 0, []),
  (55, .iaload, 0, 0, 0, []),
  (56, .iconst 5, 0, 0, 5, []),
  (57, .if_icmp .ne 7, 40, 0, 0, []),
  (60, .iconst 1, 0, 0, 1, []),
  (61, .goto 4, 41, 0, 0, []),
  (64, .iconst 0, 0, 0, 0, []),
  (65, .istore_n 2, 2, 0, 0, []),
  (66, .iinc 3 1, 3, 0, 1, []),
  (69, .goto (-65), 4, 0, 0, []),
  (72, .iload_n 2, 2, 0, 0, []),
  (73, .ireturn, 1, 0, 0, [])]
/-- RunOrderModel.skipAll()V -/
def cd_M_skipAll : List ax_I := [
  (0, .iconst 1, 0, 0, 1, []),
  (1, .istore_n 1, 1, 0, 0, []),
  (2, .iload_n 1, 1, 0, 0, []),
  (3, .ifCond .eq 55, 33, 0, 0, []),
  (6, .iconst 0, 0, 0, 0, []),
  (7, .istore_n 1, 1, 0, 0, []),
  (8, .iconst 0, 0, 0, 0, []),
  (9, .istore_n 2, 2, 0, 0, []),
  (10, .iload_n 2, 2, 0, 0, []),
  (11, .aload_n 0, 0, 0, 0, []),
  (12, .getfield 98, 5, 4, 0, []),
  (15, .if_icmp .ge 40, 32, 0, 0, []),
  (18, .aload_n 0, 0, 0, 0, []),
  (19, .getfield 53, 5, 20, 0, []),
  (22, .iload_n 2, 2, 0, 0, []),
  (23, .iaload, 0, 0, 0, []),
  (24, .bipush 6, 0, 0, 6, []),
  (26, .if_icmp .ne 23, 30, 0, 0, []),
  (29, .aload_n 0, 0, 0, 0, []),
  (30, .iload_n 2, 2, 0, 0, []),
  (31, .invokevirtual 142, 75, 3, 0, [5]),
  (34, .ifCond .ne 6, 23, 0, 0, []),
  (37, .goto 12, 30, 0, 0, []),
  (40, .aload_n 0, 0, 0, 0, []),
  (41, .getfield 53, 5, 20, 0, []),
  (44, .iload_n 2, 2, 0, 0, []),
  (45, .iconst 3, 0, 0, 3, []),
  (46, .iastore, 0, 0, 0, []),
  (47, .iconst 1, 0, 0, 1, []),
  (48, .istore_n 1, 1, 0, 0, []),
  (49, .iinc 2 1, 2, 0, 1, []),
  (52, .goto (-42), 8, 0, 0, []),
  (55, .goto (-53), 2, 0, 0, []),
  (58, .return_, 0, 0, 0, [])]
/-- RunOrderModel.stopAll()V -/
def cd_M_stopAll : List ax_I := [
  (0, .iconst 0, 0, 0, 0, []),
  (1, .istore_n 1, 1, 0, 0, []),
  (2, .iload_n 1, 1, 0, 0, []),
  (3, .aload_n 0, 0, 0, 0, []),
  (4, .getfield 98, 5, 4, 0, []),
  (7, .if_icmp .ge 36, 24, 0, 0, []),
  (10, .aload_n 0, 0, 0, 0, []),
  (11, .getfield 53, 5, 20, 0, []),
  (14, .iload_n 1, 1, 0, 0, []),
  (15, .aload_n 0, 0, 0, 0, []),
  (16, .getfield 53, 5, 20, 0, []),
  (19, .iload_n 1, 1, 0, 0, []),
  (20, .iaload, 0, 0, 0, []),
  (21, .bipush 6, 0, 0, 6, []),
  (23, .if_icmp .ne 7, 17, 0, 0, []),
  (26, .iconst 4, 0, 0, 4, []),
  (27, .goto 9, 21, 0, 0, []),
  (30, .aload_n 0, 0, 0, 0, []),
  (31, .getfield 53, 5, 20, 0, []),
  (34, .iload_n 1, 1, 0, 0, []),
  (35, .iaload, 0, 0, 0, []),
  (36, .iastore, 0, 0, 0, []),
  (37, .iinc 1 1, 1, 0, 1, []),
  (40, .goto (-38), 2, 0, 0, []),
  (43, .return_, 0, 0, 0, [])]
/-- RunOrderModel.isReady(IZ)Z -/
def cd_M_isReady : List ax_I := [
  (0, .aload_n 0, 0, 0, 0, []),
  (1, .getfield 53, 5, 20, 0, []),
  (4, .iload_n 1, 1, 0, 0, []),
  (5, .iaload, 0, 0, 0, []),
  (6, .bipush 6, 0, 0, 6, []),
  (8, .if_icmp .ne 20, 15, 0, 0, []),
  (11, .iload_n 2, 2, 0, 0, []),
  (12, .ifCond .ne 12, 13, 0, 0, []),
  (15, .aload_n 0, 0, 0, 0, []),
  (16, .getfield 34, 5, 13, 0, []),
  (19, .iload_n 1, 1, 0, 0, []),
  (20, .baload, 0, 0, 0, []),
  (21, .ifCond .ne 7, 15, 0, 0, []),
  (24, .iconst 1, 0, 0, 1, []),
  (25, .goto 4, 16, 0, 0, []),
  (28, .iconst 0, 0, 0, 0, []),
  (29, .istore_n 3, 3, 0, 0, []),
  (30, .iconst 0, 0, 0, 0, []),
  (31, .istore 4, 4, 0, 0, []),
  (33, .iload 4, 4, 0, 0, []),
  (35, .aload_n 0, 0, 0, 0, []),
  (36, .getfield 98, 5, 4, 0, []),
  (39, .if_icmp .ge 44, 46, 0, 0, []),
  (42, .iload_n 3, 3, 0, 0, []),
  (43, .ifCond .eq 32, 42, 0, 0, []),
  (46, .aload_n 0, 0, 0, 0, []),
  (47, .getfield 31, 5, 12, 0, []),
  (50, .iload_n 1, 1, 0, 0, []),
  (51, .iaload, 0, 0, 0, []),
  (52, .iload 4, 4, 0, 0, []),
  (54, .ishr, 0, 0, 0, []),
  (55, .iconst 1, 0, 0, 1, []),
  (56, .iand, 0, 0, 0, []),
  (57, .ifCond .eq 14, 40, 0, 0, []),
  (60, .aload_n 0, 0, 0, 0, []),
  (61, .getfield 53, 5, 20, 0, []),
  (64, .iload 4, 4, 0, 0, []),
  (66, .iaload, 0, 0, 0, []),
  (67, .iconst 1, 0, 0, 1, []),
  (68, .if_icmp .ne 7, 42, 0, 0, []),
  (71, .iconst 1, 0, 0, 1, []),
  (72, .goto 4, 43, 0, 0, []),
  (75, .iconst 0, 0, 0, 0, []),
  (76, .istore_n 3, 3, 0, 0, []),
  (77, .iinc 4 1, 4, 0, 1, []),
  (80, .goto (-47), 19, 0, 0, []),
  (83, .iload_n 3, 3, 0, 0, []),
  (84, .ireturn, 1, 0, 0, [])]
/-- RunOrderModel.taken(I)I -/
def cd_M_taken : List ax_I := [
  (0, .iconst 0, 0, 0, 0, []),
  (1, .istore_n 2, 2, 0, 0, []),
  (2, .iconst 0, 0, 0, 0, []),
  (3, .istore_n 3, 3, 0, 0, []),
  (4, .iload_n 3, 3, 0, 0, []),
  (5, .aload_n 0, 0, 0, 0, []),
  (6, .getfield 98, 5, 4, 0, []),
  (9, .if_icmp .ge 87, 57, 0, 0, []),
  (12, .aload_n 0, 0, 0, 0, []),
  (13, .getfield 53, 5, 20, 0, []),
  (16, .iload_n 3, 3, 0, 0, []),
  (17, .iaload, 0, 0, 0, []),
  (18, .bipush 7, 0, 0, 7, []),
  (20, .if_icmp .eq 6, 15, 0, 0, []),
  (23, .goto 67, 55, 0, 0, []),
  (26, .iload_n 1, 1, 0, 0, []),
  (27, .ifCond .ne 14, 24, 0, 0, []),
  (30, .iload_n 2, 2, 0, 0, []),
  (31, .aload_n 0, 0, 0, 0, []),
  (32, .getfield 13, 5, 6, 0, []),
  (35, .iload_n 3, 3, 0, 0, []),
  (36, .iaload, 0, 0, 0, []),
  (37, .iadd, 0, 0, 0, []),
  (38, .goto 51, 54, 0, 0, []),
  (41, .iload_n 1, 1, 0, 0, []),
  (42, .iconst 1, 0, 0, 1, []),
  (43, .if_icmp .ne 14, 34, 0, 0, []),
  (46, .iload_n 2, 2, 0, 0, []),
  (47, .aload_n 0, 0, 0, 0, []),
  (48, .getfield 16, 5, 7, 0, []),
  (51, .iload_n 3, 3, 0, 0, []),
  (52, .iaload, 0, 0, 0, []),
  (53, .iadd, 0, 0, 0, []),
  (54, .goto 35, 54, 0, 0, []),
  (57, .iload_n 1, 1, 0, 0, []),
  (58, .iconst 2, 0, 0, 2, []),
  (59, .if_icmp .ne 22, 48, 0, 0, []),
  (62, .iload_n 2, 2, 0, 0, []),
  (63, .aload_n 0, 0, 0, 0, []),
  (64, .getfield 59, 5, 22, 0, []),
  (67, .iload_n 3, 3, 0, 0, []),
  (68, .iaload, 0, 0, 0, []),
  (69, .ifCond .lt 7, 45, 0, 0, []),
  (72, .iconst 1, 0, 0, 1, []),
  (73, .goto 4, 46, 0, 0, []),
  (76, .iconst 0, 0, 0, 0, []),
  (77, .iadd, 0, 0, 0, []),
  (78, .goto 11, 54, 0, 0, []),
  (81, .iload_n 2, 2, 0, 0, []),
  (82, .aload_n 0, 0, 0, 0, []),
  (83, .getfield 19, 5, 8, 0, []),
  (86, .iload_n 3, 3, 0, 0, []),
  (87, .iaload, 0, 0, 0, []),
  (88, .ior, 0, 0, 0, []),
  (89, .istore_n 2, 2, 0, 0, []),
  (90, .iinc 3 1, 3, 0, 1, []),
  (93, .goto (-89), 4, 0, 0, []),
  (96, .iload_n 2, 2, 0, 0, []),
  (97, .ireturn, 0, 0, 0, [])]
/-- RunOrderModel.fits(I)Z -/
def cd_M_fits : List ax_I := [
  (0, .aload_n 0, 0, 0, 0, []),
  (1, .iconst 0, 0, 0, 0, []),
  (2, .invokevirtual 145, 79, 3, 0, [5]),
  (5, .aload_n 0, 0, 0, 0, []),
  (6, .getfield 13, 5, 6, 0, []),
  (9, .iload_n 1, 1, 0, 0, []),
  (10, .iaload, 0, 0, 0, []),
  (11, .iadd, 0, 0, 0, []),
  (12, .aload_n 0, 0, 0, 0, []),
  (13, .getfield 87, 5, 1, 0, []),
  (16, .if_icmp .gt 41, 33, 0, 0, []),
  (19, .aload_n 0, 0, 0, 0, []),
  (20, .iconst 1, 0, 0, 1, []),
  (21, .invokevirtual 145, 79, 3, 0, [5]),
  (24, .aload_n 0, 0, 0, 0, []),
  (25, .getfield 16, 5, 7, 0, []),
  (28, .iload_n 1, 1, 0, 0, []),
  (29, .iaload, 0, 0, 0, []),
  (30, .iadd, 0, 0, 0, []),
  (31, .aload_n 0, 0, 0, 0, []),
  (32, .getfield 92, 5, 2, 0, []),
  (35, .if_icmp .gt 22, 33, 0, 0, []),
  (38, .aload_n 0, 0, 0, 0, []),
  (39, .iconst 3, 0, 0, 3, []),
  (40, .invokevirtual 145, 79, 3, 0, [5]),
  (43, .aload_n 0, 0, 0, 0, []),
  (44, .getfield 19, 5, 8, 0, []),
  (47, .iload_n 1, 1, 0, 0, []),
  (48, .iaload, 0, 0, 0, []),
  (49, .iand, 0, 0, 0, []),
  (50, .ifCond .ne 7, 33, 0, 0, []),
  (53, .iconst 1, 0, 0, 1, []),
  (54, .goto 4, 34, 0, 0, []),
  (57, .iconst 0, 0, 0, 0, []),
  (58, .ireturn, 1, 0, 0, [])]
/-- RunOrderModel.begin(II)V -/
def cd_M_begin : List ax_I := [
  (0, .aload_n 0, 0, 0, 0, []),
  (1, .getfield 44, 5, 16, 0, []),
  (4, .iconst 3, 0, 0, 3, []),
  (5, .baload, 0, 0, 0, []),
  (6, .ifCond .eq 28, 18, 0, 0, []),
  (9, .aload_n 0, 0, 0, 0, []),
  (10, .getfield 22, 5, 9, 0, []),
  (13, .iload_n 1, 1, 0, 0, []),
  (14, .iaload, 0, 0, 0, []),
  (15, .ifCond .le 19, 18, 0, 0, []),
  (18, .aload_n 0, 0, 0, 0, []),
  (19, .iconst 2, 0, 0, 2, []),
  (20, .invokevirtual 145, 79, 3, 0, [5]),
  (23, .aload_n 0, 0, 0, 0, []),
  (24, .getfield 105, 5, 3, 0, []),
  (27, .if_icmp .ge 7, 18, 0, 0, []),
  (30, .iconst 1, 0, 0, 1, []),
  (31, .goto 4, 19, 0, 0, []),
  (34, .iconst 0, 0, 0, 0, []),
  (35, .istore_n 3, 3, 0, 0, []),
  (36, .aload_n 0, 0, 0, 0, []),
  (37, .getfield 53, 5, 20, 0, []),
  (40, .iload_n 1, 1, 0, 0, []),
  (41, .bipush 7, 0, 0, 7, []),
  (43, .iastore, 0, 0, 0, []),
  (44, .aload_n 0, 0, 0, 0, []),
  (45, .getfield 62, 5, 23, 0, []),
  (48, .iload_n 1, 1, 0, 0, []),
  (49, .aload_n 0, 0, 0, 0, []),
  (50, .getfield 68, 5, 25, 0, []),
  (53, .iload_n 1, 1, 0, 0, []),
  (54, .iaload, 0, 0, 0, []),
  (55, .ifCond .ne 7, 35, 0, 0, []),
  (58, .iload_n 2, 2, 0, 0, []),
  (59, .goto 9, 39, 0, 0, []),
  (62, .aload_n 0, 0, 0, 0, []),
  (63, .getfield 62, 5, 23, 0, []),
  (66, .iload_n 1, 1, 0, 0, []),
  (67, .iaload, 0, 0, 0, []),
  (68, .iastore, 0, 0, 0, []),
  (69, .aload_n 0, 0, 0, 0, []),
  (70, .getfield 68, 5, 25, 0, []),
  (73, .iload_n 1, 1, 0, 0, []),
  (74, .dup2, 0, 0, 0, []),
  (75, .iaload, 0, 0, 0, []),
  (76, .iconst 1, 0, 0, 1, []),
  (77, .iadd, 0, 0, 0, []),
  (78, .iastore, 0, 0, 0, []),
  (79, .aload_n 0, 0, 0, 0, []),
  (80, .getfield 56, 5, 21, 0, []),
  (83, .iload_n 1, 1, 0, 0, []),
  (84, .iload_n 2, 2, 0, 0, []),
  (85, .aload_n 0, 0, 0, 0, []),
  (86, .getfield 7, 5, 5, 0, []),
  (89, .iload_n 1, 1, 0, 0, []),
  (90, .iaload, 0, 0, 0, []),
  (91, .iadd, 0, 0, 0, []),
  (92, .iastore, 0, 0, 0, []),
  (93, .aload_n 0, 0, 0, 0, []),
  (94, .getfield 59, 5, 22, 0, []),
  (97, .iload_n 1, 1, 0, 0, []),
  (98, .iload_n 3, 3, 0, 0, []),
  (99, .ifCond .eq 14, 70, 0, 0, []),
  (102, .iload_n 2, 2, 0, 0, []),
  (103, .aload_n 0, 0, 0, 0, []),
  (104, .getfield 22, 5, 9, 0, []),
  (107, .iload_n 1, 1, 0, 0, []),
  (108, .iaload, 0, 0, 0, []),
  (109, .iadd, 0, 0, 0, []),
  (110, .goto 4, 71, 0, 0, []),
  (113, .iconst (-1), 0, 0, (-1), []),
  (114, .iastore, 0, 0, 0, []),
  (115, .aload_n 0, 0, 0, 0, []),
  (116, .getfield 80, 5, 29, 0, []),
  (119, .aload_n 0, 0, 0, 0, []),
  (120, .getfield 122, 5, 30, 0, []),
  (123, .iload_n 1, 1, 0, 0, []),
  (124, .iastore, 0, 0, 0, []),
  (125, .aload_n 0, 0, 0, 0, []),
  (126, .dup, 0, 0, 0, []),
  (127, .getfield 122, 5, 30, 0, []),
  (130, .iconst 1, 0, 0, 1, []),
  (131, .iadd, 0, 0, 0, []),
  (132, .putfield 122, 5, 30, 0, []),
  (135, .return_, 0, 0, 0, [])]
/-- RunOrderModel.next()I -/
def cd_M_next : List ax_I := [
  (0, .iconst (-1), 0, 0, (-1), []),
  (1, .istore_n 1, 1, 0, 0, []),
  (2, .iconst 0, 0, 0, 0, []),
  (3, .istore_n 2, 2, 0, 0, []),
  (4, .iload_n 2, 2, 0, 0, []),
  (5, .aload_n 0, 0, 0, 0, []),
  (6, .getfield 98, 5, 4, 0, []),
  (9, .if_icmp .ge 39, 28, 0, 0, []),
  (12, .aload_n 0, 0, 0, 0, []),
  (13, .getfield 77, 5, 28, 0, []),
  (16, .iload_n 2, 2, 0, 0, []),
  (17, .baload, 0, 0, 0, []),
  (18, .ifCond .eq 24, 26, 0, 0, []),
  (21, .iload_n 1, 1, 0, 0, []),
  (22, .ifCond .lt 18, 24, 0, 0, []),
  (25, .aload_n 0, 0, 0, 0, []),
  (26, .getfield 50, 5, 18, 0, []),
  (29, .iload_n 2, 2, 0, 0, []),
  (30, .iaload, 0, 0, 0, []),
  (31, .aload_n 0, 0, 0, 0, []),
  (32, .getfield 50, 5, 18, 0, []),
  (35, .iload_n 1, 1, 0, 0, []),
  (36, .iaload, 0, 0, 0, []),
  (37, .if_icmp .le 5, 26, 0, 0, []),
  (40, .iload_n 2, 2, 0, 0, []),
  (41, .istore_n 1, 1, 0, 0, []),
  (42, .iinc 2 1, 2, 0, 1, []),
  (45, .goto (-41), 4, 0, 0, []),
  (48, .iload_n 1, 1, 0, 0, []),
  (49, .ireturn, 0, 0, 0, [])]
/-- RunOrderModel.beginAll(I)V -/
def cd_M_beginAll : List ax_I := [
  (0, .iconst 1, 0, 0, 1, []),
  (1, .istore_n 2, 2, 0, 0, []),
  (2, .iconst 0, 0, 0, 0, []),
  (3, .istore_n 3, 3, 0, 0, []),
  (4, .iload_n 3, 3, 0, 0, []),
  (5, .aload_n 0, 0, 0, 0, []),
  (6, .getfield 98, 5, 4, 0, []),
  (9, .if_icmp .ge 50, 33, 0, 0, []),
  (12, .iload_n 2, 2, 0, 0, []),
  (13, .ifCond .eq 38, 29, 0, 0, []),
  (16, .aload_n 0, 0, 0, 0, []),
  (17, .getfield 34, 5, 13, 0, []),
  (20, .iload_n 3, 3, 0, 0, []),
  (21, .baload, 0, 0, 0, []),
  (22, .ifCond .ne 25, 27, 0, 0, []),
  (25, .aload_n 0, 0, 0, 0, []),
  (26, .getfield 53, 5, 20, 0, []),
  (29, .iload_n 3, 3, 0, 0, []),
  (30, .iaload, 0, 0, 0, []),
  (31, .bipush 6, 0, 0, 6, []),
  (33, .if_icmp .eq 18, 29, 0, 0, []),
  (36, .aload_n 0, 0, 0, 0, []),
  (37, .getfield 53, 5, 20, 0, []),
  (40, .iload_n 3, 3, 0, 0, []),
  (41, .iaload, 0, 0, 0, []),
  (42, .bipush 7, 0, 0, 7, []),
  (44, .if_icmp .eq 7, 29, 0, 0, []),
  (47, .iconst 1, 0, 0, 1, []),
  (48, .goto 4, 30, 0, 0, []),
  (51, .iconst 0, 0, 0, 0, []),
  (52, .istore_n 2, 2, 0, 0, []),
  (53, .iinc 3 1, 3, 0, 1, []),
  (56, .goto (-52), 4, 0, 0, []),
  (59, .iload_n 2, 2, 0, 0, []),
  (60, .ifCond .ne 12, 40, 0, 0, []),
  (63, .aload_n 0, 0, 0, 0, []),
  (64, .getfield 44, 5, 16, 0, []),
  (67, .iconst 0, 0, 0, 0, []),
  (68, .baload, 0, 0, 0, []),
  (69, .ifCond .ne 7, 42, 0, 0, []),
  (72, .iconst 1, 0, 0, 1, []),
  (73, .goto 4, 43, 0, 0, []),
  (76, .iconst 0, 0, 0, 0, []),
  (77, .istore_n 2, 2, 0, 0, []),
  (78, .iconst 0, 0, 0, 0, []),
  (79, .istore_n 3, 3, 0, 0, []),
  (80, .iload_n 3, 3, 0, 0, []),
  (81, .aload_n 0, 0, 0, 0, []),
  (82, .getfield 98, 5, 4, 0, []),
  (85, .if_icmp .ge 21, 60, 0, 0, []),
  (88, .aload_n 0, 0, 0, 0, []),
  (89, .getfield 77, 5, 28, 0, []),
  (92, .iload_n 3, 3, 0, 0, []),
  (93, .aload_n 0, 0, 0, 0, []),
  (94, .iload_n 3, 3, 0, 0, []),
  (95, .iload_n 2, 2, 0, 0, []),
  (96, .invokevirtual 148, 78, 3, 0, [5]),
  (99, .bastore, 0, 0, 0, []),
  (100, .iinc 3 1, 3, 0, 1, []),
  (103, .goto (-23), 46, 0, 0, []),
  (106, .iconst 1, 0, 0, 1, []),
  (107, .istore_n 3, 3, 0, 0, []),
  (108, .iload_n 3, 3, 0, 0, []),
  (109, .ifCond .eq 73, 100, 0, 0, []),
  (112, .aload_n 0, 0, 0, 0, []),
  (113, .invokevirtual 152, 82, 3, 0, [5]),
  (116, .istore 4, 4, 0, 0, []),
  (118, .iload 4, 4, 0, 0, []),
  (120, .ifCond .lt 25, 80, 0, 0, []),
  (123, .aload_n 0, 0, 0, 0, []),
  (124, .iload 4, 4, 0, 0, []),
  (126, .invokevirtual 156, 80, 3, 0, [5]),
  (129, .ifCond .ne 12, 78, 0, 0, []),
  (132, .aload_n 0, 0, 0, 0, []),
  (133, .getfield 44, 5, 16, 0, []),
  (136, .iconst 2, 0, 0, 2, []),
  (137, .baload, 0, 0, 0, []),
  (138, .ifCond .eq 7, 80, 0, 0, []),
  (141, .iconst 1, 0, 0, 1, []),
  (142, .goto 4, 81, 0, 0, []),
  (145, .iconst 0, 0, 0, 0, []),
  (146, .istore_n 3, 3, 0, 0, []),
  (147, .iload_n 3, 3, 0, 0, []),
  (148, .ifCond .eq 19, 92, 0, 0, []),
  (151, .aload_n 0, 0, 0, 0, []),
  (152, .iload 4, 4, 0, 0, []),
  (154, .invokevirtual 156, 80, 3, 0, [5]),
  (157, .ifCond .eq 10, 92, 0, 0, []),
  (160, .aload_n 0, 0, 0, 0, []),
  (161, .iload 4, 4, 0, 0, []),
  (163, .iload_n 1, 1, 0, 0, []),
  (164, .invokevirtual 159, 81, 4, 0, [5]),
  (167, .iload_n 3, 3, 0, 0, []),
  (168, .ifCond .eq 11, 99, 0, 0, []),
  (171, .aload_n 0, 0, 0, 0, []),
  (172, .getfield 77, 5, 28, 0, []),
  (175, .iload 4, 4, 0, 0, []),
  (177, .iconst 0, 0, 0, 0, []),
  (178, .bastore, 0, 0, 0, []),
  (179, .goto (-71), 62, 0, 0, []),
  (182, .aload_n 0, 0, 0, 0, []),
  (183, .iconst 0, 0, 0, 0, []),
  (184, .invokevirtual 145, 79, 3, 0, [5]),
  (187, .istore 4, 4, 0, 0, []),
  (189, .aload_n 0, 0, 0, 0, []),
  (190, .iconst 1, 0, 0, 1, []),
  (191, .invokevirtual 145, 79, 3, 0, [5]),
  (194, .istore 5, 5, 0, 0, []),
  (196, .aload_n 0, 0, 0, 0, []),
  (197, .iload 4, 4, 0, 0, []),
  (199, .aload_n 0, 0, 0, 0, []),
  (200, .getfield 125, 5, 31, 0, []),
  (203, .if_icmp .le 8, 115, 0, 0, []),
  (206, .iload 4, 4, 0, 0, []),
  (208, .goto 7, 117, 0, 0, []),
  (211, .aload_n 0, 0, 0, 0, []),
  (212, .getfield 125, 5, 31, 0, []),
  (215, .putfield 125, 5, 31, 0, []),
  (218, .aload_n 0, 0, 0, 0, []),
  (219, .iload 5, 5, 0, 0, []),
  (221, .aload_n 0, 0, 0, 0, []),
  (222, .getfield 128, 5, 32, 0, []),
  (225, .if_icmp .le 8, 125, 0, 0, []),
  (228, .iload 5, 5, 0, 0, []),
  (230, .goto 7, 127, 0, 0, []),
  (233, .aload_n 0, 0, 0, 0, []),
  (234, .getfield 128, 5, 32, 0, []),
  (237, .putfield 128, 5, 32, 0, []),
  (240, .return_, 0, 0, 0, [])]
/-- RunOrderModel.nextEnd()I -/
def cd_M_nextEnd : List ax_I := [
  (0, .iconst (-1), 0, 0, (-1), []),
  (1, .istore_n 1, 1, 0, 0, []),
  (2, .iconst 0, 0, 0, 0, []),
  (3, .istore_n 2, 2, 0, 0, []),
  (4, .iload_n 2, 2, 0, 0, []),
  (5, .aload_n 0, 0, 0, 0, []),
  (6, .getfield 98, 5, 4, 0, []),
  (9, .if_icmp .ge 78, 50, 0, 0, []),
  (12, .aload_n 0, 0, 0, 0, []),
  (13, .getfield 53, 5, 20, 0, []),
  (16, .iload_n 2, 2, 0, 0, []),
  (17, .iaload, 0, 0, 0, []),
  (18, .bipush 7, 0, 0, 7, []),
  (20, .if_icmp .eq 6, 15, 0, 0, []),
  (23, .goto 58, 48, 0, 0, []),
  (26, .aload_n 0, 0, 0, 0, []),
  (27, .getfield 59, 5, 22, 0, []),
  (30, .iload_n 2, 2, 0, 0, []),
  (31, .iaload, 0, 0, 0, []),
  (32, .ifCond .lt 27, 34, 0, 0, []),
  (35, .aload_n 0, 0, 0, 0, []),
  (36, .getfield 59, 5, 22, 0, []),
  (39, .iload_n 2, 2, 0, 0, []),
  (40, .iaload, 0, 0, 0, []),
  (41, .aload_n 0, 0, 0, 0, []),
  (42, .getfield 56, 5, 21, 0, []),
  (45, .iload_n 2, 2, 0, 0, []),
  (46, .iaload, 0, 0, 0, []),
  (47, .if_icmp .ge 12, 34, 0, 0, []),
  (50, .aload_n 0, 0, 0, 0, []),
  (51, .getfield 59, 5, 22, 0, []),
  (54, .iload_n 2, 2, 0, 0, []),
  (55, .iaload, 0, 0, 0, []),
  (56, .goto 9, 38, 0, 0, []),
  (59, .aload_n 0, 0, 0, 0, []),
  (60, .getfield 56, 5, 21, 0, []),
  (63, .iload_n 2, 2, 0, 0, []),
  (64, .iaload, 0, 0, 0, []),
  (65, .istore_n 3, 3, 0, 0, []),
  (66, .iload_n 1, 1, 0, 0, []),
  (67, .ifCond .lt 8, 44, 0, 0, []),
  (70, .iload_n 3, 3, 0, 0, []),
  (71, .iload_n 1, 1, 0, 0, []),
  (72, .if_icmp .ge 7, 46, 0, 0, []),
  (75, .iload_n 3, 3, 0, 0, []),
  (76, .goto 4, 47, 0, 0, []),
  (79, .iload_n 1, 1, 0, 0, []),
  (80, .istore_n 1, 1, 0, 0, []),
  (81, .iinc 2 1, 2, 0, 1, []),
  (84, .goto (-80), 4, 0, 0, []),
  (87, .iload_n 1, 1, 0, 0, []),
  (88, .ireturn, 0, 0, 0, [])]
/-- RunOrderModel.run()I -/
def cd_M_run : List ax_I := [
  (0, .aload_n 0, 0, 0, 0, []),
  (1, .iconst 0, 0, 0, 0, []),
  (2, .putfield 95, 5, 0, 0, []),
  (5, .aload_n 0, 0, 0, 0, []),
  (6, .invokevirtual 163, 71, 4, 0, [5]),
  (9, .aload_n 0, 0, 0, 0, []),
  (10, .iconst 1, 0, 0, 1, []),
  (11, .putfield 166, 5, 34, 1, []),
  (14, .iconst 0, 0, 0, 0, []),
  (15, .istore_n 1, 1, 0, 0, []),
  (16, .iload_n 1, 1, 0, 0, []),
  (17, .ifCond .lt 45, 34, 0, 0, []),
  (20, .aload_n 0, 0, 0, 0, []),
  (21, .iload_n 1, 1, 0, 0, []),
  (22, .invokevirtual 170, 74, 4, 0, [5]),
  (25, .aload_n 0, 0, 0, 0, []),
  (26, .invokevirtual 174, 76, 4, 0, [5]),
  (29, .aload_n 0, 0, 0, 0, []),
  (30, .getfield 44, 5, 16, 0, []),
  (33, .iconst 1, 0, 0, 1, []),
  (34, .baload, 0, 0, 0, []),
  (35, .ifCond .eq 14, 27, 0, 0, []),
  (38, .aload_n 0, 0, 0, 0, []),
  (39, .invokevirtual 134, 72, 3, 0, [5]),
  (42, .ifCond .eq 7, 27, 0, 0, []),
  (45, .aload_n 0, 0, 0, 0, []),
  (46, .invokevirtual 177, 77, 4, 0, [5]),
  (49, .aload_n 0, 0, 0, 0, []),
  (50, .iload_n 1, 1, 0, 0, []),
  (51, .invokevirtual 180, 83, 4, 0, [5]),
  (54, .aload_n 0, 0, 0, 0, []),
  (55, .invokevirtual 183, 84, 3, 0, [5]),
  (58, .istore_n 1, 1, 0, 0, []),
  (59, .goto (-43), 10, 0, 0, []),
  (62, .aload_n 0, 0, 0, 0, []),
  (63, .invokevirtual 177, 77, 4, 0, [5]),
  (66, .aload_n 0, 0, 0, 0, []),
  (67, .getfield 131, 5, 33, 0, []),
  (70, .ireturn, 0, 0, 0, [])]
/-- RunOrderModel.outcome(II)I -/
def cd_M_outcome : List ax_I := [
  (0, .aload_n 0, 0, 0, 0, []),
  (1, .iconst 0, 0, 0, 0, []),
  (2, .putfield 95, 5, 0, 0, []),
  (5, .aload_n 0, 0, 0, 0, []),
  (6, .getfield 166, 5, 34, 0, []),
  (9, .ifCond .eq 11, 10, 0, 0, []),
  (12, .aload_n 0, 0, 0, 0, []),
  (13, .iload_n 1, 1, 0, 0, []),
  (14, .invokevirtual 108, 59, 3, 0, [5]),
  (17, .ifCond .ne 5, 12, 0, 0, []),
  (20, .iconst (-1), 0, 0, (-1), []),
  (21, .ireturn, 0, 0, 0, []),
  (22, .iload_n 2, 2, 0, 0, []),
  (23, .tableswitch 68 0 4 #[33, 40, 47, 54, 61], 39, 0, 0, [14, 19, 24, 29, 34]),
  (56, .aload_n 0, 0, 0, 0, []),
  (57, .getfield 53, 5, 20, 0, []),
  (60, .iload_n 1, 1, 0, 0, []),
  (61, .iaload, 0, 0, 0, []),
  (62, .ireturn, 0, 0, 0, []),
  (63, .aload_n 0, 0, 0, 0, []),
  (64, .getfield 62, 5, 23, 0, []),
  (67, .iload_n 1, 1, 0, 0, []),
  (68, .iaload, 0, 0, 0, []),
  (69, .ireturn, 0, 0, 0, []),
  (70, .aload_n 0, 0, 0, 0, []),
  (71, .getfield 65, 5, 24, 0, []),
  (74, .iload_n 1, 1, 0, 0, []),
  (75, .iaload, 0, 0, 0, []),
  (76, .ireturn, 0, 0, 0, []),
  (77, .aload_n 0, 0, 0, 0, []),
  (78, .getfield 68, 5, 25, 0, []),
  (81, .iload_n 1, 1, 0, 0, []),
  (82, .iaload, 0, 0, 0, []),
  (83, .ireturn, 0, 0, 0, []),
  (84, .aload_n 0, 0, 0, 0, []),
  (85, .getfield 71, 5, 26, 0, []),
  (88, .iload_n 1, 1, 0, 0, []),
  (89, .iaload, 0, 0, 0, []),
  (90, .ireturn, 0, 0, 0, []),
  (91, .iconst (-1), 0, 0, (-1), []),
  (92, .ireturn, 0, 0, 0, [])]
/-- RunOrderModel.first()I -/
def cd_M_first : List ax_I := [
  (0, .aload_n 0, 0, 0, 0, []),
  (1, .iconst 0, 0, 0, 0, []),
  (2, .putfield 95, 5, 0, 0, []),
  (5, .iconst 0, 0, 0, 0, []),
  (6, .istore_n 1, 1, 0, 0, []),
  (7, .iload_n 1, 1, 0, 0, []),
  (8, .aload_n 0, 0, 0, 0, []),
  (9, .getfield 119, 5, 19, 0, []),
  (12, .if_icmp .ge 38, 28, 0, 0, []),
  (15, .aload_n 0, 0, 0, 0, []),
  (16, .getfield 166, 5, 34, 0, []),
  (19, .ifCond .eq 31, 28, 0, 0, []),
  (22, .aload_n 0, 0, 0, 0, []),
  (23, .getfield 53, 5, 20, 0, []),
  (26, .iload_n 1, 1, 0, 0, []),
  (27, .iaload, 0, 0, 0, []),
  (28, .iconst 2, 0, 0, 2, []),
  (29, .if_icmp .eq 13, 24, 0, 0, []),
  (32, .aload_n 0, 0, 0, 0, []),
  (33, .getfield 53, 5, 20, 0, []),
  (36, .iload_n 1, 1, 0, 0, []),
  (37, .iaload, 0, 0, 0, []),
  (38, .iconst 5, 0, 0, 5, []),
  (39, .if_icmp .ne 5, 26, 0, 0, []),
  (42, .iload_n 1, 1, 0, 0, []),
  (43, .ireturn, 0, 0, 0, []),
  (44, .iinc 1 1, 1, 0, 1, []),
  (47, .goto (-40), 5, 0, 0, []),
  (50, .iconst (-1), 0, 0, (-1), []),
  (51, .ireturn, 0, 0, 0, [])]
/-- RunOrderModel.order(I)I -/
def cd_M_order : List ax_I := [
  (0, .aload_n 0, 0, 0, 0, []),
  (1, .iconst 0, 0, 0, 0, []),
  (2, .putfield 95, 5, 0, 0, []),
  (5, .iload_n 1, 1, 0, 0, []),
  (6, .iconst 0, 0, 0, 0, []),
  (7, .aload_n 0, 0, 0, 0, []),
  (8, .getfield 122, 5, 30, 0, []),
  (11, .iconst 1, 0, 0, 1, []),
  (12, .isub, 0, 0, 0, []),
  (13, .invokestatic 101, 58, 3, 0, []),
  (16, .ifCond .eq 12, 16, 0, 0, []),
  (19, .aload_n 0, 0, 0, 0, []),
  (20, .getfield 80, 5, 29, 0, []),
  (23, .iload_n 1, 1, 0, 0, []),
  (24, .iaload, 0, 0, 0, []),
  (25, .goto 4, 17, 0, 0, []),
  (28, .iconst (-1), 0, 0, (-1), []),
  (29, .ireturn, 0, 0, 0, [])]
/-- RunOrderModel.peak(I)I -/
def cd_M_peak : List ax_I := [
  (0, .aload_n 0, 0, 0, 0, []),
  (1, .iconst 0, 0, 0, 0, []),
  (2, .putfield 95, 5, 0, 0, []),
  (5, .iload_n 1, 1, 0, 0, []),
  (6, .ifCond .ne 10, 8, 0, 0, []),
  (9, .aload_n 0, 0, 0, 0, []),
  (10, .getfield 125, 5, 31, 0, []),
  (13, .goto 16, 15, 0, 0, []),
  (16, .iload_n 1, 1, 0, 0, []),
  (17, .iconst 1, 0, 0, 1, []),
  (18, .if_icmp .ne 10, 14, 0, 0, []),
  (21, .aload_n 0, 0, 0, 0, []),
  (22, .getfield 128, 5, 32, 0, []),
  (25, .goto 4, 15, 0, 0, []),
  (28, .iconst 0, 0, 0, 0, []),
  (29, .ireturn, 0, 0, 0, [])]
def ax_Ms : List ax_M := [
  (cd_O_init, 3, 3, 26, 597),
  (cd_O_slots, 2, 2, 0, 0),
  (cd_O_action, 5, 4, 0, 0),
  (cd_O_about, 5, 5, 0, 0),
  (cd_O_fails, 4, 4, 0, 0),
  (cd_O_needs, 3, 3, 0, 0),
  (cd_O_wish, 3, 3, 0, 0),
  (cd_O_mode, 3, 3, 0, 0),
  (cd_O_retries, 3, 3, 0, 0),
  (cd_O_run, 1, 1, 0, 0),
  (cd_O_rest, 3, 2, 0, 0),
  (cd_O_outcome, 3, 3, 0, 0),
  (cd_O_first, 1, 1, 0, 0),
  (cd_O_order, 2, 2, 0, 0),
  (cd_O_peak, 2, 2, 0, 0),
  (cd_O_within, 3, 3, 0, 0),
  (cd_O_nearest, 3, 3, 0, 0),
  (cd_O_only, 1, 1, 0, 0),
  (cd_O_isIn, 2, 2, 0, 0),
  (cd_H_init, 3, 3, 0, 0),
  (cd_H_clear, 1, 1, 0, 0),
  (cd_H_isTooSmallFor, 3, 3, 0, 0),
  (cd_H_hasFree, 4, 4, 0, 0),
  (cd_H_hasFreeSlot, 1, 1, 0, 0),
  (cd_H_take, 4, 4, 0, 0),
  (cd_H_giveBack, 4, 4, 0, 0),
  (cd_A_init, 1, 1, 12, 288),
  (cd_A_has, 2, 2, 0, 0),
  (cd_A_add, 4, 4, 0, 0),
  (cd_A_join, 5, 3, 0, 0),
  (cd_A_wanted, 3, 1, 0, 0),
  (cd_A_measureRests, 6, 2, 0, 0),
  (cd_A_greatestRestAbove, 5, 3, 0, 0),
  (cd_U_init, 1, 1, 2, 8),
  (cd_N_init, 4, 4, 8, 264),
  (cd_N_goThrough, 4, 1, 0, 0),
  (cd_N_tell, 3, 3, 0, 0),
  (cd_N_firstBad, 2, 1, 0, 0),
  (cd_N_begunAs, 2, 2, 0, 0),
  (cd_N_prepare, 3, 1, 0, 0),
  (cd_N_stateAtFirst, 2, 2, 0, 0),
  (cd_N_endTries, 3, 2, 0, 0),
  (cd_N_endTry, 4, 4, 0, 0),
  (cd_N_leaveBothSides, 2, 2, 0, 0),
  (cd_N_mayTryAgain, 3, 2, 0, 0),
  (cd_N_isOneBad, 1, 1, 0, 0),
  (cd_N_skipHindered, 5, 1, 0, 0),
  (cd_N_allIn, 4, 2, 0, 0),
  (cd_N_stopWaiting, 2, 1, 0, 0),
  (cd_N_beginReady, 5, 2, 0, 0),
  (cd_N_allReady, 6, 1, 0, 0),
  (cd_N_isOtherThanTestLeft, 2, 1, 0, 0),
  (cd_N_foremost, 4, 2, 0, 0),
  (cd_N_beginTry, 3, 3, 0, 0),
  (cd_N_nextEnd, 3, 1, 0, 0),
  (cd_N_sooner, 2, 2, 0, 0),
  (cd_M_init, 3, 3, 24, 612),
  (cd_M_held, 3, 3, 0, 0),
  (cd_M_in, 3, 3, 0, 0),
  (cd_M_isAction, 2, 2, 0, 0),
  (cd_M_slots, 2, 2, 0, 0),
  (cd_M_action, 4, 4, 0, 0),
  (cd_M_about, 5, 5, 0, 0),
  (cd_M_fails, 4, 4, 0, 0),
  (cd_M_all, 6, 2, 0, 0),
  (cd_M_needs, 3, 3, 0, 0),
  (cd_M_wish, 3, 3, 0, 0),
  (cd_M_mode, 3, 3, 0, 0),
  (cd_M_retries, 3, 3, 0, 0),
  (cd_M_want, 4, 1, 0, 0),
  (cd_M_rest, 2, 2, 0, 0),
  (cd_M_fresh, 3, 1, 0, 0),
  (cd_M_isSpoilt, 3, 1, 0, 0),
  (cd_M_end, 5, 4, 0, 0),
  (cd_M_endAll, 3, 2, 0, 0),
  (cd_M_lacks, 4, 2, 0, 0),
  (cd_M_skipAll, 3, 1, 0, 0),
  (cd_M_stopAll, 2, 1, 0, 0),
  (cd_M_isReady, 5, 3, 0, 0),
  (cd_M_taken, 4, 2, 0, 0),
  (cd_M_fits, 2, 2, 0, 0),
  (cd_M_begin, 4, 3, 0, 0),
  (cd_M_next, 3, 1, 0, 0),
  (cd_M_beginAll, 6, 2, 0, 0),
  (cd_M_nextEnd, 4, 1, 0, 0),
  (cd_M_run, 2, 1, 0, 0),
  (cd_M_outcome, 3, 3, 0, 0),
  (cd_M_first, 2, 1, 0, 0),
  (cd_M_order, 2, 2, 0, 0),
  (cd_M_peak, 2, 2, 0, 0)]
abbrev no_O_init : Nat := 0
abbrev no_O_slots : Nat := 1
abbrev no_O_action : Nat := 2
abbrev no_O_about : Nat := 3
abbrev no_O_fails : Nat := 4
abbrev no_O_needs : Nat := 5
abbrev no_O_wish : Nat := 6
abbrev no_O_mode : Nat := 7
abbrev no_O_retries : Nat := 8
abbrev no_O_run : Nat := 9
abbrev no_O_rest : Nat := 10
abbrev no_O_outcome : Nat := 11
abbrev no_O_first : Nat := 12
abbrev no_O_order : Nat := 13
abbrev no_O_peak : Nat := 14
abbrev no_O_within : Nat := 15
abbrev no_O_nearest : Nat := 16
abbrev no_O_only : Nat := 17
abbrev no_O_isIn : Nat := 18
abbrev no_H_init : Nat := 19
abbrev no_H_clear : Nat := 20
abbrev no_H_isTooSmallFor : Nat := 21
abbrev no_H_hasFree : Nat := 22
abbrev no_H_hasFreeSlot : Nat := 23
abbrev no_H_take : Nat := 24
abbrev no_H_giveBack : Nat := 25
abbrev no_A_init : Nat := 26
abbrev no_A_has : Nat := 27
abbrev no_A_add : Nat := 28
abbrev no_A_join : Nat := 29
abbrev no_A_wanted : Nat := 30
abbrev no_A_measureRests : Nat := 31
abbrev no_A_greatestRestAbove : Nat := 32
abbrev no_U_init : Nat := 33
abbrev no_N_init : Nat := 34
abbrev no_N_goThrough : Nat := 35
abbrev no_N_tell : Nat := 36
abbrev no_N_firstBad : Nat := 37
abbrev no_N_begunAs : Nat := 38
abbrev no_N_prepare : Nat := 39
abbrev no_N_stateAtFirst : Nat := 40
abbrev no_N_endTries : Nat := 41
abbrev no_N_endTry : Nat := 42
abbrev no_N_leaveBothSides : Nat := 43
abbrev no_N_mayTryAgain : Nat := 44
abbrev no_N_isOneBad : Nat := 45
abbrev no_N_skipHindered : Nat := 46
abbrev no_N_allIn : Nat := 47
abbrev no_N_stopWaiting : Nat := 48
abbrev no_N_beginReady : Nat := 49
abbrev no_N_allReady : Nat := 50
abbrev no_N_isOtherThanTestLeft : Nat := 51
abbrev no_N_foremost : Nat := 52
abbrev no_N_beginTry : Nat := 53
abbrev no_N_nextEnd : Nat := 54
abbrev no_N_sooner : Nat := 55
abbrev no_M_init : Nat := 56
abbrev no_M_held : Nat := 57
abbrev no_M_in : Nat := 58
abbrev no_M_isAction : Nat := 59
abbrev no_M_slots : Nat := 60
abbrev no_M_action : Nat := 61
abbrev no_M_about : Nat := 62
abbrev no_M_fails : Nat := 63
abbrev no_M_all : Nat := 64
abbrev no_M_needs : Nat := 65
abbrev no_M_wish : Nat := 66
abbrev no_M_mode : Nat := 67
abbrev no_M_retries : Nat := 68
abbrev no_M_want : Nat := 69
abbrev no_M_rest : Nat := 70
abbrev no_M_fresh : Nat := 71
abbrev no_M_isSpoilt : Nat := 72
abbrev no_M_end : Nat := 73
abbrev no_M_endAll : Nat := 74
abbrev no_M_lacks : Nat := 75
abbrev no_M_skipAll : Nat := 76
abbrev no_M_stopAll : Nat := 77
abbrev no_M_isReady : Nat := 78
abbrev no_M_taken : Nat := 79
abbrev no_M_fits : Nat := 80
abbrev no_M_begin : Nat := 81
abbrev no_M_next : Nat := 82
abbrev no_M_beginAll : Nat := 83
abbrev no_M_nextEnd : Nat := 84
abbrev no_M_run : Nat := 85
abbrev no_M_outcome : Nat := 86
abbrev no_M_first : Nat := 87
abbrev no_M_order : Nat := 88
abbrev no_M_peak : Nat := 89
abbrev nm_O_init : MethodName := ⟨"RunOrder", "<init>", "(II)V"⟩
abbrev nm_O_slots : MethodName := ⟨"RunOrder", "slots", "(I)Z"⟩
abbrev nm_O_action : MethodName := ⟨"RunOrder", "action", "(III)I"⟩
abbrev nm_O_about : MethodName := ⟨"RunOrder", "about", "(IZII)Z"⟩
abbrev nm_O_fails : MethodName := ⟨"RunOrder", "fails", "(III)Z"⟩
abbrev nm_O_needs : MethodName := ⟨"RunOrder", "needs", "(II)I"⟩
abbrev nm_O_wish : MethodName := ⟨"RunOrder", "wish", "(IZ)Z"⟩
abbrev nm_O_mode : MethodName := ⟨"RunOrder", "mode", "(IZ)Z"⟩
abbrev nm_O_retries : MethodName := ⟨"RunOrder", "retries", "(II)Z"⟩
abbrev nm_O_run : MethodName := ⟨"RunOrder", "run", "()I"⟩
abbrev nm_O_rest : MethodName := ⟨"RunOrder", "rest", "(I)I"⟩
abbrev nm_O_outcome : MethodName := ⟨"RunOrder", "outcome", "(II)I"⟩
abbrev nm_O_first : MethodName := ⟨"RunOrder", "first", "()I"⟩
abbrev nm_O_order : MethodName := ⟨"RunOrder", "order", "(I)I"⟩
abbrev nm_O_peak : MethodName := ⟨"RunOrder", "peak", "(I)I"⟩
abbrev nm_O_within : MethodName := ⟨"RunOrder", "within", "(III)Z"⟩
abbrev nm_O_nearest : MethodName := ⟨"RunOrder", "nearest", "(III)I"⟩
abbrev nm_O_only : MethodName := ⟨"RunOrder", "only", "(I)I"⟩
abbrev nm_O_isIn : MethodName := ⟨"RunOrder", "isIn", "(II)Z"⟩
abbrev nm_H_init : MethodName := ⟨"RunOrder$House", "<init>", "(II)V"⟩
abbrev nm_H_clear : MethodName := ⟨"RunOrder$House", "clear", "()V"⟩
abbrev nm_H_isTooSmallFor : MethodName := ⟨"RunOrder$House", "isTooSmallFor", "(II)Z"⟩
abbrev nm_H_hasFree : MethodName := ⟨"RunOrder$House", "hasFree", "(III)Z"⟩
abbrev nm_H_hasFreeSlot : MethodName := ⟨"RunOrder$House", "hasFreeSlot", "()Z"⟩
abbrev nm_H_take : MethodName := ⟨"RunOrder$House", "take", "(III)V"⟩
abbrev nm_H_giveBack : MethodName := ⟨"RunOrder$House", "giveBack", "(III)V"⟩
abbrev nm_A_init : MethodName := ⟨"RunOrder$Actions", "<init>", "()V"⟩
abbrev nm_A_has : MethodName := ⟨"RunOrder$Actions", "has", "(I)Z"⟩
abbrev nm_A_add : MethodName := ⟨"RunOrder$Actions", "add", "(III)I"⟩
abbrev nm_A_join : MethodName := ⟨"RunOrder$Actions", "join", "(II)I"⟩
abbrev nm_A_wanted : MethodName := ⟨"RunOrder$Actions", "wanted", "()I"⟩
abbrev nm_A_measureRests : MethodName := ⟨"RunOrder$Actions", "measureRests", "(I)V"⟩
abbrev nm_A_greatestRestAbove : MethodName := ⟨"RunOrder$Actions", "greatestRestAbove", "(II)I"⟩
abbrev nm_U_init : MethodName := ⟨"RunOrder$Rules", "<init>", "()V"⟩
abbrev nm_N_init : MethodName := ⟨"RunOrder$Run", "<init>", "(LRunOrder$House;LRunOrder$Actions;LRunOrder$Rules;)V"⟩
abbrev nm_N_goThrough : MethodName := ⟨"RunOrder$Run", "goThrough", "()I"⟩
abbrev nm_N_tell : MethodName := ⟨"RunOrder$Run", "tell", "(II)I"⟩
abbrev nm_N_firstBad : MethodName := ⟨"RunOrder$Run", "firstBad", "()I"⟩
abbrev nm_N_begunAs : MethodName := ⟨"RunOrder$Run", "begunAs", "(I)I"⟩
abbrev nm_N_prepare : MethodName := ⟨"RunOrder$Run", "prepare", "()V"⟩
abbrev nm_N_stateAtFirst : MethodName := ⟨"RunOrder$Run", "stateAtFirst", "(I)I"⟩
abbrev nm_N_endTries : MethodName := ⟨"RunOrder$Run", "endTries", "(I)V"⟩
abbrev nm_N_endTry : MethodName := ⟨"RunOrder$Run", "endTry", "(III)V"⟩
abbrev nm_N_leaveBothSides : MethodName := ⟨"RunOrder$Run", "leaveBothSides", "(I)V"⟩
abbrev nm_N_mayTryAgain : MethodName := ⟨"RunOrder$Run", "mayTryAgain", "(I)Z"⟩
abbrev nm_N_isOneBad : MethodName := ⟨"RunOrder$Run", "isOneBad", "()Z"⟩
abbrev nm_N_skipHindered : MethodName := ⟨"RunOrder$Run", "skipHindered", "()V"⟩
abbrev nm_N_allIn : MethodName := ⟨"RunOrder$Run", "allIn", "(I)I"⟩
abbrev nm_N_stopWaiting : MethodName := ⟨"RunOrder$Run", "stopWaiting", "()V"⟩
abbrev nm_N_beginReady : MethodName := ⟨"RunOrder$Run", "beginReady", "(I)V"⟩
abbrev nm_N_allReady : MethodName := ⟨"RunOrder$Run", "allReady", "()I"⟩
abbrev nm_N_isOtherThanTestLeft : MethodName := ⟨"RunOrder$Run", "isOtherThanTestLeft", "()Z"⟩
abbrev nm_N_foremost : MethodName := ⟨"RunOrder$Run", "foremost", "(I)I"⟩
abbrev nm_N_beginTry : MethodName := ⟨"RunOrder$Run", "beginTry", "(II)V"⟩
abbrev nm_N_nextEnd : MethodName := ⟨"RunOrder$Run", "nextEnd", "()I"⟩
abbrev nm_N_sooner : MethodName := ⟨"RunOrder$Run", "sooner", "(II)I"⟩
abbrev nm_M_init : MethodName := ⟨"RunOrderModel", "<init>", "(II)V"⟩
abbrev nm_M_held : MethodName := ⟨"RunOrderModel", "held", "(III)I"⟩
abbrev nm_M_in : MethodName := ⟨"RunOrderModel", "in", "(III)Z"⟩
abbrev nm_M_isAction : MethodName := ⟨"RunOrderModel", "isAction", "(I)Z"⟩
abbrev nm_M_slots : MethodName := ⟨"RunOrderModel", "slots", "(I)Z"⟩
abbrev nm_M_action : MethodName := ⟨"RunOrderModel", "action", "(III)I"⟩
abbrev nm_M_about : MethodName := ⟨"RunOrderModel", "about", "(IZII)Z"⟩
abbrev nm_M_fails : MethodName := ⟨"RunOrderModel", "fails", "(III)Z"⟩
abbrev nm_M_all : MethodName := ⟨"RunOrderModel", "all", "(I)I"⟩
abbrev nm_M_needs : MethodName := ⟨"RunOrderModel", "needs", "(II)I"⟩
abbrev nm_M_wish : MethodName := ⟨"RunOrderModel", "wish", "(IZ)Z"⟩
abbrev nm_M_mode : MethodName := ⟨"RunOrderModel", "mode", "(IZ)Z"⟩
abbrev nm_M_retries : MethodName := ⟨"RunOrderModel", "retries", "(II)Z"⟩
abbrev nm_M_want : MethodName := ⟨"RunOrderModel", "want", "()V"⟩
abbrev nm_M_rest : MethodName := ⟨"RunOrderModel", "rest", "(I)I"⟩
abbrev nm_M_fresh : MethodName := ⟨"RunOrderModel", "fresh", "()V"⟩
abbrev nm_M_isSpoilt : MethodName := ⟨"RunOrderModel", "isSpoilt", "()Z"⟩
abbrev nm_M_end : MethodName := ⟨"RunOrderModel", "end", "(III)V"⟩
abbrev nm_M_endAll : MethodName := ⟨"RunOrderModel", "endAll", "(I)V"⟩
abbrev nm_M_lacks : MethodName := ⟨"RunOrderModel", "lacks", "(I)Z"⟩
abbrev nm_M_skipAll : MethodName := ⟨"RunOrderModel", "skipAll", "()V"⟩
abbrev nm_M_stopAll : MethodName := ⟨"RunOrderModel", "stopAll", "()V"⟩
abbrev nm_M_isReady : MethodName := ⟨"RunOrderModel", "isReady", "(IZ)Z"⟩
abbrev nm_M_taken : MethodName := ⟨"RunOrderModel", "taken", "(I)I"⟩
abbrev nm_M_fits : MethodName := ⟨"RunOrderModel", "fits", "(I)Z"⟩
abbrev nm_M_begin : MethodName := ⟨"RunOrderModel", "begin", "(II)V"⟩
abbrev nm_M_next : MethodName := ⟨"RunOrderModel", "next", "()I"⟩
abbrev nm_M_beginAll : MethodName := ⟨"RunOrderModel", "beginAll", "(I)V"⟩
abbrev nm_M_nextEnd : MethodName := ⟨"RunOrderModel", "nextEnd", "()I"⟩
abbrev nm_M_run : MethodName := ⟨"RunOrderModel", "run", "()I"⟩
abbrev nm_M_outcome : MethodName := ⟨"RunOrderModel", "outcome", "(II)I"⟩
abbrev nm_M_first : MethodName := ⟨"RunOrderModel", "first", "()I"⟩
abbrev nm_M_order : MethodName := ⟨"RunOrderModel", "order", "(I)I"⟩
abbrev nm_M_peak : MethodName := ⟨"RunOrderModel", "peak", "(I)I"⟩
def ax_NMs : List ax_N := [
  (nm_O_init, prog_1_method_1_code, none),
  (nm_O_slots, prog_1_method_2_code, some .boolean),
  (nm_O_action, prog_1_method_3_code, some .int),
  (nm_O_about, prog_1_method_4_code, some .boolean),
  (nm_O_fails, prog_1_method_5_code, some .boolean),
  (nm_O_needs, prog_1_method_6_code, some .int),
  (nm_O_wish, prog_1_method_7_code, some .boolean),
  (nm_O_mode, prog_1_method_8_code, some .boolean),
  (nm_O_retries, prog_1_method_9_code, some .boolean),
  (nm_O_run, prog_1_method_10_code, some .int),
  (nm_O_rest, prog_1_method_11_code, some .int),
  (nm_O_outcome, prog_1_method_12_code, some .int),
  (nm_O_first, prog_1_method_13_code, some .int),
  (nm_O_order, prog_1_method_14_code, some .int),
  (nm_O_peak, prog_1_method_15_code, some .int),
  (nm_O_within, prog_1_method_16_code, some .boolean),
  (nm_O_nearest, prog_1_method_17_code, some .int),
  (nm_O_only, prog_1_method_18_code, some .int),
  (nm_O_isIn, prog_1_method_19_code, some .boolean),
  (nm_H_init, prog_3_method_1_code, none),
  (nm_H_clear, prog_3_method_2_code, none),
  (nm_H_isTooSmallFor, prog_3_method_3_code, some .boolean),
  (nm_H_hasFree, prog_3_method_4_code, some .boolean),
  (nm_H_hasFreeSlot, prog_3_method_5_code, some .boolean),
  (nm_H_take, prog_3_method_6_code, none),
  (nm_H_giveBack, prog_3_method_7_code, none),
  (nm_A_init, prog_2_method_1_code, none),
  (nm_A_has, prog_2_method_2_code, some .boolean),
  (nm_A_add, prog_2_method_3_code, some .int),
  (nm_A_join, prog_2_method_4_code, some .int),
  (nm_A_wanted, prog_2_method_5_code, some .int),
  (nm_A_measureRests, prog_2_method_6_code, none),
  (nm_A_greatestRestAbove, prog_2_method_7_code, some .int),
  (nm_U_init, prog_4_method_1_code, none),
  (nm_N_init, prog_5_method_1_code, none),
  (nm_N_goThrough, prog_5_method_2_code, some .int),
  (nm_N_tell, prog_5_method_3_code, some .int),
  (nm_N_firstBad, prog_5_method_4_code, some .int),
  (nm_N_begunAs, prog_5_method_5_code, some .int),
  (nm_N_prepare, prog_5_method_6_code, none),
  (nm_N_stateAtFirst, prog_5_method_7_code, some .int),
  (nm_N_endTries, prog_5_method_8_code, none),
  (nm_N_endTry, prog_5_method_9_code, none),
  (nm_N_leaveBothSides, prog_5_method_10_code, none),
  (nm_N_mayTryAgain, prog_5_method_11_code, some .boolean),
  (nm_N_isOneBad, prog_5_method_12_code, some .boolean),
  (nm_N_skipHindered, prog_5_method_13_code, none),
  (nm_N_allIn, prog_5_method_14_code, some .int),
  (nm_N_stopWaiting, prog_5_method_15_code, none),
  (nm_N_beginReady, prog_5_method_16_code, none),
  (nm_N_allReady, prog_5_method_17_code, some .int),
  (nm_N_isOtherThanTestLeft, prog_5_method_18_code, some .boolean),
  (nm_N_foremost, prog_5_method_19_code, some .int),
  (nm_N_beginTry, prog_5_method_20_code, none),
  (nm_N_nextEnd, prog_5_method_21_code, some .int),
  (nm_N_sooner, prog_5_method_22_code, some .int),
  (nm_M_init, prog_7_method_1_code, none),
  (nm_M_held, prog_7_method_3_code, some .int),
  (nm_M_in, prog_7_method_4_code, some .boolean),
  (nm_M_isAction, prog_7_method_5_code, some .boolean),
  (nm_M_slots, prog_7_method_6_code, some .boolean),
  (nm_M_action, prog_7_method_7_code, some .int),
  (nm_M_about, prog_7_method_8_code, some .boolean),
  (nm_M_fails, prog_7_method_9_code, some .boolean),
  (nm_M_all, prog_7_method_10_code, some .int),
  (nm_M_needs, prog_7_method_11_code, some .int),
  (nm_M_wish, prog_7_method_12_code, some .boolean),
  (nm_M_mode, prog_7_method_13_code, some .boolean),
  (nm_M_retries, prog_7_method_14_code, some .boolean),
  (nm_M_want, prog_7_method_15_code, none),
  (nm_M_rest, prog_7_method_16_code, some .int),
  (nm_M_fresh, prog_7_method_17_code, none),
  (nm_M_isSpoilt, prog_7_method_18_code, some .boolean),
  (nm_M_end, prog_7_method_19_code, none),
  (nm_M_endAll, prog_7_method_20_code, none),
  (nm_M_lacks, prog_7_method_21_code, some .boolean),
  (nm_M_skipAll, prog_7_method_22_code, none),
  (nm_M_stopAll, prog_7_method_23_code, none),
  (nm_M_isReady, prog_7_method_24_code, some .boolean),
  (nm_M_taken, prog_7_method_25_code, some .int),
  (nm_M_fits, prog_7_method_26_code, some .boolean),
  (nm_M_begin, prog_7_method_27_code, none),
  (nm_M_next, prog_7_method_28_code, some .int),
  (nm_M_beginAll, prog_7_method_29_code, none),
  (nm_M_nextEnd, prog_7_method_30_code, some .int),
  (nm_M_run, prog_7_method_31_code, some .int),
  (nm_M_outcome, prog_7_method_32_code, some .int),
  (nm_M_first, prog_7_method_33_code, some .int),
  (nm_M_order, prog_7_method_34_code, some .int),
  (nm_M_peak, prog_7_method_35_code, some .int)]
abbrev ax_NLs : List (String × Nat × MethodName × String) := [("RunOrder", 25, ⟨"RunOrder$Actions", "<init>", "()V"⟩, "RunOrder"), ("RunOrder", 32, ⟨"RunOrder$Rules", "<init>", "()V"⟩, "RunOrder"), ("RunOrder$Actions", 53, ⟨"RunOrder", "isIn", "(II)Z"⟩, "RunOrder"), ("RunOrder$Actions", 57, ⟨"RunOrder", "only", "(I)I"⟩, "RunOrder"), ("RunOrder$Run", 102, ⟨"RunOrder", "isIn", "(II)Z"⟩, "RunOrder"), ("RunOrder$Run", 157, ⟨"RunOrder", "only", "(I)I"⟩, "RunOrder")]
def ax_TT : List Cond := lw_tbl.filter goodWord
theorem ax_tt (i : Nat) {w : Cond} (h : lw_tbl[i]? = some w) (g : goodWord w = true) : w ∈ ax_TT := List.mem_filter.mpr ⟨List.mem_of_getElem? h, g⟩
end
section
/-! The words that the tables need, each by its place. -/
set_option maxRecDepth 20000 in
theorem tw_0 : Cond.selects "RunOrder$Run" ⟨"RunOrder$Run", "prepare", "()V"⟩ ⟨"RunOrder$Run", "prepare", "()V"⟩ ∈ ax_TT := ax_tt 0 rfl rfl
set_option maxRecDepth 20000 in
theorem tw_1 : Cond.selects "RunOrder$Actions" ⟨"RunOrder$Actions", "greatestRestAbove", "(II)I"⟩ ⟨"RunOrder$Actions", "greatestRestAbove", "(II)I"⟩ ∈ ax_TT := ax_tt 1 rfl rfl
set_option maxRecDepth 20000 in
theorem tw_2 : Cond.selects "RunOrder$Run" ⟨"RunOrder$Run", "stateAtFirst", "(I)I"⟩ ⟨"RunOrder$Run", "stateAtFirst", "(I)I"⟩ ∈ ax_TT := ax_tt 2 rfl rfl
set_option maxRecDepth 20000 in
theorem tw_3 : Cond.selects "RunOrder$Run" ⟨"RunOrder$Run", "endTries", "(I)V"⟩ ⟨"RunOrder$Run", "endTries", "(I)V"⟩ ∈ ax_TT := ax_tt 3 rfl rfl
set_option maxRecDepth 20000 in
theorem tw_4 : Cond.selects "RunOrder$Run" ⟨"RunOrder$Run", "endTry", "(III)V"⟩ ⟨"RunOrder$Run", "endTry", "(III)V"⟩ ∈ ax_TT := ax_tt 4 rfl rfl
set_option maxRecDepth 20000 in
theorem tw_5 : Cond.selects "RunOrder$Run" ⟨"RunOrder$Run", "leaveBothSides", "(I)V"⟩ ⟨"RunOrder$Run", "leaveBothSides", "(I)V"⟩ ∈ ax_TT := ax_tt 5 rfl rfl
set_option maxRecDepth 20000 in
theorem tw_6 : Cond.selects "RunOrder$Run" ⟨"RunOrder$Run", "mayTryAgain", "(I)Z"⟩ ⟨"RunOrder$Run", "mayTryAgain", "(I)Z"⟩ ∈ ax_TT := ax_tt 6 rfl rfl
set_option maxRecDepth 20000 in
theorem tw_7 : Cond.selects "RunOrder$Run" ⟨"RunOrder$Run", "isOneBad", "()Z"⟩ ⟨"RunOrder$Run", "isOneBad", "()Z"⟩ ∈ ax_TT := ax_tt 7 rfl rfl
set_option maxRecDepth 20000 in
theorem tw_8 : Cond.selects "RunOrder$Run" ⟨"RunOrder$Run", "skipHindered", "()V"⟩ ⟨"RunOrder$Run", "skipHindered", "()V"⟩ ∈ ax_TT := ax_tt 8 rfl rfl
set_option maxRecDepth 20000 in
theorem tw_9 : Cond.selects "RunOrder$Run" ⟨"RunOrder$Run", "allIn", "(I)I"⟩ ⟨"RunOrder$Run", "allIn", "(I)I"⟩ ∈ ax_TT := ax_tt 9 rfl rfl
set_option maxRecDepth 20000 in
theorem tw_10 : Cond.selects "RunOrder$Run" ⟨"RunOrder$Run", "stopWaiting", "()V"⟩ ⟨"RunOrder$Run", "stopWaiting", "()V"⟩ ∈ ax_TT := ax_tt 10 rfl rfl
set_option maxRecDepth 20000 in
theorem tw_11 : Cond.selects "RunOrder$Run" ⟨"RunOrder$Run", "beginReady", "(I)V"⟩ ⟨"RunOrder$Run", "beginReady", "(I)V"⟩ ∈ ax_TT := ax_tt 11 rfl rfl
set_option maxRecDepth 20000 in
theorem tw_12 : Cond.selects "RunOrder$Run" ⟨"RunOrder$Run", "allReady", "()I"⟩ ⟨"RunOrder$Run", "allReady", "()I"⟩ ∈ ax_TT := ax_tt 12 rfl rfl
set_option maxRecDepth 20000 in
theorem tw_13 : Cond.selects "RunOrder$Run" ⟨"RunOrder$Run", "isOtherThanTestLeft", "()Z"⟩ ⟨"RunOrder$Run", "isOtherThanTestLeft", "()Z"⟩ ∈ ax_TT := ax_tt 13 rfl rfl
set_option maxRecDepth 20000 in
theorem tw_14 : Cond.selects "RunOrder$Run" ⟨"RunOrder$Run", "foremost", "(I)I"⟩ ⟨"RunOrder$Run", "foremost", "(I)I"⟩ ∈ ax_TT := ax_tt 14 rfl rfl
set_option maxRecDepth 20000 in
theorem tw_15 : Cond.selects "RunOrder$Run" ⟨"RunOrder$Run", "beginTry", "(II)V"⟩ ⟨"RunOrder$Run", "beginTry", "(II)V"⟩ ∈ ax_TT := ax_tt 15 rfl rfl
set_option maxRecDepth 20000 in
theorem tw_16 : Cond.selects "RunOrder$Run" ⟨"RunOrder$Run", "nextEnd", "()I"⟩ ⟨"RunOrder$Run", "nextEnd", "()I"⟩ ∈ ax_TT := ax_tt 16 rfl rfl
set_option maxRecDepth 20000 in
theorem tw_17 : Cond.selects "RunOrderModel" ⟨"RunOrderModel", "isAction", "(I)Z"⟩ ⟨"RunOrderModel", "isAction", "(I)Z"⟩ ∈ ax_TT := ax_tt 17 rfl rfl
set_option maxRecDepth 20000 in
theorem tw_18 : Cond.selects "RunOrderModel" ⟨"RunOrderModel", "all", "(I)I"⟩ ⟨"RunOrderModel", "all", "(I)I"⟩ ∈ ax_TT := ax_tt 18 rfl rfl
set_option maxRecDepth 20000 in
theorem tw_19 : Cond.selects "RunOrderModel" ⟨"RunOrderModel", "want", "()V"⟩ ⟨"RunOrderModel", "want", "()V"⟩ ∈ ax_TT := ax_tt 19 rfl rfl
set_option maxRecDepth 20000 in
theorem tw_20 : Cond.selects "RunOrderModel" ⟨"RunOrderModel", "fresh", "()V"⟩ ⟨"RunOrderModel", "fresh", "()V"⟩ ∈ ax_TT := ax_tt 20 rfl rfl
set_option maxRecDepth 20000 in
theorem tw_21 : Cond.selects "RunOrderModel" ⟨"RunOrderModel", "endAll", "(I)V"⟩ ⟨"RunOrderModel", "endAll", "(I)V"⟩ ∈ ax_TT := ax_tt 21 rfl rfl
set_option maxRecDepth 20000 in
theorem tw_22 : Cond.selects "RunOrderModel" ⟨"RunOrderModel", "end", "(III)V"⟩ ⟨"RunOrderModel", "end", "(III)V"⟩ ∈ ax_TT := ax_tt 22 rfl rfl
set_option maxRecDepth 20000 in
theorem tw_23 : Cond.selects "RunOrderModel" ⟨"RunOrderModel", "isSpoilt", "()Z"⟩ ⟨"RunOrderModel", "isSpoilt", "()Z"⟩ ∈ ax_TT := ax_tt 23 rfl rfl
set_option maxRecDepth 20000 in
theorem tw_24 : Cond.selects "RunOrderModel" ⟨"RunOrderModel", "skipAll", "()V"⟩ ⟨"RunOrderModel", "skipAll", "()V"⟩ ∈ ax_TT := ax_tt 24 rfl rfl
set_option maxRecDepth 20000 in
theorem tw_25 : Cond.selects "RunOrderModel" ⟨"RunOrderModel", "lacks", "(I)Z"⟩ ⟨"RunOrderModel", "lacks", "(I)Z"⟩ ∈ ax_TT := ax_tt 25 rfl rfl
set_option maxRecDepth 20000 in
theorem tw_26 : Cond.selects "RunOrderModel" ⟨"RunOrderModel", "stopAll", "()V"⟩ ⟨"RunOrderModel", "stopAll", "()V"⟩ ∈ ax_TT := ax_tt 26 rfl rfl
set_option maxRecDepth 20000 in
theorem tw_27 : Cond.selects "RunOrderModel" ⟨"RunOrderModel", "beginAll", "(I)V"⟩ ⟨"RunOrderModel", "beginAll", "(I)V"⟩ ∈ ax_TT := ax_tt 27 rfl rfl
set_option maxRecDepth 20000 in
theorem tw_28 : Cond.selects "RunOrderModel" ⟨"RunOrderModel", "isReady", "(IZ)Z"⟩ ⟨"RunOrderModel", "isReady", "(IZ)Z"⟩ ∈ ax_TT := ax_tt 28 rfl rfl
set_option maxRecDepth 20000 in
theorem tw_29 : Cond.selects "RunOrderModel" ⟨"RunOrderModel", "next", "()I"⟩ ⟨"RunOrderModel", "next", "()I"⟩ ∈ ax_TT := ax_tt 29 rfl rfl
set_option maxRecDepth 20000 in
theorem tw_30 : Cond.selects "RunOrderModel" ⟨"RunOrderModel", "fits", "(I)Z"⟩ ⟨"RunOrderModel", "fits", "(I)Z"⟩ ∈ ax_TT := ax_tt 30 rfl rfl
set_option maxRecDepth 20000 in
theorem tw_31 : Cond.selects "RunOrderModel" ⟨"RunOrderModel", "taken", "(I)I"⟩ ⟨"RunOrderModel", "taken", "(I)I"⟩ ∈ ax_TT := ax_tt 31 rfl rfl
set_option maxRecDepth 20000 in
theorem tw_32 : Cond.selects "RunOrderModel" ⟨"RunOrderModel", "begin", "(II)V"⟩ ⟨"RunOrderModel", "begin", "(II)V"⟩ ∈ ax_TT := ax_tt 32 rfl rfl
set_option maxRecDepth 20000 in
theorem tw_33 : Cond.selects "RunOrderModel" ⟨"RunOrderModel", "nextEnd", "()I"⟩ ⟨"RunOrderModel", "nextEnd", "()I"⟩ ∈ ax_TT := ax_tt 33 rfl rfl
set_option maxRecDepth 20000 in
theorem tw_35 : Cond.initialized "RunOrder" ∈ ax_TT := ax_tt 35 rfl rfl
set_option maxRecDepth 20000 in
theorem tw_36 : Cond.initialized "RunOrder$House" ∈ ax_TT := ax_tt 36 rfl rfl
set_option maxRecDepth 20000 in
theorem tw_37 : Cond.initialized "java/lang/Math" ∈ ax_TT := ax_tt 37 rfl rfl
set_option maxRecDepth 20000 in
theorem tw_38 : Cond.initialized "RunOrder$Actions" ∈ ax_TT := ax_tt 38 rfl rfl
set_option maxRecDepth 20000 in
theorem tw_39 : Cond.initialized "RunOrder$Rules" ∈ ax_TT := ax_tt 39 rfl rfl
set_option maxRecDepth 20000 in
theorem tw_40 : Cond.initialized "RunOrder$Run" ∈ ax_TT := ax_tt 40 rfl rfl
set_option maxRecDepth 20000 in
theorem tw_41 : Cond.initialized "RunOrderModel" ∈ ax_TT := ax_tt 41 rfl rfl
set_option maxRecDepth 20000 in
theorem tw_46 : Cond.code ⟨"RunOrder", "<init>", "(II)V"⟩ prog_1_method_1_code 3 none ∈ ax_TT := ax_tt 46 rfl rfl
set_option maxRecDepth 20000 in
theorem tw_47 : Cond.methodLink "RunOrder" 3 ⟨"java/lang/Object", "<init>", "()V"⟩ ∈ ax_TT := ax_tt 47 rfl rfl
set_option maxRecDepth 20000 in
theorem tw_48 : Cond.instanceMethod ⟨"java/lang/Object", "<init>", "()V"⟩ ∈ ax_TT := ax_tt 48 rfl rfl
set_option maxRecDepth 20000 in
theorem tw_49 : Cond.code ⟨"java/lang/Object", "<init>", "()V"⟩ object_method_1_code 1 none ∈ ax_TT := ax_tt 49 rfl rfl
set_option maxRecDepth 20000 in
theorem tw_50 : Cond.classLink "RunOrder" 9 "RunOrder$House" ∈ ax_TT := ax_tt 50 rfl rfl
set_option maxRecDepth 20000 in
theorem tw_51 : Cond.instantiable "RunOrder$House" 9 ∈ ax_TT := ax_tt 51 rfl rfl
set_option maxRecDepth 20000 in
theorem tw_52 : Cond.methodLink "RunOrder" 11 ⟨"RunOrder", "nearest", "(III)I"⟩ ∈ ax_TT := ax_tt 52 rfl rfl
set_option maxRecDepth 20000 in
theorem tw_53 : Cond.static ⟨"RunOrder", "nearest", "(III)I"⟩ ∈ ax_TT := ax_tt 53 rfl rfl
set_option maxRecDepth 20000 in
theorem tw_54 : Cond.code ⟨"RunOrder", "nearest", "(III)I"⟩ prog_1_method_17_code 3 (some .int) ∈ ax_TT := ax_tt 54 rfl rfl
set_option maxRecDepth 20000 in
theorem tw_55 : Cond.methodLink "RunOrder" 125 ⟨"java/lang/Math", "min", "(II)I"⟩ ∈ ax_TT := ax_tt 55 rfl rfl
set_option maxRecDepth 20000 in
theorem tw_56 : Cond.static ⟨"java/lang/Math", "min", "(II)I"⟩ ∈ ax_TT := ax_tt 56 rfl rfl
set_option maxRecDepth 20000 in
theorem tw_57 : Cond.code ⟨"java/lang/Math", "min", "(II)I"⟩ prog_8_method_69_code 2 (some .int) ∈ ax_TT := ax_tt 57 rfl rfl
set_option maxRecDepth 20000 in
theorem tw_58 : Cond.methodLink "RunOrder" 130 ⟨"java/lang/Math", "max", "(II)I"⟩ ∈ ax_TT := ax_tt 58 rfl rfl
set_option maxRecDepth 20000 in
theorem tw_59 : Cond.static ⟨"java/lang/Math", "max", "(II)I"⟩ ∈ ax_TT := ax_tt 59 rfl rfl
set_option maxRecDepth 20000 in
theorem tw_60 : Cond.code ⟨"java/lang/Math", "max", "(II)I"⟩ prog_8_method_65_code 2 (some .int) ∈ ax_TT := ax_tt 60 rfl rfl
set_option maxRecDepth 20000 in
theorem tw_61 : Cond.constant "RunOrder" 15 1000000 ∈ ax_TT := ax_tt 61 rfl rfl
set_option maxRecDepth 20000 in
theorem tw_62 : Cond.methodLink "RunOrder" 16 ⟨"RunOrder$House", "<init>", "(II)V"⟩ ∈ ax_TT := ax_tt 62 rfl rfl
set_option maxRecDepth 20000 in
theorem tw_63 : Cond.instanceMethod ⟨"RunOrder$House", "<init>", "(II)V"⟩ ∈ ax_TT := ax_tt 63 rfl rfl
set_option maxRecDepth 20000 in
theorem tw_64 : Cond.code ⟨"RunOrder$House", "<init>", "(II)V"⟩ prog_3_method_1_code 3 none ∈ ax_TT := ax_tt 64 rfl rfl
set_option maxRecDepth 20000 in
theorem tw_65 : Cond.methodLink "RunOrder$House" 1 ⟨"java/lang/Object", "<init>", "()V"⟩ ∈ ax_TT := ax_tt 65 rfl rfl
set_option maxRecDepth 20000 in
theorem tw_66 : Cond.fieldLink "RunOrder$House" 7 "RunOrder$House" "cores" "I" ∈ ax_TT := ax_tt 66 rfl rfl
set_option maxRecDepth 20000 in
theorem tw_67 : Cond.fieldLink "RunOrder$House" 13 "RunOrder$House" "memory" "I" ∈ ax_TT := ax_tt 67 rfl rfl
set_option maxRecDepth 20000 in
theorem tw_68 : Cond.fieldLink "RunOrder" 50 "RunOrder$House" "slots" "I" ∈ ax_TT := ax_tt 68 rfl rfl
set_option maxRecDepth 20000 in
theorem tw_69 : Cond.fieldLink "RunOrder$House" 34 "RunOrder$House" "slots" "I" ∈ ax_TT := ax_tt 69 rfl rfl
set_option maxRecDepth 20000 in
theorem tw_70 : Cond.fieldLink "RunOrder$House" 16 "RunOrder$House" "coresTaken" "I" ∈ ax_TT := ax_tt 70 rfl rfl
set_option maxRecDepth 20000 in
theorem tw_71 : Cond.fieldLink "RunOrder$House" 19 "RunOrder$House" "memoryTaken" "I" ∈ ax_TT := ax_tt 71 rfl rfl
set_option maxRecDepth 20000 in
theorem tw_72 : Cond.fieldLink "RunOrder$House" 22 "RunOrder$House" "locksTaken" "I" ∈ ax_TT := ax_tt 72 rfl rfl
set_option maxRecDepth 20000 in
theorem tw_73 : Cond.fieldLink "RunOrder$House" 25 "RunOrder$House" "slotsTaken" "I" ∈ ax_TT := ax_tt 73 rfl rfl
set_option maxRecDepth 20000 in
theorem tw_74 : Cond.fieldLink "RunOrder$Run" 139 "RunOrder$House" "slotsTaken" "I" ∈ ax_TT := ax_tt 74 rfl rfl
set_option maxRecDepth 20000 in
theorem tw_75 : Cond.fieldLink "RunOrder$House" 28 "RunOrder$House" "mostCores" "I" ∈ ax_TT := ax_tt 75 rfl rfl
set_option maxRecDepth 20000 in
theorem tw_76 : Cond.fieldLink "RunOrder" 119 "RunOrder$House" "mostCores" "I" ∈ ax_TT := ax_tt 76 rfl rfl
set_option maxRecDepth 20000 in
theorem tw_77 : Cond.fieldLink "RunOrder$House" 31 "RunOrder$House" "mostMemory" "I" ∈ ax_TT := ax_tt 77 rfl rfl
set_option maxRecDepth 20000 in
theorem tw_78 : Cond.fieldLink "RunOrder" 122 "RunOrder$House" "mostMemory" "I" ∈ ax_TT := ax_tt 78 rfl rfl
set_option maxRecDepth 20000 in
theorem tw_79 : Cond.laysFinal "RunOrder$House" "RunOrder$House" "cores" "I" ∈ ax_TT := ax_tt 79 rfl rfl
set_option maxRecDepth 20000 in
theorem tw_81 : Cond.laysFinal "RunOrder$House" "RunOrder$House" "memory" "I" ∈ ax_TT := ax_tt 81 rfl rfl
set_option maxRecDepth 20000 in
theorem tw_83 : Cond.lays "RunOrder$House" "RunOrder$House" "slots" "I" ∈ ax_TT := ax_tt 83 rfl rfl
set_option maxRecDepth 20000 in
theorem tw_85 : Cond.lays "RunOrder$House" "RunOrder$House" "coresTaken" "I" ∈ ax_TT := ax_tt 85 rfl rfl
set_option maxRecDepth 20000 in
theorem tw_87 : Cond.lays "RunOrder$House" "RunOrder$House" "memoryTaken" "I" ∈ ax_TT := ax_tt 87 rfl rfl
set_option maxRecDepth 20000 in
theorem tw_89 : Cond.lays "RunOrder$House" "RunOrder$House" "locksTaken" "I" ∈ ax_TT := ax_tt 89 rfl rfl
set_option maxRecDepth 20000 in
theorem tw_91 : Cond.lays "RunOrder$House" "RunOrder$House" "slotsTaken" "I" ∈ ax_TT := ax_tt 91 rfl rfl
set_option maxRecDepth 20000 in
theorem tw_93 : Cond.lays "RunOrder$House" "RunOrder$House" "mostCores" "I" ∈ ax_TT := ax_tt 93 rfl rfl
set_option maxRecDepth 20000 in
theorem tw_95 : Cond.lays "RunOrder$House" "RunOrder$House" "mostMemory" "I" ∈ ax_TT := ax_tt 95 rfl rfl
set_option maxRecDepth 20000 in
theorem tw_98 : Cond.classLink "RunOrder" 23 "RunOrder$Actions" ∈ ax_TT := ax_tt 98 rfl rfl
set_option maxRecDepth 20000 in
theorem tw_99 : Cond.instantiable "RunOrder$Actions" 13 ∈ ax_TT := ax_tt 99 rfl rfl
set_option maxRecDepth 20000 in
theorem tw_101 : Cond.instanceMethod ⟨"RunOrder$Actions", "<init>", "()V"⟩ ∈ ax_TT := ax_tt 101 rfl rfl
set_option maxRecDepth 20000 in
theorem tw_102 : Cond.code ⟨"RunOrder$Actions", "<init>", "()V"⟩ prog_2_method_1_code 1 none ∈ ax_TT := ax_tt 102 rfl rfl
set_option maxRecDepth 20000 in
theorem tw_103 : Cond.methodLink "RunOrder$Actions" 3 ⟨"java/lang/Object", "<init>", "()V"⟩ ∈ ax_TT := ax_tt 103 rfl rfl
set_option maxRecDepth 20000 in
theorem tw_104 : Cond.fieldLink "RunOrder$Actions" 49 "RunOrder$Actions" "count" "I" ∈ ax_TT := ax_tt 104 rfl rfl
set_option maxRecDepth 20000 in
theorem tw_105 : Cond.fieldLink "RunOrder$Run" 82 "RunOrder$Actions" "count" "I" ∈ ax_TT := ax_tt 105 rfl rfl
set_option maxRecDepth 20000 in
theorem tw_106 : Cond.fieldLink "RunOrder$Actions" 9 "RunOrder$Actions" "time" "[I" ∈ ax_TT := ax_tt 106 rfl rfl
set_option maxRecDepth 20000 in
theorem tw_107 : Cond.fieldLink "RunOrder$Run" 186 "RunOrder$Actions" "time" "[I" ∈ ax_TT := ax_tt 107 rfl rfl
set_option maxRecDepth 20000 in
theorem tw_108 : Cond.fieldLink "RunOrder$Actions" 15 "RunOrder$Actions" "cores" "[I" ∈ ax_TT := ax_tt 108 rfl rfl
set_option maxRecDepth 20000 in
theorem tw_109 : Cond.fieldLink "RunOrder$Run" 110 "RunOrder$Actions" "cores" "[I" ∈ ax_TT := ax_tt 109 rfl rfl
set_option maxRecDepth 20000 in
theorem tw_110 : Cond.fieldLink "RunOrder$Actions" 18 "RunOrder$Actions" "memory" "[I" ∈ ax_TT := ax_tt 110 rfl rfl
set_option maxRecDepth 20000 in
theorem tw_111 : Cond.fieldLink "RunOrder$Run" 113 "RunOrder$Actions" "memory" "[I" ∈ ax_TT := ax_tt 111 rfl rfl
set_option maxRecDepth 20000 in
theorem tw_112 : Cond.fieldLink "RunOrder$Actions" 21 "RunOrder$Actions" "locks" "[I" ∈ ax_TT := ax_tt 112 rfl rfl
set_option maxRecDepth 20000 in
theorem tw_113 : Cond.fieldLink "RunOrder" 65 "RunOrder$Actions" "locks" "[I" ∈ ax_TT := ax_tt 113 rfl rfl
set_option maxRecDepth 20000 in
theorem tw_114 : Cond.fieldLink "RunOrder$Run" 133 "RunOrder$Actions" "locks" "[I" ∈ ax_TT := ax_tt 114 rfl rfl
set_option maxRecDepth 20000 in
theorem tw_115 : Cond.fieldLink "RunOrder$Actions" 24 "RunOrder$Actions" "farTime" "[I" ∈ ax_TT := ax_tt 115 rfl rfl
set_option maxRecDepth 20000 in
theorem tw_116 : Cond.fieldLink "RunOrder" 69 "RunOrder$Actions" "farTime" "[I" ∈ ax_TT := ax_tt 116 rfl rfl
set_option maxRecDepth 20000 in
theorem tw_117 : Cond.fieldLink "RunOrder$Run" 189 "RunOrder$Actions" "farTime" "[I" ∈ ax_TT := ax_tt 117 rfl rfl
set_option maxRecDepth 20000 in
theorem tw_118 : Cond.fieldLink "RunOrder$Actions" 27 "RunOrder$Actions" "failing" "[I" ∈ ax_TT := ax_tt 118 rfl rfl
set_option maxRecDepth 20000 in
theorem tw_119 : Cond.fieldLink "RunOrder" 72 "RunOrder$Actions" "failing" "[I" ∈ ax_TT := ax_tt 119 rfl rfl
set_option maxRecDepth 20000 in
theorem tw_120 : Cond.fieldLink "RunOrder$Run" 126 "RunOrder$Actions" "failing" "[I" ∈ ax_TT := ax_tt 120 rfl rfl
set_option maxRecDepth 20000 in
theorem tw_121 : Cond.fieldLink "RunOrder$Actions" 30 "RunOrder$Actions" "kind" "[I" ∈ ax_TT := ax_tt 121 rfl rfl
set_option maxRecDepth 20000 in
theorem tw_122 : Cond.fieldLink "RunOrder" 75 "RunOrder$Actions" "kind" "[I" ∈ ax_TT := ax_tt 122 rfl rfl
set_option maxRecDepth 20000 in
theorem tw_123 : Cond.fieldLink "RunOrder$Run" 145 "RunOrder$Actions" "kind" "[I" ∈ ax_TT := ax_tt 123 rfl rfl
set_option maxRecDepth 20000 in
theorem tw_124 : Cond.fieldLink "RunOrder$Actions" 33 "RunOrder$Actions" "test" "[Z" ∈ ax_TT := ax_tt 124 rfl rfl
set_option maxRecDepth 20000 in
theorem tw_125 : Cond.fieldLink "RunOrder" 61 "RunOrder$Actions" "test" "[Z" ∈ ax_TT := ax_tt 125 rfl rfl
set_option maxRecDepth 20000 in
theorem tw_126 : Cond.fieldLink "RunOrder$Run" 177 "RunOrder$Actions" "test" "[Z" ∈ ax_TT := ax_tt 126 rfl rfl
set_option maxRecDepth 20000 in
theorem tw_127 : Cond.fieldLink "RunOrder$Actions" 37 "RunOrder$Actions" "wished" "[Z" ∈ ax_TT := ax_tt 127 rfl rfl
set_option maxRecDepth 20000 in
theorem tw_128 : Cond.fieldLink "RunOrder" 82 "RunOrder$Actions" "wished" "[Z" ∈ ax_TT := ax_tt 128 rfl rfl
set_option maxRecDepth 20000 in
theorem tw_129 : Cond.fieldLink "RunOrder$Actions" 40 "RunOrder$Actions" "needed" "[I" ∈ ax_TT := ax_tt 129 rfl rfl
set_option maxRecDepth 20000 in
theorem tw_130 : Cond.fieldLink "RunOrder$Run" 154 "RunOrder$Actions" "needed" "[I" ∈ ax_TT := ax_tt 130 rfl rfl
set_option maxRecDepth 20000 in
theorem tw_131 : Cond.fieldLink "RunOrder$Actions" 43 "RunOrder$Actions" "neededDeep" "[I" ∈ ax_TT := ax_tt 131 rfl rfl
set_option maxRecDepth 20000 in
theorem tw_132 : Cond.fieldLink "RunOrder$Actions" 46 "RunOrder$Actions" "rests" "[I" ∈ ax_TT := ax_tt 132 rfl rfl
set_option maxRecDepth 20000 in
theorem tw_133 : Cond.fieldLink "RunOrder" 106 "RunOrder$Actions" "rests" "[I" ∈ ax_TT := ax_tt 133 rfl rfl
set_option maxRecDepth 20000 in
theorem tw_134 : Cond.fieldLink "RunOrder$Run" 180 "RunOrder$Actions" "rests" "[I" ∈ ax_TT := ax_tt 134 rfl rfl
set_option maxRecDepth 20000 in
theorem tw_135 : Cond.lays "RunOrder$Actions" "RunOrder$Actions" "count" "I" ∈ ax_TT := ax_tt 135 rfl rfl
set_option maxRecDepth 20000 in
theorem tw_137 : Cond.laysFinal "RunOrder$Actions" "RunOrder$Actions" "time" "[I" ∈ ax_TT := ax_tt 137 rfl rfl
set_option maxRecDepth 20000 in
theorem tw_139 : Cond.laysFinal "RunOrder$Actions" "RunOrder$Actions" "cores" "[I" ∈ ax_TT := ax_tt 139 rfl rfl
set_option maxRecDepth 20000 in
theorem tw_141 : Cond.laysFinal "RunOrder$Actions" "RunOrder$Actions" "memory" "[I" ∈ ax_TT := ax_tt 141 rfl rfl
set_option maxRecDepth 20000 in
theorem tw_143 : Cond.laysFinal "RunOrder$Actions" "RunOrder$Actions" "locks" "[I" ∈ ax_TT := ax_tt 143 rfl rfl
set_option maxRecDepth 20000 in
theorem tw_145 : Cond.laysFinal "RunOrder$Actions" "RunOrder$Actions" "farTime" "[I" ∈ ax_TT := ax_tt 145 rfl rfl
set_option maxRecDepth 20000 in
theorem tw_147 : Cond.laysFinal "RunOrder$Actions" "RunOrder$Actions" "failing" "[I" ∈ ax_TT := ax_tt 147 rfl rfl
set_option maxRecDepth 20000 in
theorem tw_149 : Cond.laysFinal "RunOrder$Actions" "RunOrder$Actions" "kind" "[I" ∈ ax_TT := ax_tt 149 rfl rfl
set_option maxRecDepth 20000 in
theorem tw_151 : Cond.laysFinal "RunOrder$Actions" "RunOrder$Actions" "test" "[Z" ∈ ax_TT := ax_tt 151 rfl rfl
set_option maxRecDepth 20000 in
theorem tw_153 : Cond.laysFinal "RunOrder$Actions" "RunOrder$Actions" "wished" "[Z" ∈ ax_TT := ax_tt 153 rfl rfl
set_option maxRecDepth 20000 in
theorem tw_155 : Cond.laysFinal "RunOrder$Actions" "RunOrder$Actions" "needed" "[I" ∈ ax_TT := ax_tt 155 rfl rfl
set_option maxRecDepth 20000 in
theorem tw_157 : Cond.laysFinal "RunOrder$Actions" "RunOrder$Actions" "neededDeep" "[I" ∈ ax_TT := ax_tt 157 rfl rfl
set_option maxRecDepth 20000 in
theorem tw_159 : Cond.laysFinal "RunOrder$Actions" "RunOrder$Actions" "rests" "[I" ∈ ax_TT := ax_tt 159 rfl rfl
set_option maxRecDepth 20000 in
theorem tw_162 : Cond.arrayClass .int ∈ ax_TT := ax_tt 162 rfl rfl
set_option maxRecDepth 20000 in
theorem tw_163 : Cond.arrayClass .boolean ∈ ax_TT := ax_tt 163 rfl rfl
set_option maxRecDepth 20000 in
theorem tw_164 : Cond.classLink "RunOrder" 30 "RunOrder$Rules" ∈ ax_TT := ax_tt 164 rfl rfl
set_option maxRecDepth 20000 in
theorem tw_165 : Cond.instantiable "RunOrder$Rules" 2 ∈ ax_TT := ax_tt 165 rfl rfl
set_option maxRecDepth 20000 in
theorem tw_167 : Cond.instanceMethod ⟨"RunOrder$Rules", "<init>", "()V"⟩ ∈ ax_TT := ax_tt 167 rfl rfl
set_option maxRecDepth 20000 in
theorem tw_168 : Cond.code ⟨"RunOrder$Rules", "<init>", "()V"⟩ prog_4_method_1_code 1 none ∈ ax_TT := ax_tt 168 rfl rfl
set_option maxRecDepth 20000 in
theorem tw_169 : Cond.methodLink "RunOrder$Rules" 3 ⟨"java/lang/Object", "<init>", "()V"⟩ ∈ ax_TT := ax_tt 169 rfl rfl
set_option maxRecDepth 20000 in
theorem tw_170 : Cond.fieldLink "RunOrder$Rules" 9 "RunOrder$Rules" "on" "[Z" ∈ ax_TT := ax_tt 170 rfl rfl
set_option maxRecDepth 20000 in
theorem tw_171 : Cond.fieldLink "RunOrder$Run" 58 "RunOrder$Rules" "on" "[Z" ∈ ax_TT := ax_tt 171 rfl rfl
set_option maxRecDepth 20000 in
theorem tw_172 : Cond.fieldLink "RunOrder" 85 "RunOrder$Rules" "on" "[Z" ∈ ax_TT := ax_tt 172 rfl rfl
set_option maxRecDepth 20000 in
theorem tw_173 : Cond.fieldLink "RunOrder$Rules" 15 "RunOrder$Rules" "again" "[I" ∈ ax_TT := ax_tt 173 rfl rfl
set_option maxRecDepth 20000 in
theorem tw_174 : Cond.fieldLink "RunOrder" 88 "RunOrder$Rules" "again" "[I" ∈ ax_TT := ax_tt 174 rfl rfl
set_option maxRecDepth 20000 in
theorem tw_175 : Cond.fieldLink "RunOrder$Run" 142 "RunOrder$Rules" "again" "[I" ∈ ax_TT := ax_tt 175 rfl rfl
set_option maxRecDepth 20000 in
theorem tw_176 : Cond.laysFinal "RunOrder$Rules" "RunOrder$Rules" "on" "[Z" ∈ ax_TT := ax_tt 176 rfl rfl
set_option maxRecDepth 20000 in
theorem tw_178 : Cond.laysFinal "RunOrder$Rules" "RunOrder$Rules" "again" "[I" ∈ ax_TT := ax_tt 178 rfl rfl
set_option maxRecDepth 20000 in
theorem tw_181 : Cond.classLink "RunOrder" 37 "RunOrder$Run" ∈ ax_TT := ax_tt 181 rfl rfl
set_option maxRecDepth 20000 in
theorem tw_182 : Cond.instantiable "RunOrder$Run" 13 ∈ ax_TT := ax_tt 182 rfl rfl
set_option maxRecDepth 20000 in
theorem tw_183 : Cond.methodLink "RunOrder" 39 ⟨"RunOrder$Run", "<init>", "(LRunOrder$House;LRunOrder$Actions;LRunOrder$Rules;)V"⟩ ∈ ax_TT := ax_tt 183 rfl rfl
set_option maxRecDepth 20000 in
theorem tw_184 : Cond.instanceMethod ⟨"RunOrder$Run", "<init>", "(LRunOrder$House;LRunOrder$Actions;LRunOrder$Rules;)V"⟩ ∈ ax_TT := ax_tt 184 rfl rfl
set_option maxRecDepth 20000 in
theorem tw_185 : Cond.code ⟨"RunOrder$Run", "<init>", "(LRunOrder$House;LRunOrder$Actions;LRunOrder$Rules;)V"⟩ prog_5_method_1_code 4 none ∈ ax_TT := ax_tt 185 rfl rfl
set_option maxRecDepth 20000 in
theorem tw_186 : Cond.methodLink "RunOrder$Run" 3 ⟨"java/lang/Object", "<init>", "()V"⟩ ∈ ax_TT := ax_tt 186 rfl rfl
set_option maxRecDepth 20000 in
theorem tw_187 : Cond.fieldLink "RunOrder$Run" 36 "RunOrder$Run" "house" "LRunOrder$House;" ∈ ax_TT := ax_tt 187 rfl rfl
set_option maxRecDepth 20000 in
theorem tw_188 : Cond.fieldLink "RunOrder$Run" 40 "RunOrder$Run" "actions" "LRunOrder$Actions;" ∈ ax_TT := ax_tt 188 rfl rfl
set_option maxRecDepth 20000 in
theorem tw_189 : Cond.fieldLink "RunOrder$Run" 44 "RunOrder$Run" "rules" "LRunOrder$Rules;" ∈ ax_TT := ax_tt 189 rfl rfl
set_option maxRecDepth 20000 in
theorem tw_190 : Cond.fieldLink "RunOrder$Run" 78 "RunOrder$Run" "happened" "Z" ∈ ax_TT := ax_tt 190 rfl rfl
set_option maxRecDepth 20000 in
theorem tw_191 : Cond.fieldLink "RunOrder$Run" 9 "RunOrder$Run" "state" "[I" ∈ ax_TT := ax_tt 191 rfl rfl
set_option maxRecDepth 20000 in
theorem tw_192 : Cond.fieldLink "RunOrder$Run" 15 "RunOrder$Run" "firstBegan" "[I" ∈ ax_TT := ax_tt 192 rfl rfl
set_option maxRecDepth 20000 in
theorem tw_193 : Cond.fieldLink "RunOrder$Run" 18 "RunOrder$Run" "lastEnded" "[I" ∈ ax_TT := ax_tt 193 rfl rfl
set_option maxRecDepth 20000 in
theorem tw_194 : Cond.fieldLink "RunOrder$Run" 21 "RunOrder$Run" "tries" "[I" ∈ ax_TT := ax_tt 194 rfl rfl
set_option maxRecDepth 20000 in
theorem tw_195 : Cond.fieldLink "RunOrder$Run" 24 "RunOrder$Run" "doneBy" "[I" ∈ ax_TT := ax_tt 195 rfl rfl
set_option maxRecDepth 20000 in
theorem tw_196 : Cond.fieldLink "RunOrder$Run" 27 "RunOrder$Run" "endHere" "[I" ∈ ax_TT := ax_tt 196 rfl rfl
set_option maxRecDepth 20000 in
theorem tw_197 : Cond.fieldLink "RunOrder$Run" 30 "RunOrder$Run" "endFar" "[I" ∈ ax_TT := ax_tt 197 rfl rfl
set_option maxRecDepth 20000 in
theorem tw_198 : Cond.fieldLink "RunOrder$Run" 33 "RunOrder$Run" "begun" "[I" ∈ ax_TT := ax_tt 198 rfl rfl
set_option maxRecDepth 20000 in
theorem tw_199 : Cond.fieldLink "RunOrder$Run" 88 "RunOrder$Run" "begins" "I" ∈ ax_TT := ax_tt 199 rfl rfl
set_option maxRecDepth 20000 in
theorem tw_200 : Cond.laysFinal "RunOrder$Run" "RunOrder$Run" "house" "LRunOrder$House;" ∈ ax_TT := ax_tt 200 rfl rfl
set_option maxRecDepth 20000 in
theorem tw_202 : Cond.laysFinal "RunOrder$Run" "RunOrder$Run" "actions" "LRunOrder$Actions;" ∈ ax_TT := ax_tt 202 rfl rfl
set_option maxRecDepth 20000 in
theorem tw_204 : Cond.laysFinal "RunOrder$Run" "RunOrder$Run" "rules" "LRunOrder$Rules;" ∈ ax_TT := ax_tt 204 rfl rfl
set_option maxRecDepth 20000 in
theorem tw_206 : Cond.lays "RunOrder$Run" "RunOrder$Run" "happened" "Z" ∈ ax_TT := ax_tt 206 rfl rfl
set_option maxRecDepth 20000 in
theorem tw_208 : Cond.laysFinal "RunOrder$Run" "RunOrder$Run" "state" "[I" ∈ ax_TT := ax_tt 208 rfl rfl
set_option maxRecDepth 20000 in
theorem tw_210 : Cond.laysFinal "RunOrder$Run" "RunOrder$Run" "firstBegan" "[I" ∈ ax_TT := ax_tt 210 rfl rfl
set_option maxRecDepth 20000 in
theorem tw_212 : Cond.laysFinal "RunOrder$Run" "RunOrder$Run" "lastEnded" "[I" ∈ ax_TT := ax_tt 212 rfl rfl
set_option maxRecDepth 20000 in
theorem tw_214 : Cond.laysFinal "RunOrder$Run" "RunOrder$Run" "tries" "[I" ∈ ax_TT := ax_tt 214 rfl rfl
set_option maxRecDepth 20000 in
theorem tw_216 : Cond.laysFinal "RunOrder$Run" "RunOrder$Run" "doneBy" "[I" ∈ ax_TT := ax_tt 216 rfl rfl
set_option maxRecDepth 20000 in
theorem tw_218 : Cond.laysFinal "RunOrder$Run" "RunOrder$Run" "endHere" "[I" ∈ ax_TT := ax_tt 218 rfl rfl
set_option maxRecDepth 20000 in
theorem tw_220 : Cond.laysFinal "RunOrder$Run" "RunOrder$Run" "endFar" "[I" ∈ ax_TT := ax_tt 220 rfl rfl
set_option maxRecDepth 20000 in
theorem tw_222 : Cond.laysFinal "RunOrder$Run" "RunOrder$Run" "begun" "[I" ∈ ax_TT := ax_tt 222 rfl rfl
set_option maxRecDepth 20000 in
theorem tw_224 : Cond.lays "RunOrder$Run" "RunOrder$Run" "begins" "I" ∈ ax_TT := ax_tt 224 rfl rfl
set_option maxRecDepth 20000 in
theorem tw_227 : Cond.fieldLink "RunOrder" 19 "RunOrder" "house" "LRunOrder$House;" ∈ ax_TT := ax_tt 227 rfl rfl
set_option maxRecDepth 20000 in
theorem tw_228 : Cond.fieldLink "RunOrder" 26 "RunOrder" "actions" "LRunOrder$Actions;" ∈ ax_TT := ax_tt 228 rfl rfl
set_option maxRecDepth 20000 in
theorem tw_229 : Cond.fieldLink "RunOrder" 33 "RunOrder" "rules" "LRunOrder$Rules;" ∈ ax_TT := ax_tt 229 rfl rfl
set_option maxRecDepth 20000 in
theorem tw_230 : Cond.fieldLink "RunOrder" 42 "RunOrder" "latest" "LRunOrder$Run;" ∈ ax_TT := ax_tt 230 rfl rfl
set_option maxRecDepth 20000 in
theorem tw_231 : Cond.laysFinal "RunOrder" "RunOrder" "house" "LRunOrder$House;" ∈ ax_TT := ax_tt 231 rfl rfl
set_option maxRecDepth 20000 in
theorem tw_233 : Cond.laysFinal "RunOrder" "RunOrder" "actions" "LRunOrder$Actions;" ∈ ax_TT := ax_tt 233 rfl rfl
set_option maxRecDepth 20000 in
theorem tw_235 : Cond.laysFinal "RunOrder" "RunOrder" "rules" "LRunOrder$Rules;" ∈ ax_TT := ax_tt 235 rfl rfl
set_option maxRecDepth 20000 in
theorem tw_237 : Cond.laysFinal "RunOrder" "RunOrder" "latest" "LRunOrder$Run;" ∈ ax_TT := ax_tt 237 rfl rfl
set_option maxRecDepth 20000 in
theorem tw_243 : Cond.code ⟨"RunOrder", "slots", "(I)Z"⟩ prog_1_method_2_code 2 (some .boolean) ∈ ax_TT := ax_tt 243 rfl rfl
set_option maxRecDepth 20000 in
theorem tw_244 : Cond.methodLink "RunOrder" 46 ⟨"RunOrder", "within", "(III)Z"⟩ ∈ ax_TT := ax_tt 244 rfl rfl
set_option maxRecDepth 20000 in
theorem tw_245 : Cond.static ⟨"RunOrder", "within", "(III)Z"⟩ ∈ ax_TT := ax_tt 245 rfl rfl
set_option maxRecDepth 20000 in
theorem tw_246 : Cond.code ⟨"RunOrder", "within", "(III)Z"⟩ prog_1_method_16_code 3 (some .boolean) ∈ ax_TT := ax_tt 246 rfl rfl
set_option maxRecDepth 20000 in
theorem tw_250 : Cond.code ⟨"RunOrder", "action", "(III)I"⟩ prog_1_method_3_code 5 (some .int) ∈ ax_TT := ax_tt 250 rfl rfl
set_option maxRecDepth 20000 in
theorem tw_251 : Cond.methodLink "RunOrder" 54 ⟨"RunOrder$Actions", "add", "(III)I"⟩ ∈ ax_TT := ax_tt 251 rfl rfl
set_option maxRecDepth 20000 in
theorem tw_252 : Cond.instanceMethod ⟨"RunOrder$Actions", "add", "(III)I"⟩ ∈ ax_TT := ax_tt 252 rfl rfl
set_option maxRecDepth 20000 in
theorem tw_253 : Cond.selects "RunOrder$Actions" ⟨"RunOrder$Actions", "add", "(III)I"⟩ ⟨"RunOrder$Actions", "add", "(III)I"⟩ ∈ ax_TT := ax_tt 253 rfl rfl
set_option maxRecDepth 20000 in
theorem tw_254 : Cond.code ⟨"RunOrder$Actions", "add", "(III)I"⟩ prog_2_method_3_code 4 (some .int) ∈ ax_TT := ax_tt 254 rfl rfl
set_option maxRecDepth 20000 in
theorem tw_258 : Cond.code ⟨"RunOrder", "about", "(IZII)Z"⟩ prog_1_method_4_code 5 (some .boolean) ∈ ax_TT := ax_tt 258 rfl rfl
set_option maxRecDepth 20000 in
theorem tw_259 : Cond.methodLink "RunOrder" 57 ⟨"RunOrder$Actions", "has", "(I)Z"⟩ ∈ ax_TT := ax_tt 259 rfl rfl
set_option maxRecDepth 20000 in
theorem tw_260 : Cond.instanceMethod ⟨"RunOrder$Actions", "has", "(I)Z"⟩ ∈ ax_TT := ax_tt 260 rfl rfl
set_option maxRecDepth 20000 in
theorem tw_261 : Cond.selects "RunOrder$Actions" ⟨"RunOrder$Actions", "has", "(I)Z"⟩ ⟨"RunOrder$Actions", "has", "(I)Z"⟩ ∈ ax_TT := ax_tt 261 rfl rfl
set_option maxRecDepth 20000 in
theorem tw_262 : Cond.code ⟨"RunOrder$Actions", "has", "(I)Z"⟩ prog_2_method_2_code 2 (some .boolean) ∈ ax_TT := ax_tt 262 rfl rfl
set_option maxRecDepth 20000 in
theorem tw_266 : Cond.code ⟨"RunOrder", "fails", "(III)Z"⟩ prog_1_method_5_code 4 (some .boolean) ∈ ax_TT := ax_tt 266 rfl rfl
set_option maxRecDepth 20000 in
theorem tw_270 : Cond.code ⟨"RunOrder", "needs", "(II)I"⟩ prog_1_method_6_code 3 (some .int) ∈ ax_TT := ax_tt 270 rfl rfl
set_option maxRecDepth 20000 in
theorem tw_271 : Cond.methodLink "RunOrder" 78 ⟨"RunOrder$Actions", "join", "(II)I"⟩ ∈ ax_TT := ax_tt 271 rfl rfl
set_option maxRecDepth 20000 in
theorem tw_272 : Cond.instanceMethod ⟨"RunOrder$Actions", "join", "(II)I"⟩ ∈ ax_TT := ax_tt 272 rfl rfl
set_option maxRecDepth 20000 in
theorem tw_273 : Cond.selects "RunOrder$Actions" ⟨"RunOrder$Actions", "join", "(II)I"⟩ ⟨"RunOrder$Actions", "join", "(II)I"⟩ ∈ ax_TT := ax_tt 273 rfl rfl
set_option maxRecDepth 20000 in
theorem tw_274 : Cond.code ⟨"RunOrder$Actions", "join", "(II)I"⟩ prog_2_method_4_code 5 (some .int) ∈ ax_TT := ax_tt 274 rfl rfl
set_option maxRecDepth 20000 in
theorem tw_276 : Cond.static ⟨"RunOrder", "isIn", "(II)Z"⟩ ∈ ax_TT := ax_tt 276 rfl rfl
set_option maxRecDepth 20000 in
theorem tw_277 : Cond.code ⟨"RunOrder", "isIn", "(II)Z"⟩ prog_1_method_19_code 2 (some .boolean) ∈ ax_TT := ax_tt 277 rfl rfl
set_option maxRecDepth 20000 in
theorem tw_278 : Cond.methodLink "RunOrder" 133 ⟨"RunOrder", "only", "(I)I"⟩ ∈ ax_TT := ax_tt 278 rfl rfl
set_option maxRecDepth 20000 in
theorem tw_279 : Cond.static ⟨"RunOrder", "only", "(I)I"⟩ ∈ ax_TT := ax_tt 279 rfl rfl
set_option maxRecDepth 20000 in
theorem tw_280 : Cond.code ⟨"RunOrder", "only", "(I)I"⟩ prog_1_method_18_code 1 (some .int) ∈ ax_TT := ax_tt 280 rfl rfl
set_option maxRecDepth 20000 in
theorem tw_285 : Cond.code ⟨"RunOrder", "wish", "(IZ)Z"⟩ prog_1_method_7_code 3 (some .boolean) ∈ ax_TT := ax_tt 285 rfl rfl
set_option maxRecDepth 20000 in
theorem tw_289 : Cond.code ⟨"RunOrder", "mode", "(IZ)Z"⟩ prog_1_method_8_code 3 (some .boolean) ∈ ax_TT := ax_tt 289 rfl rfl
set_option maxRecDepth 20000 in
theorem tw_293 : Cond.code ⟨"RunOrder", "retries", "(II)Z"⟩ prog_1_method_9_code 3 (some .boolean) ∈ ax_TT := ax_tt 293 rfl rfl
set_option maxRecDepth 20000 in
theorem tw_297 : Cond.code ⟨"RunOrder", "run", "()I"⟩ prog_1_method_10_code 1 (some .int) ∈ ax_TT := ax_tt 297 rfl rfl
set_option maxRecDepth 20000 in
theorem tw_298 : Cond.methodLink "RunOrder" 91 ⟨"RunOrder$Run", "goThrough", "()I"⟩ ∈ ax_TT := ax_tt 298 rfl rfl
set_option maxRecDepth 20000 in
theorem tw_299 : Cond.instanceMethod ⟨"RunOrder$Run", "goThrough", "()I"⟩ ∈ ax_TT := ax_tt 299 rfl rfl
set_option maxRecDepth 20000 in
theorem tw_300 : Cond.selects "RunOrder$Run" ⟨"RunOrder$Run", "goThrough", "()I"⟩ ⟨"RunOrder$Run", "goThrough", "()I"⟩ ∈ ax_TT := ax_tt 300 rfl rfl
set_option maxRecDepth 20000 in
theorem tw_301 : Cond.code ⟨"RunOrder$Run", "goThrough", "()I"⟩ prog_5_method_2_code 4 (some .int) ∈ ax_TT := ax_tt 301 rfl rfl
set_option maxRecDepth 20000 in
theorem tw_302 : Cond.methodLink "RunOrder$Run" 48 ⟨"RunOrder$Run", "prepare", "()V"⟩ ∈ ax_TT := ax_tt 302 rfl rfl
set_option maxRecDepth 20000 in
theorem tw_304 : Cond.instanceMethod ⟨"RunOrder$Run", "prepare", "()V"⟩ ∈ ax_TT := ax_tt 304 rfl rfl
set_option maxRecDepth 20000 in
theorem tw_305 : Cond.code ⟨"RunOrder$Run", "prepare", "()V"⟩ prog_5_method_6_code 3 none ∈ ax_TT := ax_tt 305 rfl rfl
set_option maxRecDepth 20000 in
theorem tw_306 : Cond.methodLink "RunOrder$Run" 91 ⟨"RunOrder$House", "clear", "()V"⟩ ∈ ax_TT := ax_tt 306 rfl rfl
set_option maxRecDepth 20000 in
theorem tw_307 : Cond.instanceMethod ⟨"RunOrder$House", "clear", "()V"⟩ ∈ ax_TT := ax_tt 307 rfl rfl
set_option maxRecDepth 20000 in
theorem tw_308 : Cond.selects "RunOrder$House" ⟨"RunOrder$House", "clear", "()V"⟩ ⟨"RunOrder$House", "clear", "()V"⟩ ∈ ax_TT := ax_tt 308 rfl rfl
set_option maxRecDepth 20000 in
theorem tw_309 : Cond.code ⟨"RunOrder$House", "clear", "()V"⟩ prog_3_method_2_code 1 none ∈ ax_TT := ax_tt 309 rfl rfl
set_option maxRecDepth 20000 in
theorem tw_310 : Cond.methodLink "RunOrder$Run" 96 ⟨"RunOrder$Actions", "wanted", "()I"⟩ ∈ ax_TT := ax_tt 310 rfl rfl
set_option maxRecDepth 20000 in
theorem tw_311 : Cond.instanceMethod ⟨"RunOrder$Actions", "wanted", "()I"⟩ ∈ ax_TT := ax_tt 311 rfl rfl
set_option maxRecDepth 20000 in
theorem tw_312 : Cond.selects "RunOrder$Actions" ⟨"RunOrder$Actions", "wanted", "()I"⟩ ⟨"RunOrder$Actions", "wanted", "()I"⟩ ∈ ax_TT := ax_tt 312 rfl rfl
set_option maxRecDepth 20000 in
theorem tw_313 : Cond.code ⟨"RunOrder$Actions", "wanted", "()I"⟩ prog_2_method_5_code 3 (some .int) ∈ ax_TT := ax_tt 313 rfl rfl
set_option maxRecDepth 20000 in
theorem tw_314 : Cond.methodLink "RunOrder$Run" 99 ⟨"RunOrder$Actions", "measureRests", "(I)V"⟩ ∈ ax_TT := ax_tt 314 rfl rfl
set_option maxRecDepth 20000 in
theorem tw_315 : Cond.instanceMethod ⟨"RunOrder$Actions", "measureRests", "(I)V"⟩ ∈ ax_TT := ax_tt 315 rfl rfl
set_option maxRecDepth 20000 in
theorem tw_316 : Cond.selects "RunOrder$Actions" ⟨"RunOrder$Actions", "measureRests", "(I)V"⟩ ⟨"RunOrder$Actions", "measureRests", "(I)V"⟩ ∈ ax_TT := ax_tt 316 rfl rfl
set_option maxRecDepth 20000 in
theorem tw_317 : Cond.code ⟨"RunOrder$Actions", "measureRests", "(I)V"⟩ prog_2_method_6_code 6 none ∈ ax_TT := ax_tt 317 rfl rfl
set_option maxRecDepth 20000 in
theorem tw_318 : Cond.methodLink "RunOrder$Actions" 61 ⟨"RunOrder$Actions", "greatestRestAbove", "(II)I"⟩ ∈ ax_TT := ax_tt 318 rfl rfl
set_option maxRecDepth 20000 in
theorem tw_320 : Cond.instanceMethod ⟨"RunOrder$Actions", "greatestRestAbove", "(II)I"⟩ ∈ ax_TT := ax_tt 320 rfl rfl
set_option maxRecDepth 20000 in
theorem tw_321 : Cond.code ⟨"RunOrder$Actions", "greatestRestAbove", "(II)I"⟩ prog_2_method_7_code 5 (some .int) ∈ ax_TT := ax_tt 321 rfl rfl
set_option maxRecDepth 20000 in
theorem tw_322 : Cond.methodLink "RunOrder$Actions" 65 ⟨"java/lang/Math", "max", "(II)I"⟩ ∈ ax_TT := ax_tt 322 rfl rfl
set_option maxRecDepth 20000 in
theorem tw_324 : Cond.methodLink "RunOrder$Run" 106 ⟨"RunOrder$Run", "stateAtFirst", "(I)I"⟩ ∈ ax_TT := ax_tt 324 rfl rfl
set_option maxRecDepth 20000 in
theorem tw_326 : Cond.instanceMethod ⟨"RunOrder$Run", "stateAtFirst", "(I)I"⟩ ∈ ax_TT := ax_tt 326 rfl rfl
set_option maxRecDepth 20000 in
theorem tw_327 : Cond.code ⟨"RunOrder$Run", "stateAtFirst", "(I)I"⟩ prog_5_method_7_code 2 (some .int) ∈ ax_TT := ax_tt 327 rfl rfl
set_option maxRecDepth 20000 in
theorem tw_328 : Cond.methodLink "RunOrder$Run" 116 ⟨"RunOrder$House", "isTooSmallFor", "(II)Z"⟩ ∈ ax_TT := ax_tt 328 rfl rfl
set_option maxRecDepth 20000 in
theorem tw_329 : Cond.instanceMethod ⟨"RunOrder$House", "isTooSmallFor", "(II)Z"⟩ ∈ ax_TT := ax_tt 329 rfl rfl
set_option maxRecDepth 20000 in
theorem tw_330 : Cond.selects "RunOrder$House" ⟨"RunOrder$House", "isTooSmallFor", "(II)Z"⟩ ⟨"RunOrder$House", "isTooSmallFor", "(II)Z"⟩ ∈ ax_TT := ax_tt 330 rfl rfl
set_option maxRecDepth 20000 in
theorem tw_331 : Cond.code ⟨"RunOrder$House", "isTooSmallFor", "(II)Z"⟩ prog_3_method_3_code 3 (some .boolean) ∈ ax_TT := ax_tt 331 rfl rfl
set_option maxRecDepth 20000 in
theorem tw_332 : Cond.methodLink "RunOrder$Run" 51 ⟨"RunOrder$Run", "endTries", "(I)V"⟩ ∈ ax_TT := ax_tt 332 rfl rfl
set_option maxRecDepth 20000 in
theorem tw_334 : Cond.instanceMethod ⟨"RunOrder$Run", "endTries", "(I)V"⟩ ∈ ax_TT := ax_tt 334 rfl rfl
set_option maxRecDepth 20000 in
theorem tw_335 : Cond.code ⟨"RunOrder$Run", "endTries", "(I)V"⟩ prog_5_method_8_code 3 none ∈ ax_TT := ax_tt 335 rfl rfl
set_option maxRecDepth 20000 in
theorem tw_336 : Cond.methodLink "RunOrder$Run" 119 ⟨"RunOrder$Run", "endTry", "(III)V"⟩ ∈ ax_TT := ax_tt 336 rfl rfl
set_option maxRecDepth 20000 in
theorem tw_338 : Cond.instanceMethod ⟨"RunOrder$Run", "endTry", "(III)V"⟩ ∈ ax_TT := ax_tt 338 rfl rfl
set_option maxRecDepth 20000 in
theorem tw_339 : Cond.code ⟨"RunOrder$Run", "endTry", "(III)V"⟩ prog_5_method_9_code 4 none ∈ ax_TT := ax_tt 339 rfl rfl
set_option maxRecDepth 20000 in
theorem tw_340 : Cond.methodLink "RunOrder$Run" 123 ⟨"RunOrder$Run", "leaveBothSides", "(I)V"⟩ ∈ ax_TT := ax_tt 340 rfl rfl
set_option maxRecDepth 20000 in
theorem tw_342 : Cond.instanceMethod ⟨"RunOrder$Run", "leaveBothSides", "(I)V"⟩ ∈ ax_TT := ax_tt 342 rfl rfl
set_option maxRecDepth 20000 in
theorem tw_343 : Cond.code ⟨"RunOrder$Run", "leaveBothSides", "(I)V"⟩ prog_5_method_10_code 2 none ∈ ax_TT := ax_tt 343 rfl rfl
set_option maxRecDepth 20000 in
theorem tw_344 : Cond.methodLink "RunOrder$Run" 136 ⟨"RunOrder$House", "giveBack", "(III)V"⟩ ∈ ax_TT := ax_tt 344 rfl rfl
set_option maxRecDepth 20000 in
theorem tw_345 : Cond.instanceMethod ⟨"RunOrder$House", "giveBack", "(III)V"⟩ ∈ ax_TT := ax_tt 345 rfl rfl
set_option maxRecDepth 20000 in
theorem tw_346 : Cond.selects "RunOrder$House" ⟨"RunOrder$House", "giveBack", "(III)V"⟩ ⟨"RunOrder$House", "giveBack", "(III)V"⟩ ∈ ax_TT := ax_tt 346 rfl rfl
set_option maxRecDepth 20000 in
theorem tw_347 : Cond.code ⟨"RunOrder$House", "giveBack", "(III)V"⟩ prog_3_method_7_code 4 none ∈ ax_TT := ax_tt 347 rfl rfl
set_option maxRecDepth 20000 in
theorem tw_348 : Cond.methodLink "RunOrder$Run" 129 ⟨"RunOrder$Run", "mayTryAgain", "(I)Z"⟩ ∈ ax_TT := ax_tt 348 rfl rfl
set_option maxRecDepth 20000 in
theorem tw_350 : Cond.instanceMethod ⟨"RunOrder$Run", "mayTryAgain", "(I)Z"⟩ ∈ ax_TT := ax_tt 350 rfl rfl
set_option maxRecDepth 20000 in
theorem tw_351 : Cond.code ⟨"RunOrder$Run", "mayTryAgain", "(I)Z"⟩ prog_5_method_11_code 3 (some .boolean) ∈ ax_TT := ax_tt 351 rfl rfl
set_option maxRecDepth 20000 in
theorem tw_352 : Cond.methodLink "RunOrder$Run" 64 ⟨"RunOrder$Run", "isOneBad", "()Z"⟩ ∈ ax_TT := ax_tt 352 rfl rfl
set_option maxRecDepth 20000 in
theorem tw_354 : Cond.instanceMethod ⟨"RunOrder$Run", "isOneBad", "()Z"⟩ ∈ ax_TT := ax_tt 354 rfl rfl
set_option maxRecDepth 20000 in
theorem tw_355 : Cond.code ⟨"RunOrder$Run", "isOneBad", "()Z"⟩ prog_5_method_12_code 1 (some .boolean) ∈ ax_TT := ax_tt 355 rfl rfl
set_option maxRecDepth 20000 in
theorem tw_356 : Cond.methodLink "RunOrder$Run" 148 ⟨"RunOrder$Run", "firstBad", "()I"⟩ ∈ ax_TT := ax_tt 356 rfl rfl
set_option maxRecDepth 20000 in
theorem tw_357 : Cond.instanceMethod ⟨"RunOrder$Run", "firstBad", "()I"⟩ ∈ ax_TT := ax_tt 357 rfl rfl
set_option maxRecDepth 20000 in
theorem tw_358 : Cond.selects "RunOrder$Run" ⟨"RunOrder$Run", "firstBad", "()I"⟩ ⟨"RunOrder$Run", "firstBad", "()I"⟩ ∈ ax_TT := ax_tt 358 rfl rfl
set_option maxRecDepth 20000 in
theorem tw_359 : Cond.code ⟨"RunOrder$Run", "firstBad", "()I"⟩ prog_5_method_4_code 2 (some .int) ∈ ax_TT := ax_tt 359 rfl rfl
set_option maxRecDepth 20000 in
theorem tw_360 : Cond.methodLink "RunOrder$Run" 55 ⟨"RunOrder$Run", "skipHindered", "()V"⟩ ∈ ax_TT := ax_tt 360 rfl rfl
set_option maxRecDepth 20000 in
theorem tw_362 : Cond.instanceMethod ⟨"RunOrder$Run", "skipHindered", "()V"⟩ ∈ ax_TT := ax_tt 362 rfl rfl
set_option maxRecDepth 20000 in
theorem tw_363 : Cond.code ⟨"RunOrder$Run", "skipHindered", "()V"⟩ prog_5_method_13_code 5 none ∈ ax_TT := ax_tt 363 rfl rfl
set_option maxRecDepth 20000 in
theorem tw_364 : Cond.methodLink "RunOrder$Run" 151 ⟨"RunOrder$Run", "allIn", "(I)I"⟩ ∈ ax_TT := ax_tt 364 rfl rfl
set_option maxRecDepth 20000 in
theorem tw_366 : Cond.instanceMethod ⟨"RunOrder$Run", "allIn", "(I)I"⟩ ∈ ax_TT := ax_tt 366 rfl rfl
set_option maxRecDepth 20000 in
theorem tw_367 : Cond.code ⟨"RunOrder$Run", "allIn", "(I)I"⟩ prog_5_method_14_code 4 (some .int) ∈ ax_TT := ax_tt 367 rfl rfl
set_option maxRecDepth 20000 in
theorem tw_369 : Cond.methodLink "RunOrder$Run" 68 ⟨"RunOrder$Run", "stopWaiting", "()V"⟩ ∈ ax_TT := ax_tt 369 rfl rfl
set_option maxRecDepth 20000 in
theorem tw_371 : Cond.instanceMethod ⟨"RunOrder$Run", "stopWaiting", "()V"⟩ ∈ ax_TT := ax_tt 371 rfl rfl
set_option maxRecDepth 20000 in
theorem tw_372 : Cond.code ⟨"RunOrder$Run", "stopWaiting", "()V"⟩ prog_5_method_15_code 2 none ∈ ax_TT := ax_tt 372 rfl rfl
set_option maxRecDepth 20000 in
theorem tw_373 : Cond.methodLink "RunOrder$Run" 71 ⟨"RunOrder$Run", "beginReady", "(I)V"⟩ ∈ ax_TT := ax_tt 373 rfl rfl
set_option maxRecDepth 20000 in
theorem tw_375 : Cond.instanceMethod ⟨"RunOrder$Run", "beginReady", "(I)V"⟩ ∈ ax_TT := ax_tt 375 rfl rfl
set_option maxRecDepth 20000 in
theorem tw_376 : Cond.code ⟨"RunOrder$Run", "beginReady", "(I)V"⟩ prog_5_method_16_code 5 none ∈ ax_TT := ax_tt 376 rfl rfl
set_option maxRecDepth 20000 in
theorem tw_377 : Cond.methodLink "RunOrder$Run" 160 ⟨"RunOrder$Run", "allReady", "()I"⟩ ∈ ax_TT := ax_tt 377 rfl rfl
set_option maxRecDepth 20000 in
theorem tw_379 : Cond.instanceMethod ⟨"RunOrder$Run", "allReady", "()I"⟩ ∈ ax_TT := ax_tt 379 rfl rfl
set_option maxRecDepth 20000 in
theorem tw_380 : Cond.code ⟨"RunOrder$Run", "allReady", "()I"⟩ prog_5_method_17_code 6 (some .int) ∈ ax_TT := ax_tt 380 rfl rfl
set_option maxRecDepth 20000 in
theorem tw_381 : Cond.methodLink "RunOrder$Run" 174 ⟨"RunOrder$Run", "isOtherThanTestLeft", "()Z"⟩ ∈ ax_TT := ax_tt 381 rfl rfl
set_option maxRecDepth 20000 in
theorem tw_383 : Cond.instanceMethod ⟨"RunOrder$Run", "isOtherThanTestLeft", "()Z"⟩ ∈ ax_TT := ax_tt 383 rfl rfl
set_option maxRecDepth 20000 in
theorem tw_384 : Cond.code ⟨"RunOrder$Run", "isOtherThanTestLeft", "()Z"⟩ prog_5_method_18_code 2 (some .boolean) ∈ ax_TT := ax_tt 384 rfl rfl
set_option maxRecDepth 20000 in
theorem tw_385 : Cond.methodLink "RunOrder$Run" 163 ⟨"RunOrder$Run", "foremost", "(I)I"⟩ ∈ ax_TT := ax_tt 385 rfl rfl
set_option maxRecDepth 20000 in
theorem tw_387 : Cond.instanceMethod ⟨"RunOrder$Run", "foremost", "(I)I"⟩ ∈ ax_TT := ax_tt 387 rfl rfl
set_option maxRecDepth 20000 in
theorem tw_388 : Cond.code ⟨"RunOrder$Run", "foremost", "(I)I"⟩ prog_5_method_19_code 4 (some .int) ∈ ax_TT := ax_tt 388 rfl rfl
set_option maxRecDepth 20000 in
theorem tw_389 : Cond.methodLink "RunOrder$Run" 166 ⟨"RunOrder$House", "hasFree", "(III)Z"⟩ ∈ ax_TT := ax_tt 389 rfl rfl
set_option maxRecDepth 20000 in
theorem tw_390 : Cond.instanceMethod ⟨"RunOrder$House", "hasFree", "(III)Z"⟩ ∈ ax_TT := ax_tt 390 rfl rfl
set_option maxRecDepth 20000 in
theorem tw_391 : Cond.selects "RunOrder$House" ⟨"RunOrder$House", "hasFree", "(III)Z"⟩ ⟨"RunOrder$House", "hasFree", "(III)Z"⟩ ∈ ax_TT := ax_tt 391 rfl rfl
set_option maxRecDepth 20000 in
theorem tw_392 : Cond.code ⟨"RunOrder$House", "hasFree", "(III)Z"⟩ prog_3_method_4_code 4 (some .boolean) ∈ ax_TT := ax_tt 392 rfl rfl
set_option maxRecDepth 20000 in
theorem tw_393 : Cond.methodLink "RunOrder$Run" 170 ⟨"RunOrder$Run", "beginTry", "(II)V"⟩ ∈ ax_TT := ax_tt 393 rfl rfl
set_option maxRecDepth 20000 in
theorem tw_395 : Cond.instanceMethod ⟨"RunOrder$Run", "beginTry", "(II)V"⟩ ∈ ax_TT := ax_tt 395 rfl rfl
set_option maxRecDepth 20000 in
theorem tw_396 : Cond.code ⟨"RunOrder$Run", "beginTry", "(II)V"⟩ prog_5_method_20_code 3 none ∈ ax_TT := ax_tt 396 rfl rfl
set_option maxRecDepth 20000 in
theorem tw_397 : Cond.methodLink "RunOrder$Run" 183 ⟨"RunOrder$House", "take", "(III)V"⟩ ∈ ax_TT := ax_tt 397 rfl rfl
set_option maxRecDepth 20000 in
theorem tw_398 : Cond.instanceMethod ⟨"RunOrder$House", "take", "(III)V"⟩ ∈ ax_TT := ax_tt 398 rfl rfl
set_option maxRecDepth 20000 in
theorem tw_399 : Cond.selects "RunOrder$House" ⟨"RunOrder$House", "take", "(III)V"⟩ ⟨"RunOrder$House", "take", "(III)V"⟩ ∈ ax_TT := ax_tt 399 rfl rfl
set_option maxRecDepth 20000 in
theorem tw_400 : Cond.code ⟨"RunOrder$House", "take", "(III)V"⟩ prog_3_method_6_code 4 none ∈ ax_TT := ax_tt 400 rfl rfl
set_option maxRecDepth 20000 in
theorem tw_401 : Cond.methodLink "RunOrder$House" 37 ⟨"java/lang/Math", "max", "(II)I"⟩ ∈ ax_TT := ax_tt 401 rfl rfl
set_option maxRecDepth 20000 in
theorem tw_402 : Cond.methodLink "RunOrder$Run" 192 ⟨"RunOrder$House", "hasFreeSlot", "()Z"⟩ ∈ ax_TT := ax_tt 402 rfl rfl
set_option maxRecDepth 20000 in
theorem tw_403 : Cond.instanceMethod ⟨"RunOrder$House", "hasFreeSlot", "()Z"⟩ ∈ ax_TT := ax_tt 403 rfl rfl
set_option maxRecDepth 20000 in
theorem tw_404 : Cond.selects "RunOrder$House" ⟨"RunOrder$House", "hasFreeSlot", "()Z"⟩ ⟨"RunOrder$House", "hasFreeSlot", "()Z"⟩ ∈ ax_TT := ax_tt 404 rfl rfl
set_option maxRecDepth 20000 in
theorem tw_405 : Cond.code ⟨"RunOrder$House", "hasFreeSlot", "()Z"⟩ prog_3_method_5_code 1 (some .boolean) ∈ ax_TT := ax_tt 405 rfl rfl
set_option maxRecDepth 20000 in
theorem tw_406 : Cond.methodLink "RunOrder$Run" 74 ⟨"RunOrder$Run", "nextEnd", "()I"⟩ ∈ ax_TT := ax_tt 406 rfl rfl
set_option maxRecDepth 20000 in
theorem tw_408 : Cond.instanceMethod ⟨"RunOrder$Run", "nextEnd", "()I"⟩ ∈ ax_TT := ax_tt 408 rfl rfl
set_option maxRecDepth 20000 in
theorem tw_409 : Cond.code ⟨"RunOrder$Run", "nextEnd", "()I"⟩ prog_5_method_21_code 3 (some .int) ∈ ax_TT := ax_tt 409 rfl rfl
set_option maxRecDepth 20000 in
theorem tw_410 : Cond.methodLink "RunOrder$Run" 195 ⟨"RunOrder$Run", "sooner", "(II)I"⟩ ∈ ax_TT := ax_tt 410 rfl rfl
set_option maxRecDepth 20000 in
theorem tw_411 : Cond.static ⟨"RunOrder$Run", "sooner", "(II)I"⟩ ∈ ax_TT := ax_tt 411 rfl rfl
set_option maxRecDepth 20000 in
theorem tw_412 : Cond.code ⟨"RunOrder$Run", "sooner", "(II)I"⟩ prog_5_method_22_code 2 (some .int) ∈ ax_TT := ax_tt 412 rfl rfl
set_option maxRecDepth 20000 in
theorem tw_413 : Cond.methodLink "RunOrder$Run" 199 ⟨"java/lang/Math", "min", "(II)I"⟩ ∈ ax_TT := ax_tt 413 rfl rfl
set_option maxRecDepth 20000 in
theorem tw_417 : Cond.code ⟨"RunOrder", "rest", "(I)I"⟩ prog_1_method_11_code 3 (some .int) ∈ ax_TT := ax_tt 417 rfl rfl
set_option maxRecDepth 20000 in
theorem tw_418 : Cond.methodLink "RunOrder" 95 ⟨"RunOrder$Actions", "wanted", "()I"⟩ ∈ ax_TT := ax_tt 418 rfl rfl
set_option maxRecDepth 20000 in
theorem tw_419 : Cond.methodLink "RunOrder" 98 ⟨"RunOrder", "isIn", "(II)Z"⟩ ∈ ax_TT := ax_tt 419 rfl rfl
set_option maxRecDepth 20000 in
theorem tw_420 : Cond.methodLink "RunOrder" 102 ⟨"RunOrder$Actions", "measureRests", "(I)V"⟩ ∈ ax_TT := ax_tt 420 rfl rfl
set_option maxRecDepth 20000 in
theorem tw_424 : Cond.code ⟨"RunOrder", "outcome", "(II)I"⟩ prog_1_method_12_code 3 (some .int) ∈ ax_TT := ax_tt 424 rfl rfl
set_option maxRecDepth 20000 in
theorem tw_425 : Cond.methodLink "RunOrder" 109 ⟨"RunOrder$Run", "tell", "(II)I"⟩ ∈ ax_TT := ax_tt 425 rfl rfl
set_option maxRecDepth 20000 in
theorem tw_426 : Cond.instanceMethod ⟨"RunOrder$Run", "tell", "(II)I"⟩ ∈ ax_TT := ax_tt 426 rfl rfl
set_option maxRecDepth 20000 in
theorem tw_427 : Cond.selects "RunOrder$Run" ⟨"RunOrder$Run", "tell", "(II)I"⟩ ⟨"RunOrder$Run", "tell", "(II)I"⟩ ∈ ax_TT := ax_tt 427 rfl rfl
set_option maxRecDepth 20000 in
theorem tw_428 : Cond.code ⟨"RunOrder$Run", "tell", "(II)I"⟩ prog_5_method_3_code 3 (some .int) ∈ ax_TT := ax_tt 428 rfl rfl
set_option maxRecDepth 20000 in
theorem tw_432 : Cond.code ⟨"RunOrder", "first", "()I"⟩ prog_1_method_13_code 1 (some .int) ∈ ax_TT := ax_tt 432 rfl rfl
set_option maxRecDepth 20000 in
theorem tw_433 : Cond.methodLink "RunOrder" 112 ⟨"RunOrder$Run", "firstBad", "()I"⟩ ∈ ax_TT := ax_tt 433 rfl rfl
set_option maxRecDepth 20000 in
theorem tw_437 : Cond.code ⟨"RunOrder", "order", "(I)I"⟩ prog_1_method_14_code 2 (some .int) ∈ ax_TT := ax_tt 437 rfl rfl
set_option maxRecDepth 20000 in
theorem tw_438 : Cond.methodLink "RunOrder" 115 ⟨"RunOrder$Run", "begunAs", "(I)I"⟩ ∈ ax_TT := ax_tt 438 rfl rfl
set_option maxRecDepth 20000 in
theorem tw_439 : Cond.instanceMethod ⟨"RunOrder$Run", "begunAs", "(I)I"⟩ ∈ ax_TT := ax_tt 439 rfl rfl
set_option maxRecDepth 20000 in
theorem tw_440 : Cond.selects "RunOrder$Run" ⟨"RunOrder$Run", "begunAs", "(I)I"⟩ ⟨"RunOrder$Run", "begunAs", "(I)I"⟩ ∈ ax_TT := ax_tt 440 rfl rfl
set_option maxRecDepth 20000 in
theorem tw_441 : Cond.code ⟨"RunOrder$Run", "begunAs", "(I)I"⟩ prog_5_method_5_code 2 (some .int) ∈ ax_TT := ax_tt 441 rfl rfl
set_option maxRecDepth 20000 in
theorem tw_445 : Cond.code ⟨"RunOrder", "peak", "(I)I"⟩ prog_1_method_15_code 2 (some .int) ∈ ax_TT := ax_tt 445 rfl rfl
set_option maxRecDepth 20000 in
theorem tw_453 : Cond.code ⟨"RunOrderModel", "<init>", "(II)V"⟩ prog_7_method_1_code 3 none ∈ ax_TT := ax_tt 453 rfl rfl
set_option maxRecDepth 20000 in
theorem tw_454 : Cond.methodLink "RunOrderModel" 1 ⟨"java/lang/Object", "<init>", "()V"⟩ ∈ ax_TT := ax_tt 454 rfl rfl
set_option maxRecDepth 20000 in
theorem tw_455 : Cond.methodLink "RunOrderModel" 83 ⟨"RunOrderModel", "held", "(III)I"⟩ ∈ ax_TT := ax_tt 455 rfl rfl
set_option maxRecDepth 20000 in
theorem tw_456 : Cond.static ⟨"RunOrderModel", "held", "(III)I"⟩ ∈ ax_TT := ax_tt 456 rfl rfl
set_option maxRecDepth 20000 in
theorem tw_457 : Cond.code ⟨"RunOrderModel", "held", "(III)I"⟩ prog_7_method_3_code 3 (some .int) ∈ ax_TT := ax_tt 457 rfl rfl
set_option maxRecDepth 20000 in
theorem tw_458 : Cond.constant "RunOrderModel" 91 1000000 ∈ ax_TT := ax_tt 458 rfl rfl
set_option maxRecDepth 20000 in
theorem tw_459 : Cond.fieldLink "RunOrderModel" 95 "RunOrderModel" "thrown" "I" ∈ ax_TT := ax_tt 459 rfl rfl
set_option maxRecDepth 20000 in
theorem tw_460 : Cond.fieldLink "RunOrderModel" 87 "RunOrderModel" "cores" "I" ∈ ax_TT := ax_tt 460 rfl rfl
set_option maxRecDepth 20000 in
theorem tw_461 : Cond.fieldLink "RunOrderModel" 92 "RunOrderModel" "memory" "I" ∈ ax_TT := ax_tt 461 rfl rfl
set_option maxRecDepth 20000 in
theorem tw_462 : Cond.fieldLink "RunOrderModel" 105 "RunOrderModel" "slots" "I" ∈ ax_TT := ax_tt 462 rfl rfl
set_option maxRecDepth 20000 in
theorem tw_463 : Cond.fieldLink "RunOrderModel" 98 "RunOrderModel" "many" "I" ∈ ax_TT := ax_tt 463 rfl rfl
set_option maxRecDepth 20000 in
theorem tw_464 : Cond.fieldLink "RunOrderModel" 7 "RunOrderModel" "time" "[I" ∈ ax_TT := ax_tt 464 rfl rfl
set_option maxRecDepth 20000 in
theorem tw_465 : Cond.fieldLink "RunOrderModel" 13 "RunOrderModel" "core" "[I" ∈ ax_TT := ax_tt 465 rfl rfl
set_option maxRecDepth 20000 in
theorem tw_466 : Cond.fieldLink "RunOrderModel" 16 "RunOrderModel" "space" "[I" ∈ ax_TT := ax_tt 466 rfl rfl
set_option maxRecDepth 20000 in
theorem tw_467 : Cond.fieldLink "RunOrderModel" 19 "RunOrderModel" "locks" "[I" ∈ ax_TT := ax_tt 467 rfl rfl
set_option maxRecDepth 20000 in
theorem tw_468 : Cond.fieldLink "RunOrderModel" 22 "RunOrderModel" "far" "[I" ∈ ax_TT := ax_tt 468 rfl rfl
set_option maxRecDepth 20000 in
theorem tw_469 : Cond.fieldLink "RunOrderModel" 25 "RunOrderModel" "bad" "[I" ∈ ax_TT := ax_tt 469 rfl rfl
set_option maxRecDepth 20000 in
theorem tw_470 : Cond.fieldLink "RunOrderModel" 28 "RunOrderModel" "kinds" "[I" ∈ ax_TT := ax_tt 470 rfl rfl
set_option maxRecDepth 20000 in
theorem tw_471 : Cond.fieldLink "RunOrderModel" 31 "RunOrderModel" "needed" "[I" ∈ ax_TT := ax_tt 471 rfl rfl
set_option maxRecDepth 20000 in
theorem tw_472 : Cond.fieldLink "RunOrderModel" 34 "RunOrderModel" "tests" "[Z" ∈ ax_TT := ax_tt 472 rfl rfl
set_option maxRecDepth 20000 in
theorem tw_473 : Cond.fieldLink "RunOrderModel" 38 "RunOrderModel" "wished" "[Z" ∈ ax_TT := ax_tt 473 rfl rfl
set_option maxRecDepth 20000 in
theorem tw_474 : Cond.fieldLink "RunOrderModel" 41 "RunOrderModel" "wanted" "[Z" ∈ ax_TT := ax_tt 474 rfl rfl
set_option maxRecDepth 20000 in
theorem tw_475 : Cond.fieldLink "RunOrderModel" 44 "RunOrderModel" "modes" "[Z" ∈ ax_TT := ax_tt 475 rfl rfl
set_option maxRecDepth 20000 in
theorem tw_476 : Cond.fieldLink "RunOrderModel" 47 "RunOrderModel" "left" "[I" ∈ ax_TT := ax_tt 476 rfl rfl
set_option maxRecDepth 20000 in
theorem tw_477 : Cond.fieldLink "RunOrderModel" 50 "RunOrderModel" "rests" "[I" ∈ ax_TT := ax_tt 477 rfl rfl
set_option maxRecDepth 20000 in
theorem tw_478 : Cond.fieldLink "RunOrderModel" 119 "RunOrderModel" "known" "I" ∈ ax_TT := ax_tt 478 rfl rfl
set_option maxRecDepth 20000 in
theorem tw_479 : Cond.fieldLink "RunOrderModel" 53 "RunOrderModel" "state" "[I" ∈ ax_TT := ax_tt 479 rfl rfl
set_option maxRecDepth 20000 in
theorem tw_480 : Cond.fieldLink "RunOrderModel" 56 "RunOrderModel" "hereEnd" "[I" ∈ ax_TT := ax_tt 480 rfl rfl
set_option maxRecDepth 20000 in
theorem tw_481 : Cond.fieldLink "RunOrderModel" 59 "RunOrderModel" "farEnd" "[I" ∈ ax_TT := ax_tt 481 rfl rfl
set_option maxRecDepth 20000 in
theorem tw_482 : Cond.fieldLink "RunOrderModel" 62 "RunOrderModel" "began" "[I" ∈ ax_TT := ax_tt 482 rfl rfl
set_option maxRecDepth 20000 in
theorem tw_483 : Cond.fieldLink "RunOrderModel" 65 "RunOrderModel" "ended" "[I" ∈ ax_TT := ax_tt 483 rfl rfl
set_option maxRecDepth 20000 in
theorem tw_484 : Cond.fieldLink "RunOrderModel" 68 "RunOrderModel" "tries" "[I" ∈ ax_TT := ax_tt 484 rfl rfl
set_option maxRecDepth 20000 in
theorem tw_485 : Cond.fieldLink "RunOrderModel" 71 "RunOrderModel" "side" "[I" ∈ ax_TT := ax_tt 485 rfl rfl
set_option maxRecDepth 20000 in
theorem tw_486 : Cond.fieldLink "RunOrderModel" 74 "RunOrderModel" "again" "[I" ∈ ax_TT := ax_tt 486 rfl rfl
set_option maxRecDepth 20000 in
theorem tw_487 : Cond.fieldLink "RunOrderModel" 77 "RunOrderModel" "seen" "[Z" ∈ ax_TT := ax_tt 487 rfl rfl
set_option maxRecDepth 20000 in
theorem tw_488 : Cond.fieldLink "RunOrderModel" 80 "RunOrderModel" "begun" "[I" ∈ ax_TT := ax_tt 488 rfl rfl
set_option maxRecDepth 20000 in
theorem tw_489 : Cond.fieldLink "RunOrderModel" 122 "RunOrderModel" "begins" "I" ∈ ax_TT := ax_tt 489 rfl rfl
set_option maxRecDepth 20000 in
theorem tw_490 : Cond.fieldLink "RunOrderModel" 125 "RunOrderModel" "mostCores" "I" ∈ ax_TT := ax_tt 490 rfl rfl
set_option maxRecDepth 20000 in
theorem tw_491 : Cond.fieldLink "RunOrderModel" 128 "RunOrderModel" "mostMemory" "I" ∈ ax_TT := ax_tt 491 rfl rfl
set_option maxRecDepth 20000 in
theorem tw_492 : Cond.fieldLink "RunOrderModel" 131 "RunOrderModel" "last" "I" ∈ ax_TT := ax_tt 492 rfl rfl
set_option maxRecDepth 20000 in
theorem tw_493 : Cond.fieldLink "RunOrderModel" 166 "RunOrderModel" "ran" "Z" ∈ ax_TT := ax_tt 493 rfl rfl
set_option maxRecDepth 20000 in
theorem tw_494 : Cond.lays "RunOrderModel" "RunOrderModel" "thrown" "I" ∈ ax_TT := ax_tt 494 rfl rfl
set_option maxRecDepth 20000 in
theorem tw_496 : Cond.laysFinal "RunOrderModel" "RunOrderModel" "cores" "I" ∈ ax_TT := ax_tt 496 rfl rfl
set_option maxRecDepth 20000 in
theorem tw_498 : Cond.laysFinal "RunOrderModel" "RunOrderModel" "memory" "I" ∈ ax_TT := ax_tt 498 rfl rfl
set_option maxRecDepth 20000 in
theorem tw_500 : Cond.lays "RunOrderModel" "RunOrderModel" "slots" "I" ∈ ax_TT := ax_tt 500 rfl rfl
set_option maxRecDepth 20000 in
theorem tw_502 : Cond.lays "RunOrderModel" "RunOrderModel" "many" "I" ∈ ax_TT := ax_tt 502 rfl rfl
set_option maxRecDepth 20000 in
theorem tw_504 : Cond.laysFinal "RunOrderModel" "RunOrderModel" "time" "[I" ∈ ax_TT := ax_tt 504 rfl rfl
set_option maxRecDepth 20000 in
theorem tw_506 : Cond.laysFinal "RunOrderModel" "RunOrderModel" "core" "[I" ∈ ax_TT := ax_tt 506 rfl rfl
set_option maxRecDepth 20000 in
theorem tw_508 : Cond.laysFinal "RunOrderModel" "RunOrderModel" "space" "[I" ∈ ax_TT := ax_tt 508 rfl rfl
set_option maxRecDepth 20000 in
theorem tw_510 : Cond.laysFinal "RunOrderModel" "RunOrderModel" "locks" "[I" ∈ ax_TT := ax_tt 510 rfl rfl
set_option maxRecDepth 20000 in
theorem tw_512 : Cond.laysFinal "RunOrderModel" "RunOrderModel" "far" "[I" ∈ ax_TT := ax_tt 512 rfl rfl
set_option maxRecDepth 20000 in
theorem tw_514 : Cond.laysFinal "RunOrderModel" "RunOrderModel" "bad" "[I" ∈ ax_TT := ax_tt 514 rfl rfl
set_option maxRecDepth 20000 in
theorem tw_516 : Cond.laysFinal "RunOrderModel" "RunOrderModel" "kinds" "[I" ∈ ax_TT := ax_tt 516 rfl rfl
set_option maxRecDepth 20000 in
theorem tw_518 : Cond.laysFinal "RunOrderModel" "RunOrderModel" "needed" "[I" ∈ ax_TT := ax_tt 518 rfl rfl
set_option maxRecDepth 20000 in
theorem tw_520 : Cond.laysFinal "RunOrderModel" "RunOrderModel" "tests" "[Z" ∈ ax_TT := ax_tt 520 rfl rfl
set_option maxRecDepth 20000 in
theorem tw_522 : Cond.laysFinal "RunOrderModel" "RunOrderModel" "wished" "[Z" ∈ ax_TT := ax_tt 522 rfl rfl
set_option maxRecDepth 20000 in
theorem tw_524 : Cond.laysFinal "RunOrderModel" "RunOrderModel" "wanted" "[Z" ∈ ax_TT := ax_tt 524 rfl rfl
set_option maxRecDepth 20000 in
theorem tw_526 : Cond.laysFinal "RunOrderModel" "RunOrderModel" "modes" "[Z" ∈ ax_TT := ax_tt 526 rfl rfl
set_option maxRecDepth 20000 in
theorem tw_528 : Cond.laysFinal "RunOrderModel" "RunOrderModel" "left" "[I" ∈ ax_TT := ax_tt 528 rfl rfl
set_option maxRecDepth 20000 in
theorem tw_530 : Cond.laysFinal "RunOrderModel" "RunOrderModel" "rests" "[I" ∈ ax_TT := ax_tt 530 rfl rfl
set_option maxRecDepth 20000 in
theorem tw_532 : Cond.lays "RunOrderModel" "RunOrderModel" "known" "I" ∈ ax_TT := ax_tt 532 rfl rfl
set_option maxRecDepth 20000 in
theorem tw_534 : Cond.laysFinal "RunOrderModel" "RunOrderModel" "state" "[I" ∈ ax_TT := ax_tt 534 rfl rfl
set_option maxRecDepth 20000 in
theorem tw_536 : Cond.laysFinal "RunOrderModel" "RunOrderModel" "hereEnd" "[I" ∈ ax_TT := ax_tt 536 rfl rfl
set_option maxRecDepth 20000 in
theorem tw_538 : Cond.laysFinal "RunOrderModel" "RunOrderModel" "farEnd" "[I" ∈ ax_TT := ax_tt 538 rfl rfl
set_option maxRecDepth 20000 in
theorem tw_540 : Cond.laysFinal "RunOrderModel" "RunOrderModel" "began" "[I" ∈ ax_TT := ax_tt 540 rfl rfl
set_option maxRecDepth 20000 in
theorem tw_542 : Cond.laysFinal "RunOrderModel" "RunOrderModel" "ended" "[I" ∈ ax_TT := ax_tt 542 rfl rfl
set_option maxRecDepth 20000 in
theorem tw_544 : Cond.laysFinal "RunOrderModel" "RunOrderModel" "tries" "[I" ∈ ax_TT := ax_tt 544 rfl rfl
set_option maxRecDepth 20000 in
theorem tw_546 : Cond.laysFinal "RunOrderModel" "RunOrderModel" "side" "[I" ∈ ax_TT := ax_tt 546 rfl rfl
set_option maxRecDepth 20000 in
theorem tw_548 : Cond.laysFinal "RunOrderModel" "RunOrderModel" "again" "[I" ∈ ax_TT := ax_tt 548 rfl rfl
set_option maxRecDepth 20000 in
theorem tw_550 : Cond.laysFinal "RunOrderModel" "RunOrderModel" "seen" "[Z" ∈ ax_TT := ax_tt 550 rfl rfl
set_option maxRecDepth 20000 in
theorem tw_552 : Cond.laysFinal "RunOrderModel" "RunOrderModel" "begun" "[I" ∈ ax_TT := ax_tt 552 rfl rfl
set_option maxRecDepth 20000 in
theorem tw_554 : Cond.lays "RunOrderModel" "RunOrderModel" "begins" "I" ∈ ax_TT := ax_tt 554 rfl rfl
set_option maxRecDepth 20000 in
theorem tw_556 : Cond.lays "RunOrderModel" "RunOrderModel" "mostCores" "I" ∈ ax_TT := ax_tt 556 rfl rfl
set_option maxRecDepth 20000 in
theorem tw_558 : Cond.lays "RunOrderModel" "RunOrderModel" "mostMemory" "I" ∈ ax_TT := ax_tt 558 rfl rfl
set_option maxRecDepth 20000 in
theorem tw_560 : Cond.lays "RunOrderModel" "RunOrderModel" "last" "I" ∈ ax_TT := ax_tt 560 rfl rfl
set_option maxRecDepth 20000 in
theorem tw_562 : Cond.lays "RunOrderModel" "RunOrderModel" "ran" "Z" ∈ ax_TT := ax_tt 562 rfl rfl
set_option maxRecDepth 20000 in
theorem tw_568 : Cond.code ⟨"RunOrderModel", "slots", "(I)Z"⟩ prog_7_method_6_code 2 (some .boolean) ∈ ax_TT := ax_tt 568 rfl rfl
set_option maxRecDepth 20000 in
theorem tw_569 : Cond.methodLink "RunOrderModel" 101 ⟨"RunOrderModel", "in", "(III)Z"⟩ ∈ ax_TT := ax_tt 569 rfl rfl
set_option maxRecDepth 20000 in
theorem tw_570 : Cond.static ⟨"RunOrderModel", "in", "(III)Z"⟩ ∈ ax_TT := ax_tt 570 rfl rfl
set_option maxRecDepth 20000 in
theorem tw_571 : Cond.code ⟨"RunOrderModel", "in", "(III)Z"⟩ prog_7_method_4_code 3 (some .boolean) ∈ ax_TT := ax_tt 571 rfl rfl
set_option maxRecDepth 20000 in
theorem tw_575 : Cond.code ⟨"RunOrderModel", "action", "(III)I"⟩ prog_7_method_7_code 4 (some .int) ∈ ax_TT := ax_tt 575 rfl rfl
set_option maxRecDepth 20000 in
theorem tw_579 : Cond.code ⟨"RunOrderModel", "about", "(IZII)Z"⟩ prog_7_method_8_code 5 (some .boolean) ∈ ax_TT := ax_tt 579 rfl rfl
set_option maxRecDepth 20000 in
theorem tw_580 : Cond.methodLink "RunOrderModel" 108 ⟨"RunOrderModel", "isAction", "(I)Z"⟩ ∈ ax_TT := ax_tt 580 rfl rfl
set_option maxRecDepth 20000 in
theorem tw_582 : Cond.instanceMethod ⟨"RunOrderModel", "isAction", "(I)Z"⟩ ∈ ax_TT := ax_tt 582 rfl rfl
set_option maxRecDepth 20000 in
theorem tw_583 : Cond.code ⟨"RunOrderModel", "isAction", "(I)Z"⟩ prog_7_method_5_code 2 (some .boolean) ∈ ax_TT := ax_tt 583 rfl rfl
set_option maxRecDepth 20000 in
theorem tw_587 : Cond.code ⟨"RunOrderModel", "fails", "(III)Z"⟩ prog_7_method_9_code 4 (some .boolean) ∈ ax_TT := ax_tt 587 rfl rfl
set_option maxRecDepth 20000 in
theorem tw_591 : Cond.code ⟨"RunOrderModel", "needs", "(II)I"⟩ prog_7_method_11_code 3 (some .int) ∈ ax_TT := ax_tt 591 rfl rfl
set_option maxRecDepth 20000 in
theorem tw_592 : Cond.methodLink "RunOrderModel" 112 ⟨"RunOrderModel", "all", "(I)I"⟩ ∈ ax_TT := ax_tt 592 rfl rfl
set_option maxRecDepth 20000 in
theorem tw_594 : Cond.instanceMethod ⟨"RunOrderModel", "all", "(I)I"⟩ ∈ ax_TT := ax_tt 594 rfl rfl
set_option maxRecDepth 20000 in
theorem tw_595 : Cond.code ⟨"RunOrderModel", "all", "(I)I"⟩ prog_7_method_10_code 6 (some .int) ∈ ax_TT := ax_tt 595 rfl rfl
set_option maxRecDepth 20000 in
theorem tw_599 : Cond.code ⟨"RunOrderModel", "wish", "(IZ)Z"⟩ prog_7_method_12_code 3 (some .boolean) ∈ ax_TT := ax_tt 599 rfl rfl
set_option maxRecDepth 20000 in
theorem tw_603 : Cond.code ⟨"RunOrderModel", "mode", "(IZ)Z"⟩ prog_7_method_13_code 3 (some .boolean) ∈ ax_TT := ax_tt 603 rfl rfl
set_option maxRecDepth 20000 in
theorem tw_607 : Cond.code ⟨"RunOrderModel", "retries", "(II)Z"⟩ prog_7_method_14_code 3 (some .boolean) ∈ ax_TT := ax_tt 607 rfl rfl
set_option maxRecDepth 20000 in
theorem tw_611 : Cond.code ⟨"RunOrderModel", "rest", "(I)I"⟩ prog_7_method_16_code 2 (some .int) ∈ ax_TT := ax_tt 611 rfl rfl
set_option maxRecDepth 20000 in
theorem tw_612 : Cond.methodLink "RunOrderModel" 116 ⟨"RunOrderModel", "want", "()V"⟩ ∈ ax_TT := ax_tt 612 rfl rfl
set_option maxRecDepth 20000 in
theorem tw_614 : Cond.instanceMethod ⟨"RunOrderModel", "want", "()V"⟩ ∈ ax_TT := ax_tt 614 rfl rfl
set_option maxRecDepth 20000 in
theorem tw_615 : Cond.code ⟨"RunOrderModel", "want", "()V"⟩ prog_7_method_15_code 4 none ∈ ax_TT := ax_tt 615 rfl rfl
set_option maxRecDepth 20000 in
theorem tw_619 : Cond.code ⟨"RunOrderModel", "run", "()I"⟩ prog_7_method_31_code 2 (some .int) ∈ ax_TT := ax_tt 619 rfl rfl
set_option maxRecDepth 20000 in
theorem tw_620 : Cond.methodLink "RunOrderModel" 163 ⟨"RunOrderModel", "fresh", "()V"⟩ ∈ ax_TT := ax_tt 620 rfl rfl
set_option maxRecDepth 20000 in
theorem tw_622 : Cond.instanceMethod ⟨"RunOrderModel", "fresh", "()V"⟩ ∈ ax_TT := ax_tt 622 rfl rfl
set_option maxRecDepth 20000 in
theorem tw_623 : Cond.code ⟨"RunOrderModel", "fresh", "()V"⟩ prog_7_method_17_code 3 none ∈ ax_TT := ax_tt 623 rfl rfl
set_option maxRecDepth 20000 in
theorem tw_624 : Cond.methodLink "RunOrderModel" 170 ⟨"RunOrderModel", "endAll", "(I)V"⟩ ∈ ax_TT := ax_tt 624 rfl rfl
set_option maxRecDepth 20000 in
theorem tw_626 : Cond.instanceMethod ⟨"RunOrderModel", "endAll", "(I)V"⟩ ∈ ax_TT := ax_tt 626 rfl rfl
set_option maxRecDepth 20000 in
theorem tw_627 : Cond.code ⟨"RunOrderModel", "endAll", "(I)V"⟩ prog_7_method_20_code 3 none ∈ ax_TT := ax_tt 627 rfl rfl
set_option maxRecDepth 20000 in
theorem tw_628 : Cond.methodLink "RunOrderModel" 138 ⟨"RunOrderModel", "end", "(III)V"⟩ ∈ ax_TT := ax_tt 628 rfl rfl
set_option maxRecDepth 20000 in
theorem tw_630 : Cond.instanceMethod ⟨"RunOrderModel", "end", "(III)V"⟩ ∈ ax_TT := ax_tt 630 rfl rfl
set_option maxRecDepth 20000 in
theorem tw_631 : Cond.code ⟨"RunOrderModel", "end", "(III)V"⟩ prog_7_method_19_code 5 none ∈ ax_TT := ax_tt 631 rfl rfl
set_option maxRecDepth 20000 in
theorem tw_632 : Cond.methodLink "RunOrderModel" 134 ⟨"RunOrderModel", "isSpoilt", "()Z"⟩ ∈ ax_TT := ax_tt 632 rfl rfl
set_option maxRecDepth 20000 in
theorem tw_634 : Cond.instanceMethod ⟨"RunOrderModel", "isSpoilt", "()Z"⟩ ∈ ax_TT := ax_tt 634 rfl rfl
set_option maxRecDepth 20000 in
theorem tw_635 : Cond.code ⟨"RunOrderModel", "isSpoilt", "()Z"⟩ prog_7_method_18_code 3 (some .boolean) ∈ ax_TT := ax_tt 635 rfl rfl
set_option maxRecDepth 20000 in
theorem tw_636 : Cond.methodLink "RunOrderModel" 174 ⟨"RunOrderModel", "skipAll", "()V"⟩ ∈ ax_TT := ax_tt 636 rfl rfl
set_option maxRecDepth 20000 in
theorem tw_638 : Cond.instanceMethod ⟨"RunOrderModel", "skipAll", "()V"⟩ ∈ ax_TT := ax_tt 638 rfl rfl
set_option maxRecDepth 20000 in
theorem tw_639 : Cond.code ⟨"RunOrderModel", "skipAll", "()V"⟩ prog_7_method_22_code 3 none ∈ ax_TT := ax_tt 639 rfl rfl
set_option maxRecDepth 20000 in
theorem tw_640 : Cond.methodLink "RunOrderModel" 142 ⟨"RunOrderModel", "lacks", "(I)Z"⟩ ∈ ax_TT := ax_tt 640 rfl rfl
set_option maxRecDepth 20000 in
theorem tw_642 : Cond.instanceMethod ⟨"RunOrderModel", "lacks", "(I)Z"⟩ ∈ ax_TT := ax_tt 642 rfl rfl
set_option maxRecDepth 20000 in
theorem tw_643 : Cond.code ⟨"RunOrderModel", "lacks", "(I)Z"⟩ prog_7_method_21_code 4 (some .boolean) ∈ ax_TT := ax_tt 643 rfl rfl
set_option maxRecDepth 20000 in
theorem tw_644 : Cond.methodLink "RunOrderModel" 177 ⟨"RunOrderModel", "stopAll", "()V"⟩ ∈ ax_TT := ax_tt 644 rfl rfl
set_option maxRecDepth 20000 in
theorem tw_646 : Cond.instanceMethod ⟨"RunOrderModel", "stopAll", "()V"⟩ ∈ ax_TT := ax_tt 646 rfl rfl
set_option maxRecDepth 20000 in
theorem tw_647 : Cond.code ⟨"RunOrderModel", "stopAll", "()V"⟩ prog_7_method_23_code 2 none ∈ ax_TT := ax_tt 647 rfl rfl
set_option maxRecDepth 20000 in
theorem tw_648 : Cond.methodLink "RunOrderModel" 180 ⟨"RunOrderModel", "beginAll", "(I)V"⟩ ∈ ax_TT := ax_tt 648 rfl rfl
set_option maxRecDepth 20000 in
theorem tw_650 : Cond.instanceMethod ⟨"RunOrderModel", "beginAll", "(I)V"⟩ ∈ ax_TT := ax_tt 650 rfl rfl
set_option maxRecDepth 20000 in
theorem tw_651 : Cond.code ⟨"RunOrderModel", "beginAll", "(I)V"⟩ prog_7_method_29_code 6 none ∈ ax_TT := ax_tt 651 rfl rfl
set_option maxRecDepth 20000 in
theorem tw_652 : Cond.methodLink "RunOrderModel" 148 ⟨"RunOrderModel", "isReady", "(IZ)Z"⟩ ∈ ax_TT := ax_tt 652 rfl rfl
set_option maxRecDepth 20000 in
theorem tw_654 : Cond.instanceMethod ⟨"RunOrderModel", "isReady", "(IZ)Z"⟩ ∈ ax_TT := ax_tt 654 rfl rfl
set_option maxRecDepth 20000 in
theorem tw_655 : Cond.code ⟨"RunOrderModel", "isReady", "(IZ)Z"⟩ prog_7_method_24_code 5 (some .boolean) ∈ ax_TT := ax_tt 655 rfl rfl
set_option maxRecDepth 20000 in
theorem tw_656 : Cond.methodLink "RunOrderModel" 152 ⟨"RunOrderModel", "next", "()I"⟩ ∈ ax_TT := ax_tt 656 rfl rfl
set_option maxRecDepth 20000 in
theorem tw_658 : Cond.instanceMethod ⟨"RunOrderModel", "next", "()I"⟩ ∈ ax_TT := ax_tt 658 rfl rfl
set_option maxRecDepth 20000 in
theorem tw_659 : Cond.code ⟨"RunOrderModel", "next", "()I"⟩ prog_7_method_28_code 3 (some .int) ∈ ax_TT := ax_tt 659 rfl rfl
set_option maxRecDepth 20000 in
theorem tw_660 : Cond.methodLink "RunOrderModel" 156 ⟨"RunOrderModel", "fits", "(I)Z"⟩ ∈ ax_TT := ax_tt 660 rfl rfl
set_option maxRecDepth 20000 in
theorem tw_662 : Cond.instanceMethod ⟨"RunOrderModel", "fits", "(I)Z"⟩ ∈ ax_TT := ax_tt 662 rfl rfl
set_option maxRecDepth 20000 in
theorem tw_663 : Cond.code ⟨"RunOrderModel", "fits", "(I)Z"⟩ prog_7_method_26_code 2 (some .boolean) ∈ ax_TT := ax_tt 663 rfl rfl
set_option maxRecDepth 20000 in
theorem tw_664 : Cond.methodLink "RunOrderModel" 145 ⟨"RunOrderModel", "taken", "(I)I"⟩ ∈ ax_TT := ax_tt 664 rfl rfl
set_option maxRecDepth 20000 in
theorem tw_666 : Cond.instanceMethod ⟨"RunOrderModel", "taken", "(I)I"⟩ ∈ ax_TT := ax_tt 666 rfl rfl
set_option maxRecDepth 20000 in
theorem tw_667 : Cond.code ⟨"RunOrderModel", "taken", "(I)I"⟩ prog_7_method_25_code 4 (some .int) ∈ ax_TT := ax_tt 667 rfl rfl
set_option maxRecDepth 20000 in
theorem tw_668 : Cond.methodLink "RunOrderModel" 159 ⟨"RunOrderModel", "begin", "(II)V"⟩ ∈ ax_TT := ax_tt 668 rfl rfl
set_option maxRecDepth 20000 in
theorem tw_670 : Cond.instanceMethod ⟨"RunOrderModel", "begin", "(II)V"⟩ ∈ ax_TT := ax_tt 670 rfl rfl
set_option maxRecDepth 20000 in
theorem tw_671 : Cond.code ⟨"RunOrderModel", "begin", "(II)V"⟩ prog_7_method_27_code 4 none ∈ ax_TT := ax_tt 671 rfl rfl
set_option maxRecDepth 20000 in
theorem tw_672 : Cond.methodLink "RunOrderModel" 183 ⟨"RunOrderModel", "nextEnd", "()I"⟩ ∈ ax_TT := ax_tt 672 rfl rfl
set_option maxRecDepth 20000 in
theorem tw_674 : Cond.instanceMethod ⟨"RunOrderModel", "nextEnd", "()I"⟩ ∈ ax_TT := ax_tt 674 rfl rfl
set_option maxRecDepth 20000 in
theorem tw_675 : Cond.code ⟨"RunOrderModel", "nextEnd", "()I"⟩ prog_7_method_30_code 4 (some .int) ∈ ax_TT := ax_tt 675 rfl rfl
set_option maxRecDepth 20000 in
theorem tw_679 : Cond.code ⟨"RunOrderModel", "outcome", "(II)I"⟩ prog_7_method_32_code 3 (some .int) ∈ ax_TT := ax_tt 679 rfl rfl
set_option maxRecDepth 20000 in
theorem tw_683 : Cond.code ⟨"RunOrderModel", "first", "()I"⟩ prog_7_method_33_code 2 (some .int) ∈ ax_TT := ax_tt 683 rfl rfl
set_option maxRecDepth 20000 in
theorem tw_687 : Cond.code ⟨"RunOrderModel", "order", "(I)I"⟩ prog_7_method_34_code 2 (some .int) ∈ ax_TT := ax_tt 687 rfl rfl
set_option maxRecDepth 20000 in
theorem tw_691 : Cond.code ⟨"RunOrderModel", "peak", "(I)I"⟩ prog_7_method_35_code 2 (some .int) ∈ ax_TT := ax_tt 691 rfl rfl
theorem fi_O : ∀ w ∈ u_ws rn_O fd_O 4, w ∈ ax_TT := by
  intro w hw
  obtain ⟨k, hk, rfl⟩ := List.mem_map.mp hw
  have hk := List.mem_range.mp hk
  match k, hk with
  | 0, _ => exact tw_231
  | 1, _ => exact tw_233
  | 2, _ => exact tw_235
  | 3, _ => exact tw_237
  | n + 4, h => exact absurd h (by omega)
theorem fx_O : ∀ ty : Nat → FieldType, (∀ k, k < 4 → parseFieldDescriptor (fd_O k).2.2.1 = some (ty k)) → ∀ j, j < 4 → defaultValue (ty j) = vp_V fv_O j := by
  intro ty h j hj
  have e : ty j = ft_O j := Option.some.inj ((h j hj).symm.trans (ft_O_ok j hj))
  rw [e]
  match j, hj with
  | 0, _ => rfl
  | 1, _ => rfl
  | 2, _ => rfl
  | 3, _ => rfl
  | n + 4, h => exact absurd h (by omega)
theorem fi_H : ∀ w ∈ u_ws rn_H fd_H 9, w ∈ ax_TT := by
  intro w hw
  obtain ⟨k, hk, rfl⟩ := List.mem_map.mp hw
  have hk := List.mem_range.mp hk
  match k, hk with
  | 0, _ => exact tw_79
  | 1, _ => exact tw_81
  | 2, _ => exact tw_83
  | 3, _ => exact tw_85
  | 4, _ => exact tw_87
  | 5, _ => exact tw_89
  | 6, _ => exact tw_91
  | 7, _ => exact tw_93
  | 8, _ => exact tw_95
  | n + 9, h => exact absurd h (by omega)
theorem fx_H : ∀ ty : Nat → FieldType, (∀ k, k < 9 → parseFieldDescriptor (fd_H k).2.2.1 = some (ty k)) → ∀ j, j < 9 → defaultValue (ty j) = vp_V fv_H j := by
  intro ty h j hj
  have e : ty j = ft_H j := Option.some.inj ((h j hj).symm.trans (ft_H_ok j hj))
  rw [e]
  match j, hj with
  | 0, _ => rfl
  | 1, _ => rfl
  | 2, _ => rfl
  | 3, _ => rfl
  | 4, _ => rfl
  | 5, _ => rfl
  | 6, _ => rfl
  | 7, _ => rfl
  | 8, _ => rfl
  | n + 9, h => exact absurd h (by omega)
theorem fi_A : ∀ w ∈ u_ws rn_A fd_A 13, w ∈ ax_TT := by
  intro w hw
  obtain ⟨k, hk, rfl⟩ := List.mem_map.mp hw
  have hk := List.mem_range.mp hk
  match k, hk with
  | 0, _ => exact tw_135
  | 1, _ => exact tw_137
  | 2, _ => exact tw_139
  | 3, _ => exact tw_141
  | 4, _ => exact tw_143
  | 5, _ => exact tw_145
  | 6, _ => exact tw_147
  | 7, _ => exact tw_149
  | 8, _ => exact tw_151
  | 9, _ => exact tw_153
  | 10, _ => exact tw_155
  | 11, _ => exact tw_157
  | 12, _ => exact tw_159
  | n + 13, h => exact absurd h (by omega)
theorem fx_A : ∀ ty : Nat → FieldType, (∀ k, k < 13 → parseFieldDescriptor (fd_A k).2.2.1 = some (ty k)) → ∀ j, j < 13 → defaultValue (ty j) = vp_V fv_A j := by
  intro ty h j hj
  have e : ty j = ft_A j := Option.some.inj ((h j hj).symm.trans (ft_A_ok j hj))
  rw [e]
  match j, hj with
  | 0, _ => rfl
  | 1, _ => rfl
  | 2, _ => rfl
  | 3, _ => rfl
  | 4, _ => rfl
  | 5, _ => rfl
  | 6, _ => rfl
  | 7, _ => rfl
  | 8, _ => rfl
  | 9, _ => rfl
  | 10, _ => rfl
  | 11, _ => rfl
  | 12, _ => rfl
  | n + 13, h => exact absurd h (by omega)
theorem fi_U : ∀ w ∈ u_ws rn_U fd_U 2, w ∈ ax_TT := by
  intro w hw
  obtain ⟨k, hk, rfl⟩ := List.mem_map.mp hw
  have hk := List.mem_range.mp hk
  match k, hk with
  | 0, _ => exact tw_176
  | 1, _ => exact tw_178
  | n + 2, h => exact absurd h (by omega)
theorem fx_U : ∀ ty : Nat → FieldType, (∀ k, k < 2 → parseFieldDescriptor (fd_U k).2.2.1 = some (ty k)) → ∀ j, j < 2 → defaultValue (ty j) = vp_V fv_U j := by
  intro ty h j hj
  have e : ty j = ft_U j := Option.some.inj ((h j hj).symm.trans (ft_U_ok j hj))
  rw [e]
  match j, hj with
  | 0, _ => rfl
  | 1, _ => rfl
  | n + 2, h => exact absurd h (by omega)
theorem fi_N : ∀ w ∈ u_ws rn_N fd_N 13, w ∈ ax_TT := by
  intro w hw
  obtain ⟨k, hk, rfl⟩ := List.mem_map.mp hw
  have hk := List.mem_range.mp hk
  match k, hk with
  | 0, _ => exact tw_200
  | 1, _ => exact tw_202
  | 2, _ => exact tw_204
  | 3, _ => exact tw_206
  | 4, _ => exact tw_208
  | 5, _ => exact tw_210
  | 6, _ => exact tw_212
  | 7, _ => exact tw_214
  | 8, _ => exact tw_216
  | 9, _ => exact tw_218
  | 10, _ => exact tw_220
  | 11, _ => exact tw_222
  | 12, _ => exact tw_224
  | n + 13, h => exact absurd h (by omega)
theorem fx_N : ∀ ty : Nat → FieldType, (∀ k, k < 13 → parseFieldDescriptor (fd_N k).2.2.1 = some (ty k)) → ∀ j, j < 13 → defaultValue (ty j) = vp_V fv_N j := by
  intro ty h j hj
  have e : ty j = ft_N j := Option.some.inj ((h j hj).symm.trans (ft_N_ok j hj))
  rw [e]
  match j, hj with
  | 0, _ => rfl
  | 1, _ => rfl
  | 2, _ => rfl
  | 3, _ => rfl
  | 4, _ => rfl
  | 5, _ => rfl
  | 6, _ => rfl
  | 7, _ => rfl
  | 8, _ => rfl
  | 9, _ => rfl
  | 10, _ => rfl
  | 11, _ => rfl
  | 12, _ => rfl
  | n + 13, h => exact absurd h (by omega)
theorem fi_M : ∀ w ∈ u_ws rn_M fd_M 35, w ∈ ax_TT := by
  intro w hw
  obtain ⟨k, hk, rfl⟩ := List.mem_map.mp hw
  have hk := List.mem_range.mp hk
  match k, hk with
  | 0, _ => exact tw_494
  | 1, _ => exact tw_496
  | 2, _ => exact tw_498
  | 3, _ => exact tw_500
  | 4, _ => exact tw_502
  | 5, _ => exact tw_504
  | 6, _ => exact tw_506
  | 7, _ => exact tw_508
  | 8, _ => exact tw_510
  | 9, _ => exact tw_512
  | 10, _ => exact tw_514
  | 11, _ => exact tw_516
  | 12, _ => exact tw_518
  | 13, _ => exact tw_520
  | 14, _ => exact tw_522
  | 15, _ => exact tw_524
  | 16, _ => exact tw_526
  | 17, _ => exact tw_528
  | 18, _ => exact tw_530
  | 19, _ => exact tw_532
  | 20, _ => exact tw_534
  | 21, _ => exact tw_536
  | 22, _ => exact tw_538
  | 23, _ => exact tw_540
  | 24, _ => exact tw_542
  | 25, _ => exact tw_544
  | 26, _ => exact tw_546
  | 27, _ => exact tw_548
  | 28, _ => exact tw_550
  | 29, _ => exact tw_552
  | 30, _ => exact tw_554
  | 31, _ => exact tw_556
  | 32, _ => exact tw_558
  | 33, _ => exact tw_560
  | 34, _ => exact tw_562
  | n + 35, h => exact absurd h (by omega)
theorem fx_M : ∀ ty : Nat → FieldType, (∀ k, k < 35 → parseFieldDescriptor (fd_M k).2.2.1 = some (ty k)) → ∀ j, j < 35 → defaultValue (ty j) = vp_V fv_M j := by
  intro ty h j hj
  have e : ty j = ft_M j := Option.some.inj ((h j hj).symm.trans (ft_M_ok j hj))
  rw [e]
  match j, hj with
  | 0, _ => rfl
  | 1, _ => rfl
  | 2, _ => rfl
  | 3, _ => rfl
  | 4, _ => rfl
  | 5, _ => rfl
  | 6, _ => rfl
  | 7, _ => rfl
  | 8, _ => rfl
  | 9, _ => rfl
  | 10, _ => rfl
  | 11, _ => rfl
  | 12, _ => rfl
  | 13, _ => rfl
  | 14, _ => rfl
  | 15, _ => rfl
  | 16, _ => rfl
  | 17, _ => rfl
  | 18, _ => rfl
  | 19, _ => rfl
  | 20, _ => rfl
  | 21, _ => rfl
  | 22, _ => rfl
  | 23, _ => rfl
  | 24, _ => rfl
  | 25, _ => rfl
  | 26, _ => rfl
  | 27, _ => rfl
  | 28, _ => rfl
  | 29, _ => rfl
  | 30, _ => rfl
  | 31, _ => rfl
  | 32, _ => rfl
  | 33, _ => rfl
  | 34, _ => rfl
  | n + 35, h => exact absurd h (by omega)
end
section
/-! Each instruction's entry is what the code says, 0. -/
set_option maxRecDepth 100000 in
set_option maxHeartbeats 4000000 in
theorem ok_O_init : ax_okl ax_Ms ax_Xs ax_NMs ax_cl ax_TT ax_NLs nm_O_init prog_1_method_1_code (none) 3 cd_O_init 0 cd_O_init := ⟨
  ⟨by decide +kernel, by decide +kernel, by decide +kernel⟩,
  ⟨by decide +kernel, by decide +kernel, Or.inl ⟨rfl, tw_47, tw_48, tw_49⟩⟩,
  ⟨by decide +kernel, by decide +kernel, by decide +kernel⟩,
  ⟨by decide +kernel, by decide +kernel, _, _, rfl, rfl, rfl, tw_50, tw_51, tw_36, fx_H, by decide⟩,
  ⟨by decide +kernel, by decide +kernel⟩,
  ⟨by decide +kernel, by decide +kernel, by decide +kernel⟩,
  ⟨by decide +kernel, by decide +kernel, by decide +kernel⟩,
  ⟨by decide +kernel, by decide +kernel, by decide +kernel⟩,
  ⟨by decide +kernel, by decide +kernel, Or.inr (Or.inr ⟨Or.inl rfl, _, rfl, ⟨fun h => (by cases h), fun h => (by cases h)⟩, Or.inl tw_52, tw_53, fun r h => (by cases h; decide +kernel)⟩)⟩,
  ⟨by decide +kernel, by decide +kernel, by decide +kernel⟩,
  ⟨by decide +kernel, by decide +kernel, by decide +kernel⟩,
  ⟨by decide +kernel, by decide +kernel, tw_61⟩,
  ⟨by decide +kernel, by decide +kernel, Or.inr (Or.inr ⟨Or.inl rfl, _, rfl, ⟨fun h => (by cases h), fun h => (by cases h)⟩, Or.inl tw_52, tw_53, fun r h => (by cases h; decide +kernel)⟩)⟩,
  ⟨by decide +kernel, by decide +kernel, Or.inr ⟨rfl, _, 1, rfl, rfl, rfl, Or.inl tw_62, rfl, tw_63, fun r h => (by cases h; exact ⟨_, rfl, by decide +kernel⟩)⟩⟩,
  ⟨by decide +kernel, by decide +kernel, _, rfl, by decide, tw_227, ⟨.object "RunOrder$House", by decide +kernel, Or.inr (Or.inr ⟨rfl, Or.inl ⟨_, rfl⟩⟩)⟩, Or.inr ⟨rfl, rfl, rfl⟩⟩,
  ⟨by decide +kernel, by decide +kernel, by decide +kernel⟩,
  ⟨by decide +kernel, by decide +kernel, _, _, rfl, rfl, rfl, tw_98, tw_99, tw_38, fx_A, by decide⟩,
  ⟨by decide +kernel, by decide +kernel⟩,
  ⟨by decide +kernel, by decide +kernel, Or.inr ⟨rfl, _, 2, rfl, rfl, rfl, Or.inr ⟨"RunOrder", List.mem_of_getElem? (i := 0) rfl⟩, rfl, tw_101, fun r h => (by cases h; exact ⟨_, rfl, by decide +kernel⟩)⟩⟩,
  ⟨by decide +kernel, by decide +kernel, _, rfl, by decide, tw_228, ⟨.object "RunOrder$Actions", by decide +kernel, Or.inr (Or.inr ⟨rfl, Or.inl ⟨_, rfl⟩⟩)⟩, Or.inr ⟨rfl, rfl, rfl⟩⟩,
  ⟨by decide +kernel, by decide +kernel, by decide +kernel⟩,
  ⟨by decide +kernel, by decide +kernel, _, _, rfl, rfl, rfl, tw_164, tw_165, tw_39, fx_U, by decide⟩,
  ⟨by decide +kernel, by decide +kernel⟩,
  ⟨by decide +kernel, by decide +kernel, Or.inr ⟨rfl, _, 3, rfl, rfl, rfl, Or.inr ⟨"RunOrder", List.mem_of_getElem? (i := 1) rfl⟩, rfl, tw_167, fun r h => (by cases h; exact ⟨_, rfl, by decide +kernel⟩)⟩⟩,
  ⟨by decide +kernel, by decide +kernel, _, rfl, by decide, tw_229, ⟨.object "RunOrder$Rules", by decide +kernel, Or.inr (Or.inr ⟨rfl, Or.inl ⟨_, rfl⟩⟩)⟩, Or.inr ⟨rfl, rfl, rfl⟩⟩,
  ⟨by decide +kernel, by decide +kernel, by decide +kernel⟩,
  ⟨by decide +kernel, by decide +kernel, _, _, rfl, rfl, rfl, tw_181, tw_182, tw_40, fx_N, by decide⟩,
  ⟨by decide +kernel, by decide +kernel⟩,
  ⟨by decide +kernel, by decide +kernel, by decide +kernel⟩,
  ⟨by decide +kernel, by decide +kernel, _, rfl, by decide, tw_227⟩,
  ⟨by decide +kernel, by decide +kernel, by decide +kernel⟩,
  ⟨by decide +kernel, by decide +kernel, _, rfl, by decide, tw_228⟩,
  ⟨by decide +kernel, by decide +kernel, by decide +kernel⟩,
  ⟨by decide +kernel, by decide +kernel, _, rfl, by decide, tw_229⟩,
  ⟨by decide +kernel, by decide +kernel, Or.inr ⟨rfl, _, 4, rfl, rfl, rfl, Or.inl tw_183, rfl, tw_184, fun r h => (by cases h; exact ⟨_, rfl, by decide +kernel⟩)⟩⟩,
  ⟨by decide +kernel, by decide +kernel, _, rfl, by decide, tw_230, ⟨.object "RunOrder$Run", by decide +kernel, Or.inr (Or.inr ⟨rfl, Or.inl ⟨_, rfl⟩⟩)⟩, Or.inr ⟨rfl, rfl, rfl⟩⟩,
  ⟨by decide +kernel, rfl⟩,
  trivial⟩
set_option maxRecDepth 100000 in
set_option maxHeartbeats 4000000 in
theorem ok_O_slots : ax_okl ax_Ms ax_Xs ax_NMs ax_cl ax_TT ax_NLs nm_O_slots prog_1_method_2_code (some .boolean) 2 cd_O_slots 0 cd_O_slots := ⟨
  ⟨by decide +kernel, by decide +kernel, by decide +kernel⟩,
  ⟨by decide +kernel, by decide +kernel, by decide +kernel⟩,
  ⟨by decide +kernel, by decide +kernel, by decide +kernel⟩,
  ⟨by decide +kernel, by decide +kernel, Or.inr (Or.inr ⟨Or.inl rfl, _, rfl, ⟨fun h => (by cases h), fun h => (by cases h)⟩, Or.inl tw_244, tw_245, fun r h => (by cases h; decide +kernel)⟩)⟩,
  ⟨by decide +kernel, by decide +kernel, by decide +kernel⟩,
  ⟨by decide +kernel, by decide +kernel, by decide +kernel⟩,
  ⟨by decide +kernel, Or.inr ⟨rfl, rfl⟩⟩,
  ⟨by decide +kernel, by decide +kernel, by decide +kernel⟩,
  ⟨by decide +kernel, by decide +kernel, _, rfl, by decide, tw_227⟩,
  ⟨by decide +kernel, by decide +kernel, by decide +kernel⟩,
  ⟨by decide +kernel, by decide +kernel, _, rfl, by decide, tw_68, ⟨.int, by decide +kernel, Or.inl ⟨rfl, rfl⟩⟩, Or.inl rfl⟩,
  ⟨by decide +kernel, by decide +kernel, by decide +kernel⟩,
  ⟨by decide +kernel, Or.inr ⟨rfl, rfl⟩⟩,
  trivial⟩
set_option maxRecDepth 100000 in
set_option maxHeartbeats 4000000 in
theorem ok_O_action : ax_okl ax_Ms ax_Xs ax_NMs ax_cl ax_TT ax_NLs nm_O_action prog_1_method_3_code (some .int) 5 cd_O_action 0 cd_O_action := ⟨
  ⟨by decide +kernel, by decide +kernel, by decide +kernel⟩,
  ⟨by decide +kernel, by decide +kernel, by decide +kernel⟩,
  ⟨by decide +kernel, by decide +kernel, by decide +kernel⟩,
  ⟨by decide +kernel, by decide +kernel, Or.inr (Or.inr ⟨Or.inl rfl, _, rfl, ⟨fun h => (by cases h), fun h => (by cases h)⟩, Or.inl tw_244, tw_245, fun r h => (by cases h; decide +kernel)⟩)⟩,
  ⟨by decide +kernel, by decide +kernel, by decide +kernel⟩,
  ⟨by decide +kernel, by decide +kernel, by decide +kernel⟩,
  ⟨by decide +kernel, by decide +kernel, by decide +kernel⟩,
  ⟨by decide +kernel, by decide +kernel, by decide +kernel⟩,
  ⟨by decide +kernel, by decide +kernel, Or.inr (Or.inr ⟨Or.inl rfl, _, rfl, ⟨fun h => (by cases h), fun h => (by cases h)⟩, Or.inl tw_244, tw_245, fun r h => (by cases h; decide +kernel)⟩)⟩,
  ⟨by decide +kernel, by decide +kernel, by decide +kernel⟩,
  ⟨by decide +kernel, by decide +kernel, by decide +kernel⟩,
  ⟨by decide +kernel, by decide +kernel, by decide +kernel⟩,
  ⟨by decide +kernel, by decide +kernel, tw_61⟩,
  ⟨by decide +kernel, by decide +kernel, Or.inr (Or.inr ⟨Or.inl rfl, _, rfl, ⟨fun h => (by cases h), fun h => (by cases h)⟩, Or.inl tw_244, tw_245, fun r h => (by cases h; decide +kernel)⟩)⟩,
  ⟨by decide +kernel, by decide +kernel, by decide +kernel⟩,
  ⟨by decide +kernel, by decide +kernel, by decide +kernel⟩,
  ⟨by decide +kernel, by decide +kernel⟩,
  ⟨by decide +kernel, by decide +kernel, by decide +kernel⟩,
  ⟨by decide +kernel, by decide +kernel, by decide +kernel, by decide +kernel⟩,
  ⟨by decide +kernel, by decide +kernel, by decide +kernel⟩,
  ⟨by decide +kernel, by decide +kernel, by decide +kernel⟩,
  ⟨by decide +kernel, by decide +kernel, by decide +kernel⟩,
  ⟨by decide +kernel, by decide +kernel, _, rfl, by decide, tw_228⟩,
  ⟨by decide +kernel, by decide +kernel, by decide +kernel⟩,
  ⟨by decide +kernel, by decide +kernel, by decide +kernel⟩,
  ⟨by decide +kernel, by decide +kernel, by decide +kernel⟩,
  ⟨by decide +kernel, by decide +kernel, Or.inl rfl, _, 2, _, rfl, rfl, rfl, rfl, ⟨fun h => (by cases h), fun h => (by cases h)⟩, Or.inl tw_251, tw_252, tw_253, fun r h => (by cases h; exact ⟨_, rfl, by decide +kernel⟩)⟩,
  ⟨by decide +kernel, by decide +kernel⟩,
  ⟨by decide +kernel, by decide +kernel, by decide +kernel⟩,
  ⟨by decide +kernel, Or.inl ⟨rfl, rfl⟩⟩,
  trivial⟩
set_option maxRecDepth 100000 in
set_option maxHeartbeats 4000000 in
theorem ok_O_about : ax_okl ax_Ms ax_Xs ax_NMs ax_cl ax_TT ax_NLs nm_O_about prog_1_method_4_code (some .boolean) 5 cd_O_about 0 cd_O_about := ⟨
  ⟨by decide +kernel, by decide +kernel, by decide +kernel⟩,
  ⟨by decide +kernel, by decide +kernel, _, rfl, by decide, tw_228⟩,
  ⟨by decide +kernel, by decide +kernel, by decide +kernel⟩,
  ⟨by decide +kernel, by decide +kernel, Or.inl rfl, _, 2, _, rfl, rfl, rfl, rfl, ⟨fun h => (by cases h), fun h => (by cases h)⟩, Or.inl tw_259, tw_260, tw_261, fun r h => (by cases h; exact ⟨_, rfl, by decide +kernel⟩)⟩,
  ⟨by decide +kernel, by decide +kernel, by decide +kernel⟩,
  ⟨by decide +kernel, by decide +kernel, by decide +kernel⟩,
  ⟨by decide +kernel, by decide +kernel, by decide +kernel⟩,
  ⟨by decide +kernel, by decide +kernel, by decide +kernel⟩,
  ⟨by decide +kernel, by decide +kernel, Or.inr (Or.inr ⟨Or.inl rfl, _, rfl, ⟨fun h => (by cases h), fun h => (by cases h)⟩, Or.inl tw_244, tw_245, fun r h => (by cases h; decide +kernel)⟩)⟩,
  ⟨by decide +kernel, by decide +kernel, by decide +kernel⟩,
  ⟨by decide +kernel, by decide +kernel, by decide +kernel⟩,
  ⟨by decide +kernel, Or.inr ⟨rfl, rfl⟩⟩,
  ⟨by decide +kernel, by decide +kernel, by decide +kernel⟩,
  ⟨by decide +kernel, by decide +kernel, _, rfl, by decide, tw_228⟩,
  ⟨by decide +kernel, by decide +kernel, _, rfl, by decide, tw_125⟩,
  ⟨by decide +kernel, by decide +kernel, by decide +kernel⟩,
  ⟨by decide +kernel, by decide +kernel, by decide +kernel⟩,
  ⟨by decide +kernel, by decide +kernel⟩,
  ⟨by decide +kernel, by decide +kernel, by decide +kernel⟩,
  ⟨by decide +kernel, by decide +kernel, _, rfl, by decide, tw_228⟩,
  ⟨by decide +kernel, by decide +kernel, _, rfl, by decide, tw_113⟩,
  ⟨by decide +kernel, by decide +kernel, by decide +kernel⟩,
  ⟨by decide +kernel, by decide +kernel, by decide +kernel⟩,
  ⟨by decide +kernel, by decide +kernel, by decide +kernel⟩,
  ⟨by decide +kernel, by decide +kernel⟩,
  ⟨by decide +kernel, by decide +kernel⟩,
  ⟨by decide +kernel, by decide +kernel, by decide +kernel⟩,
  ⟨by decide +kernel, by decide +kernel, _, rfl, by decide, tw_228⟩,
  ⟨by decide +kernel, by decide +kernel, _, rfl, by decide, tw_116⟩,
  ⟨by decide +kernel, by decide +kernel, by decide +kernel⟩,
  ⟨by decide +kernel, by decide +kernel, by decide +kernel⟩,
  ⟨by decide +kernel, by decide +kernel⟩,
  ⟨by decide +kernel, by decide +kernel, by decide +kernel⟩,
  ⟨by decide +kernel, Or.inr ⟨rfl, rfl⟩⟩,
  trivial⟩
set_option maxRecDepth 100000 in
set_option maxHeartbeats 4000000 in
theorem ok_O_fails : ax_okl ax_Ms ax_Xs ax_NMs ax_cl ax_TT ax_NLs nm_O_fails prog_1_method_5_code (some .boolean) 4 cd_O_fails 0 cd_O_fails := ⟨
  ⟨by decide +kernel, by decide +kernel, by decide +kernel⟩,
  ⟨by decide +kernel, by decide +kernel, _, rfl, by decide, tw_228⟩,
  ⟨by decide +kernel, by decide +kernel, by decide +kernel⟩,
  ⟨by decide +kernel, by decide +kernel, Or.inl rfl, _, 2, _, rfl, rfl, rfl, rfl, ⟨fun h => (by cases h), fun h => (by cases h)⟩, Or.inl tw_259, tw_260, tw_261, fun r h => (by cases h; exact ⟨_, rfl, by decide +kernel⟩)⟩,
  ⟨by decide +kernel, by decide +kernel, by decide +kernel⟩,
  ⟨by decide +kernel, by decide +kernel, by decide +kernel⟩,
  ⟨by decide +kernel, by decide +kernel, by decide +kernel⟩,
  ⟨by decide +kernel, by decide +kernel, by decide +kernel⟩,
  ⟨by decide +kernel, by decide +kernel, Or.inr (Or.inr ⟨Or.inl rfl, _, rfl, ⟨fun h => (by cases h), fun h => (by cases h)⟩, Or.inl tw_244, tw_245, fun r h => (by cases h; decide +kernel)⟩)⟩,
  ⟨by decide +kernel, by decide +kernel, by decide +kernel⟩,
  ⟨by decide +kernel, by decide +kernel, by decide +kernel⟩,
  ⟨by decide +kernel, by decide +kernel, by decide +kernel⟩,
  ⟨by decide +kernel, by decide +kernel, by decide +kernel⟩,
  ⟨by decide +kernel, by decide +kernel, Or.inr (Or.inr ⟨Or.inl rfl, _, rfl, ⟨fun h => (by cases h), fun h => (by cases h)⟩, Or.inl tw_244, tw_245, fun r h => (by cases h; decide +kernel)⟩)⟩,
  ⟨by decide +kernel, by decide +kernel, by decide +kernel⟩,
  ⟨by decide +kernel, by decide +kernel, by decide +kernel⟩,
  ⟨by decide +kernel, Or.inr ⟨rfl, rfl⟩⟩,
  ⟨by decide +kernel, by decide +kernel, by decide +kernel⟩,
  ⟨by decide +kernel, by decide +kernel, _, rfl, by decide, tw_228⟩,
  ⟨by decide +kernel, by decide +kernel, _, rfl, by decide, tw_119⟩,
  ⟨by decide +kernel, by decide +kernel, by decide +kernel⟩,
  ⟨by decide +kernel, by decide +kernel, by decide +kernel⟩,
  ⟨by decide +kernel, by decide +kernel⟩,
  ⟨by decide +kernel, by decide +kernel, by decide +kernel⟩,
  ⟨by decide +kernel, by decide +kernel, _, rfl, by decide, tw_228⟩,
  ⟨by decide +kernel, by decide +kernel, _, rfl, by decide, tw_122⟩,
  ⟨by decide +kernel, by decide +kernel, by decide +kernel⟩,
  ⟨by decide +kernel, by decide +kernel, by decide +kernel⟩,
  ⟨by decide +kernel, by decide +kernel⟩,
  ⟨by decide +kernel, by decide +kernel, by decide +kernel⟩,
  ⟨by decide +kernel, Or.inr ⟨rfl, rfl⟩⟩,
  trivial⟩
set_option maxRecDepth 100000 in
set_option maxHeartbeats 4000000 in
theorem ok_O_needs : ax_okl ax_Ms ax_Xs ax_NMs ax_cl ax_TT ax_NLs nm_O_needs prog_1_method_6_code (some .int) 3 cd_O_needs 0 cd_O_needs := ⟨
  ⟨by decide +kernel, by decide +kernel, by decide +kernel⟩,
  ⟨by decide +kernel, by decide +kernel, _, rfl, by decide, tw_228⟩,
  ⟨by decide +kernel, by decide +kernel, by decide +kernel⟩,
  ⟨by decide +kernel, by decide +kernel, Or.inl rfl, _, 2, _, rfl, rfl, rfl, rfl, ⟨fun h => (by cases h), fun h => (by cases h)⟩, Or.inl tw_259, tw_260, tw_261, fun r h => (by cases h; exact ⟨_, rfl, by decide +kernel⟩)⟩,
  ⟨by decide +kernel, by decide +kernel, by decide +kernel⟩,
  ⟨by decide +kernel, by decide +kernel, by decide +kernel⟩,
  ⟨by decide +kernel, by decide +kernel, _, rfl, by decide, tw_228⟩,
  ⟨by decide +kernel, by decide +kernel, by decide +kernel⟩,
  ⟨by decide +kernel, by decide +kernel, Or.inl rfl, _, 2, _, rfl, rfl, rfl, rfl, ⟨fun h => (by cases h), fun h => (by cases h)⟩, Or.inl tw_259, tw_260, tw_261, fun r h => (by cases h; exact ⟨_, rfl, by decide +kernel⟩)⟩,
  ⟨by decide +kernel, by decide +kernel, by decide +kernel⟩,
  ⟨by decide +kernel, by decide +kernel, by decide +kernel⟩,
  ⟨by decide +kernel, Or.inl ⟨rfl, rfl⟩⟩,
  ⟨by decide +kernel, by decide +kernel, by decide +kernel⟩,
  ⟨by decide +kernel, by decide +kernel, _, rfl, by decide, tw_228⟩,
  ⟨by decide +kernel, by decide +kernel, by decide +kernel⟩,
  ⟨by decide +kernel, by decide +kernel, by decide +kernel⟩,
  ⟨by decide +kernel, by decide +kernel, Or.inl rfl, _, 2, _, rfl, rfl, rfl, rfl, ⟨fun h => (by cases h), fun h => (by cases h)⟩, Or.inl tw_271, tw_272, tw_273, fun r h => (by cases h; exact ⟨_, rfl, by decide +kernel⟩)⟩,
  ⟨by decide +kernel, Or.inl ⟨rfl, rfl⟩⟩,
  trivial⟩
set_option maxRecDepth 100000 in
set_option maxHeartbeats 4000000 in
theorem ok_O_wish : ax_okl ax_Ms ax_Xs ax_NMs ax_cl ax_TT ax_NLs nm_O_wish prog_1_method_7_code (some .boolean) 3 cd_O_wish 0 cd_O_wish := ⟨
  ⟨by decide +kernel, by decide +kernel, by decide +kernel⟩,
  ⟨by decide +kernel, by decide +kernel, _, rfl, by decide, tw_228⟩,
  ⟨by decide +kernel, by decide +kernel, by decide +kernel⟩,
  ⟨by decide +kernel, by decide +kernel, Or.inl rfl, _, 2, _, rfl, rfl, rfl, rfl, ⟨fun h => (by cases h), fun h => (by cases h)⟩, Or.inl tw_259, tw_260, tw_261, fun r h => (by cases h; exact ⟨_, rfl, by decide +kernel⟩)⟩,
  ⟨by decide +kernel, by decide +kernel, by decide +kernel⟩,
  ⟨by decide +kernel, by decide +kernel, by decide +kernel⟩,
  ⟨by decide +kernel, Or.inr ⟨rfl, rfl⟩⟩,
  ⟨by decide +kernel, by decide +kernel, by decide +kernel⟩,
  ⟨by decide +kernel, by decide +kernel, _, rfl, by decide, tw_228⟩,
  ⟨by decide +kernel, by decide +kernel, _, rfl, by decide, tw_128⟩,
  ⟨by decide +kernel, by decide +kernel, by decide +kernel⟩,
  ⟨by decide +kernel, by decide +kernel, by decide +kernel⟩,
  ⟨by decide +kernel, by decide +kernel⟩,
  ⟨by decide +kernel, by decide +kernel, by decide +kernel⟩,
  ⟨by decide +kernel, Or.inr ⟨rfl, rfl⟩⟩,
  trivial⟩
set_option maxRecDepth 100000 in
set_option maxHeartbeats 4000000 in
theorem ok_O_mode : ax_okl ax_Ms ax_Xs ax_NMs ax_cl ax_TT ax_NLs nm_O_mode prog_1_method_8_code (some .boolean) 3 cd_O_mode 0 cd_O_mode := ⟨
  ⟨by decide +kernel, by decide +kernel, by decide +kernel⟩,
  ⟨by decide +kernel, by decide +kernel, by decide +kernel⟩,
  ⟨by decide +kernel, by decide +kernel, by decide +kernel⟩,
  ⟨by decide +kernel, by decide +kernel, Or.inr (Or.inr ⟨Or.inl rfl, _, rfl, ⟨fun h => (by cases h), fun h => (by cases h)⟩, Or.inl tw_244, tw_245, fun r h => (by cases h; decide +kernel)⟩)⟩,
  ⟨by decide +kernel, by decide +kernel, by decide +kernel⟩,
  ⟨by decide +kernel, by decide +kernel, by decide +kernel⟩,
  ⟨by decide +kernel, Or.inr ⟨rfl, rfl⟩⟩,
  ⟨by decide +kernel, by decide +kernel, by decide +kernel⟩,
  ⟨by decide +kernel, by decide +kernel, _, rfl, by decide, tw_229⟩,
  ⟨by decide +kernel, by decide +kernel, _, rfl, by decide, tw_172⟩,
  ⟨by decide +kernel, by decide +kernel, by decide +kernel⟩,
  ⟨by decide +kernel, by decide +kernel, by decide +kernel⟩,
  ⟨by decide +kernel, by decide +kernel⟩,
  ⟨by decide +kernel, by decide +kernel, by decide +kernel⟩,
  ⟨by decide +kernel, Or.inr ⟨rfl, rfl⟩⟩,
  trivial⟩
set_option maxRecDepth 100000 in
set_option maxHeartbeats 4000000 in
theorem ok_O_retries : ax_okl ax_Ms ax_Xs ax_NMs ax_cl ax_TT ax_NLs nm_O_retries prog_1_method_9_code (some .boolean) 3 cd_O_retries 0 cd_O_retries := ⟨
  ⟨by decide +kernel, by decide +kernel, by decide +kernel⟩,
  ⟨by decide +kernel, by decide +kernel, by decide +kernel⟩,
  ⟨by decide +kernel, by decide +kernel, by decide +kernel⟩,
  ⟨by decide +kernel, by decide +kernel, Or.inr (Or.inr ⟨Or.inl rfl, _, rfl, ⟨fun h => (by cases h), fun h => (by cases h)⟩, Or.inl tw_244, tw_245, fun r h => (by cases h; decide +kernel)⟩)⟩,
  ⟨by decide +kernel, by decide +kernel, by decide +kernel⟩,
  ⟨by decide +kernel, by decide +kernel, by decide +kernel⟩,
  ⟨by decide +kernel, by decide +kernel, by decide +kernel⟩,
  ⟨by decide +kernel, by decide +kernel, by decide +kernel⟩,
  ⟨by decide +kernel, by decide +kernel, Or.inr (Or.inr ⟨Or.inl rfl, _, rfl, ⟨fun h => (by cases h), fun h => (by cases h)⟩, Or.inl tw_244, tw_245, fun r h => (by cases h; decide +kernel)⟩)⟩,
  ⟨by decide +kernel, by decide +kernel, by decide +kernel⟩,
  ⟨by decide +kernel, by decide +kernel, by decide +kernel⟩,
  ⟨by decide +kernel, Or.inr ⟨rfl, rfl⟩⟩,
  ⟨by decide +kernel, by decide +kernel, by decide +kernel⟩,
  ⟨by decide +kernel, by decide +kernel, _, rfl, by decide, tw_229⟩,
  ⟨by decide +kernel, by decide +kernel, _, rfl, by decide, tw_174⟩,
  ⟨by decide +kernel, by decide +kernel, by decide +kernel⟩,
  ⟨by decide +kernel, by decide +kernel, by decide +kernel⟩,
  ⟨by decide +kernel, by decide +kernel⟩,
  ⟨by decide +kernel, by decide +kernel, by decide +kernel⟩,
  ⟨by decide +kernel, Or.inr ⟨rfl, rfl⟩⟩,
  trivial⟩
set_option maxRecDepth 100000 in
set_option maxHeartbeats 4000000 in
theorem ok_O_run : ax_okl ax_Ms ax_Xs ax_NMs ax_cl ax_TT ax_NLs nm_O_run prog_1_method_10_code (some .int) 1 cd_O_run 0 cd_O_run := ⟨
  ⟨by decide +kernel, by decide +kernel, by decide +kernel⟩,
  ⟨by decide +kernel, by decide +kernel, _, rfl, by decide, tw_230⟩,
  ⟨by decide +kernel, by decide +kernel, Or.inl rfl, _, 4, _, rfl, rfl, rfl, rfl, ⟨fun h => (by cases h), fun h => (by cases h)⟩, Or.inl tw_298, tw_299, tw_300, fun r h => (by cases h; exact ⟨_, rfl, by decide +kernel⟩)⟩,
  ⟨by decide +kernel, Or.inl ⟨rfl, rfl⟩⟩,
  trivial⟩
set_option maxRecDepth 100000 in
set_option maxHeartbeats 4000000 in
theorem ok_O_rest : ax_okl ax_Ms ax_Xs ax_NMs ax_cl ax_TT ax_NLs nm_O_rest prog_1_method_11_code (some .int) 3 cd_O_rest 0 cd_O_rest := ⟨
  ⟨by decide +kernel, by decide +kernel, by decide +kernel⟩,
  ⟨by decide +kernel, by decide +kernel, _, rfl, by decide, tw_228⟩,
  ⟨by decide +kernel, by decide +kernel, by decide +kernel⟩,
  ⟨by decide +kernel, by decide +kernel, Or.inl rfl, _, 2, _, rfl, rfl, rfl, rfl, ⟨fun h => (by cases h), fun h => (by cases h)⟩, Or.inl tw_259, tw_260, tw_261, fun r h => (by cases h; exact ⟨_, rfl, by decide +kernel⟩)⟩,
  ⟨by decide +kernel, by decide +kernel, by decide +kernel⟩,
  ⟨by decide +kernel, by decide +kernel, by decide +kernel⟩,
  ⟨by decide +kernel, Or.inl ⟨rfl, rfl⟩⟩,
  ⟨by decide +kernel, by decide +kernel, by decide +kernel⟩,
  ⟨by decide +kernel, by decide +kernel, _, rfl, by decide, tw_228⟩,
  ⟨by decide +kernel, by decide +kernel, Or.inl rfl, _, 2, _, rfl, rfl, rfl, rfl, ⟨fun h => (by cases h), fun h => (by cases h)⟩, Or.inl tw_418, tw_311, tw_312, fun r h => (by cases h; exact ⟨_, rfl, by decide +kernel⟩)⟩,
  ⟨by decide +kernel, by decide +kernel, by decide +kernel, by decide +kernel⟩,
  ⟨by decide +kernel, by decide +kernel, by decide +kernel⟩,
  ⟨by decide +kernel, by decide +kernel, by decide +kernel⟩,
  ⟨by decide +kernel, by decide +kernel, Or.inr (Or.inr ⟨Or.inl rfl, _, rfl, ⟨fun h => (by cases h), fun h => (by cases h)⟩, Or.inl tw_419, tw_276, fun r h => (by cases h; decide +kernel)⟩)⟩,
  ⟨by decide +kernel, by decide +kernel, by decide +kernel⟩,
  ⟨by decide +kernel, by decide +kernel, by decide +kernel⟩,
  ⟨by decide +kernel, Or.inl ⟨rfl, rfl⟩⟩,
  ⟨by decide +kernel, by decide +kernel, by decide +kernel⟩,
  ⟨by decide +kernel, by decide +kernel, _, rfl, by decide, tw_228⟩,
  ⟨by decide +kernel, by decide +kernel, by decide +kernel⟩,
  ⟨by decide +kernel, by decide +kernel, Or.inr rfl, _, 2, _, rfl, rfl, rfl, rfl, ⟨fun _ => rfl, fun _ => rfl⟩, Or.inl tw_420, tw_315, tw_316, fun r h => (by cases h; exact ⟨_, rfl, by decide +kernel⟩)⟩,
  ⟨by decide +kernel, by decide +kernel, by decide +kernel⟩,
  ⟨by decide +kernel, by decide +kernel, _, rfl, by decide, tw_228⟩,
  ⟨by decide +kernel, by decide +kernel, _, rfl, by decide, tw_133⟩,
  ⟨by decide +kernel, by decide +kernel, by decide +kernel⟩,
  ⟨by decide +kernel, by decide +kernel⟩,
  ⟨by decide +kernel, Or.inl ⟨rfl, rfl⟩⟩,
  trivial⟩
set_option maxRecDepth 100000 in
set_option maxHeartbeats 4000000 in
theorem ok_O_outcome : ax_okl ax_Ms ax_Xs ax_NMs ax_cl ax_TT ax_NLs nm_O_outcome prog_1_method_12_code (some .int) 3 cd_O_outcome 0 cd_O_outcome := ⟨
  ⟨by decide +kernel, by decide +kernel, by decide +kernel⟩,
  ⟨by decide +kernel, by decide +kernel, _, rfl, by decide, tw_228⟩,
  ⟨by decide +kernel, by decide +kernel, by decide +kernel⟩,
  ⟨by decide +kernel, by decide +kernel, Or.inl rfl, _, 2, _, rfl, rfl, rfl, rfl, ⟨fun h => (by cases h), fun h => (by cases h)⟩, Or.inl tw_259, tw_260, tw_261, fun r h => (by cases h; exact ⟨_, rfl, by decide +kernel⟩)⟩,
  ⟨by decide +kernel, by decide +kernel, by decide +kernel⟩,
  ⟨by decide +kernel, by decide +kernel, by decide +kernel⟩,
  ⟨by decide +kernel, by decide +kernel, _, rfl, by decide, tw_230⟩,
  ⟨by decide +kernel, by decide +kernel, by decide +kernel⟩,
  ⟨by decide +kernel, by decide +kernel, by decide +kernel⟩,
  ⟨by decide +kernel, by decide +kernel, Or.inl rfl, _, 4, _, rfl, rfl, rfl, rfl, ⟨fun h => (by cases h), fun h => (by cases h)⟩, Or.inl tw_425, tw_426, tw_427, fun r h => (by cases h; exact ⟨_, rfl, by decide +kernel⟩)⟩,
  ⟨by decide +kernel, by decide +kernel⟩,
  ⟨by decide +kernel, by decide +kernel, by decide +kernel⟩,
  ⟨by decide +kernel, Or.inl ⟨rfl, rfl⟩⟩,
  trivial⟩
set_option maxRecDepth 100000 in
set_option maxHeartbeats 4000000 in
theorem ok_O_first : ax_okl ax_Ms ax_Xs ax_NMs ax_cl ax_TT ax_NLs nm_O_first prog_1_method_13_code (some .int) 1 cd_O_first 0 cd_O_first := ⟨
  ⟨by decide +kernel, by decide +kernel, by decide +kernel⟩,
  ⟨by decide +kernel, by decide +kernel, _, rfl, by decide, tw_230⟩,
  ⟨by decide +kernel, by decide +kernel, Or.inl rfl, _, 4, _, rfl, rfl, rfl, rfl, ⟨fun h => (by cases h), fun h => (by cases h)⟩, Or.inl tw_433, tw_357, tw_358, fun r h => (by cases h; exact ⟨_, rfl, by decide +kernel⟩)⟩,
  ⟨by decide +kernel, Or.inl ⟨rfl, rfl⟩⟩,
  trivial⟩
set_option maxRecDepth 100000 in
set_option maxHeartbeats 4000000 in
theorem ok_O_order : ax_okl ax_Ms ax_Xs ax_NMs ax_cl ax_TT ax_NLs nm_O_order prog_1_method_14_code (some .int) 2 cd_O_order 0 cd_O_order := ⟨
  ⟨by decide +kernel, by decide +kernel, by decide +kernel⟩,
  ⟨by decide +kernel, by decide +kernel, _, rfl, by decide, tw_230⟩,
  ⟨by decide +kernel, by decide +kernel, by decide +kernel⟩,
  ⟨by decide +kernel, by decide +kernel, Or.inl rfl, _, 4, _, rfl, rfl, rfl, rfl, ⟨fun h => (by cases h), fun h => (by cases h)⟩, Or.inl tw_438, tw_439, tw_440, fun r h => (by cases h; exact ⟨_, rfl, by decide +kernel⟩)⟩,
  ⟨by decide +kernel, Or.inl ⟨rfl, rfl⟩⟩,
  trivial⟩
set_option maxRecDepth 100000 in
set_option maxHeartbeats 4000000 in
theorem ok_O_peak : ax_okl ax_Ms ax_Xs ax_NMs ax_cl ax_TT ax_NLs nm_O_peak prog_1_method_15_code (some .int) 2 cd_O_peak 0 cd_O_peak := ⟨
  ⟨by decide +kernel, by decide +kernel, by decide +kernel⟩,
  ⟨by decide +kernel, by decide +kernel, by decide +kernel⟩,
  ⟨by decide +kernel, by decide +kernel, by decide +kernel⟩,
  ⟨by decide +kernel, by decide +kernel, _, rfl, by decide, tw_227⟩,
  ⟨by decide +kernel, by decide +kernel, _, rfl, by decide, tw_76⟩,
  ⟨by decide +kernel, Or.inl ⟨rfl, rfl⟩⟩,
  ⟨by decide +kernel, by decide +kernel, by decide +kernel⟩,
  ⟨by decide +kernel, by decide +kernel, by decide +kernel⟩,
  ⟨by decide +kernel, by decide +kernel, by decide +kernel⟩,
  ⟨by decide +kernel, by decide +kernel, by decide +kernel⟩,
  ⟨by decide +kernel, by decide +kernel, _, rfl, by decide, tw_227⟩,
  ⟨by decide +kernel, by decide +kernel, _, rfl, by decide, tw_78⟩,
  ⟨by decide +kernel, by decide +kernel⟩,
  ⟨by decide +kernel, by decide +kernel, by decide +kernel⟩,
  ⟨by decide +kernel, Or.inl ⟨rfl, rfl⟩⟩,
  trivial⟩
set_option maxRecDepth 100000 in
set_option maxHeartbeats 4000000 in
theorem ok_O_within : ax_okl ax_Ms ax_Xs ax_NMs ax_cl ax_TT ax_NLs nm_O_within prog_1_method_16_code (some .boolean) 3 cd_O_within 0 cd_O_within := ⟨
  ⟨by decide +kernel, by decide +kernel, by decide +kernel⟩,
  ⟨by decide +kernel, by decide +kernel, by decide +kernel⟩,
  ⟨by decide +kernel, by decide +kernel, by decide +kernel⟩,
  ⟨by decide +kernel, by decide +kernel, by decide +kernel⟩,
  ⟨by decide +kernel, by decide +kernel, by decide +kernel⟩,
  ⟨by decide +kernel, by decide +kernel, by decide +kernel⟩,
  ⟨by decide +kernel, by decide +kernel, by decide +kernel⟩,
  ⟨by decide +kernel, by decide +kernel⟩,
  ⟨by decide +kernel, by decide +kernel, by decide +kernel⟩,
  ⟨by decide +kernel, Or.inr ⟨rfl, rfl⟩⟩,
  trivial⟩
set_option maxRecDepth 100000 in
set_option maxHeartbeats 4000000 in
theorem ok_O_nearest : ax_okl ax_Ms ax_Xs ax_NMs ax_cl ax_TT ax_NLs nm_O_nearest prog_1_method_17_code (some .int) 3 cd_O_nearest 0 cd_O_nearest := ⟨
  ⟨by decide +kernel, by decide +kernel, by decide +kernel⟩,
  ⟨by decide +kernel, by decide +kernel, by decide +kernel⟩,
  ⟨by decide +kernel, by decide +kernel, by decide +kernel⟩,
  ⟨by decide +kernel, by decide +kernel, Or.inr (Or.inl ⟨rfl, tw_55, tw_56, tw_37, tw_57⟩)⟩,
  ⟨by decide +kernel, by decide +kernel, Or.inl ⟨rfl, tw_58, tw_59, tw_37, tw_60⟩⟩,
  ⟨by decide +kernel, Or.inl ⟨rfl, rfl⟩⟩,
  trivial⟩
set_option maxRecDepth 100000 in
set_option maxHeartbeats 4000000 in
theorem ok_O_only : ax_okl ax_Ms ax_Xs ax_NMs ax_cl ax_TT ax_NLs nm_O_only prog_1_method_18_code (some .int) 1 cd_O_only 0 cd_O_only := ⟨
  ⟨by decide +kernel, by decide +kernel, by decide +kernel⟩,
  ⟨by decide +kernel, by decide +kernel, by decide +kernel⟩,
  ⟨by decide +kernel, by decide +kernel⟩,
  ⟨by decide +kernel, Or.inl ⟨rfl, rfl⟩⟩,
  trivial⟩
set_option maxRecDepth 100000 in
set_option maxHeartbeats 4000000 in
theorem ok_O_isIn : ax_okl ax_Ms ax_Xs ax_NMs ax_cl ax_TT ax_NLs nm_O_isIn prog_1_method_19_code (some .boolean) 2 cd_O_isIn 0 cd_O_isIn := ⟨
  ⟨by decide +kernel, by decide +kernel, by decide +kernel⟩,
  ⟨by decide +kernel, by decide +kernel, by decide +kernel⟩,
  ⟨by decide +kernel, by decide +kernel, Or.inr (Or.inr ⟨Or.inl rfl, _, rfl, ⟨fun h => (by cases h), fun h => (by cases h)⟩, Or.inl tw_278, tw_279, fun r h => (by cases h; decide +kernel)⟩)⟩,
  ⟨by decide +kernel, by decide +kernel⟩,
  ⟨by decide +kernel, by decide +kernel, by decide +kernel⟩,
  ⟨by decide +kernel, by decide +kernel, by decide +kernel⟩,
  ⟨by decide +kernel, by decide +kernel⟩,
  ⟨by decide +kernel, by decide +kernel, by decide +kernel⟩,
  ⟨by decide +kernel, Or.inr ⟨rfl, rfl⟩⟩,
  trivial⟩
set_option maxRecDepth 100000 in
set_option maxHeartbeats 4000000 in
theorem ok_H_init : ax_okl ax_Ms ax_Xs ax_NMs ax_cl ax_TT ax_NLs nm_H_init prog_3_method_1_code (none) 3 cd_H_init 0 cd_H_init := ⟨
  ⟨by decide +kernel, by decide +kernel, by decide +kernel⟩,
  ⟨by decide +kernel, by decide +kernel, Or.inl ⟨rfl, tw_65, tw_48, tw_49⟩⟩,
  ⟨by decide +kernel, by decide +kernel, by decide +kernel⟩,
  ⟨by decide +kernel, by decide +kernel, by decide +kernel⟩,
  ⟨by decide +kernel, by decide +kernel, _, rfl, by decide, tw_66, ⟨.int, by decide +kernel, Or.inl ⟨rfl, rfl⟩⟩, Or.inr ⟨rfl, rfl, rfl⟩⟩,
  ⟨by decide +kernel, by decide +kernel, by decide +kernel⟩,
  ⟨by decide +kernel, by decide +kernel, by decide +kernel⟩,
  ⟨by decide +kernel, by decide +kernel, _, rfl, by decide, tw_67, ⟨.int, by decide +kernel, Or.inl ⟨rfl, rfl⟩⟩, Or.inr ⟨rfl, rfl, rfl⟩⟩,
  ⟨by decide +kernel, rfl⟩,
  trivial⟩
set_option maxRecDepth 100000 in
set_option maxHeartbeats 4000000 in
theorem ok_H_clear : ax_okl ax_Ms ax_Xs ax_NMs ax_cl ax_TT ax_NLs nm_H_clear prog_3_method_2_code (none) 1 cd_H_clear 0 cd_H_clear := ⟨
  ⟨by decide +kernel, by decide +kernel, by decide +kernel⟩,
  ⟨by decide +kernel, by decide +kernel, by decide +kernel⟩,
  ⟨by decide +kernel, by decide +kernel, _, rfl, by decide, tw_70, ⟨.int, by decide +kernel, Or.inl ⟨rfl, rfl⟩⟩, Or.inl rfl⟩,
  ⟨by decide +kernel, by decide +kernel, by decide +kernel⟩,
  ⟨by decide +kernel, by decide +kernel, by decide +kernel⟩,
  ⟨by decide +kernel, by decide +kernel, _, rfl, by decide, tw_71, ⟨.int, by decide +kernel, Or.inl ⟨rfl, rfl⟩⟩, Or.inl rfl⟩,
  ⟨by decide +kernel, by decide +kernel, by decide +kernel⟩,
  ⟨by decide +kernel, by decide +kernel, by decide +kernel⟩,
  ⟨by decide +kernel, by decide +kernel, _, rfl, by decide, tw_72, ⟨.int, by decide +kernel, Or.inl ⟨rfl, rfl⟩⟩, Or.inl rfl⟩,
  ⟨by decide +kernel, by decide +kernel, by decide +kernel⟩,
  ⟨by decide +kernel, by decide +kernel, by decide +kernel⟩,
  ⟨by decide +kernel, by decide +kernel, _, rfl, by decide, tw_73, ⟨.int, by decide +kernel, Or.inl ⟨rfl, rfl⟩⟩, Or.inl rfl⟩,
  ⟨by decide +kernel, by decide +kernel, by decide +kernel⟩,
  ⟨by decide +kernel, by decide +kernel, by decide +kernel⟩,
  ⟨by decide +kernel, by decide +kernel, _, rfl, by decide, tw_75, ⟨.int, by decide +kernel, Or.inl ⟨rfl, rfl⟩⟩, Or.inl rfl⟩,
  ⟨by decide +kernel, by decide +kernel, by decide +kernel⟩,
  ⟨by decide +kernel, by decide +kernel, by decide +kernel⟩,
  ⟨by decide +kernel, by decide +kernel, _, rfl, by decide, tw_77, ⟨.int, by decide +kernel, Or.inl ⟨rfl, rfl⟩⟩, Or.inl rfl⟩,
  ⟨by decide +kernel, rfl⟩,
  trivial⟩
set_option maxRecDepth 100000 in
set_option maxHeartbeats 4000000 in
theorem ok_H_isTooSmallFor : ax_okl ax_Ms ax_Xs ax_NMs ax_cl ax_TT ax_NLs nm_H_isTooSmallFor prog_3_method_3_code (some .boolean) 3 cd_H_isTooSmallFor 0 cd_H_isTooSmallFor := ⟨
  ⟨by decide +kernel, by decide +kernel, by decide +kernel⟩,
  ⟨by decide +kernel, by decide +kernel, by decide +kernel⟩,
  ⟨by decide +kernel, by decide +kernel, _, rfl, by decide, tw_66⟩,
  ⟨by decide +kernel, by decide +kernel, by decide +kernel⟩,
  ⟨by decide +kernel, by decide +kernel, by decide +kernel⟩,
  ⟨by decide +kernel, by decide +kernel, by decide +kernel⟩,
  ⟨by decide +kernel, by decide +kernel, _, rfl, by decide, tw_67⟩,
  ⟨by decide +kernel, by decide +kernel, by decide +kernel⟩,
  ⟨by decide +kernel, by decide +kernel, by decide +kernel⟩,
  ⟨by decide +kernel, by decide +kernel⟩,
  ⟨by decide +kernel, by decide +kernel, by decide +kernel⟩,
  ⟨by decide +kernel, Or.inr ⟨rfl, rfl⟩⟩,
  trivial⟩
set_option maxRecDepth 100000 in
set_option maxHeartbeats 4000000 in
theorem ok_H_hasFree : ax_okl ax_Ms ax_Xs ax_NMs ax_cl ax_TT ax_NLs nm_H_hasFree prog_3_method_4_code (some .boolean) 4 cd_H_hasFree 0 cd_H_hasFree := ⟨
  ⟨by decide +kernel, by decide +kernel, by decide +kernel⟩,
  ⟨by decide +kernel, by decide +kernel, by decide +kernel⟩,
  ⟨by decide +kernel, by decide +kernel, _, rfl, by decide, tw_66⟩,
  ⟨by decide +kernel, by decide +kernel, by decide +kernel⟩,
  ⟨by decide +kernel, by decide +kernel, _, rfl, by decide, tw_70⟩,
  ⟨by decide +kernel, by decide +kernel⟩,
  ⟨by decide +kernel, by decide +kernel, by decide +kernel⟩,
  ⟨by decide +kernel, by decide +kernel, by decide +kernel⟩,
  ⟨by decide +kernel, by decide +kernel, by decide +kernel⟩,
  ⟨by decide +kernel, by decide +kernel, _, rfl, by decide, tw_67⟩,
  ⟨by decide +kernel, by decide +kernel, by decide +kernel⟩,
  ⟨by decide +kernel, by decide +kernel, _, rfl, by decide, tw_71⟩,
  ⟨by decide +kernel, by decide +kernel⟩,
  ⟨by decide +kernel, by decide +kernel, by decide +kernel⟩,
  ⟨by decide +kernel, by decide +kernel, by decide +kernel⟩,
  ⟨by decide +kernel, by decide +kernel, by decide +kernel⟩,
  ⟨by decide +kernel, by decide +kernel, _, rfl, by decide, tw_72⟩,
  ⟨by decide +kernel, by decide +kernel⟩,
  ⟨by decide +kernel, by decide +kernel, by decide +kernel⟩,
  ⟨by decide +kernel, by decide +kernel, by decide +kernel⟩,
  ⟨by decide +kernel, by decide +kernel⟩,
  ⟨by decide +kernel, by decide +kernel, by decide +kernel⟩,
  ⟨by decide +kernel, Or.inr ⟨rfl, rfl⟩⟩,
  trivial⟩
set_option maxRecDepth 100000 in
set_option maxHeartbeats 4000000 in
theorem ok_H_hasFreeSlot : ax_okl ax_Ms ax_Xs ax_NMs ax_cl ax_TT ax_NLs nm_H_hasFreeSlot prog_3_method_5_code (some .boolean) 1 cd_H_hasFreeSlot 0 cd_H_hasFreeSlot := ⟨
  ⟨by decide +kernel, by decide +kernel, by decide +kernel⟩,
  ⟨by decide +kernel, by decide +kernel, _, rfl, by decide, tw_73⟩,
  ⟨by decide +kernel, by decide +kernel, by decide +kernel⟩,
  ⟨by decide +kernel, by decide +kernel, _, rfl, by decide, tw_69⟩,
  ⟨by decide +kernel, by decide +kernel, by decide +kernel⟩,
  ⟨by decide +kernel, by decide +kernel, by decide +kernel⟩,
  ⟨by decide +kernel, by decide +kernel⟩,
  ⟨by decide +kernel, by decide +kernel, by decide +kernel⟩,
  ⟨by decide +kernel, Or.inr ⟨rfl, rfl⟩⟩,
  trivial⟩
set_option maxRecDepth 100000 in
set_option maxHeartbeats 4000000 in
theorem ok_H_take : ax_okl ax_Ms ax_Xs ax_NMs ax_cl ax_TT ax_NLs nm_H_take prog_3_method_6_code (none) 4 cd_H_take 0 cd_H_take := ⟨
  ⟨by decide +kernel, by decide +kernel, by decide +kernel⟩,
  ⟨by decide +kernel, by decide +kernel⟩,
  ⟨by decide +kernel, by decide +kernel, _, rfl, by decide, tw_70⟩,
  ⟨by decide +kernel, by decide +kernel, by decide +kernel⟩,
  ⟨by decide +kernel, by decide +kernel⟩,
  ⟨by decide +kernel, by decide +kernel, _, rfl, by decide, tw_70, ⟨.int, by decide +kernel, Or.inl ⟨rfl, rfl⟩⟩, Or.inl rfl⟩,
  ⟨by decide +kernel, by decide +kernel, by decide +kernel⟩,
  ⟨by decide +kernel, by decide +kernel⟩,
  ⟨by decide +kernel, by decide +kernel, _, rfl, by decide, tw_71⟩,
  ⟨by decide +kernel, by decide +kernel, by decide +kernel⟩,
  ⟨by decide +kernel, by decide +kernel⟩,
  ⟨by decide +kernel, by decide +kernel, _, rfl, by decide, tw_71, ⟨.int, by decide +kernel, Or.inl ⟨rfl, rfl⟩⟩, Or.inl rfl⟩,
  ⟨by decide +kernel, by decide +kernel, by decide +kernel⟩,
  ⟨by decide +kernel, by decide +kernel⟩,
  ⟨by decide +kernel, by decide +kernel, _, rfl, by decide, tw_72⟩,
  ⟨by decide +kernel, by decide +kernel, by decide +kernel⟩,
  ⟨by decide +kernel, by decide +kernel⟩,
  ⟨by decide +kernel, by decide +kernel, _, rfl, by decide, tw_72, ⟨.int, by decide +kernel, Or.inl ⟨rfl, rfl⟩⟩, Or.inl rfl⟩,
  ⟨by decide +kernel, by decide +kernel, by decide +kernel⟩,
  ⟨by decide +kernel, by decide +kernel, by decide +kernel⟩,
  ⟨by decide +kernel, by decide +kernel, _, rfl, by decide, tw_75⟩,
  ⟨by decide +kernel, by decide +kernel, by decide +kernel⟩,
  ⟨by decide +kernel, by decide +kernel, _, rfl, by decide, tw_70⟩,
  ⟨by decide +kernel, by decide +kernel, Or.inl ⟨rfl, tw_401, tw_59, tw_37, tw_60⟩⟩,
  ⟨by decide +kernel, by decide +kernel, _, rfl, by decide, tw_75, ⟨.int, by decide +kernel, Or.inl ⟨rfl, rfl⟩⟩, Or.inl rfl⟩,
  ⟨by decide +kernel, by decide +kernel, by decide +kernel⟩,
  ⟨by decide +kernel, by decide +kernel, by decide +kernel⟩,
  ⟨by decide +kernel, by decide +kernel, _, rfl, by decide, tw_77⟩,
  ⟨by decide +kernel, by decide +kernel, by decide +kernel⟩,
  ⟨by decide +kernel, by decide +kernel, _, rfl, by decide, tw_71⟩,
  ⟨by decide +kernel, by decide +kernel, Or.inl ⟨rfl, tw_401, tw_59, tw_37, tw_60⟩⟩,
  ⟨by decide +kernel, by decide +kernel, _, rfl, by decide, tw_77, ⟨.int, by decide +kernel, Or.inl ⟨rfl, rfl⟩⟩, Or.inl rfl⟩,
  ⟨by decide +kernel, rfl⟩,
  trivial⟩
set_option maxRecDepth 100000 in
set_option maxHeartbeats 4000000 in
theorem ok_H_giveBack : ax_okl ax_Ms ax_Xs ax_NMs ax_cl ax_TT ax_NLs nm_H_giveBack prog_3_method_7_code (none) 4 cd_H_giveBack 0 cd_H_giveBack := ⟨
  ⟨by decide +kernel, by decide +kernel, by decide +kernel⟩,
  ⟨by decide +kernel, by decide +kernel⟩,
  ⟨by decide +kernel, by decide +kernel, _, rfl, by decide, tw_70⟩,
  ⟨by decide +kernel, by decide +kernel, by decide +kernel⟩,
  ⟨by decide +kernel, by decide +kernel⟩,
  ⟨by decide +kernel, by decide +kernel, _, rfl, by decide, tw_70, ⟨.int, by decide +kernel, Or.inl ⟨rfl, rfl⟩⟩, Or.inl rfl⟩,
  ⟨by decide +kernel, by decide +kernel, by decide +kernel⟩,
  ⟨by decide +kernel, by decide +kernel⟩,
  ⟨by decide +kernel, by decide +kernel, _, rfl, by decide, tw_71⟩,
  ⟨by decide +kernel, by decide +kernel, by decide +kernel⟩,
  ⟨by decide +kernel, by decide +kernel⟩,
  ⟨by decide +kernel, by decide +kernel, _, rfl, by decide, tw_71, ⟨.int, by decide +kernel, Or.inl ⟨rfl, rfl⟩⟩, Or.inl rfl⟩,
  ⟨by decide +kernel, by decide +kernel, by decide +kernel⟩,
  ⟨by decide +kernel, by decide +kernel⟩,
  ⟨by decide +kernel, by decide +kernel, _, rfl, by decide, tw_72⟩,
  ⟨by decide +kernel, by decide +kernel, by decide +kernel⟩,
  ⟨by decide +kernel, by decide +kernel, by decide +kernel⟩,
  ⟨by decide +kernel, by decide +kernel⟩,
  ⟨by decide +kernel, by decide +kernel⟩,
  ⟨by decide +kernel, by decide +kernel, _, rfl, by decide, tw_72, ⟨.int, by decide +kernel, Or.inl ⟨rfl, rfl⟩⟩, Or.inl rfl⟩,
  ⟨by decide +kernel, rfl⟩,
  trivial⟩
end
section
/-! Each instruction's entry is what the code says, 1. -/
set_option maxRecDepth 100000 in
set_option maxHeartbeats 4000000 in
theorem ok_A_init : ax_okl ax_Ms ax_Xs ax_NMs ax_cl ax_TT ax_NLs nm_A_init prog_2_method_1_code (none) 1 cd_A_init 0 cd_A_init := ⟨
  ⟨by decide +kernel, by decide +kernel, by decide +kernel⟩,
  ⟨by decide +kernel, by decide +kernel, Or.inl ⟨rfl, tw_103, tw_48, tw_49⟩⟩,
  ⟨by decide +kernel, by decide +kernel, by decide +kernel⟩,
  ⟨by decide +kernel, by decide +kernel, by decide +kernel⟩,
  ⟨by decide +kernel, by decide +kernel, Or.inl ⟨rfl, rfl⟩, tw_162⟩,
  ⟨by decide +kernel, by decide +kernel, _, rfl, by decide, tw_106, ⟨.array .int, by decide +kernel, Or.inr (Or.inr ⟨rfl, Or.inr ⟨_, rfl⟩⟩)⟩, Or.inr ⟨rfl, rfl, rfl⟩⟩,
  ⟨by decide +kernel, by decide +kernel, by decide +kernel⟩,
  ⟨by decide +kernel, by decide +kernel, by decide +kernel⟩,
  ⟨by decide +kernel, by decide +kernel, Or.inl ⟨rfl, rfl⟩, tw_162⟩,
  ⟨by decide +kernel, by decide +kernel, _, rfl, by decide, tw_108, ⟨.array .int, by decide +kernel, Or.inr (Or.inr ⟨rfl, Or.inr ⟨_, rfl⟩⟩)⟩, Or.inr ⟨rfl, rfl, rfl⟩⟩,
  ⟨by decide +kernel, by decide +kernel, by decide +kernel⟩,
  ⟨by decide +kernel, by decide +kernel, by decide +kernel⟩,
  ⟨by decide +kernel, by decide +kernel, Or.inl ⟨rfl, rfl⟩, tw_162⟩,
  ⟨by decide +kernel, by decide +kernel, _, rfl, by decide, tw_110, ⟨.array .int, by decide +kernel, Or.inr (Or.inr ⟨rfl, Or.inr ⟨_, rfl⟩⟩)⟩, Or.inr ⟨rfl, rfl, rfl⟩⟩,
  ⟨by decide +kernel, by decide +kernel, by decide +kernel⟩,
  ⟨by decide +kernel, by decide +kernel, by decide +kernel⟩,
  ⟨by decide +kernel, by decide +kernel, Or.inl ⟨rfl, rfl⟩, tw_162⟩,
  ⟨by decide +kernel, by decide +kernel, _, rfl, by decide, tw_112, ⟨.array .int, by decide +kernel, Or.inr (Or.inr ⟨rfl, Or.inr ⟨_, rfl⟩⟩)⟩, Or.inr ⟨rfl, rfl, rfl⟩⟩,
  ⟨by decide +kernel, by decide +kernel, by decide +kernel⟩,
  ⟨by decide +kernel, by decide +kernel, by decide +kernel⟩,
  ⟨by decide +kernel, by decide +kernel, Or.inl ⟨rfl, rfl⟩, tw_162⟩,
  ⟨by decide +kernel, by decide +kernel, _, rfl, by decide, tw_115, ⟨.array .int, by decide +kernel, Or.inr (Or.inr ⟨rfl, Or.inr ⟨_, rfl⟩⟩)⟩, Or.inr ⟨rfl, rfl, rfl⟩⟩,
  ⟨by decide +kernel, by decide +kernel, by decide +kernel⟩,
  ⟨by decide +kernel, by decide +kernel, by decide +kernel⟩,
  ⟨by decide +kernel, by decide +kernel, Or.inl ⟨rfl, rfl⟩, tw_162⟩,
  ⟨by decide +kernel, by decide +kernel, _, rfl, by decide, tw_118, ⟨.array .int, by decide +kernel, Or.inr (Or.inr ⟨rfl, Or.inr ⟨_, rfl⟩⟩)⟩, Or.inr ⟨rfl, rfl, rfl⟩⟩,
  ⟨by decide +kernel, by decide +kernel, by decide +kernel⟩,
  ⟨by decide +kernel, by decide +kernel, by decide +kernel⟩,
  ⟨by decide +kernel, by decide +kernel, Or.inl ⟨rfl, rfl⟩, tw_162⟩,
  ⟨by decide +kernel, by decide +kernel, _, rfl, by decide, tw_121, ⟨.array .int, by decide +kernel, Or.inr (Or.inr ⟨rfl, Or.inr ⟨_, rfl⟩⟩)⟩, Or.inr ⟨rfl, rfl, rfl⟩⟩,
  ⟨by decide +kernel, by decide +kernel, by decide +kernel⟩,
  ⟨by decide +kernel, by decide +kernel, by decide +kernel⟩,
  ⟨by decide +kernel, by decide +kernel, Or.inr ⟨rfl, rfl⟩, tw_163⟩,
  ⟨by decide +kernel, by decide +kernel, _, rfl, by decide, tw_124, ⟨.array .boolean, by decide +kernel, Or.inr (Or.inr ⟨rfl, Or.inr ⟨_, rfl⟩⟩)⟩, Or.inr ⟨rfl, rfl, rfl⟩⟩,
  ⟨by decide +kernel, by decide +kernel, by decide +kernel⟩,
  ⟨by decide +kernel, by decide +kernel, by decide +kernel⟩,
  ⟨by decide +kernel, by decide +kernel, Or.inr ⟨rfl, rfl⟩, tw_163⟩,
  ⟨by decide +kernel, by decide +kernel, _, rfl, by decide, tw_127, ⟨.array .boolean, by decide +kernel, Or.inr (Or.inr ⟨rfl, Or.inr ⟨_, rfl⟩⟩)⟩, Or.inr ⟨rfl, rfl, rfl⟩⟩,
  ⟨by decide +kernel, by decide +kernel, by decide +kernel⟩,
  ⟨by decide +kernel, by decide +kernel, by decide +kernel⟩,
  ⟨by decide +kernel, by decide +kernel, Or.inl ⟨rfl, rfl⟩, tw_162⟩,
  ⟨by decide +kernel, by decide +kernel, _, rfl, by decide, tw_129, ⟨.array .int, by decide +kernel, Or.inr (Or.inr ⟨rfl, Or.inr ⟨_, rfl⟩⟩)⟩, Or.inr ⟨rfl, rfl, rfl⟩⟩,
  ⟨by decide +kernel, by decide +kernel, by decide +kernel⟩,
  ⟨by decide +kernel, by decide +kernel, by decide +kernel⟩,
  ⟨by decide +kernel, by decide +kernel, Or.inl ⟨rfl, rfl⟩, tw_162⟩,
  ⟨by decide +kernel, by decide +kernel, _, rfl, by decide, tw_131, ⟨.array .int, by decide +kernel, Or.inr (Or.inr ⟨rfl, Or.inr ⟨_, rfl⟩⟩)⟩, Or.inr ⟨rfl, rfl, rfl⟩⟩,
  ⟨by decide +kernel, by decide +kernel, by decide +kernel⟩,
  ⟨by decide +kernel, by decide +kernel, by decide +kernel⟩,
  ⟨by decide +kernel, by decide +kernel, Or.inl ⟨rfl, rfl⟩, tw_162⟩,
  ⟨by decide +kernel, by decide +kernel, _, rfl, by decide, tw_132, ⟨.array .int, by decide +kernel, Or.inr (Or.inr ⟨rfl, Or.inr ⟨_, rfl⟩⟩)⟩, Or.inr ⟨rfl, rfl, rfl⟩⟩,
  ⟨by decide +kernel, rfl⟩,
  trivial⟩
set_option maxRecDepth 100000 in
set_option maxHeartbeats 4000000 in
theorem ok_A_has : ax_okl ax_Ms ax_Xs ax_NMs ax_cl ax_TT ax_NLs nm_A_has prog_2_method_2_code (some .boolean) 2 cd_A_has 0 cd_A_has := ⟨
  ⟨by decide +kernel, by decide +kernel, by decide +kernel⟩,
  ⟨by decide +kernel, by decide +kernel, by decide +kernel⟩,
  ⟨by decide +kernel, by decide +kernel, by decide +kernel⟩,
  ⟨by decide +kernel, by decide +kernel, by decide +kernel⟩,
  ⟨by decide +kernel, by decide +kernel, by decide +kernel⟩,
  ⟨by decide +kernel, by decide +kernel, _, rfl, by decide, tw_104⟩,
  ⟨by decide +kernel, by decide +kernel, by decide +kernel⟩,
  ⟨by decide +kernel, by decide +kernel, by decide +kernel⟩,
  ⟨by decide +kernel, by decide +kernel⟩,
  ⟨by decide +kernel, by decide +kernel, by decide +kernel⟩,
  ⟨by decide +kernel, Or.inr ⟨rfl, rfl⟩⟩,
  trivial⟩
set_option maxRecDepth 100000 in
set_option maxHeartbeats 4000000 in
theorem ok_A_add : ax_okl ax_Ms ax_Xs ax_NMs ax_cl ax_TT ax_NLs nm_A_add prog_2_method_3_code (some .int) 4 cd_A_add 0 cd_A_add := ⟨
  ⟨by decide +kernel, by decide +kernel, by decide +kernel⟩,
  ⟨by decide +kernel, by decide +kernel, _, rfl, by decide, tw_104⟩,
  ⟨by decide +kernel, by decide +kernel, by decide +kernel⟩,
  ⟨by decide +kernel, by decide +kernel, by decide +kernel⟩,
  ⟨by decide +kernel, by decide +kernel, by decide +kernel⟩,
  ⟨by decide +kernel, Or.inl ⟨rfl, rfl⟩⟩,
  ⟨by decide +kernel, by decide +kernel, by decide +kernel⟩,
  ⟨by decide +kernel, by decide +kernel, _, rfl, by decide, tw_106⟩,
  ⟨by decide +kernel, by decide +kernel, by decide +kernel⟩,
  ⟨by decide +kernel, by decide +kernel, _, rfl, by decide, tw_104⟩,
  ⟨by decide +kernel, by decide +kernel, by decide +kernel⟩,
  ⟨by decide +kernel, by decide +kernel⟩,
  ⟨by decide +kernel, by decide +kernel, by decide +kernel⟩,
  ⟨by decide +kernel, by decide +kernel, _, rfl, by decide, tw_108⟩,
  ⟨by decide +kernel, by decide +kernel, by decide +kernel⟩,
  ⟨by decide +kernel, by decide +kernel, _, rfl, by decide, tw_104⟩,
  ⟨by decide +kernel, by decide +kernel, by decide +kernel⟩,
  ⟨by decide +kernel, by decide +kernel⟩,
  ⟨by decide +kernel, by decide +kernel, by decide +kernel⟩,
  ⟨by decide +kernel, by decide +kernel, _, rfl, by decide, tw_110⟩,
  ⟨by decide +kernel, by decide +kernel, by decide +kernel⟩,
  ⟨by decide +kernel, by decide +kernel, _, rfl, by decide, tw_104⟩,
  ⟨by decide +kernel, by decide +kernel, by decide +kernel⟩,
  ⟨by decide +kernel, by decide +kernel⟩,
  ⟨by decide +kernel, by decide +kernel, by decide +kernel⟩,
  ⟨by decide +kernel, by decide +kernel⟩,
  ⟨by decide +kernel, by decide +kernel, _, rfl, by decide, tw_104⟩,
  ⟨by decide +kernel, by decide +kernel, by decide +kernel⟩,
  ⟨by decide +kernel, by decide +kernel⟩,
  ⟨by decide +kernel, by decide +kernel, _, rfl, by decide, tw_104, ⟨.int, by decide +kernel, Or.inl ⟨rfl, rfl⟩⟩, Or.inl rfl⟩,
  ⟨by decide +kernel, by decide +kernel, by decide +kernel⟩,
  ⟨by decide +kernel, by decide +kernel, _, rfl, by decide, tw_104⟩,
  ⟨by decide +kernel, by decide +kernel, by decide +kernel⟩,
  ⟨by decide +kernel, by decide +kernel⟩,
  ⟨by decide +kernel, Or.inl ⟨rfl, rfl⟩⟩,
  trivial⟩
set_option maxRecDepth 100000 in
set_option maxHeartbeats 4000000 in
theorem ok_A_join : ax_okl ax_Ms ax_Xs ax_NMs ax_cl ax_TT ax_NLs nm_A_join prog_2_method_4_code (some .int) 5 cd_A_join 0 cd_A_join := ⟨
  ⟨by decide +kernel, by decide +kernel, by decide +kernel⟩,
  ⟨by decide +kernel, by decide +kernel, _, rfl, by decide, tw_129⟩,
  ⟨by decide +kernel, by decide +kernel, by decide +kernel⟩,
  ⟨by decide +kernel, by decide +kernel⟩,
  ⟨by decide +kernel, by decide +kernel, by decide +kernel⟩,
  ⟨by decide +kernel, by decide +kernel, Or.inr (Or.inr ⟨Or.inl rfl, _, rfl, ⟨fun h => (by cases h), fun h => (by cases h)⟩, Or.inr ⟨"RunOrder", List.mem_of_getElem? (i := 2) rfl⟩, tw_276, fun r h => (by cases h; decide +kernel)⟩)⟩,
  ⟨by decide +kernel, by decide +kernel, by decide +kernel⟩,
  ⟨by decide +kernel, by decide +kernel, by decide +kernel⟩,
  ⟨by decide +kernel, Or.inl ⟨rfl, rfl⟩⟩,
  ⟨by decide +kernel, by decide +kernel, by decide +kernel⟩,
  ⟨by decide +kernel, by decide +kernel, by decide +kernel⟩,
  ⟨by decide +kernel, by decide +kernel, by decide +kernel⟩,
  ⟨by decide +kernel, by decide +kernel, by decide +kernel⟩,
  ⟨by decide +kernel, by decide +kernel, _, rfl, by decide, tw_131⟩,
  ⟨by decide +kernel, by decide +kernel, by decide +kernel⟩,
  ⟨by decide +kernel, by decide +kernel⟩,
  ⟨by decide +kernel, by decide +kernel, by decide +kernel⟩,
  ⟨by decide +kernel, by decide +kernel, Or.inr (Or.inr ⟨Or.inl rfl, _, rfl, ⟨fun h => (by cases h), fun h => (by cases h)⟩, Or.inr ⟨"RunOrder", List.mem_of_getElem? (i := 2) rfl⟩, tw_276, fun r h => (by cases h; decide +kernel)⟩)⟩,
  ⟨by decide +kernel, by decide +kernel, by decide +kernel⟩,
  ⟨by decide +kernel, by decide +kernel, by decide +kernel⟩,
  ⟨by decide +kernel, Or.inl ⟨rfl, rfl⟩⟩,
  ⟨by decide +kernel, by decide +kernel, by decide +kernel⟩,
  ⟨by decide +kernel, by decide +kernel, _, rfl, by decide, tw_129⟩,
  ⟨by decide +kernel, by decide +kernel, by decide +kernel⟩,
  ⟨by decide +kernel, by decide +kernel⟩,
  ⟨by decide +kernel, by decide +kernel⟩,
  ⟨by decide +kernel, by decide +kernel, by decide +kernel⟩,
  ⟨by decide +kernel, by decide +kernel, Or.inr (Or.inr ⟨Or.inl rfl, _, rfl, ⟨fun h => (by cases h), fun h => (by cases h)⟩, Or.inr ⟨"RunOrder", List.mem_of_getElem? (i := 3) rfl⟩, tw_279, fun r h => (by cases h; decide +kernel)⟩)⟩,
  ⟨by decide +kernel, by decide +kernel⟩,
  ⟨by decide +kernel, by decide +kernel⟩,
  ⟨by decide +kernel, by decide +kernel, by decide +kernel⟩,
  ⟨by decide +kernel, by decide +kernel, _, rfl, by decide, tw_131⟩,
  ⟨by decide +kernel, by decide +kernel, by decide +kernel⟩,
  ⟨by decide +kernel, by decide +kernel⟩,
  ⟨by decide +kernel, by decide +kernel, by decide +kernel⟩,
  ⟨by decide +kernel, by decide +kernel, Or.inr (Or.inr ⟨Or.inl rfl, _, rfl, ⟨fun h => (by cases h), fun h => (by cases h)⟩, Or.inr ⟨"RunOrder", List.mem_of_getElem? (i := 3) rfl⟩, tw_279, fun r h => (by cases h; decide +kernel)⟩)⟩,
  ⟨by decide +kernel, by decide +kernel⟩,
  ⟨by decide +kernel, by decide +kernel, by decide +kernel, by decide +kernel⟩,
  ⟨by decide +kernel, by decide +kernel, by decide +kernel⟩,
  ⟨by decide +kernel, by decide +kernel, by decide +kernel, by decide +kernel⟩,
  ⟨by decide +kernel, by decide +kernel, by decide +kernel⟩,
  ⟨by decide +kernel, by decide +kernel, by decide +kernel⟩,
  ⟨by decide +kernel, by decide +kernel, _, rfl, by decide, tw_104⟩,
  ⟨by decide +kernel, by decide +kernel, by decide +kernel⟩,
  ⟨by decide +kernel, by decide +kernel, by decide +kernel⟩,
  ⟨by decide +kernel, by decide +kernel, by decide +kernel⟩,
  ⟨by decide +kernel, by decide +kernel, by decide +kernel⟩,
  ⟨by decide +kernel, by decide +kernel, by decide +kernel⟩,
  ⟨by decide +kernel, by decide +kernel, _, rfl, by decide, tw_131⟩,
  ⟨by decide +kernel, by decide +kernel, by decide +kernel⟩,
  ⟨by decide +kernel, by decide +kernel⟩,
  ⟨by decide +kernel, by decide +kernel, by decide +kernel⟩,
  ⟨by decide +kernel, by decide +kernel, Or.inr (Or.inr ⟨Or.inl rfl, _, rfl, ⟨fun h => (by cases h), fun h => (by cases h)⟩, Or.inr ⟨"RunOrder", List.mem_of_getElem? (i := 2) rfl⟩, tw_276, fun r h => (by cases h; decide +kernel)⟩)⟩,
  ⟨by decide +kernel, by decide +kernel, by decide +kernel⟩,
  ⟨by decide +kernel, by decide +kernel, by decide +kernel⟩,
  ⟨by decide +kernel, by decide +kernel, _, rfl, by decide, tw_131⟩,
  ⟨by decide +kernel, by decide +kernel, by decide +kernel⟩,
  ⟨by decide +kernel, by decide +kernel⟩,
  ⟨by decide +kernel, by decide +kernel⟩,
  ⟨by decide +kernel, by decide +kernel, by decide +kernel⟩,
  ⟨by decide +kernel, by decide +kernel⟩,
  ⟨by decide +kernel, by decide +kernel⟩,
  ⟨by decide +kernel, by decide +kernel, by decide +kernel, by decide +kernel, by decide +kernel⟩,
  ⟨by decide +kernel, by decide +kernel⟩,
  ⟨by decide +kernel, by decide +kernel, by decide +kernel⟩,
  ⟨by decide +kernel, Or.inl ⟨rfl, rfl⟩⟩,
  trivial⟩
set_option maxRecDepth 100000 in
set_option maxHeartbeats 4000000 in
theorem ok_A_wanted : ax_okl ax_Ms ax_Xs ax_NMs ax_cl ax_TT ax_NLs nm_A_wanted prog_2_method_5_code (some .int) 3 cd_A_wanted 0 cd_A_wanted := ⟨
  ⟨by decide +kernel, by decide +kernel, by decide +kernel⟩,
  ⟨by decide +kernel, by decide +kernel, by decide +kernel, by decide +kernel⟩,
  ⟨by decide +kernel, by decide +kernel, by decide +kernel⟩,
  ⟨by decide +kernel, by decide +kernel, by decide +kernel, by decide +kernel⟩,
  ⟨by decide +kernel, by decide +kernel, by decide +kernel⟩,
  ⟨by decide +kernel, by decide +kernel, by decide +kernel⟩,
  ⟨by decide +kernel, by decide +kernel, _, rfl, by decide, tw_104⟩,
  ⟨by decide +kernel, by decide +kernel, by decide +kernel⟩,
  ⟨by decide +kernel, by decide +kernel, by decide +kernel⟩,
  ⟨by decide +kernel, by decide +kernel, _, rfl, by decide, tw_127⟩,
  ⟨by decide +kernel, by decide +kernel, by decide +kernel⟩,
  ⟨by decide +kernel, by decide +kernel⟩,
  ⟨by decide +kernel, by decide +kernel, by decide +kernel⟩,
  ⟨by decide +kernel, by decide +kernel, by decide +kernel⟩,
  ⟨by decide +kernel, by decide +kernel, by decide +kernel⟩,
  ⟨by decide +kernel, by decide +kernel, Or.inr (Or.inr ⟨Or.inl rfl, _, rfl, ⟨fun h => (by cases h), fun h => (by cases h)⟩, Or.inr ⟨"RunOrder", List.mem_of_getElem? (i := 3) rfl⟩, tw_279, fun r h => (by cases h; decide +kernel)⟩)⟩,
  ⟨by decide +kernel, by decide +kernel, by decide +kernel⟩,
  ⟨by decide +kernel, by decide +kernel, _, rfl, by decide, tw_131⟩,
  ⟨by decide +kernel, by decide +kernel, by decide +kernel⟩,
  ⟨by decide +kernel, by decide +kernel⟩,
  ⟨by decide +kernel, by decide +kernel⟩,
  ⟨by decide +kernel, by decide +kernel⟩,
  ⟨by decide +kernel, by decide +kernel, by decide +kernel, by decide +kernel⟩,
  ⟨by decide +kernel, by decide +kernel, by decide +kernel, by decide +kernel, by decide +kernel⟩,
  ⟨by decide +kernel, by decide +kernel⟩,
  ⟨by decide +kernel, by decide +kernel, by decide +kernel⟩,
  ⟨by decide +kernel, Or.inl ⟨rfl, rfl⟩⟩,
  trivial⟩
set_option maxRecDepth 100000 in
set_option maxHeartbeats 4000000 in
theorem ok_A_measureRests : ax_okl ax_Ms ax_Xs ax_NMs ax_cl ax_TT ax_NLs nm_A_measureRests prog_2_method_6_code (none) 6 cd_A_measureRests 0 cd_A_measureRests := ⟨
  ⟨by decide +kernel, by decide +kernel, by decide +kernel⟩,
  ⟨by decide +kernel, by decide +kernel, by decide +kernel, by decide +kernel⟩,
  ⟨by decide +kernel, by decide +kernel, by decide +kernel⟩,
  ⟨by decide +kernel, by decide +kernel, by decide +kernel, by decide +kernel⟩,
  ⟨by decide +kernel, by decide +kernel, by decide +kernel⟩,
  ⟨by decide +kernel, by decide +kernel, by decide +kernel⟩,
  ⟨by decide +kernel, by decide +kernel, by decide +kernel⟩,
  ⟨by decide +kernel, by decide +kernel, by decide +kernel⟩,
  ⟨by decide +kernel, by decide +kernel, _, rfl, by decide, tw_104⟩,
  ⟨by decide +kernel, by decide +kernel, by decide +kernel⟩,
  ⟨by decide +kernel, by decide +kernel, by decide +kernel⟩,
  ⟨by decide +kernel, by decide +kernel, by decide +kernel, by decide +kernel⟩,
  ⟨by decide +kernel, by decide +kernel, by decide +kernel⟩,
  ⟨by decide +kernel, by decide +kernel, by decide +kernel, by decide +kernel⟩,
  ⟨by decide +kernel, by decide +kernel, by decide +kernel⟩,
  ⟨by decide +kernel, by decide +kernel, by decide +kernel⟩,
  ⟨by decide +kernel, by decide +kernel, _, rfl, by decide, tw_104⟩,
  ⟨by decide +kernel, by decide +kernel, by decide +kernel⟩,
  ⟨by decide +kernel, by decide +kernel, by decide +kernel⟩,
  ⟨by decide +kernel, by decide +kernel, _, rfl, by decide, tw_106⟩,
  ⟨by decide +kernel, by decide +kernel, by decide +kernel⟩,
  ⟨by decide +kernel, by decide +kernel⟩,
  ⟨by decide +kernel, by decide +kernel, by decide +kernel⟩,
  ⟨by decide +kernel, by decide +kernel, by decide +kernel⟩,
  ⟨by decide +kernel, by decide +kernel, by decide +kernel⟩,
  ⟨by decide +kernel, by decide +kernel, Or.inl rfl, _, 2, _, rfl, rfl, rfl, rfl, ⟨fun h => (by cases h), fun h => (by cases h)⟩, Or.inl tw_318, tw_320, tw_1, fun r h => (by cases h; exact ⟨_, rfl, by decide +kernel⟩)⟩,
  ⟨by decide +kernel, by decide +kernel⟩,
  ⟨by decide +kernel, by decide +kernel, by decide +kernel, by decide +kernel⟩,
  ⟨by decide +kernel, by decide +kernel, by decide +kernel⟩,
  ⟨by decide +kernel, by decide +kernel, by decide +kernel⟩,
  ⟨by decide +kernel, by decide +kernel, by decide +kernel⟩,
  ⟨by decide +kernel, by decide +kernel, by decide +kernel⟩,
  ⟨by decide +kernel, by decide +kernel, _, rfl, by decide, tw_132⟩,
  ⟨by decide +kernel, by decide +kernel, by decide +kernel⟩,
  ⟨by decide +kernel, by decide +kernel⟩,
  ⟨by decide +kernel, by decide +kernel, by decide +kernel⟩,
  ⟨by decide +kernel, by decide +kernel, by decide +kernel⟩,
  ⟨by decide +kernel, by decide +kernel⟩,
  ⟨by decide +kernel, by decide +kernel, by decide +kernel⟩,
  ⟨by decide +kernel, by decide +kernel, by decide +kernel, by decide +kernel⟩,
  ⟨by decide +kernel, by decide +kernel, by decide +kernel⟩,
  ⟨by decide +kernel, by decide +kernel, _, rfl, by decide, tw_132⟩,
  ⟨by decide +kernel, by decide +kernel, by decide +kernel⟩,
  ⟨by decide +kernel, by decide +kernel, by decide +kernel⟩,
  ⟨by decide +kernel, by decide +kernel⟩,
  ⟨by decide +kernel, by decide +kernel, by decide +kernel, by decide +kernel, by decide +kernel⟩,
  ⟨by decide +kernel, by decide +kernel⟩,
  ⟨by decide +kernel, by decide +kernel, by decide +kernel, by decide +kernel, by decide +kernel⟩,
  ⟨by decide +kernel, by decide +kernel⟩,
  ⟨by decide +kernel, rfl⟩,
  trivial⟩
set_option maxRecDepth 100000 in
set_option maxHeartbeats 4000000 in
theorem ok_A_greatestRestAbove : ax_okl ax_Ms ax_Xs ax_NMs ax_cl ax_TT ax_NLs nm_A_greatestRestAbove prog_2_method_7_code (some .int) 5 cd_A_greatestRestAbove 0 cd_A_greatestRestAbove := ⟨
  ⟨by decide +kernel, by decide +kernel, by decide +kernel⟩,
  ⟨by decide +kernel, by decide +kernel, by decide +kernel, by decide +kernel⟩,
  ⟨by decide +kernel, by decide +kernel, by decide +kernel⟩,
  ⟨by decide +kernel, by decide +kernel, by decide +kernel, by decide +kernel⟩,
  ⟨by decide +kernel, by decide +kernel, by decide +kernel⟩,
  ⟨by decide +kernel, by decide +kernel, by decide +kernel⟩,
  ⟨by decide +kernel, by decide +kernel, _, rfl, by decide, tw_104⟩,
  ⟨by decide +kernel, by decide +kernel, by decide +kernel⟩,
  ⟨by decide +kernel, by decide +kernel, by decide +kernel⟩,
  ⟨by decide +kernel, by decide +kernel, by decide +kernel⟩,
  ⟨by decide +kernel, by decide +kernel, Or.inr (Or.inr ⟨Or.inl rfl, _, rfl, ⟨fun h => (by cases h), fun h => (by cases h)⟩, Or.inr ⟨"RunOrder", List.mem_of_getElem? (i := 2) rfl⟩, tw_276, fun r h => (by cases h; decide +kernel)⟩)⟩,
  ⟨by decide +kernel, by decide +kernel, by decide +kernel⟩,
  ⟨by decide +kernel, by decide +kernel, by decide +kernel⟩,
  ⟨by decide +kernel, by decide +kernel, _, rfl, by decide, tw_129⟩,
  ⟨by decide +kernel, by decide +kernel, by decide +kernel⟩,
  ⟨by decide +kernel, by decide +kernel⟩,
  ⟨by decide +kernel, by decide +kernel, by decide +kernel⟩,
  ⟨by decide +kernel, by decide +kernel, Or.inr (Or.inr ⟨Or.inl rfl, _, rfl, ⟨fun h => (by cases h), fun h => (by cases h)⟩, Or.inr ⟨"RunOrder", List.mem_of_getElem? (i := 2) rfl⟩, tw_276, fun r h => (by cases h; decide +kernel)⟩)⟩,
  ⟨by decide +kernel, by decide +kernel, by decide +kernel⟩,
  ⟨by decide +kernel, by decide +kernel, by decide +kernel⟩,
  ⟨by decide +kernel, by decide +kernel, by decide +kernel⟩,
  ⟨by decide +kernel, by decide +kernel, _, rfl, by decide, tw_132⟩,
  ⟨by decide +kernel, by decide +kernel, by decide +kernel⟩,
  ⟨by decide +kernel, by decide +kernel⟩,
  ⟨by decide +kernel, by decide +kernel, Or.inl ⟨rfl, tw_322, tw_59, tw_37, tw_60⟩⟩,
  ⟨by decide +kernel, by decide +kernel, by decide +kernel, by decide +kernel⟩,
  ⟨by decide +kernel, by decide +kernel, by decide +kernel, by decide +kernel, by decide +kernel⟩,
  ⟨by decide +kernel, by decide +kernel⟩,
  ⟨by decide +kernel, by decide +kernel, by decide +kernel⟩,
  ⟨by decide +kernel, Or.inl ⟨rfl, rfl⟩⟩,
  trivial⟩
set_option maxRecDepth 100000 in
set_option maxHeartbeats 4000000 in
theorem ok_U_init : ax_okl ax_Ms ax_Xs ax_NMs ax_cl ax_TT ax_NLs nm_U_init prog_4_method_1_code (none) 1 cd_U_init 0 cd_U_init := ⟨
  ⟨by decide +kernel, by decide +kernel, by decide +kernel⟩,
  ⟨by decide +kernel, by decide +kernel, Or.inl ⟨rfl, tw_169, tw_48, tw_49⟩⟩,
  ⟨by decide +kernel, by decide +kernel, by decide +kernel⟩,
  ⟨by decide +kernel, by decide +kernel, by decide +kernel⟩,
  ⟨by decide +kernel, by decide +kernel, Or.inr ⟨rfl, rfl⟩, tw_163⟩,
  ⟨by decide +kernel, by decide +kernel, _, rfl, by decide, tw_170, ⟨.array .boolean, by decide +kernel, Or.inr (Or.inr ⟨rfl, Or.inr ⟨_, rfl⟩⟩)⟩, Or.inr ⟨rfl, rfl, rfl⟩⟩,
  ⟨by decide +kernel, by decide +kernel, by decide +kernel⟩,
  ⟨by decide +kernel, by decide +kernel, by decide +kernel⟩,
  ⟨by decide +kernel, by decide +kernel, Or.inl ⟨rfl, rfl⟩, tw_162⟩,
  ⟨by decide +kernel, by decide +kernel, _, rfl, by decide, tw_173, ⟨.array .int, by decide +kernel, Or.inr (Or.inr ⟨rfl, Or.inr ⟨_, rfl⟩⟩)⟩, Or.inr ⟨rfl, rfl, rfl⟩⟩,
  ⟨by decide +kernel, rfl⟩,
  trivial⟩
set_option maxRecDepth 100000 in
set_option maxHeartbeats 4000000 in
theorem ok_N_init : ax_okl ax_Ms ax_Xs ax_NMs ax_cl ax_TT ax_NLs nm_N_init prog_5_method_1_code (none) 4 cd_N_init 0 cd_N_init := ⟨
  ⟨by decide +kernel, by decide +kernel, by decide +kernel⟩,
  ⟨by decide +kernel, by decide +kernel, Or.inl ⟨rfl, tw_186, tw_48, tw_49⟩⟩,
  ⟨by decide +kernel, by decide +kernel, by decide +kernel⟩,
  ⟨by decide +kernel, by decide +kernel, by decide +kernel⟩,
  ⟨by decide +kernel, by decide +kernel, Or.inl ⟨rfl, rfl⟩, tw_162⟩,
  ⟨by decide +kernel, by decide +kernel, _, rfl, by decide, tw_191, ⟨.array .int, by decide +kernel, Or.inr (Or.inr ⟨rfl, Or.inr ⟨_, rfl⟩⟩)⟩, Or.inr ⟨rfl, rfl, rfl⟩⟩,
  ⟨by decide +kernel, by decide +kernel, by decide +kernel⟩,
  ⟨by decide +kernel, by decide +kernel, by decide +kernel⟩,
  ⟨by decide +kernel, by decide +kernel, Or.inl ⟨rfl, rfl⟩, tw_162⟩,
  ⟨by decide +kernel, by decide +kernel, _, rfl, by decide, tw_192, ⟨.array .int, by decide +kernel, Or.inr (Or.inr ⟨rfl, Or.inr ⟨_, rfl⟩⟩)⟩, Or.inr ⟨rfl, rfl, rfl⟩⟩,
  ⟨by decide +kernel, by decide +kernel, by decide +kernel⟩,
  ⟨by decide +kernel, by decide +kernel, by decide +kernel⟩,
  ⟨by decide +kernel, by decide +kernel, Or.inl ⟨rfl, rfl⟩, tw_162⟩,
  ⟨by decide +kernel, by decide +kernel, _, rfl, by decide, tw_193, ⟨.array .int, by decide +kernel, Or.inr (Or.inr ⟨rfl, Or.inr ⟨_, rfl⟩⟩)⟩, Or.inr ⟨rfl, rfl, rfl⟩⟩,
  ⟨by decide +kernel, by decide +kernel, by decide +kernel⟩,
  ⟨by decide +kernel, by decide +kernel, by decide +kernel⟩,
  ⟨by decide +kernel, by decide +kernel, Or.inl ⟨rfl, rfl⟩, tw_162⟩,
  ⟨by decide +kernel, by decide +kernel, _, rfl, by decide, tw_194, ⟨.array .int, by decide +kernel, Or.inr (Or.inr ⟨rfl, Or.inr ⟨_, rfl⟩⟩)⟩, Or.inr ⟨rfl, rfl, rfl⟩⟩,
  ⟨by decide +kernel, by decide +kernel, by decide +kernel⟩,
  ⟨by decide +kernel, by decide +kernel, by decide +kernel⟩,
  ⟨by decide +kernel, by decide +kernel, Or.inl ⟨rfl, rfl⟩, tw_162⟩,
  ⟨by decide +kernel, by decide +kernel, _, rfl, by decide, tw_195, ⟨.array .int, by decide +kernel, Or.inr (Or.inr ⟨rfl, Or.inr ⟨_, rfl⟩⟩)⟩, Or.inr ⟨rfl, rfl, rfl⟩⟩,
  ⟨by decide +kernel, by decide +kernel, by decide +kernel⟩,
  ⟨by decide +kernel, by decide +kernel, by decide +kernel⟩,
  ⟨by decide +kernel, by decide +kernel, Or.inl ⟨rfl, rfl⟩, tw_162⟩,
  ⟨by decide +kernel, by decide +kernel, _, rfl, by decide, tw_196, ⟨.array .int, by decide +kernel, Or.inr (Or.inr ⟨rfl, Or.inr ⟨_, rfl⟩⟩)⟩, Or.inr ⟨rfl, rfl, rfl⟩⟩,
  ⟨by decide +kernel, by decide +kernel, by decide +kernel⟩,
  ⟨by decide +kernel, by decide +kernel, by decide +kernel⟩,
  ⟨by decide +kernel, by decide +kernel, Or.inl ⟨rfl, rfl⟩, tw_162⟩,
  ⟨by decide +kernel, by decide +kernel, _, rfl, by decide, tw_197, ⟨.array .int, by decide +kernel, Or.inr (Or.inr ⟨rfl, Or.inr ⟨_, rfl⟩⟩)⟩, Or.inr ⟨rfl, rfl, rfl⟩⟩,
  ⟨by decide +kernel, by decide +kernel, by decide +kernel⟩,
  ⟨by decide +kernel, by decide +kernel, by decide +kernel⟩,
  ⟨by decide +kernel, by decide +kernel, Or.inl ⟨rfl, rfl⟩, tw_162⟩,
  ⟨by decide +kernel, by decide +kernel, _, rfl, by decide, tw_198, ⟨.array .int, by decide +kernel, Or.inr (Or.inr ⟨rfl, Or.inr ⟨_, rfl⟩⟩)⟩, Or.inr ⟨rfl, rfl, rfl⟩⟩,
  ⟨by decide +kernel, by decide +kernel, by decide +kernel⟩,
  ⟨by decide +kernel, by decide +kernel, by decide +kernel⟩,
  ⟨by decide +kernel, by decide +kernel, _, rfl, by decide, tw_187, ⟨.object "RunOrder$House", by decide +kernel, Or.inr (Or.inr ⟨rfl, Or.inl ⟨_, rfl⟩⟩)⟩, Or.inr ⟨rfl, rfl, rfl⟩⟩,
  ⟨by decide +kernel, by decide +kernel, by decide +kernel⟩,
  ⟨by decide +kernel, by decide +kernel, by decide +kernel⟩,
  ⟨by decide +kernel, by decide +kernel, _, rfl, by decide, tw_188, ⟨.object "RunOrder$Actions", by decide +kernel, Or.inr (Or.inr ⟨rfl, Or.inl ⟨_, rfl⟩⟩)⟩, Or.inr ⟨rfl, rfl, rfl⟩⟩,
  ⟨by decide +kernel, by decide +kernel, by decide +kernel⟩,
  ⟨by decide +kernel, by decide +kernel, by decide +kernel⟩,
  ⟨by decide +kernel, by decide +kernel, _, rfl, by decide, tw_189, ⟨.object "RunOrder$Rules", by decide +kernel, Or.inr (Or.inr ⟨rfl, Or.inl ⟨_, rfl⟩⟩)⟩, Or.inr ⟨rfl, rfl, rfl⟩⟩,
  ⟨by decide +kernel, rfl⟩,
  trivial⟩
set_option maxRecDepth 100000 in
set_option maxHeartbeats 4000000 in
theorem ok_N_goThrough : ax_okl ax_Ms ax_Xs ax_NMs ax_cl ax_TT ax_NLs nm_N_goThrough prog_5_method_2_code (some .int) 4 cd_N_goThrough 0 cd_N_goThrough := ⟨
  ⟨by decide +kernel, by decide +kernel, by decide +kernel⟩,
  ⟨by decide +kernel, by decide +kernel, Or.inr rfl, _, 4, _, rfl, rfl, rfl, rfl, ⟨fun _ => rfl, fun _ => rfl⟩, Or.inl tw_302, tw_304, tw_0, fun r h => (by cases h; exact ⟨_, rfl, by decide +kernel⟩)⟩,
  ⟨by decide +kernel, by decide +kernel, by decide +kernel⟩,
  ⟨by decide +kernel, by decide +kernel, by decide +kernel, by decide +kernel⟩,
  ⟨by decide +kernel, by decide +kernel, by decide +kernel⟩,
  ⟨by decide +kernel, by decide +kernel, by decide +kernel, by decide +kernel⟩,
  ⟨by decide +kernel, by decide +kernel, by decide +kernel⟩,
  ⟨by decide +kernel, by decide +kernel, by decide +kernel⟩,
  ⟨by decide +kernel, by decide +kernel, by decide +kernel⟩,
  ⟨by decide +kernel, by decide +kernel, by decide +kernel⟩,
  ⟨by decide +kernel, by decide +kernel, by decide +kernel⟩,
  ⟨by decide +kernel, by decide +kernel, Or.inr rfl, _, 4, _, rfl, rfl, rfl, rfl, ⟨fun _ => rfl, fun _ => rfl⟩, Or.inl tw_332, tw_334, tw_3, fun r h => (by cases h; exact ⟨_, rfl, by decide +kernel⟩)⟩,
  ⟨by decide +kernel, by decide +kernel, by decide +kernel⟩,
  ⟨by decide +kernel, by decide +kernel, Or.inr rfl, _, 4, _, rfl, rfl, rfl, rfl, ⟨fun _ => rfl, fun _ => rfl⟩, Or.inl tw_360, tw_362, tw_8, fun r h => (by cases h; exact ⟨_, rfl, by decide +kernel⟩)⟩,
  ⟨by decide +kernel, by decide +kernel, by decide +kernel⟩,
  ⟨by decide +kernel, by decide +kernel, _, rfl, by decide, tw_189⟩,
  ⟨by decide +kernel, by decide +kernel, _, rfl, by decide, tw_171⟩,
  ⟨by decide +kernel, by decide +kernel, by decide +kernel⟩,
  ⟨by decide +kernel, by decide +kernel⟩,
  ⟨by decide +kernel, by decide +kernel, by decide +kernel⟩,
  ⟨by decide +kernel, by decide +kernel, by decide +kernel⟩,
  ⟨by decide +kernel, by decide +kernel, Or.inl rfl, _, 4, _, rfl, rfl, rfl, rfl, ⟨fun h => (by cases h), fun h => (by cases h)⟩, Or.inl tw_352, tw_354, tw_7, fun r h => (by cases h; exact ⟨_, rfl, by decide +kernel⟩)⟩,
  ⟨by decide +kernel, by decide +kernel, by decide +kernel⟩,
  ⟨by decide +kernel, by decide +kernel, by decide +kernel⟩,
  ⟨by decide +kernel, by decide +kernel, Or.inr rfl, _, 4, _, rfl, rfl, rfl, rfl, ⟨fun _ => rfl, fun _ => rfl⟩, Or.inl tw_369, tw_371, tw_10, fun r h => (by cases h; exact ⟨_, rfl, by decide +kernel⟩)⟩,
  ⟨by decide +kernel, by decide +kernel, by decide +kernel⟩,
  ⟨by decide +kernel, by decide +kernel, by decide +kernel⟩,
  ⟨by decide +kernel, by decide +kernel, Or.inr rfl, _, 4, _, rfl, rfl, rfl, rfl, ⟨fun _ => rfl, fun _ => rfl⟩, Or.inl tw_373, tw_375, tw_11, fun r h => (by cases h; exact ⟨_, rfl, by decide +kernel⟩)⟩,
  ⟨by decide +kernel, by decide +kernel, by decide +kernel⟩,
  ⟨by decide +kernel, by decide +kernel, Or.inl rfl, _, 4, _, rfl, rfl, rfl, rfl, ⟨fun h => (by cases h), fun h => (by cases h)⟩, Or.inl tw_406, tw_408, tw_16, fun r h => (by cases h; exact ⟨_, rfl, by decide +kernel⟩)⟩,
  ⟨by decide +kernel, by decide +kernel, by decide +kernel, by decide +kernel⟩,
  ⟨by decide +kernel, by decide +kernel, by decide +kernel⟩,
  ⟨by decide +kernel, by decide +kernel, by decide +kernel⟩,
  ⟨by decide +kernel, by decide +kernel, by decide +kernel⟩,
  ⟨by decide +kernel, by decide +kernel⟩,
  ⟨by decide +kernel, by decide +kernel, by decide +kernel⟩,
  ⟨by decide +kernel, by decide +kernel, by decide +kernel, by decide +kernel⟩,
  ⟨by decide +kernel, by decide +kernel, by decide +kernel, by decide +kernel, by decide +kernel⟩,
  ⟨by decide +kernel, by decide +kernel⟩,
  ⟨by decide +kernel, by decide +kernel, by decide +kernel⟩,
  ⟨by decide +kernel, by decide +kernel, Or.inr rfl, _, 4, _, rfl, rfl, rfl, rfl, ⟨fun _ => rfl, fun _ => rfl⟩, Or.inl tw_369, tw_371, tw_10, fun r h => (by cases h; exact ⟨_, rfl, by decide +kernel⟩)⟩,
  ⟨by decide +kernel, by decide +kernel, by decide +kernel⟩,
  ⟨by decide +kernel, Or.inl ⟨rfl, rfl⟩⟩,
  trivial⟩
set_option maxRecDepth 100000 in
set_option maxHeartbeats 4000000 in
theorem ok_N_tell : ax_okl ax_Ms ax_Xs ax_NMs ax_cl ax_TT ax_NLs nm_N_tell prog_5_method_3_code (some .int) 3 cd_N_tell 0 cd_N_tell := ⟨
  ⟨by decide +kernel, by decide +kernel, by decide +kernel⟩,
  ⟨by decide +kernel, by decide +kernel, _, rfl, by decide, tw_190⟩,
  ⟨by decide +kernel, by decide +kernel, by decide +kernel⟩,
  ⟨by decide +kernel, by decide +kernel, by decide +kernel⟩,
  ⟨by decide +kernel, Or.inl ⟨rfl, rfl⟩⟩,
  ⟨by decide +kernel, by decide +kernel, by decide +kernel⟩,
  ⟨⟨34, by decide +kernel⟩, by decide +kernel, by decide +kernel, by decide +kernel, fun k t h => by
      match k, t, h with
      | 0, _, h => cases h; exact ⟨_, rfl, by decide +kernel⟩
      | 1, _, h => cases h; exact ⟨_, rfl, by decide +kernel⟩
      | 2, _, h => cases h; exact ⟨_, rfl, by decide +kernel⟩
      | 3, _, h => cases h; exact ⟨_, rfl, by decide +kernel⟩
      | 4, _, h => cases h; exact ⟨_, rfl, by decide +kernel⟩
      | n + 5, _, h => cases h⟩,
  ⟨by decide +kernel, by decide +kernel, by decide +kernel⟩,
  ⟨by decide +kernel, by decide +kernel, _, rfl, by decide, tw_191⟩,
  ⟨by decide +kernel, by decide +kernel, by decide +kernel⟩,
  ⟨by decide +kernel, by decide +kernel⟩,
  ⟨by decide +kernel, Or.inl ⟨rfl, rfl⟩⟩,
  ⟨by decide +kernel, by decide +kernel, by decide +kernel⟩,
  ⟨by decide +kernel, by decide +kernel, _, rfl, by decide, tw_192⟩,
  ⟨by decide +kernel, by decide +kernel, by decide +kernel⟩,
  ⟨by decide +kernel, by decide +kernel⟩,
  ⟨by decide +kernel, Or.inl ⟨rfl, rfl⟩⟩,
  ⟨by decide +kernel, by decide +kernel, by decide +kernel⟩,
  ⟨by decide +kernel, by decide +kernel, _, rfl, by decide, tw_193⟩,
  ⟨by decide +kernel, by decide +kernel, by decide +kernel⟩,
  ⟨by decide +kernel, by decide +kernel⟩,
  ⟨by decide +kernel, Or.inl ⟨rfl, rfl⟩⟩,
  ⟨by decide +kernel, by decide +kernel, by decide +kernel⟩,
  ⟨by decide +kernel, by decide +kernel, _, rfl, by decide, tw_194⟩,
  ⟨by decide +kernel, by decide +kernel, by decide +kernel⟩,
  ⟨by decide +kernel, by decide +kernel⟩,
  ⟨by decide +kernel, Or.inl ⟨rfl, rfl⟩⟩,
  ⟨by decide +kernel, by decide +kernel, by decide +kernel⟩,
  ⟨by decide +kernel, by decide +kernel, _, rfl, by decide, tw_195⟩,
  ⟨by decide +kernel, by decide +kernel, by decide +kernel⟩,
  ⟨by decide +kernel, by decide +kernel⟩,
  ⟨by decide +kernel, Or.inl ⟨rfl, rfl⟩⟩,
  ⟨by decide +kernel, by decide +kernel, by decide +kernel⟩,
  ⟨by decide +kernel, Or.inl ⟨rfl, rfl⟩⟩,
  trivial⟩
set_option maxRecDepth 100000 in
set_option maxHeartbeats 4000000 in
theorem ok_N_firstBad : ax_okl ax_Ms ax_Xs ax_NMs ax_cl ax_TT ax_NLs nm_N_firstBad prog_5_method_4_code (some .int) 2 cd_N_firstBad 0 cd_N_firstBad := ⟨
  ⟨by decide +kernel, by decide +kernel, by decide +kernel⟩,
  ⟨by decide +kernel, by decide +kernel, by decide +kernel, by decide +kernel⟩,
  ⟨by decide +kernel, by decide +kernel, by decide +kernel⟩,
  ⟨by decide +kernel, by decide +kernel, by decide +kernel⟩,
  ⟨by decide +kernel, by decide +kernel, _, rfl, by decide, tw_188⟩,
  ⟨by decide +kernel, by decide +kernel, _, rfl, by decide, tw_105⟩,
  ⟨by decide +kernel, by decide +kernel, by decide +kernel⟩,
  ⟨by decide +kernel, by decide +kernel, by decide +kernel⟩,
  ⟨by decide +kernel, by decide +kernel, _, rfl, by decide, tw_191⟩,
  ⟨by decide +kernel, by decide +kernel, by decide +kernel⟩,
  ⟨by decide +kernel, by decide +kernel⟩,
  ⟨by decide +kernel, by decide +kernel, by decide +kernel⟩,
  ⟨by decide +kernel, by decide +kernel, by decide +kernel⟩,
  ⟨by decide +kernel, by decide +kernel, by decide +kernel⟩,
  ⟨by decide +kernel, by decide +kernel, _, rfl, by decide, tw_191⟩,
  ⟨by decide +kernel, by decide +kernel, by decide +kernel⟩,
  ⟨by decide +kernel, by decide +kernel⟩,
  ⟨by decide +kernel, by decide +kernel, by decide +kernel⟩,
  ⟨by decide +kernel, by decide +kernel, by decide +kernel⟩,
  ⟨by decide +kernel, by decide +kernel, by decide +kernel⟩,
  ⟨by decide +kernel, Or.inl ⟨rfl, rfl⟩⟩,
  ⟨by decide +kernel, by decide +kernel, by decide +kernel, by decide +kernel, by decide +kernel⟩,
  ⟨by decide +kernel, by decide +kernel⟩,
  ⟨by decide +kernel, by decide +kernel, by decide +kernel⟩,
  ⟨by decide +kernel, Or.inl ⟨rfl, rfl⟩⟩,
  trivial⟩
set_option maxRecDepth 100000 in
set_option maxHeartbeats 4000000 in
theorem ok_N_begunAs : ax_okl ax_Ms ax_Xs ax_NMs ax_cl ax_TT ax_NLs nm_N_begunAs prog_5_method_5_code (some .int) 2 cd_N_begunAs 0 cd_N_begunAs := ⟨
  ⟨by decide +kernel, by decide +kernel, by decide +kernel⟩,
  ⟨by decide +kernel, by decide +kernel, by decide +kernel⟩,
  ⟨by decide +kernel, by decide +kernel, by decide +kernel⟩,
  ⟨by decide +kernel, by decide +kernel, by decide +kernel⟩,
  ⟨by decide +kernel, by decide +kernel, by decide +kernel⟩,
  ⟨by decide +kernel, by decide +kernel, _, rfl, by decide, tw_199⟩,
  ⟨by decide +kernel, by decide +kernel, by decide +kernel⟩,
  ⟨by decide +kernel, by decide +kernel, by decide +kernel⟩,
  ⟨by decide +kernel, by decide +kernel, _, rfl, by decide, tw_198⟩,
  ⟨by decide +kernel, by decide +kernel, by decide +kernel⟩,
  ⟨by decide +kernel, by decide +kernel⟩,
  ⟨by decide +kernel, by decide +kernel⟩,
  ⟨by decide +kernel, by decide +kernel, by decide +kernel⟩,
  ⟨by decide +kernel, Or.inl ⟨rfl, rfl⟩⟩,
  trivial⟩
end
section
/-! Each instruction's entry is what the code says, 2. -/
set_option maxRecDepth 100000 in
set_option maxHeartbeats 4000000 in
theorem ok_N_prepare : ax_okl ax_Ms ax_Xs ax_NMs ax_cl ax_TT ax_NLs nm_N_prepare prog_5_method_6_code (none) 3 cd_N_prepare 0 cd_N_prepare := ⟨
  ⟨by decide +kernel, by decide +kernel, by decide +kernel⟩,
  ⟨by decide +kernel, by decide +kernel, by decide +kernel⟩,
  ⟨by decide +kernel, by decide +kernel, _, rfl, by decide, tw_190, ⟨.boolean, by decide +kernel, Or.inr (Or.inl ⟨rfl, rfl⟩)⟩, Or.inl rfl⟩,
  ⟨by decide +kernel, by decide +kernel, by decide +kernel⟩,
  ⟨by decide +kernel, by decide +kernel, by decide +kernel⟩,
  ⟨by decide +kernel, by decide +kernel, _, rfl, by decide, tw_199, ⟨.int, by decide +kernel, Or.inl ⟨rfl, rfl⟩⟩, Or.inl rfl⟩,
  ⟨by decide +kernel, by decide +kernel, by decide +kernel⟩,
  ⟨by decide +kernel, by decide +kernel, _, rfl, by decide, tw_187⟩,
  ⟨by decide +kernel, by decide +kernel, Or.inr rfl, _, 1, _, rfl, rfl, rfl, rfl, ⟨fun _ => rfl, fun _ => rfl⟩, Or.inl tw_306, tw_307, tw_308, fun r h => (by cases h; exact ⟨_, rfl, by decide +kernel⟩)⟩,
  ⟨by decide +kernel, by decide +kernel, by decide +kernel⟩,
  ⟨by decide +kernel, by decide +kernel, _, rfl, by decide, tw_188⟩,
  ⟨by decide +kernel, by decide +kernel, Or.inl rfl, _, 2, _, rfl, rfl, rfl, rfl, ⟨fun h => (by cases h), fun h => (by cases h)⟩, Or.inl tw_310, tw_311, tw_312, fun r h => (by cases h; exact ⟨_, rfl, by decide +kernel⟩)⟩,
  ⟨by decide +kernel, by decide +kernel, by decide +kernel, by decide +kernel⟩,
  ⟨by decide +kernel, by decide +kernel, by decide +kernel⟩,
  ⟨by decide +kernel, by decide +kernel, _, rfl, by decide, tw_188⟩,
  ⟨by decide +kernel, by decide +kernel, by decide +kernel⟩,
  ⟨by decide +kernel, by decide +kernel, Or.inr rfl, _, 2, _, rfl, rfl, rfl, rfl, ⟨fun _ => rfl, fun _ => rfl⟩, Or.inl tw_314, tw_315, tw_316, fun r h => (by cases h; exact ⟨_, rfl, by decide +kernel⟩)⟩,
  ⟨by decide +kernel, by decide +kernel, by decide +kernel⟩,
  ⟨by decide +kernel, by decide +kernel, by decide +kernel, by decide +kernel⟩,
  ⟨by decide +kernel, by decide +kernel, by decide +kernel⟩,
  ⟨by decide +kernel, by decide +kernel, by decide +kernel⟩,
  ⟨by decide +kernel, by decide +kernel, by decide +kernel⟩,
  ⟨by decide +kernel, by decide +kernel, by decide +kernel⟩,
  ⟨by decide +kernel, by decide +kernel, _, rfl, by decide, tw_191⟩,
  ⟨by decide +kernel, by decide +kernel, by decide +kernel⟩,
  ⟨by decide +kernel, by decide +kernel, by decide +kernel⟩,
  ⟨by decide +kernel, by decide +kernel, by decide +kernel⟩,
  ⟨by decide +kernel, by decide +kernel, Or.inr (Or.inr ⟨Or.inl rfl, _, rfl, ⟨fun h => (by cases h), fun h => (by cases h)⟩, Or.inr ⟨"RunOrder", List.mem_of_getElem? (i := 4) rfl⟩, tw_276, fun r h => (by cases h; decide +kernel)⟩)⟩,
  ⟨by decide +kernel, by decide +kernel, by decide +kernel⟩,
  ⟨by decide +kernel, by decide +kernel, by decide +kernel⟩,
  ⟨by decide +kernel, by decide +kernel, by decide +kernel⟩,
  ⟨by decide +kernel, by decide +kernel, Or.inl rfl, _, 4, _, rfl, rfl, rfl, rfl, ⟨fun h => (by cases h), fun h => (by cases h)⟩, Or.inl tw_324, tw_326, tw_2, fun r h => (by cases h; exact ⟨_, rfl, by decide +kernel⟩)⟩,
  ⟨by decide +kernel, by decide +kernel⟩,
  ⟨by decide +kernel, by decide +kernel, by decide +kernel⟩,
  ⟨by decide +kernel, by decide +kernel⟩,
  ⟨by decide +kernel, by decide +kernel, by decide +kernel⟩,
  ⟨by decide +kernel, by decide +kernel, _, rfl, by decide, tw_192⟩,
  ⟨by decide +kernel, by decide +kernel, by decide +kernel⟩,
  ⟨by decide +kernel, by decide +kernel, by decide +kernel⟩,
  ⟨by decide +kernel, by decide +kernel⟩,
  ⟨by decide +kernel, by decide +kernel, by decide +kernel⟩,
  ⟨by decide +kernel, by decide +kernel, _, rfl, by decide, tw_193⟩,
  ⟨by decide +kernel, by decide +kernel, by decide +kernel⟩,
  ⟨by decide +kernel, by decide +kernel, by decide +kernel⟩,
  ⟨by decide +kernel, by decide +kernel⟩,
  ⟨by decide +kernel, by decide +kernel, by decide +kernel⟩,
  ⟨by decide +kernel, by decide +kernel, _, rfl, by decide, tw_194⟩,
  ⟨by decide +kernel, by decide +kernel, by decide +kernel⟩,
  ⟨by decide +kernel, by decide +kernel, by decide +kernel⟩,
  ⟨by decide +kernel, by decide +kernel⟩,
  ⟨by decide +kernel, by decide +kernel, by decide +kernel⟩,
  ⟨by decide +kernel, by decide +kernel, _, rfl, by decide, tw_195⟩,
  ⟨by decide +kernel, by decide +kernel, by decide +kernel⟩,
  ⟨by decide +kernel, by decide +kernel, by decide +kernel⟩,
  ⟨by decide +kernel, by decide +kernel⟩,
  ⟨by decide +kernel, by decide +kernel, by decide +kernel⟩,
  ⟨by decide +kernel, by decide +kernel, _, rfl, by decide, tw_196⟩,
  ⟨by decide +kernel, by decide +kernel, by decide +kernel⟩,
  ⟨by decide +kernel, by decide +kernel, by decide +kernel⟩,
  ⟨by decide +kernel, by decide +kernel⟩,
  ⟨by decide +kernel, by decide +kernel, by decide +kernel⟩,
  ⟨by decide +kernel, by decide +kernel, _, rfl, by decide, tw_197⟩,
  ⟨by decide +kernel, by decide +kernel, by decide +kernel⟩,
  ⟨by decide +kernel, by decide +kernel, by decide +kernel⟩,
  ⟨by decide +kernel, by decide +kernel⟩,
  ⟨by decide +kernel, by decide +kernel, by decide +kernel, by decide +kernel, by decide +kernel⟩,
  ⟨by decide +kernel, by decide +kernel⟩,
  ⟨by decide +kernel, rfl⟩,
  trivial⟩
set_option maxRecDepth 100000 in
set_option maxHeartbeats 4000000 in
theorem ok_N_stateAtFirst : ax_okl ax_Ms ax_Xs ax_NMs ax_cl ax_TT ax_NLs nm_N_stateAtFirst prog_5_method_7_code (some .int) 2 cd_N_stateAtFirst 0 cd_N_stateAtFirst := ⟨
  ⟨by decide +kernel, by decide +kernel, by decide +kernel⟩,
  ⟨by decide +kernel, by decide +kernel, _, rfl, by decide, tw_187⟩,
  ⟨by decide +kernel, by decide +kernel, by decide +kernel⟩,
  ⟨by decide +kernel, by decide +kernel, _, rfl, by decide, tw_188⟩,
  ⟨by decide +kernel, by decide +kernel, _, rfl, by decide, tw_109⟩,
  ⟨by decide +kernel, by decide +kernel, by decide +kernel⟩,
  ⟨by decide +kernel, by decide +kernel⟩,
  ⟨by decide +kernel, by decide +kernel, by decide +kernel⟩,
  ⟨by decide +kernel, by decide +kernel, _, rfl, by decide, tw_188⟩,
  ⟨by decide +kernel, by decide +kernel, _, rfl, by decide, tw_111⟩,
  ⟨by decide +kernel, by decide +kernel, by decide +kernel⟩,
  ⟨by decide +kernel, by decide +kernel⟩,
  ⟨by decide +kernel, by decide +kernel, Or.inl rfl, _, 1, _, rfl, rfl, rfl, rfl, ⟨fun h => (by cases h), fun h => (by cases h)⟩, Or.inl tw_328, tw_329, tw_330, fun r h => (by cases h; exact ⟨_, rfl, by decide +kernel⟩)⟩,
  ⟨by decide +kernel, by decide +kernel, by decide +kernel⟩,
  ⟨by decide +kernel, by decide +kernel, by decide +kernel⟩,
  ⟨by decide +kernel, by decide +kernel⟩,
  ⟨by decide +kernel, by decide +kernel, by decide +kernel⟩,
  ⟨by decide +kernel, Or.inl ⟨rfl, rfl⟩⟩,
  trivial⟩
set_option maxRecDepth 100000 in
set_option maxHeartbeats 4000000 in
theorem ok_N_endTries : ax_okl ax_Ms ax_Xs ax_NMs ax_cl ax_TT ax_NLs nm_N_endTries prog_5_method_8_code (none) 3 cd_N_endTries 0 cd_N_endTries := ⟨
  ⟨by decide +kernel, by decide +kernel, by decide +kernel⟩,
  ⟨by decide +kernel, by decide +kernel, by decide +kernel, by decide +kernel⟩,
  ⟨by decide +kernel, by decide +kernel, by decide +kernel⟩,
  ⟨by decide +kernel, by decide +kernel, by decide +kernel⟩,
  ⟨by decide +kernel, by decide +kernel, _, rfl, by decide, tw_188⟩,
  ⟨by decide +kernel, by decide +kernel, _, rfl, by decide, tw_105⟩,
  ⟨by decide +kernel, by decide +kernel, by decide +kernel⟩,
  ⟨by decide +kernel, by decide +kernel, by decide +kernel⟩,
  ⟨by decide +kernel, by decide +kernel, _, rfl, by decide, tw_196⟩,
  ⟨by decide +kernel, by decide +kernel, by decide +kernel⟩,
  ⟨by decide +kernel, by decide +kernel⟩,
  ⟨by decide +kernel, by decide +kernel, by decide +kernel⟩,
  ⟨by decide +kernel, by decide +kernel, by decide +kernel⟩,
  ⟨by decide +kernel, by decide +kernel, by decide +kernel⟩,
  ⟨by decide +kernel, by decide +kernel, by decide +kernel⟩,
  ⟨by decide +kernel, by decide +kernel, by decide +kernel⟩,
  ⟨by decide +kernel, by decide +kernel, by decide +kernel⟩,
  ⟨by decide +kernel, by decide +kernel, Or.inr rfl, _, 4, _, rfl, rfl, rfl, rfl, ⟨fun _ => rfl, fun _ => rfl⟩, Or.inl tw_336, tw_338, tw_4, fun r h => (by cases h; exact ⟨_, rfl, by decide +kernel⟩)⟩,
  ⟨by decide +kernel, by decide +kernel⟩,
  ⟨by decide +kernel, by decide +kernel, by decide +kernel⟩,
  ⟨by decide +kernel, by decide +kernel, _, rfl, by decide, tw_197⟩,
  ⟨by decide +kernel, by decide +kernel, by decide +kernel⟩,
  ⟨by decide +kernel, by decide +kernel⟩,
  ⟨by decide +kernel, by decide +kernel, by decide +kernel⟩,
  ⟨by decide +kernel, by decide +kernel, by decide +kernel⟩,
  ⟨by decide +kernel, by decide +kernel, by decide +kernel⟩,
  ⟨by decide +kernel, by decide +kernel, by decide +kernel⟩,
  ⟨by decide +kernel, by decide +kernel, by decide +kernel⟩,
  ⟨by decide +kernel, by decide +kernel, by decide +kernel⟩,
  ⟨by decide +kernel, by decide +kernel, Or.inr rfl, _, 4, _, rfl, rfl, rfl, rfl, ⟨fun _ => rfl, fun _ => rfl⟩, Or.inl tw_336, tw_338, tw_4, fun r h => (by cases h; exact ⟨_, rfl, by decide +kernel⟩)⟩,
  ⟨by decide +kernel, by decide +kernel, by decide +kernel, by decide +kernel, by decide +kernel⟩,
  ⟨by decide +kernel, by decide +kernel⟩,
  ⟨by decide +kernel, rfl⟩,
  trivial⟩
set_option maxRecDepth 100000 in
set_option maxHeartbeats 4000000 in
theorem ok_N_endTry : ax_okl ax_Ms ax_Xs ax_NMs ax_cl ax_TT ax_NLs nm_N_endTry prog_5_method_9_code (none) 4 cd_N_endTry 0 cd_N_endTry := ⟨
  ⟨by decide +kernel, by decide +kernel, by decide +kernel⟩,
  ⟨by decide +kernel, by decide +kernel, by decide +kernel⟩,
  ⟨by decide +kernel, by decide +kernel, Or.inr rfl, _, 4, _, rfl, rfl, rfl, rfl, ⟨fun _ => rfl, fun _ => rfl⟩, Or.inl tw_340, tw_342, tw_5, fun r h => (by cases h; exact ⟨_, rfl, by decide +kernel⟩)⟩,
  ⟨by decide +kernel, by decide +kernel, by decide +kernel⟩,
  ⟨by decide +kernel, by decide +kernel, _, rfl, by decide, tw_193⟩,
  ⟨by decide +kernel, by decide +kernel, by decide +kernel⟩,
  ⟨by decide +kernel, by decide +kernel, by decide +kernel⟩,
  ⟨by decide +kernel, by decide +kernel⟩,
  ⟨by decide +kernel, by decide +kernel, by decide +kernel⟩,
  ⟨by decide +kernel, by decide +kernel, _, rfl, by decide, tw_194⟩,
  ⟨by decide +kernel, by decide +kernel, by decide +kernel⟩,
  ⟨by decide +kernel, by decide +kernel⟩,
  ⟨by decide +kernel, by decide +kernel, by decide +kernel⟩,
  ⟨by decide +kernel, by decide +kernel, _, rfl, by decide, tw_188⟩,
  ⟨by decide +kernel, by decide +kernel, _, rfl, by decide, tw_120⟩,
  ⟨by decide +kernel, by decide +kernel, by decide +kernel⟩,
  ⟨by decide +kernel, by decide +kernel⟩,
  ⟨by decide +kernel, by decide +kernel, by decide +kernel⟩,
  ⟨by decide +kernel, by decide +kernel, by decide +kernel⟩,
  ⟨by decide +kernel, by decide +kernel, _, rfl, by decide, tw_191⟩,
  ⟨by decide +kernel, by decide +kernel, by decide +kernel⟩,
  ⟨by decide +kernel, by decide +kernel, by decide +kernel⟩,
  ⟨by decide +kernel, by decide +kernel⟩,
  ⟨by decide +kernel, by decide +kernel, by decide +kernel⟩,
  ⟨by decide +kernel, by decide +kernel, _, rfl, by decide, tw_195⟩,
  ⟨by decide +kernel, by decide +kernel, by decide +kernel⟩,
  ⟨by decide +kernel, by decide +kernel, by decide +kernel⟩,
  ⟨by decide +kernel, by decide +kernel⟩,
  ⟨by decide +kernel, by decide +kernel⟩,
  ⟨by decide +kernel, by decide +kernel, by decide +kernel⟩,
  ⟨by decide +kernel, by decide +kernel, _, rfl, by decide, tw_191⟩,
  ⟨by decide +kernel, by decide +kernel, by decide +kernel⟩,
  ⟨by decide +kernel, by decide +kernel, by decide +kernel⟩,
  ⟨by decide +kernel, by decide +kernel, by decide +kernel⟩,
  ⟨by decide +kernel, by decide +kernel, Or.inl rfl, _, 4, _, rfl, rfl, rfl, rfl, ⟨fun h => (by cases h), fun h => (by cases h)⟩, Or.inl tw_348, tw_350, tw_6, fun r h => (by cases h; exact ⟨_, rfl, by decide +kernel⟩)⟩,
  ⟨by decide +kernel, by decide +kernel, by decide +kernel⟩,
  ⟨by decide +kernel, by decide +kernel, by decide +kernel⟩,
  ⟨by decide +kernel, by decide +kernel⟩,
  ⟨by decide +kernel, by decide +kernel, by decide +kernel⟩,
  ⟨by decide +kernel, by decide +kernel⟩,
  ⟨by decide +kernel, rfl⟩,
  trivial⟩
set_option maxRecDepth 100000 in
set_option maxHeartbeats 4000000 in
theorem ok_N_leaveBothSides : ax_okl ax_Ms ax_Xs ax_NMs ax_cl ax_TT ax_NLs nm_N_leaveBothSides prog_5_method_10_code (none) 2 cd_N_leaveBothSides 0 cd_N_leaveBothSides := ⟨
  ⟨by decide +kernel, by decide +kernel, by decide +kernel⟩,
  ⟨by decide +kernel, by decide +kernel, _, rfl, by decide, tw_187⟩,
  ⟨by decide +kernel, by decide +kernel, by decide +kernel⟩,
  ⟨by decide +kernel, by decide +kernel, _, rfl, by decide, tw_188⟩,
  ⟨by decide +kernel, by decide +kernel, _, rfl, by decide, tw_109⟩,
  ⟨by decide +kernel, by decide +kernel, by decide +kernel⟩,
  ⟨by decide +kernel, by decide +kernel⟩,
  ⟨by decide +kernel, by decide +kernel, by decide +kernel⟩,
  ⟨by decide +kernel, by decide +kernel, _, rfl, by decide, tw_188⟩,
  ⟨by decide +kernel, by decide +kernel, _, rfl, by decide, tw_111⟩,
  ⟨by decide +kernel, by decide +kernel, by decide +kernel⟩,
  ⟨by decide +kernel, by decide +kernel⟩,
  ⟨by decide +kernel, by decide +kernel, by decide +kernel⟩,
  ⟨by decide +kernel, by decide +kernel, _, rfl, by decide, tw_188⟩,
  ⟨by decide +kernel, by decide +kernel, _, rfl, by decide, tw_114⟩,
  ⟨by decide +kernel, by decide +kernel, by decide +kernel⟩,
  ⟨by decide +kernel, by decide +kernel⟩,
  ⟨by decide +kernel, by decide +kernel, Or.inr rfl, _, 1, _, rfl, rfl, rfl, rfl, ⟨fun _ => rfl, fun _ => rfl⟩, Or.inl tw_344, tw_345, tw_346, fun r h => (by cases h; exact ⟨_, rfl, by decide +kernel⟩)⟩,
  ⟨by decide +kernel, by decide +kernel, by decide +kernel⟩,
  ⟨by decide +kernel, by decide +kernel, _, rfl, by decide, tw_196⟩,
  ⟨by decide +kernel, by decide +kernel, by decide +kernel⟩,
  ⟨by decide +kernel, by decide +kernel, by decide +kernel⟩,
  ⟨by decide +kernel, by decide +kernel⟩,
  ⟨by decide +kernel, by decide +kernel, by decide +kernel⟩,
  ⟨by decide +kernel, by decide +kernel, _, rfl, by decide, tw_197⟩,
  ⟨by decide +kernel, by decide +kernel, by decide +kernel⟩,
  ⟨by decide +kernel, by decide +kernel⟩,
  ⟨by decide +kernel, by decide +kernel, by decide +kernel⟩,
  ⟨by decide +kernel, by decide +kernel, by decide +kernel⟩,
  ⟨by decide +kernel, by decide +kernel, by decide +kernel⟩,
  ⟨by decide +kernel, by decide +kernel, _, rfl, by decide, tw_187⟩,
  ⟨by decide +kernel, by decide +kernel⟩,
  ⟨by decide +kernel, by decide +kernel, _, rfl, by decide, tw_74⟩,
  ⟨by decide +kernel, by decide +kernel, by decide +kernel⟩,
  ⟨by decide +kernel, by decide +kernel⟩,
  ⟨by decide +kernel, by decide +kernel, _, rfl, by decide, tw_74, ⟨.int, by decide +kernel, Or.inl ⟨rfl, rfl⟩⟩, Or.inl rfl⟩,
  ⟨by decide +kernel, by decide +kernel, by decide +kernel⟩,
  ⟨by decide +kernel, by decide +kernel, _, rfl, by decide, tw_197⟩,
  ⟨by decide +kernel, by decide +kernel, by decide +kernel⟩,
  ⟨by decide +kernel, by decide +kernel, by decide +kernel⟩,
  ⟨by decide +kernel, by decide +kernel⟩,
  ⟨by decide +kernel, rfl⟩,
  trivial⟩
set_option maxRecDepth 100000 in
set_option maxHeartbeats 4000000 in
theorem ok_N_mayTryAgain : ax_okl ax_Ms ax_Xs ax_NMs ax_cl ax_TT ax_NLs nm_N_mayTryAgain prog_5_method_11_code (some .boolean) 3 cd_N_mayTryAgain 0 cd_N_mayTryAgain := ⟨
  ⟨by decide +kernel, by decide +kernel, by decide +kernel⟩,
  ⟨by decide +kernel, by decide +kernel, _, rfl, by decide, tw_194⟩,
  ⟨by decide +kernel, by decide +kernel, by decide +kernel⟩,
  ⟨by decide +kernel, by decide +kernel⟩,
  ⟨by decide +kernel, by decide +kernel, by decide +kernel⟩,
  ⟨by decide +kernel, by decide +kernel, _, rfl, by decide, tw_189⟩,
  ⟨by decide +kernel, by decide +kernel, _, rfl, by decide, tw_175⟩,
  ⟨by decide +kernel, by decide +kernel, by decide +kernel⟩,
  ⟨by decide +kernel, by decide +kernel, _, rfl, by decide, tw_188⟩,
  ⟨by decide +kernel, by decide +kernel, _, rfl, by decide, tw_123⟩,
  ⟨by decide +kernel, by decide +kernel, by decide +kernel⟩,
  ⟨by decide +kernel, by decide +kernel⟩,
  ⟨by decide +kernel, by decide +kernel⟩,
  ⟨by decide +kernel, by decide +kernel, by decide +kernel⟩,
  ⟨by decide +kernel, by decide +kernel, by decide +kernel⟩,
  ⟨by decide +kernel, by decide +kernel⟩,
  ⟨by decide +kernel, by decide +kernel, by decide +kernel⟩,
  ⟨by decide +kernel, by decide +kernel, by decide +kernel, by decide +kernel⟩,
  ⟨by decide +kernel, by decide +kernel, by decide +kernel⟩,
  ⟨by decide +kernel, by decide +kernel, by decide +kernel⟩,
  ⟨by decide +kernel, by decide +kernel, by decide +kernel⟩,
  ⟨by decide +kernel, by decide +kernel, _, rfl, by decide, tw_189⟩,
  ⟨by decide +kernel, by decide +kernel, _, rfl, by decide, tw_171⟩,
  ⟨by decide +kernel, by decide +kernel, by decide +kernel⟩,
  ⟨by decide +kernel, by decide +kernel⟩,
  ⟨by decide +kernel, by decide +kernel, by decide +kernel⟩,
  ⟨by decide +kernel, by decide +kernel, by decide +kernel⟩,
  ⟨by decide +kernel, by decide +kernel, Or.inl rfl, _, 4, _, rfl, rfl, rfl, rfl, ⟨fun h => (by cases h), fun h => (by cases h)⟩, Or.inl tw_352, tw_354, tw_7, fun r h => (by cases h; exact ⟨_, rfl, by decide +kernel⟩)⟩,
  ⟨by decide +kernel, by decide +kernel, by decide +kernel⟩,
  ⟨by decide +kernel, by decide +kernel, by decide +kernel⟩,
  ⟨by decide +kernel, by decide +kernel⟩,
  ⟨by decide +kernel, by decide +kernel, by decide +kernel⟩,
  ⟨by decide +kernel, Or.inr ⟨rfl, rfl⟩⟩,
  trivial⟩
set_option maxRecDepth 100000 in
set_option maxHeartbeats 4000000 in
theorem ok_N_isOneBad : ax_okl ax_Ms ax_Xs ax_NMs ax_cl ax_TT ax_NLs nm_N_isOneBad prog_5_method_12_code (some .boolean) 1 cd_N_isOneBad 0 cd_N_isOneBad := ⟨
  ⟨by decide +kernel, by decide +kernel, by decide +kernel⟩,
  ⟨by decide +kernel, by decide +kernel, Or.inl rfl, _, 4, _, rfl, rfl, rfl, rfl, ⟨fun h => (by cases h), fun h => (by cases h)⟩, Or.inl tw_356, tw_357, tw_358, fun r h => (by cases h; exact ⟨_, rfl, by decide +kernel⟩)⟩,
  ⟨by decide +kernel, by decide +kernel, by decide +kernel⟩,
  ⟨by decide +kernel, by decide +kernel, by decide +kernel⟩,
  ⟨by decide +kernel, by decide +kernel, by decide +kernel⟩,
  ⟨by decide +kernel, by decide +kernel⟩,
  ⟨by decide +kernel, by decide +kernel, by decide +kernel⟩,
  ⟨by decide +kernel, Or.inr ⟨rfl, rfl⟩⟩,
  trivial⟩
set_option maxRecDepth 100000 in
set_option maxHeartbeats 4000000 in
theorem ok_N_skipHindered : ax_okl ax_Ms ax_Xs ax_NMs ax_cl ax_TT ax_NLs nm_N_skipHindered prog_5_method_13_code (none) 5 cd_N_skipHindered 0 cd_N_skipHindered := ⟨
  ⟨by decide +kernel, by decide +kernel, by decide +kernel⟩,
  ⟨by decide +kernel, by decide +kernel, by decide +kernel, by decide +kernel⟩,
  ⟨by decide +kernel, by decide +kernel, by decide +kernel⟩,
  ⟨by decide +kernel, by decide +kernel, by decide +kernel, by decide +kernel⟩,
  ⟨by decide +kernel, by decide +kernel, by decide +kernel⟩,
  ⟨by decide +kernel, by decide +kernel, by decide +kernel⟩,
  ⟨by decide +kernel, by decide +kernel, by decide +kernel⟩,
  ⟨by decide +kernel, by decide +kernel, by decide +kernel⟩,
  ⟨by decide +kernel, by decide +kernel, _, rfl, by decide, tw_188⟩,
  ⟨by decide +kernel, by decide +kernel, _, rfl, by decide, tw_105⟩,
  ⟨by decide +kernel, by decide +kernel, by decide +kernel⟩,
  ⟨by decide +kernel, by decide +kernel, by decide +kernel⟩,
  ⟨by decide +kernel, by decide +kernel, by decide +kernel⟩,
  ⟨by decide +kernel, by decide +kernel, Or.inl rfl, _, 4, _, rfl, rfl, rfl, rfl, ⟨fun h => (by cases h), fun h => (by cases h)⟩, Or.inl tw_364, tw_366, tw_9, fun r h => (by cases h; exact ⟨_, rfl, by decide +kernel⟩)⟩,
  ⟨by decide +kernel, by decide +kernel, by decide +kernel⟩,
  ⟨by decide +kernel, by decide +kernel, by decide +kernel⟩,
  ⟨by decide +kernel, by decide +kernel, Or.inl rfl, _, 4, _, rfl, rfl, rfl, rfl, ⟨fun h => (by cases h), fun h => (by cases h)⟩, Or.inl tw_364, tw_366, tw_9, fun r h => (by cases h; exact ⟨_, rfl, by decide +kernel⟩)⟩,
  ⟨by decide +kernel, by decide +kernel⟩,
  ⟨by decide +kernel, by decide +kernel, by decide +kernel⟩,
  ⟨by decide +kernel, by decide +kernel, by decide +kernel⟩,
  ⟨by decide +kernel, by decide +kernel, Or.inl rfl, _, 4, _, rfl, rfl, rfl, rfl, ⟨fun h => (by cases h), fun h => (by cases h)⟩, Or.inl tw_364, tw_366, tw_9, fun r h => (by cases h; exact ⟨_, rfl, by decide +kernel⟩)⟩,
  ⟨by decide +kernel, by decide +kernel⟩,
  ⟨by decide +kernel, by decide +kernel, by decide +kernel, by decide +kernel⟩,
  ⟨by decide +kernel, by decide +kernel, by decide +kernel⟩,
  ⟨by decide +kernel, by decide +kernel, by decide +kernel, by decide +kernel⟩,
  ⟨by decide +kernel, by decide +kernel, by decide +kernel⟩,
  ⟨by decide +kernel, by decide +kernel, by decide +kernel, by decide +kernel⟩,
  ⟨by decide +kernel, by decide +kernel, by decide +kernel⟩,
  ⟨by decide +kernel, by decide +kernel, by decide +kernel⟩,
  ⟨by decide +kernel, by decide +kernel, _, rfl, by decide, tw_188⟩,
  ⟨by decide +kernel, by decide +kernel, _, rfl, by decide, tw_105⟩,
  ⟨by decide +kernel, by decide +kernel, by decide +kernel⟩,
  ⟨by decide +kernel, by decide +kernel, by decide +kernel⟩,
  ⟨by decide +kernel, by decide +kernel, _, rfl, by decide, tw_191⟩,
  ⟨by decide +kernel, by decide +kernel, by decide +kernel⟩,
  ⟨by decide +kernel, by decide +kernel⟩,
  ⟨by decide +kernel, by decide +kernel, by decide +kernel⟩,
  ⟨by decide +kernel, by decide +kernel, by decide +kernel⟩,
  ⟨by decide +kernel, by decide +kernel, by decide +kernel⟩,
  ⟨by decide +kernel, by decide +kernel, _, rfl, by decide, tw_188⟩,
  ⟨by decide +kernel, by decide +kernel, _, rfl, by decide, tw_130⟩,
  ⟨by decide +kernel, by decide +kernel, by decide +kernel⟩,
  ⟨by decide +kernel, by decide +kernel⟩,
  ⟨by decide +kernel, by decide +kernel, by decide +kernel⟩,
  ⟨by decide +kernel, by decide +kernel⟩,
  ⟨by decide +kernel, by decide +kernel, by decide +kernel⟩,
  ⟨by decide +kernel, by decide +kernel, by decide +kernel⟩,
  ⟨by decide +kernel, by decide +kernel, _, rfl, by decide, tw_191⟩,
  ⟨by decide +kernel, by decide +kernel, by decide +kernel⟩,
  ⟨by decide +kernel, by decide +kernel, by decide +kernel⟩,
  ⟨by decide +kernel, by decide +kernel⟩,
  ⟨by decide +kernel, by decide +kernel, by decide +kernel⟩,
  ⟨by decide +kernel, by decide +kernel, by decide +kernel, by decide +kernel⟩,
  ⟨by decide +kernel, by decide +kernel, by decide +kernel, by decide +kernel, by decide +kernel⟩,
  ⟨by decide +kernel, by decide +kernel⟩,
  ⟨by decide +kernel, by decide +kernel, by decide +kernel, by decide +kernel, by decide +kernel⟩,
  ⟨by decide +kernel, by decide +kernel⟩,
  ⟨by decide +kernel, rfl⟩,
  trivial⟩
set_option maxRecDepth 100000 in
set_option maxHeartbeats 4000000 in
theorem ok_N_allIn : ax_okl ax_Ms ax_Xs ax_NMs ax_cl ax_TT ax_NLs nm_N_allIn prog_5_method_14_code (some .int) 4 cd_N_allIn 0 cd_N_allIn := ⟨
  ⟨by decide +kernel, by decide +kernel, by decide +kernel⟩,
  ⟨by decide +kernel, by decide +kernel, by decide +kernel, by decide +kernel⟩,
  ⟨by decide +kernel, by decide +kernel, by decide +kernel⟩,
  ⟨by decide +kernel, by decide +kernel, by decide +kernel, by decide +kernel⟩,
  ⟨by decide +kernel, by decide +kernel, by decide +kernel⟩,
  ⟨by decide +kernel, by decide +kernel, by decide +kernel⟩,
  ⟨by decide +kernel, by decide +kernel, _, rfl, by decide, tw_188⟩,
  ⟨by decide +kernel, by decide +kernel, _, rfl, by decide, tw_105⟩,
  ⟨by decide +kernel, by decide +kernel, by decide +kernel⟩,
  ⟨by decide +kernel, by decide +kernel, by decide +kernel⟩,
  ⟨by decide +kernel, by decide +kernel, _, rfl, by decide, tw_191⟩,
  ⟨by decide +kernel, by decide +kernel, by decide +kernel⟩,
  ⟨by decide +kernel, by decide +kernel⟩,
  ⟨by decide +kernel, by decide +kernel, by decide +kernel⟩,
  ⟨by decide +kernel, by decide +kernel, by decide +kernel⟩,
  ⟨by decide +kernel, by decide +kernel, by decide +kernel⟩,
  ⟨by decide +kernel, by decide +kernel, by decide +kernel⟩,
  ⟨by decide +kernel, by decide +kernel, Or.inr (Or.inr ⟨Or.inl rfl, _, rfl, ⟨fun h => (by cases h), fun h => (by cases h)⟩, Or.inr ⟨"RunOrder", List.mem_of_getElem? (i := 5) rfl⟩, tw_279, fun r h => (by cases h; decide +kernel)⟩)⟩,
  ⟨by decide +kernel, by decide +kernel⟩,
  ⟨by decide +kernel, by decide +kernel, by decide +kernel, by decide +kernel⟩,
  ⟨by decide +kernel, by decide +kernel, by decide +kernel, by decide +kernel, by decide +kernel⟩,
  ⟨by decide +kernel, by decide +kernel⟩,
  ⟨by decide +kernel, by decide +kernel, by decide +kernel⟩,
  ⟨by decide +kernel, Or.inl ⟨rfl, rfl⟩⟩,
  trivial⟩
set_option maxRecDepth 100000 in
set_option maxHeartbeats 4000000 in
theorem ok_N_stopWaiting : ax_okl ax_Ms ax_Xs ax_NMs ax_cl ax_TT ax_NLs nm_N_stopWaiting prog_5_method_15_code (none) 2 cd_N_stopWaiting 0 cd_N_stopWaiting := ⟨
  ⟨by decide +kernel, by decide +kernel, by decide +kernel⟩,
  ⟨by decide +kernel, by decide +kernel, by decide +kernel, by decide +kernel⟩,
  ⟨by decide +kernel, by decide +kernel, by decide +kernel⟩,
  ⟨by decide +kernel, by decide +kernel, by decide +kernel⟩,
  ⟨by decide +kernel, by decide +kernel, _, rfl, by decide, tw_188⟩,
  ⟨by decide +kernel, by decide +kernel, _, rfl, by decide, tw_105⟩,
  ⟨by decide +kernel, by decide +kernel, by decide +kernel⟩,
  ⟨by decide +kernel, by decide +kernel, by decide +kernel⟩,
  ⟨by decide +kernel, by decide +kernel, _, rfl, by decide, tw_191⟩,
  ⟨by decide +kernel, by decide +kernel, by decide +kernel⟩,
  ⟨by decide +kernel, by decide +kernel⟩,
  ⟨by decide +kernel, by decide +kernel, by decide +kernel⟩,
  ⟨by decide +kernel, by decide +kernel, by decide +kernel⟩,
  ⟨by decide +kernel, by decide +kernel, by decide +kernel⟩,
  ⟨by decide +kernel, by decide +kernel, _, rfl, by decide, tw_191⟩,
  ⟨by decide +kernel, by decide +kernel, by decide +kernel⟩,
  ⟨by decide +kernel, by decide +kernel, by decide +kernel⟩,
  ⟨by decide +kernel, by decide +kernel⟩,
  ⟨by decide +kernel, by decide +kernel, by decide +kernel, by decide +kernel, by decide +kernel⟩,
  ⟨by decide +kernel, by decide +kernel⟩,
  ⟨by decide +kernel, rfl⟩,
  trivial⟩
set_option maxRecDepth 100000 in
set_option maxHeartbeats 4000000 in
theorem ok_N_beginReady : ax_okl ax_Ms ax_Xs ax_NMs ax_cl ax_TT ax_NLs nm_N_beginReady prog_5_method_16_code (none) 5 cd_N_beginReady 0 cd_N_beginReady := ⟨
  ⟨by decide +kernel, by decide +kernel, by decide +kernel⟩,
  ⟨by decide +kernel, by decide +kernel, Or.inl rfl, _, 4, _, rfl, rfl, rfl, rfl, ⟨fun h => (by cases h), fun h => (by cases h)⟩, Or.inl tw_377, tw_379, tw_12, fun r h => (by cases h; exact ⟨_, rfl, by decide +kernel⟩)⟩,
  ⟨by decide +kernel, by decide +kernel, by decide +kernel, by decide +kernel⟩,
  ⟨by decide +kernel, by decide +kernel, by decide +kernel⟩,
  ⟨by decide +kernel, by decide +kernel, by decide +kernel, by decide +kernel⟩,
  ⟨by decide +kernel, by decide +kernel, by decide +kernel⟩,
  ⟨by decide +kernel, by decide +kernel, by decide +kernel⟩,
  ⟨by decide +kernel, by decide +kernel, _, rfl, by decide, tw_188⟩,
  ⟨by decide +kernel, by decide +kernel, _, rfl, by decide, tw_105⟩,
  ⟨by decide +kernel, by decide +kernel, by decide +kernel⟩,
  ⟨by decide +kernel, by decide +kernel, by decide +kernel⟩,
  ⟨by decide +kernel, by decide +kernel, by decide +kernel⟩,
  ⟨by decide +kernel, by decide +kernel, Or.inl rfl, _, 4, _, rfl, rfl, rfl, rfl, ⟨fun h => (by cases h), fun h => (by cases h)⟩, Or.inl tw_385, tw_387, tw_14, fun r h => (by cases h; exact ⟨_, rfl, by decide +kernel⟩)⟩,
  ⟨by decide +kernel, by decide +kernel, by decide +kernel, by decide +kernel⟩,
  ⟨by decide +kernel, by decide +kernel, by decide +kernel⟩,
  ⟨by decide +kernel, by decide +kernel, by decide +kernel⟩,
  ⟨by decide +kernel, by decide +kernel, by decide +kernel⟩,
  ⟨by decide +kernel, rfl⟩,
  ⟨by decide +kernel, by decide +kernel, by decide +kernel⟩,
  ⟨by decide +kernel, by decide +kernel, by decide +kernel⟩,
  ⟨by decide +kernel, by decide +kernel, Or.inr (Or.inr ⟨Or.inl rfl, _, rfl, ⟨fun h => (by cases h), fun h => (by cases h)⟩, Or.inr ⟨"RunOrder", List.mem_of_getElem? (i := 5) rfl⟩, tw_279, fun r h => (by cases h; decide +kernel)⟩)⟩,
  ⟨by decide +kernel, by decide +kernel, by decide +kernel⟩,
  ⟨by decide +kernel, by decide +kernel⟩,
  ⟨by decide +kernel, by decide +kernel⟩,
  ⟨by decide +kernel, by decide +kernel, by decide +kernel, by decide +kernel⟩,
  ⟨by decide +kernel, by decide +kernel, by decide +kernel⟩,
  ⟨by decide +kernel, by decide +kernel, _, rfl, by decide, tw_187⟩,
  ⟨by decide +kernel, by decide +kernel, by decide +kernel⟩,
  ⟨by decide +kernel, by decide +kernel, _, rfl, by decide, tw_188⟩,
  ⟨by decide +kernel, by decide +kernel, _, rfl, by decide, tw_109⟩,
  ⟨by decide +kernel, by decide +kernel, by decide +kernel⟩,
  ⟨by decide +kernel, by decide +kernel⟩,
  ⟨by decide +kernel, by decide +kernel, by decide +kernel⟩,
  ⟨by decide +kernel, by decide +kernel, _, rfl, by decide, tw_188⟩,
  ⟨by decide +kernel, by decide +kernel, _, rfl, by decide, tw_111⟩,
  ⟨by decide +kernel, by decide +kernel, by decide +kernel⟩,
  ⟨by decide +kernel, by decide +kernel⟩,
  ⟨by decide +kernel, by decide +kernel, by decide +kernel⟩,
  ⟨by decide +kernel, by decide +kernel, _, rfl, by decide, tw_188⟩,
  ⟨by decide +kernel, by decide +kernel, _, rfl, by decide, tw_114⟩,
  ⟨by decide +kernel, by decide +kernel, by decide +kernel⟩,
  ⟨by decide +kernel, by decide +kernel⟩,
  ⟨by decide +kernel, by decide +kernel, Or.inl rfl, _, 1, _, rfl, rfl, rfl, rfl, ⟨fun h => (by cases h), fun h => (by cases h)⟩, Or.inl tw_389, tw_390, tw_391, fun r h => (by cases h; exact ⟨_, rfl, by decide +kernel⟩)⟩,
  ⟨by decide +kernel, by decide +kernel, by decide +kernel⟩,
  ⟨by decide +kernel, by decide +kernel, by decide +kernel⟩,
  ⟨by decide +kernel, by decide +kernel, by decide +kernel⟩,
  ⟨by decide +kernel, by decide +kernel, by decide +kernel⟩,
  ⟨by decide +kernel, by decide +kernel, Or.inr rfl, _, 4, _, rfl, rfl, rfl, rfl, ⟨fun _ => rfl, fun _ => rfl⟩, Or.inl tw_393, tw_395, tw_15, fun r h => (by cases h; exact ⟨_, rfl, by decide +kernel⟩)⟩,
  ⟨by decide +kernel, by decide +kernel⟩,
  ⟨by decide +kernel, by decide +kernel, by decide +kernel⟩,
  ⟨by decide +kernel, by decide +kernel, _, rfl, by decide, tw_189⟩,
  ⟨by decide +kernel, by decide +kernel, _, rfl, by decide, tw_171⟩,
  ⟨by decide +kernel, by decide +kernel, by decide +kernel⟩,
  ⟨by decide +kernel, by decide +kernel⟩,
  ⟨by decide +kernel, by decide +kernel, by decide +kernel⟩,
  ⟨by decide +kernel, rfl⟩,
  ⟨by decide +kernel, by decide +kernel, by decide +kernel, by decide +kernel, by decide +kernel⟩,
  ⟨by decide +kernel, by decide +kernel⟩,
  ⟨by decide +kernel, rfl⟩,
  trivial⟩
end
section
/-! Each instruction's entry is what the code says, 3. -/
set_option maxRecDepth 100000 in
set_option maxHeartbeats 4000000 in
theorem ok_N_allReady : ax_okl ax_Ms ax_Xs ax_NMs ax_cl ax_TT ax_NLs nm_N_allReady prog_5_method_17_code (some .int) 6 cd_N_allReady 0 cd_N_allReady := ⟨
  ⟨by decide +kernel, by decide +kernel, by decide +kernel⟩,
  ⟨by decide +kernel, by decide +kernel, by decide +kernel⟩,
  ⟨by decide +kernel, by decide +kernel, Or.inl rfl, _, 4, _, rfl, rfl, rfl, rfl, ⟨fun h => (by cases h), fun h => (by cases h)⟩, Or.inl tw_364, tw_366, tw_9, fun r h => (by cases h; exact ⟨_, rfl, by decide +kernel⟩)⟩,
  ⟨by decide +kernel, by decide +kernel, by decide +kernel, by decide +kernel⟩,
  ⟨by decide +kernel, by decide +kernel, by decide +kernel⟩,
  ⟨by decide +kernel, by decide +kernel, _, rfl, by decide, tw_189⟩,
  ⟨by decide +kernel, by decide +kernel, _, rfl, by decide, tw_171⟩,
  ⟨by decide +kernel, by decide +kernel, by decide +kernel⟩,
  ⟨by decide +kernel, by decide +kernel⟩,
  ⟨by decide +kernel, by decide +kernel, by decide +kernel⟩,
  ⟨by decide +kernel, by decide +kernel, by decide +kernel⟩,
  ⟨by decide +kernel, by decide +kernel, Or.inl rfl, _, 4, _, rfl, rfl, rfl, rfl, ⟨fun h => (by cases h), fun h => (by cases h)⟩, Or.inl tw_381, tw_383, tw_13, fun r h => (by cases h; exact ⟨_, rfl, by decide +kernel⟩)⟩,
  ⟨by decide +kernel, by decide +kernel, by decide +kernel⟩,
  ⟨by decide +kernel, by decide +kernel, by decide +kernel⟩,
  ⟨by decide +kernel, by decide +kernel⟩,
  ⟨by decide +kernel, by decide +kernel, by decide +kernel⟩,
  ⟨by decide +kernel, by decide +kernel, by decide +kernel, by decide +kernel⟩,
  ⟨by decide +kernel, by decide +kernel, by decide +kernel⟩,
  ⟨by decide +kernel, by decide +kernel, by decide +kernel, by decide +kernel⟩,
  ⟨by decide +kernel, by decide +kernel, by decide +kernel⟩,
  ⟨by decide +kernel, by decide +kernel, by decide +kernel, by decide +kernel⟩,
  ⟨by decide +kernel, by decide +kernel, by decide +kernel⟩,
  ⟨by decide +kernel, by decide +kernel, by decide +kernel⟩,
  ⟨by decide +kernel, by decide +kernel, _, rfl, by decide, tw_188⟩,
  ⟨by decide +kernel, by decide +kernel, _, rfl, by decide, tw_105⟩,
  ⟨by decide +kernel, by decide +kernel, by decide +kernel⟩,
  ⟨by decide +kernel, by decide +kernel, by decide +kernel⟩,
  ⟨by decide +kernel, by decide +kernel, _, rfl, by decide, tw_191⟩,
  ⟨by decide +kernel, by decide +kernel, by decide +kernel⟩,
  ⟨by decide +kernel, by decide +kernel⟩,
  ⟨by decide +kernel, by decide +kernel, by decide +kernel⟩,
  ⟨by decide +kernel, by decide +kernel, by decide +kernel⟩,
  ⟨by decide +kernel, by decide +kernel, by decide +kernel⟩,
  ⟨by decide +kernel, by decide +kernel, _, rfl, by decide, tw_188⟩,
  ⟨by decide +kernel, by decide +kernel, _, rfl, by decide, tw_130⟩,
  ⟨by decide +kernel, by decide +kernel, by decide +kernel⟩,
  ⟨by decide +kernel, by decide +kernel⟩,
  ⟨by decide +kernel, by decide +kernel, by decide +kernel⟩,
  ⟨by decide +kernel, by decide +kernel, by decide +kernel⟩,
  ⟨by decide +kernel, by decide +kernel⟩,
  ⟨by decide +kernel, by decide +kernel⟩,
  ⟨by decide +kernel, by decide +kernel, by decide +kernel⟩,
  ⟨by decide +kernel, by decide +kernel, by decide +kernel⟩,
  ⟨by decide +kernel, by decide +kernel⟩,
  ⟨by decide +kernel, by decide +kernel, by decide +kernel⟩,
  ⟨by decide +kernel, by decide +kernel, by decide +kernel, by decide +kernel⟩,
  ⟨by decide +kernel, by decide +kernel, by decide +kernel⟩,
  ⟨by decide +kernel, by decide +kernel, by decide +kernel⟩,
  ⟨by decide +kernel, by decide +kernel, by decide +kernel⟩,
  ⟨by decide +kernel, by decide +kernel, by decide +kernel⟩,
  ⟨by decide +kernel, by decide +kernel, by decide +kernel⟩,
  ⟨by decide +kernel, by decide +kernel, _, rfl, by decide, tw_188⟩,
  ⟨by decide +kernel, by decide +kernel, _, rfl, by decide, tw_126⟩,
  ⟨by decide +kernel, by decide +kernel, by decide +kernel⟩,
  ⟨by decide +kernel, by decide +kernel⟩,
  ⟨by decide +kernel, by decide +kernel, by decide +kernel⟩,
  ⟨by decide +kernel, by decide +kernel, by decide +kernel⟩,
  ⟨by decide +kernel, by decide +kernel, by decide +kernel⟩,
  ⟨by decide +kernel, by decide +kernel, Or.inr (Or.inr ⟨Or.inl rfl, _, rfl, ⟨fun h => (by cases h), fun h => (by cases h)⟩, Or.inr ⟨"RunOrder", List.mem_of_getElem? (i := 5) rfl⟩, tw_279, fun r h => (by cases h; decide +kernel)⟩)⟩,
  ⟨by decide +kernel, by decide +kernel⟩,
  ⟨by decide +kernel, by decide +kernel, by decide +kernel, by decide +kernel⟩,
  ⟨by decide +kernel, by decide +kernel, by decide +kernel, by decide +kernel, by decide +kernel⟩,
  ⟨by decide +kernel, by decide +kernel⟩,
  ⟨by decide +kernel, by decide +kernel, by decide +kernel⟩,
  ⟨by decide +kernel, Or.inl ⟨rfl, rfl⟩⟩,
  trivial⟩
set_option maxRecDepth 100000 in
set_option maxHeartbeats 4000000 in
theorem ok_N_isOtherThanTestLeft : ax_okl ax_Ms ax_Xs ax_NMs ax_cl ax_TT ax_NLs nm_N_isOtherThanTestLeft prog_5_method_18_code (some .boolean) 2 cd_N_isOtherThanTestLeft 0 cd_N_isOtherThanTestLeft := ⟨
  ⟨by decide +kernel, by decide +kernel, by decide +kernel⟩,
  ⟨by decide +kernel, by decide +kernel, by decide +kernel, by decide +kernel⟩,
  ⟨by decide +kernel, by decide +kernel, by decide +kernel⟩,
  ⟨by decide +kernel, by decide +kernel, by decide +kernel⟩,
  ⟨by decide +kernel, by decide +kernel, _, rfl, by decide, tw_188⟩,
  ⟨by decide +kernel, by decide +kernel, _, rfl, by decide, tw_105⟩,
  ⟨by decide +kernel, by decide +kernel, by decide +kernel⟩,
  ⟨by decide +kernel, by decide +kernel, by decide +kernel⟩,
  ⟨by decide +kernel, by decide +kernel, _, rfl, by decide, tw_188⟩,
  ⟨by decide +kernel, by decide +kernel, _, rfl, by decide, tw_126⟩,
  ⟨by decide +kernel, by decide +kernel, by decide +kernel⟩,
  ⟨by decide +kernel, by decide +kernel⟩,
  ⟨by decide +kernel, by decide +kernel, by decide +kernel⟩,
  ⟨by decide +kernel, by decide +kernel, by decide +kernel⟩,
  ⟨by decide +kernel, by decide +kernel, _, rfl, by decide, tw_191⟩,
  ⟨by decide +kernel, by decide +kernel, by decide +kernel⟩,
  ⟨by decide +kernel, by decide +kernel⟩,
  ⟨by decide +kernel, by decide +kernel, by decide +kernel⟩,
  ⟨by decide +kernel, by decide +kernel, by decide +kernel⟩,
  ⟨by decide +kernel, by decide +kernel, by decide +kernel⟩,
  ⟨by decide +kernel, by decide +kernel, _, rfl, by decide, tw_191⟩,
  ⟨by decide +kernel, by decide +kernel, by decide +kernel⟩,
  ⟨by decide +kernel, by decide +kernel⟩,
  ⟨by decide +kernel, by decide +kernel, by decide +kernel⟩,
  ⟨by decide +kernel, by decide +kernel, by decide +kernel⟩,
  ⟨by decide +kernel, by decide +kernel, by decide +kernel⟩,
  ⟨by decide +kernel, Or.inr ⟨rfl, rfl⟩⟩,
  ⟨by decide +kernel, by decide +kernel, by decide +kernel, by decide +kernel, by decide +kernel⟩,
  ⟨by decide +kernel, by decide +kernel⟩,
  ⟨by decide +kernel, by decide +kernel, by decide +kernel⟩,
  ⟨by decide +kernel, Or.inr ⟨rfl, rfl⟩⟩,
  trivial⟩
set_option maxRecDepth 100000 in
set_option maxHeartbeats 4000000 in
theorem ok_N_foremost : ax_okl ax_Ms ax_Xs ax_NMs ax_cl ax_TT ax_NLs nm_N_foremost prog_5_method_19_code (some .int) 4 cd_N_foremost 0 cd_N_foremost := ⟨
  ⟨by decide +kernel, by decide +kernel, by decide +kernel⟩,
  ⟨by decide +kernel, by decide +kernel, by decide +kernel, by decide +kernel⟩,
  ⟨by decide +kernel, by decide +kernel, by decide +kernel⟩,
  ⟨by decide +kernel, by decide +kernel, by decide +kernel, by decide +kernel⟩,
  ⟨by decide +kernel, by decide +kernel, by decide +kernel⟩,
  ⟨by decide +kernel, by decide +kernel, by decide +kernel⟩,
  ⟨by decide +kernel, by decide +kernel, _, rfl, by decide, tw_188⟩,
  ⟨by decide +kernel, by decide +kernel, _, rfl, by decide, tw_105⟩,
  ⟨by decide +kernel, by decide +kernel, by decide +kernel⟩,
  ⟨by decide +kernel, by decide +kernel, by decide +kernel⟩,
  ⟨by decide +kernel, by decide +kernel, by decide +kernel⟩,
  ⟨by decide +kernel, by decide +kernel, Or.inr (Or.inr ⟨Or.inl rfl, _, rfl, ⟨fun h => (by cases h), fun h => (by cases h)⟩, Or.inr ⟨"RunOrder", List.mem_of_getElem? (i := 4) rfl⟩, tw_276, fun r h => (by cases h; decide +kernel)⟩)⟩,
  ⟨by decide +kernel, by decide +kernel, by decide +kernel⟩,
  ⟨by decide +kernel, by decide +kernel, by decide +kernel⟩,
  ⟨by decide +kernel, by decide +kernel, by decide +kernel⟩,
  ⟨by decide +kernel, by decide +kernel, by decide +kernel⟩,
  ⟨by decide +kernel, by decide +kernel, by decide +kernel⟩,
  ⟨by decide +kernel, by decide +kernel, _, rfl, by decide, tw_188⟩,
  ⟨by decide +kernel, by decide +kernel, _, rfl, by decide, tw_134⟩,
  ⟨by decide +kernel, by decide +kernel, by decide +kernel⟩,
  ⟨by decide +kernel, by decide +kernel⟩,
  ⟨by decide +kernel, by decide +kernel, by decide +kernel⟩,
  ⟨by decide +kernel, by decide +kernel, _, rfl, by decide, tw_188⟩,
  ⟨by decide +kernel, by decide +kernel, _, rfl, by decide, tw_134⟩,
  ⟨by decide +kernel, by decide +kernel, by decide +kernel⟩,
  ⟨by decide +kernel, by decide +kernel⟩,
  ⟨by decide +kernel, by decide +kernel, by decide +kernel⟩,
  ⟨by decide +kernel, by decide +kernel, by decide +kernel⟩,
  ⟨by decide +kernel, by decide +kernel, by decide +kernel, by decide +kernel⟩,
  ⟨by decide +kernel, by decide +kernel, by decide +kernel, by decide +kernel, by decide +kernel⟩,
  ⟨by decide +kernel, by decide +kernel⟩,
  ⟨by decide +kernel, by decide +kernel, by decide +kernel⟩,
  ⟨by decide +kernel, Or.inl ⟨rfl, rfl⟩⟩,
  trivial⟩
set_option maxRecDepth 100000 in
set_option maxHeartbeats 4000000 in
theorem ok_N_beginTry : ax_okl ax_Ms ax_Xs ax_NMs ax_cl ax_TT ax_NLs nm_N_beginTry prog_5_method_20_code (none) 3 cd_N_beginTry 0 cd_N_beginTry := ⟨
  ⟨by decide +kernel, by decide +kernel, by decide +kernel⟩,
  ⟨by decide +kernel, by decide +kernel, _, rfl, by decide, tw_187⟩,
  ⟨by decide +kernel, by decide +kernel, by decide +kernel⟩,
  ⟨by decide +kernel, by decide +kernel, _, rfl, by decide, tw_188⟩,
  ⟨by decide +kernel, by decide +kernel, _, rfl, by decide, tw_109⟩,
  ⟨by decide +kernel, by decide +kernel, by decide +kernel⟩,
  ⟨by decide +kernel, by decide +kernel⟩,
  ⟨by decide +kernel, by decide +kernel, by decide +kernel⟩,
  ⟨by decide +kernel, by decide +kernel, _, rfl, by decide, tw_188⟩,
  ⟨by decide +kernel, by decide +kernel, _, rfl, by decide, tw_111⟩,
  ⟨by decide +kernel, by decide +kernel, by decide +kernel⟩,
  ⟨by decide +kernel, by decide +kernel⟩,
  ⟨by decide +kernel, by decide +kernel, by decide +kernel⟩,
  ⟨by decide +kernel, by decide +kernel, _, rfl, by decide, tw_188⟩,
  ⟨by decide +kernel, by decide +kernel, _, rfl, by decide, tw_114⟩,
  ⟨by decide +kernel, by decide +kernel, by decide +kernel⟩,
  ⟨by decide +kernel, by decide +kernel⟩,
  ⟨by decide +kernel, by decide +kernel, Or.inr rfl, _, 1, _, rfl, rfl, rfl, rfl, ⟨fun _ => rfl, fun _ => rfl⟩, Or.inl tw_397, tw_398, tw_399, fun r h => (by cases h; exact ⟨_, rfl, by decide +kernel⟩)⟩,
  ⟨by decide +kernel, by decide +kernel, by decide +kernel⟩,
  ⟨by decide +kernel, by decide +kernel, _, rfl, by decide, tw_191⟩,
  ⟨by decide +kernel, by decide +kernel, by decide +kernel⟩,
  ⟨by decide +kernel, by decide +kernel, by decide +kernel⟩,
  ⟨by decide +kernel, by decide +kernel⟩,
  ⟨by decide +kernel, by decide +kernel, by decide +kernel⟩,
  ⟨by decide +kernel, by decide +kernel, _, rfl, by decide, tw_196⟩,
  ⟨by decide +kernel, by decide +kernel, by decide +kernel⟩,
  ⟨by decide +kernel, by decide +kernel, by decide +kernel⟩,
  ⟨by decide +kernel, by decide +kernel, by decide +kernel⟩,
  ⟨by decide +kernel, by decide +kernel, _, rfl, by decide, tw_188⟩,
  ⟨by decide +kernel, by decide +kernel, _, rfl, by decide, tw_107⟩,
  ⟨by decide +kernel, by decide +kernel, by decide +kernel⟩,
  ⟨by decide +kernel, by decide +kernel⟩,
  ⟨by decide +kernel, by decide +kernel⟩,
  ⟨by decide +kernel, by decide +kernel⟩,
  ⟨by decide +kernel, by decide +kernel, by decide +kernel⟩,
  ⟨by decide +kernel, by decide +kernel, _, rfl, by decide, tw_189⟩,
  ⟨by decide +kernel, by decide +kernel, _, rfl, by decide, tw_171⟩,
  ⟨by decide +kernel, by decide +kernel, by decide +kernel⟩,
  ⟨by decide +kernel, by decide +kernel⟩,
  ⟨by decide +kernel, by decide +kernel, by decide +kernel⟩,
  ⟨by decide +kernel, by decide +kernel, by decide +kernel⟩,
  ⟨by decide +kernel, by decide +kernel, _, rfl, by decide, tw_188⟩,
  ⟨by decide +kernel, by decide +kernel, _, rfl, by decide, tw_117⟩,
  ⟨by decide +kernel, by decide +kernel, by decide +kernel⟩,
  ⟨by decide +kernel, by decide +kernel⟩,
  ⟨by decide +kernel, by decide +kernel, by decide +kernel⟩,
  ⟨by decide +kernel, by decide +kernel, by decide +kernel⟩,
  ⟨by decide +kernel, by decide +kernel, _, rfl, by decide, tw_187⟩,
  ⟨by decide +kernel, by decide +kernel, Or.inl rfl, _, 1, _, rfl, rfl, rfl, rfl, ⟨fun h => (by cases h), fun h => (by cases h)⟩, Or.inl tw_402, tw_403, tw_404, fun r h => (by cases h; exact ⟨_, rfl, by decide +kernel⟩)⟩,
  ⟨by decide +kernel, by decide +kernel, by decide +kernel⟩,
  ⟨by decide +kernel, by decide +kernel, by decide +kernel⟩,
  ⟨by decide +kernel, by decide +kernel, _, rfl, by decide, tw_187⟩,
  ⟨by decide +kernel, by decide +kernel⟩,
  ⟨by decide +kernel, by decide +kernel, _, rfl, by decide, tw_74⟩,
  ⟨by decide +kernel, by decide +kernel, by decide +kernel⟩,
  ⟨by decide +kernel, by decide +kernel⟩,
  ⟨by decide +kernel, by decide +kernel, _, rfl, by decide, tw_74, ⟨.int, by decide +kernel, Or.inl ⟨rfl, rfl⟩⟩, Or.inl rfl⟩,
  ⟨by decide +kernel, by decide +kernel, by decide +kernel⟩,
  ⟨by decide +kernel, by decide +kernel, _, rfl, by decide, tw_197⟩,
  ⟨by decide +kernel, by decide +kernel, by decide +kernel⟩,
  ⟨by decide +kernel, by decide +kernel, by decide +kernel⟩,
  ⟨by decide +kernel, by decide +kernel, by decide +kernel⟩,
  ⟨by decide +kernel, by decide +kernel, _, rfl, by decide, tw_188⟩,
  ⟨by decide +kernel, by decide +kernel, _, rfl, by decide, tw_117⟩,
  ⟨by decide +kernel, by decide +kernel, by decide +kernel⟩,
  ⟨by decide +kernel, by decide +kernel⟩,
  ⟨by decide +kernel, by decide +kernel⟩,
  ⟨by decide +kernel, by decide +kernel⟩,
  ⟨by decide +kernel, by decide +kernel, by decide +kernel⟩,
  ⟨by decide +kernel, by decide +kernel, _, rfl, by decide, tw_194⟩,
  ⟨by decide +kernel, by decide +kernel, by decide +kernel⟩,
  ⟨by decide +kernel, by decide +kernel⟩,
  ⟨by decide +kernel, by decide +kernel, by decide +kernel⟩,
  ⟨by decide +kernel, by decide +kernel, by decide +kernel⟩,
  ⟨by decide +kernel, by decide +kernel, _, rfl, by decide, tw_192⟩,
  ⟨by decide +kernel, by decide +kernel, by decide +kernel⟩,
  ⟨by decide +kernel, by decide +kernel, by decide +kernel⟩,
  ⟨by decide +kernel, by decide +kernel⟩,
  ⟨by decide +kernel, by decide +kernel, by decide +kernel⟩,
  ⟨by decide +kernel, by decide +kernel, _, rfl, by decide, tw_194⟩,
  ⟨by decide +kernel, by decide +kernel, by decide +kernel⟩,
  ⟨by decide +kernel, by decide +kernel⟩,
  ⟨by decide +kernel, by decide +kernel⟩,
  ⟨by decide +kernel, by decide +kernel, by decide +kernel⟩,
  ⟨by decide +kernel, by decide +kernel⟩,
  ⟨by decide +kernel, by decide +kernel⟩,
  ⟨by decide +kernel, by decide +kernel, by decide +kernel⟩,
  ⟨by decide +kernel, by decide +kernel, _, rfl, by decide, tw_199⟩,
  ⟨by decide +kernel, by decide +kernel, by decide +kernel⟩,
  ⟨by decide +kernel, by decide +kernel, by decide +kernel⟩,
  ⟨by decide +kernel, by decide +kernel, by decide +kernel⟩,
  ⟨by decide +kernel, by decide +kernel, _, rfl, by decide, tw_198⟩,
  ⟨by decide +kernel, by decide +kernel, by decide +kernel⟩,
  ⟨by decide +kernel, by decide +kernel, _, rfl, by decide, tw_199⟩,
  ⟨by decide +kernel, by decide +kernel, by decide +kernel⟩,
  ⟨by decide +kernel, by decide +kernel⟩,
  ⟨by decide +kernel, by decide +kernel, by decide +kernel⟩,
  ⟨by decide +kernel, by decide +kernel⟩,
  ⟨by decide +kernel, by decide +kernel, _, rfl, by decide, tw_199⟩,
  ⟨by decide +kernel, by decide +kernel, by decide +kernel⟩,
  ⟨by decide +kernel, by decide +kernel⟩,
  ⟨by decide +kernel, by decide +kernel, _, rfl, by decide, tw_199, ⟨.int, by decide +kernel, Or.inl ⟨rfl, rfl⟩⟩, Or.inl rfl⟩,
  ⟨by decide +kernel, rfl⟩,
  trivial⟩
set_option maxRecDepth 100000 in
set_option maxHeartbeats 4000000 in
theorem ok_N_nextEnd : ax_okl ax_Ms ax_Xs ax_NMs ax_cl ax_TT ax_NLs nm_N_nextEnd prog_5_method_21_code (some .int) 3 cd_N_nextEnd 0 cd_N_nextEnd := ⟨
  ⟨by decide +kernel, by decide +kernel, by decide +kernel⟩,
  ⟨by decide +kernel, by decide +kernel, by decide +kernel, by decide +kernel⟩,
  ⟨by decide +kernel, by decide +kernel, by decide +kernel⟩,
  ⟨by decide +kernel, by decide +kernel, by decide +kernel, by decide +kernel⟩,
  ⟨by decide +kernel, by decide +kernel, by decide +kernel⟩,
  ⟨by decide +kernel, by decide +kernel, by decide +kernel⟩,
  ⟨by decide +kernel, by decide +kernel, _, rfl, by decide, tw_188⟩,
  ⟨by decide +kernel, by decide +kernel, _, rfl, by decide, tw_105⟩,
  ⟨by decide +kernel, by decide +kernel, by decide +kernel⟩,
  ⟨by decide +kernel, by decide +kernel, by decide +kernel⟩,
  ⟨by decide +kernel, by decide +kernel, by decide +kernel⟩,
  ⟨by decide +kernel, by decide +kernel, _, rfl, by decide, tw_196⟩,
  ⟨by decide +kernel, by decide +kernel, by decide +kernel⟩,
  ⟨by decide +kernel, by decide +kernel⟩,
  ⟨by decide +kernel, by decide +kernel, Or.inr (Or.inr ⟨Or.inl rfl, _, rfl, ⟨fun h => (by cases h), fun h => (by cases h)⟩, Or.inl tw_410, tw_411, fun r h => (by cases h; decide +kernel)⟩)⟩,
  ⟨by decide +kernel, by decide +kernel, by decide +kernel, by decide +kernel⟩,
  ⟨by decide +kernel, by decide +kernel, by decide +kernel⟩,
  ⟨by decide +kernel, by decide +kernel, by decide +kernel⟩,
  ⟨by decide +kernel, by decide +kernel, _, rfl, by decide, tw_197⟩,
  ⟨by decide +kernel, by decide +kernel, by decide +kernel⟩,
  ⟨by decide +kernel, by decide +kernel⟩,
  ⟨by decide +kernel, by decide +kernel, Or.inr (Or.inr ⟨Or.inl rfl, _, rfl, ⟨fun h => (by cases h), fun h => (by cases h)⟩, Or.inl tw_410, tw_411, fun r h => (by cases h; decide +kernel)⟩)⟩,
  ⟨by decide +kernel, by decide +kernel, by decide +kernel, by decide +kernel⟩,
  ⟨by decide +kernel, by decide +kernel, by decide +kernel, by decide +kernel, by decide +kernel⟩,
  ⟨by decide +kernel, by decide +kernel⟩,
  ⟨by decide +kernel, by decide +kernel, by decide +kernel⟩,
  ⟨by decide +kernel, Or.inl ⟨rfl, rfl⟩⟩,
  trivial⟩
set_option maxRecDepth 100000 in
set_option maxHeartbeats 4000000 in
theorem ok_N_sooner : ax_okl ax_Ms ax_Xs ax_NMs ax_cl ax_TT ax_NLs nm_N_sooner prog_5_method_22_code (some .int) 2 cd_N_sooner 0 cd_N_sooner := ⟨
  ⟨by decide +kernel, by decide +kernel, by decide +kernel⟩,
  ⟨by decide +kernel, by decide +kernel, by decide +kernel⟩,
  ⟨by decide +kernel, by decide +kernel, by decide +kernel⟩,
  ⟨by decide +kernel, by decide +kernel, by decide +kernel⟩,
  ⟨by decide +kernel, Or.inl ⟨rfl, rfl⟩⟩,
  ⟨by decide +kernel, by decide +kernel, by decide +kernel⟩,
  ⟨by decide +kernel, by decide +kernel, by decide +kernel⟩,
  ⟨by decide +kernel, by decide +kernel, by decide +kernel⟩,
  ⟨by decide +kernel, by decide +kernel, by decide +kernel⟩,
  ⟨by decide +kernel, by decide +kernel⟩,
  ⟨by decide +kernel, by decide +kernel, by decide +kernel⟩,
  ⟨by decide +kernel, by decide +kernel, by decide +kernel⟩,
  ⟨by decide +kernel, by decide +kernel, Or.inr (Or.inl ⟨rfl, tw_413, tw_56, tw_37, tw_57⟩)⟩,
  ⟨by decide +kernel, Or.inl ⟨rfl, rfl⟩⟩,
  trivial⟩
set_option maxRecDepth 100000 in
set_option maxHeartbeats 4000000 in
theorem ok_M_init : ax_okl ax_Ms ax_Xs ax_NMs ax_cl ax_TT ax_NLs nm_M_init prog_7_method_1_code (none) 3 cd_M_init 0 cd_M_init := ⟨
  ⟨by decide +kernel, by decide +kernel, by decide +kernel⟩,
  ⟨by decide +kernel, by decide +kernel, Or.inl ⟨rfl, tw_454, tw_48, tw_49⟩⟩,
  ⟨by decide +kernel, by decide +kernel, by decide +kernel⟩,
  ⟨by decide +kernel, by decide +kernel, by decide +kernel⟩,
  ⟨by decide +kernel, by decide +kernel, Or.inl ⟨rfl, rfl⟩, tw_162⟩,
  ⟨by decide +kernel, by decide +kernel, _, rfl, by decide, tw_464, ⟨.array .int, by decide +kernel, Or.inr (Or.inr ⟨rfl, Or.inr ⟨_, rfl⟩⟩)⟩, Or.inr ⟨rfl, rfl, rfl⟩⟩,
  ⟨by decide +kernel, by decide +kernel, by decide +kernel⟩,
  ⟨by decide +kernel, by decide +kernel, by decide +kernel⟩,
  ⟨by decide +kernel, by decide +kernel, Or.inl ⟨rfl, rfl⟩, tw_162⟩,
  ⟨by decide +kernel, by decide +kernel, _, rfl, by decide, tw_465, ⟨.array .int, by decide +kernel, Or.inr (Or.inr ⟨rfl, Or.inr ⟨_, rfl⟩⟩)⟩, Or.inr ⟨rfl, rfl, rfl⟩⟩,
  ⟨by decide +kernel, by decide +kernel, by decide +kernel⟩,
  ⟨by decide +kernel, by decide +kernel, by decide +kernel⟩,
  ⟨by decide +kernel, by decide +kernel, Or.inl ⟨rfl, rfl⟩, tw_162⟩,
  ⟨by decide +kernel, by decide +kernel, _, rfl, by decide, tw_466, ⟨.array .int, by decide +kernel, Or.inr (Or.inr ⟨rfl, Or.inr ⟨_, rfl⟩⟩)⟩, Or.inr ⟨rfl, rfl, rfl⟩⟩,
  ⟨by decide +kernel, by decide +kernel, by decide +kernel⟩,
  ⟨by decide +kernel, by decide +kernel, by decide +kernel⟩,
  ⟨by decide +kernel, by decide +kernel, Or.inl ⟨rfl, rfl⟩, tw_162⟩,
  ⟨by decide +kernel, by decide +kernel, _, rfl, by decide, tw_467, ⟨.array .int, by decide +kernel, Or.inr (Or.inr ⟨rfl, Or.inr ⟨_, rfl⟩⟩)⟩, Or.inr ⟨rfl, rfl, rfl⟩⟩,
  ⟨by decide +kernel, by decide +kernel, by decide +kernel⟩,
  ⟨by decide +kernel, by decide +kernel, by decide +kernel⟩,
  ⟨by decide +kernel, by decide +kernel, Or.inl ⟨rfl, rfl⟩, tw_162⟩,
  ⟨by decide +kernel, by decide +kernel, _, rfl, by decide, tw_468, ⟨.array .int, by decide +kernel, Or.inr (Or.inr ⟨rfl, Or.inr ⟨_, rfl⟩⟩)⟩, Or.inr ⟨rfl, rfl, rfl⟩⟩,
  ⟨by decide +kernel, by decide +kernel, by decide +kernel⟩,
  ⟨by decide +kernel, by decide +kernel, by decide +kernel⟩,
  ⟨by decide +kernel, by decide +kernel, Or.inl ⟨rfl, rfl⟩, tw_162⟩,
  ⟨by decide +kernel, by decide +kernel, _, rfl, by decide, tw_469, ⟨.array .int, by decide +kernel, Or.inr (Or.inr ⟨rfl, Or.inr ⟨_, rfl⟩⟩)⟩, Or.inr ⟨rfl, rfl, rfl⟩⟩,
  ⟨by decide +kernel, by decide +kernel, by decide +kernel⟩,
  ⟨by decide +kernel, by decide +kernel, by decide +kernel⟩,
  ⟨by decide +kernel, by decide +kernel, Or.inl ⟨rfl, rfl⟩, tw_162⟩,
  ⟨by decide +kernel, by decide +kernel, _, rfl, by decide, tw_470, ⟨.array .int, by decide +kernel, Or.inr (Or.inr ⟨rfl, Or.inr ⟨_, rfl⟩⟩)⟩, Or.inr ⟨rfl, rfl, rfl⟩⟩,
  ⟨by decide +kernel, by decide +kernel, by decide +kernel⟩,
  ⟨by decide +kernel, by decide +kernel, by decide +kernel⟩,
  ⟨by decide +kernel, by decide +kernel, Or.inl ⟨rfl, rfl⟩, tw_162⟩,
  ⟨by decide +kernel, by decide +kernel, _, rfl, by decide, tw_471, ⟨.array .int, by decide +kernel, Or.inr (Or.inr ⟨rfl, Or.inr ⟨_, rfl⟩⟩)⟩, Or.inr ⟨rfl, rfl, rfl⟩⟩,
  ⟨by decide +kernel, by decide +kernel, by decide +kernel⟩,
  ⟨by decide +kernel, by decide +kernel, by decide +kernel⟩,
  ⟨by decide +kernel, by decide +kernel, Or.inr ⟨rfl, rfl⟩, tw_163⟩,
  ⟨by decide +kernel, by decide +kernel, _, rfl, by decide, tw_472, ⟨.array .boolean, by decide +kernel, Or.inr (Or.inr ⟨rfl, Or.inr ⟨_, rfl⟩⟩)⟩, Or.inr ⟨rfl, rfl, rfl⟩⟩,
  ⟨by decide +kernel, by decide +kernel, by decide +kernel⟩,
  ⟨by decide +kernel, by decide +kernel, by decide +kernel⟩,
  ⟨by decide +kernel, by decide +kernel, Or.inr ⟨rfl, rfl⟩, tw_163⟩,
  ⟨by decide +kernel, by decide +kernel, _, rfl, by decide, tw_473, ⟨.array .boolean, by decide +kernel, Or.inr (Or.inr ⟨rfl, Or.inr ⟨_, rfl⟩⟩)⟩, Or.inr ⟨rfl, rfl, rfl⟩⟩,
  ⟨by decide +kernel, by decide +kernel, by decide +kernel⟩,
  ⟨by decide +kernel, by decide +kernel, by decide +kernel⟩,
  ⟨by decide +kernel, by decide +kernel, Or.inr ⟨rfl, rfl⟩, tw_163⟩,
  ⟨by decide +kernel, by decide +kernel, _, rfl, by decide, tw_474, ⟨.array .boolean, by decide +kernel, Or.inr (Or.inr ⟨rfl, Or.inr ⟨_, rfl⟩⟩)⟩, Or.inr ⟨rfl, rfl, rfl⟩⟩,
  ⟨by decide +kernel, by decide +kernel, by decide +kernel⟩,
  ⟨by decide +kernel, by decide +kernel, by decide +kernel⟩,
  ⟨by decide +kernel, by decide +kernel, Or.inr ⟨rfl, rfl⟩, tw_163⟩,
  ⟨by decide +kernel, by decide +kernel, _, rfl, by decide, tw_475, ⟨.array .boolean, by decide +kernel, Or.inr (Or.inr ⟨rfl, Or.inr ⟨_, rfl⟩⟩)⟩, Or.inr ⟨rfl, rfl, rfl⟩⟩,
  ⟨by decide +kernel, by decide +kernel, by decide +kernel⟩,
  ⟨by decide +kernel, by decide +kernel, by decide +kernel⟩,
  ⟨by decide +kernel, by decide +kernel, Or.inl ⟨rfl, rfl⟩, tw_162⟩,
  ⟨by decide +kernel, by decide +kernel, _, rfl, by decide, tw_476, ⟨.array .int, by decide +kernel, Or.inr (Or.inr ⟨rfl, Or.inr ⟨_, rfl⟩⟩)⟩, Or.inr ⟨rfl, rfl, rfl⟩⟩,
  ⟨by decide +kernel, by decide +kernel, by decide +kernel⟩,
  ⟨by decide +kernel, by decide +kernel, by decide +kernel⟩,
  ⟨by decide +kernel, by decide +kernel, Or.inl ⟨rfl, rfl⟩, tw_162⟩,
  ⟨by decide +kernel, by decide +kernel, _, rfl, by decide, tw_477, ⟨.array .int, by decide +kernel, Or.inr (Or.inr ⟨rfl, Or.inr ⟨_, rfl⟩⟩)⟩, Or.inr ⟨rfl, rfl, rfl⟩⟩,
  ⟨by decide +kernel, by decide +kernel, by decide +kernel⟩,
  ⟨by decide +kernel, by decide +kernel, by decide +kernel⟩,
  ⟨by decide +kernel, by decide +kernel, Or.inl ⟨rfl, rfl⟩, tw_162⟩,
  ⟨by decide +kernel, by decide +kernel, _, rfl, by decide, tw_479, ⟨.array .int, by decide +kernel, Or.inr (Or.inr ⟨rfl, Or.inr ⟨_, rfl⟩⟩)⟩, Or.inr ⟨rfl, rfl, rfl⟩⟩,
  ⟨by decide +kernel, by decide +kernel, by decide +kernel⟩,
  ⟨by decide +kernel, by decide +kernel, by decide +kernel⟩,
  ⟨by decide +kernel, by decide +kernel, Or.inl ⟨rfl, rfl⟩, tw_162⟩,
  ⟨by decide +kernel, by decide +kernel, _, rfl, by decide, tw_480, ⟨.array .int, by decide +kernel, Or.inr (Or.inr ⟨rfl, Or.inr ⟨_, rfl⟩⟩)⟩, Or.inr ⟨rfl, rfl, rfl⟩⟩,
  ⟨by decide +kernel, by decide +kernel, by decide +kernel⟩,
  ⟨by decide +kernel, by decide +kernel, by decide +kernel⟩,
  ⟨by decide +kernel, by decide +kernel, Or.inl ⟨rfl, rfl⟩, tw_162⟩,
  ⟨by decide +kernel, by decide +kernel, _, rfl, by decide, tw_481, ⟨.array .int, by decide +kernel, Or.inr (Or.inr ⟨rfl, Or.inr ⟨_, rfl⟩⟩)⟩, Or.inr ⟨rfl, rfl, rfl⟩⟩,
  ⟨by decide +kernel, by decide +kernel, by decide +kernel⟩,
  ⟨by decide +kernel, by decide +kernel, by decide +kernel⟩,
  ⟨by decide +kernel, by decide +kernel, Or.inl ⟨rfl, rfl⟩, tw_162⟩,
  ⟨by decide +kernel, by decide +kernel, _, rfl, by decide, tw_482, ⟨.array .int, by decide +kernel, Or.inr (Or.inr ⟨rfl, Or.inr ⟨_, rfl⟩⟩)⟩, Or.inr ⟨rfl, rfl, rfl⟩⟩,
  ⟨by decide +kernel, by decide +kernel, by decide +kernel⟩,
  ⟨by decide +kernel, by decide +kernel, by decide +kernel⟩,
  ⟨by decide +kernel, by decide +kernel, Or.inl ⟨rfl, rfl⟩, tw_162⟩,
  ⟨by decide +kernel, by decide +kernel, _, rfl, by decide, tw_483, ⟨.array .int, by decide +kernel, Or.inr (Or.inr ⟨rfl, Or.inr ⟨_, rfl⟩⟩)⟩, Or.inr ⟨rfl, rfl, rfl⟩⟩,
  ⟨by decide +kernel, by decide +kernel, by decide +kernel⟩,
  ⟨by decide +kernel, by decide +kernel, by decide +kernel⟩,
  ⟨by decide +kernel, by decide +kernel, Or.inl ⟨rfl, rfl⟩, tw_162⟩,
  ⟨by decide +kernel, by decide +kernel, _, rfl, by decide, tw_484, ⟨.array .int, by decide +kernel, Or.inr (Or.inr ⟨rfl, Or.inr ⟨_, rfl⟩⟩)⟩, Or.inr ⟨rfl, rfl, rfl⟩⟩,
  ⟨by decide +kernel, by decide +kernel, by decide +kernel⟩,
  ⟨by decide +kernel, by decide +kernel, by decide +kernel⟩,
  ⟨by decide +kernel, by decide +kernel, Or.inl ⟨rfl, rfl⟩, tw_162⟩,
  ⟨by decide +kernel, by decide +kernel, _, rfl, by decide, tw_485, ⟨.array .int, by decide +kernel, Or.inr (Or.inr ⟨rfl, Or.inr ⟨_, rfl⟩⟩)⟩, Or.inr ⟨rfl, rfl, rfl⟩⟩,
  ⟨by decide +kernel, by decide +kernel, by decide +kernel⟩,
  ⟨by decide +kernel, by decide +kernel, by decide +kernel⟩,
  ⟨by decide +kernel, by decide +kernel, Or.inl ⟨rfl, rfl⟩, tw_162⟩,
  ⟨by decide +kernel, by decide +kernel, _, rfl, by decide, tw_486, ⟨.array .int, by decide +kernel, Or.inr (Or.inr ⟨rfl, Or.inr ⟨_, rfl⟩⟩)⟩, Or.inr ⟨rfl, rfl, rfl⟩⟩,
  ⟨by decide +kernel, by decide +kernel, by decide +kernel⟩,
  ⟨by decide +kernel, by decide +kernel, by decide +kernel⟩,
  ⟨by decide +kernel, by decide +kernel, Or.inr ⟨rfl, rfl⟩, tw_163⟩,
  ⟨by decide +kernel, by decide +kernel, _, rfl, by decide, tw_487, ⟨.array .boolean, by decide +kernel, Or.inr (Or.inr ⟨rfl, Or.inr ⟨_, rfl⟩⟩)⟩, Or.inr ⟨rfl, rfl, rfl⟩⟩,
  ⟨by decide +kernel, by decide +kernel, by decide +kernel⟩,
  ⟨by decide +kernel, by decide +kernel, by decide +kernel⟩,
  ⟨by decide +kernel, by decide +kernel, Or.inl ⟨rfl, rfl⟩, tw_162⟩,
  ⟨by decide +kernel, by decide +kernel, _, rfl, by decide, tw_488, ⟨.array .int, by decide +kernel, Or.inr (Or.inr ⟨rfl, Or.inr ⟨_, rfl⟩⟩)⟩, Or.inr ⟨rfl, rfl, rfl⟩⟩,
  ⟨by decide +kernel, by decide +kernel, by decide +kernel⟩,
  ⟨by decide +kernel, by decide +kernel, by decide +kernel⟩,
  ⟨by decide +kernel, by decide +kernel, by decide +kernel⟩,
  ⟨by decide +kernel, by decide +kernel, by decide +kernel⟩,
  ⟨by decide +kernel, by decide +kernel, Or.inr (Or.inr ⟨Or.inl rfl, _, rfl, ⟨fun h => (by cases h), fun h => (by cases h)⟩, Or.inl tw_455, tw_456, fun r h => (by cases h; decide +kernel)⟩)⟩,
  ⟨by decide +kernel, by decide +kernel, _, rfl, by decide, tw_460, ⟨.int, by decide +kernel, Or.inl ⟨rfl, rfl⟩⟩, Or.inr ⟨rfl, rfl, rfl⟩⟩,
  ⟨by decide +kernel, by decide +kernel, by decide +kernel⟩,
  ⟨by decide +kernel, by decide +kernel, by decide +kernel⟩,
  ⟨by decide +kernel, by decide +kernel, by decide +kernel⟩,
  ⟨by decide +kernel, by decide +kernel, tw_458⟩,
  ⟨by decide +kernel, by decide +kernel, Or.inr (Or.inr ⟨Or.inl rfl, _, rfl, ⟨fun h => (by cases h), fun h => (by cases h)⟩, Or.inl tw_455, tw_456, fun r h => (by cases h; decide +kernel)⟩)⟩,
  ⟨by decide +kernel, by decide +kernel, _, rfl, by decide, tw_461, ⟨.int, by decide +kernel, Or.inl ⟨rfl, rfl⟩⟩, Or.inr ⟨rfl, rfl, rfl⟩⟩,
  ⟨by decide +kernel, rfl⟩,
  trivial⟩
set_option maxRecDepth 100000 in
set_option maxHeartbeats 4000000 in
theorem ok_M_held : ax_okl ax_Ms ax_Xs ax_NMs ax_cl ax_TT ax_NLs nm_M_held prog_7_method_3_code (some .int) 3 cd_M_held 0 cd_M_held := ⟨
  ⟨by decide +kernel, by decide +kernel, by decide +kernel⟩,
  ⟨by decide +kernel, by decide +kernel, by decide +kernel⟩,
  ⟨by decide +kernel, by decide +kernel, by decide +kernel⟩,
  ⟨by decide +kernel, by decide +kernel, by decide +kernel⟩,
  ⟨by decide +kernel, by decide +kernel⟩,
  ⟨by decide +kernel, by decide +kernel, by decide +kernel⟩,
  ⟨by decide +kernel, by decide +kernel, by decide +kernel⟩,
  ⟨by decide +kernel, by decide +kernel, by decide +kernel⟩,
  ⟨by decide +kernel, by decide +kernel, by decide +kernel⟩,
  ⟨by decide +kernel, by decide +kernel⟩,
  ⟨by decide +kernel, by decide +kernel, by decide +kernel⟩,
  ⟨by decide +kernel, Or.inl ⟨rfl, rfl⟩⟩,
  trivial⟩
set_option maxRecDepth 100000 in
set_option maxHeartbeats 4000000 in
theorem ok_M_in : ax_okl ax_Ms ax_Xs ax_NMs ax_cl ax_TT ax_NLs nm_M_in prog_7_method_4_code (some .boolean) 3 cd_M_in 0 cd_M_in := ⟨
  ⟨by decide +kernel, by decide +kernel, by decide +kernel⟩,
  ⟨by decide +kernel, by decide +kernel, by decide +kernel⟩,
  ⟨by decide +kernel, by decide +kernel, by decide +kernel⟩,
  ⟨by decide +kernel, by decide +kernel, by decide +kernel⟩,
  ⟨by decide +kernel, by decide +kernel, by decide +kernel⟩,
  ⟨by decide +kernel, by decide +kernel, by decide +kernel⟩,
  ⟨by decide +kernel, by decide +kernel, by decide +kernel⟩,
  ⟨by decide +kernel, by decide +kernel⟩,
  ⟨by decide +kernel, by decide +kernel, by decide +kernel⟩,
  ⟨by decide +kernel, Or.inr ⟨rfl, rfl⟩⟩,
  trivial⟩
set_option maxRecDepth 100000 in
set_option maxHeartbeats 4000000 in
theorem ok_M_isAction : ax_okl ax_Ms ax_Xs ax_NMs ax_cl ax_TT ax_NLs nm_M_isAction prog_7_method_5_code (some .boolean) 2 cd_M_isAction 0 cd_M_isAction := ⟨
  ⟨by decide +kernel, by decide +kernel, by decide +kernel⟩,
  ⟨by decide +kernel, by decide +kernel, by decide +kernel⟩,
  ⟨by decide +kernel, by decide +kernel, by decide +kernel⟩,
  ⟨by decide +kernel, by decide +kernel, _, rfl, by decide, tw_463⟩,
  ⟨by decide +kernel, by decide +kernel, by decide +kernel⟩,
  ⟨by decide +kernel, by decide +kernel⟩,
  ⟨by decide +kernel, by decide +kernel, Or.inr (Or.inr ⟨Or.inl rfl, _, rfl, ⟨fun h => (by cases h), fun h => (by cases h)⟩, Or.inl tw_569, tw_570, fun r h => (by cases h; decide +kernel)⟩)⟩,
  ⟨by decide +kernel, Or.inr ⟨rfl, rfl⟩⟩,
  trivial⟩
set_option maxRecDepth 100000 in
set_option maxHeartbeats 4000000 in
theorem ok_M_slots : ax_okl ax_Ms ax_Xs ax_NMs ax_cl ax_TT ax_NLs nm_M_slots prog_7_method_6_code (some .boolean) 2 cd_M_slots 0 cd_M_slots := ⟨
  ⟨by decide +kernel, by decide +kernel, by decide +kernel⟩,
  ⟨by decide +kernel, by decide +kernel, by decide +kernel⟩,
  ⟨by decide +kernel, by decide +kernel, _, rfl, by decide, tw_459, ⟨.int, by decide +kernel, Or.inl ⟨rfl, rfl⟩⟩, Or.inl rfl⟩,
  ⟨by decide +kernel, by decide +kernel, by decide +kernel⟩,
  ⟨by decide +kernel, by decide +kernel, by decide +kernel⟩,
  ⟨by decide +kernel, by decide +kernel, by decide +kernel⟩,
  ⟨by decide +kernel, by decide +kernel, Or.inr (Or.inr ⟨Or.inl rfl, _, rfl, ⟨fun h => (by cases h), fun h => (by cases h)⟩, Or.inl tw_569, tw_570, fun r h => (by cases h; decide +kernel)⟩)⟩,
  ⟨by decide +kernel, by decide +kernel, by decide +kernel⟩,
  ⟨by decide +kernel, by decide +kernel, by decide +kernel⟩,
  ⟨by decide +kernel, Or.inr ⟨rfl, rfl⟩⟩,
  ⟨by decide +kernel, by decide +kernel, by decide +kernel⟩,
  ⟨by decide +kernel, by decide +kernel, by decide +kernel⟩,
  ⟨by decide +kernel, by decide +kernel, _, rfl, by decide, tw_462, ⟨.int, by decide +kernel, Or.inl ⟨rfl, rfl⟩⟩, Or.inl rfl⟩,
  ⟨by decide +kernel, by decide +kernel, by decide +kernel⟩,
  ⟨by decide +kernel, Or.inr ⟨rfl, rfl⟩⟩,
  trivial⟩
end
section
/-! Each instruction's entry is what the code says, 4. -/
set_option maxRecDepth 100000 in
set_option maxHeartbeats 4000000 in
theorem ok_M_action : ax_okl ax_Ms ax_Xs ax_NMs ax_cl ax_TT ax_NLs nm_M_action prog_7_method_7_code (some .int) 4 cd_M_action 0 cd_M_action := ⟨
  ⟨by decide +kernel, by decide +kernel, by decide +kernel⟩,
  ⟨by decide +kernel, by decide +kernel, by decide +kernel⟩,
  ⟨by decide +kernel, by decide +kernel, _, rfl, by decide, tw_459, ⟨.int, by decide +kernel, Or.inl ⟨rfl, rfl⟩⟩, Or.inl rfl⟩,
  ⟨by decide +kernel, by decide +kernel, by decide +kernel⟩,
  ⟨by decide +kernel, by decide +kernel, _, rfl, by decide, tw_463⟩,
  ⟨by decide +kernel, by decide +kernel, by decide +kernel⟩,
  ⟨by decide +kernel, by decide +kernel, by decide +kernel⟩,
  ⟨by decide +kernel, by decide +kernel, by decide +kernel⟩,
  ⟨by decide +kernel, by decide +kernel, by decide +kernel⟩,
  ⟨by decide +kernel, by decide +kernel, by decide +kernel⟩,
  ⟨by decide +kernel, by decide +kernel, Or.inr (Or.inr ⟨Or.inl rfl, _, rfl, ⟨fun h => (by cases h), fun h => (by cases h)⟩, Or.inl tw_569, tw_570, fun r h => (by cases h; decide +kernel)⟩)⟩,
  ⟨by decide +kernel, by decide +kernel, by decide +kernel⟩,
  ⟨by decide +kernel, by decide +kernel, by decide +kernel⟩,
  ⟨by decide +kernel, by decide +kernel, by decide +kernel⟩,
  ⟨by decide +kernel, by decide +kernel, by decide +kernel⟩,
  ⟨by decide +kernel, by decide +kernel, Or.inr (Or.inr ⟨Or.inl rfl, _, rfl, ⟨fun h => (by cases h), fun h => (by cases h)⟩, Or.inl tw_569, tw_570, fun r h => (by cases h; decide +kernel)⟩)⟩,
  ⟨by decide +kernel, by decide +kernel, by decide +kernel⟩,
  ⟨by decide +kernel, by decide +kernel, by decide +kernel⟩,
  ⟨by decide +kernel, by decide +kernel, by decide +kernel⟩,
  ⟨by decide +kernel, by decide +kernel, tw_458⟩,
  ⟨by decide +kernel, by decide +kernel, Or.inr (Or.inr ⟨Or.inl rfl, _, rfl, ⟨fun h => (by cases h), fun h => (by cases h)⟩, Or.inl tw_569, tw_570, fun r h => (by cases h; decide +kernel)⟩)⟩,
  ⟨by decide +kernel, by decide +kernel, by decide +kernel⟩,
  ⟨by decide +kernel, by decide +kernel, by decide +kernel⟩,
  ⟨by decide +kernel, Or.inl ⟨rfl, rfl⟩⟩,
  ⟨by decide +kernel, by decide +kernel, by decide +kernel⟩,
  ⟨by decide +kernel, by decide +kernel, _, rfl, by decide, tw_464⟩,
  ⟨by decide +kernel, by decide +kernel, by decide +kernel⟩,
  ⟨by decide +kernel, by decide +kernel, _, rfl, by decide, tw_463⟩,
  ⟨by decide +kernel, by decide +kernel, by decide +kernel⟩,
  ⟨by decide +kernel, by decide +kernel⟩,
  ⟨by decide +kernel, by decide +kernel, by decide +kernel⟩,
  ⟨by decide +kernel, by decide +kernel, _, rfl, by decide, tw_465⟩,
  ⟨by decide +kernel, by decide +kernel, by decide +kernel⟩,
  ⟨by decide +kernel, by decide +kernel, _, rfl, by decide, tw_463⟩,
  ⟨by decide +kernel, by decide +kernel, by decide +kernel⟩,
  ⟨by decide +kernel, by decide +kernel⟩,
  ⟨by decide +kernel, by decide +kernel, by decide +kernel⟩,
  ⟨by decide +kernel, by decide +kernel, _, rfl, by decide, tw_466⟩,
  ⟨by decide +kernel, by decide +kernel, by decide +kernel⟩,
  ⟨by decide +kernel, by decide +kernel, _, rfl, by decide, tw_463⟩,
  ⟨by decide +kernel, by decide +kernel, by decide +kernel⟩,
  ⟨by decide +kernel, by decide +kernel⟩,
  ⟨by decide +kernel, by decide +kernel, by decide +kernel⟩,
  ⟨by decide +kernel, by decide +kernel⟩,
  ⟨by decide +kernel, by decide +kernel, _, rfl, by decide, tw_463⟩,
  ⟨by decide +kernel, by decide +kernel, by decide +kernel⟩,
  ⟨by decide +kernel, by decide +kernel⟩,
  ⟨by decide +kernel, by decide +kernel, _, rfl, by decide, tw_463, ⟨.int, by decide +kernel, Or.inl ⟨rfl, rfl⟩⟩, Or.inl rfl⟩,
  ⟨by decide +kernel, by decide +kernel, by decide +kernel⟩,
  ⟨by decide +kernel, by decide +kernel, _, rfl, by decide, tw_463⟩,
  ⟨by decide +kernel, by decide +kernel, by decide +kernel⟩,
  ⟨by decide +kernel, by decide +kernel⟩,
  ⟨by decide +kernel, Or.inl ⟨rfl, rfl⟩⟩,
  trivial⟩
set_option maxRecDepth 100000 in
set_option maxHeartbeats 4000000 in
theorem ok_M_about : ax_okl ax_Ms ax_Xs ax_NMs ax_cl ax_TT ax_NLs nm_M_about prog_7_method_8_code (some .boolean) 5 cd_M_about 0 cd_M_about := ⟨
  ⟨by decide +kernel, by decide +kernel, by decide +kernel⟩,
  ⟨by decide +kernel, by decide +kernel, by decide +kernel⟩,
  ⟨by decide +kernel, by decide +kernel, _, rfl, by decide, tw_459, ⟨.int, by decide +kernel, Or.inl ⟨rfl, rfl⟩⟩, Or.inl rfl⟩,
  ⟨by decide +kernel, by decide +kernel, by decide +kernel⟩,
  ⟨by decide +kernel, by decide +kernel, by decide +kernel⟩,
  ⟨by decide +kernel, by decide +kernel, Or.inl rfl, _, 5, _, rfl, rfl, rfl, rfl, ⟨fun h => (by cases h), fun h => (by cases h)⟩, Or.inl tw_580, tw_582, tw_17, fun r h => (by cases h; exact ⟨_, rfl, by decide +kernel⟩)⟩,
  ⟨by decide +kernel, by decide +kernel, by decide +kernel⟩,
  ⟨by decide +kernel, by decide +kernel, by decide +kernel⟩,
  ⟨by decide +kernel, by decide +kernel, by decide +kernel⟩,
  ⟨by decide +kernel, by decide +kernel, by decide +kernel⟩,
  ⟨by decide +kernel, by decide +kernel, Or.inr (Or.inr ⟨Or.inl rfl, _, rfl, ⟨fun h => (by cases h), fun h => (by cases h)⟩, Or.inl tw_569, tw_570, fun r h => (by cases h; decide +kernel)⟩)⟩,
  ⟨by decide +kernel, by decide +kernel, by decide +kernel⟩,
  ⟨by decide +kernel, by decide +kernel, by decide +kernel⟩,
  ⟨by decide +kernel, Or.inr ⟨rfl, rfl⟩⟩,
  ⟨by decide +kernel, by decide +kernel, by decide +kernel⟩,
  ⟨by decide +kernel, by decide +kernel, _, rfl, by decide, tw_472⟩,
  ⟨by decide +kernel, by decide +kernel, by decide +kernel⟩,
  ⟨by decide +kernel, by decide +kernel, by decide +kernel⟩,
  ⟨by decide +kernel, by decide +kernel⟩,
  ⟨by decide +kernel, by decide +kernel, by decide +kernel⟩,
  ⟨by decide +kernel, by decide +kernel, _, rfl, by decide, tw_467⟩,
  ⟨by decide +kernel, by decide +kernel, by decide +kernel⟩,
  ⟨by decide +kernel, by decide +kernel, by decide +kernel⟩,
  ⟨by decide +kernel, by decide +kernel, by decide +kernel⟩,
  ⟨by decide +kernel, by decide +kernel⟩,
  ⟨by decide +kernel, by decide +kernel⟩,
  ⟨by decide +kernel, by decide +kernel, by decide +kernel⟩,
  ⟨by decide +kernel, by decide +kernel, _, rfl, by decide, tw_468⟩,
  ⟨by decide +kernel, by decide +kernel, by decide +kernel⟩,
  ⟨by decide +kernel, by decide +kernel, by decide +kernel⟩,
  ⟨by decide +kernel, by decide +kernel⟩,
  ⟨by decide +kernel, by decide +kernel, by decide +kernel⟩,
  ⟨by decide +kernel, Or.inr ⟨rfl, rfl⟩⟩,
  trivial⟩
set_option maxRecDepth 100000 in
set_option maxHeartbeats 4000000 in
theorem ok_M_fails : ax_okl ax_Ms ax_Xs ax_NMs ax_cl ax_TT ax_NLs nm_M_fails prog_7_method_9_code (some .boolean) 4 cd_M_fails 0 cd_M_fails := ⟨
  ⟨by decide +kernel, by decide +kernel, by decide +kernel⟩,
  ⟨by decide +kernel, by decide +kernel, by decide +kernel⟩,
  ⟨by decide +kernel, by decide +kernel, _, rfl, by decide, tw_459, ⟨.int, by decide +kernel, Or.inl ⟨rfl, rfl⟩⟩, Or.inl rfl⟩,
  ⟨by decide +kernel, by decide +kernel, by decide +kernel⟩,
  ⟨by decide +kernel, by decide +kernel, by decide +kernel⟩,
  ⟨by decide +kernel, by decide +kernel, Or.inl rfl, _, 5, _, rfl, rfl, rfl, rfl, ⟨fun h => (by cases h), fun h => (by cases h)⟩, Or.inl tw_580, tw_582, tw_17, fun r h => (by cases h; exact ⟨_, rfl, by decide +kernel⟩)⟩,
  ⟨by decide +kernel, by decide +kernel, by decide +kernel⟩,
  ⟨by decide +kernel, by decide +kernel, by decide +kernel⟩,
  ⟨by decide +kernel, by decide +kernel, by decide +kernel⟩,
  ⟨by decide +kernel, by decide +kernel, by decide +kernel⟩,
  ⟨by decide +kernel, by decide +kernel, Or.inr (Or.inr ⟨Or.inl rfl, _, rfl, ⟨fun h => (by cases h), fun h => (by cases h)⟩, Or.inl tw_569, tw_570, fun r h => (by cases h; decide +kernel)⟩)⟩,
  ⟨by decide +kernel, by decide +kernel, by decide +kernel⟩,
  ⟨by decide +kernel, by decide +kernel, by decide +kernel⟩,
  ⟨by decide +kernel, by decide +kernel, by decide +kernel⟩,
  ⟨by decide +kernel, by decide +kernel, by decide +kernel⟩,
  ⟨by decide +kernel, by decide +kernel, Or.inr (Or.inr ⟨Or.inl rfl, _, rfl, ⟨fun h => (by cases h), fun h => (by cases h)⟩, Or.inl tw_569, tw_570, fun r h => (by cases h; decide +kernel)⟩)⟩,
  ⟨by decide +kernel, by decide +kernel, by decide +kernel⟩,
  ⟨by decide +kernel, by decide +kernel, by decide +kernel⟩,
  ⟨by decide +kernel, Or.inr ⟨rfl, rfl⟩⟩,
  ⟨by decide +kernel, by decide +kernel, by decide +kernel⟩,
  ⟨by decide +kernel, by decide +kernel, _, rfl, by decide, tw_469⟩,
  ⟨by decide +kernel, by decide +kernel, by decide +kernel⟩,
  ⟨by decide +kernel, by decide +kernel, by decide +kernel⟩,
  ⟨by decide +kernel, by decide +kernel⟩,
  ⟨by decide +kernel, by decide +kernel, by decide +kernel⟩,
  ⟨by decide +kernel, by decide +kernel, _, rfl, by decide, tw_470⟩,
  ⟨by decide +kernel, by decide +kernel, by decide +kernel⟩,
  ⟨by decide +kernel, by decide +kernel, by decide +kernel⟩,
  ⟨by decide +kernel, by decide +kernel⟩,
  ⟨by decide +kernel, by decide +kernel, by decide +kernel⟩,
  ⟨by decide +kernel, Or.inr ⟨rfl, rfl⟩⟩,
  trivial⟩
set_option maxRecDepth 100000 in
set_option maxHeartbeats 4000000 in
theorem ok_M_all : ax_okl ax_Ms ax_Xs ax_NMs ax_cl ax_TT ax_NLs nm_M_all prog_7_method_10_code (some .int) 6 cd_M_all 0 cd_M_all := ⟨
  ⟨by decide +kernel, by decide +kernel, by decide +kernel⟩,
  ⟨by decide +kernel, by decide +kernel, _, rfl, by decide, tw_471⟩,
  ⟨by decide +kernel, by decide +kernel, by decide +kernel⟩,
  ⟨by decide +kernel, by decide +kernel⟩,
  ⟨by decide +kernel, by decide +kernel, by decide +kernel, by decide +kernel⟩,
  ⟨by decide +kernel, by decide +kernel, by decide +kernel⟩,
  ⟨by decide +kernel, by decide +kernel, by decide +kernel, by decide +kernel⟩,
  ⟨by decide +kernel, by decide +kernel, by decide +kernel⟩,
  ⟨by decide +kernel, by decide +kernel, by decide +kernel⟩,
  ⟨by decide +kernel, by decide +kernel, by decide +kernel⟩,
  ⟨by decide +kernel, by decide +kernel, by decide +kernel, by decide +kernel⟩,
  ⟨by decide +kernel, by decide +kernel, by decide +kernel⟩,
  ⟨by decide +kernel, by decide +kernel, by decide +kernel, by decide +kernel⟩,
  ⟨by decide +kernel, by decide +kernel, by decide +kernel⟩,
  ⟨by decide +kernel, by decide +kernel, by decide +kernel⟩,
  ⟨by decide +kernel, by decide +kernel, _, rfl, by decide, tw_463⟩,
  ⟨by decide +kernel, by decide +kernel, by decide +kernel⟩,
  ⟨by decide +kernel, by decide +kernel, by decide +kernel⟩,
  ⟨by decide +kernel, by decide +kernel, by decide +kernel⟩,
  ⟨by decide +kernel, by decide +kernel⟩,
  ⟨by decide +kernel, by decide +kernel, by decide +kernel⟩,
  ⟨by decide +kernel, by decide +kernel⟩,
  ⟨by decide +kernel, by decide +kernel, by decide +kernel⟩,
  ⟨by decide +kernel, by decide +kernel, by decide +kernel⟩,
  ⟨by decide +kernel, by decide +kernel, by decide +kernel⟩,
  ⟨by decide +kernel, by decide +kernel, by decide +kernel⟩,
  ⟨by decide +kernel, by decide +kernel, _, rfl, by decide, tw_471⟩,
  ⟨by decide +kernel, by decide +kernel, by decide +kernel⟩,
  ⟨by decide +kernel, by decide +kernel⟩,
  ⟨by decide +kernel, by decide +kernel⟩,
  ⟨by decide +kernel, by decide +kernel⟩,
  ⟨by decide +kernel, by decide +kernel, by decide +kernel⟩,
  ⟨by decide +kernel, by decide +kernel, by decide +kernel, by decide +kernel⟩,
  ⟨by decide +kernel, by decide +kernel, by decide +kernel, by decide +kernel, by decide +kernel⟩,
  ⟨by decide +kernel, by decide +kernel⟩,
  ⟨by decide +kernel, by decide +kernel, by decide +kernel⟩,
  ⟨by decide +kernel, by decide +kernel, by decide +kernel⟩,
  ⟨by decide +kernel, by decide +kernel, by decide +kernel⟩,
  ⟨by decide +kernel, by decide +kernel, by decide +kernel⟩,
  ⟨by decide +kernel, by decide +kernel⟩,
  ⟨by decide +kernel, by decide +kernel, by decide +kernel⟩,
  ⟨by decide +kernel, by decide +kernel, by decide +kernel, by decide +kernel⟩,
  ⟨by decide +kernel, by decide +kernel, by decide +kernel⟩,
  ⟨by decide +kernel, by decide +kernel, by decide +kernel, by decide +kernel⟩,
  ⟨by decide +kernel, by decide +kernel⟩,
  ⟨by decide +kernel, by decide +kernel, by decide +kernel⟩,
  ⟨by decide +kernel, Or.inl ⟨rfl, rfl⟩⟩,
  trivial⟩
set_option maxRecDepth 100000 in
set_option maxHeartbeats 4000000 in
theorem ok_M_needs : ax_okl ax_Ms ax_Xs ax_NMs ax_cl ax_TT ax_NLs nm_M_needs prog_7_method_11_code (some .int) 3 cd_M_needs 0 cd_M_needs := ⟨
  ⟨by decide +kernel, by decide +kernel, by decide +kernel⟩,
  ⟨by decide +kernel, by decide +kernel, by decide +kernel⟩,
  ⟨by decide +kernel, by decide +kernel, _, rfl, by decide, tw_459, ⟨.int, by decide +kernel, Or.inl ⟨rfl, rfl⟩⟩, Or.inl rfl⟩,
  ⟨by decide +kernel, by decide +kernel, by decide +kernel⟩,
  ⟨by decide +kernel, by decide +kernel, by decide +kernel⟩,
  ⟨by decide +kernel, by decide +kernel, Or.inl rfl, _, 5, _, rfl, rfl, rfl, rfl, ⟨fun h => (by cases h), fun h => (by cases h)⟩, Or.inl tw_580, tw_582, tw_17, fun r h => (by cases h; exact ⟨_, rfl, by decide +kernel⟩)⟩,
  ⟨by decide +kernel, by decide +kernel, by decide +kernel⟩,
  ⟨by decide +kernel, by decide +kernel, by decide +kernel⟩,
  ⟨by decide +kernel, by decide +kernel, by decide +kernel⟩,
  ⟨by decide +kernel, by decide +kernel, Or.inl rfl, _, 5, _, rfl, rfl, rfl, rfl, ⟨fun h => (by cases h), fun h => (by cases h)⟩, Or.inl tw_580, tw_582, tw_17, fun r h => (by cases h; exact ⟨_, rfl, by decide +kernel⟩)⟩,
  ⟨by decide +kernel, by decide +kernel, by decide +kernel⟩,
  ⟨by decide +kernel, by decide +kernel, by decide +kernel⟩,
  ⟨by decide +kernel, by decide +kernel, _, rfl, by decide, tw_471⟩,
  ⟨by decide +kernel, by decide +kernel, by decide +kernel⟩,
  ⟨by decide +kernel, by decide +kernel⟩,
  ⟨by decide +kernel, by decide +kernel, by decide +kernel⟩,
  ⟨by decide +kernel, by decide +kernel⟩,
  ⟨by decide +kernel, by decide +kernel, by decide +kernel⟩,
  ⟨by decide +kernel, by decide +kernel⟩,
  ⟨by decide +kernel, by decide +kernel, by decide +kernel⟩,
  ⟨by decide +kernel, by decide +kernel, by decide +kernel⟩,
  ⟨by decide +kernel, by decide +kernel, by decide +kernel⟩,
  ⟨by decide +kernel, Or.inl ⟨rfl, rfl⟩⟩,
  ⟨by decide +kernel, by decide +kernel, by decide +kernel⟩,
  ⟨by decide +kernel, by decide +kernel, by decide +kernel⟩,
  ⟨by decide +kernel, by decide +kernel, by decide +kernel⟩,
  ⟨by decide +kernel, by decide +kernel, by decide +kernel⟩,
  ⟨by decide +kernel, by decide +kernel, by decide +kernel⟩,
  ⟨by decide +kernel, by decide +kernel, Or.inl rfl, _, 5, _, rfl, rfl, rfl, rfl, ⟨fun h => (by cases h), fun h => (by cases h)⟩, Or.inl tw_592, tw_594, tw_18, fun r h => (by cases h; exact ⟨_, rfl, by decide +kernel⟩)⟩,
  ⟨by decide +kernel, by decide +kernel, by decide +kernel⟩,
  ⟨by decide +kernel, by decide +kernel⟩,
  ⟨by decide +kernel, by decide +kernel, by decide +kernel⟩,
  ⟨by decide +kernel, by decide +kernel⟩,
  ⟨by decide +kernel, by decide +kernel, by decide +kernel⟩,
  ⟨by decide +kernel, by decide +kernel, by decide +kernel⟩,
  ⟨by decide +kernel, by decide +kernel, by decide +kernel⟩,
  ⟨by decide +kernel, Or.inl ⟨rfl, rfl⟩⟩,
  ⟨by decide +kernel, by decide +kernel, by decide +kernel⟩,
  ⟨by decide +kernel, by decide +kernel, _, rfl, by decide, tw_471⟩,
  ⟨by decide +kernel, by decide +kernel, by decide +kernel⟩,
  ⟨by decide +kernel, by decide +kernel, by decide +kernel⟩,
  ⟨by decide +kernel, by decide +kernel, _, rfl, by decide, tw_471⟩,
  ⟨by decide +kernel, by decide +kernel, by decide +kernel⟩,
  ⟨by decide +kernel, by decide +kernel⟩,
  ⟨by decide +kernel, by decide +kernel, by decide +kernel⟩,
  ⟨by decide +kernel, by decide +kernel, by decide +kernel⟩,
  ⟨by decide +kernel, by decide +kernel⟩,
  ⟨by decide +kernel, by decide +kernel⟩,
  ⟨by decide +kernel, by decide +kernel⟩,
  ⟨by decide +kernel, by decide +kernel, by decide +kernel⟩,
  ⟨by decide +kernel, Or.inl ⟨rfl, rfl⟩⟩,
  trivial⟩
set_option maxRecDepth 100000 in
set_option maxHeartbeats 4000000 in
theorem ok_M_wish : ax_okl ax_Ms ax_Xs ax_NMs ax_cl ax_TT ax_NLs nm_M_wish prog_7_method_12_code (some .boolean) 3 cd_M_wish 0 cd_M_wish := ⟨
  ⟨by decide +kernel, by decide +kernel, by decide +kernel⟩,
  ⟨by decide +kernel, by decide +kernel, by decide +kernel⟩,
  ⟨by decide +kernel, by decide +kernel, _, rfl, by decide, tw_459, ⟨.int, by decide +kernel, Or.inl ⟨rfl, rfl⟩⟩, Or.inl rfl⟩,
  ⟨by decide +kernel, by decide +kernel, by decide +kernel⟩,
  ⟨by decide +kernel, by decide +kernel, by decide +kernel⟩,
  ⟨by decide +kernel, by decide +kernel, Or.inl rfl, _, 5, _, rfl, rfl, rfl, rfl, ⟨fun h => (by cases h), fun h => (by cases h)⟩, Or.inl tw_580, tw_582, tw_17, fun r h => (by cases h; exact ⟨_, rfl, by decide +kernel⟩)⟩,
  ⟨by decide +kernel, by decide +kernel, by decide +kernel⟩,
  ⟨by decide +kernel, by decide +kernel, by decide +kernel⟩,
  ⟨by decide +kernel, Or.inr ⟨rfl, rfl⟩⟩,
  ⟨by decide +kernel, by decide +kernel, by decide +kernel⟩,
  ⟨by decide +kernel, by decide +kernel, _, rfl, by decide, tw_473⟩,
  ⟨by decide +kernel, by decide +kernel, by decide +kernel⟩,
  ⟨by decide +kernel, by decide +kernel, by decide +kernel⟩,
  ⟨by decide +kernel, by decide +kernel⟩,
  ⟨by decide +kernel, by decide +kernel, by decide +kernel⟩,
  ⟨by decide +kernel, Or.inr ⟨rfl, rfl⟩⟩,
  trivial⟩
set_option maxRecDepth 100000 in
set_option maxHeartbeats 4000000 in
theorem ok_M_mode : ax_okl ax_Ms ax_Xs ax_NMs ax_cl ax_TT ax_NLs nm_M_mode prog_7_method_13_code (some .boolean) 3 cd_M_mode 0 cd_M_mode := ⟨
  ⟨by decide +kernel, by decide +kernel, by decide +kernel⟩,
  ⟨by decide +kernel, by decide +kernel, by decide +kernel⟩,
  ⟨by decide +kernel, by decide +kernel, _, rfl, by decide, tw_459, ⟨.int, by decide +kernel, Or.inl ⟨rfl, rfl⟩⟩, Or.inl rfl⟩,
  ⟨by decide +kernel, by decide +kernel, by decide +kernel⟩,
  ⟨by decide +kernel, by decide +kernel, by decide +kernel⟩,
  ⟨by decide +kernel, by decide +kernel, by decide +kernel⟩,
  ⟨by decide +kernel, by decide +kernel, Or.inr (Or.inr ⟨Or.inl rfl, _, rfl, ⟨fun h => (by cases h), fun h => (by cases h)⟩, Or.inl tw_569, tw_570, fun r h => (by cases h; decide +kernel)⟩)⟩,
  ⟨by decide +kernel, by decide +kernel, by decide +kernel⟩,
  ⟨by decide +kernel, by decide +kernel, by decide +kernel⟩,
  ⟨by decide +kernel, Or.inr ⟨rfl, rfl⟩⟩,
  ⟨by decide +kernel, by decide +kernel, by decide +kernel⟩,
  ⟨by decide +kernel, by decide +kernel, _, rfl, by decide, tw_475⟩,
  ⟨by decide +kernel, by decide +kernel, by decide +kernel⟩,
  ⟨by decide +kernel, by decide +kernel, by decide +kernel⟩,
  ⟨by decide +kernel, by decide +kernel⟩,
  ⟨by decide +kernel, by decide +kernel, by decide +kernel⟩,
  ⟨by decide +kernel, Or.inr ⟨rfl, rfl⟩⟩,
  trivial⟩
set_option maxRecDepth 100000 in
set_option maxHeartbeats 4000000 in
theorem ok_M_retries : ax_okl ax_Ms ax_Xs ax_NMs ax_cl ax_TT ax_NLs nm_M_retries prog_7_method_14_code (some .boolean) 3 cd_M_retries 0 cd_M_retries := ⟨
  ⟨by decide +kernel, by decide +kernel, by decide +kernel⟩,
  ⟨by decide +kernel, by decide +kernel, by decide +kernel⟩,
  ⟨by decide +kernel, by decide +kernel, _, rfl, by decide, tw_459, ⟨.int, by decide +kernel, Or.inl ⟨rfl, rfl⟩⟩, Or.inl rfl⟩,
  ⟨by decide +kernel, by decide +kernel, by decide +kernel⟩,
  ⟨by decide +kernel, by decide +kernel, by decide +kernel⟩,
  ⟨by decide +kernel, by decide +kernel, by decide +kernel⟩,
  ⟨by decide +kernel, by decide +kernel, Or.inr (Or.inr ⟨Or.inl rfl, _, rfl, ⟨fun h => (by cases h), fun h => (by cases h)⟩, Or.inl tw_569, tw_570, fun r h => (by cases h; decide +kernel)⟩)⟩,
  ⟨by decide +kernel, by decide +kernel, by decide +kernel⟩,
  ⟨by decide +kernel, by decide +kernel, by decide +kernel⟩,
  ⟨by decide +kernel, by decide +kernel, by decide +kernel⟩,
  ⟨by decide +kernel, by decide +kernel, by decide +kernel⟩,
  ⟨by decide +kernel, by decide +kernel, Or.inr (Or.inr ⟨Or.inl rfl, _, rfl, ⟨fun h => (by cases h), fun h => (by cases h)⟩, Or.inl tw_569, tw_570, fun r h => (by cases h; decide +kernel)⟩)⟩,
  ⟨by decide +kernel, by decide +kernel, by decide +kernel⟩,
  ⟨by decide +kernel, by decide +kernel, by decide +kernel⟩,
  ⟨by decide +kernel, Or.inr ⟨rfl, rfl⟩⟩,
  ⟨by decide +kernel, by decide +kernel, by decide +kernel⟩,
  ⟨by decide +kernel, by decide +kernel, _, rfl, by decide, tw_476⟩,
  ⟨by decide +kernel, by decide +kernel, by decide +kernel⟩,
  ⟨by decide +kernel, by decide +kernel, by decide +kernel⟩,
  ⟨by decide +kernel, by decide +kernel⟩,
  ⟨by decide +kernel, by decide +kernel, by decide +kernel⟩,
  ⟨by decide +kernel, Or.inr ⟨rfl, rfl⟩⟩,
  trivial⟩
set_option maxRecDepth 100000 in
set_option maxHeartbeats 4000000 in
theorem ok_M_want : ax_okl ax_Ms ax_Xs ax_NMs ax_cl ax_TT ax_NLs nm_M_want prog_7_method_15_code (none) 4 cd_M_want 0 cd_M_want := ⟨
  ⟨by decide +kernel, by decide +kernel, by decide +kernel⟩,
  ⟨by decide +kernel, by decide +kernel, by decide +kernel, by decide +kernel⟩,
  ⟨by decide +kernel, by decide +kernel, by decide +kernel⟩,
  ⟨by decide +kernel, by decide +kernel, by decide +kernel⟩,
  ⟨by decide +kernel, by decide +kernel, _, rfl, by decide, tw_463⟩,
  ⟨by decide +kernel, by decide +kernel, by decide +kernel⟩,
  ⟨by decide +kernel, by decide +kernel, by decide +kernel⟩,
  ⟨by decide +kernel, by decide +kernel, _, rfl, by decide, tw_474⟩,
  ⟨by decide +kernel, by decide +kernel, by decide +kernel⟩,
  ⟨by decide +kernel, by decide +kernel, by decide +kernel⟩,
  ⟨by decide +kernel, by decide +kernel⟩,
  ⟨by decide +kernel, by decide +kernel, by decide +kernel, by decide +kernel, by decide +kernel⟩,
  ⟨by decide +kernel, by decide +kernel⟩,
  ⟨by decide +kernel, by decide +kernel, by decide +kernel⟩,
  ⟨by decide +kernel, by decide +kernel, by decide +kernel, by decide +kernel⟩,
  ⟨by decide +kernel, by decide +kernel, by decide +kernel⟩,
  ⟨by decide +kernel, by decide +kernel, by decide +kernel⟩,
  ⟨by decide +kernel, by decide +kernel, _, rfl, by decide, tw_463⟩,
  ⟨by decide +kernel, by decide +kernel, by decide +kernel⟩,
  ⟨by decide +kernel, by decide +kernel, by decide +kernel⟩,
  ⟨by decide +kernel, by decide +kernel, _, rfl, by decide, tw_473⟩,
  ⟨by decide +kernel, by decide +kernel, by decide +kernel⟩,
  ⟨by decide +kernel, by decide +kernel⟩,
  ⟨by decide +kernel, by decide +kernel, by decide +kernel⟩,
  ⟨by decide +kernel, by decide +kernel⟩,
  ⟨by decide +kernel, by decide +kernel, by decide +kernel⟩,
  ⟨by decide +kernel, by decide +kernel, by decide +kernel⟩,
  ⟨by decide +kernel, by decide +kernel, Or.inl rfl, _, 5, _, rfl, rfl, rfl, rfl, ⟨fun h => (by cases h), fun h => (by cases h)⟩, Or.inl tw_592, tw_594, tw_18, fun r h => (by cases h; exact ⟨_, rfl, by decide +kernel⟩)⟩,
  ⟨by decide +kernel, by decide +kernel, by decide +kernel⟩,
  ⟨by decide +kernel, by decide +kernel, by decide +kernel⟩,
  ⟨by decide +kernel, by decide +kernel⟩,
  ⟨by decide +kernel, by decide +kernel⟩,
  ⟨by decide +kernel, by decide +kernel, by decide +kernel, by decide +kernel⟩,
  ⟨by decide +kernel, by decide +kernel, by decide +kernel⟩,
  ⟨by decide +kernel, by decide +kernel, by decide +kernel, by decide +kernel⟩,
  ⟨by decide +kernel, by decide +kernel, by decide +kernel⟩,
  ⟨by decide +kernel, by decide +kernel, by decide +kernel⟩,
  ⟨by decide +kernel, by decide +kernel, _, rfl, by decide, tw_463⟩,
  ⟨by decide +kernel, by decide +kernel, by decide +kernel⟩,
  ⟨by decide +kernel, by decide +kernel, by decide +kernel⟩,
  ⟨by decide +kernel, by decide +kernel, _, rfl, by decide, tw_474⟩,
  ⟨by decide +kernel, by decide +kernel, by decide +kernel⟩,
  ⟨by decide +kernel, by decide +kernel, by decide +kernel⟩,
  ⟨by decide +kernel, by decide +kernel, _, rfl, by decide, tw_474⟩,
  ⟨by decide +kernel, by decide +kernel, by decide +kernel⟩,
  ⟨by decide +kernel, by decide +kernel⟩,
  ⟨by decide +kernel, by decide +kernel, by decide +kernel⟩,
  ⟨by decide +kernel, by decide +kernel, by decide +kernel⟩,
  ⟨by decide +kernel, by decide +kernel, by decide +kernel⟩,
  ⟨by decide +kernel, by decide +kernel⟩,
  ⟨by decide +kernel, by decide +kernel, by decide +kernel⟩,
  ⟨by decide +kernel, by decide +kernel⟩,
  ⟨by decide +kernel, by decide +kernel, by decide +kernel⟩,
  ⟨by decide +kernel, by decide +kernel, by decide +kernel⟩,
  ⟨by decide +kernel, by decide +kernel, by decide +kernel⟩,
  ⟨by decide +kernel, by decide +kernel⟩,
  ⟨by decide +kernel, by decide +kernel, by decide +kernel⟩,
  ⟨by decide +kernel, by decide +kernel⟩,
  ⟨by decide +kernel, by decide +kernel, by decide +kernel, by decide +kernel, by decide +kernel⟩,
  ⟨by decide +kernel, by decide +kernel⟩,
  ⟨by decide +kernel, by decide +kernel, by decide +kernel, by decide +kernel, by decide +kernel⟩,
  ⟨by decide +kernel, by decide +kernel⟩,
  ⟨by decide +kernel, by decide +kernel, by decide +kernel⟩,
  ⟨by decide +kernel, by decide +kernel, by decide +kernel, by decide +kernel⟩,
  ⟨by decide +kernel, by decide +kernel, by decide +kernel⟩,
  ⟨by decide +kernel, by decide +kernel, by decide +kernel⟩,
  ⟨by decide +kernel, by decide +kernel, _, rfl, by decide, tw_463⟩,
  ⟨by decide +kernel, by decide +kernel, by decide +kernel⟩,
  ⟨by decide +kernel, by decide +kernel, by decide +kernel⟩,
  ⟨by decide +kernel, by decide +kernel, _, rfl, by decide, tw_477⟩,
  ⟨by decide +kernel, by decide +kernel, by decide +kernel⟩,
  ⟨by decide +kernel, by decide +kernel, by decide +kernel⟩,
  ⟨by decide +kernel, by decide +kernel, _, rfl, by decide, tw_474⟩,
  ⟨by decide +kernel, by decide +kernel, by decide +kernel⟩,
  ⟨by decide +kernel, by decide +kernel⟩,
  ⟨by decide +kernel, by decide +kernel, by decide +kernel⟩,
  ⟨by decide +kernel, by decide +kernel, by decide +kernel⟩,
  ⟨by decide +kernel, by decide +kernel, _, rfl, by decide, tw_464⟩,
  ⟨by decide +kernel, by decide +kernel, by decide +kernel⟩,
  ⟨by decide +kernel, by decide +kernel⟩,
  ⟨by decide +kernel, by decide +kernel⟩,
  ⟨by decide +kernel, by decide +kernel, by decide +kernel⟩,
  ⟨by decide +kernel, by decide +kernel⟩,
  ⟨by decide +kernel, by decide +kernel, by decide +kernel, by decide +kernel, by decide +kernel⟩,
  ⟨by decide +kernel, by decide +kernel⟩,
  ⟨by decide +kernel, by decide +kernel, by decide +kernel⟩,
  ⟨by decide +kernel, by decide +kernel, by decide +kernel, by decide +kernel⟩,
  ⟨by decide +kernel, by decide +kernel, by decide +kernel⟩,
  ⟨by decide +kernel, by decide +kernel, by decide +kernel⟩,
  ⟨by decide +kernel, by decide +kernel, by decide +kernel⟩,
  ⟨by decide +kernel, by decide +kernel, by decide +kernel, by decide +kernel⟩,
  ⟨by decide +kernel, by decide +kernel, by decide +kernel⟩,
  ⟨by decide +kernel, by decide +kernel, by decide +kernel, by decide +kernel⟩,
  ⟨by decide +kernel, by decide +kernel, by decide +kernel⟩,
  ⟨by decide +kernel, by decide +kernel, by decide +kernel⟩,
  ⟨by decide +kernel, by decide +kernel, _, rfl, by decide, tw_463⟩,
  ⟨by decide +kernel, by decide +kernel, by decide +kernel⟩,
  ⟨by decide +kernel, by decide +kernel, by decide +kernel⟩,
  ⟨by decide +kernel, by decide +kernel, by decide +kernel, by decide +kernel⟩,
  ⟨by decide +kernel, by decide +kernel, by decide +kernel⟩,
  ⟨by decide +kernel, by decide +kernel, by decide +kernel⟩,
  ⟨by decide +kernel, by decide +kernel, _, rfl, by decide, tw_463⟩,
  ⟨by decide +kernel, by decide +kernel, by decide +kernel⟩,
  ⟨by decide +kernel, by decide +kernel, by decide +kernel⟩,
  ⟨by decide +kernel, by decide +kernel, _, rfl, by decide, tw_474⟩,
  ⟨by decide +kernel, by decide +kernel, by decide +kernel⟩,
  ⟨by decide +kernel, by decide +kernel⟩,
  ⟨by decide +kernel, by decide +kernel, by decide +kernel⟩,
  ⟨by decide +kernel, by decide +kernel, by decide +kernel⟩,
  ⟨by decide +kernel, by decide +kernel, _, rfl, by decide, tw_471⟩,
  ⟨by decide +kernel, by decide +kernel, by decide +kernel⟩,
  ⟨by decide +kernel, by decide +kernel⟩,
  ⟨by decide +kernel, by decide +kernel, by decide +kernel⟩,
  ⟨by decide +kernel, by decide +kernel⟩,
  ⟨by decide +kernel, by decide +kernel, by decide +kernel⟩,
  ⟨by decide +kernel, by decide +kernel⟩,
  ⟨by decide +kernel, by decide +kernel, by decide +kernel⟩,
  ⟨by decide +kernel, by decide +kernel, by decide +kernel⟩,
  ⟨by decide +kernel, by decide +kernel, _, rfl, by decide, tw_477⟩,
  ⟨by decide +kernel, by decide +kernel, by decide +kernel⟩,
  ⟨by decide +kernel, by decide +kernel⟩,
  ⟨by decide +kernel, by decide +kernel, by decide +kernel⟩,
  ⟨by decide +kernel, by decide +kernel, _, rfl, by decide, tw_464⟩,
  ⟨by decide +kernel, by decide +kernel, by decide +kernel⟩,
  ⟨by decide +kernel, by decide +kernel⟩,
  ⟨by decide +kernel, by decide +kernel⟩,
  ⟨by decide +kernel, by decide +kernel, by decide +kernel⟩,
  ⟨by decide +kernel, by decide +kernel, _, rfl, by decide, tw_477⟩,
  ⟨by decide +kernel, by decide +kernel, by decide +kernel⟩,
  ⟨by decide +kernel, by decide +kernel⟩,
  ⟨by decide +kernel, by decide +kernel, by decide +kernel⟩,
  ⟨by decide +kernel, by decide +kernel⟩,
  ⟨by decide +kernel, by decide +kernel, by decide +kernel⟩,
  ⟨by decide +kernel, by decide +kernel, _, rfl, by decide, tw_477⟩,
  ⟨by decide +kernel, by decide +kernel, by decide +kernel⟩,
  ⟨by decide +kernel, by decide +kernel, by decide +kernel⟩,
  ⟨by decide +kernel, by decide +kernel, _, rfl, by decide, tw_477⟩,
  ⟨by decide +kernel, by decide +kernel, by decide +kernel⟩,
  ⟨by decide +kernel, by decide +kernel⟩,
  ⟨by decide +kernel, by decide +kernel, by decide +kernel⟩,
  ⟨by decide +kernel, by decide +kernel, _, rfl, by decide, tw_464⟩,
  ⟨by decide +kernel, by decide +kernel, by decide +kernel⟩,
  ⟨by decide +kernel, by decide +kernel⟩,
  ⟨by decide +kernel, by decide +kernel⟩,
  ⟨by decide +kernel, by decide +kernel⟩,
  ⟨by decide +kernel, by decide +kernel, by decide +kernel⟩,
  ⟨by decide +kernel, by decide +kernel, by decide +kernel, by decide +kernel⟩,
  ⟨by decide +kernel, by decide +kernel, by decide +kernel, by decide +kernel, by decide +kernel⟩,
  ⟨by decide +kernel, by decide +kernel⟩,
  ⟨by decide +kernel, by decide +kernel, by decide +kernel, by decide +kernel, by decide +kernel⟩,
  ⟨by decide +kernel, by decide +kernel⟩,
  ⟨by decide +kernel, by decide +kernel⟩,
  ⟨by decide +kernel, rfl⟩,
  trivial⟩
set_option maxRecDepth 100000 in
set_option maxHeartbeats 4000000 in
theorem ok_M_rest : ax_okl ax_Ms ax_Xs ax_NMs ax_cl ax_TT ax_NLs nm_M_rest prog_7_method_16_code (some .int) 2 cd_M_rest 0 cd_M_rest := ⟨
  ⟨by decide +kernel, by decide +kernel, by decide +kernel⟩,
  ⟨by decide +kernel, by decide +kernel, by decide +kernel⟩,
  ⟨by decide +kernel, by decide +kernel, _, rfl, by decide, tw_459, ⟨.int, by decide +kernel, Or.inl ⟨rfl, rfl⟩⟩, Or.inl rfl⟩,
  ⟨by decide +kernel, by decide +kernel, by decide +kernel⟩,
  ⟨by decide +kernel, by decide +kernel, by decide +kernel⟩,
  ⟨by decide +kernel, by decide +kernel, Or.inl rfl, _, 5, _, rfl, rfl, rfl, rfl, ⟨fun h => (by cases h), fun h => (by cases h)⟩, Or.inl tw_580, tw_582, tw_17, fun r h => (by cases h; exact ⟨_, rfl, by decide +kernel⟩)⟩,
  ⟨by decide +kernel, by decide +kernel, by decide +kernel⟩,
  ⟨by decide +kernel, by decide +kernel, by decide +kernel⟩,
  ⟨by decide +kernel, Or.inl ⟨rfl, rfl⟩⟩,
  ⟨by decide +kernel, by decide +kernel, by decide +kernel⟩,
  ⟨by decide +kernel, by decide +kernel, Or.inr rfl, _, 5, _, rfl, rfl, rfl, rfl, ⟨fun _ => rfl, fun _ => rfl⟩, Or.inl tw_612, tw_614, tw_19, fun r h => (by cases h; exact ⟨_, rfl, by decide +kernel⟩)⟩,
  ⟨by decide +kernel, by decide +kernel, by decide +kernel⟩,
  ⟨by decide +kernel, by decide +kernel, _, rfl, by decide, tw_477⟩,
  ⟨by decide +kernel, by decide +kernel, by decide +kernel⟩,
  ⟨by decide +kernel, by decide +kernel⟩,
  ⟨by decide +kernel, Or.inl ⟨rfl, rfl⟩⟩,
  trivial⟩
end
section
/-! Each instruction's entry is what the code says, 5. -/
set_option maxRecDepth 100000 in
set_option maxHeartbeats 4000000 in
theorem ok_M_fresh : ax_okl ax_Ms ax_Xs ax_NMs ax_cl ax_TT ax_NLs nm_M_fresh prog_7_method_17_code (none) 3 cd_M_fresh 0 cd_M_fresh := ⟨
  ⟨by decide +kernel, by decide +kernel, by decide +kernel⟩,
  ⟨by decide +kernel, by decide +kernel, Or.inr rfl, _, 5, _, rfl, rfl, rfl, rfl, ⟨fun _ => rfl, fun _ => rfl⟩, Or.inl tw_612, tw_614, tw_19, fun r h => (by cases h; exact ⟨_, rfl, by decide +kernel⟩)⟩,
  ⟨by decide +kernel, by decide +kernel, by decide +kernel⟩,
  ⟨by decide +kernel, by decide +kernel, by decide +kernel⟩,
  ⟨by decide +kernel, by decide +kernel, _, rfl, by decide, tw_463⟩,
  ⟨by decide +kernel, by decide +kernel, _, rfl, by decide, tw_478, ⟨.int, by decide +kernel, Or.inl ⟨rfl, rfl⟩⟩, Or.inl rfl⟩,
  ⟨by decide +kernel, by decide +kernel, by decide +kernel⟩,
  ⟨by decide +kernel, by decide +kernel, by decide +kernel⟩,
  ⟨by decide +kernel, by decide +kernel, _, rfl, by decide, tw_489, ⟨.int, by decide +kernel, Or.inl ⟨rfl, rfl⟩⟩, Or.inl rfl⟩,
  ⟨by decide +kernel, by decide +kernel, by decide +kernel⟩,
  ⟨by decide +kernel, by decide +kernel, by decide +kernel⟩,
  ⟨by decide +kernel, by decide +kernel, _, rfl, by decide, tw_490, ⟨.int, by decide +kernel, Or.inl ⟨rfl, rfl⟩⟩, Or.inl rfl⟩,
  ⟨by decide +kernel, by decide +kernel, by decide +kernel⟩,
  ⟨by decide +kernel, by decide +kernel, by decide +kernel⟩,
  ⟨by decide +kernel, by decide +kernel, _, rfl, by decide, tw_491, ⟨.int, by decide +kernel, Or.inl ⟨rfl, rfl⟩⟩, Or.inl rfl⟩,
  ⟨by decide +kernel, by decide +kernel, by decide +kernel⟩,
  ⟨by decide +kernel, by decide +kernel, by decide +kernel⟩,
  ⟨by decide +kernel, by decide +kernel, _, rfl, by decide, tw_492, ⟨.int, by decide +kernel, Or.inl ⟨rfl, rfl⟩⟩, Or.inl rfl⟩,
  ⟨by decide +kernel, by decide +kernel, by decide +kernel⟩,
  ⟨by decide +kernel, by decide +kernel, by decide +kernel, by decide +kernel⟩,
  ⟨by decide +kernel, by decide +kernel, by decide +kernel⟩,
  ⟨by decide +kernel, by decide +kernel, by decide +kernel⟩,
  ⟨by decide +kernel, by decide +kernel, by decide +kernel⟩,
  ⟨by decide +kernel, by decide +kernel, by decide +kernel⟩,
  ⟨by decide +kernel, by decide +kernel, _, rfl, by decide, tw_465⟩,
  ⟨by decide +kernel, by decide +kernel, by decide +kernel⟩,
  ⟨by decide +kernel, by decide +kernel⟩,
  ⟨by decide +kernel, by decide +kernel, by decide +kernel⟩,
  ⟨by decide +kernel, by decide +kernel, _, rfl, by decide, tw_460⟩,
  ⟨by decide +kernel, by decide +kernel, by decide +kernel⟩,
  ⟨by decide +kernel, by decide +kernel, by decide +kernel⟩,
  ⟨by decide +kernel, by decide +kernel, _, rfl, by decide, tw_466⟩,
  ⟨by decide +kernel, by decide +kernel, by decide +kernel⟩,
  ⟨by decide +kernel, by decide +kernel⟩,
  ⟨by decide +kernel, by decide +kernel, by decide +kernel⟩,
  ⟨by decide +kernel, by decide +kernel, _, rfl, by decide, tw_461⟩,
  ⟨by decide +kernel, by decide +kernel, by decide +kernel⟩,
  ⟨by decide +kernel, by decide +kernel, by decide +kernel⟩,
  ⟨by decide +kernel, by decide +kernel⟩,
  ⟨by decide +kernel, by decide +kernel, by decide +kernel⟩,
  ⟨by decide +kernel, by decide +kernel, by decide +kernel, by decide +kernel⟩,
  ⟨by decide +kernel, by decide +kernel, by decide +kernel⟩,
  ⟨by decide +kernel, by decide +kernel, _, rfl, by decide, tw_479⟩,
  ⟨by decide +kernel, by decide +kernel, by decide +kernel⟩,
  ⟨by decide +kernel, by decide +kernel, by decide +kernel⟩,
  ⟨by decide +kernel, by decide +kernel, by decide +kernel⟩,
  ⟨by decide +kernel, by decide +kernel, _, rfl, by decide, tw_463⟩,
  ⟨by decide +kernel, by decide +kernel, by decide +kernel⟩,
  ⟨by decide +kernel, by decide +kernel, by decide +kernel⟩,
  ⟨by decide +kernel, by decide +kernel, _, rfl, by decide, tw_474⟩,
  ⟨by decide +kernel, by decide +kernel, by decide +kernel⟩,
  ⟨by decide +kernel, by decide +kernel⟩,
  ⟨by decide +kernel, by decide +kernel, by decide +kernel⟩,
  ⟨by decide +kernel, by decide +kernel, by decide +kernel⟩,
  ⟨by decide +kernel, by decide +kernel⟩,
  ⟨by decide +kernel, by decide +kernel, by decide +kernel⟩,
  ⟨by decide +kernel, by decide +kernel, by decide +kernel⟩,
  ⟨by decide +kernel, by decide +kernel, by decide +kernel⟩,
  ⟨by decide +kernel, by decide +kernel⟩,
  ⟨by decide +kernel, by decide +kernel, by decide +kernel⟩,
  ⟨by decide +kernel, by decide +kernel⟩,
  ⟨by decide +kernel, by decide +kernel, by decide +kernel⟩,
  ⟨by decide +kernel, by decide +kernel, _, rfl, by decide, tw_480⟩,
  ⟨by decide +kernel, by decide +kernel, by decide +kernel⟩,
  ⟨by decide +kernel, by decide +kernel, by decide +kernel⟩,
  ⟨by decide +kernel, by decide +kernel⟩,
  ⟨by decide +kernel, by decide +kernel, by decide +kernel⟩,
  ⟨by decide +kernel, by decide +kernel, _, rfl, by decide, tw_481⟩,
  ⟨by decide +kernel, by decide +kernel, by decide +kernel⟩,
  ⟨by decide +kernel, by decide +kernel, by decide +kernel⟩,
  ⟨by decide +kernel, by decide +kernel⟩,
  ⟨by decide +kernel, by decide +kernel, by decide +kernel⟩,
  ⟨by decide +kernel, by decide +kernel, _, rfl, by decide, tw_482⟩,
  ⟨by decide +kernel, by decide +kernel, by decide +kernel⟩,
  ⟨by decide +kernel, by decide +kernel, by decide +kernel⟩,
  ⟨by decide +kernel, by decide +kernel⟩,
  ⟨by decide +kernel, by decide +kernel, by decide +kernel⟩,
  ⟨by decide +kernel, by decide +kernel, _, rfl, by decide, tw_483⟩,
  ⟨by decide +kernel, by decide +kernel, by decide +kernel⟩,
  ⟨by decide +kernel, by decide +kernel, by decide +kernel⟩,
  ⟨by decide +kernel, by decide +kernel⟩,
  ⟨by decide +kernel, by decide +kernel, by decide +kernel⟩,
  ⟨by decide +kernel, by decide +kernel, _, rfl, by decide, tw_484⟩,
  ⟨by decide +kernel, by decide +kernel, by decide +kernel⟩,
  ⟨by decide +kernel, by decide +kernel, by decide +kernel⟩,
  ⟨by decide +kernel, by decide +kernel⟩,
  ⟨by decide +kernel, by decide +kernel, by decide +kernel⟩,
  ⟨by decide +kernel, by decide +kernel, _, rfl, by decide, tw_485⟩,
  ⟨by decide +kernel, by decide +kernel, by decide +kernel⟩,
  ⟨by decide +kernel, by decide +kernel, by decide +kernel⟩,
  ⟨by decide +kernel, by decide +kernel⟩,
  ⟨by decide +kernel, by decide +kernel, by decide +kernel⟩,
  ⟨by decide +kernel, by decide +kernel, _, rfl, by decide, tw_486⟩,
  ⟨by decide +kernel, by decide +kernel, by decide +kernel⟩,
  ⟨by decide +kernel, by decide +kernel, by decide +kernel⟩,
  ⟨by decide +kernel, by decide +kernel⟩,
  ⟨by decide +kernel, by decide +kernel, by decide +kernel, by decide +kernel, by decide +kernel⟩,
  ⟨by decide +kernel, by decide +kernel⟩,
  ⟨by decide +kernel, rfl⟩,
  trivial⟩
set_option maxRecDepth 100000 in
set_option maxHeartbeats 4000000 in
theorem ok_M_isSpoilt : ax_okl ax_Ms ax_Xs ax_NMs ax_cl ax_TT ax_NLs nm_M_isSpoilt prog_7_method_18_code (some .boolean) 3 cd_M_isSpoilt 0 cd_M_isSpoilt := ⟨
  ⟨by decide +kernel, by decide +kernel, by decide +kernel⟩,
  ⟨by decide +kernel, by decide +kernel, by decide +kernel, by decide +kernel⟩,
  ⟨by decide +kernel, by decide +kernel, by decide +kernel⟩,
  ⟨by decide +kernel, by decide +kernel, by decide +kernel, by decide +kernel⟩,
  ⟨by decide +kernel, by decide +kernel, by decide +kernel⟩,
  ⟨by decide +kernel, by decide +kernel, by decide +kernel⟩,
  ⟨by decide +kernel, by decide +kernel, _, rfl, by decide, tw_463⟩,
  ⟨by decide +kernel, by decide +kernel, by decide +kernel⟩,
  ⟨by decide +kernel, by decide +kernel, by decide +kernel⟩,
  ⟨by decide +kernel, by decide +kernel, by decide +kernel⟩,
  ⟨by decide +kernel, by decide +kernel, by decide +kernel⟩,
  ⟨by decide +kernel, by decide +kernel, _, rfl, by decide, tw_479⟩,
  ⟨by decide +kernel, by decide +kernel, by decide +kernel⟩,
  ⟨by decide +kernel, by decide +kernel⟩,
  ⟨by decide +kernel, by decide +kernel, by decide +kernel⟩,
  ⟨by decide +kernel, by decide +kernel, by decide +kernel⟩,
  ⟨by decide +kernel, by decide +kernel, by decide +kernel⟩,
  ⟨by decide +kernel, by decide +kernel, _, rfl, by decide, tw_479⟩,
  ⟨by decide +kernel, by decide +kernel, by decide +kernel⟩,
  ⟨by decide +kernel, by decide +kernel⟩,
  ⟨by decide +kernel, by decide +kernel, by decide +kernel⟩,
  ⟨by decide +kernel, by decide +kernel, by decide +kernel⟩,
  ⟨by decide +kernel, by decide +kernel, by decide +kernel⟩,
  ⟨by decide +kernel, by decide +kernel⟩,
  ⟨by decide +kernel, by decide +kernel, by decide +kernel⟩,
  ⟨by decide +kernel, by decide +kernel, by decide +kernel, by decide +kernel⟩,
  ⟨by decide +kernel, by decide +kernel, by decide +kernel, by decide +kernel, by decide +kernel⟩,
  ⟨by decide +kernel, by decide +kernel⟩,
  ⟨by decide +kernel, by decide +kernel, by decide +kernel⟩,
  ⟨by decide +kernel, Or.inr ⟨rfl, rfl⟩⟩,
  trivial⟩
set_option maxRecDepth 100000 in
set_option maxHeartbeats 4000000 in
theorem ok_M_end : ax_okl ax_Ms ax_Xs ax_NMs ax_cl ax_TT ax_NLs nm_M_end prog_7_method_19_code (none) 5 cd_M_end 0 cd_M_end := ⟨
  ⟨by decide +kernel, by decide +kernel, by decide +kernel⟩,
  ⟨by decide +kernel, by decide +kernel, _, rfl, by decide, tw_480⟩,
  ⟨by decide +kernel, by decide +kernel, by decide +kernel⟩,
  ⟨by decide +kernel, by decide +kernel, by decide +kernel⟩,
  ⟨by decide +kernel, by decide +kernel⟩,
  ⟨by decide +kernel, by decide +kernel, by decide +kernel⟩,
  ⟨by decide +kernel, by decide +kernel, _, rfl, by decide, tw_481⟩,
  ⟨by decide +kernel, by decide +kernel, by decide +kernel⟩,
  ⟨by decide +kernel, by decide +kernel, by decide +kernel⟩,
  ⟨by decide +kernel, by decide +kernel⟩,
  ⟨by decide +kernel, by decide +kernel, by decide +kernel⟩,
  ⟨by decide +kernel, by decide +kernel, _, rfl, by decide, tw_483⟩,
  ⟨by decide +kernel, by decide +kernel, by decide +kernel⟩,
  ⟨by decide +kernel, by decide +kernel, by decide +kernel⟩,
  ⟨by decide +kernel, by decide +kernel⟩,
  ⟨by decide +kernel, by decide +kernel, by decide +kernel⟩,
  ⟨by decide +kernel, by decide +kernel, by decide +kernel⟩,
  ⟨by decide +kernel, by decide +kernel, _, rfl, by decide, tw_492, ⟨.int, by decide +kernel, Or.inl ⟨rfl, rfl⟩⟩, Or.inl rfl⟩,
  ⟨by decide +kernel, by decide +kernel, by decide +kernel⟩,
  ⟨by decide +kernel, by decide +kernel, _, rfl, by decide, tw_484⟩,
  ⟨by decide +kernel, by decide +kernel, by decide +kernel⟩,
  ⟨by decide +kernel, by decide +kernel⟩,
  ⟨by decide +kernel, by decide +kernel, by decide +kernel⟩,
  ⟨by decide +kernel, by decide +kernel, _, rfl, by decide, tw_469⟩,
  ⟨by decide +kernel, by decide +kernel, by decide +kernel⟩,
  ⟨by decide +kernel, by decide +kernel⟩,
  ⟨by decide +kernel, by decide +kernel, by decide +kernel⟩,
  ⟨by decide +kernel, by decide +kernel, by decide +kernel⟩,
  ⟨by decide +kernel, by decide +kernel, _, rfl, by decide, tw_479⟩,
  ⟨by decide +kernel, by decide +kernel, by decide +kernel⟩,
  ⟨by decide +kernel, by decide +kernel, by decide +kernel⟩,
  ⟨by decide +kernel, by decide +kernel⟩,
  ⟨by decide +kernel, by decide +kernel, by decide +kernel⟩,
  ⟨by decide +kernel, by decide +kernel, _, rfl, by decide, tw_485⟩,
  ⟨by decide +kernel, by decide +kernel, by decide +kernel⟩,
  ⟨by decide +kernel, by decide +kernel, by decide +kernel⟩,
  ⟨by decide +kernel, by decide +kernel⟩,
  ⟨by decide +kernel, rfl⟩,
  ⟨by decide +kernel, by decide +kernel, by decide +kernel⟩,
  ⟨by decide +kernel, by decide +kernel, _, rfl, by decide, tw_486⟩,
  ⟨by decide +kernel, by decide +kernel, by decide +kernel⟩,
  ⟨by decide +kernel, by decide +kernel⟩,
  ⟨by decide +kernel, by decide +kernel, by decide +kernel⟩,
  ⟨by decide +kernel, by decide +kernel, _, rfl, by decide, tw_476⟩,
  ⟨by decide +kernel, by decide +kernel, by decide +kernel⟩,
  ⟨by decide +kernel, by decide +kernel, _, rfl, by decide, tw_470⟩,
  ⟨by decide +kernel, by decide +kernel, by decide +kernel⟩,
  ⟨by decide +kernel, by decide +kernel⟩,
  ⟨by decide +kernel, by decide +kernel⟩,
  ⟨by decide +kernel, by decide +kernel, by decide +kernel⟩,
  ⟨by decide +kernel, by decide +kernel, by decide +kernel⟩,
  ⟨by decide +kernel, by decide +kernel, _, rfl, by decide, tw_475⟩,
  ⟨by decide +kernel, by decide +kernel, by decide +kernel⟩,
  ⟨by decide +kernel, by decide +kernel⟩,
  ⟨by decide +kernel, by decide +kernel, by decide +kernel⟩,
  ⟨by decide +kernel, by decide +kernel, by decide +kernel⟩,
  ⟨by decide +kernel, by decide +kernel, Or.inl rfl, _, 5, _, rfl, rfl, rfl, rfl, ⟨fun h => (by cases h), fun h => (by cases h)⟩, Or.inl tw_632, tw_634, tw_23, fun r h => (by cases h; exact ⟨_, rfl, by decide +kernel⟩)⟩,
  ⟨by decide +kernel, by decide +kernel, by decide +kernel⟩,
  ⟨by decide +kernel, by decide +kernel, by decide +kernel⟩,
  ⟨by decide +kernel, by decide +kernel⟩,
  ⟨by decide +kernel, by decide +kernel, by decide +kernel⟩,
  ⟨by decide +kernel, by decide +kernel, by decide +kernel, by decide +kernel⟩,
  ⟨by decide +kernel, by decide +kernel, by decide +kernel⟩,
  ⟨by decide +kernel, by decide +kernel, _, rfl, by decide, tw_486⟩,
  ⟨by decide +kernel, by decide +kernel, by decide +kernel⟩,
  ⟨by decide +kernel, by decide +kernel⟩,
  ⟨by decide +kernel, by decide +kernel⟩,
  ⟨by decide +kernel, by decide +kernel, by decide +kernel⟩,
  ⟨by decide +kernel, by decide +kernel⟩,
  ⟨by decide +kernel, by decide +kernel⟩,
  ⟨by decide +kernel, by decide +kernel, by decide +kernel⟩,
  ⟨by decide +kernel, by decide +kernel, _, rfl, by decide, tw_479⟩,
  ⟨by decide +kernel, by decide +kernel, by decide +kernel⟩,
  ⟨by decide +kernel, by decide +kernel, by decide +kernel⟩,
  ⟨by decide +kernel, by decide +kernel, by decide +kernel⟩,
  ⟨by decide +kernel, by decide +kernel, by decide +kernel⟩,
  ⟨by decide +kernel, by decide +kernel⟩,
  ⟨by decide +kernel, by decide +kernel, by decide +kernel⟩,
  ⟨by decide +kernel, by decide +kernel⟩,
  ⟨by decide +kernel, rfl⟩,
  trivial⟩
set_option maxRecDepth 100000 in
set_option maxHeartbeats 4000000 in
theorem ok_M_endAll : ax_okl ax_Ms ax_Xs ax_NMs ax_cl ax_TT ax_NLs nm_M_endAll prog_7_method_20_code (none) 3 cd_M_endAll 0 cd_M_endAll := ⟨
  ⟨by decide +kernel, by decide +kernel, by decide +kernel⟩,
  ⟨by decide +kernel, by decide +kernel, by decide +kernel, by decide +kernel⟩,
  ⟨by decide +kernel, by decide +kernel, by decide +kernel⟩,
  ⟨by decide +kernel, by decide +kernel, by decide +kernel⟩,
  ⟨by decide +kernel, by decide +kernel, _, rfl, by decide, tw_463⟩,
  ⟨by decide +kernel, by decide +kernel, by decide +kernel⟩,
  ⟨by decide +kernel, by decide +kernel, by decide +kernel⟩,
  ⟨by decide +kernel, by decide +kernel, _, rfl, by decide, tw_479⟩,
  ⟨by decide +kernel, by decide +kernel, by decide +kernel⟩,
  ⟨by decide +kernel, by decide +kernel⟩,
  ⟨by decide +kernel, by decide +kernel, by decide +kernel⟩,
  ⟨by decide +kernel, by decide +kernel, by decide +kernel⟩,
  ⟨by decide +kernel, by decide +kernel⟩,
  ⟨by decide +kernel, by decide +kernel, by decide +kernel⟩,
  ⟨by decide +kernel, by decide +kernel, _, rfl, by decide, tw_480⟩,
  ⟨by decide +kernel, by decide +kernel, by decide +kernel⟩,
  ⟨by decide +kernel, by decide +kernel⟩,
  ⟨by decide +kernel, by decide +kernel, by decide +kernel⟩,
  ⟨by decide +kernel, by decide +kernel, by decide +kernel⟩,
  ⟨by decide +kernel, by decide +kernel, by decide +kernel⟩,
  ⟨by decide +kernel, by decide +kernel, by decide +kernel⟩,
  ⟨by decide +kernel, by decide +kernel, by decide +kernel⟩,
  ⟨by decide +kernel, by decide +kernel, by decide +kernel⟩,
  ⟨by decide +kernel, by decide +kernel, Or.inr rfl, _, 5, _, rfl, rfl, rfl, rfl, ⟨fun _ => rfl, fun _ => rfl⟩, Or.inl tw_628, tw_630, tw_22, fun r h => (by cases h; exact ⟨_, rfl, by decide +kernel⟩)⟩,
  ⟨by decide +kernel, by decide +kernel⟩,
  ⟨by decide +kernel, by decide +kernel, by decide +kernel⟩,
  ⟨by decide +kernel, by decide +kernel, _, rfl, by decide, tw_481⟩,
  ⟨by decide +kernel, by decide +kernel, by decide +kernel⟩,
  ⟨by decide +kernel, by decide +kernel⟩,
  ⟨by decide +kernel, by decide +kernel, by decide +kernel⟩,
  ⟨by decide +kernel, by decide +kernel, by decide +kernel⟩,
  ⟨by decide +kernel, by decide +kernel, by decide +kernel⟩,
  ⟨by decide +kernel, by decide +kernel, by decide +kernel⟩,
  ⟨by decide +kernel, by decide +kernel, by decide +kernel⟩,
  ⟨by decide +kernel, by decide +kernel, by decide +kernel⟩,
  ⟨by decide +kernel, by decide +kernel, Or.inr rfl, _, 5, _, rfl, rfl, rfl, rfl, ⟨fun _ => rfl, fun _ => rfl⟩, Or.inl tw_628, tw_630, tw_22, fun r h => (by cases h; exact ⟨_, rfl, by decide +kernel⟩)⟩,
  ⟨by decide +kernel, by decide +kernel, by decide +kernel, by decide +kernel, by decide +kernel⟩,
  ⟨by decide +kernel, by decide +kernel⟩,
  ⟨by decide +kernel, rfl⟩,
  trivial⟩
set_option maxRecDepth 100000 in
set_option maxHeartbeats 4000000 in
theorem ok_M_lacks : ax_okl ax_Ms ax_Xs ax_NMs ax_cl ax_TT ax_NLs nm_M_lacks prog_7_method_21_code (some .boolean) 4 cd_M_lacks 0 cd_M_lacks := ⟨
  ⟨by decide +kernel, by decide +kernel, by decide +kernel⟩,
  ⟨by decide +kernel, by decide +kernel, by decide +kernel, by decide +kernel⟩,
  ⟨by decide +kernel, by decide +kernel, by decide +kernel⟩,
  ⟨by decide +kernel, by decide +kernel, by decide +kernel, by decide +kernel⟩,
  ⟨by decide +kernel, by decide +kernel, by decide +kernel⟩,
  ⟨by decide +kernel, by decide +kernel, by decide +kernel⟩,
  ⟨by decide +kernel, by decide +kernel, _, rfl, by decide, tw_463⟩,
  ⟨by decide +kernel, by decide +kernel, by decide +kernel⟩,
  ⟨by decide +kernel, by decide +kernel, by decide +kernel⟩,
  ⟨by decide +kernel, by decide +kernel, by decide +kernel⟩,
  ⟨by decide +kernel, by decide +kernel, by decide +kernel⟩,
  ⟨by decide +kernel, by decide +kernel, _, rfl, by decide, tw_471⟩,
  ⟨by decide +kernel, by decide +kernel, by decide +kernel⟩,
  ⟨by decide +kernel, by decide +kernel⟩,
  ⟨by decide +kernel, by decide +kernel, by decide +kernel⟩,
  ⟨by decide +kernel, by decide +kernel⟩,
  ⟨by decide +kernel, by decide +kernel, by decide +kernel⟩,
  ⟨by decide +kernel, by decide +kernel⟩,
  ⟨by decide +kernel, by decide +kernel, by decide +kernel⟩,
  ⟨by decide +kernel, by decide +kernel, by decide +kernel⟩,
  ⟨by decide +kernel, by decide +kernel, by decide +kernel⟩,
  ⟨by decide +kernel, by decide +kernel, _, rfl, by decide, tw_479⟩,
  ⟨by decide +kernel, by decide +kernel, by decide +kernel⟩,
  ⟨by decide +kernel, by decide +kernel⟩,
  ⟨by decide +kernel, by decide +kernel, by decide +kernel⟩,
  ⟨by decide +kernel, by decide +kernel, by decide +kernel⟩,
  ⟨by decide +kernel, by decide +kernel, by decide +kernel⟩,
  ⟨by decide +kernel, by decide +kernel, _, rfl, by decide, tw_479⟩,
  ⟨by decide +kernel, by decide +kernel, by decide +kernel⟩,
  ⟨by decide +kernel, by decide +kernel⟩,
  ⟨by decide +kernel, by decide +kernel, by decide +kernel⟩,
  ⟨by decide +kernel, by decide +kernel, by decide +kernel⟩,
  ⟨by decide +kernel, by decide +kernel, by decide +kernel⟩,
  ⟨by decide +kernel, by decide +kernel, _, rfl, by decide, tw_479⟩,
  ⟨by decide +kernel, by decide +kernel, by decide +kernel⟩,
  ⟨by decide +kernel, by decide +kernel⟩,
  ⟨by decide +kernel, by decide +kernel, by decide +kernel⟩,
  ⟨by decide +kernel, by decide +kernel, by decide +kernel⟩,
  ⟨by decide +kernel, by decide +kernel, by decide +kernel⟩,
  ⟨by decide +kernel, by decide +kernel⟩,
  ⟨by decide +kernel, by decide +kernel, by decide +kernel⟩,
  ⟨by decide +kernel, by decide +kernel, by decide +kernel, by decide +kernel⟩,
  ⟨by decide +kernel, by decide +kernel, by decide +kernel, by decide +kernel, by decide +kernel⟩,
  ⟨by decide +kernel, by decide +kernel⟩,
  ⟨by decide +kernel, by decide +kernel, by decide +kernel⟩,
  ⟨by decide +kernel, Or.inr ⟨rfl, rfl⟩⟩,
  trivial⟩
set_option maxRecDepth 100000 in
set_option maxHeartbeats 4000000 in
theorem ok_M_skipAll : ax_okl ax_Ms ax_Xs ax_NMs ax_cl ax_TT ax_NLs nm_M_skipAll prog_7_method_22_code (none) 3 cd_M_skipAll 0 cd_M_skipAll := ⟨
  ⟨by decide +kernel, by decide +kernel, by decide +kernel⟩,
  ⟨by decide +kernel, by decide +kernel, by decide +kernel, by decide +kernel⟩,
  ⟨by decide +kernel, by decide +kernel, by decide +kernel⟩,
  ⟨by decide +kernel, by decide +kernel, by decide +kernel⟩,
  ⟨by decide +kernel, by decide +kernel, by decide +kernel⟩,
  ⟨by decide +kernel, by decide +kernel, by decide +kernel, by decide +kernel⟩,
  ⟨by decide +kernel, by decide +kernel, by decide +kernel⟩,
  ⟨by decide +kernel, by decide +kernel, by decide +kernel, by decide +kernel⟩,
  ⟨by decide +kernel, by decide +kernel, by decide +kernel⟩,
  ⟨by decide +kernel, by decide +kernel, by decide +kernel⟩,
  ⟨by decide +kernel, by decide +kernel, _, rfl, by decide, tw_463⟩,
  ⟨by decide +kernel, by decide +kernel, by decide +kernel⟩,
  ⟨by decide +kernel, by decide +kernel, by decide +kernel⟩,
  ⟨by decide +kernel, by decide +kernel, _, rfl, by decide, tw_479⟩,
  ⟨by decide +kernel, by decide +kernel, by decide +kernel⟩,
  ⟨by decide +kernel, by decide +kernel⟩,
  ⟨by decide +kernel, by decide +kernel, by decide +kernel⟩,
  ⟨by decide +kernel, by decide +kernel, by decide +kernel⟩,
  ⟨by decide +kernel, by decide +kernel, by decide +kernel⟩,
  ⟨by decide +kernel, by decide +kernel, by decide +kernel⟩,
  ⟨by decide +kernel, by decide +kernel, Or.inl rfl, _, 5, _, rfl, rfl, rfl, rfl, ⟨fun h => (by cases h), fun h => (by cases h)⟩, Or.inl tw_640, tw_642, tw_25, fun r h => (by cases h; exact ⟨_, rfl, by decide +kernel⟩)⟩,
  ⟨by decide +kernel, by decide +kernel, by decide +kernel⟩,
  ⟨by decide +kernel, by decide +kernel⟩,
  ⟨by decide +kernel, by decide +kernel, by decide +kernel⟩,
  ⟨by decide +kernel, by decide +kernel, _, rfl, by decide, tw_479⟩,
  ⟨by decide +kernel, by decide +kernel, by decide +kernel⟩,
  ⟨by decide +kernel, by decide +kernel, by decide +kernel⟩,
  ⟨by decide +kernel, by decide +kernel⟩,
  ⟨by decide +kernel, by decide +kernel, by decide +kernel⟩,
  ⟨by decide +kernel, by decide +kernel, by decide +kernel, by decide +kernel⟩,
  ⟨by decide +kernel, by decide +kernel, by decide +kernel, by decide +kernel, by decide +kernel⟩,
  ⟨by decide +kernel, by decide +kernel⟩,
  ⟨by decide +kernel, by decide +kernel⟩,
  ⟨by decide +kernel, rfl⟩,
  trivial⟩
set_option maxRecDepth 100000 in
set_option maxHeartbeats 4000000 in
theorem ok_M_stopAll : ax_okl ax_Ms ax_Xs ax_NMs ax_cl ax_TT ax_NLs nm_M_stopAll prog_7_method_23_code (none) 2 cd_M_stopAll 0 cd_M_stopAll := ⟨
  ⟨by decide +kernel, by decide +kernel, by decide +kernel⟩,
  ⟨by decide +kernel, by decide +kernel, by decide +kernel, by decide +kernel⟩,
  ⟨by decide +kernel, by decide +kernel, by decide +kernel⟩,
  ⟨by decide +kernel, by decide +kernel, by decide +kernel⟩,
  ⟨by decide +kernel, by decide +kernel, _, rfl, by decide, tw_463⟩,
  ⟨by decide +kernel, by decide +kernel, by decide +kernel⟩,
  ⟨by decide +kernel, by decide +kernel, by decide +kernel⟩,
  ⟨by decide +kernel, by decide +kernel, _, rfl, by decide, tw_479⟩,
  ⟨by decide +kernel, by decide +kernel, by decide +kernel⟩,
  ⟨by decide +kernel, by decide +kernel, by decide +kernel⟩,
  ⟨by decide +kernel, by decide +kernel, _, rfl, by decide, tw_479⟩,
  ⟨by decide +kernel, by decide +kernel, by decide +kernel⟩,
  ⟨by decide +kernel, by decide +kernel⟩,
  ⟨by decide +kernel, by decide +kernel, by decide +kernel⟩,
  ⟨by decide +kernel, by decide +kernel, by decide +kernel⟩,
  ⟨by decide +kernel, by decide +kernel, by decide +kernel⟩,
  ⟨by decide +kernel, by decide +kernel⟩,
  ⟨by decide +kernel, by decide +kernel, by decide +kernel⟩,
  ⟨by decide +kernel, by decide +kernel, _, rfl, by decide, tw_479⟩,
  ⟨by decide +kernel, by decide +kernel, by decide +kernel⟩,
  ⟨by decide +kernel, by decide +kernel⟩,
  ⟨by decide +kernel, by decide +kernel⟩,
  ⟨by decide +kernel, by decide +kernel, by decide +kernel, by decide +kernel, by decide +kernel⟩,
  ⟨by decide +kernel, by decide +kernel⟩,
  ⟨by decide +kernel, rfl⟩,
  trivial⟩
set_option maxRecDepth 100000 in
set_option maxHeartbeats 4000000 in
theorem ok_M_isReady : ax_okl ax_Ms ax_Xs ax_NMs ax_cl ax_TT ax_NLs nm_M_isReady prog_7_method_24_code (some .boolean) 5 cd_M_isReady 0 cd_M_isReady := ⟨
  ⟨by decide +kernel, by decide +kernel, by decide +kernel⟩,
  ⟨by decide +kernel, by decide +kernel, _, rfl, by decide, tw_479⟩,
  ⟨by decide +kernel, by decide +kernel, by decide +kernel⟩,
  ⟨by decide +kernel, by decide +kernel⟩,
  ⟨by decide +kernel, by decide +kernel, by decide +kernel⟩,
  ⟨by decide +kernel, by decide +kernel, by decide +kernel⟩,
  ⟨by decide +kernel, by decide +kernel, by decide +kernel⟩,
  ⟨by decide +kernel, by decide +kernel, by decide +kernel⟩,
  ⟨by decide +kernel, by decide +kernel, by decide +kernel⟩,
  ⟨by decide +kernel, by decide +kernel, _, rfl, by decide, tw_472⟩,
  ⟨by decide +kernel, by decide +kernel, by decide +kernel⟩,
  ⟨by decide +kernel, by decide +kernel⟩,
  ⟨by decide +kernel, by decide +kernel, by decide +kernel⟩,
  ⟨by decide +kernel, by decide +kernel, by decide +kernel⟩,
  ⟨by decide +kernel, by decide +kernel⟩,
  ⟨by decide +kernel, by decide +kernel, by decide +kernel⟩,
  ⟨by decide +kernel, by decide +kernel, by decide +kernel, by decide +kernel⟩,
  ⟨by decide +kernel, by decide +kernel, by decide +kernel⟩,
  ⟨by decide +kernel, by decide +kernel, by decide +kernel, by decide +kernel⟩,
  ⟨by decide +kernel, by decide +kernel, by decide +kernel⟩,
  ⟨by decide +kernel, by decide +kernel, by decide +kernel⟩,
  ⟨by decide +kernel, by decide +kernel, _, rfl, by decide, tw_463⟩,
  ⟨by decide +kernel, by decide +kernel, by decide +kernel⟩,
  ⟨by decide +kernel, by decide +kernel, by decide +kernel⟩,
  ⟨by decide +kernel, by decide +kernel, by decide +kernel⟩,
  ⟨by decide +kernel, by decide +kernel, by decide +kernel⟩,
  ⟨by decide +kernel, by decide +kernel, _, rfl, by decide, tw_471⟩,
  ⟨by decide +kernel, by decide +kernel, by decide +kernel⟩,
  ⟨by decide +kernel, by decide +kernel⟩,
  ⟨by decide +kernel, by decide +kernel, by decide +kernel⟩,
  ⟨by decide +kernel, by decide +kernel⟩,
  ⟨by decide +kernel, by decide +kernel, by decide +kernel⟩,
  ⟨by decide +kernel, by decide +kernel⟩,
  ⟨by decide +kernel, by decide +kernel, by decide +kernel⟩,
  ⟨by decide +kernel, by decide +kernel, by decide +kernel⟩,
  ⟨by decide +kernel, by decide +kernel, _, rfl, by decide, tw_479⟩,
  ⟨by decide +kernel, by decide +kernel, by decide +kernel⟩,
  ⟨by decide +kernel, by decide +kernel⟩,
  ⟨by decide +kernel, by decide +kernel, by decide +kernel⟩,
  ⟨by decide +kernel, by decide +kernel, by decide +kernel⟩,
  ⟨by decide +kernel, by decide +kernel, by decide +kernel⟩,
  ⟨by decide +kernel, by decide +kernel⟩,
  ⟨by decide +kernel, by decide +kernel, by decide +kernel⟩,
  ⟨by decide +kernel, by decide +kernel, by decide +kernel, by decide +kernel⟩,
  ⟨by decide +kernel, by decide +kernel, by decide +kernel, by decide +kernel, by decide +kernel⟩,
  ⟨by decide +kernel, by decide +kernel⟩,
  ⟨by decide +kernel, by decide +kernel, by decide +kernel⟩,
  ⟨by decide +kernel, Or.inr ⟨rfl, rfl⟩⟩,
  trivial⟩
end
section
/-! Each instruction's entry is what the code says, 6. -/
set_option maxRecDepth 100000 in
set_option maxHeartbeats 4000000 in
theorem ok_M_taken : ax_okl ax_Ms ax_Xs ax_NMs ax_cl ax_TT ax_NLs nm_M_taken prog_7_method_25_code (some .int) 4 cd_M_taken 0 cd_M_taken := ⟨
  ⟨by decide +kernel, by decide +kernel, by decide +kernel⟩,
  ⟨by decide +kernel, by decide +kernel, by decide +kernel, by decide +kernel⟩,
  ⟨by decide +kernel, by decide +kernel, by decide +kernel⟩,
  ⟨by decide +kernel, by decide +kernel, by decide +kernel, by decide +kernel⟩,
  ⟨by decide +kernel, by decide +kernel, by decide +kernel⟩,
  ⟨by decide +kernel, by decide +kernel, by decide +kernel⟩,
  ⟨by decide +kernel, by decide +kernel, _, rfl, by decide, tw_463⟩,
  ⟨by decide +kernel, by decide +kernel, by decide +kernel⟩,
  ⟨by decide +kernel, by decide +kernel, by decide +kernel⟩,
  ⟨by decide +kernel, by decide +kernel, _, rfl, by decide, tw_479⟩,
  ⟨by decide +kernel, by decide +kernel, by decide +kernel⟩,
  ⟨by decide +kernel, by decide +kernel⟩,
  ⟨by decide +kernel, by decide +kernel, by decide +kernel⟩,
  ⟨by decide +kernel, by decide +kernel, by decide +kernel⟩,
  ⟨by decide +kernel, by decide +kernel⟩,
  ⟨by decide +kernel, by decide +kernel, by decide +kernel⟩,
  ⟨by decide +kernel, by decide +kernel, by decide +kernel⟩,
  ⟨by decide +kernel, by decide +kernel, by decide +kernel⟩,
  ⟨by decide +kernel, by decide +kernel, by decide +kernel⟩,
  ⟨by decide +kernel, by decide +kernel, _, rfl, by decide, tw_465⟩,
  ⟨by decide +kernel, by decide +kernel, by decide +kernel⟩,
  ⟨by decide +kernel, by decide +kernel⟩,
  ⟨by decide +kernel, by decide +kernel⟩,
  ⟨by decide +kernel, by decide +kernel⟩,
  ⟨by decide +kernel, by decide +kernel, by decide +kernel⟩,
  ⟨by decide +kernel, by decide +kernel, by decide +kernel⟩,
  ⟨by decide +kernel, by decide +kernel, by decide +kernel⟩,
  ⟨by decide +kernel, by decide +kernel, by decide +kernel⟩,
  ⟨by decide +kernel, by decide +kernel, by decide +kernel⟩,
  ⟨by decide +kernel, by decide +kernel, _, rfl, by decide, tw_466⟩,
  ⟨by decide +kernel, by decide +kernel, by decide +kernel⟩,
  ⟨by decide +kernel, by decide +kernel⟩,
  ⟨by decide +kernel, by decide +kernel⟩,
  ⟨by decide +kernel, by decide +kernel⟩,
  ⟨by decide +kernel, by decide +kernel, by decide +kernel⟩,
  ⟨by decide +kernel, by decide +kernel, by decide +kernel⟩,
  ⟨by decide +kernel, by decide +kernel, by decide +kernel⟩,
  ⟨by decide +kernel, by decide +kernel, by decide +kernel⟩,
  ⟨by decide +kernel, by decide +kernel, by decide +kernel⟩,
  ⟨by decide +kernel, by decide +kernel, _, rfl, by decide, tw_481⟩,
  ⟨by decide +kernel, by decide +kernel, by decide +kernel⟩,
  ⟨by decide +kernel, by decide +kernel⟩,
  ⟨by decide +kernel, by decide +kernel, by decide +kernel⟩,
  ⟨by decide +kernel, by decide +kernel, by decide +kernel⟩,
  ⟨by decide +kernel, by decide +kernel⟩,
  ⟨by decide +kernel, by decide +kernel, by decide +kernel⟩,
  ⟨by decide +kernel, by decide +kernel⟩,
  ⟨by decide +kernel, by decide +kernel⟩,
  ⟨by decide +kernel, by decide +kernel, by decide +kernel⟩,
  ⟨by decide +kernel, by decide +kernel, by decide +kernel⟩,
  ⟨by decide +kernel, by decide +kernel, _, rfl, by decide, tw_467⟩,
  ⟨by decide +kernel, by decide +kernel, by decide +kernel⟩,
  ⟨by decide +kernel, by decide +kernel⟩,
  ⟨by decide +kernel, by decide +kernel⟩,
  ⟨by decide +kernel, by decide +kernel, by decide +kernel, by decide +kernel⟩,
  ⟨by decide +kernel, by decide +kernel, by decide +kernel, by decide +kernel, by decide +kernel⟩,
  ⟨by decide +kernel, by decide +kernel⟩,
  ⟨by decide +kernel, by decide +kernel, by decide +kernel⟩,
  ⟨by decide +kernel, Or.inl ⟨rfl, rfl⟩⟩,
  trivial⟩
set_option maxRecDepth 100000 in
set_option maxHeartbeats 4000000 in
theorem ok_M_fits : ax_okl ax_Ms ax_Xs ax_NMs ax_cl ax_TT ax_NLs nm_M_fits prog_7_method_26_code (some .boolean) 2 cd_M_fits 0 cd_M_fits := ⟨
  ⟨by decide +kernel, by decide +kernel, by decide +kernel⟩,
  ⟨by decide +kernel, by decide +kernel, by decide +kernel⟩,
  ⟨by decide +kernel, by decide +kernel, Or.inl rfl, _, 5, _, rfl, rfl, rfl, rfl, ⟨fun h => (by cases h), fun h => (by cases h)⟩, Or.inl tw_664, tw_666, tw_31, fun r h => (by cases h; exact ⟨_, rfl, by decide +kernel⟩)⟩,
  ⟨by decide +kernel, by decide +kernel, by decide +kernel⟩,
  ⟨by decide +kernel, by decide +kernel, _, rfl, by decide, tw_465⟩,
  ⟨by decide +kernel, by decide +kernel, by decide +kernel⟩,
  ⟨by decide +kernel, by decide +kernel⟩,
  ⟨by decide +kernel, by decide +kernel⟩,
  ⟨by decide +kernel, by decide +kernel, by decide +kernel⟩,
  ⟨by decide +kernel, by decide +kernel, _, rfl, by decide, tw_460⟩,
  ⟨by decide +kernel, by decide +kernel, by decide +kernel⟩,
  ⟨by decide +kernel, by decide +kernel, by decide +kernel⟩,
  ⟨by decide +kernel, by decide +kernel, by decide +kernel⟩,
  ⟨by decide +kernel, by decide +kernel, Or.inl rfl, _, 5, _, rfl, rfl, rfl, rfl, ⟨fun h => (by cases h), fun h => (by cases h)⟩, Or.inl tw_664, tw_666, tw_31, fun r h => (by cases h; exact ⟨_, rfl, by decide +kernel⟩)⟩,
  ⟨by decide +kernel, by decide +kernel, by decide +kernel⟩,
  ⟨by decide +kernel, by decide +kernel, _, rfl, by decide, tw_466⟩,
  ⟨by decide +kernel, by decide +kernel, by decide +kernel⟩,
  ⟨by decide +kernel, by decide +kernel⟩,
  ⟨by decide +kernel, by decide +kernel⟩,
  ⟨by decide +kernel, by decide +kernel, by decide +kernel⟩,
  ⟨by decide +kernel, by decide +kernel, _, rfl, by decide, tw_461⟩,
  ⟨by decide +kernel, by decide +kernel, by decide +kernel⟩,
  ⟨by decide +kernel, by decide +kernel, by decide +kernel⟩,
  ⟨by decide +kernel, by decide +kernel, by decide +kernel⟩,
  ⟨by decide +kernel, by decide +kernel, Or.inl rfl, _, 5, _, rfl, rfl, rfl, rfl, ⟨fun h => (by cases h), fun h => (by cases h)⟩, Or.inl tw_664, tw_666, tw_31, fun r h => (by cases h; exact ⟨_, rfl, by decide +kernel⟩)⟩,
  ⟨by decide +kernel, by decide +kernel, by decide +kernel⟩,
  ⟨by decide +kernel, by decide +kernel, _, rfl, by decide, tw_467⟩,
  ⟨by decide +kernel, by decide +kernel, by decide +kernel⟩,
  ⟨by decide +kernel, by decide +kernel⟩,
  ⟨by decide +kernel, by decide +kernel⟩,
  ⟨by decide +kernel, by decide +kernel, by decide +kernel⟩,
  ⟨by decide +kernel, by decide +kernel, by decide +kernel⟩,
  ⟨by decide +kernel, by decide +kernel⟩,
  ⟨by decide +kernel, by decide +kernel, by decide +kernel⟩,
  ⟨by decide +kernel, Or.inr ⟨rfl, rfl⟩⟩,
  trivial⟩
set_option maxRecDepth 100000 in
set_option maxHeartbeats 4000000 in
theorem ok_M_begin : ax_okl ax_Ms ax_Xs ax_NMs ax_cl ax_TT ax_NLs nm_M_begin prog_7_method_27_code (none) 4 cd_M_begin 0 cd_M_begin := ⟨
  ⟨by decide +kernel, by decide +kernel, by decide +kernel⟩,
  ⟨by decide +kernel, by decide +kernel, _, rfl, by decide, tw_475⟩,
  ⟨by decide +kernel, by decide +kernel, by decide +kernel⟩,
  ⟨by decide +kernel, by decide +kernel⟩,
  ⟨by decide +kernel, by decide +kernel, by decide +kernel⟩,
  ⟨by decide +kernel, by decide +kernel, by decide +kernel⟩,
  ⟨by decide +kernel, by decide +kernel, _, rfl, by decide, tw_468⟩,
  ⟨by decide +kernel, by decide +kernel, by decide +kernel⟩,
  ⟨by decide +kernel, by decide +kernel⟩,
  ⟨by decide +kernel, by decide +kernel, by decide +kernel⟩,
  ⟨by decide +kernel, by decide +kernel, by decide +kernel⟩,
  ⟨by decide +kernel, by decide +kernel, by decide +kernel⟩,
  ⟨by decide +kernel, by decide +kernel, Or.inl rfl, _, 5, _, rfl, rfl, rfl, rfl, ⟨fun h => (by cases h), fun h => (by cases h)⟩, Or.inl tw_664, tw_666, tw_31, fun r h => (by cases h; exact ⟨_, rfl, by decide +kernel⟩)⟩,
  ⟨by decide +kernel, by decide +kernel, by decide +kernel⟩,
  ⟨by decide +kernel, by decide +kernel, _, rfl, by decide, tw_462⟩,
  ⟨by decide +kernel, by decide +kernel, by decide +kernel⟩,
  ⟨by decide +kernel, by decide +kernel, by decide +kernel⟩,
  ⟨by decide +kernel, by decide +kernel⟩,
  ⟨by decide +kernel, by decide +kernel, by decide +kernel⟩,
  ⟨by decide +kernel, by decide +kernel, by decide +kernel, by decide +kernel⟩,
  ⟨by decide +kernel, by decide +kernel, by decide +kernel⟩,
  ⟨by decide +kernel, by decide +kernel, _, rfl, by decide, tw_479⟩,
  ⟨by decide +kernel, by decide +kernel, by decide +kernel⟩,
  ⟨by decide +kernel, by decide +kernel, by decide +kernel⟩,
  ⟨by decide +kernel, by decide +kernel⟩,
  ⟨by decide +kernel, by decide +kernel, by decide +kernel⟩,
  ⟨by decide +kernel, by decide +kernel, _, rfl, by decide, tw_482⟩,
  ⟨by decide +kernel, by decide +kernel, by decide +kernel⟩,
  ⟨by decide +kernel, by decide +kernel, by decide +kernel⟩,
  ⟨by decide +kernel, by decide +kernel, _, rfl, by decide, tw_484⟩,
  ⟨by decide +kernel, by decide +kernel, by decide +kernel⟩,
  ⟨by decide +kernel, by decide +kernel⟩,
  ⟨by decide +kernel, by decide +kernel, by decide +kernel⟩,
  ⟨by decide +kernel, by decide +kernel, by decide +kernel⟩,
  ⟨by decide +kernel, by decide +kernel⟩,
  ⟨by decide +kernel, by decide +kernel, by decide +kernel⟩,
  ⟨by decide +kernel, by decide +kernel, _, rfl, by decide, tw_482⟩,
  ⟨by decide +kernel, by decide +kernel, by decide +kernel⟩,
  ⟨by decide +kernel, by decide +kernel⟩,
  ⟨by decide +kernel, by decide +kernel⟩,
  ⟨by decide +kernel, by decide +kernel, by decide +kernel⟩,
  ⟨by decide +kernel, by decide +kernel, _, rfl, by decide, tw_484⟩,
  ⟨by decide +kernel, by decide +kernel, by decide +kernel⟩,
  ⟨by decide +kernel, by decide +kernel⟩,
  ⟨by decide +kernel, by decide +kernel⟩,
  ⟨by decide +kernel, by decide +kernel, by decide +kernel⟩,
  ⟨by decide +kernel, by decide +kernel⟩,
  ⟨by decide +kernel, by decide +kernel⟩,
  ⟨by decide +kernel, by decide +kernel, by decide +kernel⟩,
  ⟨by decide +kernel, by decide +kernel, _, rfl, by decide, tw_480⟩,
  ⟨by decide +kernel, by decide +kernel, by decide +kernel⟩,
  ⟨by decide +kernel, by decide +kernel, by decide +kernel⟩,
  ⟨by decide +kernel, by decide +kernel, by decide +kernel⟩,
  ⟨by decide +kernel, by decide +kernel, _, rfl, by decide, tw_464⟩,
  ⟨by decide +kernel, by decide +kernel, by decide +kernel⟩,
  ⟨by decide +kernel, by decide +kernel⟩,
  ⟨by decide +kernel, by decide +kernel⟩,
  ⟨by decide +kernel, by decide +kernel⟩,
  ⟨by decide +kernel, by decide +kernel, by decide +kernel⟩,
  ⟨by decide +kernel, by decide +kernel, _, rfl, by decide, tw_481⟩,
  ⟨by decide +kernel, by decide +kernel, by decide +kernel⟩,
  ⟨by decide +kernel, by decide +kernel, by decide +kernel⟩,
  ⟨by decide +kernel, by decide +kernel, by decide +kernel⟩,
  ⟨by decide +kernel, by decide +kernel, by decide +kernel⟩,
  ⟨by decide +kernel, by decide +kernel, by decide +kernel⟩,
  ⟨by decide +kernel, by decide +kernel, _, rfl, by decide, tw_468⟩,
  ⟨by decide +kernel, by decide +kernel, by decide +kernel⟩,
  ⟨by decide +kernel, by decide +kernel⟩,
  ⟨by decide +kernel, by decide +kernel⟩,
  ⟨by decide +kernel, by decide +kernel⟩,
  ⟨by decide +kernel, by decide +kernel, by decide +kernel⟩,
  ⟨by decide +kernel, by decide +kernel⟩,
  ⟨by decide +kernel, by decide +kernel, by decide +kernel⟩,
  ⟨by decide +kernel, by decide +kernel, _, rfl, by decide, tw_488⟩,
  ⟨by decide +kernel, by decide +kernel, by decide +kernel⟩,
  ⟨by decide +kernel, by decide +kernel, _, rfl, by decide, tw_489⟩,
  ⟨by decide +kernel, by decide +kernel, by decide +kernel⟩,
  ⟨by decide +kernel, by decide +kernel⟩,
  ⟨by decide +kernel, by decide +kernel, by decide +kernel⟩,
  ⟨by decide +kernel, by decide +kernel⟩,
  ⟨by decide +kernel, by decide +kernel, _, rfl, by decide, tw_489⟩,
  ⟨by decide +kernel, by decide +kernel, by decide +kernel⟩,
  ⟨by decide +kernel, by decide +kernel⟩,
  ⟨by decide +kernel, by decide +kernel, _, rfl, by decide, tw_489, ⟨.int, by decide +kernel, Or.inl ⟨rfl, rfl⟩⟩, Or.inl rfl⟩,
  ⟨by decide +kernel, rfl⟩,
  trivial⟩
set_option maxRecDepth 100000 in
set_option maxHeartbeats 4000000 in
theorem ok_M_next : ax_okl ax_Ms ax_Xs ax_NMs ax_cl ax_TT ax_NLs nm_M_next prog_7_method_28_code (some .int) 3 cd_M_next 0 cd_M_next := ⟨
  ⟨by decide +kernel, by decide +kernel, by decide +kernel⟩,
  ⟨by decide +kernel, by decide +kernel, by decide +kernel, by decide +kernel⟩,
  ⟨by decide +kernel, by decide +kernel, by decide +kernel⟩,
  ⟨by decide +kernel, by decide +kernel, by decide +kernel, by decide +kernel⟩,
  ⟨by decide +kernel, by decide +kernel, by decide +kernel⟩,
  ⟨by decide +kernel, by decide +kernel, by decide +kernel⟩,
  ⟨by decide +kernel, by decide +kernel, _, rfl, by decide, tw_463⟩,
  ⟨by decide +kernel, by decide +kernel, by decide +kernel⟩,
  ⟨by decide +kernel, by decide +kernel, by decide +kernel⟩,
  ⟨by decide +kernel, by decide +kernel, _, rfl, by decide, tw_487⟩,
  ⟨by decide +kernel, by decide +kernel, by decide +kernel⟩,
  ⟨by decide +kernel, by decide +kernel⟩,
  ⟨by decide +kernel, by decide +kernel, by decide +kernel⟩,
  ⟨by decide +kernel, by decide +kernel, by decide +kernel⟩,
  ⟨by decide +kernel, by decide +kernel, by decide +kernel⟩,
  ⟨by decide +kernel, by decide +kernel, by decide +kernel⟩,
  ⟨by decide +kernel, by decide +kernel, _, rfl, by decide, tw_477⟩,
  ⟨by decide +kernel, by decide +kernel, by decide +kernel⟩,
  ⟨by decide +kernel, by decide +kernel⟩,
  ⟨by decide +kernel, by decide +kernel, by decide +kernel⟩,
  ⟨by decide +kernel, by decide +kernel, _, rfl, by decide, tw_477⟩,
  ⟨by decide +kernel, by decide +kernel, by decide +kernel⟩,
  ⟨by decide +kernel, by decide +kernel⟩,
  ⟨by decide +kernel, by decide +kernel, by decide +kernel⟩,
  ⟨by decide +kernel, by decide +kernel, by decide +kernel⟩,
  ⟨by decide +kernel, by decide +kernel, by decide +kernel, by decide +kernel⟩,
  ⟨by decide +kernel, by decide +kernel, by decide +kernel, by decide +kernel, by decide +kernel⟩,
  ⟨by decide +kernel, by decide +kernel⟩,
  ⟨by decide +kernel, by decide +kernel, by decide +kernel⟩,
  ⟨by decide +kernel, Or.inl ⟨rfl, rfl⟩⟩,
  trivial⟩
set_option maxRecDepth 100000 in
set_option maxHeartbeats 4000000 in
theorem ok_M_beginAll : ax_okl ax_Ms ax_Xs ax_NMs ax_cl ax_TT ax_NLs nm_M_beginAll prog_7_method_29_code (none) 6 cd_M_beginAll 0 cd_M_beginAll := ⟨
  ⟨by decide +kernel, by decide +kernel, by decide +kernel⟩,
  ⟨by decide +kernel, by decide +kernel, by decide +kernel, by decide +kernel⟩,
  ⟨by decide +kernel, by decide +kernel, by decide +kernel⟩,
  ⟨by decide +kernel, by decide +kernel, by decide +kernel, by decide +kernel⟩,
  ⟨by decide +kernel, by decide +kernel, by decide +kernel⟩,
  ⟨by decide +kernel, by decide +kernel, by decide +kernel⟩,
  ⟨by decide +kernel, by decide +kernel, _, rfl, by decide, tw_463⟩,
  ⟨by decide +kernel, by decide +kernel, by decide +kernel⟩,
  ⟨by decide +kernel, by decide +kernel, by decide +kernel⟩,
  ⟨by decide +kernel, by decide +kernel, by decide +kernel⟩,
  ⟨by decide +kernel, by decide +kernel, by decide +kernel⟩,
  ⟨by decide +kernel, by decide +kernel, _, rfl, by decide, tw_472⟩,
  ⟨by decide +kernel, by decide +kernel, by decide +kernel⟩,
  ⟨by decide +kernel, by decide +kernel⟩,
  ⟨by decide +kernel, by decide +kernel, by decide +kernel⟩,
  ⟨by decide +kernel, by decide +kernel, by decide +kernel⟩,
  ⟨by decide +kernel, by decide +kernel, _, rfl, by decide, tw_479⟩,
  ⟨by decide +kernel, by decide +kernel, by decide +kernel⟩,
  ⟨by decide +kernel, by decide +kernel⟩,
  ⟨by decide +kernel, by decide +kernel, by decide +kernel⟩,
  ⟨by decide +kernel, by decide +kernel, by decide +kernel⟩,
  ⟨by decide +kernel, by decide +kernel, by decide +kernel⟩,
  ⟨by decide +kernel, by decide +kernel, _, rfl, by decide, tw_479⟩,
  ⟨by decide +kernel, by decide +kernel, by decide +kernel⟩,
  ⟨by decide +kernel, by decide +kernel⟩,
  ⟨by decide +kernel, by decide +kernel, by decide +kernel⟩,
  ⟨by decide +kernel, by decide +kernel, by decide +kernel⟩,
  ⟨by decide +kernel, by decide +kernel, by decide +kernel⟩,
  ⟨by decide +kernel, by decide +kernel⟩,
  ⟨by decide +kernel, by decide +kernel, by decide +kernel⟩,
  ⟨by decide +kernel, by decide +kernel, by decide +kernel, by decide +kernel⟩,
  ⟨by decide +kernel, by decide +kernel, by decide +kernel, by decide +kernel, by decide +kernel⟩,
  ⟨by decide +kernel, by decide +kernel⟩,
  ⟨by decide +kernel, by decide +kernel, by decide +kernel⟩,
  ⟨by decide +kernel, by decide +kernel, by decide +kernel⟩,
  ⟨by decide +kernel, by decide +kernel, by decide +kernel⟩,
  ⟨by decide +kernel, by decide +kernel, _, rfl, by decide, tw_475⟩,
  ⟨by decide +kernel, by decide +kernel, by decide +kernel⟩,
  ⟨by decide +kernel, by decide +kernel⟩,
  ⟨by decide +kernel, by decide +kernel, by decide +kernel⟩,
  ⟨by decide +kernel, by decide +kernel, by decide +kernel⟩,
  ⟨by decide +kernel, by decide +kernel⟩,
  ⟨by decide +kernel, by decide +kernel, by decide +kernel⟩,
  ⟨by decide +kernel, by decide +kernel, by decide +kernel, by decide +kernel⟩,
  ⟨by decide +kernel, by decide +kernel, by decide +kernel⟩,
  ⟨by decide +kernel, by decide +kernel, by decide +kernel, by decide +kernel⟩,
  ⟨by decide +kernel, by decide +kernel, by decide +kernel⟩,
  ⟨by decide +kernel, by decide +kernel, by decide +kernel⟩,
  ⟨by decide +kernel, by decide +kernel, _, rfl, by decide, tw_463⟩,
  ⟨by decide +kernel, by decide +kernel, by decide +kernel⟩,
  ⟨by decide +kernel, by decide +kernel, by decide +kernel⟩,
  ⟨by decide +kernel, by decide +kernel, _, rfl, by decide, tw_487⟩,
  ⟨by decide +kernel, by decide +kernel, by decide +kernel⟩,
  ⟨by decide +kernel, by decide +kernel, by decide +kernel⟩,
  ⟨by decide +kernel, by decide +kernel, by decide +kernel⟩,
  ⟨by decide +kernel, by decide +kernel, by decide +kernel⟩,
  ⟨by decide +kernel, by decide +kernel, Or.inl rfl, _, 5, _, rfl, rfl, rfl, rfl, ⟨fun h => (by cases h), fun h => (by cases h)⟩, Or.inl tw_652, tw_654, tw_28, fun r h => (by cases h; exact ⟨_, rfl, by decide +kernel⟩)⟩,
  ⟨by decide +kernel, by decide +kernel⟩,
  ⟨by decide +kernel, by decide +kernel, by decide +kernel, by decide +kernel, by decide +kernel⟩,
  ⟨by decide +kernel, by decide +kernel⟩,
  ⟨by decide +kernel, by decide +kernel, by decide +kernel⟩,
  ⟨by decide +kernel, by decide +kernel, by decide +kernel, by decide +kernel⟩,
  ⟨by decide +kernel, by decide +kernel, by decide +kernel⟩,
  ⟨by decide +kernel, by decide +kernel, by decide +kernel⟩,
  ⟨by decide +kernel, by decide +kernel, by decide +kernel⟩,
  ⟨by decide +kernel, by decide +kernel, Or.inl rfl, _, 5, _, rfl, rfl, rfl, rfl, ⟨fun h => (by cases h), fun h => (by cases h)⟩, Or.inl tw_656, tw_658, tw_29, fun r h => (by cases h; exact ⟨_, rfl, by decide +kernel⟩)⟩,
  ⟨by decide +kernel, by decide +kernel, by decide +kernel, by decide +kernel⟩,
  ⟨by decide +kernel, by decide +kernel, by decide +kernel⟩,
  ⟨by decide +kernel, by decide +kernel, by decide +kernel⟩,
  ⟨by decide +kernel, by decide +kernel, by decide +kernel⟩,
  ⟨by decide +kernel, by decide +kernel, by decide +kernel⟩,
  ⟨by decide +kernel, by decide +kernel, Or.inl rfl, _, 5, _, rfl, rfl, rfl, rfl, ⟨fun h => (by cases h), fun h => (by cases h)⟩, Or.inl tw_660, tw_662, tw_30, fun r h => (by cases h; exact ⟨_, rfl, by decide +kernel⟩)⟩,
  ⟨by decide +kernel, by decide +kernel, by decide +kernel⟩,
  ⟨by decide +kernel, by decide +kernel, by decide +kernel⟩,
  ⟨by decide +kernel, by decide +kernel, _, rfl, by decide, tw_475⟩,
  ⟨by decide +kernel, by decide +kernel, by decide +kernel⟩,
  ⟨by decide +kernel, by decide +kernel⟩,
  ⟨by decide +kernel, by decide +kernel, by decide +kernel⟩,
  ⟨by decide +kernel, by decide +kernel, by decide +kernel⟩,
  ⟨by decide +kernel, by decide +kernel⟩,
  ⟨by decide +kernel, by decide +kernel, by decide +kernel⟩,
  ⟨by decide +kernel, by decide +kernel, by decide +kernel, by decide +kernel⟩,
  ⟨by decide +kernel, by decide +kernel, by decide +kernel⟩,
  ⟨by decide +kernel, by decide +kernel, by decide +kernel⟩,
  ⟨by decide +kernel, by decide +kernel, by decide +kernel⟩,
  ⟨by decide +kernel, by decide +kernel, by decide +kernel⟩,
  ⟨by decide +kernel, by decide +kernel, Or.inl rfl, _, 5, _, rfl, rfl, rfl, rfl, ⟨fun h => (by cases h), fun h => (by cases h)⟩, Or.inl tw_660, tw_662, tw_30, fun r h => (by cases h; exact ⟨_, rfl, by decide +kernel⟩)⟩,
  ⟨by decide +kernel, by decide +kernel, by decide +kernel⟩,
  ⟨by decide +kernel, by decide +kernel, by decide +kernel⟩,
  ⟨by decide +kernel, by decide +kernel, by decide +kernel⟩,
  ⟨by decide +kernel, by decide +kernel, by decide +kernel⟩,
  ⟨by decide +kernel, by decide +kernel, Or.inr rfl, _, 5, _, rfl, rfl, rfl, rfl, ⟨fun _ => rfl, fun _ => rfl⟩, Or.inl tw_668, tw_670, tw_32, fun r h => (by cases h; exact ⟨_, rfl, by decide +kernel⟩)⟩,
  ⟨by decide +kernel, by decide +kernel, by decide +kernel⟩,
  ⟨by decide +kernel, by decide +kernel, by decide +kernel⟩,
  ⟨by decide +kernel, by decide +kernel, by decide +kernel⟩,
  ⟨by decide +kernel, by decide +kernel, _, rfl, by decide, tw_487⟩,
  ⟨by decide +kernel, by decide +kernel, by decide +kernel⟩,
  ⟨by decide +kernel, by decide +kernel, by decide +kernel⟩,
  ⟨by decide +kernel, by decide +kernel⟩,
  ⟨by decide +kernel, by decide +kernel⟩,
  ⟨by decide +kernel, by decide +kernel, by decide +kernel⟩,
  ⟨by decide +kernel, by decide +kernel, by decide +kernel⟩,
  ⟨by decide +kernel, by decide +kernel, Or.inl rfl, _, 5, _, rfl, rfl, rfl, rfl, ⟨fun h => (by cases h), fun h => (by cases h)⟩, Or.inl tw_664, tw_666, tw_31, fun r h => (by cases h; exact ⟨_, rfl, by decide +kernel⟩)⟩,
  ⟨by decide +kernel, by decide +kernel, by decide +kernel, by decide +kernel⟩,
  ⟨by decide +kernel, by decide +kernel, by decide +kernel⟩,
  ⟨by decide +kernel, by decide +kernel, by decide +kernel⟩,
  ⟨by decide +kernel, by decide +kernel, Or.inl rfl, _, 5, _, rfl, rfl, rfl, rfl, ⟨fun h => (by cases h), fun h => (by cases h)⟩, Or.inl tw_664, tw_666, tw_31, fun r h => (by cases h; exact ⟨_, rfl, by decide +kernel⟩)⟩,
  ⟨by decide +kernel, by decide +kernel, by decide +kernel, by decide +kernel⟩,
  ⟨by decide +kernel, by decide +kernel, by decide +kernel⟩,
  ⟨by decide +kernel, by decide +kernel, by decide +kernel⟩,
  ⟨by decide +kernel, by decide +kernel, by decide +kernel⟩,
  ⟨by decide +kernel, by decide +kernel, _, rfl, by decide, tw_490⟩,
  ⟨by decide +kernel, by decide +kernel, by decide +kernel⟩,
  ⟨by decide +kernel, by decide +kernel, by decide +kernel⟩,
  ⟨by decide +kernel, by decide +kernel⟩,
  ⟨by decide +kernel, by decide +kernel, by decide +kernel⟩,
  ⟨by decide +kernel, by decide +kernel, _, rfl, by decide, tw_490⟩,
  ⟨by decide +kernel, by decide +kernel, _, rfl, by decide, tw_490, ⟨.int, by decide +kernel, Or.inl ⟨rfl, rfl⟩⟩, Or.inl rfl⟩,
  ⟨by decide +kernel, by decide +kernel, by decide +kernel⟩,
  ⟨by decide +kernel, by decide +kernel, by decide +kernel⟩,
  ⟨by decide +kernel, by decide +kernel, by decide +kernel⟩,
  ⟨by decide +kernel, by decide +kernel, _, rfl, by decide, tw_491⟩,
  ⟨by decide +kernel, by decide +kernel, by decide +kernel⟩,
  ⟨by decide +kernel, by decide +kernel, by decide +kernel⟩,
  ⟨by decide +kernel, by decide +kernel⟩,
  ⟨by decide +kernel, by decide +kernel, by decide +kernel⟩,
  ⟨by decide +kernel, by decide +kernel, _, rfl, by decide, tw_491⟩,
  ⟨by decide +kernel, by decide +kernel, _, rfl, by decide, tw_491, ⟨.int, by decide +kernel, Or.inl ⟨rfl, rfl⟩⟩, Or.inl rfl⟩,
  ⟨by decide +kernel, rfl⟩,
  trivial⟩
set_option maxRecDepth 100000 in
set_option maxHeartbeats 4000000 in
theorem ok_M_nextEnd : ax_okl ax_Ms ax_Xs ax_NMs ax_cl ax_TT ax_NLs nm_M_nextEnd prog_7_method_30_code (some .int) 4 cd_M_nextEnd 0 cd_M_nextEnd := ⟨
  ⟨by decide +kernel, by decide +kernel, by decide +kernel⟩,
  ⟨by decide +kernel, by decide +kernel, by decide +kernel, by decide +kernel⟩,
  ⟨by decide +kernel, by decide +kernel, by decide +kernel⟩,
  ⟨by decide +kernel, by decide +kernel, by decide +kernel, by decide +kernel⟩,
  ⟨by decide +kernel, by decide +kernel, by decide +kernel⟩,
  ⟨by decide +kernel, by decide +kernel, by decide +kernel⟩,
  ⟨by decide +kernel, by decide +kernel, _, rfl, by decide, tw_463⟩,
  ⟨by decide +kernel, by decide +kernel, by decide +kernel⟩,
  ⟨by decide +kernel, by decide +kernel, by decide +kernel⟩,
  ⟨by decide +kernel, by decide +kernel, _, rfl, by decide, tw_479⟩,
  ⟨by decide +kernel, by decide +kernel, by decide +kernel⟩,
  ⟨by decide +kernel, by decide +kernel⟩,
  ⟨by decide +kernel, by decide +kernel, by decide +kernel⟩,
  ⟨by decide +kernel, by decide +kernel, by decide +kernel⟩,
  ⟨by decide +kernel, by decide +kernel⟩,
  ⟨by decide +kernel, by decide +kernel, by decide +kernel⟩,
  ⟨by decide +kernel, by decide +kernel, _, rfl, by decide, tw_481⟩,
  ⟨by decide +kernel, by decide +kernel, by decide +kernel⟩,
  ⟨by decide +kernel, by decide +kernel⟩,
  ⟨by decide +kernel, by decide +kernel, by decide +kernel⟩,
  ⟨by decide +kernel, by decide +kernel, by decide +kernel⟩,
  ⟨by decide +kernel, by decide +kernel, _, rfl, by decide, tw_481⟩,
  ⟨by decide +kernel, by decide +kernel, by decide +kernel⟩,
  ⟨by decide +kernel, by decide +kernel⟩,
  ⟨by decide +kernel, by decide +kernel, by decide +kernel⟩,
  ⟨by decide +kernel, by decide +kernel, _, rfl, by decide, tw_480⟩,
  ⟨by decide +kernel, by decide +kernel, by decide +kernel⟩,
  ⟨by decide +kernel, by decide +kernel⟩,
  ⟨by decide +kernel, by decide +kernel, by decide +kernel⟩,
  ⟨by decide +kernel, by decide +kernel, by decide +kernel⟩,
  ⟨by decide +kernel, by decide +kernel, _, rfl, by decide, tw_481⟩,
  ⟨by decide +kernel, by decide +kernel, by decide +kernel⟩,
  ⟨by decide +kernel, by decide +kernel⟩,
  ⟨by decide +kernel, by decide +kernel⟩,
  ⟨by decide +kernel, by decide +kernel, by decide +kernel⟩,
  ⟨by decide +kernel, by decide +kernel, _, rfl, by decide, tw_480⟩,
  ⟨by decide +kernel, by decide +kernel, by decide +kernel⟩,
  ⟨by decide +kernel, by decide +kernel⟩,
  ⟨by decide +kernel, by decide +kernel, by decide +kernel, by decide +kernel⟩,
  ⟨by decide +kernel, by decide +kernel, by decide +kernel⟩,
  ⟨by decide +kernel, by decide +kernel, by decide +kernel⟩,
  ⟨by decide +kernel, by decide +kernel, by decide +kernel⟩,
  ⟨by decide +kernel, by decide +kernel, by decide +kernel⟩,
  ⟨by decide +kernel, by decide +kernel, by decide +kernel⟩,
  ⟨by decide +kernel, by decide +kernel, by decide +kernel⟩,
  ⟨by decide +kernel, by decide +kernel⟩,
  ⟨by decide +kernel, by decide +kernel, by decide +kernel⟩,
  ⟨by decide +kernel, by decide +kernel, by decide +kernel, by decide +kernel⟩,
  ⟨by decide +kernel, by decide +kernel, by decide +kernel, by decide +kernel, by decide +kernel⟩,
  ⟨by decide +kernel, by decide +kernel⟩,
  ⟨by decide +kernel, by decide +kernel, by decide +kernel⟩,
  ⟨by decide +kernel, Or.inl ⟨rfl, rfl⟩⟩,
  trivial⟩
set_option maxRecDepth 100000 in
set_option maxHeartbeats 4000000 in
theorem ok_M_run : ax_okl ax_Ms ax_Xs ax_NMs ax_cl ax_TT ax_NLs nm_M_run prog_7_method_31_code (some .int) 2 cd_M_run 0 cd_M_run := ⟨
  ⟨by decide +kernel, by decide +kernel, by decide +kernel⟩,
  ⟨by decide +kernel, by decide +kernel, by decide +kernel⟩,
  ⟨by decide +kernel, by decide +kernel, _, rfl, by decide, tw_459, ⟨.int, by decide +kernel, Or.inl ⟨rfl, rfl⟩⟩, Or.inl rfl⟩,
  ⟨by decide +kernel, by decide +kernel, by decide +kernel⟩,
  ⟨by decide +kernel, by decide +kernel, Or.inr rfl, _, 5, _, rfl, rfl, rfl, rfl, ⟨fun _ => rfl, fun _ => rfl⟩, Or.inl tw_620, tw_622, tw_20, fun r h => (by cases h; exact ⟨_, rfl, by decide +kernel⟩)⟩,
  ⟨by decide +kernel, by decide +kernel, by decide +kernel⟩,
  ⟨by decide +kernel, by decide +kernel, by decide +kernel⟩,
  ⟨by decide +kernel, by decide +kernel, _, rfl, by decide, tw_493, ⟨.boolean, by decide +kernel, Or.inr (Or.inl ⟨rfl, rfl⟩)⟩, Or.inl rfl⟩,
  ⟨by decide +kernel, by decide +kernel, by decide +kernel⟩,
  ⟨by decide +kernel, by decide +kernel, by decide +kernel, by decide +kernel⟩,
  ⟨by decide +kernel, by decide +kernel, by decide +kernel⟩,
  ⟨by decide +kernel, by decide +kernel, by decide +kernel⟩,
  ⟨by decide +kernel, by decide +kernel, by decide +kernel⟩,
  ⟨by decide +kernel, by decide +kernel, by decide +kernel⟩,
  ⟨by decide +kernel, by decide +kernel, Or.inr rfl, _, 5, _, rfl, rfl, rfl, rfl, ⟨fun _ => rfl, fun _ => rfl⟩, Or.inl tw_624, tw_626, tw_21, fun r h => (by cases h; exact ⟨_, rfl, by decide +kernel⟩)⟩,
  ⟨by decide +kernel, by decide +kernel, by decide +kernel⟩,
  ⟨by decide +kernel, by decide +kernel, Or.inr rfl, _, 5, _, rfl, rfl, rfl, rfl, ⟨fun _ => rfl, fun _ => rfl⟩, Or.inl tw_636, tw_638, tw_24, fun r h => (by cases h; exact ⟨_, rfl, by decide +kernel⟩)⟩,
  ⟨by decide +kernel, by decide +kernel, by decide +kernel⟩,
  ⟨by decide +kernel, by decide +kernel, _, rfl, by decide, tw_475⟩,
  ⟨by decide +kernel, by decide +kernel, by decide +kernel⟩,
  ⟨by decide +kernel, by decide +kernel⟩,
  ⟨by decide +kernel, by decide +kernel, by decide +kernel⟩,
  ⟨by decide +kernel, by decide +kernel, by decide +kernel⟩,
  ⟨by decide +kernel, by decide +kernel, Or.inl rfl, _, 5, _, rfl, rfl, rfl, rfl, ⟨fun h => (by cases h), fun h => (by cases h)⟩, Or.inl tw_632, tw_634, tw_23, fun r h => (by cases h; exact ⟨_, rfl, by decide +kernel⟩)⟩,
  ⟨by decide +kernel, by decide +kernel, by decide +kernel⟩,
  ⟨by decide +kernel, by decide +kernel, by decide +kernel⟩,
  ⟨by decide +kernel, by decide +kernel, Or.inr rfl, _, 5, _, rfl, rfl, rfl, rfl, ⟨fun _ => rfl, fun _ => rfl⟩, Or.inl tw_644, tw_646, tw_26, fun r h => (by cases h; exact ⟨_, rfl, by decide +kernel⟩)⟩,
  ⟨by decide +kernel, by decide +kernel, by decide +kernel⟩,
  ⟨by decide +kernel, by decide +kernel, by decide +kernel⟩,
  ⟨by decide +kernel, by decide +kernel, Or.inr rfl, _, 5, _, rfl, rfl, rfl, rfl, ⟨fun _ => rfl, fun _ => rfl⟩, Or.inl tw_648, tw_650, tw_27, fun r h => (by cases h; exact ⟨_, rfl, by decide +kernel⟩)⟩,
  ⟨by decide +kernel, by decide +kernel, by decide +kernel⟩,
  ⟨by decide +kernel, by decide +kernel, Or.inl rfl, _, 5, _, rfl, rfl, rfl, rfl, ⟨fun h => (by cases h), fun h => (by cases h)⟩, Or.inl tw_672, tw_674, tw_33, fun r h => (by cases h; exact ⟨_, rfl, by decide +kernel⟩)⟩,
  ⟨by decide +kernel, by decide +kernel, by decide +kernel, by decide +kernel⟩,
  ⟨by decide +kernel, by decide +kernel⟩,
  ⟨by decide +kernel, by decide +kernel, by decide +kernel⟩,
  ⟨by decide +kernel, by decide +kernel, Or.inr rfl, _, 5, _, rfl, rfl, rfl, rfl, ⟨fun _ => rfl, fun _ => rfl⟩, Or.inl tw_644, tw_646, tw_26, fun r h => (by cases h; exact ⟨_, rfl, by decide +kernel⟩)⟩,
  ⟨by decide +kernel, by decide +kernel, by decide +kernel⟩,
  ⟨by decide +kernel, by decide +kernel, _, rfl, by decide, tw_492⟩,
  ⟨by decide +kernel, Or.inl ⟨rfl, rfl⟩⟩,
  trivial⟩
end
section
/-! Each instruction's entry is what the code says, 7. -/
set_option maxRecDepth 100000 in
set_option maxHeartbeats 4000000 in
theorem ok_M_outcome : ax_okl ax_Ms ax_Xs ax_NMs ax_cl ax_TT ax_NLs nm_M_outcome prog_7_method_32_code (some .int) 3 cd_M_outcome 0 cd_M_outcome := ⟨
  ⟨by decide +kernel, by decide +kernel, by decide +kernel⟩,
  ⟨by decide +kernel, by decide +kernel, by decide +kernel⟩,
  ⟨by decide +kernel, by decide +kernel, _, rfl, by decide, tw_459, ⟨.int, by decide +kernel, Or.inl ⟨rfl, rfl⟩⟩, Or.inl rfl⟩,
  ⟨by decide +kernel, by decide +kernel, by decide +kernel⟩,
  ⟨by decide +kernel, by decide +kernel, _, rfl, by decide, tw_493⟩,
  ⟨by decide +kernel, by decide +kernel, by decide +kernel⟩,
  ⟨by decide +kernel, by decide +kernel, by decide +kernel⟩,
  ⟨by decide +kernel, by decide +kernel, by decide +kernel⟩,
  ⟨by decide +kernel, by decide +kernel, Or.inl rfl, _, 5, _, rfl, rfl, rfl, rfl, ⟨fun h => (by cases h), fun h => (by cases h)⟩, Or.inl tw_580, tw_582, tw_17, fun r h => (by cases h; exact ⟨_, rfl, by decide +kernel⟩)⟩,
  ⟨by decide +kernel, by decide +kernel, by decide +kernel⟩,
  ⟨by decide +kernel, by decide +kernel, by decide +kernel⟩,
  ⟨by decide +kernel, Or.inl ⟨rfl, rfl⟩⟩,
  ⟨by decide +kernel, by decide +kernel, by decide +kernel⟩,
  ⟨⟨33, by decide +kernel⟩, by decide +kernel, by decide +kernel, by decide +kernel, fun k t h => by
      match k, t, h with
      | 0, _, h => cases h; exact ⟨_, rfl, by decide +kernel⟩
      | 1, _, h => cases h; exact ⟨_, rfl, by decide +kernel⟩
      | 2, _, h => cases h; exact ⟨_, rfl, by decide +kernel⟩
      | 3, _, h => cases h; exact ⟨_, rfl, by decide +kernel⟩
      | 4, _, h => cases h; exact ⟨_, rfl, by decide +kernel⟩
      | n + 5, _, h => cases h⟩,
  ⟨by decide +kernel, by decide +kernel, by decide +kernel⟩,
  ⟨by decide +kernel, by decide +kernel, _, rfl, by decide, tw_479⟩,
  ⟨by decide +kernel, by decide +kernel, by decide +kernel⟩,
  ⟨by decide +kernel, by decide +kernel⟩,
  ⟨by decide +kernel, Or.inl ⟨rfl, rfl⟩⟩,
  ⟨by decide +kernel, by decide +kernel, by decide +kernel⟩,
  ⟨by decide +kernel, by decide +kernel, _, rfl, by decide, tw_482⟩,
  ⟨by decide +kernel, by decide +kernel, by decide +kernel⟩,
  ⟨by decide +kernel, by decide +kernel⟩,
  ⟨by decide +kernel, Or.inl ⟨rfl, rfl⟩⟩,
  ⟨by decide +kernel, by decide +kernel, by decide +kernel⟩,
  ⟨by decide +kernel, by decide +kernel, _, rfl, by decide, tw_483⟩,
  ⟨by decide +kernel, by decide +kernel, by decide +kernel⟩,
  ⟨by decide +kernel, by decide +kernel⟩,
  ⟨by decide +kernel, Or.inl ⟨rfl, rfl⟩⟩,
  ⟨by decide +kernel, by decide +kernel, by decide +kernel⟩,
  ⟨by decide +kernel, by decide +kernel, _, rfl, by decide, tw_484⟩,
  ⟨by decide +kernel, by decide +kernel, by decide +kernel⟩,
  ⟨by decide +kernel, by decide +kernel⟩,
  ⟨by decide +kernel, Or.inl ⟨rfl, rfl⟩⟩,
  ⟨by decide +kernel, by decide +kernel, by decide +kernel⟩,
  ⟨by decide +kernel, by decide +kernel, _, rfl, by decide, tw_485⟩,
  ⟨by decide +kernel, by decide +kernel, by decide +kernel⟩,
  ⟨by decide +kernel, by decide +kernel⟩,
  ⟨by decide +kernel, Or.inl ⟨rfl, rfl⟩⟩,
  ⟨by decide +kernel, by decide +kernel, by decide +kernel⟩,
  ⟨by decide +kernel, Or.inl ⟨rfl, rfl⟩⟩,
  trivial⟩
set_option maxRecDepth 100000 in
set_option maxHeartbeats 4000000 in
theorem ok_M_first : ax_okl ax_Ms ax_Xs ax_NMs ax_cl ax_TT ax_NLs nm_M_first prog_7_method_33_code (some .int) 2 cd_M_first 0 cd_M_first := ⟨
  ⟨by decide +kernel, by decide +kernel, by decide +kernel⟩,
  ⟨by decide +kernel, by decide +kernel, by decide +kernel⟩,
  ⟨by decide +kernel, by decide +kernel, _, rfl, by decide, tw_459, ⟨.int, by decide +kernel, Or.inl ⟨rfl, rfl⟩⟩, Or.inl rfl⟩,
  ⟨by decide +kernel, by decide +kernel, by decide +kernel⟩,
  ⟨by decide +kernel, by decide +kernel, by decide +kernel, by decide +kernel⟩,
  ⟨by decide +kernel, by decide +kernel, by decide +kernel⟩,
  ⟨by decide +kernel, by decide +kernel, by decide +kernel⟩,
  ⟨by decide +kernel, by decide +kernel, _, rfl, by decide, tw_478⟩,
  ⟨by decide +kernel, by decide +kernel, by decide +kernel⟩,
  ⟨by decide +kernel, by decide +kernel, by decide +kernel⟩,
  ⟨by decide +kernel, by decide +kernel, _, rfl, by decide, tw_493⟩,
  ⟨by decide +kernel, by decide +kernel, by decide +kernel⟩,
  ⟨by decide +kernel, by decide +kernel, by decide +kernel⟩,
  ⟨by decide +kernel, by decide +kernel, _, rfl, by decide, tw_479⟩,
  ⟨by decide +kernel, by decide +kernel, by decide +kernel⟩,
  ⟨by decide +kernel, by decide +kernel⟩,
  ⟨by decide +kernel, by decide +kernel, by decide +kernel⟩,
  ⟨by decide +kernel, by decide +kernel, by decide +kernel⟩,
  ⟨by decide +kernel, by decide +kernel, by decide +kernel⟩,
  ⟨by decide +kernel, by decide +kernel, _, rfl, by decide, tw_479⟩,
  ⟨by decide +kernel, by decide +kernel, by decide +kernel⟩,
  ⟨by decide +kernel, by decide +kernel⟩,
  ⟨by decide +kernel, by decide +kernel, by decide +kernel⟩,
  ⟨by decide +kernel, by decide +kernel, by decide +kernel⟩,
  ⟨by decide +kernel, by decide +kernel, by decide +kernel⟩,
  ⟨by decide +kernel, Or.inl ⟨rfl, rfl⟩⟩,
  ⟨by decide +kernel, by decide +kernel, by decide +kernel, by decide +kernel, by decide +kernel⟩,
  ⟨by decide +kernel, by decide +kernel⟩,
  ⟨by decide +kernel, by decide +kernel, by decide +kernel⟩,
  ⟨by decide +kernel, Or.inl ⟨rfl, rfl⟩⟩,
  trivial⟩
set_option maxRecDepth 100000 in
set_option maxHeartbeats 4000000 in
theorem ok_M_order : ax_okl ax_Ms ax_Xs ax_NMs ax_cl ax_TT ax_NLs nm_M_order prog_7_method_34_code (some .int) 2 cd_M_order 0 cd_M_order := ⟨
  ⟨by decide +kernel, by decide +kernel, by decide +kernel⟩,
  ⟨by decide +kernel, by decide +kernel, by decide +kernel⟩,
  ⟨by decide +kernel, by decide +kernel, _, rfl, by decide, tw_459, ⟨.int, by decide +kernel, Or.inl ⟨rfl, rfl⟩⟩, Or.inl rfl⟩,
  ⟨by decide +kernel, by decide +kernel, by decide +kernel⟩,
  ⟨by decide +kernel, by decide +kernel, by decide +kernel⟩,
  ⟨by decide +kernel, by decide +kernel, by decide +kernel⟩,
  ⟨by decide +kernel, by decide +kernel, _, rfl, by decide, tw_489⟩,
  ⟨by decide +kernel, by decide +kernel, by decide +kernel⟩,
  ⟨by decide +kernel, by decide +kernel⟩,
  ⟨by decide +kernel, by decide +kernel, Or.inr (Or.inr ⟨Or.inl rfl, _, rfl, ⟨fun h => (by cases h), fun h => (by cases h)⟩, Or.inl tw_569, tw_570, fun r h => (by cases h; decide +kernel)⟩)⟩,
  ⟨by decide +kernel, by decide +kernel, by decide +kernel⟩,
  ⟨by decide +kernel, by decide +kernel, by decide +kernel⟩,
  ⟨by decide +kernel, by decide +kernel, _, rfl, by decide, tw_488⟩,
  ⟨by decide +kernel, by decide +kernel, by decide +kernel⟩,
  ⟨by decide +kernel, by decide +kernel⟩,
  ⟨by decide +kernel, by decide +kernel⟩,
  ⟨by decide +kernel, by decide +kernel, by decide +kernel⟩,
  ⟨by decide +kernel, Or.inl ⟨rfl, rfl⟩⟩,
  trivial⟩
set_option maxRecDepth 100000 in
set_option maxHeartbeats 4000000 in
theorem ok_M_peak : ax_okl ax_Ms ax_Xs ax_NMs ax_cl ax_TT ax_NLs nm_M_peak prog_7_method_35_code (some .int) 2 cd_M_peak 0 cd_M_peak := ⟨
  ⟨by decide +kernel, by decide +kernel, by decide +kernel⟩,
  ⟨by decide +kernel, by decide +kernel, by decide +kernel⟩,
  ⟨by decide +kernel, by decide +kernel, _, rfl, by decide, tw_459, ⟨.int, by decide +kernel, Or.inl ⟨rfl, rfl⟩⟩, Or.inl rfl⟩,
  ⟨by decide +kernel, by decide +kernel, by decide +kernel⟩,
  ⟨by decide +kernel, by decide +kernel, by decide +kernel⟩,
  ⟨by decide +kernel, by decide +kernel, by decide +kernel⟩,
  ⟨by decide +kernel, by decide +kernel, _, rfl, by decide, tw_490⟩,
  ⟨by decide +kernel, by decide +kernel⟩,
  ⟨by decide +kernel, by decide +kernel, by decide +kernel⟩,
  ⟨by decide +kernel, by decide +kernel, by decide +kernel⟩,
  ⟨by decide +kernel, by decide +kernel, by decide +kernel⟩,
  ⟨by decide +kernel, by decide +kernel, by decide +kernel⟩,
  ⟨by decide +kernel, by decide +kernel, _, rfl, by decide, tw_491⟩,
  ⟨by decide +kernel, by decide +kernel⟩,
  ⟨by decide +kernel, by decide +kernel, by decide +kernel⟩,
  ⟨by decide +kernel, Or.inl ⟨rfl, rfl⟩⟩,
  trivial⟩
end
section
/-! All the tables together. -/
theorem g3_O_init : ax_g3 ax_Ms ax_Xs ax_NMs ax_cl ax_TT ax_NLs (nm_O_init, prog_1_method_1_code, none) (cd_O_init, 3, 3, 26, 597) := ⟨by decide, tw_46, tw_35, ⟨by decide, by decide⟩, by decide, by decide, rfl, ax_okl_at ok_O_init⟩
theorem g3_O_slots : ax_g3 ax_Ms ax_Xs ax_NMs ax_cl ax_TT ax_NLs (nm_O_slots, prog_1_method_2_code, some .boolean) (cd_O_slots, 2, 2, 0, 0) := ⟨by decide, tw_243, tw_35, ⟨by decide, by decide⟩, by decide, by decide, rfl, ax_okl_at ok_O_slots⟩
theorem g3_O_action : ax_g3 ax_Ms ax_Xs ax_NMs ax_cl ax_TT ax_NLs (nm_O_action, prog_1_method_3_code, some .int) (cd_O_action, 5, 4, 0, 0) := ⟨by decide, tw_250, tw_35, ⟨by decide, by decide⟩, by decide, by decide, rfl, ax_okl_at ok_O_action⟩
theorem g3_O_about : ax_g3 ax_Ms ax_Xs ax_NMs ax_cl ax_TT ax_NLs (nm_O_about, prog_1_method_4_code, some .boolean) (cd_O_about, 5, 5, 0, 0) := ⟨by decide, tw_258, tw_35, ⟨by decide, by decide⟩, by decide, by decide, rfl, ax_okl_at ok_O_about⟩
theorem g3_O_fails : ax_g3 ax_Ms ax_Xs ax_NMs ax_cl ax_TT ax_NLs (nm_O_fails, prog_1_method_5_code, some .boolean) (cd_O_fails, 4, 4, 0, 0) := ⟨by decide, tw_266, tw_35, ⟨by decide, by decide⟩, by decide, by decide, rfl, ax_okl_at ok_O_fails⟩
theorem g3_O_needs : ax_g3 ax_Ms ax_Xs ax_NMs ax_cl ax_TT ax_NLs (nm_O_needs, prog_1_method_6_code, some .int) (cd_O_needs, 3, 3, 0, 0) := ⟨by decide, tw_270, tw_35, ⟨by decide, by decide⟩, by decide, by decide, rfl, ax_okl_at ok_O_needs⟩
theorem g3_O_wish : ax_g3 ax_Ms ax_Xs ax_NMs ax_cl ax_TT ax_NLs (nm_O_wish, prog_1_method_7_code, some .boolean) (cd_O_wish, 3, 3, 0, 0) := ⟨by decide, tw_285, tw_35, ⟨by decide, by decide⟩, by decide, by decide, rfl, ax_okl_at ok_O_wish⟩
theorem g3_O_mode : ax_g3 ax_Ms ax_Xs ax_NMs ax_cl ax_TT ax_NLs (nm_O_mode, prog_1_method_8_code, some .boolean) (cd_O_mode, 3, 3, 0, 0) := ⟨by decide, tw_289, tw_35, ⟨by decide, by decide⟩, by decide, by decide, rfl, ax_okl_at ok_O_mode⟩
theorem g3_O_retries : ax_g3 ax_Ms ax_Xs ax_NMs ax_cl ax_TT ax_NLs (nm_O_retries, prog_1_method_9_code, some .boolean) (cd_O_retries, 3, 3, 0, 0) := ⟨by decide, tw_293, tw_35, ⟨by decide, by decide⟩, by decide, by decide, rfl, ax_okl_at ok_O_retries⟩
theorem g3_O_run : ax_g3 ax_Ms ax_Xs ax_NMs ax_cl ax_TT ax_NLs (nm_O_run, prog_1_method_10_code, some .int) (cd_O_run, 1, 1, 0, 0) := ⟨by decide, tw_297, tw_35, ⟨by decide, by decide⟩, by decide, by decide, rfl, ax_okl_at ok_O_run⟩
theorem g3_O_rest : ax_g3 ax_Ms ax_Xs ax_NMs ax_cl ax_TT ax_NLs (nm_O_rest, prog_1_method_11_code, some .int) (cd_O_rest, 3, 2, 0, 0) := ⟨by decide, tw_417, tw_35, ⟨by decide, by decide⟩, by decide, by decide, rfl, ax_okl_at ok_O_rest⟩
theorem g3_O_outcome : ax_g3 ax_Ms ax_Xs ax_NMs ax_cl ax_TT ax_NLs (nm_O_outcome, prog_1_method_12_code, some .int) (cd_O_outcome, 3, 3, 0, 0) := ⟨by decide, tw_424, tw_35, ⟨by decide, by decide⟩, by decide, by decide, rfl, ax_okl_at ok_O_outcome⟩
theorem g3_O_first : ax_g3 ax_Ms ax_Xs ax_NMs ax_cl ax_TT ax_NLs (nm_O_first, prog_1_method_13_code, some .int) (cd_O_first, 1, 1, 0, 0) := ⟨by decide, tw_432, tw_35, ⟨by decide, by decide⟩, by decide, by decide, rfl, ax_okl_at ok_O_first⟩
theorem g3_O_order : ax_g3 ax_Ms ax_Xs ax_NMs ax_cl ax_TT ax_NLs (nm_O_order, prog_1_method_14_code, some .int) (cd_O_order, 2, 2, 0, 0) := ⟨by decide, tw_437, tw_35, ⟨by decide, by decide⟩, by decide, by decide, rfl, ax_okl_at ok_O_order⟩
theorem g3_O_peak : ax_g3 ax_Ms ax_Xs ax_NMs ax_cl ax_TT ax_NLs (nm_O_peak, prog_1_method_15_code, some .int) (cd_O_peak, 2, 2, 0, 0) := ⟨by decide, tw_445, tw_35, ⟨by decide, by decide⟩, by decide, by decide, rfl, ax_okl_at ok_O_peak⟩
theorem g3_O_within : ax_g3 ax_Ms ax_Xs ax_NMs ax_cl ax_TT ax_NLs (nm_O_within, prog_1_method_16_code, some .boolean) (cd_O_within, 3, 3, 0, 0) := ⟨by decide, tw_246, tw_35, ⟨by decide, by decide⟩, by decide, by decide, rfl, ax_okl_at ok_O_within⟩
theorem g3_O_nearest : ax_g3 ax_Ms ax_Xs ax_NMs ax_cl ax_TT ax_NLs (nm_O_nearest, prog_1_method_17_code, some .int) (cd_O_nearest, 3, 3, 0, 0) := ⟨by decide, tw_54, tw_35, ⟨by decide, by decide⟩, by decide, by decide, rfl, ax_okl_at ok_O_nearest⟩
theorem g3_O_only : ax_g3 ax_Ms ax_Xs ax_NMs ax_cl ax_TT ax_NLs (nm_O_only, prog_1_method_18_code, some .int) (cd_O_only, 1, 1, 0, 0) := ⟨by decide, tw_280, tw_35, ⟨by decide, by decide⟩, by decide, by decide, rfl, ax_okl_at ok_O_only⟩
theorem g3_O_isIn : ax_g3 ax_Ms ax_Xs ax_NMs ax_cl ax_TT ax_NLs (nm_O_isIn, prog_1_method_19_code, some .boolean) (cd_O_isIn, 2, 2, 0, 0) := ⟨by decide, tw_277, tw_35, ⟨by decide, by decide⟩, by decide, by decide, rfl, ax_okl_at ok_O_isIn⟩
theorem g3_H_init : ax_g3 ax_Ms ax_Xs ax_NMs ax_cl ax_TT ax_NLs (nm_H_init, prog_3_method_1_code, none) (cd_H_init, 3, 3, 0, 0) := ⟨by decide, tw_64, tw_36, ⟨by decide, by decide⟩, by decide, by decide, rfl, ax_okl_at ok_H_init⟩
theorem g3_H_clear : ax_g3 ax_Ms ax_Xs ax_NMs ax_cl ax_TT ax_NLs (nm_H_clear, prog_3_method_2_code, none) (cd_H_clear, 1, 1, 0, 0) := ⟨by decide, tw_309, tw_36, ⟨by decide, by decide⟩, by decide, by decide, rfl, ax_okl_at ok_H_clear⟩
theorem g3_H_isTooSmallFor : ax_g3 ax_Ms ax_Xs ax_NMs ax_cl ax_TT ax_NLs (nm_H_isTooSmallFor, prog_3_method_3_code, some .boolean) (cd_H_isTooSmallFor, 3, 3, 0, 0) := ⟨by decide, tw_331, tw_36, ⟨by decide, by decide⟩, by decide, by decide, rfl, ax_okl_at ok_H_isTooSmallFor⟩
theorem g3_H_hasFree : ax_g3 ax_Ms ax_Xs ax_NMs ax_cl ax_TT ax_NLs (nm_H_hasFree, prog_3_method_4_code, some .boolean) (cd_H_hasFree, 4, 4, 0, 0) := ⟨by decide, tw_392, tw_36, ⟨by decide, by decide⟩, by decide, by decide, rfl, ax_okl_at ok_H_hasFree⟩
theorem g3_H_hasFreeSlot : ax_g3 ax_Ms ax_Xs ax_NMs ax_cl ax_TT ax_NLs (nm_H_hasFreeSlot, prog_3_method_5_code, some .boolean) (cd_H_hasFreeSlot, 1, 1, 0, 0) := ⟨by decide, tw_405, tw_36, ⟨by decide, by decide⟩, by decide, by decide, rfl, ax_okl_at ok_H_hasFreeSlot⟩
theorem g3_H_take : ax_g3 ax_Ms ax_Xs ax_NMs ax_cl ax_TT ax_NLs (nm_H_take, prog_3_method_6_code, none) (cd_H_take, 4, 4, 0, 0) := ⟨by decide, tw_400, tw_36, ⟨by decide, by decide⟩, by decide, by decide, rfl, ax_okl_at ok_H_take⟩
theorem g3_H_giveBack : ax_g3 ax_Ms ax_Xs ax_NMs ax_cl ax_TT ax_NLs (nm_H_giveBack, prog_3_method_7_code, none) (cd_H_giveBack, 4, 4, 0, 0) := ⟨by decide, tw_347, tw_36, ⟨by decide, by decide⟩, by decide, by decide, rfl, ax_okl_at ok_H_giveBack⟩
theorem g3_A_init : ax_g3 ax_Ms ax_Xs ax_NMs ax_cl ax_TT ax_NLs (nm_A_init, prog_2_method_1_code, none) (cd_A_init, 1, 1, 12, 288) := ⟨by decide, tw_102, tw_38, ⟨by decide, by decide⟩, by decide, by decide, rfl, ax_okl_at ok_A_init⟩
theorem g3_A_has : ax_g3 ax_Ms ax_Xs ax_NMs ax_cl ax_TT ax_NLs (nm_A_has, prog_2_method_2_code, some .boolean) (cd_A_has, 2, 2, 0, 0) := ⟨by decide, tw_262, tw_38, ⟨by decide, by decide⟩, by decide, by decide, rfl, ax_okl_at ok_A_has⟩
theorem g3_A_add : ax_g3 ax_Ms ax_Xs ax_NMs ax_cl ax_TT ax_NLs (nm_A_add, prog_2_method_3_code, some .int) (cd_A_add, 4, 4, 0, 0) := ⟨by decide, tw_254, tw_38, ⟨by decide, by decide⟩, by decide, by decide, rfl, ax_okl_at ok_A_add⟩
theorem g3_A_join : ax_g3 ax_Ms ax_Xs ax_NMs ax_cl ax_TT ax_NLs (nm_A_join, prog_2_method_4_code, some .int) (cd_A_join, 5, 3, 0, 0) := ⟨by decide, tw_274, tw_38, ⟨by decide, by decide⟩, by decide, by decide, rfl, ax_okl_at ok_A_join⟩
theorem g3_A_wanted : ax_g3 ax_Ms ax_Xs ax_NMs ax_cl ax_TT ax_NLs (nm_A_wanted, prog_2_method_5_code, some .int) (cd_A_wanted, 3, 1, 0, 0) := ⟨by decide, tw_313, tw_38, ⟨by decide, by decide⟩, by decide, by decide, rfl, ax_okl_at ok_A_wanted⟩
theorem g3_A_measureRests : ax_g3 ax_Ms ax_Xs ax_NMs ax_cl ax_TT ax_NLs (nm_A_measureRests, prog_2_method_6_code, none) (cd_A_measureRests, 6, 2, 0, 0) := ⟨by decide, tw_317, tw_38, ⟨by decide, by decide⟩, by decide, by decide, rfl, ax_okl_at ok_A_measureRests⟩
theorem g3_A_greatestRestAbove : ax_g3 ax_Ms ax_Xs ax_NMs ax_cl ax_TT ax_NLs (nm_A_greatestRestAbove, prog_2_method_7_code, some .int) (cd_A_greatestRestAbove, 5, 3, 0, 0) := ⟨by decide, tw_321, tw_38, ⟨by decide, by decide⟩, by decide, by decide, rfl, ax_okl_at ok_A_greatestRestAbove⟩
theorem g3_U_init : ax_g3 ax_Ms ax_Xs ax_NMs ax_cl ax_TT ax_NLs (nm_U_init, prog_4_method_1_code, none) (cd_U_init, 1, 1, 2, 8) := ⟨by decide, tw_168, tw_39, ⟨by decide, by decide⟩, by decide, by decide, rfl, ax_okl_at ok_U_init⟩
theorem g3_N_init : ax_g3 ax_Ms ax_Xs ax_NMs ax_cl ax_TT ax_NLs (nm_N_init, prog_5_method_1_code, none) (cd_N_init, 4, 4, 8, 264) := ⟨by decide, tw_185, tw_40, ⟨by decide, by decide⟩, by decide, by decide, rfl, ax_okl_at ok_N_init⟩
theorem g3_N_goThrough : ax_g3 ax_Ms ax_Xs ax_NMs ax_cl ax_TT ax_NLs (nm_N_goThrough, prog_5_method_2_code, some .int) (cd_N_goThrough, 4, 1, 0, 0) := ⟨by decide, tw_301, tw_40, ⟨by decide, by decide⟩, by decide, by decide, rfl, ax_okl_at ok_N_goThrough⟩
theorem g3_N_tell : ax_g3 ax_Ms ax_Xs ax_NMs ax_cl ax_TT ax_NLs (nm_N_tell, prog_5_method_3_code, some .int) (cd_N_tell, 3, 3, 0, 0) := ⟨by decide, tw_428, tw_40, ⟨by decide, by decide⟩, by decide, by decide, rfl, ax_okl_at ok_N_tell⟩
theorem g3_N_firstBad : ax_g3 ax_Ms ax_Xs ax_NMs ax_cl ax_TT ax_NLs (nm_N_firstBad, prog_5_method_4_code, some .int) (cd_N_firstBad, 2, 1, 0, 0) := ⟨by decide, tw_359, tw_40, ⟨by decide, by decide⟩, by decide, by decide, rfl, ax_okl_at ok_N_firstBad⟩
theorem g3_N_begunAs : ax_g3 ax_Ms ax_Xs ax_NMs ax_cl ax_TT ax_NLs (nm_N_begunAs, prog_5_method_5_code, some .int) (cd_N_begunAs, 2, 2, 0, 0) := ⟨by decide, tw_441, tw_40, ⟨by decide, by decide⟩, by decide, by decide, rfl, ax_okl_at ok_N_begunAs⟩
theorem g3_N_prepare : ax_g3 ax_Ms ax_Xs ax_NMs ax_cl ax_TT ax_NLs (nm_N_prepare, prog_5_method_6_code, none) (cd_N_prepare, 3, 1, 0, 0) := ⟨by decide, tw_305, tw_40, ⟨by decide, by decide⟩, by decide, by decide, rfl, ax_okl_at ok_N_prepare⟩
theorem g3_N_stateAtFirst : ax_g3 ax_Ms ax_Xs ax_NMs ax_cl ax_TT ax_NLs (nm_N_stateAtFirst, prog_5_method_7_code, some .int) (cd_N_stateAtFirst, 2, 2, 0, 0) := ⟨by decide, tw_327, tw_40, ⟨by decide, by decide⟩, by decide, by decide, rfl, ax_okl_at ok_N_stateAtFirst⟩
theorem g3_N_endTries : ax_g3 ax_Ms ax_Xs ax_NMs ax_cl ax_TT ax_NLs (nm_N_endTries, prog_5_method_8_code, none) (cd_N_endTries, 3, 2, 0, 0) := ⟨by decide, tw_335, tw_40, ⟨by decide, by decide⟩, by decide, by decide, rfl, ax_okl_at ok_N_endTries⟩
theorem g3_N_endTry : ax_g3 ax_Ms ax_Xs ax_NMs ax_cl ax_TT ax_NLs (nm_N_endTry, prog_5_method_9_code, none) (cd_N_endTry, 4, 4, 0, 0) := ⟨by decide, tw_339, tw_40, ⟨by decide, by decide⟩, by decide, by decide, rfl, ax_okl_at ok_N_endTry⟩
theorem g3_N_leaveBothSides : ax_g3 ax_Ms ax_Xs ax_NMs ax_cl ax_TT ax_NLs (nm_N_leaveBothSides, prog_5_method_10_code, none) (cd_N_leaveBothSides, 2, 2, 0, 0) := ⟨by decide, tw_343, tw_40, ⟨by decide, by decide⟩, by decide, by decide, rfl, ax_okl_at ok_N_leaveBothSides⟩
theorem g3_N_mayTryAgain : ax_g3 ax_Ms ax_Xs ax_NMs ax_cl ax_TT ax_NLs (nm_N_mayTryAgain, prog_5_method_11_code, some .boolean) (cd_N_mayTryAgain, 3, 2, 0, 0) := ⟨by decide, tw_351, tw_40, ⟨by decide, by decide⟩, by decide, by decide, rfl, ax_okl_at ok_N_mayTryAgain⟩
theorem g3_N_isOneBad : ax_g3 ax_Ms ax_Xs ax_NMs ax_cl ax_TT ax_NLs (nm_N_isOneBad, prog_5_method_12_code, some .boolean) (cd_N_isOneBad, 1, 1, 0, 0) := ⟨by decide, tw_355, tw_40, ⟨by decide, by decide⟩, by decide, by decide, rfl, ax_okl_at ok_N_isOneBad⟩
theorem g3_N_skipHindered : ax_g3 ax_Ms ax_Xs ax_NMs ax_cl ax_TT ax_NLs (nm_N_skipHindered, prog_5_method_13_code, none) (cd_N_skipHindered, 5, 1, 0, 0) := ⟨by decide, tw_363, tw_40, ⟨by decide, by decide⟩, by decide, by decide, rfl, ax_okl_at ok_N_skipHindered⟩
theorem g3_N_allIn : ax_g3 ax_Ms ax_Xs ax_NMs ax_cl ax_TT ax_NLs (nm_N_allIn, prog_5_method_14_code, some .int) (cd_N_allIn, 4, 2, 0, 0) := ⟨by decide, tw_367, tw_40, ⟨by decide, by decide⟩, by decide, by decide, rfl, ax_okl_at ok_N_allIn⟩
theorem g3_N_stopWaiting : ax_g3 ax_Ms ax_Xs ax_NMs ax_cl ax_TT ax_NLs (nm_N_stopWaiting, prog_5_method_15_code, none) (cd_N_stopWaiting, 2, 1, 0, 0) := ⟨by decide, tw_372, tw_40, ⟨by decide, by decide⟩, by decide, by decide, rfl, ax_okl_at ok_N_stopWaiting⟩
theorem g3_N_beginReady : ax_g3 ax_Ms ax_Xs ax_NMs ax_cl ax_TT ax_NLs (nm_N_beginReady, prog_5_method_16_code, none) (cd_N_beginReady, 5, 2, 0, 0) := ⟨by decide, tw_376, tw_40, ⟨by decide, by decide⟩, by decide, by decide, rfl, ax_okl_at ok_N_beginReady⟩
theorem g3_N_allReady : ax_g3 ax_Ms ax_Xs ax_NMs ax_cl ax_TT ax_NLs (nm_N_allReady, prog_5_method_17_code, some .int) (cd_N_allReady, 6, 1, 0, 0) := ⟨by decide, tw_380, tw_40, ⟨by decide, by decide⟩, by decide, by decide, rfl, ax_okl_at ok_N_allReady⟩
theorem g3_N_isOtherThanTestLeft : ax_g3 ax_Ms ax_Xs ax_NMs ax_cl ax_TT ax_NLs (nm_N_isOtherThanTestLeft, prog_5_method_18_code, some .boolean) (cd_N_isOtherThanTestLeft, 2, 1, 0, 0) := ⟨by decide, tw_384, tw_40, ⟨by decide, by decide⟩, by decide, by decide, rfl, ax_okl_at ok_N_isOtherThanTestLeft⟩
theorem g3_N_foremost : ax_g3 ax_Ms ax_Xs ax_NMs ax_cl ax_TT ax_NLs (nm_N_foremost, prog_5_method_19_code, some .int) (cd_N_foremost, 4, 2, 0, 0) := ⟨by decide, tw_388, tw_40, ⟨by decide, by decide⟩, by decide, by decide, rfl, ax_okl_at ok_N_foremost⟩
theorem g3_N_beginTry : ax_g3 ax_Ms ax_Xs ax_NMs ax_cl ax_TT ax_NLs (nm_N_beginTry, prog_5_method_20_code, none) (cd_N_beginTry, 3, 3, 0, 0) := ⟨by decide, tw_396, tw_40, ⟨by decide, by decide⟩, by decide, by decide, rfl, ax_okl_at ok_N_beginTry⟩
theorem g3_N_nextEnd : ax_g3 ax_Ms ax_Xs ax_NMs ax_cl ax_TT ax_NLs (nm_N_nextEnd, prog_5_method_21_code, some .int) (cd_N_nextEnd, 3, 1, 0, 0) := ⟨by decide, tw_409, tw_40, ⟨by decide, by decide⟩, by decide, by decide, rfl, ax_okl_at ok_N_nextEnd⟩
theorem g3_N_sooner : ax_g3 ax_Ms ax_Xs ax_NMs ax_cl ax_TT ax_NLs (nm_N_sooner, prog_5_method_22_code, some .int) (cd_N_sooner, 2, 2, 0, 0) := ⟨by decide, tw_412, tw_40, ⟨by decide, by decide⟩, by decide, by decide, rfl, ax_okl_at ok_N_sooner⟩
theorem g3_M_init : ax_g3 ax_Ms ax_Xs ax_NMs ax_cl ax_TT ax_NLs (nm_M_init, prog_7_method_1_code, none) (cd_M_init, 3, 3, 24, 612) := ⟨by decide, tw_453, tw_41, ⟨by decide, by decide⟩, by decide, by decide, rfl, ax_okl_at ok_M_init⟩
theorem g3_M_held : ax_g3 ax_Ms ax_Xs ax_NMs ax_cl ax_TT ax_NLs (nm_M_held, prog_7_method_3_code, some .int) (cd_M_held, 3, 3, 0, 0) := ⟨by decide, tw_457, tw_41, ⟨by decide, by decide⟩, by decide, by decide, rfl, ax_okl_at ok_M_held⟩
theorem g3_M_in : ax_g3 ax_Ms ax_Xs ax_NMs ax_cl ax_TT ax_NLs (nm_M_in, prog_7_method_4_code, some .boolean) (cd_M_in, 3, 3, 0, 0) := ⟨by decide, tw_571, tw_41, ⟨by decide, by decide⟩, by decide, by decide, rfl, ax_okl_at ok_M_in⟩
theorem g3_M_isAction : ax_g3 ax_Ms ax_Xs ax_NMs ax_cl ax_TT ax_NLs (nm_M_isAction, prog_7_method_5_code, some .boolean) (cd_M_isAction, 2, 2, 0, 0) := ⟨by decide, tw_583, tw_41, ⟨by decide, by decide⟩, by decide, by decide, rfl, ax_okl_at ok_M_isAction⟩
theorem g3_M_slots : ax_g3 ax_Ms ax_Xs ax_NMs ax_cl ax_TT ax_NLs (nm_M_slots, prog_7_method_6_code, some .boolean) (cd_M_slots, 2, 2, 0, 0) := ⟨by decide, tw_568, tw_41, ⟨by decide, by decide⟩, by decide, by decide, rfl, ax_okl_at ok_M_slots⟩
theorem g3_M_action : ax_g3 ax_Ms ax_Xs ax_NMs ax_cl ax_TT ax_NLs (nm_M_action, prog_7_method_7_code, some .int) (cd_M_action, 4, 4, 0, 0) := ⟨by decide, tw_575, tw_41, ⟨by decide, by decide⟩, by decide, by decide, rfl, ax_okl_at ok_M_action⟩
theorem g3_M_about : ax_g3 ax_Ms ax_Xs ax_NMs ax_cl ax_TT ax_NLs (nm_M_about, prog_7_method_8_code, some .boolean) (cd_M_about, 5, 5, 0, 0) := ⟨by decide, tw_579, tw_41, ⟨by decide, by decide⟩, by decide, by decide, rfl, ax_okl_at ok_M_about⟩
theorem g3_M_fails : ax_g3 ax_Ms ax_Xs ax_NMs ax_cl ax_TT ax_NLs (nm_M_fails, prog_7_method_9_code, some .boolean) (cd_M_fails, 4, 4, 0, 0) := ⟨by decide, tw_587, tw_41, ⟨by decide, by decide⟩, by decide, by decide, rfl, ax_okl_at ok_M_fails⟩
theorem g3_M_all : ax_g3 ax_Ms ax_Xs ax_NMs ax_cl ax_TT ax_NLs (nm_M_all, prog_7_method_10_code, some .int) (cd_M_all, 6, 2, 0, 0) := ⟨by decide, tw_595, tw_41, ⟨by decide, by decide⟩, by decide, by decide, rfl, ax_okl_at ok_M_all⟩
theorem g3_M_needs : ax_g3 ax_Ms ax_Xs ax_NMs ax_cl ax_TT ax_NLs (nm_M_needs, prog_7_method_11_code, some .int) (cd_M_needs, 3, 3, 0, 0) := ⟨by decide, tw_591, tw_41, ⟨by decide, by decide⟩, by decide, by decide, rfl, ax_okl_at ok_M_needs⟩
theorem g3_M_wish : ax_g3 ax_Ms ax_Xs ax_NMs ax_cl ax_TT ax_NLs (nm_M_wish, prog_7_method_12_code, some .boolean) (cd_M_wish, 3, 3, 0, 0) := ⟨by decide, tw_599, tw_41, ⟨by decide, by decide⟩, by decide, by decide, rfl, ax_okl_at ok_M_wish⟩
theorem g3_M_mode : ax_g3 ax_Ms ax_Xs ax_NMs ax_cl ax_TT ax_NLs (nm_M_mode, prog_7_method_13_code, some .boolean) (cd_M_mode, 3, 3, 0, 0) := ⟨by decide, tw_603, tw_41, ⟨by decide, by decide⟩, by decide, by decide, rfl, ax_okl_at ok_M_mode⟩
theorem g3_M_retries : ax_g3 ax_Ms ax_Xs ax_NMs ax_cl ax_TT ax_NLs (nm_M_retries, prog_7_method_14_code, some .boolean) (cd_M_retries, 3, 3, 0, 0) := ⟨by decide, tw_607, tw_41, ⟨by decide, by decide⟩, by decide, by decide, rfl, ax_okl_at ok_M_retries⟩
theorem g3_M_want : ax_g3 ax_Ms ax_Xs ax_NMs ax_cl ax_TT ax_NLs (nm_M_want, prog_7_method_15_code, none) (cd_M_want, 4, 1, 0, 0) := ⟨by decide, tw_615, tw_41, ⟨by decide, by decide⟩, by decide, by decide, rfl, ax_okl_at ok_M_want⟩
theorem g3_M_rest : ax_g3 ax_Ms ax_Xs ax_NMs ax_cl ax_TT ax_NLs (nm_M_rest, prog_7_method_16_code, some .int) (cd_M_rest, 2, 2, 0, 0) := ⟨by decide, tw_611, tw_41, ⟨by decide, by decide⟩, by decide, by decide, rfl, ax_okl_at ok_M_rest⟩
theorem g3_M_fresh : ax_g3 ax_Ms ax_Xs ax_NMs ax_cl ax_TT ax_NLs (nm_M_fresh, prog_7_method_17_code, none) (cd_M_fresh, 3, 1, 0, 0) := ⟨by decide, tw_623, tw_41, ⟨by decide, by decide⟩, by decide, by decide, rfl, ax_okl_at ok_M_fresh⟩
theorem g3_M_isSpoilt : ax_g3 ax_Ms ax_Xs ax_NMs ax_cl ax_TT ax_NLs (nm_M_isSpoilt, prog_7_method_18_code, some .boolean) (cd_M_isSpoilt, 3, 1, 0, 0) := ⟨by decide, tw_635, tw_41, ⟨by decide, by decide⟩, by decide, by decide, rfl, ax_okl_at ok_M_isSpoilt⟩
theorem g3_M_end : ax_g3 ax_Ms ax_Xs ax_NMs ax_cl ax_TT ax_NLs (nm_M_end, prog_7_method_19_code, none) (cd_M_end, 5, 4, 0, 0) := ⟨by decide, tw_631, tw_41, ⟨by decide, by decide⟩, by decide, by decide, rfl, ax_okl_at ok_M_end⟩
theorem g3_M_endAll : ax_g3 ax_Ms ax_Xs ax_NMs ax_cl ax_TT ax_NLs (nm_M_endAll, prog_7_method_20_code, none) (cd_M_endAll, 3, 2, 0, 0) := ⟨by decide, tw_627, tw_41, ⟨by decide, by decide⟩, by decide, by decide, rfl, ax_okl_at ok_M_endAll⟩
theorem g3_M_lacks : ax_g3 ax_Ms ax_Xs ax_NMs ax_cl ax_TT ax_NLs (nm_M_lacks, prog_7_method_21_code, some .boolean) (cd_M_lacks, 4, 2, 0, 0) := ⟨by decide, tw_643, tw_41, ⟨by decide, by decide⟩, by decide, by decide, rfl, ax_okl_at ok_M_lacks⟩
theorem g3_M_skipAll : ax_g3 ax_Ms ax_Xs ax_NMs ax_cl ax_TT ax_NLs (nm_M_skipAll, prog_7_method_22_code, none) (cd_M_skipAll, 3, 1, 0, 0) := ⟨by decide, tw_639, tw_41, ⟨by decide, by decide⟩, by decide, by decide, rfl, ax_okl_at ok_M_skipAll⟩
theorem g3_M_stopAll : ax_g3 ax_Ms ax_Xs ax_NMs ax_cl ax_TT ax_NLs (nm_M_stopAll, prog_7_method_23_code, none) (cd_M_stopAll, 2, 1, 0, 0) := ⟨by decide, tw_647, tw_41, ⟨by decide, by decide⟩, by decide, by decide, rfl, ax_okl_at ok_M_stopAll⟩
theorem g3_M_isReady : ax_g3 ax_Ms ax_Xs ax_NMs ax_cl ax_TT ax_NLs (nm_M_isReady, prog_7_method_24_code, some .boolean) (cd_M_isReady, 5, 3, 0, 0) := ⟨by decide, tw_655, tw_41, ⟨by decide, by decide⟩, by decide, by decide, rfl, ax_okl_at ok_M_isReady⟩
theorem g3_M_taken : ax_g3 ax_Ms ax_Xs ax_NMs ax_cl ax_TT ax_NLs (nm_M_taken, prog_7_method_25_code, some .int) (cd_M_taken, 4, 2, 0, 0) := ⟨by decide, tw_667, tw_41, ⟨by decide, by decide⟩, by decide, by decide, rfl, ax_okl_at ok_M_taken⟩
theorem g3_M_fits : ax_g3 ax_Ms ax_Xs ax_NMs ax_cl ax_TT ax_NLs (nm_M_fits, prog_7_method_26_code, some .boolean) (cd_M_fits, 2, 2, 0, 0) := ⟨by decide, tw_663, tw_41, ⟨by decide, by decide⟩, by decide, by decide, rfl, ax_okl_at ok_M_fits⟩
theorem g3_M_begin : ax_g3 ax_Ms ax_Xs ax_NMs ax_cl ax_TT ax_NLs (nm_M_begin, prog_7_method_27_code, none) (cd_M_begin, 4, 3, 0, 0) := ⟨by decide, tw_671, tw_41, ⟨by decide, by decide⟩, by decide, by decide, rfl, ax_okl_at ok_M_begin⟩
theorem g3_M_next : ax_g3 ax_Ms ax_Xs ax_NMs ax_cl ax_TT ax_NLs (nm_M_next, prog_7_method_28_code, some .int) (cd_M_next, 3, 1, 0, 0) := ⟨by decide, tw_659, tw_41, ⟨by decide, by decide⟩, by decide, by decide, rfl, ax_okl_at ok_M_next⟩
theorem g3_M_beginAll : ax_g3 ax_Ms ax_Xs ax_NMs ax_cl ax_TT ax_NLs (nm_M_beginAll, prog_7_method_29_code, none) (cd_M_beginAll, 6, 2, 0, 0) := ⟨by decide, tw_651, tw_41, ⟨by decide, by decide⟩, by decide, by decide, rfl, ax_okl_at ok_M_beginAll⟩
theorem g3_M_nextEnd : ax_g3 ax_Ms ax_Xs ax_NMs ax_cl ax_TT ax_NLs (nm_M_nextEnd, prog_7_method_30_code, some .int) (cd_M_nextEnd, 4, 1, 0, 0) := ⟨by decide, tw_675, tw_41, ⟨by decide, by decide⟩, by decide, by decide, rfl, ax_okl_at ok_M_nextEnd⟩
theorem g3_M_run : ax_g3 ax_Ms ax_Xs ax_NMs ax_cl ax_TT ax_NLs (nm_M_run, prog_7_method_31_code, some .int) (cd_M_run, 2, 1, 0, 0) := ⟨by decide, tw_619, tw_41, ⟨by decide, by decide⟩, by decide, by decide, rfl, ax_okl_at ok_M_run⟩
theorem g3_M_outcome : ax_g3 ax_Ms ax_Xs ax_NMs ax_cl ax_TT ax_NLs (nm_M_outcome, prog_7_method_32_code, some .int) (cd_M_outcome, 3, 3, 0, 0) := ⟨by decide, tw_679, tw_41, ⟨by decide, by decide⟩, by decide, by decide, rfl, ax_okl_at ok_M_outcome⟩
theorem g3_M_first : ax_g3 ax_Ms ax_Xs ax_NMs ax_cl ax_TT ax_NLs (nm_M_first, prog_7_method_33_code, some .int) (cd_M_first, 2, 1, 0, 0) := ⟨by decide, tw_683, tw_41, ⟨by decide, by decide⟩, by decide, by decide, rfl, ax_okl_at ok_M_first⟩
theorem g3_M_order : ax_g3 ax_Ms ax_Xs ax_NMs ax_cl ax_TT ax_NLs (nm_M_order, prog_7_method_34_code, some .int) (cd_M_order, 2, 2, 0, 0) := ⟨by decide, tw_687, tw_41, ⟨by decide, by decide⟩, by decide, by decide, rfl, ax_okl_at ok_M_order⟩
theorem g3_M_peak : ax_g3 ax_Ms ax_Xs ax_NMs ax_cl ax_TT ax_NLs (nm_M_peak, prog_7_method_35_code, some .int) (cd_M_peak, 2, 2, 0, 0) := ⟨by decide, tw_691, tw_41, ⟨by decide, by decide⟩, by decide, by decide, rfl, ax_okl_at ok_M_peak⟩
set_option maxRecDepth 100000 in
theorem g3_all : ax_all2 (ax_g3 ax_Ms ax_Xs ax_NMs ax_cl ax_TT ax_NLs) ax_NMs ax_Ms := ⟨g3_O_init, g3_O_slots, g3_O_action, g3_O_about, g3_O_fails, g3_O_needs, g3_O_wish, g3_O_mode, g3_O_retries, g3_O_run, g3_O_rest, g3_O_outcome, g3_O_first, g3_O_order, g3_O_peak, g3_O_within, g3_O_nearest, g3_O_only, g3_O_isIn, g3_H_init, g3_H_clear, g3_H_isTooSmallFor, g3_H_hasFree, g3_H_hasFreeSlot, g3_H_take, g3_H_giveBack, g3_A_init, g3_A_has, g3_A_add, g3_A_join, g3_A_wanted, g3_A_measureRests, g3_A_greatestRestAbove, g3_U_init, g3_N_init, g3_N_goThrough, g3_N_tell, g3_N_firstBad, g3_N_begunAs, g3_N_prepare, g3_N_stateAtFirst, g3_N_endTries, g3_N_endTry, g3_N_leaveBothSides, g3_N_mayTryAgain, g3_N_isOneBad, g3_N_skipHindered, g3_N_allIn, g3_N_stopWaiting, g3_N_beginReady, g3_N_allReady, g3_N_isOtherThanTestLeft, g3_N_foremost, g3_N_beginTry, g3_N_nextEnd, g3_N_sooner, g3_M_init, g3_M_held, g3_M_in, g3_M_isAction, g3_M_slots, g3_M_action, g3_M_about, g3_M_fails, g3_M_all, g3_M_needs, g3_M_wish, g3_M_mode, g3_M_retries, g3_M_want, g3_M_rest, g3_M_fresh, g3_M_isSpoilt, g3_M_end, g3_M_endAll, g3_M_lacks, g3_M_skipAll, g3_M_stopAll, g3_M_isReady, g3_M_taken, g3_M_fits, g3_M_begin, g3_M_next, g3_M_beginAll, g3_M_nextEnd, g3_M_run, g3_M_outcome, g3_M_first, g3_M_order, g3_M_peak, trivial⟩
set_option maxRecDepth 100000 in
theorem ax_good : ax_Good ax_Ms ax_Xs ax_NMs ax_cl ax_TT ax_NLs := by
  refine ⟨fun w hw => good_of_word (List.mem_filter.mp hw).2, ?_, fun y q r h1 h2 => ax_all2_at g3_all y q r h1 h2, ax_all2_ex g3_all⟩
  intro a q h
  match a, q, h with
  | 0, _, h => cases h; exact ⟨fi_O, ⟨ft_O, ft_O_ok⟩, fd_O_nm⟩
  | 1, _, h => cases h; exact ⟨fi_H, ⟨ft_H, ft_H_ok⟩, fd_H_nm⟩
  | 2, _, h => cases h; exact ⟨fi_A, ⟨ft_A, ft_A_ok⟩, fd_A_nm⟩
  | 3, _, h => cases h; exact ⟨fi_U, ⟨ft_U, ft_U_ok⟩, fd_U_nm⟩
  | 4, _, h => cases h; exact ⟨fi_N, ⟨ft_N, ft_N_ok⟩, fd_N_nm⟩
  | 5, _, h => cases h; exact ⟨fi_M, ⟨ft_M, ft_M_ok⟩, fd_M_nm⟩
  | n + 6, _, h => simp [ax_cl] at h
end
section
/-! What the methods' proofs use: answers, branches, calls, bits (the family bt is pasted out of kit/laws/BITS.to-paste). -/
def ax_is (r : Option Value) (h : ax_H) : ax_K := fun r' h' => r' = r ∧ h' = h
theorem ax_br2 {P a b : Prop} (h1 : P → a) (h2 : ¬ P → b) : ax_br P a b := ⟨h1, h2⟩
theorem ax_brT {P a b : Prop} (h : P) (k : a) : ax_br P a b := ⟨fun _ => k, fun q => absurd h q⟩
theorem ax_brF {P a b : Prop} (h : ¬ P) (k : b) : ax_br P a b := ⟨fun q => absurd q h, fun _ => k⟩
theorem ax_go {C : ax_O} {a : Nat} {As : List Value} {h h0 : ax_H} {v : Int32} {R : Int32 → ax_H → Prop} (hc : C a As h (ax_is (some (.int v)) h0)) (k : R v h0) : ∃ K : ax_K, C a As h K ∧ ∀ (z : Int32) (h' : ax_H), K (some (.int z)) h' → R z h' :=
  ⟨_, hc, fun z h' hz => by
    obtain ⟨h1, rfl⟩ := hz
    cases h1
    exact k⟩
theorem ax_gov {C : ax_O} {a : Nat} {As : List Value} {h h0 : ax_H} {R : ax_H → Prop} (hc : C a As h (ax_is none h0)) (k : R h0) : ∃ K : ax_K, C a As h K ∧ ∀ h' : ax_H, K none h' → R h' :=
  ⟨_, hc, fun h' hz => by
    obtain ⟨-, rfl⟩ := hz
    exact k⟩
/-- a call whose answer is told by a property -/
theorem ax_goP {C : ax_O} {a : Nat} {As : List Value} {h : ax_H} {K : ax_K} {R : Int32 → ax_H → Prop} (hc : C a As h K) (k : ∀ z h', K (some (.int z)) h' → R z h') : ∃ K : ax_K, C a As h K ∧ ∀ (z : Int32) (h' : ax_H), K (some (.int z)) h' → R z h' := ⟨K, hc, k⟩
theorem ax_goPv {C : ax_O} {a : Nat} {As : List Value} {h : ax_H} {K : ax_K} {R : ax_H → Prop} (hc : C a As h K) (k : ∀ h', K none h' → R h') : ∃ K : ax_K, C a As h K ∧ ∀ h' : ax_H, K none h' → R h' := ⟨K, hc, k⟩
def bI (b : Bool) : Int32 := if b then 1 else 0
theorem bI_t : bI true = 1 := rfl
theorem bI_f : bI false = 0 := rfl
theorem bI_0 {b : Bool} : bI b = 0 ↔ b = false := by cases b <;> decide
theorem bI_01 (b : Bool) : bI b = 0 ∨ bI b = 1 := by cases b <;> decide
theorem bI_eq {b c : Bool} : bI b = bI c ↔ b = c := by cases b <;> cases c <;> decide
theorem bI_and1 (b : Bool) : bI b &&& 1 = bI b := by cases b <;> decide
def mxI (x y : Int32) : Int32 := if x < y then y else x
def mnI (x y : Int32) : Int32 := if y < x then y else x
/-- a table of rows, one place of one row written -/
def ts (t : Nat → Nat → Int32) (j a : Nat) (v : Int32) : Nat → Nat → Int32 := va_up t j (upd (t j) a v)
/-! ===== Int32 by its bits: bt x i ===== -/
def bt (x : Int32) (i : Nat) : Bool := x.toBitVec.getLsbD i
theorem b_ext {x y : Int32} (h : ∀ i, i < 32 → bt x i = bt y i) : x = y := Int32.toBitVec_inj.mp (BitVec.eq_of_getLsbD_eq (fun i hi => h i hi))
theorem b_or (x y : Int32) (i : Nat) : bt (x ||| y) i = (bt x i || bt y i) := by unfold bt; rw [Int32.toBitVec_or, BitVec.getLsbD_or]
theorem b_and (x y : Int32) (i : Nat) : bt (x &&& y) i = (bt x i && bt y i) := by unfold bt; rw [Int32.toBitVec_and, BitVec.getLsbD_and]
theorem b_xor (x y : Int32) (i : Nat) : bt (x ^^^ y) i = (bt x i ^^ bt y i) := by unfold bt; rw [Int32.toBitVec_xor, BitVec.getLsbD_xor]
theorem b_big {x : Int32} {i : Nat} (h : 32 ≤ i) : bt x i = false := BitVec.getLsbD_of_ge _ _ h
theorem b_255 (i : Nat) : bt 255 i = decide (i < 8) := by
  rcases Nat.lt_or_ge i 32 with h | h
  · exact (by decide +kernel : ∀ i, i < 32 → bt 255 i = decide (i < 8)) i h
  · rw [b_big h, decide_eq_false (by omega)]
theorem b_65535 (i : Nat) : bt 65535 i = decide (i < 16) := by
  rcases Nat.lt_or_ge i 32 with h | h
  · exact (by decide +kernel : ∀ i, i < 32 → bt 65535 i = decide (i < 16)) i h
  · rw [b_big h, decide_eq_false (by omega)]
theorem b_m1 : ∀ i, i < 32 → bt (-1) i = true := by decide +kernel
theorem b_0 (i : Nat) : bt 0 i = false := BitVec.getLsbD_zero
theorem s_l : ∀ n, n < 32 → ((nI n &&& 31).toBitVec.smod 32).toNat = n := by decide +kernel
theorem s_u : ∀ n, n < 32 → (((nI n).toUInt32 &&& Int32.toUInt32 31).toBitVec % 32).toNat = n := by decide +kernel
theorem b_shl (n : Nat) (hn : n < 32) (x : Int32) {i : Nat} (hi : i < 32) : bt (x <<< (nI n &&& 31)) i = (decide (n ≤ i) && bt x (i - n)) := by
  unfold bt
  rw [Int32.toBitVec_shiftLeft]
  show (x.toBitVec <<< ((nI n &&& 31).toBitVec.smod 32).toNat).getLsbD i = _
  rw [s_l n hn, BitVec.getLsbD_shiftLeft]
  rcases Nat.lt_or_ge i n with h | h
  · simp [h, Nat.not_le.mpr h]
  · simp [hi, h, Nat.not_lt.mpr h]
theorem b_ushr (n : Nat) (hn : n < 32) (x : Int32) (i : Nat) : bt ((x.toUInt32 >>> ((nI n).toUInt32 &&& Int32.toUInt32 31)).toInt32) i = bt x (n + i) := by
  show (x.toUInt32 >>> ((nI n).toUInt32 &&& Int32.toUInt32 31)).toBitVec.getLsbD i = x.toUInt32.toBitVec.getLsbD (n + i)
  rw [UInt32.toBitVec_shiftRight]
  show (x.toUInt32.toBitVec >>> (((nI n).toUInt32 &&& Int32.toUInt32 31).toBitVec % 32).toNat).getLsbD i = _
  rw [s_u n hn, BitVec.getLsbD_ushiftRight]
theorem b_sshr (n : Nat) (hn : n < 32) (x : Int32) {i : Nat} (hi : i < 32) : bt (x >>> (nI n &&& 31)) i = if n + i < 32 then bt x (n + i) else bt x 31 := by
  unfold bt
  rw [Int32.toBitVec_shiftRight]
  show (x.toBitVec.sshiftRight ((nI n &&& 31).toBitVec.smod 32).toNat).getLsbD i = _
  rw [s_l n hn, BitVec.getLsbD_sshiftRight, BitVec.msb_eq_getLsbD_last]
  simp [hi]
def sB (k : Nat) : Int32 := (1 : Int32) <<< (nI k &&& 31)
theorem b_1 : ∀ i, i < 32 → bt 1 i = decide (i = 0) := by decide +kernel
theorem b_sB {k i : Nat} (hk : k < 32) (hi : i < 32) : bt (sB k) i = decide (i = k) := by
  unfold sB
  rw [b_shl k hk 1 hi]
  rcases Nat.lt_or_ge i k with h | h
  · rw [decide_eq_false (by omega), decide_eq_false (by omega)]
    rfl
  · rw [b_1 _ (by omega), decide_eq_true h, Bool.true_and]
    by_cases e : i = k
    · rw [decide_eq_true (by omega), decide_eq_true e]
    · rw [decide_eq_false (by omega), decide_eq_false e]
theorem b_and0 (x y : Int32) : x &&& y = 0 ↔ ∀ i, i < 32 → bt x i = true → bt y i = true → False := by
  constructor
  · intro h i hi hx hy
    have := b_and x y i
    rw [h, b_0, hx, hy] at this
    cases this
  · intro h
    refine b_ext (fun i hi => ?_)
    rw [b_0, b_and]
    cases hx : bt x i <;> cases hy : bt y i <;> first | rfl | exact absurd (h i hi hx hy) id
theorem b_in {x : Int32} {k : Nat} (hk : k < 32) : x &&& sB k = 0 ↔ bt x k = false := by
  rw [b_and0]
  constructor
  · intro h
    cases hx : bt x k with
    | false => rfl
    | true => exact absurd (h k hk hx (by rw [b_sB hk hk, decide_eq_true rfl])) id
  · intro h i hi hx hy
    rw [b_sB hk hi] at hy
    have e : i = k := of_decide_eq_true hy
    rw [e, h] at hx
    cases hx
theorem b_rt {x : Int32} {k : Nat} (hk : k < 32) : (x >>> (nI k &&& 31)) &&& 1 = bI (bt x k) := by
  refine b_ext (fun i hi => ?_)
  rw [b_and, b_sshr k hk x hi, b_1 i hi]
  cases i with
  | zero =>
    rw [Nat.add_zero, if_pos hk, decide_eq_true rfl, Bool.and_true]
    cases bt x k
    · rw [bI_f, b_0]
    · rw [bI_t]; exact (b_1 0 (by omega)).symm
  | succ i =>
    rw [decide_eq_false (Nat.succ_ne_zero i), Bool.and_false]
    cases bt x k
    · rw [bI_f, b_0]
    · rw [bI_t]; exact (b_1 _ hi).symm
theorem b_not {y : Int32} {i : Nat} (hi : i < 32) : bt (y ^^^ (-1)) i = !(bt y i) := by
  rw [b_xor, b_m1 i hi, Bool.xor_true]
theorem b_del {x : Int32} {k i : Nat} (hk : k < 32) (hi : i < 32) : bt (x &&& (sB k ^^^ (-1))) i = (bt x i && !decide (i = k)) := by
  rw [b_and, b_not hi, b_sB hk hi]
theorem b_add {x : Int32} {k i : Nat} (hk : k < 32) (hi : i < 32) : bt (x ||| sB k) i = (bt x i || decide (i = k)) := by
  rw [b_or, b_sB hk hi]
/-- loops: what the first n turns make of x -/
def itN {α : Type} (f : Nat → α → α) : Nat → α → α
  | 0, x => x
  | n + 1, x => f n (itN f n x)
end
section
/-! The two worlds. The class: f: the house (0 cores, 1 memory, 2 slots, 3 4 5 6 taken: cores, memory, locks, slots, 7 8 most), n actions, rows t (0 time 1 cores 2 memory 3 locks 4 farTime 5 failing 6 kind 7 test 8 wished 9 needed 10 neededDeep 11 rests 12 on 13 again 14 state 15 firstBegan 16 lastEnded 17 tries 18 doneBy 19 endHere 20 endFar 21 begun), u: happened, b begins.
The reference: f (0 cores 1 memory 2 slots 3 mostCores 4 mostMemory 5 last 6 ran), n many, kn known, rows t (0 time 1 core 2 space 3 locks 4 far 5 bad 6 kinds 7 needed 8 tests 9 wished 10 wanted 11 modes 12 left 13 rests 14 state 15 hereEnd 16 farEnd 17 began 18 ended 19 tries 20 side 21 again 22 seen 23 begun). -/
def oH (f : Nat → Int32) (n : Nat) (t : Nat → Nat → Int32) (u : Int32) (b : Nat) : ax_H := [
  .inr (0, [.ref 1, .ref 2, .ref 15, .ref 18]),
  .inr (1, [.int (f 0), .int (f 1), .int (f 2), .int (f 3), .int (f 4), .int (f 5), .int (f 6), .int (f 7), .int (f 8)]),
  .inr (2, [.int (nI n), .ref 3, .ref 4, .ref 5, .ref 6, .ref 7, .ref 8, .ref 9, .ref 10, .ref 11, .ref 12, .ref 13, .ref 14]),
  .inl (false, 24, t 0),
  .inl (false, 24, t 1),
  .inl (false, 24, t 2),
  .inl (false, 24, t 3),
  .inl (false, 24, t 4),
  .inl (false, 24, t 5),
  .inl (false, 24, t 6),
  .inl (true, 24, t 7),
  .inl (true, 24, t 8),
  .inl (false, 24, t 9),
  .inl (false, 24, t 10),
  .inl (false, 24, t 11),
  .inr (3, [.ref 16, .ref 17]),
  .inl (true, 4, t 12),
  .inl (false, 4, t 13),
  .inr (4, [.ref 1, .ref 2, .ref 15, .int u, .ref 19, .ref 20, .ref 21, .ref 22, .ref 23, .ref 24, .ref 25, .ref 26, .int (nI b)]),
  .inl (false, 24, t 14),
  .inl (false, 24, t 15),
  .inl (false, 24, t 16),
  .inl (false, 24, t 17),
  .inl (false, 24, t 18),
  .inl (false, 24, t 19),
  .inl (false, 24, t 20),
  .inl (false, 96, t 21)]
def mH (f : Nat → Int32) (n kn : Nat) (t : Nat → Nat → Int32) (b : Nat) : ax_H := [
  .inr (5, [.int 0, .int (f 0), .int (f 1), .int (f 2), .int (nI n), .ref 1, .ref 2, .ref 3, .ref 4, .ref 5, .ref 6, .ref 7, .ref 8, .ref 9, .ref 10, .ref 11, .ref 12, .ref 13, .ref 14, .int (nI kn), .ref 15, .ref 16, .ref 17, .ref 18, .ref 19, .ref 20, .ref 21, .ref 22, .ref 23, .ref 24, .int (nI b), .int (f 3), .int (f 4), .int (f 5), .int (f 6)]),
  .inl (false, 24, t 0),
  .inl (false, 24, t 1),
  .inl (false, 24, t 2),
  .inl (false, 24, t 3),
  .inl (false, 24, t 4),
  .inl (false, 24, t 5),
  .inl (false, 24, t 6),
  .inl (false, 24, t 7),
  .inl (true, 24, t 8),
  .inl (true, 24, t 9),
  .inl (true, 24, t 10),
  .inl (true, 4, t 11),
  .inl (false, 4, t 12),
  .inl (false, 24, t 13),
  .inl (false, 24, t 14),
  .inl (false, 24, t 15),
  .inl (false, 24, t 16),
  .inl (false, 24, t 17),
  .inl (false, 24, t 18),
  .inl (false, 24, t 19),
  .inl (false, 24, t 20),
  .inl (false, 24, t 21),
  .inl (true, 24, t 22),
  .inl (false, 100, t 23)]
end
section
/-! The class: what asks and sets. Sp_..: what a method does, of whatever calls C; p_..: its body does it, if what it calls does. -/
theorem bI_n0 : ¬ bI true = 0 := by decide
def inB (x lo hi : Int32) : Bool := decide (lo ≤ x) && decide (x ≤ hi)
def hasB (n : Nat) (x : Int32) : Bool := decide (0 ≤ x) && decide (x < nI n)
theorem i_nlt {x y : Int32} : ¬ x < y ↔ y ≤ x := by rw [Int32.lt_iff_toInt_lt, Int32.le_iff_toInt_le]; omega
theorem i_nle {x y : Int32} : ¬ x ≤ y ↔ y < x := by rw [Int32.lt_iff_toInt_lt, Int32.le_iff_toInt_le]; omega
theorem inB_a {x lo hi : Int32} (h : x < lo) : inB x lo hi = false := by
  unfold inB
  rw [decide_eq_false (i_nle.mpr h), Bool.false_and]
theorem inB_b {x lo hi : Int32} (h : hi < x) : inB x lo hi = false := by
  unfold inB
  rw [decide_eq_false (i_nle.mpr h), Bool.and_false]
theorem inB_c {x lo hi : Int32} (h1 : ¬ x < lo) (h2 : ¬ hi < x) : inB x lo hi = true := by
  unfold inB
  rw [decide_eq_true (i_nlt.mp h1), decide_eq_true (i_nlt.mp h2)]
  rfl
theorem hasB_a {x : Int32} {n : Nat} (h : x < 0) : hasB n x = false := by
  unfold hasB
  rw [decide_eq_false (i_nle.mpr h), Bool.false_and]
theorem hasB_b {x : Int32} {n : Nat} (h : nI n ≤ x) : hasB n x = false := by
  unfold hasB
  rw [decide_eq_false (i_nlt.mpr h), Bool.and_false]
theorem hasB_c {x : Int32} {n : Nat} (h1 : ¬ x < 0) (h2 : ¬ nI n ≤ x) : hasB n x = true := by
  unfold hasB
  rw [decide_eq_true (i_nlt.mp h1), decide_eq_true (i_nle.mp h2)]
  rfl
theorem hasB_k {n k : Nat} (hn : n ≤ 24) (hk : k < n) : hasB n (nI k) = true := hasB_c (nI_pos (by omega)) (nI_ge hk (by omega))
def Sp_O_only (C : ax_O) : Prop := ∀ (h : ax_H) (k : Nat), C no_O_only [.int (nI k)] h (ax_is (some (.int (sB k))) h)
theorem p_O_only {C : ax_O} : Sp_O_only (ax_B ax_Ms ax_Xs C) := by
  intro h k
  refine ax_X.steps 4 ?_
  exact ⟨Or.inl rfl, rfl, rfl⟩
def Sp_O_isIn (C : ax_O) : Prop := ∀ (h : ax_H) (x : Int32) (k : Nat) (c : Bool), k < 32 → bt x k = c → C no_O_isIn [.int x, .int (nI k)] h (ax_is (some (.int (bI c))) h)
theorem p_O_isIn {C : ax_O} (h1 : Sp_O_only C) : Sp_O_isIn (ax_B ax_Ms ax_Xs C) := by
  intro h x k c hk hc
  cases c
  · refine ax_X.steps 3 (ax_go (h1 h k) ?_)
    refine ax_X.steps 2 (ax_brT ((b_in hk).mpr hc) ?_)
    exact ax_X.steps 2 ⟨Or.inr (Or.inl rfl), rfl, rfl⟩
  · refine ax_X.steps 3 (ax_go (h1 h k) ?_)
    refine ax_X.steps 2 (ax_brF (fun q => by rw [(b_in hk).mp q] at hc; cases hc) ?_)
    exact ax_X.steps 3 ⟨Or.inr (Or.inr rfl), rfl, rfl⟩
def Sp_O_within (C : ax_O) : Prop := ∀ (h : ax_H) (x lo hi : Int32) (c : Bool), inB x lo hi = c → C no_O_within [.int x, .int lo, .int hi] h (ax_is (some (.int (bI c))) h)
theorem p_O_within {C : ax_O} : Sp_O_within (ax_B ax_Ms ax_Xs C) := by
  intro h x lo hi c hc
  subst hc
  refine ax_X.steps 3 (ax_br2 (fun c1 => ?_) (fun c1 => ?_))
  · rw [inB_a c1]
    exact ax_X.steps 2 ⟨Or.inr (Or.inl rfl), rfl, rfl⟩
  · refine ax_X.steps 3 (ax_br2 (fun c2 => ?_) (fun c2 => ?_))
    · rw [inB_b c2]
      exact ax_X.steps 2 ⟨Or.inr (Or.inl rfl), rfl, rfl⟩
    · rw [inB_c c1 c2]
      exact ax_X.steps 3 ⟨Or.inr (Or.inr rfl), rfl, rfl⟩
def Sp_O_nearest (C : ax_O) : Prop := ∀ (h : ax_H) (x lo hi : Int32), C no_O_nearest [.int x, .int lo, .int hi] h (ax_is (some (.int (mxI lo (mnI x hi)))) h)
theorem p_O_nearest {C : ax_O} : Sp_O_nearest (ax_B ax_Ms ax_Xs C) := by
  intro h x lo hi
  exact ax_X.steps 6 ⟨Or.inl rfl, rfl, rfl⟩
def Sp_A_has (C : ax_O) : Prop := ∀ (f : Nat → Int32) (n : Nat) (t : Nat → Nat → Int32) (u : Int32) (b : Nat) (x : Int32) (c : Bool), hasB n x = c → C no_A_has [.ref 2, .int x] (oH f n t u b) (ax_is (some (.int (bI c))) (oH f n t u b))
theorem p_A_has {C : ax_O} : Sp_A_has (ax_B ax_Ms ax_Xs C) := by
  intro f n t u b x c hc
  subst hc
  refine ax_X.steps 3 (ax_br2 (fun c1 => ?_) (fun c1 => ?_))
  · rw [hasB_a c1]
    exact ax_X.steps 2 ⟨Or.inr (Or.inl rfl), rfl, rfl⟩
  · refine ax_X.steps 4 (ax_br2 (fun c2 => ?_) (fun c2 => ?_))
    · rw [hasB_b c2]
      exact ax_X.steps 2 ⟨Or.inr (Or.inl rfl), rfl, rfl⟩
    · rw [hasB_c c1 c2]
      exact ax_X.steps 3 ⟨Or.inr (Or.inr rfl), rfl, rfl⟩
def Sp_O_slots_1 (C : ax_O) : Prop := ∀ (f : Nat → Int32) (n : Nat) (t : Nat → Nat → Int32) (u : Int32) (b : Nat) (x : Int32), inB x 0 4 = true → C no_O_slots [.ref 0, .int x] (oH f n t u b) (ax_is (some (.int 1)) (oH (va_up f 2 x) n t u b))
theorem p_O_slots_1 {C : ax_O} (hW : Sp_O_within C) : Sp_O_slots_1 (ax_B ax_Ms ax_Xs C) := by
  intro f n t u b x hx
  refine ax_X.steps 4 (ax_go (hW _ _ _ _ true hx) ?_)
  refine ax_X.steps 1 (ax_brT (bI_n0) ?_)
  refine ax_X.steps 4 ⟨Or.inl rfl, ?_⟩
  exact ax_X.steps 2 ⟨Or.inr (Or.inr rfl), rfl, rfl⟩
def Sp_O_slots_0 (C : ax_O) : Prop := ∀ (f : Nat → Int32) (n : Nat) (t : Nat → Nat → Int32) (u : Int32) (b : Nat) (x : Int32), inB x 0 4 = false → C no_O_slots [.ref 0, .int x] (oH f n t u b) (ax_is (some (.int 0)) (oH f n t u b))
theorem p_O_slots_0 {C : ax_O} (hW : Sp_O_within C) : Sp_O_slots_0 (ax_B ax_Ms ax_Xs C) := by
  intro f n t u b x hx
  refine ax_X.steps 4 (ax_go (hW _ _ _ _ false hx) ?_)
  refine ax_X.steps 1 (ax_brF (fun q => q rfl) ?_)
  exact ax_X.steps 2 ⟨Or.inr (Or.inl rfl), rfl, rfl⟩
def actR (t : Nat → Nat → Int32) (n : Nat) (x y z : Int32) : Nat → Nat → Int32 := ts (ts (ts t 0 n x) 1 n y) 2 n z
def Sp_A_add_1 (C : ax_O) : Prop := ∀ (f : Nat → Int32) (n : Nat) (t : Nat → Nat → Int32) (u : Int32) (b : Nat) (x y z : Int32), n < 24 → C no_A_add [.ref 2, .int x, .int y, .int z] (oH f n t u b) (ax_is (some (.int (nI n))) (oH f (n + 1) (actR t n x y z) u b))
theorem p_A_add_1 {C : ax_O} : Sp_A_add_1 (ax_B ax_Ms ax_Xs C) := by
  intro f n t u b x y z hn
  refine ax_X.steps 4 (ax_brT (nI_lt (b := 24) hn (by decide)) ?_)
  refine ax_X.steps 6 ⟨n, ⟨by omega, by omega⟩, rfl, ?_⟩
  refine ax_X.steps 6 ⟨n, ⟨by omega, by omega⟩, rfl, ?_⟩
  refine ax_X.steps 6 ⟨n, ⟨by omega, by omega⟩, rfl, ?_⟩
  refine ax_X.steps 6 ⟨Or.inl rfl, ?_⟩
  exact ax_X.steps 5 ⟨Or.inl rfl, congrArg (fun q => some (Value.int q)) (show nI n + 1 - 1 = nI n by rw [nI_1, nI_pred]), by rw [show oH f (n + 1) (actR t n x y z) u b = (oH f n (actR t n x y z) u b).set 2 (.inr (2, [.int (nI (n + 1)), .ref 3, .ref 4, .ref 5, .ref 6, .ref 7, .ref 8, .ref 9, .ref 10, .ref 11, .ref 12, .ref 13, .ref 14])) from rfl, ← nI_1]; rfl⟩
def Sp_A_add_0 (C : ax_O) : Prop := ∀ (f : Nat → Int32) (n : Nat) (t : Nat → Nat → Int32) (u : Int32) (b : Nat) (x y z : Int32), n = 24 → C no_A_add [.ref 2, .int x, .int y, .int z] (oH f n t u b) (ax_is (some (.int (-1))) (oH f n t u b))
theorem p_A_add_0 {C : ax_O} : Sp_A_add_0 (ax_B ax_Ms ax_Xs C) := by
  intro f n t u b x y z hn
  subst hn
  refine ax_X.steps 4 (ax_brF ((by decide +kernel : ¬ (24 : Int32) < 24)) ?_)
  exact ax_X.steps 2 ⟨Or.inl rfl, rfl, rfl⟩
def actB (x y z : Int32) : Bool := inB x 1 1000 && (inB y 0 16 && inB z 0 1000000)
def Sp_O_action_1 (C : ax_O) : Prop := ∀ (f : Nat → Int32) (n : Nat) (t : Nat → Nat → Int32) (u : Int32) (b : Nat) (x y z : Int32), n < 24 → actB x y z = true → C no_O_action [.ref 0, .int x, .int y, .int z] (oH f n t u b) (ax_is (some (.int (nI n))) (oH f (n + 1) (actR t n x y z) u b))
theorem p_O_action_1 {C : ax_O} (hW : Sp_O_within C) (h1 : Sp_A_add_1 C) (h0 : Sp_A_add_0 C) : Sp_O_action_1 (ax_B ax_Ms ax_Xs C) := by
  intro f n t u b x y z hn hx
  unfold actB at hx
  simp only [Bool.and_eq_true] at hx
  obtain ⟨a1, a2, a3⟩ := hx
  refine ax_X.steps 4 (ax_go (hW _ _ _ _ true a1) ?_)
  refine ax_X.steps 1 (ax_brF (bI_n0) ?_)
  refine ax_X.steps 4 (ax_go (hW _ _ _ _ true a2) ?_)
  refine ax_X.steps 1 (ax_brF (bI_n0) ?_)
  refine ax_X.steps 4 (ax_go (hW _ _ _ _ true a3) ?_)
  refine ax_X.steps 1 (ax_brF (bI_n0) ?_)
  refine ax_X.steps 5 (ax_brF (bI_n0) ?_)
  refine ax_X.steps 6 (ax_go (h1 f n t u b x y z hn) ?_)
  exact ax_X.steps 2 ⟨Or.inl rfl, rfl, rfl⟩
def Sp_O_action_0 (C : ax_O) : Prop := ∀ (f : Nat → Int32) (n : Nat) (t : Nat → Nat → Int32) (u : Int32) (b : Nat) (x y z : Int32), n ≤ 24 → (n = 24 ∨ actB x y z = false) → C no_O_action [.ref 0, .int x, .int y, .int z] (oH f n t u b) (ax_is (some (.int (-1))) (oH f n t u b))
theorem p_O_action_0 {C : ax_O} (hW : Sp_O_within C) (h1 : Sp_A_add_1 C) (h0 : Sp_A_add_0 C) : Sp_O_action_0 (ax_B ax_Ms ax_Xs C) := by
  intro f n t u b x y z hn hx
  cases a1 : inB x 1 1000
  · refine ax_X.steps 4 (ax_go (hW _ _ _ _ false a1) ?_)
    refine ax_X.steps 1 (ax_brT (rfl) ?_)
    refine ax_X.steps 4 (ax_brT (rfl) ?_)
    exact ax_X.steps 2 ⟨Or.inl rfl, rfl, rfl⟩
  cases a2 : inB y 0 16
  · refine ax_X.steps 4 (ax_go (hW _ _ _ _ true a1) ?_)
    refine ax_X.steps 1 (ax_brF (bI_n0) ?_)
    refine ax_X.steps 4 (ax_go (hW _ _ _ _ false a2) ?_)
    refine ax_X.steps 1 (ax_brT (rfl) ?_)
    refine ax_X.steps 4 (ax_brT (rfl) ?_)
    exact ax_X.steps 2 ⟨Or.inl rfl, rfl, rfl⟩
  cases a3 : inB z 0 1000000
  · refine ax_X.steps 4 (ax_go (hW _ _ _ _ true a1) ?_)
    refine ax_X.steps 1 (ax_brF (bI_n0) ?_)
    refine ax_X.steps 4 (ax_go (hW _ _ _ _ true a2) ?_)
    refine ax_X.steps 1 (ax_brF (bI_n0) ?_)
    refine ax_X.steps 4 (ax_go (hW _ _ _ _ false a3) ?_)
    refine ax_X.steps 1 (ax_brT (rfl) ?_)
    refine ax_X.steps 4 (ax_brT (rfl) ?_)
    exact ax_X.steps 2 ⟨Or.inl rfl, rfl, rfl⟩
  · have e : n = 24 := hx.resolve_right (by unfold actB; rw [a1, a2, a3]; decide)
    refine ax_X.steps 4 (ax_go (hW _ _ _ _ true a1) ?_)
    refine ax_X.steps 1 (ax_brF (bI_n0) ?_)
    refine ax_X.steps 4 (ax_go (hW _ _ _ _ true a2) ?_)
    refine ax_X.steps 1 (ax_brF (bI_n0) ?_)
    refine ax_X.steps 4 (ax_go (hW _ _ _ _ true a3) ?_)
    refine ax_X.steps 1 (ax_brF (bI_n0) ?_)
    refine ax_X.steps 5 (ax_brF (bI_n0) ?_)
    refine ax_X.steps 6 (ax_go (h0 f n t u b x y z e) ?_)
    exact ax_X.steps 2 ⟨Or.inl rfl, rfl, rfl⟩
def Sp_O_about_1 (C : ax_O) : Prop := ∀ (f : Nat → Int32) (n : Nat) (t : Nat → Nat → Int32) (u : Int32) (b : Nat) (k : Nat) (z : Bool) (l w : Int32), n ≤ 24 → k < n → inB w 0 1000 = true → C no_O_about [.ref 0, .int (nI k), .int (bI z), .int l, .int w] (oH f n t u b) (ax_is (some (.int 1)) (oH f n (ts (ts (ts t 7 k (bI z &&& 1)) 3 k (l &&& 255)) 4 k w) u b))
theorem p_O_about_1 {C : ax_O} (hW : Sp_O_within C) (hH : Sp_A_has C) : Sp_O_about_1 (ax_B ax_Ms ax_Xs C) := by
  intro f n t u b k z l w hn hk hw
  refine ax_X.steps 4 (ax_go (hH _ _ _ _ _ _ true (hasB_k hn hk)) ?_)
  refine ax_X.steps 1 (ax_brF (bI_n0) ?_)
  refine ax_X.steps 4 (ax_go (hW _ _ _ _ true hw) ?_)
  refine ax_X.steps 1 (ax_brT (bI_n0) ?_)
  refine ax_X.steps 6 ⟨k, ⟨by omega, by omega⟩, rfl, ?_⟩
  refine ax_X.steps 8 ⟨k, ⟨by omega, by omega⟩, rfl, ?_⟩
  refine ax_X.steps 6 ⟨k, ⟨by omega, by omega⟩, rfl, ?_⟩
  exact ax_X.steps 2 ⟨Or.inr (Or.inr rfl), rfl, rfl⟩
def Sp_O_about_0 (C : ax_O) : Prop := ∀ (f : Nat → Int32) (n : Nat) (t : Nat → Nat → Int32) (u : Int32) (b : Nat) (x v l w : Int32), (hasB n x = false ∨ inB w 0 1000 = false) → C no_O_about [.ref 0, .int x, .int v, .int l, .int w] (oH f n t u b) (ax_is (some (.int 0)) (oH f n t u b))
theorem p_O_about_0 {C : ax_O} (hW : Sp_O_within C) (hH : Sp_A_has C) : Sp_O_about_0 (ax_B ax_Ms ax_Xs C) := by
  intro f n t u b x v l w hx
  cases a1 : hasB n x
  · refine ax_X.steps 4 (ax_go (hH _ _ _ _ _ _ false a1) ?_)
    refine ax_X.steps 1 (ax_brT (rfl) ?_)
    exact ax_X.steps 2 ⟨Or.inr (Or.inl rfl), rfl, rfl⟩
  · have a2 : inB w 0 1000 = false := hx.resolve_left (by rw [a1]; decide)
    refine ax_X.steps 4 (ax_go (hH _ _ _ _ _ _ true a1) ?_)
    refine ax_X.steps 1 (ax_brF (bI_n0) ?_)
    refine ax_X.steps 4 (ax_go (hW _ _ _ _ false a2) ?_)
    refine ax_X.steps 1 (ax_brF (fun q => q rfl) ?_)
    exact ax_X.steps 2 ⟨Or.inr (Or.inl rfl), rfl, rfl⟩
def Sp_O_fails_1 (C : ax_O) : Prop := ∀ (f : Nat → Int32) (n : Nat) (t : Nat → Nat → Int32) (u : Int32) (b : Nat) (k : Nat) (v w : Int32), n ≤ 24 → k < n → inB v 0 3 = true → inB w 0 3 = true → C no_O_fails [.ref 0, .int (nI k), .int v, .int w] (oH f n t u b) (ax_is (some (.int 1)) (oH f n (ts (ts t 5 k v) 6 k w) u b))
theorem p_O_fails_1 {C : ax_O} (hW : Sp_O_within C) (hH : Sp_A_has C) : Sp_O_fails_1 (ax_B ax_Ms ax_Xs C) := by
  intro f n t u b k v w hn hk hv hw
  refine ax_X.steps 4 (ax_go (hH _ _ _ _ _ _ true (hasB_k hn hk)) ?_)
  refine ax_X.steps 1 (ax_brF (bI_n0) ?_)
  refine ax_X.steps 4 (ax_go (hW _ _ _ _ true hv) ?_)
  refine ax_X.steps 1 (ax_brF (bI_n0) ?_)
  refine ax_X.steps 4 (ax_go (hW _ _ _ _ true hw) ?_)
  refine ax_X.steps 1 (ax_brT (bI_n0) ?_)
  refine ax_X.steps 6 ⟨k, ⟨by omega, by omega⟩, rfl, ?_⟩
  refine ax_X.steps 6 ⟨k, ⟨by omega, by omega⟩, rfl, ?_⟩
  exact ax_X.steps 2 ⟨Or.inr (Or.inr rfl), rfl, rfl⟩
def Sp_O_fails_0 (C : ax_O) : Prop := ∀ (f : Nat → Int32) (n : Nat) (t : Nat → Nat → Int32) (u : Int32) (b : Nat) (x v w : Int32), (hasB n x = false ∨ inB v 0 3 = false ∨ inB w 0 3 = false) → C no_O_fails [.ref 0, .int x, .int v, .int w] (oH f n t u b) (ax_is (some (.int 0)) (oH f n t u b))
theorem p_O_fails_0 {C : ax_O} (hW : Sp_O_within C) (hH : Sp_A_has C) : Sp_O_fails_0 (ax_B ax_Ms ax_Xs C) := by
  intro f n t u b x v w hx
  cases a1 : hasB n x
  · refine ax_X.steps 4 (ax_go (hH _ _ _ _ _ _ false a1) ?_)
    refine ax_X.steps 1 (ax_brT (rfl) ?_)
    exact ax_X.steps 2 ⟨Or.inr (Or.inl rfl), rfl, rfl⟩
  cases a2 : inB v 0 3
  · refine ax_X.steps 4 (ax_go (hH _ _ _ _ _ _ true a1) ?_)
    refine ax_X.steps 1 (ax_brF (bI_n0) ?_)
    refine ax_X.steps 4 (ax_go (hW _ _ _ _ false a2) ?_)
    refine ax_X.steps 1 (ax_brT (rfl) ?_)
    exact ax_X.steps 2 ⟨Or.inr (Or.inl rfl), rfl, rfl⟩
  · have a3 : inB w 0 3 = false := (hx.resolve_left (by rw [a1]; decide)).resolve_left (by rw [a2]; decide)
    refine ax_X.steps 4 (ax_go (hH _ _ _ _ _ _ true a1) ?_)
    refine ax_X.steps 1 (ax_brF (bI_n0) ?_)
    refine ax_X.steps 4 (ax_go (hW _ _ _ _ true a2) ?_)
    refine ax_X.steps 1 (ax_brF (bI_n0) ?_)
    refine ax_X.steps 4 (ax_go (hW _ _ _ _ false a3) ?_)
    refine ax_X.steps 1 (ax_brF (fun q => q rfl) ?_)
    exact ax_X.steps 2 ⟨Or.inr (Or.inl rfl), rfl, rfl⟩
def Sp_O_wish_1 (C : ax_O) : Prop := ∀ (f : Nat → Int32) (n : Nat) (t : Nat → Nat → Int32) (u : Int32) (b : Nat) (k : Nat) (z : Bool), n ≤ 24 → k < n → C no_O_wish [.ref 0, .int (nI k), .int (bI z)] (oH f n t u b) (ax_is (some (.int 1)) (oH f n (ts t 8 k (bI z &&& 1)) u b))
theorem p_O_wish_1 {C : ax_O} (hH : Sp_A_has C) : Sp_O_wish_1 (ax_B ax_Ms ax_Xs C) := by
  intro f n t u b k z hn hk
  refine ax_X.steps 4 (ax_go (hH _ _ _ _ _ _ true (hasB_k hn hk)) ?_)
  refine ax_X.steps 1 (ax_brT (bI_n0) ?_)
  refine ax_X.steps 6 ⟨k, ⟨by omega, by omega⟩, rfl, ?_⟩
  exact ax_X.steps 2 ⟨Or.inr (Or.inr rfl), rfl, rfl⟩
def Sp_O_wish_0 (C : ax_O) : Prop := ∀ (f : Nat → Int32) (n : Nat) (t : Nat → Nat → Int32) (u : Int32) (b : Nat) (x v : Int32), hasB n x = false → C no_O_wish [.ref 0, .int x, .int v] (oH f n t u b) (ax_is (some (.int 0)) (oH f n t u b))
theorem p_O_wish_0 {C : ax_O} (hH : Sp_A_has C) : Sp_O_wish_0 (ax_B ax_Ms ax_Xs C) := by
  intro f n t u b x v hx
  refine ax_X.steps 4 (ax_go (hH _ _ _ _ _ _ false hx) ?_)
  refine ax_X.steps 1 (ax_brF (fun q => q rfl) ?_)
  exact ax_X.steps 2 ⟨Or.inr (Or.inl rfl), rfl, rfl⟩
theorem inB_4 {k : Nat} (hk : k < 4) : inB (nI k) 0 3 = true := by
  have : k = 0 ∨ k = 1 ∨ k = 2 ∨ k = 3 := by omega
  rcases this with rfl | rfl | rfl | rfl <;> decide +kernel
def Sp_O_mode_1 (C : ax_O) : Prop := ∀ (f : Nat → Int32) (n : Nat) (t : Nat → Nat → Int32) (u : Int32) (b : Nat) (k : Nat) (z : Bool), k < 4 → C no_O_mode [.ref 0, .int (nI k), .int (bI z)] (oH f n t u b) (ax_is (some (.int 1)) (oH f n (ts t 12 k (bI z &&& 1)) u b))
theorem p_O_mode_1 {C : ax_O} (hW : Sp_O_within C) : Sp_O_mode_1 (ax_B ax_Ms ax_Xs C) := by
  intro f n t u b k z hk
  refine ax_X.steps 4 (ax_go (hW _ _ _ _ true (inB_4 hk)) ?_)
  refine ax_X.steps 1 (ax_brT (bI_n0) ?_)
  refine ax_X.steps 6 ⟨k, ⟨by omega, by omega⟩, rfl, ?_⟩
  exact ax_X.steps 2 ⟨Or.inr (Or.inr rfl), rfl, rfl⟩
def Sp_O_mode_0 (C : ax_O) : Prop := ∀ (f : Nat → Int32) (n : Nat) (t : Nat → Nat → Int32) (u : Int32) (b : Nat) (x v : Int32), inB x 0 3 = false → C no_O_mode [.ref 0, .int x, .int v] (oH f n t u b) (ax_is (some (.int 0)) (oH f n t u b))
theorem p_O_mode_0 {C : ax_O} (hW : Sp_O_within C) : Sp_O_mode_0 (ax_B ax_Ms ax_Xs C) := by
  intro f n t u b x v hx
  refine ax_X.steps 4 (ax_go (hW _ _ _ _ false hx) ?_)
  refine ax_X.steps 1 (ax_brF (fun q => q rfl) ?_)
  exact ax_X.steps 2 ⟨Or.inr (Or.inl rfl), rfl, rfl⟩
def Sp_O_retries_1 (C : ax_O) : Prop := ∀ (f : Nat → Int32) (n : Nat) (t : Nat → Nat → Int32) (u : Int32) (b : Nat) (k : Nat) (w : Int32), k < 4 → inB w 0 3 = true → C no_O_retries [.ref 0, .int (nI k), .int w] (oH f n t u b) (ax_is (some (.int 1)) (oH f n (ts t 13 k w) u b))
theorem p_O_retries_1 {C : ax_O} (hW : Sp_O_within C) : Sp_O_retries_1 (ax_B ax_Ms ax_Xs C) := by
  intro f n t u b k w hk hw
  refine ax_X.steps 4 (ax_go (hW _ _ _ _ true (inB_4 hk)) ?_)
  refine ax_X.steps 1 (ax_brF (bI_n0) ?_)
  refine ax_X.steps 4 (ax_go (hW _ _ _ _ true hw) ?_)
  refine ax_X.steps 1 (ax_brT (bI_n0) ?_)
  refine ax_X.steps 6 ⟨k, ⟨by omega, by omega⟩, rfl, ?_⟩
  exact ax_X.steps 2 ⟨Or.inr (Or.inr rfl), rfl, rfl⟩
def Sp_O_retries_0 (C : ax_O) : Prop := ∀ (f : Nat → Int32) (n : Nat) (t : Nat → Nat → Int32) (u : Int32) (b : Nat) (x w : Int32), (inB x 0 3 = false ∨ inB w 0 3 = false) → C no_O_retries [.ref 0, .int x, .int w] (oH f n t u b) (ax_is (some (.int 0)) (oH f n t u b))
theorem p_O_retries_0 {C : ax_O} (hW : Sp_O_within C) : Sp_O_retries_0 (ax_B ax_Ms ax_Xs C) := by
  intro f n t u b x w hx
  cases a1 : inB x 0 3
  · refine ax_X.steps 4 (ax_go (hW _ _ _ _ false a1) ?_)
    refine ax_X.steps 1 (ax_brT (rfl) ?_)
    exact ax_X.steps 2 ⟨Or.inr (Or.inl rfl), rfl, rfl⟩
  · have a2 : inB w 0 3 = false := hx.resolve_left (by rw [a1]; decide)
    refine ax_X.steps 4 (ax_go (hW _ _ _ _ true a1) ?_)
    refine ax_X.steps 1 (ax_brF (bI_n0) ?_)
    refine ax_X.steps 4 (ax_go (hW _ _ _ _ false a2) ?_)
    refine ax_X.steps 1 (ax_brF (fun q => q rfl) ?_)
    exact ax_X.steps 2 ⟨Or.inr (Or.inl rfl), rfl, rfl⟩
def Sp_O_peak (C : ax_O) : Prop := ∀ (f : Nat → Int32) (n : Nat) (t : Nat → Nat → Int32) (u : Int32) (b : Nat) (x : Int32), C no_O_peak [.ref 0, .int x] (oH f n t u b) (ax_is (some (.int (if x = 0 then f 7 else if x = 1 then f 8 else 0))) (oH f n t u b))
theorem p_O_peak {C : ax_O} : Sp_O_peak (ax_B ax_Ms ax_Xs C) := by
  intro f n t u b x
  by_cases h0 : x = 0
  · rw [if_pos h0]
    subst h0
    refine ax_X.steps 2 (ax_brF (fun q => q rfl) ?_)
    exact ax_X.steps 4 ⟨Or.inl rfl, rfl, rfl⟩
  · rw [if_neg h0]
    by_cases h1 : x = 1
    · rw [if_pos h1]
      subst h1
      refine ax_X.steps 2 (ax_brT (h0) ?_)
      refine ax_X.steps 3 (ax_brF (fun q => q rfl) ?_)
      exact ax_X.steps 5 ⟨Or.inl rfl, rfl, rfl⟩
    · rw [if_neg h1]
      refine ax_X.steps 2 (ax_brT (h0) ?_)
      refine ax_X.steps 3 (ax_brT (h1) ?_)
      exact ax_X.steps 2 ⟨Or.inl rfl, rfl, rfl⟩
end
section
/-! The reference: what asks and sets. -/
def heldI (x lo hi : Int32) : Int32 := if x < lo then lo else if hi < x then hi else x
def Sp_M_held (C : ax_O) : Prop := ∀ (h : ax_H) (x lo hi : Int32), C no_M_held [.int x, .int lo, .int hi] h (ax_is (some (.int (heldI x lo hi))) h)
theorem p_M_held {C : ax_O} : Sp_M_held (ax_B ax_Ms ax_Xs C) := by
  intro h x lo hi
  unfold heldI
  refine ax_X.steps 3 (ax_br2 (fun c1 => ?_) (fun c1 => ?_))
  · rw [if_neg (i_nlt.mpr c1)]
    refine ax_X.steps 3 (ax_br2 (fun c2 => ?_) (fun c2 => ?_))
    · rw [if_neg (i_nlt.mpr c2)]
      exact ax_X.steps 2 ⟨Or.inl rfl, rfl, rfl⟩
    · rw [if_pos (i_nle.mp c2)]
      exact ax_X.steps 3 ⟨Or.inl rfl, rfl, rfl⟩
  · rw [if_pos (i_nle.mp c1)]
    exact ax_X.steps 3 ⟨Or.inl rfl, rfl, rfl⟩
def Sp_M_in (C : ax_O) : Prop := ∀ (h : ax_H) (x lo hi : Int32) (c : Bool), inB x lo hi = c → C no_M_in [.int x, .int lo, .int hi] h (ax_is (some (.int (bI c))) h)
theorem p_M_in {C : ax_O} : Sp_M_in (ax_B ax_Ms ax_Xs C) := by
  intro h x lo hi c hc
  subst hc
  refine ax_X.steps 3 (ax_br2 (fun c1 => ?_) (fun c1 => ?_))
  · rw [inB_a c1]
    exact ax_X.steps 2 ⟨Or.inr (Or.inl rfl), rfl, rfl⟩
  · refine ax_X.steps 3 (ax_br2 (fun c2 => ?_) (fun c2 => ?_))
    · rw [inB_b c2]
      exact ax_X.steps 2 ⟨Or.inr (Or.inl rfl), rfl, rfl⟩
    · rw [inB_c c1 c2]
      exact ax_X.steps 3 ⟨Or.inr (Or.inr rfl), rfl, rfl⟩
theorem inB_has {n : Nat} (hn : n < 1000) (x : Int32) : inB x 0 (nI n - 1) = hasB n x := by
  have e : (nI n - 1).toInt = (n : Int) - 1 := pk_sub_toInt (a := n) (b := 1) (by omega) (by omega)
  have e2 : (nI n).toInt = (n : Int) := nI_toInt (by omega)
  unfold inB hasB
  congr 1
  apply decide_eq_decide.mpr
  rw [Int32.lt_iff_toInt_lt, Int32.le_iff_toInt_le, e, e2]
  omega
def Sp_M_isAction (C : ax_O) : Prop := ∀ (f : Nat → Int32) (n kn : Nat) (t : Nat → Nat → Int32) (b : Nat) (x : Int32) (c : Bool), n ≤ 24 → hasB n x = c → C no_M_isAction [.ref 0, .int x] (mH f n kn t b) (ax_is (some (.int (bI c))) (mH f n kn t b))
theorem p_M_isAction {C : ax_O} (hW : Sp_M_in C) : Sp_M_isAction (ax_B ax_Ms ax_Xs C) := by
  intro f n kn t b x c hn hc
  refine ax_X.steps 7 (ax_go (hW _ x 0 (nI n - 1) c ((inB_has (by omega) x).trans hc)) ?_)
  exact ax_X.steps 1 ⟨Or.inr (bI_01 c), rfl, rfl⟩
def Sp_M_slots_1 (C : ax_O) : Prop := ∀ (f : Nat → Int32) (n kn : Nat) (t : Nat → Nat → Int32) (b : Nat) (x : Int32), inB x 0 4 = true → C no_M_slots [.ref 0, .int x] (mH f n kn t b) (ax_is (some (.int 1)) (mH (va_up f 2 x) n kn t b))
theorem p_M_slots_1 {C : ax_O} (hW : Sp_M_in C) : Sp_M_slots_1 (ax_B ax_Ms ax_Xs C) := by
  intro f n kn t b x hx
  refine ax_X.steps 3 ⟨Or.inl rfl, ?_⟩
  refine ax_X.steps 4 (ax_go (hW _ _ _ _ true hx) ?_)
  refine ax_X.steps 1 (ax_brT (bI_n0) ?_)
  refine ax_X.steps 3 ⟨Or.inl rfl, ?_⟩
  exact ax_X.steps 2 ⟨Or.inr (Or.inr rfl), rfl, rfl⟩
def Sp_M_slots_0 (C : ax_O) : Prop := ∀ (f : Nat → Int32) (n kn : Nat) (t : Nat → Nat → Int32) (b : Nat) (x : Int32), inB x 0 4 = false → C no_M_slots [.ref 0, .int x] (mH f n kn t b) (ax_is (some (.int 0)) (mH f n kn t b))
theorem p_M_slots_0 {C : ax_O} (hW : Sp_M_in C) : Sp_M_slots_0 (ax_B ax_Ms ax_Xs C) := by
  intro f n kn t b x hx
  refine ax_X.steps 3 ⟨Or.inl rfl, ?_⟩
  refine ax_X.steps 4 (ax_go (hW _ _ _ _ false hx) ?_)
  refine ax_X.steps 1 (ax_brF (fun q => q rfl) ?_)
  exact ax_X.steps 2 ⟨Or.inr (Or.inl rfl), rfl, rfl⟩
def Sp_M_action_1 (C : ax_O) : Prop := ∀ (f : Nat → Int32) (n kn : Nat) (t : Nat → Nat → Int32) (b : Nat) (x y z : Int32), n < 24 → actB x y z = true → C no_M_action [.ref 0, .int x, .int y, .int z] (mH f n kn t b) (ax_is (some (.int (nI n))) (mH f (n + 1) kn (actR t n x y z) b))
theorem p_M_action_1 {C : ax_O} (hW : Sp_M_in C) : Sp_M_action_1 (ax_B ax_Ms ax_Xs C) := by
  intro f n kn t b x y z hn hx
  unfold actB at hx
  simp only [Bool.and_eq_true] at hx
  obtain ⟨a1, a2, a3⟩ := hx
  refine ax_X.steps 3 ⟨Or.inl rfl, ?_⟩
  refine ax_X.steps 4 (ax_brF (fun q => absurd ((nI_eq (b := 24) (by omega) (by omega)).mp q) (by omega)) ?_)
  refine ax_X.steps 4 (ax_go (hW _ _ _ _ true a1) ?_)
  refine ax_X.steps 1 (ax_brF (bI_n0) ?_)
  refine ax_X.steps 4 (ax_go (hW _ _ _ _ true a2) ?_)
  refine ax_X.steps 1 (ax_brF (bI_n0) ?_)
  refine ax_X.steps 4 (ax_go (hW _ _ _ _ true a3) ?_)
  refine ax_X.steps 1 (ax_brT (bI_n0) ?_)
  refine ax_X.steps 6 ⟨n, ⟨by omega, by omega⟩, rfl, ?_⟩
  refine ax_X.steps 6 ⟨n, ⟨by omega, by omega⟩, rfl, ?_⟩
  refine ax_X.steps 6 ⟨n, ⟨by omega, by omega⟩, rfl, ?_⟩
  refine ax_X.steps 6 ⟨Or.inl rfl, ?_⟩
  exact ax_X.steps 5 ⟨Or.inl rfl, congrArg (fun q => some (Value.int q)) (show nI n + 1 - 1 = nI n by rw [nI_1, nI_pred]), by rw [show mH f (n + 1) kn (actR t n x y z) b = (mH f n kn (actR t n x y z) b).set 0 (.inr (5, [.int 0, .int (f 0), .int (f 1), .int (f 2), .int (nI (n + 1)), .ref 1, .ref 2, .ref 3, .ref 4, .ref 5, .ref 6, .ref 7, .ref 8, .ref 9, .ref 10, .ref 11, .ref 12, .ref 13, .ref 14, .int (nI kn), .ref 15, .ref 16, .ref 17, .ref 18, .ref 19, .ref 20, .ref 21, .ref 22, .ref 23, .ref 24, .int (nI b), .int (f 3), .int (f 4), .int (f 5), .int (f 6)])) from rfl, ← nI_1]; rfl⟩
def Sp_M_action_0 (C : ax_O) : Prop := ∀ (f : Nat → Int32) (n kn : Nat) (t : Nat → Nat → Int32) (b : Nat) (x y z : Int32), n ≤ 24 → (n = 24 ∨ actB x y z = false) → C no_M_action [.ref 0, .int x, .int y, .int z] (mH f n kn t b) (ax_is (some (.int (-1))) (mH f n kn t b))
theorem p_M_action_0 {C : ax_O} (hW : Sp_M_in C) : Sp_M_action_0 (ax_B ax_Ms ax_Xs C) := by
  intro f n kn t b x y z hn hx
  by_cases hn4 : n = 24
  · subst hn4
    refine ax_X.steps 3 ⟨Or.inl rfl, ?_⟩
    refine ax_X.steps 4 (ax_brT (rfl) ?_)
    exact ax_X.steps 2 ⟨Or.inl rfl, rfl, rfl⟩
  have hne : ¬ nI n = 24 := fun q => hn4 ((nI_eq (b := 24) (by omega) (by omega)).mp q)
  cases a1 : inB x 1 1000
  · refine ax_X.steps 3 ⟨Or.inl rfl, ?_⟩
    refine ax_X.steps 4 (ax_brF (hne) ?_)
    refine ax_X.steps 4 (ax_go (hW _ _ _ _ false a1) ?_)
    refine ax_X.steps 1 (ax_brT (rfl) ?_)
    exact ax_X.steps 2 ⟨Or.inl rfl, rfl, rfl⟩
  cases a2 : inB y 0 16
  · refine ax_X.steps 3 ⟨Or.inl rfl, ?_⟩
    refine ax_X.steps 4 (ax_brF (hne) ?_)
    refine ax_X.steps 4 (ax_go (hW _ _ _ _ true a1) ?_)
    refine ax_X.steps 1 (ax_brF (bI_n0) ?_)
    refine ax_X.steps 4 (ax_go (hW _ _ _ _ false a2) ?_)
    refine ax_X.steps 1 (ax_brT (rfl) ?_)
    exact ax_X.steps 2 ⟨Or.inl rfl, rfl, rfl⟩
  cases a3 : inB z 0 1000000
  · refine ax_X.steps 3 ⟨Or.inl rfl, ?_⟩
    refine ax_X.steps 4 (ax_brF (hne) ?_)
    refine ax_X.steps 4 (ax_go (hW _ _ _ _ true a1) ?_)
    refine ax_X.steps 1 (ax_brF (bI_n0) ?_)
    refine ax_X.steps 4 (ax_go (hW _ _ _ _ true a2) ?_)
    refine ax_X.steps 1 (ax_brF (bI_n0) ?_)
    refine ax_X.steps 4 (ax_go (hW _ _ _ _ false a3) ?_)
    refine ax_X.steps 1 (ax_brF (fun q => q rfl) ?_)
    exact ax_X.steps 2 ⟨Or.inl rfl, rfl, rfl⟩
  · exact absurd (hx.resolve_left hn4) (by unfold actB; rw [a1, a2, a3]; decide)
def Sp_M_about_1 (C : ax_O) : Prop := ∀ (f : Nat → Int32) (n kn : Nat) (t : Nat → Nat → Int32) (b : Nat) (k : Nat) (z : Bool) (l w : Int32), n ≤ 24 → k < n → inB w 0 1000 = true → C no_M_about [.ref 0, .int (nI k), .int (bI z), .int l, .int w] (mH f n kn t b) (ax_is (some (.int 1)) (mH f n kn (ts (ts (ts t 8 k (bI z &&& 1)) 3 k (l &&& 255)) 4 k w) b))
theorem p_M_about_1 {C : ax_O} (hW : Sp_M_in C) (hH : Sp_M_isAction C) : Sp_M_about_1 (ax_B ax_Ms ax_Xs C) := by
  intro f n kn t b k z l w hn hk hw
  refine ax_X.steps 3 ⟨Or.inl rfl, ?_⟩
  refine ax_X.steps 3 (ax_go (hH _ _ _ _ _ _ true hn (hasB_k hn hk)) ?_)
  refine ax_X.steps 1 (ax_brF (bI_n0) ?_)
  refine ax_X.steps 4 (ax_go (hW _ _ _ _ true hw) ?_)
  refine ax_X.steps 1 (ax_brT (bI_n0) ?_)
  refine ax_X.steps 5 ⟨k, ⟨by omega, by omega⟩, rfl, ?_⟩
  refine ax_X.steps 7 ⟨k, ⟨by omega, by omega⟩, rfl, ?_⟩
  refine ax_X.steps 5 ⟨k, ⟨by omega, by omega⟩, rfl, ?_⟩
  exact ax_X.steps 2 ⟨Or.inr (Or.inr rfl), rfl, rfl⟩
def Sp_M_about_0 (C : ax_O) : Prop := ∀ (f : Nat → Int32) (n kn : Nat) (t : Nat → Nat → Int32) (b : Nat) (x v l w : Int32), n ≤ 24 → (hasB n x = false ∨ inB w 0 1000 = false) → C no_M_about [.ref 0, .int x, .int v, .int l, .int w] (mH f n kn t b) (ax_is (some (.int 0)) (mH f n kn t b))
theorem p_M_about_0 {C : ax_O} (hW : Sp_M_in C) (hH : Sp_M_isAction C) : Sp_M_about_0 (ax_B ax_Ms ax_Xs C) := by
  intro f n kn t b x v l w hn hx
  cases a1 : hasB n x
  · refine ax_X.steps 3 ⟨Or.inl rfl, ?_⟩
    refine ax_X.steps 3 (ax_go (hH _ _ _ _ _ _ false hn a1) ?_)
    refine ax_X.steps 1 (ax_brT (rfl) ?_)
    exact ax_X.steps 2 ⟨Or.inr (Or.inl rfl), rfl, rfl⟩
  · have a2 : inB w 0 1000 = false := hx.resolve_left (by rw [a1]; decide)
    refine ax_X.steps 3 ⟨Or.inl rfl, ?_⟩
    refine ax_X.steps 3 (ax_go (hH _ _ _ _ _ _ true hn a1) ?_)
    refine ax_X.steps 1 (ax_brF (bI_n0) ?_)
    refine ax_X.steps 4 (ax_go (hW _ _ _ _ false a2) ?_)
    refine ax_X.steps 1 (ax_brF (fun q => q rfl) ?_)
    exact ax_X.steps 2 ⟨Or.inr (Or.inl rfl), rfl, rfl⟩
def Sp_M_fails_1 (C : ax_O) : Prop := ∀ (f : Nat → Int32) (n kn : Nat) (t : Nat → Nat → Int32) (b : Nat) (k : Nat) (v w : Int32), n ≤ 24 → k < n → inB v 0 3 = true → inB w 0 3 = true → C no_M_fails [.ref 0, .int (nI k), .int v, .int w] (mH f n kn t b) (ax_is (some (.int 1)) (mH f n kn (ts (ts t 5 k v) 6 k w) b))
theorem p_M_fails_1 {C : ax_O} (hW : Sp_M_in C) (hH : Sp_M_isAction C) : Sp_M_fails_1 (ax_B ax_Ms ax_Xs C) := by
  intro f n kn t b k v w hn hk hv hw
  refine ax_X.steps 3 ⟨Or.inl rfl, ?_⟩
  refine ax_X.steps 3 (ax_go (hH _ _ _ _ _ _ true hn (hasB_k hn hk)) ?_)
  refine ax_X.steps 1 (ax_brF (bI_n0) ?_)
  refine ax_X.steps 4 (ax_go (hW _ _ _ _ true hv) ?_)
  refine ax_X.steps 1 (ax_brF (bI_n0) ?_)
  refine ax_X.steps 4 (ax_go (hW _ _ _ _ true hw) ?_)
  refine ax_X.steps 1 (ax_brT (bI_n0) ?_)
  refine ax_X.steps 5 ⟨k, ⟨by omega, by omega⟩, rfl, ?_⟩
  refine ax_X.steps 5 ⟨k, ⟨by omega, by omega⟩, rfl, ?_⟩
  exact ax_X.steps 2 ⟨Or.inr (Or.inr rfl), rfl, rfl⟩
def Sp_M_fails_0 (C : ax_O) : Prop := ∀ (f : Nat → Int32) (n kn : Nat) (t : Nat → Nat → Int32) (b : Nat) (x v w : Int32), n ≤ 24 → (hasB n x = false ∨ inB v 0 3 = false ∨ inB w 0 3 = false) → C no_M_fails [.ref 0, .int x, .int v, .int w] (mH f n kn t b) (ax_is (some (.int 0)) (mH f n kn t b))
theorem p_M_fails_0 {C : ax_O} (hW : Sp_M_in C) (hH : Sp_M_isAction C) : Sp_M_fails_0 (ax_B ax_Ms ax_Xs C) := by
  intro f n kn t b x v w hn hx
  cases a1 : hasB n x
  · refine ax_X.steps 3 ⟨Or.inl rfl, ?_⟩
    refine ax_X.steps 3 (ax_go (hH _ _ _ _ _ _ false hn a1) ?_)
    refine ax_X.steps 1 (ax_brT (rfl) ?_)
    exact ax_X.steps 2 ⟨Or.inr (Or.inl rfl), rfl, rfl⟩
  cases a2 : inB v 0 3
  · refine ax_X.steps 3 ⟨Or.inl rfl, ?_⟩
    refine ax_X.steps 3 (ax_go (hH _ _ _ _ _ _ true hn a1) ?_)
    refine ax_X.steps 1 (ax_brF (bI_n0) ?_)
    refine ax_X.steps 4 (ax_go (hW _ _ _ _ false a2) ?_)
    refine ax_X.steps 1 (ax_brT (rfl) ?_)
    exact ax_X.steps 2 ⟨Or.inr (Or.inl rfl), rfl, rfl⟩
  · have a3 : inB w 0 3 = false := (hx.resolve_left (by rw [a1]; decide)).resolve_left (by rw [a2]; decide)
    refine ax_X.steps 3 ⟨Or.inl rfl, ?_⟩
    refine ax_X.steps 3 (ax_go (hH _ _ _ _ _ _ true hn a1) ?_)
    refine ax_X.steps 1 (ax_brF (bI_n0) ?_)
    refine ax_X.steps 4 (ax_go (hW _ _ _ _ true a2) ?_)
    refine ax_X.steps 1 (ax_brF (bI_n0) ?_)
    refine ax_X.steps 4 (ax_go (hW _ _ _ _ false a3) ?_)
    refine ax_X.steps 1 (ax_brF (fun q => q rfl) ?_)
    exact ax_X.steps 2 ⟨Or.inr (Or.inl rfl), rfl, rfl⟩
def Sp_M_wish_1 (C : ax_O) : Prop := ∀ (f : Nat → Int32) (n kn : Nat) (t : Nat → Nat → Int32) (b : Nat) (k : Nat) (z : Bool), n ≤ 24 → k < n → C no_M_wish [.ref 0, .int (nI k), .int (bI z)] (mH f n kn t b) (ax_is (some (.int 1)) (mH f n kn (ts t 9 k (bI z &&& 1)) b))
theorem p_M_wish_1 {C : ax_O} (hH : Sp_M_isAction C) : Sp_M_wish_1 (ax_B ax_Ms ax_Xs C) := by
  intro f n kn t b k z hn hk
  refine ax_X.steps 3 ⟨Or.inl rfl, ?_⟩
  refine ax_X.steps 3 (ax_go (hH _ _ _ _ _ _ true hn (hasB_k hn hk)) ?_)
  refine ax_X.steps 1 (ax_brT (bI_n0) ?_)
  refine ax_X.steps 5 ⟨k, ⟨by omega, by omega⟩, rfl, ?_⟩
  exact ax_X.steps 2 ⟨Or.inr (Or.inr rfl), rfl, rfl⟩
def Sp_M_wish_0 (C : ax_O) : Prop := ∀ (f : Nat → Int32) (n kn : Nat) (t : Nat → Nat → Int32) (b : Nat) (x v : Int32), n ≤ 24 → hasB n x = false → C no_M_wish [.ref 0, .int x, .int v] (mH f n kn t b) (ax_is (some (.int 0)) (mH f n kn t b))
theorem p_M_wish_0 {C : ax_O} (hH : Sp_M_isAction C) : Sp_M_wish_0 (ax_B ax_Ms ax_Xs C) := by
  intro f n kn t b x v hn hx
  refine ax_X.steps 3 ⟨Or.inl rfl, ?_⟩
  refine ax_X.steps 3 (ax_go (hH _ _ _ _ _ _ false hn hx) ?_)
  refine ax_X.steps 1 (ax_brF (fun q => q rfl) ?_)
  exact ax_X.steps 2 ⟨Or.inr (Or.inl rfl), rfl, rfl⟩
def Sp_M_mode_1 (C : ax_O) : Prop := ∀ (f : Nat → Int32) (n kn : Nat) (t : Nat → Nat → Int32) (b : Nat) (k : Nat) (z : Bool), k < 4 → C no_M_mode [.ref 0, .int (nI k), .int (bI z)] (mH f n kn t b) (ax_is (some (.int 1)) (mH f n kn (ts t 11 k (bI z &&& 1)) b))
theorem p_M_mode_1 {C : ax_O} (hW : Sp_M_in C) : Sp_M_mode_1 (ax_B ax_Ms ax_Xs C) := by
  intro f n kn t b k z hk
  refine ax_X.steps 3 ⟨Or.inl rfl, ?_⟩
  refine ax_X.steps 4 (ax_go (hW _ _ _ _ true (inB_4 hk)) ?_)
  refine ax_X.steps 1 (ax_brT (bI_n0) ?_)
  refine ax_X.steps 5 ⟨k, ⟨by omega, by omega⟩, rfl, ?_⟩
  exact ax_X.steps 2 ⟨Or.inr (Or.inr rfl), rfl, rfl⟩
def Sp_M_mode_0 (C : ax_O) : Prop := ∀ (f : Nat → Int32) (n kn : Nat) (t : Nat → Nat → Int32) (b : Nat) (x v : Int32), inB x 0 3 = false → C no_M_mode [.ref 0, .int x, .int v] (mH f n kn t b) (ax_is (some (.int 0)) (mH f n kn t b))
theorem p_M_mode_0 {C : ax_O} (hW : Sp_M_in C) : Sp_M_mode_0 (ax_B ax_Ms ax_Xs C) := by
  intro f n kn t b x v hx
  refine ax_X.steps 3 ⟨Or.inl rfl, ?_⟩
  refine ax_X.steps 4 (ax_go (hW _ _ _ _ false hx) ?_)
  refine ax_X.steps 1 (ax_brF (fun q => q rfl) ?_)
  exact ax_X.steps 2 ⟨Or.inr (Or.inl rfl), rfl, rfl⟩
def Sp_M_retries_1 (C : ax_O) : Prop := ∀ (f : Nat → Int32) (n kn : Nat) (t : Nat → Nat → Int32) (b : Nat) (k : Nat) (w : Int32), k < 4 → inB w 0 3 = true → C no_M_retries [.ref 0, .int (nI k), .int w] (mH f n kn t b) (ax_is (some (.int 1)) (mH f n kn (ts t 12 k w) b))
theorem p_M_retries_1 {C : ax_O} (hW : Sp_M_in C) : Sp_M_retries_1 (ax_B ax_Ms ax_Xs C) := by
  intro f n kn t b k w hk hw
  refine ax_X.steps 3 ⟨Or.inl rfl, ?_⟩
  refine ax_X.steps 4 (ax_go (hW _ _ _ _ true (inB_4 hk)) ?_)
  refine ax_X.steps 1 (ax_brF (bI_n0) ?_)
  refine ax_X.steps 4 (ax_go (hW _ _ _ _ true hw) ?_)
  refine ax_X.steps 1 (ax_brT (bI_n0) ?_)
  refine ax_X.steps 5 ⟨k, ⟨by omega, by omega⟩, rfl, ?_⟩
  exact ax_X.steps 2 ⟨Or.inr (Or.inr rfl), rfl, rfl⟩
def Sp_M_retries_0 (C : ax_O) : Prop := ∀ (f : Nat → Int32) (n kn : Nat) (t : Nat → Nat → Int32) (b : Nat) (x w : Int32), (inB x 0 3 = false ∨ inB w 0 3 = false) → C no_M_retries [.ref 0, .int x, .int w] (mH f n kn t b) (ax_is (some (.int 0)) (mH f n kn t b))
theorem p_M_retries_0 {C : ax_O} (hW : Sp_M_in C) : Sp_M_retries_0 (ax_B ax_Ms ax_Xs C) := by
  intro f n kn t b x w hx
  cases a1 : inB x 0 3
  · refine ax_X.steps 3 ⟨Or.inl rfl, ?_⟩
    refine ax_X.steps 4 (ax_go (hW _ _ _ _ false a1) ?_)
    refine ax_X.steps 1 (ax_brT (rfl) ?_)
    exact ax_X.steps 2 ⟨Or.inr (Or.inl rfl), rfl, rfl⟩
  · have a2 : inB w 0 3 = false := hx.resolve_left (by rw [a1]; decide)
    refine ax_X.steps 3 ⟨Or.inl rfl, ?_⟩
    refine ax_X.steps 4 (ax_go (hW _ _ _ _ true a1) ?_)
    refine ax_X.steps 1 (ax_brF (bI_n0) ?_)
    refine ax_X.steps 4 (ax_go (hW _ _ _ _ false a2) ?_)
    refine ax_X.steps 1 (ax_brF (fun q => q rfl) ?_)
    exact ax_X.steps 2 ⟨Or.inr (Or.inl rfl), rfl, rfl⟩
def Sp_M_peak (C : ax_O) : Prop := ∀ (f : Nat → Int32) (n kn : Nat) (t : Nat → Nat → Int32) (b : Nat) (x : Int32), C no_M_peak [.ref 0, .int x] (mH f n kn t b) (ax_is (some (.int (if x = 0 then f 3 else if x = 1 then f 4 else 0))) (mH f n kn t b))
theorem p_M_peak {C : ax_O} : Sp_M_peak (ax_B ax_Ms ax_Xs C) := by
  intro f n kn t b x
  by_cases h0 : x = 0
  · rw [if_pos h0]
    subst h0
    refine ax_X.steps 3 ⟨Or.inl rfl, ?_⟩
    refine ax_X.steps 2 (ax_brF (fun q => q rfl) ?_)
    exact ax_X.steps 4 ⟨Or.inl rfl, rfl, rfl⟩
  · rw [if_neg h0]
    by_cases h1 : x = 1
    · rw [if_pos h1]
      subst h1
      refine ax_X.steps 3 ⟨Or.inl rfl, ?_⟩
      refine ax_X.steps 2 (ax_brT (h0) ?_)
      refine ax_X.steps 3 (ax_brF (fun q => q rfl) ?_)
      exact ax_X.steps 4 ⟨Or.inl rfl, rfl, rfl⟩
    · rw [if_neg h1]
      refine ax_X.steps 3 ⟨Or.inl rfl, ?_⟩
      refine ax_X.steps 2 (ax_brT (h0) ?_)
      refine ax_X.steps 3 (ax_brT (h1) ?_)
      exact ax_X.steps 2 ⟨Or.inl rfl, rfl, rfl⟩
end
section
/-! Both: what tells of the latest run. -/
theorem nn {x y : Int32} (h : ¬ ¬ x = y) : x = y := Decidable.not_not.mp h
theorem ax_sw5 {x : Int32} {a b c d e g : Nat} {R : Nat → Prop} (h0 : x = 0 → R a) (h1 : x = 1 → R b) (h2 : x = 2 → R c) (h3 : x = 3 → R d) (h4 : x = 4 → R e) (h5 : ¬ x = 0 → ¬ x = 1 → ¬ x = 2 → ¬ x = 3 → ¬ x = 4 → R g) : ax_sw x 0 [a, b, c, d, e] R g := by
  have key : ∀ (k : Int32) (j : Int), k.toInt = j → x.toInt = j → x = k := fun k j e1 e2 => Int32.toInt_inj.mp (by rw [e1, e2])
  have z0 : (0 : Int32).toInt = 0 := by decide
  refine ⟨fun k t hk hx => ?_, fun hx => ?_⟩
  · rw [z0] at hx
    match k, hk with
    | 0, hk => cases hk; exact h0 (key 0 0 (by decide) (by omega))
    | 1, hk => cases hk; exact h1 (key 1 1 (by decide) (by omega))
    | 2, hk => cases hk; exact h2 (key 2 2 (by decide) (by omega))
    | 3, hk => cases hk; exact h3 (key 3 3 (by decide) (by omega))
    | 4, hk => cases hk; exact h4 (key 4 4 (by decide) (by omega))
    | n + 5, hk => cases hk
  · rw [z0] at hx
    have hx : x.toInt < 0 ∨ 0 + 5 ≤ x.toInt := hx
    have ne : ∀ (k : Int32) (j : Int), k.toInt = j → 0 ≤ j → j < 5 → ¬ x = k := fun k j e1 e2 e3 q => by
      rw [q, e1] at hx
      omega
    exact h5 (ne 0 0 (by decide) (by decide) (by decide)) (ne 1 1 (by decide) (by decide) (by decide)) (ne 2 2 (by decide) (by decide) (by decide)) (ne 3 3 (by decide) (by decide) (by decide)) (ne 4 4 (by decide) (by decide) (by decide))
def outI (a0 a1 a2 a3 a4 x : Int32) : Int32 := if x = 0 then a0 else if x = 1 then a1 else if x = 2 then a2 else if x = 3 then a3 else if x = 4 then a4 else -1
theorem outI_d {a0 a1 a2 a3 a4 x : Int32} (h0 : ¬ x = 0) (h1 : ¬ x = 1) (h2 : ¬ x = 2) (h3 : ¬ x = 3) (h4 : ¬ x = 4) : outI a0 a1 a2 a3 a4 x = -1 := by
  unfold outI
  rw [if_neg h0, if_neg h1, if_neg h2, if_neg h3, if_neg h4]
def Sp_N_tell (C : ax_O) : Prop := ∀ (f : Nat → Int32) (n : Nat) (t : Nat → Nat → Int32) (u : Int32) (b : Nat) (k : Nat) (x : Int32), k < 24 → (u = 0 ∨ u = 1) → C no_N_tell [.ref 18, .int (nI k), .int x] (oH f n t u b) (ax_is (some (.int (if u = 0 then -1 else outI (t 14 k) (t 15 k) (t 16 k) (t 17 k) (t 18 k) x))) (oH f n t u b))
theorem p_N_tell {C : ax_O} : Sp_N_tell (ax_B ax_Ms ax_Xs C) := by
  intro f n t u b k x hk hu
  by_cases h0 : u = 0
  · rw [if_pos h0]
    subst h0
    refine ax_X.steps 3 (ax_brF (fun q => q rfl) ?_)
    exact ax_X.steps 2 ⟨Or.inl rfl, rfl, rfl⟩
  rw [if_neg h0]
  refine ax_X.steps 3 (ax_brT h0 ?_)
  refine ax_X.steps 2 (ax_sw5 (fun h => ?_) (fun h => ?_) (fun h => ?_) (fun h => ?_) (fun h => ?_) (fun h0 h1 h2 h3 h4 => ?_))
  · subst h
    refine ax_X.steps 4 ⟨k, ⟨by omega, by omega⟩, rfl, ?_⟩
    exact ax_X.steps 1 ⟨Or.inl rfl, rfl, rfl⟩
  · subst h
    refine ax_X.steps 4 ⟨k, ⟨by omega, by omega⟩, rfl, ?_⟩
    exact ax_X.steps 1 ⟨Or.inl rfl, rfl, rfl⟩
  · subst h
    refine ax_X.steps 4 ⟨k, ⟨by omega, by omega⟩, rfl, ?_⟩
    exact ax_X.steps 1 ⟨Or.inl rfl, rfl, rfl⟩
  · subst h
    refine ax_X.steps 4 ⟨k, ⟨by omega, by omega⟩, rfl, ?_⟩
    exact ax_X.steps 1 ⟨Or.inl rfl, rfl, rfl⟩
  · subst h
    refine ax_X.steps 4 ⟨k, ⟨by omega, by omega⟩, rfl, ?_⟩
    exact ax_X.steps 1 ⟨Or.inl rfl, rfl, rfl⟩
  · rw [outI_d h0 h1 h2 h3 h4]
    exact ax_X.steps 2 ⟨Or.inl rfl, rfl, rfl⟩
def Sp_O_outcome_1 (C : ax_O) : Prop := ∀ (f : Nat → Int32) (n : Nat) (t : Nat → Nat → Int32) (u : Int32) (b : Nat) (k : Nat) (x : Int32), n ≤ 24 → k < n → (u = 0 ∨ u = 1) → C no_O_outcome [.ref 0, .int (nI k), .int x] (oH f n t u b) (ax_is (some (.int (if u = 0 then -1 else outI (t 14 k) (t 15 k) (t 16 k) (t 17 k) (t 18 k) x))) (oH f n t u b))
theorem p_O_outcome_1 {C : ax_O} (hH : Sp_A_has C) (h1 : Sp_N_tell C) : Sp_O_outcome_1 (ax_B ax_Ms ax_Xs C) := by
  intro f n t u b k x hn hk hu
  refine ax_X.steps 4 (ax_go (hH _ _ _ _ _ _ true (hasB_k hn hk)) ?_)
  refine ax_X.steps 1 (ax_brF (bI_n0) ?_)
  refine ax_X.steps 5 (ax_go (h1 f n t u b k x (by omega) hu) ?_)
  exact ax_X.steps 2 ⟨Or.inl rfl, rfl, rfl⟩
def Sp_O_outcome_0 (C : ax_O) : Prop := ∀ (f : Nat → Int32) (n : Nat) (t : Nat → Nat → Int32) (u : Int32) (b : Nat) (y x : Int32), hasB n y = false → C no_O_outcome [.ref 0, .int y, .int x] (oH f n t u b) (ax_is (some (.int (-1))) (oH f n t u b))
theorem p_O_outcome_0 {C : ax_O} (hH : Sp_A_has C) : Sp_O_outcome_0 (ax_B ax_Ms ax_Xs C) := by
  intro f n t u b y x hy
  refine ax_X.steps 4 (ax_go (hH _ _ _ _ _ _ false hy) ?_)
  refine ax_X.steps 1 (ax_brT (rfl) ?_)
  exact ax_X.steps 2 ⟨Or.inl rfl, rfl, rfl⟩
def Sp_M_outcome_1 (C : ax_O) : Prop := ∀ (f : Nat → Int32) (n kn : Nat) (t : Nat → Nat → Int32) (b : Nat) (k : Nat) (x : Int32), n ≤ 24 → k < n → C no_M_outcome [.ref 0, .int (nI k), .int x] (mH f n kn t b) (ax_is (some (.int (if f 6 = 0 then -1 else outI (t 14 k) (t 17 k) (t 18 k) (t 19 k) (t 20 k) x))) (mH f n kn t b))
theorem p_M_outcome_1 {C : ax_O} (hH : Sp_M_isAction C) : Sp_M_outcome_1 (ax_B ax_Ms ax_Xs C) := by
  intro f n kn t b k x hn hk
  by_cases h0 : f 6 = 0
  · rw [if_pos h0]
    refine ax_X.steps 3 ⟨Or.inl rfl, ?_⟩
    refine ax_X.steps 3 (ax_brT (h0) ?_)
    exact ax_X.steps 2 ⟨Or.inl rfl, rfl, rfl⟩
  rw [if_neg h0]
  refine ax_X.steps 3 ⟨Or.inl rfl, ?_⟩
  refine ax_X.steps 3 (ax_brF h0 ?_)
  refine ax_X.steps 3 (ax_go (hH _ _ _ _ _ _ true hn (hasB_k hn hk)) ?_)
  refine ax_X.steps 1 (ax_brT bI_n0 ?_)
  refine ax_X.steps 2 (ax_sw5 (fun h => ?_) (fun h => ?_) (fun h => ?_) (fun h => ?_) (fun h => ?_) (fun h0 h1 h2 h3 h4 => ?_))
  · subst h
    refine ax_X.steps 4 ⟨k, ⟨by omega, by omega⟩, rfl, ?_⟩
    exact ax_X.steps 1 ⟨Or.inl rfl, rfl, rfl⟩
  · subst h
    refine ax_X.steps 4 ⟨k, ⟨by omega, by omega⟩, rfl, ?_⟩
    exact ax_X.steps 1 ⟨Or.inl rfl, rfl, rfl⟩
  · subst h
    refine ax_X.steps 4 ⟨k, ⟨by omega, by omega⟩, rfl, ?_⟩
    exact ax_X.steps 1 ⟨Or.inl rfl, rfl, rfl⟩
  · subst h
    refine ax_X.steps 4 ⟨k, ⟨by omega, by omega⟩, rfl, ?_⟩
    exact ax_X.steps 1 ⟨Or.inl rfl, rfl, rfl⟩
  · subst h
    refine ax_X.steps 4 ⟨k, ⟨by omega, by omega⟩, rfl, ?_⟩
    exact ax_X.steps 1 ⟨Or.inl rfl, rfl, rfl⟩
  · rw [outI_d h0 h1 h2 h3 h4]
    exact ax_X.steps 2 ⟨Or.inl rfl, rfl, rfl⟩
def Sp_M_outcome_0 (C : ax_O) : Prop := ∀ (f : Nat → Int32) (n kn : Nat) (t : Nat → Nat → Int32) (b : Nat) (y x : Int32), n ≤ 24 → hasB n y = false → C no_M_outcome [.ref 0, .int y, .int x] (mH f n kn t b) (ax_is (some (.int (-1))) (mH f n kn t b))
theorem p_M_outcome_0 {C : ax_O} (hH : Sp_M_isAction C) : Sp_M_outcome_0 (ax_B ax_Ms ax_Xs C) := by
  intro f n kn t b y x hn hy
  by_cases h0 : f 6 = 0
  · refine ax_X.steps 3 ⟨Or.inl rfl, ?_⟩
    refine ax_X.steps 3 (ax_brT (h0) ?_)
    exact ax_X.steps 2 ⟨Or.inl rfl, rfl, rfl⟩
  · refine ax_X.steps 3 ⟨Or.inl rfl, ?_⟩
    refine ax_X.steps 3 (ax_brF (h0) ?_)
    refine ax_X.steps 3 (ax_go (hH _ _ _ _ _ _ false hn hy) ?_)
    refine ax_X.steps 1 (ax_brF (fun q => q rfl) ?_)
    exact ax_X.steps 2 ⟨Or.inl rfl, rfl, rfl⟩
def Sp_O_order (C : ax_O) : Prop := ∀ (f : Nat → Int32) (n : Nat) (t : Nat → Nat → Int32) (u : Int32) (b : Nat) (x : Int32), b ≤ 96 → C no_O_order [.ref 0, .int x] (oH f n t u b) (ax_is (some (.int (if hasB b x = true then t 21 x.toNatClampNeg else -1))) (oH f n t u b))
def Sp_N_begunAs (C : ax_O) : Prop := ∀ (f : Nat → Int32) (n : Nat) (t : Nat → Nat → Int32) (u : Int32) (b : Nat) (x : Int32), b ≤ 96 → C no_N_begunAs [.ref 18, .int x] (oH f n t u b) (ax_is (some (.int (if hasB b x = true then t 21 x.toNatClampNeg else -1))) (oH f n t u b))
theorem p_N_begunAs {C : ax_O} : Sp_N_begunAs (ax_B ax_Ms ax_Xs C) := by
  intro f n t u b x hb
  refine ax_X.steps 3 (ax_br2 (fun c1 => ?_) (fun c1 => ?_))
  · rw [hasB_a c1, if_neg (by decide)]
    exact ax_X.steps 2 ⟨Or.inl rfl, rfl, rfl⟩
  · refine ax_X.steps 4 (ax_br2 (fun c2 => ?_) (fun c2 => ?_))
    · rw [hasB_b c2, if_neg (by decide)]
      exact ax_X.steps 2 ⟨Or.inl rfl, rfl, rfl⟩
    · rw [hasB_c c1 c2, if_pos rfl]
      obtain ⟨j, hj, e⟩ : ∃ j : Nat, j < b ∧ x = nI j := ((pk_ix x (n := b) (by omega)).resolve_left c1).resolve_left c2
      subst e
      rw [nI_clamp (by omega)]
      refine ax_X.steps 4 ⟨j, ⟨by omega, by omega⟩, rfl, ?_⟩
      exact ax_X.steps 2 ⟨Or.inl rfl, rfl, rfl⟩
theorem p_O_order {C : ax_O} (h1 : Sp_N_begunAs C) : Sp_O_order (ax_B ax_Ms ax_Xs C) := by
  intro f n t u b x hb
  refine ax_X.steps 4 (ax_go (h1 f n t u b x hb) ?_)
  exact ax_X.steps 1 ⟨Or.inl rfl, rfl, rfl⟩
def Sp_M_order (C : ax_O) : Prop := ∀ (f : Nat → Int32) (n kn : Nat) (t : Nat → Nat → Int32) (b : Nat) (x : Int32), b ≤ 96 → C no_M_order [.ref 0, .int x] (mH f n kn t b) (ax_is (some (.int (if hasB b x = true then t 23 x.toNatClampNeg else -1))) (mH f n kn t b))
theorem p_M_order {C : ax_O} (hW : Sp_M_in C) : Sp_M_order (ax_B ax_Ms ax_Xs C) := by
  intro f n kn t b x hb
  cases hx : hasB b x
  · rw [if_neg (by decide)]
    refine ax_X.steps 3 ⟨Or.inl rfl, ?_⟩
    refine ax_X.steps 7 (ax_go (hW _ _ _ _ false ((inB_has (by omega) x).trans hx)) ?_)
    refine ax_X.steps 1 (ax_brT (rfl) ?_)
    exact ax_X.steps 2 ⟨Or.inl rfl, rfl, rfl⟩
  · rw [if_pos rfl]
    obtain ⟨j, hj, e⟩ : ∃ j : Nat, j < b ∧ x = nI j := by
      rcases pk_ix x (n := b) (by omega) with q | q | q
      · rw [hasB_a q] at hx; cases hx
      · rw [hasB_b q] at hx; cases hx
      · exact q
    subst e
    rw [nI_clamp (by omega)]
    refine ax_X.steps 3 ⟨Or.inl rfl, ?_⟩
    refine ax_X.steps 7 (ax_go (hW _ _ _ _ true ((inB_has (by omega) (nI j)).trans hx)) ?_)
    refine ax_X.steps 1 (ax_brF (bI_n0) ?_)
    refine ax_X.steps 4 ⟨j, ⟨by omega, by omega⟩, rfl, ?_⟩
    exact ax_X.steps 2 ⟨Or.inl rfl, rfl, rfl⟩
def badB (st : Nat → Int32) (a : Nat) : Bool := decide (st a = 2) || decide (st a = 5)
theorem badB_2 {st : Nat → Int32} {a : Nat} (h : st a = 2) : badB st a = true := by unfold badB; rw [decide_eq_true h, Bool.true_or]
theorem badB_5 {st : Nat → Int32} {a : Nat} (h : st a = 5) : badB st a = true := by unfold badB; rw [decide_eq_true h, Bool.or_true]
theorem badB_n {st : Nat → Int32} {a : Nat} (h : ¬ st a = 2) (h2 : ¬ st a = 5) : badB st a = false := by unfold badB; rw [decide_eq_false h, decide_eq_false h2, Bool.or_false]
/-- the first bad one of k from a on -/
def fbI (st : Nat → Int32) : Nat → Nat → Int32
  | 0, _ => -1
  | k + 1, a => if badB st a = true then nI a else fbI st k (a + 1)
def anyB (p : Nat → Bool) : Nat → Bool
  | 0 => false
  | n + 1 => anyB p n || p n
theorem anyB_iff {p : Nat → Bool} {n : Nat} : anyB p n = true ↔ ∃ a, a < n ∧ p a = true := by
  induction n with
  | zero => exact ⟨fun h => (by cases h), fun ⟨a, h, _⟩ => absurd h (Nat.not_lt_zero a)⟩
  | succ n ih =>
    unfold anyB
    rw [Bool.or_eq_true, ih]
    constructor
    · rintro (⟨a, h1, h2⟩ | h)
      · exact ⟨a, by omega, h2⟩
      · exact ⟨n, by omega, h⟩
    · rintro ⟨a, h1, h2⟩
      by_cases e : a = n
      · subst e; exact Or.inr h2
      · exact Or.inl ⟨a, by omega, h2⟩
theorem fbI_any {st : Nat → Int32} : ∀ (k a : Nat), a + k ≤ 24 → (fbI st k a = -1 ↔ ∀ c, a ≤ c → c < a + k → badB st c = false)
  | 0, a, _ => ⟨fun _ c h1 h2 => absurd h2 (by omega), fun _ => rfl⟩
  | k + 1, a, h => by
    unfold fbI
    cases e : badB st a
    · rw [if_neg (by decide), fbI_any k (a + 1) (by omega)]
      constructor
      · intro q c h1 h2
        by_cases ec : c = a
        · subst ec; exact e
        · exact q c (by omega) (by omega)
      · intro q c h1 h2
        exact q c (by omega) (by omega)
    · rw [if_pos rfl]
      constructor
      · intro q
        have h3 : (nI a).toInt = (a : Int) := nI_toInt (by omega)
        rw [q, show (-1 : Int32).toInt = -1 by decide] at h3
        omega
      · intro q
        rw [q a (Nat.le_refl a) (by omega)] at e
        cases e
theorem fbI_spec {st : Nat → Int32} {n : Nat} (hn : n ≤ 24) : fbI st n 0 = -1 ↔ anyB (badB st) n = false := by
  rw [fbI_any n 0 (by omega)]
  constructor
  · intro h
    cases e : anyB (badB st) n
    · rfl
    · obtain ⟨a, h1, h2⟩ := anyB_iff.mp e
      rw [h a (by omega) (by omega)] at h2
      cases h2
  · intro h c _ hc
    cases e : badB st c
    · rfl
    · rw [anyB_iff.mpr ⟨c, by omega, e⟩] at h
      cases h
def Sp_N_firstBad (C : ax_O) : Prop := ∀ (f : Nat → Int32) (n : Nat) (t : Nat → Nat → Int32) (u : Int32) (b : Nat), n ≤ 24 → C no_N_firstBad [.ref 18] (oH f n t u b) (ax_is (some (.int (fbI (t 14) n 0))) (oH f n t u b))
theorem p_N_firstBad {C : ax_O} : Sp_N_firstBad (ax_B ax_Ms ax_Xs C) := by
  intro f n t u b hn
  have loop : ∀ (k a : Nat) (x r : Int32), x = nI a → a + k = n → fbI (t 14) k a = r → ax_X ax_Ms ax_Xs no_N_firstBad C (ax_is (some (.int r)) (oH f n t u b)) 2 [some (.ref 18), some (.int x)] [] (oH f n t u b) 0 0 := by
    intro k
    induction k with
    | zero =>
      intro a x r hx hk hr
      subst hx
      subst hr
      refine ax_X.steps 5 (ax_brT (nI_le (by omega) (by omega)) ?_)
      exact ax_X.steps 2 ⟨Or.inl rfl, rfl, rfl⟩
    | succ k ih =>
      intro a x r hx hk hr
      subst hx
      unfold fbI at hr
      refine ax_X.steps 5 (ax_brF (nI_ge (by omega) (by omega)) ?_)
      refine ax_X.steps 4 ⟨a, ⟨by omega, by omega⟩, rfl, ?_⟩
      refine ax_X.steps 2 (ax_br2 (fun c12 => ?_) (fun c12 => ?_))
      · exact ax_X.steps 2 ⟨Or.inl rfl, by rw [badB_2 c12, if_pos rfl] at hr; rw [hr], rfl⟩
      · refine ax_X.steps 4 ⟨a, ⟨by omega, by omega⟩, rfl, ?_⟩
        refine ax_X.steps 2 (ax_br2 (fun c18 => ?_) (fun c18 => ?_))
        · exact ax_X.steps 2 (ih (a + 1) _ _ (nI_1 a) (by omega) (by rw [badB_n c12 c18, if_neg (by decide)] at hr; exact hr))
        · exact ax_X.steps 2 ⟨Or.inl rfl, by rw [badB_5 (nn c18), if_pos rfl] at hr; rw [hr], rfl⟩
  exact ax_X.steps 2 (loop n 0 0 _ rfl (by omega) rfl)
def Sp_O_first (C : ax_O) : Prop := ∀ (f : Nat → Int32) (n : Nat) (t : Nat → Nat → Int32) (u : Int32) (b : Nat), n ≤ 24 → C no_O_first [.ref 0] (oH f n t u b) (ax_is (some (.int (fbI (t 14) n 0))) (oH f n t u b))
theorem p_O_first {C : ax_O} (h1 : Sp_N_firstBad C) : Sp_O_first (ax_B ax_Ms ax_Xs C) := by
  intro f n t u b hn
  refine ax_X.steps 3 (ax_go (h1 f n t u b hn) ?_)
  exact ax_X.steps 1 ⟨Or.inl rfl, rfl, rfl⟩
def Sp_N_isOneBad (C : ax_O) : Prop := ∀ (f : Nat → Int32) (n : Nat) (t : Nat → Nat → Int32) (u : Int32) (b : Nat), n ≤ 24 → C no_N_isOneBad [.ref 18] (oH f n t u b) (ax_is (some (.int (bI (anyB (badB (t 14)) n)))) (oH f n t u b))
theorem p_N_isOneBad {C : ax_O} (h1 : Sp_N_firstBad C) : Sp_N_isOneBad (ax_B ax_Ms ax_Xs C) := by
  intro f n t u b hn
  cases hc : anyB (badB (t 14)) n
  · refine ax_X.steps 2 (ax_go (h1 f n t u b hn) ?_)
    refine ax_X.steps 2 (ax_brT ((fbI_spec hn).mpr hc) ?_)
    exact ax_X.steps 2 ⟨Or.inr (Or.inl rfl), rfl, rfl⟩
  · refine ax_X.steps 2 (ax_go (h1 f n t u b hn) ?_)
    refine ax_X.steps 2 (ax_brF (fun q => by rw [(fbI_spec hn).mp q] at hc; cases hc) ?_)
    exact ax_X.steps 3 ⟨Or.inr (Or.inr rfl), rfl, rfl⟩
def Sp_M_first (C : ax_O) : Prop := ∀ (f : Nat → Int32) (n kn : Nat) (t : Nat → Nat → Int32) (b : Nat), kn ≤ 24 → C no_M_first [.ref 0] (mH f n kn t b) (ax_is (some (.int (if f 6 = 0 then -1 else fbI (t 14) kn 0))) (mH f n kn t b))
theorem p_M_first {C : ax_O} : Sp_M_first (ax_B ax_Ms ax_Xs C) := by
  intro f n kn t b hn
  have loop : ∀ (k a : Nat) (x r : Int32), x = nI a → a + k = kn → (if f 6 = 0 then -1 else fbI (t 14) k a) = r → ax_X ax_Ms ax_Xs no_M_first C (ax_is (some (.int r)) (mH f n kn t b)) 5 [some (.ref 0), some (.int x)] [] (mH f n kn t b) 0 0 := by
    intro k
    induction k with
    | zero =>
      intro a x r hx hk hr
      subst hx
      unfold fbI at hr
      rw [ite_self] at hr
      subst hr
      refine ax_X.steps 4 (ax_brT (nI_le (by omega) (by omega)) ?_)
      exact ax_X.steps 2 ⟨Or.inl rfl, rfl, rfl⟩
    | succ k ih =>
      intro a x r hx hk hr
      subst hx
      unfold fbI at hr
      refine ax_X.steps 4 (ax_brF (nI_ge (by omega) (by omega)) ?_)
      refine ax_X.steps 3 (ax_br2 (fun c11 => ?_) (fun c11 => ?_))
      · exact ax_X.steps 2 ⟨Or.inl rfl, by rw [if_pos (show f 6 = 0 from c11)] at hr; rw [hr], rfl⟩
      · refine ax_X.steps 4 ⟨a, ⟨by omega, by omega⟩, rfl, ?_⟩
        refine ax_X.steps 2 (ax_br2 (fun c17 => ?_) (fun c17 => ?_))
        · exact ax_X.steps 2 ⟨Or.inl rfl, by rw [if_neg (show ¬ f 6 = 0 from c11), badB_2 c17, if_pos rfl] at hr; rw [hr], rfl⟩
        · refine ax_X.steps 4 ⟨a, ⟨by omega, by omega⟩, rfl, ?_⟩
          refine ax_X.steps 2 (ax_br2 (fun c23 => ?_) (fun c23 => ?_))
          · exact ax_X.steps 2 (ih (a + 1) _ _ (nI_1 a) (by omega) (by rw [badB_n c17 c23, if_neg (show ¬ false = true by decide)] at hr; exact hr))
          · exact ax_X.steps 2 ⟨Or.inl rfl, by rw [if_neg (show ¬ f 6 = 0 from c11), badB_5 (nn c23), if_pos rfl] at hr; rw [hr], rfl⟩
  refine ax_X.steps 3 ⟨Or.inl rfl, ?_⟩
  exact ax_X.steps 2 (loop kn 0 0 _ rfl (by omega) rfl)
def Sp_M_isSpoilt (C : ax_O) : Prop := ∀ (f : Nat → Int32) (n kn : Nat) (t : Nat → Nat → Int32) (b : Nat), n ≤ 24 → C no_M_isSpoilt [.ref 0] (mH f n kn t b) (ax_is (some (.int (bI (anyB (badB (t 14)) n)))) (mH f n kn t b))
theorem p_M_isSpoilt {C : ax_O} : Sp_M_isSpoilt (ax_B ax_Ms ax_Xs C) := by
  intro f n kn t b hn
  have loop : ∀ (k a : Nat) (x v : Int32), x = nI a → v = bI (anyB (badB (t 14)) a) → a + k = n → ax_X ax_Ms ax_Xs no_M_isSpoilt C (ax_is (some (.int (bI (anyB (badB (t 14)) n)))) (mH f n kn t b)) 4 [some (.ref 0), some (.int v), some (.int x)] [] (mH f n kn t b) 0 0 := by
    intro k
    induction k with
    | zero =>
      intro a x v hx hv hk
      subst hx
      have hk : a = n := hk
      subst hk
      subst hv
      refine ax_X.steps 4 (ax_brT (nI_le (by omega) (by omega)) ?_)
      exact ax_X.steps 2 ⟨Or.inr (bI_01 _), rfl, rfl⟩
    | succ k ih =>
      intro a x v hx hv hk
      subst hx
      subst hv
      refine ax_X.steps 4 (ax_brF (nI_ge (by omega) (by omega)) ?_)
      refine ax_X.steps 2 (ax_br2 (fun c9 => ?_) (fun c9 => ?_))
      · exact ax_X.steps 5 (ih (a + 1) _ _ (nI_1 a) (by first | (unfold anyB; rw [badB_2 c15, Bool.or_true]; rfl) | (unfold anyB; rw [badB_5 (nn c21), Bool.or_true]; rfl) | (unfold anyB; rw [badB_n c15 c21, bI_0.mp (nn c9)]; rfl) | (unfold anyB; rw [show anyB (badB (t 14)) a = true from by cases e : anyB (badB (t 14)) a with | false => exact absurd (congrArg bI e) c9 | true => rfl]; rfl)) (by omega))
      · refine ax_X.steps 4 ⟨a, ⟨by omega, by omega⟩, rfl, ?_⟩
        refine ax_X.steps 2 (ax_br2 (fun c15 => ?_) (fun c15 => ?_))
        · exact ax_X.steps 5 (ih (a + 1) _ _ (nI_1 a) (by first | (unfold anyB; rw [badB_2 c15, Bool.or_true]; rfl) | (unfold anyB; rw [badB_5 (nn c21), Bool.or_true]; rfl) | (unfold anyB; rw [badB_n c15 c21, bI_0.mp (nn c9)]; rfl) | (unfold anyB; rw [show anyB (badB (t 14)) a = true from by cases e : anyB (badB (t 14)) a with | false => exact absurd (congrArg bI e) c9 | true => rfl]; rfl)) (by omega))
        · refine ax_X.steps 4 ⟨a, ⟨by omega, by omega⟩, rfl, ?_⟩
          refine ax_X.steps 2 (ax_br2 (fun c21 => ?_) (fun c21 => ?_))
          · exact ax_X.steps 4 (ih (a + 1) _ _ (nI_1 a) (by first | (unfold anyB; rw [badB_2 c15, Bool.or_true]; rfl) | (unfold anyB; rw [badB_5 (nn c21), Bool.or_true]; rfl) | (unfold anyB; rw [badB_n c15 c21, bI_0.mp (nn c9)]; rfl) | (unfold anyB; rw [show anyB (badB (t 14)) a = true from by cases e : anyB (badB (t 14)) a with | false => exact absurd (congrArg bI e) c9 | true => rfl]; rfl)) (by omega))
          · exact ax_X.steps 5 (ih (a + 1) _ _ (nI_1 a) (by first | (unfold anyB; rw [badB_2 c15, Bool.or_true]; rfl) | (unfold anyB; rw [badB_5 (nn c21), Bool.or_true]; rfl) | (unfold anyB; rw [badB_n c15 c21, bI_0.mp (nn c9)]; rfl) | (unfold anyB; rw [show anyB (badB (t 14)) a = true from by cases e : anyB (badB (t 14)) a with | false => exact absurd (congrArg bI e) c9 | true => rfl]; rfl)) (by omega))
  exact ax_X.steps 4 (loop n 0 0 0 rfl rfl (by omega))
end
section
/-! Both: made new. -/
def f0 (x y : Int32) : Nat → Int32 := fun k => match k with
  | 0 => x
  | 1 => y
  | _ => 0
set_option maxRecDepth 100000 in
set_option maxHeartbeats 4000000 in
theorem p_H_init {C : ax_O} (x y : Int32) : ax_B ax_Ms ax_Xs C no_H_init [.ref 1, .int x, .int y] [.inr (0, [.null, .null, .null, .null]), .inr (1, [.int 0, .int 0, .int 0, .int 0, .int 0, .int 0, .int 0, .int 0, .int 0])] (ax_is none [.inr (0, [.null, .null, .null, .null]), .inr (1, [.int x, .int y, .int 0, .int 0, .int 0, .int 0, .int 0, .int 0, .int 0])]) := by
  refine ax_X.steps 5 ⟨Or.inl rfl, (?_ : ax_X ax_Ms ax_Xs no_H_init C _ 5 [some (.ref 1), some (.int x), some (.int y)] [] [.inr (0, [.null, .null, .null, .null]), .inr (1, [.int x, .int 0, .int 0, .int 0, .int 0, .int 0, .int 0, .int 0, .int 0])] 0 0)⟩
  refine ax_X.steps 3 ⟨Or.inl rfl, (?_ : ax_X ax_Ms ax_Xs no_H_init C _ 8 [some (.ref 1), some (.int x), some (.int y)] [] [.inr (0, [.null, .null, .null, .null]), .inr (1, [.int x, .int y, .int 0, .int 0, .int 0, .int 0, .int 0, .int 0, .int 0])] 0 0)⟩
  exact ax_X.steps 1 ⟨rfl, rfl⟩
set_option maxRecDepth 100000 in
set_option maxHeartbeats 4000000 in
theorem p_A_init {C : ax_O} (x y : Int32) : ax_B ax_Ms ax_Xs C no_A_init [.ref 2] [.inr (0, [.ref 1, .null, .null, .null]), .inr (1, [.int x, .int y, .int 0, .int 0, .int 0, .int 0, .int 0, .int 0, .int 0]), .inr (2, [.int 0, .null, .null, .null, .null, .null, .null, .null, .null, .null, .null, .null, .null])] (ax_is none [.inr (0, [.ref 1, .null, .null, .null]), .inr (1, [.int x, .int y, .int 0, .int 0, .int 0, .int 0, .int 0, .int 0, .int 0]), .inr (2, [.int 0, .ref 3, .ref 4, .ref 5, .ref 6, .ref 7, .ref 8, .ref 9, .ref 10, .ref 11, .ref 12, .ref 13, .ref 14]), .inl (false, 24, fun _ => 0), .inl (false, 24, fun _ => 0), .inl (false, 24, fun _ => 0), .inl (false, 24, fun _ => 0), .inl (false, 24, fun _ => 0), .inl (false, 24, fun _ => 0), .inl (false, 24, fun _ => 0), .inl (true, 24, fun _ => 0), .inl (true, 24, fun _ => 0), .inl (false, 24, fun _ => 0), .inl (false, 24, fun _ => 0), .inl (false, 24, fun _ => 0)]) := by
  refine ax_X.steps 5 ⟨24, ⟨rfl, by decide⟩, (?_ : ax_X ax_Ms ax_Xs no_A_init C _ 5 [some (.ref 2)] [.ref 3, .ref 2] [.inr (0, [.ref 1, .null, .null, .null]), .inr (1, [.int x, .int y, .int 0, .int 0, .int 0, .int 0, .int 0, .int 0, .int 0]), .inr (2, [.int 0, .null, .null, .null, .null, .null, .null, .null, .null, .null, .null, .null, .null]), .inl (false, 24, fun _ => 0)] 1 24)⟩
  refine ax_X.steps 1 ⟨rfl, (?_ : ax_X ax_Ms ax_Xs no_A_init C _ 6 [some (.ref 2)] [] [.inr (0, [.ref 1, .null, .null, .null]), .inr (1, [.int x, .int y, .int 0, .int 0, .int 0, .int 0, .int 0, .int 0, .int 0]), .inr (2, [.int 0, .ref 3, .null, .null, .null, .null, .null, .null, .null, .null, .null, .null, .null]), .inl (false, 24, fun _ => 0)] 1 24)⟩
  refine ax_X.steps 3 ⟨24, ⟨rfl, by decide⟩, (?_ : ax_X ax_Ms ax_Xs no_A_init C _ 9 [some (.ref 2)] [.ref 4, .ref 2] [.inr (0, [.ref 1, .null, .null, .null]), .inr (1, [.int x, .int y, .int 0, .int 0, .int 0, .int 0, .int 0, .int 0, .int 0]), .inr (2, [.int 0, .ref 3, .null, .null, .null, .null, .null, .null, .null, .null, .null, .null, .null]), .inl (false, 24, fun _ => 0), .inl (false, 24, fun _ => 0)] 2 48)⟩
  refine ax_X.steps 1 ⟨rfl, (?_ : ax_X ax_Ms ax_Xs no_A_init C _ 10 [some (.ref 2)] [] [.inr (0, [.ref 1, .null, .null, .null]), .inr (1, [.int x, .int y, .int 0, .int 0, .int 0, .int 0, .int 0, .int 0, .int 0]), .inr (2, [.int 0, .ref 3, .ref 4, .null, .null, .null, .null, .null, .null, .null, .null, .null, .null]), .inl (false, 24, fun _ => 0), .inl (false, 24, fun _ => 0)] 2 48)⟩
  refine ax_X.steps 3 ⟨24, ⟨rfl, by decide⟩, (?_ : ax_X ax_Ms ax_Xs no_A_init C _ 13 [some (.ref 2)] [.ref 5, .ref 2] [.inr (0, [.ref 1, .null, .null, .null]), .inr (1, [.int x, .int y, .int 0, .int 0, .int 0, .int 0, .int 0, .int 0, .int 0]), .inr (2, [.int 0, .ref 3, .ref 4, .null, .null, .null, .null, .null, .null, .null, .null, .null, .null]), .inl (false, 24, fun _ => 0), .inl (false, 24, fun _ => 0), .inl (false, 24, fun _ => 0)] 3 72)⟩
  refine ax_X.steps 1 ⟨rfl, (?_ : ax_X ax_Ms ax_Xs no_A_init C _ 14 [some (.ref 2)] [] [.inr (0, [.ref 1, .null, .null, .null]), .inr (1, [.int x, .int y, .int 0, .int 0, .int 0, .int 0, .int 0, .int 0, .int 0]), .inr (2, [.int 0, .ref 3, .ref 4, .ref 5, .null, .null, .null, .null, .null, .null, .null, .null, .null]), .inl (false, 24, fun _ => 0), .inl (false, 24, fun _ => 0), .inl (false, 24, fun _ => 0)] 3 72)⟩
  refine ax_X.steps 3 ⟨24, ⟨rfl, by decide⟩, (?_ : ax_X ax_Ms ax_Xs no_A_init C _ 17 [some (.ref 2)] [.ref 6, .ref 2] [.inr (0, [.ref 1, .null, .null, .null]), .inr (1, [.int x, .int y, .int 0, .int 0, .int 0, .int 0, .int 0, .int 0, .int 0]), .inr (2, [.int 0, .ref 3, .ref 4, .ref 5, .null, .null, .null, .null, .null, .null, .null, .null, .null]), .inl (false, 24, fun _ => 0), .inl (false, 24, fun _ => 0), .inl (false, 24, fun _ => 0), .inl (false, 24, fun _ => 0)] 4 96)⟩
  refine ax_X.steps 1 ⟨rfl, (?_ : ax_X ax_Ms ax_Xs no_A_init C _ 18 [some (.ref 2)] [] [.inr (0, [.ref 1, .null, .null, .null]), .inr (1, [.int x, .int y, .int 0, .int 0, .int 0, .int 0, .int 0, .int 0, .int 0]), .inr (2, [.int 0, .ref 3, .ref 4, .ref 5, .ref 6, .null, .null, .null, .null, .null, .null, .null, .null]), .inl (false, 24, fun _ => 0), .inl (false, 24, fun _ => 0), .inl (false, 24, fun _ => 0), .inl (false, 24, fun _ => 0)] 4 96)⟩
  refine ax_X.steps 3 ⟨24, ⟨rfl, by decide⟩, (?_ : ax_X ax_Ms ax_Xs no_A_init C _ 21 [some (.ref 2)] [.ref 7, .ref 2] [.inr (0, [.ref 1, .null, .null, .null]), .inr (1, [.int x, .int y, .int 0, .int 0, .int 0, .int 0, .int 0, .int 0, .int 0]), .inr (2, [.int 0, .ref 3, .ref 4, .ref 5, .ref 6, .null, .null, .null, .null, .null, .null, .null, .null]), .inl (false, 24, fun _ => 0), .inl (false, 24, fun _ => 0), .inl (false, 24, fun _ => 0), .inl (false, 24, fun _ => 0), .inl (false, 24, fun _ => 0)] 5 120)⟩
  refine ax_X.steps 1 ⟨rfl, (?_ : ax_X ax_Ms ax_Xs no_A_init C _ 22 [some (.ref 2)] [] [.inr (0, [.ref 1, .null, .null, .null]), .inr (1, [.int x, .int y, .int 0, .int 0, .int 0, .int 0, .int 0, .int 0, .int 0]), .inr (2, [.int 0, .ref 3, .ref 4, .ref 5, .ref 6, .ref 7, .null, .null, .null, .null, .null, .null, .null]), .inl (false, 24, fun _ => 0), .inl (false, 24, fun _ => 0), .inl (false, 24, fun _ => 0), .inl (false, 24, fun _ => 0), .inl (false, 24, fun _ => 0)] 5 120)⟩
  refine ax_X.steps 3 ⟨24, ⟨rfl, by decide⟩, (?_ : ax_X ax_Ms ax_Xs no_A_init C _ 25 [some (.ref 2)] [.ref 8, .ref 2] [.inr (0, [.ref 1, .null, .null, .null]), .inr (1, [.int x, .int y, .int 0, .int 0, .int 0, .int 0, .int 0, .int 0, .int 0]), .inr (2, [.int 0, .ref 3, .ref 4, .ref 5, .ref 6, .ref 7, .null, .null, .null, .null, .null, .null, .null]), .inl (false, 24, fun _ => 0), .inl (false, 24, fun _ => 0), .inl (false, 24, fun _ => 0), .inl (false, 24, fun _ => 0), .inl (false, 24, fun _ => 0), .inl (false, 24, fun _ => 0)] 6 144)⟩
  refine ax_X.steps 1 ⟨rfl, (?_ : ax_X ax_Ms ax_Xs no_A_init C _ 26 [some (.ref 2)] [] [.inr (0, [.ref 1, .null, .null, .null]), .inr (1, [.int x, .int y, .int 0, .int 0, .int 0, .int 0, .int 0, .int 0, .int 0]), .inr (2, [.int 0, .ref 3, .ref 4, .ref 5, .ref 6, .ref 7, .ref 8, .null, .null, .null, .null, .null, .null]), .inl (false, 24, fun _ => 0), .inl (false, 24, fun _ => 0), .inl (false, 24, fun _ => 0), .inl (false, 24, fun _ => 0), .inl (false, 24, fun _ => 0), .inl (false, 24, fun _ => 0)] 6 144)⟩
  refine ax_X.steps 3 ⟨24, ⟨rfl, by decide⟩, (?_ : ax_X ax_Ms ax_Xs no_A_init C _ 29 [some (.ref 2)] [.ref 9, .ref 2] [.inr (0, [.ref 1, .null, .null, .null]), .inr (1, [.int x, .int y, .int 0, .int 0, .int 0, .int 0, .int 0, .int 0, .int 0]), .inr (2, [.int 0, .ref 3, .ref 4, .ref 5, .ref 6, .ref 7, .ref 8, .null, .null, .null, .null, .null, .null]), .inl (false, 24, fun _ => 0), .inl (false, 24, fun _ => 0), .inl (false, 24, fun _ => 0), .inl (false, 24, fun _ => 0), .inl (false, 24, fun _ => 0), .inl (false, 24, fun _ => 0), .inl (false, 24, fun _ => 0)] 7 168)⟩
  refine ax_X.steps 1 ⟨rfl, (?_ : ax_X ax_Ms ax_Xs no_A_init C _ 30 [some (.ref 2)] [] [.inr (0, [.ref 1, .null, .null, .null]), .inr (1, [.int x, .int y, .int 0, .int 0, .int 0, .int 0, .int 0, .int 0, .int 0]), .inr (2, [.int 0, .ref 3, .ref 4, .ref 5, .ref 6, .ref 7, .ref 8, .ref 9, .null, .null, .null, .null, .null]), .inl (false, 24, fun _ => 0), .inl (false, 24, fun _ => 0), .inl (false, 24, fun _ => 0), .inl (false, 24, fun _ => 0), .inl (false, 24, fun _ => 0), .inl (false, 24, fun _ => 0), .inl (false, 24, fun _ => 0)] 7 168)⟩
  refine ax_X.steps 3 ⟨24, ⟨rfl, by decide⟩, (?_ : ax_X ax_Ms ax_Xs no_A_init C _ 33 [some (.ref 2)] [.ref 10, .ref 2] [.inr (0, [.ref 1, .null, .null, .null]), .inr (1, [.int x, .int y, .int 0, .int 0, .int 0, .int 0, .int 0, .int 0, .int 0]), .inr (2, [.int 0, .ref 3, .ref 4, .ref 5, .ref 6, .ref 7, .ref 8, .ref 9, .null, .null, .null, .null, .null]), .inl (false, 24, fun _ => 0), .inl (false, 24, fun _ => 0), .inl (false, 24, fun _ => 0), .inl (false, 24, fun _ => 0), .inl (false, 24, fun _ => 0), .inl (false, 24, fun _ => 0), .inl (false, 24, fun _ => 0), .inl (true, 24, fun _ => 0)] 8 192)⟩
  refine ax_X.steps 1 ⟨rfl, (?_ : ax_X ax_Ms ax_Xs no_A_init C _ 34 [some (.ref 2)] [] [.inr (0, [.ref 1, .null, .null, .null]), .inr (1, [.int x, .int y, .int 0, .int 0, .int 0, .int 0, .int 0, .int 0, .int 0]), .inr (2, [.int 0, .ref 3, .ref 4, .ref 5, .ref 6, .ref 7, .ref 8, .ref 9, .ref 10, .null, .null, .null, .null]), .inl (false, 24, fun _ => 0), .inl (false, 24, fun _ => 0), .inl (false, 24, fun _ => 0), .inl (false, 24, fun _ => 0), .inl (false, 24, fun _ => 0), .inl (false, 24, fun _ => 0), .inl (false, 24, fun _ => 0), .inl (true, 24, fun _ => 0)] 8 192)⟩
  refine ax_X.steps 3 ⟨24, ⟨rfl, by decide⟩, (?_ : ax_X ax_Ms ax_Xs no_A_init C _ 37 [some (.ref 2)] [.ref 11, .ref 2] [.inr (0, [.ref 1, .null, .null, .null]), .inr (1, [.int x, .int y, .int 0, .int 0, .int 0, .int 0, .int 0, .int 0, .int 0]), .inr (2, [.int 0, .ref 3, .ref 4, .ref 5, .ref 6, .ref 7, .ref 8, .ref 9, .ref 10, .null, .null, .null, .null]), .inl (false, 24, fun _ => 0), .inl (false, 24, fun _ => 0), .inl (false, 24, fun _ => 0), .inl (false, 24, fun _ => 0), .inl (false, 24, fun _ => 0), .inl (false, 24, fun _ => 0), .inl (false, 24, fun _ => 0), .inl (true, 24, fun _ => 0), .inl (true, 24, fun _ => 0)] 9 216)⟩
  refine ax_X.steps 1 ⟨rfl, (?_ : ax_X ax_Ms ax_Xs no_A_init C _ 38 [some (.ref 2)] [] [.inr (0, [.ref 1, .null, .null, .null]), .inr (1, [.int x, .int y, .int 0, .int 0, .int 0, .int 0, .int 0, .int 0, .int 0]), .inr (2, [.int 0, .ref 3, .ref 4, .ref 5, .ref 6, .ref 7, .ref 8, .ref 9, .ref 10, .ref 11, .null, .null, .null]), .inl (false, 24, fun _ => 0), .inl (false, 24, fun _ => 0), .inl (false, 24, fun _ => 0), .inl (false, 24, fun _ => 0), .inl (false, 24, fun _ => 0), .inl (false, 24, fun _ => 0), .inl (false, 24, fun _ => 0), .inl (true, 24, fun _ => 0), .inl (true, 24, fun _ => 0)] 9 216)⟩
  refine ax_X.steps 3 ⟨24, ⟨rfl, by decide⟩, (?_ : ax_X ax_Ms ax_Xs no_A_init C _ 41 [some (.ref 2)] [.ref 12, .ref 2] [.inr (0, [.ref 1, .null, .null, .null]), .inr (1, [.int x, .int y, .int 0, .int 0, .int 0, .int 0, .int 0, .int 0, .int 0]), .inr (2, [.int 0, .ref 3, .ref 4, .ref 5, .ref 6, .ref 7, .ref 8, .ref 9, .ref 10, .ref 11, .null, .null, .null]), .inl (false, 24, fun _ => 0), .inl (false, 24, fun _ => 0), .inl (false, 24, fun _ => 0), .inl (false, 24, fun _ => 0), .inl (false, 24, fun _ => 0), .inl (false, 24, fun _ => 0), .inl (false, 24, fun _ => 0), .inl (true, 24, fun _ => 0), .inl (true, 24, fun _ => 0), .inl (false, 24, fun _ => 0)] 10 240)⟩
  refine ax_X.steps 1 ⟨rfl, (?_ : ax_X ax_Ms ax_Xs no_A_init C _ 42 [some (.ref 2)] [] [.inr (0, [.ref 1, .null, .null, .null]), .inr (1, [.int x, .int y, .int 0, .int 0, .int 0, .int 0, .int 0, .int 0, .int 0]), .inr (2, [.int 0, .ref 3, .ref 4, .ref 5, .ref 6, .ref 7, .ref 8, .ref 9, .ref 10, .ref 11, .ref 12, .null, .null]), .inl (false, 24, fun _ => 0), .inl (false, 24, fun _ => 0), .inl (false, 24, fun _ => 0), .inl (false, 24, fun _ => 0), .inl (false, 24, fun _ => 0), .inl (false, 24, fun _ => 0), .inl (false, 24, fun _ => 0), .inl (true, 24, fun _ => 0), .inl (true, 24, fun _ => 0), .inl (false, 24, fun _ => 0)] 10 240)⟩
  refine ax_X.steps 3 ⟨24, ⟨rfl, by decide⟩, (?_ : ax_X ax_Ms ax_Xs no_A_init C _ 45 [some (.ref 2)] [.ref 13, .ref 2] [.inr (0, [.ref 1, .null, .null, .null]), .inr (1, [.int x, .int y, .int 0, .int 0, .int 0, .int 0, .int 0, .int 0, .int 0]), .inr (2, [.int 0, .ref 3, .ref 4, .ref 5, .ref 6, .ref 7, .ref 8, .ref 9, .ref 10, .ref 11, .ref 12, .null, .null]), .inl (false, 24, fun _ => 0), .inl (false, 24, fun _ => 0), .inl (false, 24, fun _ => 0), .inl (false, 24, fun _ => 0), .inl (false, 24, fun _ => 0), .inl (false, 24, fun _ => 0), .inl (false, 24, fun _ => 0), .inl (true, 24, fun _ => 0), .inl (true, 24, fun _ => 0), .inl (false, 24, fun _ => 0), .inl (false, 24, fun _ => 0)] 11 264)⟩
  refine ax_X.steps 1 ⟨rfl, (?_ : ax_X ax_Ms ax_Xs no_A_init C _ 46 [some (.ref 2)] [] [.inr (0, [.ref 1, .null, .null, .null]), .inr (1, [.int x, .int y, .int 0, .int 0, .int 0, .int 0, .int 0, .int 0, .int 0]), .inr (2, [.int 0, .ref 3, .ref 4, .ref 5, .ref 6, .ref 7, .ref 8, .ref 9, .ref 10, .ref 11, .ref 12, .ref 13, .null]), .inl (false, 24, fun _ => 0), .inl (false, 24, fun _ => 0), .inl (false, 24, fun _ => 0), .inl (false, 24, fun _ => 0), .inl (false, 24, fun _ => 0), .inl (false, 24, fun _ => 0), .inl (false, 24, fun _ => 0), .inl (true, 24, fun _ => 0), .inl (true, 24, fun _ => 0), .inl (false, 24, fun _ => 0), .inl (false, 24, fun _ => 0)] 11 264)⟩
  refine ax_X.steps 3 ⟨24, ⟨rfl, by decide⟩, (?_ : ax_X ax_Ms ax_Xs no_A_init C _ 49 [some (.ref 2)] [.ref 14, .ref 2] [.inr (0, [.ref 1, .null, .null, .null]), .inr (1, [.int x, .int y, .int 0, .int 0, .int 0, .int 0, .int 0, .int 0, .int 0]), .inr (2, [.int 0, .ref 3, .ref 4, .ref 5, .ref 6, .ref 7, .ref 8, .ref 9, .ref 10, .ref 11, .ref 12, .ref 13, .null]), .inl (false, 24, fun _ => 0), .inl (false, 24, fun _ => 0), .inl (false, 24, fun _ => 0), .inl (false, 24, fun _ => 0), .inl (false, 24, fun _ => 0), .inl (false, 24, fun _ => 0), .inl (false, 24, fun _ => 0), .inl (true, 24, fun _ => 0), .inl (true, 24, fun _ => 0), .inl (false, 24, fun _ => 0), .inl (false, 24, fun _ => 0), .inl (false, 24, fun _ => 0)] 12 288)⟩
  refine ax_X.steps 1 ⟨rfl, (?_ : ax_X ax_Ms ax_Xs no_A_init C _ 50 [some (.ref 2)] [] [.inr (0, [.ref 1, .null, .null, .null]), .inr (1, [.int x, .int y, .int 0, .int 0, .int 0, .int 0, .int 0, .int 0, .int 0]), .inr (2, [.int 0, .ref 3, .ref 4, .ref 5, .ref 6, .ref 7, .ref 8, .ref 9, .ref 10, .ref 11, .ref 12, .ref 13, .ref 14]), .inl (false, 24, fun _ => 0), .inl (false, 24, fun _ => 0), .inl (false, 24, fun _ => 0), .inl (false, 24, fun _ => 0), .inl (false, 24, fun _ => 0), .inl (false, 24, fun _ => 0), .inl (false, 24, fun _ => 0), .inl (true, 24, fun _ => 0), .inl (true, 24, fun _ => 0), .inl (false, 24, fun _ => 0), .inl (false, 24, fun _ => 0), .inl (false, 24, fun _ => 0)] 12 288)⟩
  exact ax_X.steps 1 ⟨rfl, rfl⟩
set_option maxRecDepth 100000 in
set_option maxHeartbeats 4000000 in
theorem p_U_init {C : ax_O} (x y : Int32) : ax_B ax_Ms ax_Xs C no_U_init [.ref 15] [.inr (0, [.ref 1, .ref 2, .null, .null]), .inr (1, [.int x, .int y, .int 0, .int 0, .int 0, .int 0, .int 0, .int 0, .int 0]), .inr (2, [.int 0, .ref 3, .ref 4, .ref 5, .ref 6, .ref 7, .ref 8, .ref 9, .ref 10, .ref 11, .ref 12, .ref 13, .ref 14]), .inl (false, 24, fun _ => 0), .inl (false, 24, fun _ => 0), .inl (false, 24, fun _ => 0), .inl (false, 24, fun _ => 0), .inl (false, 24, fun _ => 0), .inl (false, 24, fun _ => 0), .inl (false, 24, fun _ => 0), .inl (true, 24, fun _ => 0), .inl (true, 24, fun _ => 0), .inl (false, 24, fun _ => 0), .inl (false, 24, fun _ => 0), .inl (false, 24, fun _ => 0), .inr (3, [.null, .null])] (ax_is none [.inr (0, [.ref 1, .ref 2, .null, .null]), .inr (1, [.int x, .int y, .int 0, .int 0, .int 0, .int 0, .int 0, .int 0, .int 0]), .inr (2, [.int 0, .ref 3, .ref 4, .ref 5, .ref 6, .ref 7, .ref 8, .ref 9, .ref 10, .ref 11, .ref 12, .ref 13, .ref 14]), .inl (false, 24, fun _ => 0), .inl (false, 24, fun _ => 0), .inl (false, 24, fun _ => 0), .inl (false, 24, fun _ => 0), .inl (false, 24, fun _ => 0), .inl (false, 24, fun _ => 0), .inl (false, 24, fun _ => 0), .inl (true, 24, fun _ => 0), .inl (true, 24, fun _ => 0), .inl (false, 24, fun _ => 0), .inl (false, 24, fun _ => 0), .inl (false, 24, fun _ => 0), .inr (3, [.ref 16, .ref 17]), .inl (true, 4, fun _ => 0), .inl (false, 4, fun _ => 0)]) := by
  refine ax_X.steps 5 ⟨4, ⟨rfl, by decide⟩, (?_ : ax_X ax_Ms ax_Xs no_U_init C _ 5 [some (.ref 15)] [.ref 16, .ref 15] [.inr (0, [.ref 1, .ref 2, .null, .null]), .inr (1, [.int x, .int y, .int 0, .int 0, .int 0, .int 0, .int 0, .int 0, .int 0]), .inr (2, [.int 0, .ref 3, .ref 4, .ref 5, .ref 6, .ref 7, .ref 8, .ref 9, .ref 10, .ref 11, .ref 12, .ref 13, .ref 14]), .inl (false, 24, fun _ => 0), .inl (false, 24, fun _ => 0), .inl (false, 24, fun _ => 0), .inl (false, 24, fun _ => 0), .inl (false, 24, fun _ => 0), .inl (false, 24, fun _ => 0), .inl (false, 24, fun _ => 0), .inl (true, 24, fun _ => 0), .inl (true, 24, fun _ => 0), .inl (false, 24, fun _ => 0), .inl (false, 24, fun _ => 0), .inl (false, 24, fun _ => 0), .inr (3, [.null, .null]), .inl (true, 4, fun _ => 0)] 1 4)⟩
  refine ax_X.steps 1 ⟨rfl, (?_ : ax_X ax_Ms ax_Xs no_U_init C _ 6 [some (.ref 15)] [] [.inr (0, [.ref 1, .ref 2, .null, .null]), .inr (1, [.int x, .int y, .int 0, .int 0, .int 0, .int 0, .int 0, .int 0, .int 0]), .inr (2, [.int 0, .ref 3, .ref 4, .ref 5, .ref 6, .ref 7, .ref 8, .ref 9, .ref 10, .ref 11, .ref 12, .ref 13, .ref 14]), .inl (false, 24, fun _ => 0), .inl (false, 24, fun _ => 0), .inl (false, 24, fun _ => 0), .inl (false, 24, fun _ => 0), .inl (false, 24, fun _ => 0), .inl (false, 24, fun _ => 0), .inl (false, 24, fun _ => 0), .inl (true, 24, fun _ => 0), .inl (true, 24, fun _ => 0), .inl (false, 24, fun _ => 0), .inl (false, 24, fun _ => 0), .inl (false, 24, fun _ => 0), .inr (3, [.ref 16, .null]), .inl (true, 4, fun _ => 0)] 1 4)⟩
  refine ax_X.steps 3 ⟨4, ⟨rfl, by decide⟩, (?_ : ax_X ax_Ms ax_Xs no_U_init C _ 9 [some (.ref 15)] [.ref 17, .ref 15] [.inr (0, [.ref 1, .ref 2, .null, .null]), .inr (1, [.int x, .int y, .int 0, .int 0, .int 0, .int 0, .int 0, .int 0, .int 0]), .inr (2, [.int 0, .ref 3, .ref 4, .ref 5, .ref 6, .ref 7, .ref 8, .ref 9, .ref 10, .ref 11, .ref 12, .ref 13, .ref 14]), .inl (false, 24, fun _ => 0), .inl (false, 24, fun _ => 0), .inl (false, 24, fun _ => 0), .inl (false, 24, fun _ => 0), .inl (false, 24, fun _ => 0), .inl (false, 24, fun _ => 0), .inl (false, 24, fun _ => 0), .inl (true, 24, fun _ => 0), .inl (true, 24, fun _ => 0), .inl (false, 24, fun _ => 0), .inl (false, 24, fun _ => 0), .inl (false, 24, fun _ => 0), .inr (3, [.ref 16, .null]), .inl (true, 4, fun _ => 0), .inl (false, 4, fun _ => 0)] 2 8)⟩
  refine ax_X.steps 1 ⟨rfl, (?_ : ax_X ax_Ms ax_Xs no_U_init C _ 10 [some (.ref 15)] [] [.inr (0, [.ref 1, .ref 2, .null, .null]), .inr (1, [.int x, .int y, .int 0, .int 0, .int 0, .int 0, .int 0, .int 0, .int 0]), .inr (2, [.int 0, .ref 3, .ref 4, .ref 5, .ref 6, .ref 7, .ref 8, .ref 9, .ref 10, .ref 11, .ref 12, .ref 13, .ref 14]), .inl (false, 24, fun _ => 0), .inl (false, 24, fun _ => 0), .inl (false, 24, fun _ => 0), .inl (false, 24, fun _ => 0), .inl (false, 24, fun _ => 0), .inl (false, 24, fun _ => 0), .inl (false, 24, fun _ => 0), .inl (true, 24, fun _ => 0), .inl (true, 24, fun _ => 0), .inl (false, 24, fun _ => 0), .inl (false, 24, fun _ => 0), .inl (false, 24, fun _ => 0), .inr (3, [.ref 16, .ref 17]), .inl (true, 4, fun _ => 0), .inl (false, 4, fun _ => 0)] 2 8)⟩
  exact ax_X.steps 1 ⟨rfl, rfl⟩
set_option maxRecDepth 100000 in
set_option maxHeartbeats 4000000 in
theorem p_N_init {C : ax_O} (x y : Int32) : ax_B ax_Ms ax_Xs C no_N_init [.ref 18, .ref 1, .ref 2, .ref 15] [.inr (0, [.ref 1, .ref 2, .ref 15, .null]), .inr (1, [.int x, .int y, .int 0, .int 0, .int 0, .int 0, .int 0, .int 0, .int 0]), .inr (2, [.int 0, .ref 3, .ref 4, .ref 5, .ref 6, .ref 7, .ref 8, .ref 9, .ref 10, .ref 11, .ref 12, .ref 13, .ref 14]), .inl (false, 24, fun _ => 0), .inl (false, 24, fun _ => 0), .inl (false, 24, fun _ => 0), .inl (false, 24, fun _ => 0), .inl (false, 24, fun _ => 0), .inl (false, 24, fun _ => 0), .inl (false, 24, fun _ => 0), .inl (true, 24, fun _ => 0), .inl (true, 24, fun _ => 0), .inl (false, 24, fun _ => 0), .inl (false, 24, fun _ => 0), .inl (false, 24, fun _ => 0), .inr (3, [.ref 16, .ref 17]), .inl (true, 4, fun _ => 0), .inl (false, 4, fun _ => 0), .inr (4, [.null, .null, .null, .int 0, .null, .null, .null, .null, .null, .null, .null, .null, .int 0])] (ax_is none [.inr (0, [.ref 1, .ref 2, .ref 15, .null]), .inr (1, [.int x, .int y, .int 0, .int 0, .int 0, .int 0, .int 0, .int 0, .int 0]), .inr (2, [.int 0, .ref 3, .ref 4, .ref 5, .ref 6, .ref 7, .ref 8, .ref 9, .ref 10, .ref 11, .ref 12, .ref 13, .ref 14]), .inl (false, 24, fun _ => 0), .inl (false, 24, fun _ => 0), .inl (false, 24, fun _ => 0), .inl (false, 24, fun _ => 0), .inl (false, 24, fun _ => 0), .inl (false, 24, fun _ => 0), .inl (false, 24, fun _ => 0), .inl (true, 24, fun _ => 0), .inl (true, 24, fun _ => 0), .inl (false, 24, fun _ => 0), .inl (false, 24, fun _ => 0), .inl (false, 24, fun _ => 0), .inr (3, [.ref 16, .ref 17]), .inl (true, 4, fun _ => 0), .inl (false, 4, fun _ => 0), .inr (4, [.ref 1, .ref 2, .ref 15, .int 0, .ref 19, .ref 20, .ref 21, .ref 22, .ref 23, .ref 24, .ref 25, .ref 26, .int 0]), .inl (false, 24, fun _ => 0), .inl (false, 24, fun _ => 0), .inl (false, 24, fun _ => 0), .inl (false, 24, fun _ => 0), .inl (false, 24, fun _ => 0), .inl (false, 24, fun _ => 0), .inl (false, 24, fun _ => 0), .inl (false, 96, fun _ => 0)]) := by
  refine ax_X.steps 5 ⟨24, ⟨rfl, by decide⟩, (?_ : ax_X ax_Ms ax_Xs no_N_init C _ 5 [some (.ref 18), some (.ref 1), some (.ref 2), some (.ref 15)] [.ref 19, .ref 18] [.inr (0, [.ref 1, .ref 2, .ref 15, .null]), .inr (1, [.int x, .int y, .int 0, .int 0, .int 0, .int 0, .int 0, .int 0, .int 0]), .inr (2, [.int 0, .ref 3, .ref 4, .ref 5, .ref 6, .ref 7, .ref 8, .ref 9, .ref 10, .ref 11, .ref 12, .ref 13, .ref 14]), .inl (false, 24, fun _ => 0), .inl (false, 24, fun _ => 0), .inl (false, 24, fun _ => 0), .inl (false, 24, fun _ => 0), .inl (false, 24, fun _ => 0), .inl (false, 24, fun _ => 0), .inl (false, 24, fun _ => 0), .inl (true, 24, fun _ => 0), .inl (true, 24, fun _ => 0), .inl (false, 24, fun _ => 0), .inl (false, 24, fun _ => 0), .inl (false, 24, fun _ => 0), .inr (3, [.ref 16, .ref 17]), .inl (true, 4, fun _ => 0), .inl (false, 4, fun _ => 0), .inr (4, [.null, .null, .null, .int 0, .null, .null, .null, .null, .null, .null, .null, .null, .int 0]), .inl (false, 24, fun _ => 0)] 1 24)⟩
  refine ax_X.steps 1 ⟨rfl, (?_ : ax_X ax_Ms ax_Xs no_N_init C _ 6 [some (.ref 18), some (.ref 1), some (.ref 2), some (.ref 15)] [] [.inr (0, [.ref 1, .ref 2, .ref 15, .null]), .inr (1, [.int x, .int y, .int 0, .int 0, .int 0, .int 0, .int 0, .int 0, .int 0]), .inr (2, [.int 0, .ref 3, .ref 4, .ref 5, .ref 6, .ref 7, .ref 8, .ref 9, .ref 10, .ref 11, .ref 12, .ref 13, .ref 14]), .inl (false, 24, fun _ => 0), .inl (false, 24, fun _ => 0), .inl (false, 24, fun _ => 0), .inl (false, 24, fun _ => 0), .inl (false, 24, fun _ => 0), .inl (false, 24, fun _ => 0), .inl (false, 24, fun _ => 0), .inl (true, 24, fun _ => 0), .inl (true, 24, fun _ => 0), .inl (false, 24, fun _ => 0), .inl (false, 24, fun _ => 0), .inl (false, 24, fun _ => 0), .inr (3, [.ref 16, .ref 17]), .inl (true, 4, fun _ => 0), .inl (false, 4, fun _ => 0), .inr (4, [.null, .null, .null, .int 0, .ref 19, .null, .null, .null, .null, .null, .null, .null, .int 0]), .inl (false, 24, fun _ => 0)] 1 24)⟩
  refine ax_X.steps 3 ⟨24, ⟨rfl, by decide⟩, (?_ : ax_X ax_Ms ax_Xs no_N_init C _ 9 [some (.ref 18), some (.ref 1), some (.ref 2), some (.ref 15)] [.ref 20, .ref 18] [.inr (0, [.ref 1, .ref 2, .ref 15, .null]), .inr (1, [.int x, .int y, .int 0, .int 0, .int 0, .int 0, .int 0, .int 0, .int 0]), .inr (2, [.int 0, .ref 3, .ref 4, .ref 5, .ref 6, .ref 7, .ref 8, .ref 9, .ref 10, .ref 11, .ref 12, .ref 13, .ref 14]), .inl (false, 24, fun _ => 0), .inl (false, 24, fun _ => 0), .inl (false, 24, fun _ => 0), .inl (false, 24, fun _ => 0), .inl (false, 24, fun _ => 0), .inl (false, 24, fun _ => 0), .inl (false, 24, fun _ => 0), .inl (true, 24, fun _ => 0), .inl (true, 24, fun _ => 0), .inl (false, 24, fun _ => 0), .inl (false, 24, fun _ => 0), .inl (false, 24, fun _ => 0), .inr (3, [.ref 16, .ref 17]), .inl (true, 4, fun _ => 0), .inl (false, 4, fun _ => 0), .inr (4, [.null, .null, .null, .int 0, .ref 19, .null, .null, .null, .null, .null, .null, .null, .int 0]), .inl (false, 24, fun _ => 0), .inl (false, 24, fun _ => 0)] 2 48)⟩
  refine ax_X.steps 1 ⟨rfl, (?_ : ax_X ax_Ms ax_Xs no_N_init C _ 10 [some (.ref 18), some (.ref 1), some (.ref 2), some (.ref 15)] [] [.inr (0, [.ref 1, .ref 2, .ref 15, .null]), .inr (1, [.int x, .int y, .int 0, .int 0, .int 0, .int 0, .int 0, .int 0, .int 0]), .inr (2, [.int 0, .ref 3, .ref 4, .ref 5, .ref 6, .ref 7, .ref 8, .ref 9, .ref 10, .ref 11, .ref 12, .ref 13, .ref 14]), .inl (false, 24, fun _ => 0), .inl (false, 24, fun _ => 0), .inl (false, 24, fun _ => 0), .inl (false, 24, fun _ => 0), .inl (false, 24, fun _ => 0), .inl (false, 24, fun _ => 0), .inl (false, 24, fun _ => 0), .inl (true, 24, fun _ => 0), .inl (true, 24, fun _ => 0), .inl (false, 24, fun _ => 0), .inl (false, 24, fun _ => 0), .inl (false, 24, fun _ => 0), .inr (3, [.ref 16, .ref 17]), .inl (true, 4, fun _ => 0), .inl (false, 4, fun _ => 0), .inr (4, [.null, .null, .null, .int 0, .ref 19, .ref 20, .null, .null, .null, .null, .null, .null, .int 0]), .inl (false, 24, fun _ => 0), .inl (false, 24, fun _ => 0)] 2 48)⟩
  refine ax_X.steps 3 ⟨24, ⟨rfl, by decide⟩, (?_ : ax_X ax_Ms ax_Xs no_N_init C _ 13 [some (.ref 18), some (.ref 1), some (.ref 2), some (.ref 15)] [.ref 21, .ref 18] [.inr (0, [.ref 1, .ref 2, .ref 15, .null]), .inr (1, [.int x, .int y, .int 0, .int 0, .int 0, .int 0, .int 0, .int 0, .int 0]), .inr (2, [.int 0, .ref 3, .ref 4, .ref 5, .ref 6, .ref 7, .ref 8, .ref 9, .ref 10, .ref 11, .ref 12, .ref 13, .ref 14]), .inl (false, 24, fun _ => 0), .inl (false, 24, fun _ => 0), .inl (false, 24, fun _ => 0), .inl (false, 24, fun _ => 0), .inl (false, 24, fun _ => 0), .inl (false, 24, fun _ => 0), .inl (false, 24, fun _ => 0), .inl (true, 24, fun _ => 0), .inl (true, 24, fun _ => 0), .inl (false, 24, fun _ => 0), .inl (false, 24, fun _ => 0), .inl (false, 24, fun _ => 0), .inr (3, [.ref 16, .ref 17]), .inl (true, 4, fun _ => 0), .inl (false, 4, fun _ => 0), .inr (4, [.null, .null, .null, .int 0, .ref 19, .ref 20, .null, .null, .null, .null, .null, .null, .int 0]), .inl (false, 24, fun _ => 0), .inl (false, 24, fun _ => 0), .inl (false, 24, fun _ => 0)] 3 72)⟩
  refine ax_X.steps 1 ⟨rfl, (?_ : ax_X ax_Ms ax_Xs no_N_init C _ 14 [some (.ref 18), some (.ref 1), some (.ref 2), some (.ref 15)] [] [.inr (0, [.ref 1, .ref 2, .ref 15, .null]), .inr (1, [.int x, .int y, .int 0, .int 0, .int 0, .int 0, .int 0, .int 0, .int 0]), .inr (2, [.int 0, .ref 3, .ref 4, .ref 5, .ref 6, .ref 7, .ref 8, .ref 9, .ref 10, .ref 11, .ref 12, .ref 13, .ref 14]), .inl (false, 24, fun _ => 0), .inl (false, 24, fun _ => 0), .inl (false, 24, fun _ => 0), .inl (false, 24, fun _ => 0), .inl (false, 24, fun _ => 0), .inl (false, 24, fun _ => 0), .inl (false, 24, fun _ => 0), .inl (true, 24, fun _ => 0), .inl (true, 24, fun _ => 0), .inl (false, 24, fun _ => 0), .inl (false, 24, fun _ => 0), .inl (false, 24, fun _ => 0), .inr (3, [.ref 16, .ref 17]), .inl (true, 4, fun _ => 0), .inl (false, 4, fun _ => 0), .inr (4, [.null, .null, .null, .int 0, .ref 19, .ref 20, .ref 21, .null, .null, .null, .null, .null, .int 0]), .inl (false, 24, fun _ => 0), .inl (false, 24, fun _ => 0), .inl (false, 24, fun _ => 0)] 3 72)⟩
  refine ax_X.steps 3 ⟨24, ⟨rfl, by decide⟩, (?_ : ax_X ax_Ms ax_Xs no_N_init C _ 17 [some (.ref 18), some (.ref 1), some (.ref 2), some (.ref 15)] [.ref 22, .ref 18] [.inr (0, [.ref 1, .ref 2, .ref 15, .null]), .inr (1, [.int x, .int y, .int 0, .int 0, .int 0, .int 0, .int 0, .int 0, .int 0]), .inr (2, [.int 0, .ref 3, .ref 4, .ref 5, .ref 6, .ref 7, .ref 8, .ref 9, .ref 10, .ref 11, .ref 12, .ref 13, .ref 14]), .inl (false, 24, fun _ => 0), .inl (false, 24, fun _ => 0), .inl (false, 24, fun _ => 0), .inl (false, 24, fun _ => 0), .inl (false, 24, fun _ => 0), .inl (false, 24, fun _ => 0), .inl (false, 24, fun _ => 0), .inl (true, 24, fun _ => 0), .inl (true, 24, fun _ => 0), .inl (false, 24, fun _ => 0), .inl (false, 24, fun _ => 0), .inl (false, 24, fun _ => 0), .inr (3, [.ref 16, .ref 17]), .inl (true, 4, fun _ => 0), .inl (false, 4, fun _ => 0), .inr (4, [.null, .null, .null, .int 0, .ref 19, .ref 20, .ref 21, .null, .null, .null, .null, .null, .int 0]), .inl (false, 24, fun _ => 0), .inl (false, 24, fun _ => 0), .inl (false, 24, fun _ => 0), .inl (false, 24, fun _ => 0)] 4 96)⟩
  refine ax_X.steps 1 ⟨rfl, (?_ : ax_X ax_Ms ax_Xs no_N_init C _ 18 [some (.ref 18), some (.ref 1), some (.ref 2), some (.ref 15)] [] [.inr (0, [.ref 1, .ref 2, .ref 15, .null]), .inr (1, [.int x, .int y, .int 0, .int 0, .int 0, .int 0, .int 0, .int 0, .int 0]), .inr (2, [.int 0, .ref 3, .ref 4, .ref 5, .ref 6, .ref 7, .ref 8, .ref 9, .ref 10, .ref 11, .ref 12, .ref 13, .ref 14]), .inl (false, 24, fun _ => 0), .inl (false, 24, fun _ => 0), .inl (false, 24, fun _ => 0), .inl (false, 24, fun _ => 0), .inl (false, 24, fun _ => 0), .inl (false, 24, fun _ => 0), .inl (false, 24, fun _ => 0), .inl (true, 24, fun _ => 0), .inl (true, 24, fun _ => 0), .inl (false, 24, fun _ => 0), .inl (false, 24, fun _ => 0), .inl (false, 24, fun _ => 0), .inr (3, [.ref 16, .ref 17]), .inl (true, 4, fun _ => 0), .inl (false, 4, fun _ => 0), .inr (4, [.null, .null, .null, .int 0, .ref 19, .ref 20, .ref 21, .ref 22, .null, .null, .null, .null, .int 0]), .inl (false, 24, fun _ => 0), .inl (false, 24, fun _ => 0), .inl (false, 24, fun _ => 0), .inl (false, 24, fun _ => 0)] 4 96)⟩
  refine ax_X.steps 3 ⟨24, ⟨rfl, by decide⟩, (?_ : ax_X ax_Ms ax_Xs no_N_init C _ 21 [some (.ref 18), some (.ref 1), some (.ref 2), some (.ref 15)] [.ref 23, .ref 18] [.inr (0, [.ref 1, .ref 2, .ref 15, .null]), .inr (1, [.int x, .int y, .int 0, .int 0, .int 0, .int 0, .int 0, .int 0, .int 0]), .inr (2, [.int 0, .ref 3, .ref 4, .ref 5, .ref 6, .ref 7, .ref 8, .ref 9, .ref 10, .ref 11, .ref 12, .ref 13, .ref 14]), .inl (false, 24, fun _ => 0), .inl (false, 24, fun _ => 0), .inl (false, 24, fun _ => 0), .inl (false, 24, fun _ => 0), .inl (false, 24, fun _ => 0), .inl (false, 24, fun _ => 0), .inl (false, 24, fun _ => 0), .inl (true, 24, fun _ => 0), .inl (true, 24, fun _ => 0), .inl (false, 24, fun _ => 0), .inl (false, 24, fun _ => 0), .inl (false, 24, fun _ => 0), .inr (3, [.ref 16, .ref 17]), .inl (true, 4, fun _ => 0), .inl (false, 4, fun _ => 0), .inr (4, [.null, .null, .null, .int 0, .ref 19, .ref 20, .ref 21, .ref 22, .null, .null, .null, .null, .int 0]), .inl (false, 24, fun _ => 0), .inl (false, 24, fun _ => 0), .inl (false, 24, fun _ => 0), .inl (false, 24, fun _ => 0), .inl (false, 24, fun _ => 0)] 5 120)⟩
  refine ax_X.steps 1 ⟨rfl, (?_ : ax_X ax_Ms ax_Xs no_N_init C _ 22 [some (.ref 18), some (.ref 1), some (.ref 2), some (.ref 15)] [] [.inr (0, [.ref 1, .ref 2, .ref 15, .null]), .inr (1, [.int x, .int y, .int 0, .int 0, .int 0, .int 0, .int 0, .int 0, .int 0]), .inr (2, [.int 0, .ref 3, .ref 4, .ref 5, .ref 6, .ref 7, .ref 8, .ref 9, .ref 10, .ref 11, .ref 12, .ref 13, .ref 14]), .inl (false, 24, fun _ => 0), .inl (false, 24, fun _ => 0), .inl (false, 24, fun _ => 0), .inl (false, 24, fun _ => 0), .inl (false, 24, fun _ => 0), .inl (false, 24, fun _ => 0), .inl (false, 24, fun _ => 0), .inl (true, 24, fun _ => 0), .inl (true, 24, fun _ => 0), .inl (false, 24, fun _ => 0), .inl (false, 24, fun _ => 0), .inl (false, 24, fun _ => 0), .inr (3, [.ref 16, .ref 17]), .inl (true, 4, fun _ => 0), .inl (false, 4, fun _ => 0), .inr (4, [.null, .null, .null, .int 0, .ref 19, .ref 20, .ref 21, .ref 22, .ref 23, .null, .null, .null, .int 0]), .inl (false, 24, fun _ => 0), .inl (false, 24, fun _ => 0), .inl (false, 24, fun _ => 0), .inl (false, 24, fun _ => 0), .inl (false, 24, fun _ => 0)] 5 120)⟩
  refine ax_X.steps 3 ⟨24, ⟨rfl, by decide⟩, (?_ : ax_X ax_Ms ax_Xs no_N_init C _ 25 [some (.ref 18), some (.ref 1), some (.ref 2), some (.ref 15)] [.ref 24, .ref 18] [.inr (0, [.ref 1, .ref 2, .ref 15, .null]), .inr (1, [.int x, .int y, .int 0, .int 0, .int 0, .int 0, .int 0, .int 0, .int 0]), .inr (2, [.int 0, .ref 3, .ref 4, .ref 5, .ref 6, .ref 7, .ref 8, .ref 9, .ref 10, .ref 11, .ref 12, .ref 13, .ref 14]), .inl (false, 24, fun _ => 0), .inl (false, 24, fun _ => 0), .inl (false, 24, fun _ => 0), .inl (false, 24, fun _ => 0), .inl (false, 24, fun _ => 0), .inl (false, 24, fun _ => 0), .inl (false, 24, fun _ => 0), .inl (true, 24, fun _ => 0), .inl (true, 24, fun _ => 0), .inl (false, 24, fun _ => 0), .inl (false, 24, fun _ => 0), .inl (false, 24, fun _ => 0), .inr (3, [.ref 16, .ref 17]), .inl (true, 4, fun _ => 0), .inl (false, 4, fun _ => 0), .inr (4, [.null, .null, .null, .int 0, .ref 19, .ref 20, .ref 21, .ref 22, .ref 23, .null, .null, .null, .int 0]), .inl (false, 24, fun _ => 0), .inl (false, 24, fun _ => 0), .inl (false, 24, fun _ => 0), .inl (false, 24, fun _ => 0), .inl (false, 24, fun _ => 0), .inl (false, 24, fun _ => 0)] 6 144)⟩
  refine ax_X.steps 1 ⟨rfl, (?_ : ax_X ax_Ms ax_Xs no_N_init C _ 26 [some (.ref 18), some (.ref 1), some (.ref 2), some (.ref 15)] [] [.inr (0, [.ref 1, .ref 2, .ref 15, .null]), .inr (1, [.int x, .int y, .int 0, .int 0, .int 0, .int 0, .int 0, .int 0, .int 0]), .inr (2, [.int 0, .ref 3, .ref 4, .ref 5, .ref 6, .ref 7, .ref 8, .ref 9, .ref 10, .ref 11, .ref 12, .ref 13, .ref 14]), .inl (false, 24, fun _ => 0), .inl (false, 24, fun _ => 0), .inl (false, 24, fun _ => 0), .inl (false, 24, fun _ => 0), .inl (false, 24, fun _ => 0), .inl (false, 24, fun _ => 0), .inl (false, 24, fun _ => 0), .inl (true, 24, fun _ => 0), .inl (true, 24, fun _ => 0), .inl (false, 24, fun _ => 0), .inl (false, 24, fun _ => 0), .inl (false, 24, fun _ => 0), .inr (3, [.ref 16, .ref 17]), .inl (true, 4, fun _ => 0), .inl (false, 4, fun _ => 0), .inr (4, [.null, .null, .null, .int 0, .ref 19, .ref 20, .ref 21, .ref 22, .ref 23, .ref 24, .null, .null, .int 0]), .inl (false, 24, fun _ => 0), .inl (false, 24, fun _ => 0), .inl (false, 24, fun _ => 0), .inl (false, 24, fun _ => 0), .inl (false, 24, fun _ => 0), .inl (false, 24, fun _ => 0)] 6 144)⟩
  refine ax_X.steps 3 ⟨24, ⟨rfl, by decide⟩, (?_ : ax_X ax_Ms ax_Xs no_N_init C _ 29 [some (.ref 18), some (.ref 1), some (.ref 2), some (.ref 15)] [.ref 25, .ref 18] [.inr (0, [.ref 1, .ref 2, .ref 15, .null]), .inr (1, [.int x, .int y, .int 0, .int 0, .int 0, .int 0, .int 0, .int 0, .int 0]), .inr (2, [.int 0, .ref 3, .ref 4, .ref 5, .ref 6, .ref 7, .ref 8, .ref 9, .ref 10, .ref 11, .ref 12, .ref 13, .ref 14]), .inl (false, 24, fun _ => 0), .inl (false, 24, fun _ => 0), .inl (false, 24, fun _ => 0), .inl (false, 24, fun _ => 0), .inl (false, 24, fun _ => 0), .inl (false, 24, fun _ => 0), .inl (false, 24, fun _ => 0), .inl (true, 24, fun _ => 0), .inl (true, 24, fun _ => 0), .inl (false, 24, fun _ => 0), .inl (false, 24, fun _ => 0), .inl (false, 24, fun _ => 0), .inr (3, [.ref 16, .ref 17]), .inl (true, 4, fun _ => 0), .inl (false, 4, fun _ => 0), .inr (4, [.null, .null, .null, .int 0, .ref 19, .ref 20, .ref 21, .ref 22, .ref 23, .ref 24, .null, .null, .int 0]), .inl (false, 24, fun _ => 0), .inl (false, 24, fun _ => 0), .inl (false, 24, fun _ => 0), .inl (false, 24, fun _ => 0), .inl (false, 24, fun _ => 0), .inl (false, 24, fun _ => 0), .inl (false, 24, fun _ => 0)] 7 168)⟩
  refine ax_X.steps 1 ⟨rfl, (?_ : ax_X ax_Ms ax_Xs no_N_init C _ 30 [some (.ref 18), some (.ref 1), some (.ref 2), some (.ref 15)] [] [.inr (0, [.ref 1, .ref 2, .ref 15, .null]), .inr (1, [.int x, .int y, .int 0, .int 0, .int 0, .int 0, .int 0, .int 0, .int 0]), .inr (2, [.int 0, .ref 3, .ref 4, .ref 5, .ref 6, .ref 7, .ref 8, .ref 9, .ref 10, .ref 11, .ref 12, .ref 13, .ref 14]), .inl (false, 24, fun _ => 0), .inl (false, 24, fun _ => 0), .inl (false, 24, fun _ => 0), .inl (false, 24, fun _ => 0), .inl (false, 24, fun _ => 0), .inl (false, 24, fun _ => 0), .inl (false, 24, fun _ => 0), .inl (true, 24, fun _ => 0), .inl (true, 24, fun _ => 0), .inl (false, 24, fun _ => 0), .inl (false, 24, fun _ => 0), .inl (false, 24, fun _ => 0), .inr (3, [.ref 16, .ref 17]), .inl (true, 4, fun _ => 0), .inl (false, 4, fun _ => 0), .inr (4, [.null, .null, .null, .int 0, .ref 19, .ref 20, .ref 21, .ref 22, .ref 23, .ref 24, .ref 25, .null, .int 0]), .inl (false, 24, fun _ => 0), .inl (false, 24, fun _ => 0), .inl (false, 24, fun _ => 0), .inl (false, 24, fun _ => 0), .inl (false, 24, fun _ => 0), .inl (false, 24, fun _ => 0), .inl (false, 24, fun _ => 0)] 7 168)⟩
  refine ax_X.steps 3 ⟨96, ⟨rfl, by decide⟩, (?_ : ax_X ax_Ms ax_Xs no_N_init C _ 33 [some (.ref 18), some (.ref 1), some (.ref 2), some (.ref 15)] [.ref 26, .ref 18] [.inr (0, [.ref 1, .ref 2, .ref 15, .null]), .inr (1, [.int x, .int y, .int 0, .int 0, .int 0, .int 0, .int 0, .int 0, .int 0]), .inr (2, [.int 0, .ref 3, .ref 4, .ref 5, .ref 6, .ref 7, .ref 8, .ref 9, .ref 10, .ref 11, .ref 12, .ref 13, .ref 14]), .inl (false, 24, fun _ => 0), .inl (false, 24, fun _ => 0), .inl (false, 24, fun _ => 0), .inl (false, 24, fun _ => 0), .inl (false, 24, fun _ => 0), .inl (false, 24, fun _ => 0), .inl (false, 24, fun _ => 0), .inl (true, 24, fun _ => 0), .inl (true, 24, fun _ => 0), .inl (false, 24, fun _ => 0), .inl (false, 24, fun _ => 0), .inl (false, 24, fun _ => 0), .inr (3, [.ref 16, .ref 17]), .inl (true, 4, fun _ => 0), .inl (false, 4, fun _ => 0), .inr (4, [.null, .null, .null, .int 0, .ref 19, .ref 20, .ref 21, .ref 22, .ref 23, .ref 24, .ref 25, .null, .int 0]), .inl (false, 24, fun _ => 0), .inl (false, 24, fun _ => 0), .inl (false, 24, fun _ => 0), .inl (false, 24, fun _ => 0), .inl (false, 24, fun _ => 0), .inl (false, 24, fun _ => 0), .inl (false, 24, fun _ => 0), .inl (false, 96, fun _ => 0)] 8 264)⟩
  refine ax_X.steps 1 ⟨rfl, (?_ : ax_X ax_Ms ax_Xs no_N_init C _ 34 [some (.ref 18), some (.ref 1), some (.ref 2), some (.ref 15)] [] [.inr (0, [.ref 1, .ref 2, .ref 15, .null]), .inr (1, [.int x, .int y, .int 0, .int 0, .int 0, .int 0, .int 0, .int 0, .int 0]), .inr (2, [.int 0, .ref 3, .ref 4, .ref 5, .ref 6, .ref 7, .ref 8, .ref 9, .ref 10, .ref 11, .ref 12, .ref 13, .ref 14]), .inl (false, 24, fun _ => 0), .inl (false, 24, fun _ => 0), .inl (false, 24, fun _ => 0), .inl (false, 24, fun _ => 0), .inl (false, 24, fun _ => 0), .inl (false, 24, fun _ => 0), .inl (false, 24, fun _ => 0), .inl (true, 24, fun _ => 0), .inl (true, 24, fun _ => 0), .inl (false, 24, fun _ => 0), .inl (false, 24, fun _ => 0), .inl (false, 24, fun _ => 0), .inr (3, [.ref 16, .ref 17]), .inl (true, 4, fun _ => 0), .inl (false, 4, fun _ => 0), .inr (4, [.null, .null, .null, .int 0, .ref 19, .ref 20, .ref 21, .ref 22, .ref 23, .ref 24, .ref 25, .ref 26, .int 0]), .inl (false, 24, fun _ => 0), .inl (false, 24, fun _ => 0), .inl (false, 24, fun _ => 0), .inl (false, 24, fun _ => 0), .inl (false, 24, fun _ => 0), .inl (false, 24, fun _ => 0), .inl (false, 24, fun _ => 0), .inl (false, 96, fun _ => 0)] 8 264)⟩
  refine ax_X.steps 3 ⟨rfl, (?_ : ax_X ax_Ms ax_Xs no_N_init C _ 37 [some (.ref 18), some (.ref 1), some (.ref 2), some (.ref 15)] [] [.inr (0, [.ref 1, .ref 2, .ref 15, .null]), .inr (1, [.int x, .int y, .int 0, .int 0, .int 0, .int 0, .int 0, .int 0, .int 0]), .inr (2, [.int 0, .ref 3, .ref 4, .ref 5, .ref 6, .ref 7, .ref 8, .ref 9, .ref 10, .ref 11, .ref 12, .ref 13, .ref 14]), .inl (false, 24, fun _ => 0), .inl (false, 24, fun _ => 0), .inl (false, 24, fun _ => 0), .inl (false, 24, fun _ => 0), .inl (false, 24, fun _ => 0), .inl (false, 24, fun _ => 0), .inl (false, 24, fun _ => 0), .inl (true, 24, fun _ => 0), .inl (true, 24, fun _ => 0), .inl (false, 24, fun _ => 0), .inl (false, 24, fun _ => 0), .inl (false, 24, fun _ => 0), .inr (3, [.ref 16, .ref 17]), .inl (true, 4, fun _ => 0), .inl (false, 4, fun _ => 0), .inr (4, [.ref 1, .null, .null, .int 0, .ref 19, .ref 20, .ref 21, .ref 22, .ref 23, .ref 24, .ref 25, .ref 26, .int 0]), .inl (false, 24, fun _ => 0), .inl (false, 24, fun _ => 0), .inl (false, 24, fun _ => 0), .inl (false, 24, fun _ => 0), .inl (false, 24, fun _ => 0), .inl (false, 24, fun _ => 0), .inl (false, 24, fun _ => 0), .inl (false, 96, fun _ => 0)] 8 264)⟩
  refine ax_X.steps 3 ⟨rfl, (?_ : ax_X ax_Ms ax_Xs no_N_init C _ 40 [some (.ref 18), some (.ref 1), some (.ref 2), some (.ref 15)] [] [.inr (0, [.ref 1, .ref 2, .ref 15, .null]), .inr (1, [.int x, .int y, .int 0, .int 0, .int 0, .int 0, .int 0, .int 0, .int 0]), .inr (2, [.int 0, .ref 3, .ref 4, .ref 5, .ref 6, .ref 7, .ref 8, .ref 9, .ref 10, .ref 11, .ref 12, .ref 13, .ref 14]), .inl (false, 24, fun _ => 0), .inl (false, 24, fun _ => 0), .inl (false, 24, fun _ => 0), .inl (false, 24, fun _ => 0), .inl (false, 24, fun _ => 0), .inl (false, 24, fun _ => 0), .inl (false, 24, fun _ => 0), .inl (true, 24, fun _ => 0), .inl (true, 24, fun _ => 0), .inl (false, 24, fun _ => 0), .inl (false, 24, fun _ => 0), .inl (false, 24, fun _ => 0), .inr (3, [.ref 16, .ref 17]), .inl (true, 4, fun _ => 0), .inl (false, 4, fun _ => 0), .inr (4, [.ref 1, .ref 2, .null, .int 0, .ref 19, .ref 20, .ref 21, .ref 22, .ref 23, .ref 24, .ref 25, .ref 26, .int 0]), .inl (false, 24, fun _ => 0), .inl (false, 24, fun _ => 0), .inl (false, 24, fun _ => 0), .inl (false, 24, fun _ => 0), .inl (false, 24, fun _ => 0), .inl (false, 24, fun _ => 0), .inl (false, 24, fun _ => 0), .inl (false, 96, fun _ => 0)] 8 264)⟩
  refine ax_X.steps 3 ⟨rfl, (?_ : ax_X ax_Ms ax_Xs no_N_init C _ 43 [some (.ref 18), some (.ref 1), some (.ref 2), some (.ref 15)] [] [.inr (0, [.ref 1, .ref 2, .ref 15, .null]), .inr (1, [.int x, .int y, .int 0, .int 0, .int 0, .int 0, .int 0, .int 0, .int 0]), .inr (2, [.int 0, .ref 3, .ref 4, .ref 5, .ref 6, .ref 7, .ref 8, .ref 9, .ref 10, .ref 11, .ref 12, .ref 13, .ref 14]), .inl (false, 24, fun _ => 0), .inl (false, 24, fun _ => 0), .inl (false, 24, fun _ => 0), .inl (false, 24, fun _ => 0), .inl (false, 24, fun _ => 0), .inl (false, 24, fun _ => 0), .inl (false, 24, fun _ => 0), .inl (true, 24, fun _ => 0), .inl (true, 24, fun _ => 0), .inl (false, 24, fun _ => 0), .inl (false, 24, fun _ => 0), .inl (false, 24, fun _ => 0), .inr (3, [.ref 16, .ref 17]), .inl (true, 4, fun _ => 0), .inl (false, 4, fun _ => 0), .inr (4, [.ref 1, .ref 2, .ref 15, .int 0, .ref 19, .ref 20, .ref 21, .ref 22, .ref 23, .ref 24, .ref 25, .ref 26, .int 0]), .inl (false, 24, fun _ => 0), .inl (false, 24, fun _ => 0), .inl (false, 24, fun _ => 0), .inl (false, 24, fun _ => 0), .inl (false, 24, fun _ => 0), .inl (false, 24, fun _ => 0), .inl (false, 24, fun _ => 0), .inl (false, 96, fun _ => 0)] 8 264)⟩
  exact ax_X.steps 1 ⟨rfl, rfl⟩
set_option maxRecDepth 100000 in
set_option maxHeartbeats 4000000 in
theorem p_O_init {C : ax_O} (hN : Sp_O_nearest C) (h1 : ∀ x y : Int32, C no_H_init [.ref 1, .int x, .int y] [.inr (0, [.null, .null, .null, .null]), .inr (1, [.int 0, .int 0, .int 0, .int 0, .int 0, .int 0, .int 0, .int 0, .int 0])] (ax_is none [.inr (0, [.null, .null, .null, .null]), .inr (1, [.int x, .int y, .int 0, .int 0, .int 0, .int 0, .int 0, .int 0, .int 0])])) (h2 : ∀ x y : Int32, C no_A_init [.ref 2] [.inr (0, [.ref 1, .null, .null, .null]), .inr (1, [.int x, .int y, .int 0, .int 0, .int 0, .int 0, .int 0, .int 0, .int 0]), .inr (2, [.int 0, .null, .null, .null, .null, .null, .null, .null, .null, .null, .null, .null, .null])] (ax_is none [.inr (0, [.ref 1, .null, .null, .null]), .inr (1, [.int x, .int y, .int 0, .int 0, .int 0, .int 0, .int 0, .int 0, .int 0]), .inr (2, [.int 0, .ref 3, .ref 4, .ref 5, .ref 6, .ref 7, .ref 8, .ref 9, .ref 10, .ref 11, .ref 12, .ref 13, .ref 14]), .inl (false, 24, fun _ => 0), .inl (false, 24, fun _ => 0), .inl (false, 24, fun _ => 0), .inl (false, 24, fun _ => 0), .inl (false, 24, fun _ => 0), .inl (false, 24, fun _ => 0), .inl (false, 24, fun _ => 0), .inl (true, 24, fun _ => 0), .inl (true, 24, fun _ => 0), .inl (false, 24, fun _ => 0), .inl (false, 24, fun _ => 0), .inl (false, 24, fun _ => 0)])) (h3 : ∀ x y : Int32, C no_U_init [.ref 15] [.inr (0, [.ref 1, .ref 2, .null, .null]), .inr (1, [.int x, .int y, .int 0, .int 0, .int 0, .int 0, .int 0, .int 0, .int 0]), .inr (2, [.int 0, .ref 3, .ref 4, .ref 5, .ref 6, .ref 7, .ref 8, .ref 9, .ref 10, .ref 11, .ref 12, .ref 13, .ref 14]), .inl (false, 24, fun _ => 0), .inl (false, 24, fun _ => 0), .inl (false, 24, fun _ => 0), .inl (false, 24, fun _ => 0), .inl (false, 24, fun _ => 0), .inl (false, 24, fun _ => 0), .inl (false, 24, fun _ => 0), .inl (true, 24, fun _ => 0), .inl (true, 24, fun _ => 0), .inl (false, 24, fun _ => 0), .inl (false, 24, fun _ => 0), .inl (false, 24, fun _ => 0), .inr (3, [.null, .null])] (ax_is none [.inr (0, [.ref 1, .ref 2, .null, .null]), .inr (1, [.int x, .int y, .int 0, .int 0, .int 0, .int 0, .int 0, .int 0, .int 0]), .inr (2, [.int 0, .ref 3, .ref 4, .ref 5, .ref 6, .ref 7, .ref 8, .ref 9, .ref 10, .ref 11, .ref 12, .ref 13, .ref 14]), .inl (false, 24, fun _ => 0), .inl (false, 24, fun _ => 0), .inl (false, 24, fun _ => 0), .inl (false, 24, fun _ => 0), .inl (false, 24, fun _ => 0), .inl (false, 24, fun _ => 0), .inl (false, 24, fun _ => 0), .inl (true, 24, fun _ => 0), .inl (true, 24, fun _ => 0), .inl (false, 24, fun _ => 0), .inl (false, 24, fun _ => 0), .inl (false, 24, fun _ => 0), .inr (3, [.ref 16, .ref 17]), .inl (true, 4, fun _ => 0), .inl (false, 4, fun _ => 0)])) (h4 : ∀ x y : Int32, C no_N_init [.ref 18, .ref 1, .ref 2, .ref 15] [.inr (0, [.ref 1, .ref 2, .ref 15, .null]), .inr (1, [.int x, .int y, .int 0, .int 0, .int 0, .int 0, .int 0, .int 0, .int 0]), .inr (2, [.int 0, .ref 3, .ref 4, .ref 5, .ref 6, .ref 7, .ref 8, .ref 9, .ref 10, .ref 11, .ref 12, .ref 13, .ref 14]), .inl (false, 24, fun _ => 0), .inl (false, 24, fun _ => 0), .inl (false, 24, fun _ => 0), .inl (false, 24, fun _ => 0), .inl (false, 24, fun _ => 0), .inl (false, 24, fun _ => 0), .inl (false, 24, fun _ => 0), .inl (true, 24, fun _ => 0), .inl (true, 24, fun _ => 0), .inl (false, 24, fun _ => 0), .inl (false, 24, fun _ => 0), .inl (false, 24, fun _ => 0), .inr (3, [.ref 16, .ref 17]), .inl (true, 4, fun _ => 0), .inl (false, 4, fun _ => 0), .inr (4, [.null, .null, .null, .int 0, .null, .null, .null, .null, .null, .null, .null, .null, .int 0])] (ax_is none [.inr (0, [.ref 1, .ref 2, .ref 15, .null]), .inr (1, [.int x, .int y, .int 0, .int 0, .int 0, .int 0, .int 0, .int 0, .int 0]), .inr (2, [.int 0, .ref 3, .ref 4, .ref 5, .ref 6, .ref 7, .ref 8, .ref 9, .ref 10, .ref 11, .ref 12, .ref 13, .ref 14]), .inl (false, 24, fun _ => 0), .inl (false, 24, fun _ => 0), .inl (false, 24, fun _ => 0), .inl (false, 24, fun _ => 0), .inl (false, 24, fun _ => 0), .inl (false, 24, fun _ => 0), .inl (false, 24, fun _ => 0), .inl (true, 24, fun _ => 0), .inl (true, 24, fun _ => 0), .inl (false, 24, fun _ => 0), .inl (false, 24, fun _ => 0), .inl (false, 24, fun _ => 0), .inr (3, [.ref 16, .ref 17]), .inl (true, 4, fun _ => 0), .inl (false, 4, fun _ => 0), .inr (4, [.ref 1, .ref 2, .ref 15, .int 0, .ref 19, .ref 20, .ref 21, .ref 22, .ref 23, .ref 24, .ref 25, .ref 26, .int 0]), .inl (false, 24, fun _ => 0), .inl (false, 24, fun _ => 0), .inl (false, 24, fun _ => 0), .inl (false, 24, fun _ => 0), .inl (false, 24, fun _ => 0), .inl (false, 24, fun _ => 0), .inl (false, 24, fun _ => 0), .inl (false, 96, fun _ => 0)])) (x y : Int32) : ax_B ax_Ms ax_Xs C no_O_init [.ref 0, .int x, .int y] [.inr (0, [.null, .null, .null, .null])] (ax_is none (oH (f0 (mxI 1 (mnI x 16)) (mxI 0 (mnI y 1000000))) 0 (fun _ _ => 0) 0 0)) := by
  refine ax_X.steps 4 (?_ : ax_X ax_Ms ax_Xs no_O_init C _ 4 [some (.ref 0), some (.int x), some (.int y)] [.ref 1, .ref 0] [.inr (0, [.null, .null, .null, .null]), .inr (1, [.int 0, .int 0, .int 0, .int 0, .int 0, .int 0, .int 0, .int 0, .int 0])] 1 9)
  refine ax_X.steps 5 (ax_go (hN _ _ _ _) (?_ : ax_X ax_Ms ax_Xs no_O_init C _ 9 [some (.ref 0), some (.int x), some (.int y)] [.int (mxI 1 (mnI x 16)), .ref 1, .ref 1, .ref 0] [.inr (0, [.null, .null, .null, .null]), .inr (1, [.int 0, .int 0, .int 0, .int 0, .int 0, .int 0, .int 0, .int 0, .int 0])] 1 9))
  refine ax_X.steps 4 (ax_go (hN _ _ _ _) (?_ : ax_X ax_Ms ax_Xs no_O_init C _ 13 [some (.ref 0), some (.int x), some (.int y)] [.int (mxI 0 (mnI y 1000000)), .int (mxI 1 (mnI x 16)), .ref 1, .ref 1, .ref 0] [.inr (0, [.null, .null, .null, .null]), .inr (1, [.int 0, .int 0, .int 0, .int 0, .int 0, .int 0, .int 0, .int 0, .int 0])] 1 9))
  refine ax_X.steps 1 (ax_gov (h1 _ _) (?_ : ax_X ax_Ms ax_Xs no_O_init C _ 14 [some (.ref 0), some (.int x), some (.int y)] [.ref 1, .ref 0] [.inr (0, [.null, .null, .null, .null]), .inr (1, [.int (mxI 1 (mnI x 16)), .int (mxI 0 (mnI y 1000000)), .int 0, .int 0, .int 0, .int 0, .int 0, .int 0, .int 0])] 1 9))
  refine ax_X.steps 1 ⟨rfl, (?_ : ax_X ax_Ms ax_Xs no_O_init C _ 15 [some (.ref 0), some (.int x), some (.int y)] [] [.inr (0, [.ref 1, .null, .null, .null]), .inr (1, [.int (mxI 1 (mnI x 16)), .int (mxI 0 (mnI y 1000000)), .int 0, .int 0, .int 0, .int 0, .int 0, .int 0, .int 0])] 1 9)⟩
  refine ax_X.steps 2 (?_ : ax_X ax_Ms ax_Xs no_O_init C _ 17 [some (.ref 0), some (.int x), some (.int y)] [.ref 2, .ref 0] [.inr (0, [.ref 1, .null, .null, .null]), .inr (1, [.int (mxI 1 (mnI x 16)), .int (mxI 0 (mnI y 1000000)), .int 0, .int 0, .int 0, .int 0, .int 0, .int 0, .int 0]), .inr (2, [.int 0, .null, .null, .null, .null, .null, .null, .null, .null, .null, .null, .null, .null])] 2 22)
  refine ax_X.steps 2 (ax_gov (h2 _ _) (?_ : ax_X ax_Ms ax_Xs no_O_init C _ 19 [some (.ref 0), some (.int x), some (.int y)] [.ref 2, .ref 0] [.inr (0, [.ref 1, .null, .null, .null]), .inr (1, [.int (mxI 1 (mnI x 16)), .int (mxI 0 (mnI y 1000000)), .int 0, .int 0, .int 0, .int 0, .int 0, .int 0, .int 0]), .inr (2, [.int 0, .ref 3, .ref 4, .ref 5, .ref 6, .ref 7, .ref 8, .ref 9, .ref 10, .ref 11, .ref 12, .ref 13, .ref 14]), .inl (false, 24, fun _ => 0), .inl (false, 24, fun _ => 0), .inl (false, 24, fun _ => 0), .inl (false, 24, fun _ => 0), .inl (false, 24, fun _ => 0), .inl (false, 24, fun _ => 0), .inl (false, 24, fun _ => 0), .inl (true, 24, fun _ => 0), .inl (true, 24, fun _ => 0), .inl (false, 24, fun _ => 0), .inl (false, 24, fun _ => 0), .inl (false, 24, fun _ => 0)] 14 310))
  refine ax_X.steps 1 ⟨rfl, (?_ : ax_X ax_Ms ax_Xs no_O_init C _ 20 [some (.ref 0), some (.int x), some (.int y)] [] [.inr (0, [.ref 1, .ref 2, .null, .null]), .inr (1, [.int (mxI 1 (mnI x 16)), .int (mxI 0 (mnI y 1000000)), .int 0, .int 0, .int 0, .int 0, .int 0, .int 0, .int 0]), .inr (2, [.int 0, .ref 3, .ref 4, .ref 5, .ref 6, .ref 7, .ref 8, .ref 9, .ref 10, .ref 11, .ref 12, .ref 13, .ref 14]), .inl (false, 24, fun _ => 0), .inl (false, 24, fun _ => 0), .inl (false, 24, fun _ => 0), .inl (false, 24, fun _ => 0), .inl (false, 24, fun _ => 0), .inl (false, 24, fun _ => 0), .inl (false, 24, fun _ => 0), .inl (true, 24, fun _ => 0), .inl (true, 24, fun _ => 0), .inl (false, 24, fun _ => 0), .inl (false, 24, fun _ => 0), .inl (false, 24, fun _ => 0)] 14 310)⟩
  refine ax_X.steps 2 (?_ : ax_X ax_Ms ax_Xs no_O_init C _ 22 [some (.ref 0), some (.int x), some (.int y)] [.ref 15, .ref 0] [.inr (0, [.ref 1, .ref 2, .null, .null]), .inr (1, [.int (mxI 1 (mnI x 16)), .int (mxI 0 (mnI y 1000000)), .int 0, .int 0, .int 0, .int 0, .int 0, .int 0, .int 0]), .inr (2, [.int 0, .ref 3, .ref 4, .ref 5, .ref 6, .ref 7, .ref 8, .ref 9, .ref 10, .ref 11, .ref 12, .ref 13, .ref 14]), .inl (false, 24, fun _ => 0), .inl (false, 24, fun _ => 0), .inl (false, 24, fun _ => 0), .inl (false, 24, fun _ => 0), .inl (false, 24, fun _ => 0), .inl (false, 24, fun _ => 0), .inl (false, 24, fun _ => 0), .inl (true, 24, fun _ => 0), .inl (true, 24, fun _ => 0), .inl (false, 24, fun _ => 0), .inl (false, 24, fun _ => 0), .inl (false, 24, fun _ => 0), .inr (3, [.null, .null])] 15 312)
  refine ax_X.steps 2 (ax_gov (h3 _ _) (?_ : ax_X ax_Ms ax_Xs no_O_init C _ 24 [some (.ref 0), some (.int x), some (.int y)] [.ref 15, .ref 0] [.inr (0, [.ref 1, .ref 2, .null, .null]), .inr (1, [.int (mxI 1 (mnI x 16)), .int (mxI 0 (mnI y 1000000)), .int 0, .int 0, .int 0, .int 0, .int 0, .int 0, .int 0]), .inr (2, [.int 0, .ref 3, .ref 4, .ref 5, .ref 6, .ref 7, .ref 8, .ref 9, .ref 10, .ref 11, .ref 12, .ref 13, .ref 14]), .inl (false, 24, fun _ => 0), .inl (false, 24, fun _ => 0), .inl (false, 24, fun _ => 0), .inl (false, 24, fun _ => 0), .inl (false, 24, fun _ => 0), .inl (false, 24, fun _ => 0), .inl (false, 24, fun _ => 0), .inl (true, 24, fun _ => 0), .inl (true, 24, fun _ => 0), .inl (false, 24, fun _ => 0), .inl (false, 24, fun _ => 0), .inl (false, 24, fun _ => 0), .inr (3, [.ref 16, .ref 17]), .inl (true, 4, fun _ => 0), .inl (false, 4, fun _ => 0)] 17 320))
  refine ax_X.steps 1 ⟨rfl, (?_ : ax_X ax_Ms ax_Xs no_O_init C _ 25 [some (.ref 0), some (.int x), some (.int y)] [] [.inr (0, [.ref 1, .ref 2, .ref 15, .null]), .inr (1, [.int (mxI 1 (mnI x 16)), .int (mxI 0 (mnI y 1000000)), .int 0, .int 0, .int 0, .int 0, .int 0, .int 0, .int 0]), .inr (2, [.int 0, .ref 3, .ref 4, .ref 5, .ref 6, .ref 7, .ref 8, .ref 9, .ref 10, .ref 11, .ref 12, .ref 13, .ref 14]), .inl (false, 24, fun _ => 0), .inl (false, 24, fun _ => 0), .inl (false, 24, fun _ => 0), .inl (false, 24, fun _ => 0), .inl (false, 24, fun _ => 0), .inl (false, 24, fun _ => 0), .inl (false, 24, fun _ => 0), .inl (true, 24, fun _ => 0), .inl (true, 24, fun _ => 0), .inl (false, 24, fun _ => 0), .inl (false, 24, fun _ => 0), .inl (false, 24, fun _ => 0), .inr (3, [.ref 16, .ref 17]), .inl (true, 4, fun _ => 0), .inl (false, 4, fun _ => 0)] 17 320)⟩
  refine ax_X.steps 2 (?_ : ax_X ax_Ms ax_Xs no_O_init C _ 27 [some (.ref 0), some (.int x), some (.int y)] [.ref 18, .ref 0] [.inr (0, [.ref 1, .ref 2, .ref 15, .null]), .inr (1, [.int (mxI 1 (mnI x 16)), .int (mxI 0 (mnI y 1000000)), .int 0, .int 0, .int 0, .int 0, .int 0, .int 0, .int 0]), .inr (2, [.int 0, .ref 3, .ref 4, .ref 5, .ref 6, .ref 7, .ref 8, .ref 9, .ref 10, .ref 11, .ref 12, .ref 13, .ref 14]), .inl (false, 24, fun _ => 0), .inl (false, 24, fun _ => 0), .inl (false, 24, fun _ => 0), .inl (false, 24, fun _ => 0), .inl (false, 24, fun _ => 0), .inl (false, 24, fun _ => 0), .inl (false, 24, fun _ => 0), .inl (true, 24, fun _ => 0), .inl (true, 24, fun _ => 0), .inl (false, 24, fun _ => 0), .inl (false, 24, fun _ => 0), .inl (false, 24, fun _ => 0), .inr (3, [.ref 16, .ref 17]), .inl (true, 4, fun _ => 0), .inl (false, 4, fun _ => 0), .inr (4, [.null, .null, .null, .int 0, .null, .null, .null, .null, .null, .null, .null, .null, .int 0])] 18 333)
  refine ax_X.steps 8 (ax_gov (h4 _ _) (?_ : ax_X ax_Ms ax_Xs no_O_init C _ 35 [some (.ref 0), some (.int x), some (.int y)] [.ref 18, .ref 0] [.inr (0, [.ref 1, .ref 2, .ref 15, .null]), .inr (1, [.int (mxI 1 (mnI x 16)), .int (mxI 0 (mnI y 1000000)), .int 0, .int 0, .int 0, .int 0, .int 0, .int 0, .int 0]), .inr (2, [.int 0, .ref 3, .ref 4, .ref 5, .ref 6, .ref 7, .ref 8, .ref 9, .ref 10, .ref 11, .ref 12, .ref 13, .ref 14]), .inl (false, 24, fun _ => 0), .inl (false, 24, fun _ => 0), .inl (false, 24, fun _ => 0), .inl (false, 24, fun _ => 0), .inl (false, 24, fun _ => 0), .inl (false, 24, fun _ => 0), .inl (false, 24, fun _ => 0), .inl (true, 24, fun _ => 0), .inl (true, 24, fun _ => 0), .inl (false, 24, fun _ => 0), .inl (false, 24, fun _ => 0), .inl (false, 24, fun _ => 0), .inr (3, [.ref 16, .ref 17]), .inl (true, 4, fun _ => 0), .inl (false, 4, fun _ => 0), .inr (4, [.ref 1, .ref 2, .ref 15, .int 0, .ref 19, .ref 20, .ref 21, .ref 22, .ref 23, .ref 24, .ref 25, .ref 26, .int 0]), .inl (false, 24, fun _ => 0), .inl (false, 24, fun _ => 0), .inl (false, 24, fun _ => 0), .inl (false, 24, fun _ => 0), .inl (false, 24, fun _ => 0), .inl (false, 24, fun _ => 0), .inl (false, 24, fun _ => 0), .inl (false, 96, fun _ => 0)] 26 597))
  refine ax_X.steps 1 ⟨rfl, (?_ : ax_X ax_Ms ax_Xs no_O_init C _ 36 [some (.ref 0), some (.int x), some (.int y)] [] [.inr (0, [.ref 1, .ref 2, .ref 15, .ref 18]), .inr (1, [.int (mxI 1 (mnI x 16)), .int (mxI 0 (mnI y 1000000)), .int 0, .int 0, .int 0, .int 0, .int 0, .int 0, .int 0]), .inr (2, [.int 0, .ref 3, .ref 4, .ref 5, .ref 6, .ref 7, .ref 8, .ref 9, .ref 10, .ref 11, .ref 12, .ref 13, .ref 14]), .inl (false, 24, fun _ => 0), .inl (false, 24, fun _ => 0), .inl (false, 24, fun _ => 0), .inl (false, 24, fun _ => 0), .inl (false, 24, fun _ => 0), .inl (false, 24, fun _ => 0), .inl (false, 24, fun _ => 0), .inl (true, 24, fun _ => 0), .inl (true, 24, fun _ => 0), .inl (false, 24, fun _ => 0), .inl (false, 24, fun _ => 0), .inl (false, 24, fun _ => 0), .inr (3, [.ref 16, .ref 17]), .inl (true, 4, fun _ => 0), .inl (false, 4, fun _ => 0), .inr (4, [.ref 1, .ref 2, .ref 15, .int 0, .ref 19, .ref 20, .ref 21, .ref 22, .ref 23, .ref 24, .ref 25, .ref 26, .int 0]), .inl (false, 24, fun _ => 0), .inl (false, 24, fun _ => 0), .inl (false, 24, fun _ => 0), .inl (false, 24, fun _ => 0), .inl (false, 24, fun _ => 0), .inl (false, 24, fun _ => 0), .inl (false, 24, fun _ => 0), .inl (false, 96, fun _ => 0)] 26 597)⟩
  exact ax_X.steps 1 ⟨rfl, rfl⟩
set_option maxRecDepth 100000 in
set_option maxHeartbeats 4000000 in
theorem p_M_init {C : ax_O} (hN : Sp_M_held C) (x y : Int32) : ax_B ax_Ms ax_Xs C no_M_init [.ref 0, .int x, .int y] [.inr (5, [.int 0, .int 0, .int 0, .int 0, .int 0, .null, .null, .null, .null, .null, .null, .null, .null, .null, .null, .null, .null, .null, .null, .int 0, .null, .null, .null, .null, .null, .null, .null, .null, .null, .null, .int 0, .int 0, .int 0, .int 0, .int 0])] (ax_is none (mH (f0 (heldI x 1 16) (heldI y 0 1000000)) 0 0 (fun _ _ => 0) 0)) := by
  refine ax_X.steps 5 ⟨24, ⟨rfl, by decide⟩, (?_ : ax_X ax_Ms ax_Xs no_M_init C _ 5 [some (.ref 0), some (.int x), some (.int y)] [.ref 1, .ref 0] [.inr (5, [.int 0, .int 0, .int 0, .int 0, .int 0, .null, .null, .null, .null, .null, .null, .null, .null, .null, .null, .null, .null, .null, .null, .int 0, .null, .null, .null, .null, .null, .null, .null, .null, .null, .null, .int 0, .int 0, .int 0, .int 0, .int 0]), .inl (false, 24, fun _ => 0)] 1 24)⟩
  refine ax_X.steps 1 ⟨rfl, (?_ : ax_X ax_Ms ax_Xs no_M_init C _ 6 [some (.ref 0), some (.int x), some (.int y)] [] [.inr (5, [.int 0, .int 0, .int 0, .int 0, .int 0, .ref 1, .null, .null, .null, .null, .null, .null, .null, .null, .null, .null, .null, .null, .null, .int 0, .null, .null, .null, .null, .null, .null, .null, .null, .null, .null, .int 0, .int 0, .int 0, .int 0, .int 0]), .inl (false, 24, fun _ => 0)] 1 24)⟩
  refine ax_X.steps 3 ⟨24, ⟨rfl, by decide⟩, (?_ : ax_X ax_Ms ax_Xs no_M_init C _ 9 [some (.ref 0), some (.int x), some (.int y)] [.ref 2, .ref 0] [.inr (5, [.int 0, .int 0, .int 0, .int 0, .int 0, .ref 1, .null, .null, .null, .null, .null, .null, .null, .null, .null, .null, .null, .null, .null, .int 0, .null, .null, .null, .null, .null, .null, .null, .null, .null, .null, .int 0, .int 0, .int 0, .int 0, .int 0]), .inl (false, 24, fun _ => 0), .inl (false, 24, fun _ => 0)] 2 48)⟩
  refine ax_X.steps 1 ⟨rfl, (?_ : ax_X ax_Ms ax_Xs no_M_init C _ 10 [some (.ref 0), some (.int x), some (.int y)] [] [.inr (5, [.int 0, .int 0, .int 0, .int 0, .int 0, .ref 1, .ref 2, .null, .null, .null, .null, .null, .null, .null, .null, .null, .null, .null, .null, .int 0, .null, .null, .null, .null, .null, .null, .null, .null, .null, .null, .int 0, .int 0, .int 0, .int 0, .int 0]), .inl (false, 24, fun _ => 0), .inl (false, 24, fun _ => 0)] 2 48)⟩
  refine ax_X.steps 3 ⟨24, ⟨rfl, by decide⟩, (?_ : ax_X ax_Ms ax_Xs no_M_init C _ 13 [some (.ref 0), some (.int x), some (.int y)] [.ref 3, .ref 0] [.inr (5, [.int 0, .int 0, .int 0, .int 0, .int 0, .ref 1, .ref 2, .null, .null, .null, .null, .null, .null, .null, .null, .null, .null, .null, .null, .int 0, .null, .null, .null, .null, .null, .null, .null, .null, .null, .null, .int 0, .int 0, .int 0, .int 0, .int 0]), .inl (false, 24, fun _ => 0), .inl (false, 24, fun _ => 0), .inl (false, 24, fun _ => 0)] 3 72)⟩
  refine ax_X.steps 1 ⟨rfl, (?_ : ax_X ax_Ms ax_Xs no_M_init C _ 14 [some (.ref 0), some (.int x), some (.int y)] [] [.inr (5, [.int 0, .int 0, .int 0, .int 0, .int 0, .ref 1, .ref 2, .ref 3, .null, .null, .null, .null, .null, .null, .null, .null, .null, .null, .null, .int 0, .null, .null, .null, .null, .null, .null, .null, .null, .null, .null, .int 0, .int 0, .int 0, .int 0, .int 0]), .inl (false, 24, fun _ => 0), .inl (false, 24, fun _ => 0), .inl (false, 24, fun _ => 0)] 3 72)⟩
  refine ax_X.steps 3 ⟨24, ⟨rfl, by decide⟩, (?_ : ax_X ax_Ms ax_Xs no_M_init C _ 17 [some (.ref 0), some (.int x), some (.int y)] [.ref 4, .ref 0] [.inr (5, [.int 0, .int 0, .int 0, .int 0, .int 0, .ref 1, .ref 2, .ref 3, .null, .null, .null, .null, .null, .null, .null, .null, .null, .null, .null, .int 0, .null, .null, .null, .null, .null, .null, .null, .null, .null, .null, .int 0, .int 0, .int 0, .int 0, .int 0]), .inl (false, 24, fun _ => 0), .inl (false, 24, fun _ => 0), .inl (false, 24, fun _ => 0), .inl (false, 24, fun _ => 0)] 4 96)⟩
  refine ax_X.steps 1 ⟨rfl, (?_ : ax_X ax_Ms ax_Xs no_M_init C _ 18 [some (.ref 0), some (.int x), some (.int y)] [] [.inr (5, [.int 0, .int 0, .int 0, .int 0, .int 0, .ref 1, .ref 2, .ref 3, .ref 4, .null, .null, .null, .null, .null, .null, .null, .null, .null, .null, .int 0, .null, .null, .null, .null, .null, .null, .null, .null, .null, .null, .int 0, .int 0, .int 0, .int 0, .int 0]), .inl (false, 24, fun _ => 0), .inl (false, 24, fun _ => 0), .inl (false, 24, fun _ => 0), .inl (false, 24, fun _ => 0)] 4 96)⟩
  refine ax_X.steps 3 ⟨24, ⟨rfl, by decide⟩, (?_ : ax_X ax_Ms ax_Xs no_M_init C _ 21 [some (.ref 0), some (.int x), some (.int y)] [.ref 5, .ref 0] [.inr (5, [.int 0, .int 0, .int 0, .int 0, .int 0, .ref 1, .ref 2, .ref 3, .ref 4, .null, .null, .null, .null, .null, .null, .null, .null, .null, .null, .int 0, .null, .null, .null, .null, .null, .null, .null, .null, .null, .null, .int 0, .int 0, .int 0, .int 0, .int 0]), .inl (false, 24, fun _ => 0), .inl (false, 24, fun _ => 0), .inl (false, 24, fun _ => 0), .inl (false, 24, fun _ => 0), .inl (false, 24, fun _ => 0)] 5 120)⟩
  refine ax_X.steps 1 ⟨rfl, (?_ : ax_X ax_Ms ax_Xs no_M_init C _ 22 [some (.ref 0), some (.int x), some (.int y)] [] [.inr (5, [.int 0, .int 0, .int 0, .int 0, .int 0, .ref 1, .ref 2, .ref 3, .ref 4, .ref 5, .null, .null, .null, .null, .null, .null, .null, .null, .null, .int 0, .null, .null, .null, .null, .null, .null, .null, .null, .null, .null, .int 0, .int 0, .int 0, .int 0, .int 0]), .inl (false, 24, fun _ => 0), .inl (false, 24, fun _ => 0), .inl (false, 24, fun _ => 0), .inl (false, 24, fun _ => 0), .inl (false, 24, fun _ => 0)] 5 120)⟩
  refine ax_X.steps 3 ⟨24, ⟨rfl, by decide⟩, (?_ : ax_X ax_Ms ax_Xs no_M_init C _ 25 [some (.ref 0), some (.int x), some (.int y)] [.ref 6, .ref 0] [.inr (5, [.int 0, .int 0, .int 0, .int 0, .int 0, .ref 1, .ref 2, .ref 3, .ref 4, .ref 5, .null, .null, .null, .null, .null, .null, .null, .null, .null, .int 0, .null, .null, .null, .null, .null, .null, .null, .null, .null, .null, .int 0, .int 0, .int 0, .int 0, .int 0]), .inl (false, 24, fun _ => 0), .inl (false, 24, fun _ => 0), .inl (false, 24, fun _ => 0), .inl (false, 24, fun _ => 0), .inl (false, 24, fun _ => 0), .inl (false, 24, fun _ => 0)] 6 144)⟩
  refine ax_X.steps 1 ⟨rfl, (?_ : ax_X ax_Ms ax_Xs no_M_init C _ 26 [some (.ref 0), some (.int x), some (.int y)] [] [.inr (5, [.int 0, .int 0, .int 0, .int 0, .int 0, .ref 1, .ref 2, .ref 3, .ref 4, .ref 5, .ref 6, .null, .null, .null, .null, .null, .null, .null, .null, .int 0, .null, .null, .null, .null, .null, .null, .null, .null, .null, .null, .int 0, .int 0, .int 0, .int 0, .int 0]), .inl (false, 24, fun _ => 0), .inl (false, 24, fun _ => 0), .inl (false, 24, fun _ => 0), .inl (false, 24, fun _ => 0), .inl (false, 24, fun _ => 0), .inl (false, 24, fun _ => 0)] 6 144)⟩
  refine ax_X.steps 3 ⟨24, ⟨rfl, by decide⟩, (?_ : ax_X ax_Ms ax_Xs no_M_init C _ 29 [some (.ref 0), some (.int x), some (.int y)] [.ref 7, .ref 0] [.inr (5, [.int 0, .int 0, .int 0, .int 0, .int 0, .ref 1, .ref 2, .ref 3, .ref 4, .ref 5, .ref 6, .null, .null, .null, .null, .null, .null, .null, .null, .int 0, .null, .null, .null, .null, .null, .null, .null, .null, .null, .null, .int 0, .int 0, .int 0, .int 0, .int 0]), .inl (false, 24, fun _ => 0), .inl (false, 24, fun _ => 0), .inl (false, 24, fun _ => 0), .inl (false, 24, fun _ => 0), .inl (false, 24, fun _ => 0), .inl (false, 24, fun _ => 0), .inl (false, 24, fun _ => 0)] 7 168)⟩
  refine ax_X.steps 1 ⟨rfl, (?_ : ax_X ax_Ms ax_Xs no_M_init C _ 30 [some (.ref 0), some (.int x), some (.int y)] [] [.inr (5, [.int 0, .int 0, .int 0, .int 0, .int 0, .ref 1, .ref 2, .ref 3, .ref 4, .ref 5, .ref 6, .ref 7, .null, .null, .null, .null, .null, .null, .null, .int 0, .null, .null, .null, .null, .null, .null, .null, .null, .null, .null, .int 0, .int 0, .int 0, .int 0, .int 0]), .inl (false, 24, fun _ => 0), .inl (false, 24, fun _ => 0), .inl (false, 24, fun _ => 0), .inl (false, 24, fun _ => 0), .inl (false, 24, fun _ => 0), .inl (false, 24, fun _ => 0), .inl (false, 24, fun _ => 0)] 7 168)⟩
  refine ax_X.steps 3 ⟨24, ⟨rfl, by decide⟩, (?_ : ax_X ax_Ms ax_Xs no_M_init C _ 33 [some (.ref 0), some (.int x), some (.int y)] [.ref 8, .ref 0] [.inr (5, [.int 0, .int 0, .int 0, .int 0, .int 0, .ref 1, .ref 2, .ref 3, .ref 4, .ref 5, .ref 6, .ref 7, .null, .null, .null, .null, .null, .null, .null, .int 0, .null, .null, .null, .null, .null, .null, .null, .null, .null, .null, .int 0, .int 0, .int 0, .int 0, .int 0]), .inl (false, 24, fun _ => 0), .inl (false, 24, fun _ => 0), .inl (false, 24, fun _ => 0), .inl (false, 24, fun _ => 0), .inl (false, 24, fun _ => 0), .inl (false, 24, fun _ => 0), .inl (false, 24, fun _ => 0), .inl (false, 24, fun _ => 0)] 8 192)⟩
  refine ax_X.steps 1 ⟨rfl, (?_ : ax_X ax_Ms ax_Xs no_M_init C _ 34 [some (.ref 0), some (.int x), some (.int y)] [] [.inr (5, [.int 0, .int 0, .int 0, .int 0, .int 0, .ref 1, .ref 2, .ref 3, .ref 4, .ref 5, .ref 6, .ref 7, .ref 8, .null, .null, .null, .null, .null, .null, .int 0, .null, .null, .null, .null, .null, .null, .null, .null, .null, .null, .int 0, .int 0, .int 0, .int 0, .int 0]), .inl (false, 24, fun _ => 0), .inl (false, 24, fun _ => 0), .inl (false, 24, fun _ => 0), .inl (false, 24, fun _ => 0), .inl (false, 24, fun _ => 0), .inl (false, 24, fun _ => 0), .inl (false, 24, fun _ => 0), .inl (false, 24, fun _ => 0)] 8 192)⟩
  refine ax_X.steps 3 ⟨24, ⟨rfl, by decide⟩, (?_ : ax_X ax_Ms ax_Xs no_M_init C _ 37 [some (.ref 0), some (.int x), some (.int y)] [.ref 9, .ref 0] [.inr (5, [.int 0, .int 0, .int 0, .int 0, .int 0, .ref 1, .ref 2, .ref 3, .ref 4, .ref 5, .ref 6, .ref 7, .ref 8, .null, .null, .null, .null, .null, .null, .int 0, .null, .null, .null, .null, .null, .null, .null, .null, .null, .null, .int 0, .int 0, .int 0, .int 0, .int 0]), .inl (false, 24, fun _ => 0), .inl (false, 24, fun _ => 0), .inl (false, 24, fun _ => 0), .inl (false, 24, fun _ => 0), .inl (false, 24, fun _ => 0), .inl (false, 24, fun _ => 0), .inl (false, 24, fun _ => 0), .inl (false, 24, fun _ => 0), .inl (true, 24, fun _ => 0)] 9 216)⟩
  refine ax_X.steps 1 ⟨rfl, (?_ : ax_X ax_Ms ax_Xs no_M_init C _ 38 [some (.ref 0), some (.int x), some (.int y)] [] [.inr (5, [.int 0, .int 0, .int 0, .int 0, .int 0, .ref 1, .ref 2, .ref 3, .ref 4, .ref 5, .ref 6, .ref 7, .ref 8, .ref 9, .null, .null, .null, .null, .null, .int 0, .null, .null, .null, .null, .null, .null, .null, .null, .null, .null, .int 0, .int 0, .int 0, .int 0, .int 0]), .inl (false, 24, fun _ => 0), .inl (false, 24, fun _ => 0), .inl (false, 24, fun _ => 0), .inl (false, 24, fun _ => 0), .inl (false, 24, fun _ => 0), .inl (false, 24, fun _ => 0), .inl (false, 24, fun _ => 0), .inl (false, 24, fun _ => 0), .inl (true, 24, fun _ => 0)] 9 216)⟩
  refine ax_X.steps 3 ⟨24, ⟨rfl, by decide⟩, (?_ : ax_X ax_Ms ax_Xs no_M_init C _ 41 [some (.ref 0), some (.int x), some (.int y)] [.ref 10, .ref 0] [.inr (5, [.int 0, .int 0, .int 0, .int 0, .int 0, .ref 1, .ref 2, .ref 3, .ref 4, .ref 5, .ref 6, .ref 7, .ref 8, .ref 9, .null, .null, .null, .null, .null, .int 0, .null, .null, .null, .null, .null, .null, .null, .null, .null, .null, .int 0, .int 0, .int 0, .int 0, .int 0]), .inl (false, 24, fun _ => 0), .inl (false, 24, fun _ => 0), .inl (false, 24, fun _ => 0), .inl (false, 24, fun _ => 0), .inl (false, 24, fun _ => 0), .inl (false, 24, fun _ => 0), .inl (false, 24, fun _ => 0), .inl (false, 24, fun _ => 0), .inl (true, 24, fun _ => 0), .inl (true, 24, fun _ => 0)] 10 240)⟩
  refine ax_X.steps 1 ⟨rfl, (?_ : ax_X ax_Ms ax_Xs no_M_init C _ 42 [some (.ref 0), some (.int x), some (.int y)] [] [.inr (5, [.int 0, .int 0, .int 0, .int 0, .int 0, .ref 1, .ref 2, .ref 3, .ref 4, .ref 5, .ref 6, .ref 7, .ref 8, .ref 9, .ref 10, .null, .null, .null, .null, .int 0, .null, .null, .null, .null, .null, .null, .null, .null, .null, .null, .int 0, .int 0, .int 0, .int 0, .int 0]), .inl (false, 24, fun _ => 0), .inl (false, 24, fun _ => 0), .inl (false, 24, fun _ => 0), .inl (false, 24, fun _ => 0), .inl (false, 24, fun _ => 0), .inl (false, 24, fun _ => 0), .inl (false, 24, fun _ => 0), .inl (false, 24, fun _ => 0), .inl (true, 24, fun _ => 0), .inl (true, 24, fun _ => 0)] 10 240)⟩
  refine ax_X.steps 3 ⟨24, ⟨rfl, by decide⟩, (?_ : ax_X ax_Ms ax_Xs no_M_init C _ 45 [some (.ref 0), some (.int x), some (.int y)] [.ref 11, .ref 0] [.inr (5, [.int 0, .int 0, .int 0, .int 0, .int 0, .ref 1, .ref 2, .ref 3, .ref 4, .ref 5, .ref 6, .ref 7, .ref 8, .ref 9, .ref 10, .null, .null, .null, .null, .int 0, .null, .null, .null, .null, .null, .null, .null, .null, .null, .null, .int 0, .int 0, .int 0, .int 0, .int 0]), .inl (false, 24, fun _ => 0), .inl (false, 24, fun _ => 0), .inl (false, 24, fun _ => 0), .inl (false, 24, fun _ => 0), .inl (false, 24, fun _ => 0), .inl (false, 24, fun _ => 0), .inl (false, 24, fun _ => 0), .inl (false, 24, fun _ => 0), .inl (true, 24, fun _ => 0), .inl (true, 24, fun _ => 0), .inl (true, 24, fun _ => 0)] 11 264)⟩
  refine ax_X.steps 1 ⟨rfl, (?_ : ax_X ax_Ms ax_Xs no_M_init C _ 46 [some (.ref 0), some (.int x), some (.int y)] [] [.inr (5, [.int 0, .int 0, .int 0, .int 0, .int 0, .ref 1, .ref 2, .ref 3, .ref 4, .ref 5, .ref 6, .ref 7, .ref 8, .ref 9, .ref 10, .ref 11, .null, .null, .null, .int 0, .null, .null, .null, .null, .null, .null, .null, .null, .null, .null, .int 0, .int 0, .int 0, .int 0, .int 0]), .inl (false, 24, fun _ => 0), .inl (false, 24, fun _ => 0), .inl (false, 24, fun _ => 0), .inl (false, 24, fun _ => 0), .inl (false, 24, fun _ => 0), .inl (false, 24, fun _ => 0), .inl (false, 24, fun _ => 0), .inl (false, 24, fun _ => 0), .inl (true, 24, fun _ => 0), .inl (true, 24, fun _ => 0), .inl (true, 24, fun _ => 0)] 11 264)⟩
  refine ax_X.steps 3 ⟨4, ⟨rfl, by decide⟩, (?_ : ax_X ax_Ms ax_Xs no_M_init C _ 49 [some (.ref 0), some (.int x), some (.int y)] [.ref 12, .ref 0] [.inr (5, [.int 0, .int 0, .int 0, .int 0, .int 0, .ref 1, .ref 2, .ref 3, .ref 4, .ref 5, .ref 6, .ref 7, .ref 8, .ref 9, .ref 10, .ref 11, .null, .null, .null, .int 0, .null, .null, .null, .null, .null, .null, .null, .null, .null, .null, .int 0, .int 0, .int 0, .int 0, .int 0]), .inl (false, 24, fun _ => 0), .inl (false, 24, fun _ => 0), .inl (false, 24, fun _ => 0), .inl (false, 24, fun _ => 0), .inl (false, 24, fun _ => 0), .inl (false, 24, fun _ => 0), .inl (false, 24, fun _ => 0), .inl (false, 24, fun _ => 0), .inl (true, 24, fun _ => 0), .inl (true, 24, fun _ => 0), .inl (true, 24, fun _ => 0), .inl (true, 4, fun _ => 0)] 12 268)⟩
  refine ax_X.steps 1 ⟨rfl, (?_ : ax_X ax_Ms ax_Xs no_M_init C _ 50 [some (.ref 0), some (.int x), some (.int y)] [] [.inr (5, [.int 0, .int 0, .int 0, .int 0, .int 0, .ref 1, .ref 2, .ref 3, .ref 4, .ref 5, .ref 6, .ref 7, .ref 8, .ref 9, .ref 10, .ref 11, .ref 12, .null, .null, .int 0, .null, .null, .null, .null, .null, .null, .null, .null, .null, .null, .int 0, .int 0, .int 0, .int 0, .int 0]), .inl (false, 24, fun _ => 0), .inl (false, 24, fun _ => 0), .inl (false, 24, fun _ => 0), .inl (false, 24, fun _ => 0), .inl (false, 24, fun _ => 0), .inl (false, 24, fun _ => 0), .inl (false, 24, fun _ => 0), .inl (false, 24, fun _ => 0), .inl (true, 24, fun _ => 0), .inl (true, 24, fun _ => 0), .inl (true, 24, fun _ => 0), .inl (true, 4, fun _ => 0)] 12 268)⟩
  refine ax_X.steps 3 ⟨4, ⟨rfl, by decide⟩, (?_ : ax_X ax_Ms ax_Xs no_M_init C _ 53 [some (.ref 0), some (.int x), some (.int y)] [.ref 13, .ref 0] [.inr (5, [.int 0, .int 0, .int 0, .int 0, .int 0, .ref 1, .ref 2, .ref 3, .ref 4, .ref 5, .ref 6, .ref 7, .ref 8, .ref 9, .ref 10, .ref 11, .ref 12, .null, .null, .int 0, .null, .null, .null, .null, .null, .null, .null, .null, .null, .null, .int 0, .int 0, .int 0, .int 0, .int 0]), .inl (false, 24, fun _ => 0), .inl (false, 24, fun _ => 0), .inl (false, 24, fun _ => 0), .inl (false, 24, fun _ => 0), .inl (false, 24, fun _ => 0), .inl (false, 24, fun _ => 0), .inl (false, 24, fun _ => 0), .inl (false, 24, fun _ => 0), .inl (true, 24, fun _ => 0), .inl (true, 24, fun _ => 0), .inl (true, 24, fun _ => 0), .inl (true, 4, fun _ => 0), .inl (false, 4, fun _ => 0)] 13 272)⟩
  refine ax_X.steps 1 ⟨rfl, (?_ : ax_X ax_Ms ax_Xs no_M_init C _ 54 [some (.ref 0), some (.int x), some (.int y)] [] [.inr (5, [.int 0, .int 0, .int 0, .int 0, .int 0, .ref 1, .ref 2, .ref 3, .ref 4, .ref 5, .ref 6, .ref 7, .ref 8, .ref 9, .ref 10, .ref 11, .ref 12, .ref 13, .null, .int 0, .null, .null, .null, .null, .null, .null, .null, .null, .null, .null, .int 0, .int 0, .int 0, .int 0, .int 0]), .inl (false, 24, fun _ => 0), .inl (false, 24, fun _ => 0), .inl (false, 24, fun _ => 0), .inl (false, 24, fun _ => 0), .inl (false, 24, fun _ => 0), .inl (false, 24, fun _ => 0), .inl (false, 24, fun _ => 0), .inl (false, 24, fun _ => 0), .inl (true, 24, fun _ => 0), .inl (true, 24, fun _ => 0), .inl (true, 24, fun _ => 0), .inl (true, 4, fun _ => 0), .inl (false, 4, fun _ => 0)] 13 272)⟩
  refine ax_X.steps 3 ⟨24, ⟨rfl, by decide⟩, (?_ : ax_X ax_Ms ax_Xs no_M_init C _ 57 [some (.ref 0), some (.int x), some (.int y)] [.ref 14, .ref 0] [.inr (5, [.int 0, .int 0, .int 0, .int 0, .int 0, .ref 1, .ref 2, .ref 3, .ref 4, .ref 5, .ref 6, .ref 7, .ref 8, .ref 9, .ref 10, .ref 11, .ref 12, .ref 13, .null, .int 0, .null, .null, .null, .null, .null, .null, .null, .null, .null, .null, .int 0, .int 0, .int 0, .int 0, .int 0]), .inl (false, 24, fun _ => 0), .inl (false, 24, fun _ => 0), .inl (false, 24, fun _ => 0), .inl (false, 24, fun _ => 0), .inl (false, 24, fun _ => 0), .inl (false, 24, fun _ => 0), .inl (false, 24, fun _ => 0), .inl (false, 24, fun _ => 0), .inl (true, 24, fun _ => 0), .inl (true, 24, fun _ => 0), .inl (true, 24, fun _ => 0), .inl (true, 4, fun _ => 0), .inl (false, 4, fun _ => 0), .inl (false, 24, fun _ => 0)] 14 296)⟩
  refine ax_X.steps 1 ⟨rfl, (?_ : ax_X ax_Ms ax_Xs no_M_init C _ 58 [some (.ref 0), some (.int x), some (.int y)] [] [.inr (5, [.int 0, .int 0, .int 0, .int 0, .int 0, .ref 1, .ref 2, .ref 3, .ref 4, .ref 5, .ref 6, .ref 7, .ref 8, .ref 9, .ref 10, .ref 11, .ref 12, .ref 13, .ref 14, .int 0, .null, .null, .null, .null, .null, .null, .null, .null, .null, .null, .int 0, .int 0, .int 0, .int 0, .int 0]), .inl (false, 24, fun _ => 0), .inl (false, 24, fun _ => 0), .inl (false, 24, fun _ => 0), .inl (false, 24, fun _ => 0), .inl (false, 24, fun _ => 0), .inl (false, 24, fun _ => 0), .inl (false, 24, fun _ => 0), .inl (false, 24, fun _ => 0), .inl (true, 24, fun _ => 0), .inl (true, 24, fun _ => 0), .inl (true, 24, fun _ => 0), .inl (true, 4, fun _ => 0), .inl (false, 4, fun _ => 0), .inl (false, 24, fun _ => 0)] 14 296)⟩
  refine ax_X.steps 3 ⟨24, ⟨rfl, by decide⟩, (?_ : ax_X ax_Ms ax_Xs no_M_init C _ 61 [some (.ref 0), some (.int x), some (.int y)] [.ref 15, .ref 0] [.inr (5, [.int 0, .int 0, .int 0, .int 0, .int 0, .ref 1, .ref 2, .ref 3, .ref 4, .ref 5, .ref 6, .ref 7, .ref 8, .ref 9, .ref 10, .ref 11, .ref 12, .ref 13, .ref 14, .int 0, .null, .null, .null, .null, .null, .null, .null, .null, .null, .null, .int 0, .int 0, .int 0, .int 0, .int 0]), .inl (false, 24, fun _ => 0), .inl (false, 24, fun _ => 0), .inl (false, 24, fun _ => 0), .inl (false, 24, fun _ => 0), .inl (false, 24, fun _ => 0), .inl (false, 24, fun _ => 0), .inl (false, 24, fun _ => 0), .inl (false, 24, fun _ => 0), .inl (true, 24, fun _ => 0), .inl (true, 24, fun _ => 0), .inl (true, 24, fun _ => 0), .inl (true, 4, fun _ => 0), .inl (false, 4, fun _ => 0), .inl (false, 24, fun _ => 0), .inl (false, 24, fun _ => 0)] 15 320)⟩
  refine ax_X.steps 1 ⟨rfl, (?_ : ax_X ax_Ms ax_Xs no_M_init C _ 62 [some (.ref 0), some (.int x), some (.int y)] [] [.inr (5, [.int 0, .int 0, .int 0, .int 0, .int 0, .ref 1, .ref 2, .ref 3, .ref 4, .ref 5, .ref 6, .ref 7, .ref 8, .ref 9, .ref 10, .ref 11, .ref 12, .ref 13, .ref 14, .int 0, .ref 15, .null, .null, .null, .null, .null, .null, .null, .null, .null, .int 0, .int 0, .int 0, .int 0, .int 0]), .inl (false, 24, fun _ => 0), .inl (false, 24, fun _ => 0), .inl (false, 24, fun _ => 0), .inl (false, 24, fun _ => 0), .inl (false, 24, fun _ => 0), .inl (false, 24, fun _ => 0), .inl (false, 24, fun _ => 0), .inl (false, 24, fun _ => 0), .inl (true, 24, fun _ => 0), .inl (true, 24, fun _ => 0), .inl (true, 24, fun _ => 0), .inl (true, 4, fun _ => 0), .inl (false, 4, fun _ => 0), .inl (false, 24, fun _ => 0), .inl (false, 24, fun _ => 0)] 15 320)⟩
  refine ax_X.steps 3 ⟨24, ⟨rfl, by decide⟩, (?_ : ax_X ax_Ms ax_Xs no_M_init C _ 65 [some (.ref 0), some (.int x), some (.int y)] [.ref 16, .ref 0] [.inr (5, [.int 0, .int 0, .int 0, .int 0, .int 0, .ref 1, .ref 2, .ref 3, .ref 4, .ref 5, .ref 6, .ref 7, .ref 8, .ref 9, .ref 10, .ref 11, .ref 12, .ref 13, .ref 14, .int 0, .ref 15, .null, .null, .null, .null, .null, .null, .null, .null, .null, .int 0, .int 0, .int 0, .int 0, .int 0]), .inl (false, 24, fun _ => 0), .inl (false, 24, fun _ => 0), .inl (false, 24, fun _ => 0), .inl (false, 24, fun _ => 0), .inl (false, 24, fun _ => 0), .inl (false, 24, fun _ => 0), .inl (false, 24, fun _ => 0), .inl (false, 24, fun _ => 0), .inl (true, 24, fun _ => 0), .inl (true, 24, fun _ => 0), .inl (true, 24, fun _ => 0), .inl (true, 4, fun _ => 0), .inl (false, 4, fun _ => 0), .inl (false, 24, fun _ => 0), .inl (false, 24, fun _ => 0), .inl (false, 24, fun _ => 0)] 16 344)⟩
  refine ax_X.steps 1 ⟨rfl, (?_ : ax_X ax_Ms ax_Xs no_M_init C _ 66 [some (.ref 0), some (.int x), some (.int y)] [] [.inr (5, [.int 0, .int 0, .int 0, .int 0, .int 0, .ref 1, .ref 2, .ref 3, .ref 4, .ref 5, .ref 6, .ref 7, .ref 8, .ref 9, .ref 10, .ref 11, .ref 12, .ref 13, .ref 14, .int 0, .ref 15, .ref 16, .null, .null, .null, .null, .null, .null, .null, .null, .int 0, .int 0, .int 0, .int 0, .int 0]), .inl (false, 24, fun _ => 0), .inl (false, 24, fun _ => 0), .inl (false, 24, fun _ => 0), .inl (false, 24, fun _ => 0), .inl (false, 24, fun _ => 0), .inl (false, 24, fun _ => 0), .inl (false, 24, fun _ => 0), .inl (false, 24, fun _ => 0), .inl (true, 24, fun _ => 0), .inl (true, 24, fun _ => 0), .inl (true, 24, fun _ => 0), .inl (true, 4, fun _ => 0), .inl (false, 4, fun _ => 0), .inl (false, 24, fun _ => 0), .inl (false, 24, fun _ => 0), .inl (false, 24, fun _ => 0)] 16 344)⟩
  refine ax_X.steps 3 ⟨24, ⟨rfl, by decide⟩, (?_ : ax_X ax_Ms ax_Xs no_M_init C _ 69 [some (.ref 0), some (.int x), some (.int y)] [.ref 17, .ref 0] [.inr (5, [.int 0, .int 0, .int 0, .int 0, .int 0, .ref 1, .ref 2, .ref 3, .ref 4, .ref 5, .ref 6, .ref 7, .ref 8, .ref 9, .ref 10, .ref 11, .ref 12, .ref 13, .ref 14, .int 0, .ref 15, .ref 16, .null, .null, .null, .null, .null, .null, .null, .null, .int 0, .int 0, .int 0, .int 0, .int 0]), .inl (false, 24, fun _ => 0), .inl (false, 24, fun _ => 0), .inl (false, 24, fun _ => 0), .inl (false, 24, fun _ => 0), .inl (false, 24, fun _ => 0), .inl (false, 24, fun _ => 0), .inl (false, 24, fun _ => 0), .inl (false, 24, fun _ => 0), .inl (true, 24, fun _ => 0), .inl (true, 24, fun _ => 0), .inl (true, 24, fun _ => 0), .inl (true, 4, fun _ => 0), .inl (false, 4, fun _ => 0), .inl (false, 24, fun _ => 0), .inl (false, 24, fun _ => 0), .inl (false, 24, fun _ => 0), .inl (false, 24, fun _ => 0)] 17 368)⟩
  refine ax_X.steps 1 ⟨rfl, (?_ : ax_X ax_Ms ax_Xs no_M_init C _ 70 [some (.ref 0), some (.int x), some (.int y)] [] [.inr (5, [.int 0, .int 0, .int 0, .int 0, .int 0, .ref 1, .ref 2, .ref 3, .ref 4, .ref 5, .ref 6, .ref 7, .ref 8, .ref 9, .ref 10, .ref 11, .ref 12, .ref 13, .ref 14, .int 0, .ref 15, .ref 16, .ref 17, .null, .null, .null, .null, .null, .null, .null, .int 0, .int 0, .int 0, .int 0, .int 0]), .inl (false, 24, fun _ => 0), .inl (false, 24, fun _ => 0), .inl (false, 24, fun _ => 0), .inl (false, 24, fun _ => 0), .inl (false, 24, fun _ => 0), .inl (false, 24, fun _ => 0), .inl (false, 24, fun _ => 0), .inl (false, 24, fun _ => 0), .inl (true, 24, fun _ => 0), .inl (true, 24, fun _ => 0), .inl (true, 24, fun _ => 0), .inl (true, 4, fun _ => 0), .inl (false, 4, fun _ => 0), .inl (false, 24, fun _ => 0), .inl (false, 24, fun _ => 0), .inl (false, 24, fun _ => 0), .inl (false, 24, fun _ => 0)] 17 368)⟩
  refine ax_X.steps 3 ⟨24, ⟨rfl, by decide⟩, (?_ : ax_X ax_Ms ax_Xs no_M_init C _ 73 [some (.ref 0), some (.int x), some (.int y)] [.ref 18, .ref 0] [.inr (5, [.int 0, .int 0, .int 0, .int 0, .int 0, .ref 1, .ref 2, .ref 3, .ref 4, .ref 5, .ref 6, .ref 7, .ref 8, .ref 9, .ref 10, .ref 11, .ref 12, .ref 13, .ref 14, .int 0, .ref 15, .ref 16, .ref 17, .null, .null, .null, .null, .null, .null, .null, .int 0, .int 0, .int 0, .int 0, .int 0]), .inl (false, 24, fun _ => 0), .inl (false, 24, fun _ => 0), .inl (false, 24, fun _ => 0), .inl (false, 24, fun _ => 0), .inl (false, 24, fun _ => 0), .inl (false, 24, fun _ => 0), .inl (false, 24, fun _ => 0), .inl (false, 24, fun _ => 0), .inl (true, 24, fun _ => 0), .inl (true, 24, fun _ => 0), .inl (true, 24, fun _ => 0), .inl (true, 4, fun _ => 0), .inl (false, 4, fun _ => 0), .inl (false, 24, fun _ => 0), .inl (false, 24, fun _ => 0), .inl (false, 24, fun _ => 0), .inl (false, 24, fun _ => 0), .inl (false, 24, fun _ => 0)] 18 392)⟩
  refine ax_X.steps 1 ⟨rfl, (?_ : ax_X ax_Ms ax_Xs no_M_init C _ 74 [some (.ref 0), some (.int x), some (.int y)] [] [.inr (5, [.int 0, .int 0, .int 0, .int 0, .int 0, .ref 1, .ref 2, .ref 3, .ref 4, .ref 5, .ref 6, .ref 7, .ref 8, .ref 9, .ref 10, .ref 11, .ref 12, .ref 13, .ref 14, .int 0, .ref 15, .ref 16, .ref 17, .ref 18, .null, .null, .null, .null, .null, .null, .int 0, .int 0, .int 0, .int 0, .int 0]), .inl (false, 24, fun _ => 0), .inl (false, 24, fun _ => 0), .inl (false, 24, fun _ => 0), .inl (false, 24, fun _ => 0), .inl (false, 24, fun _ => 0), .inl (false, 24, fun _ => 0), .inl (false, 24, fun _ => 0), .inl (false, 24, fun _ => 0), .inl (true, 24, fun _ => 0), .inl (true, 24, fun _ => 0), .inl (true, 24, fun _ => 0), .inl (true, 4, fun _ => 0), .inl (false, 4, fun _ => 0), .inl (false, 24, fun _ => 0), .inl (false, 24, fun _ => 0), .inl (false, 24, fun _ => 0), .inl (false, 24, fun _ => 0), .inl (false, 24, fun _ => 0)] 18 392)⟩
  refine ax_X.steps 3 ⟨24, ⟨rfl, by decide⟩, (?_ : ax_X ax_Ms ax_Xs no_M_init C _ 77 [some (.ref 0), some (.int x), some (.int y)] [.ref 19, .ref 0] [.inr (5, [.int 0, .int 0, .int 0, .int 0, .int 0, .ref 1, .ref 2, .ref 3, .ref 4, .ref 5, .ref 6, .ref 7, .ref 8, .ref 9, .ref 10, .ref 11, .ref 12, .ref 13, .ref 14, .int 0, .ref 15, .ref 16, .ref 17, .ref 18, .null, .null, .null, .null, .null, .null, .int 0, .int 0, .int 0, .int 0, .int 0]), .inl (false, 24, fun _ => 0), .inl (false, 24, fun _ => 0), .inl (false, 24, fun _ => 0), .inl (false, 24, fun _ => 0), .inl (false, 24, fun _ => 0), .inl (false, 24, fun _ => 0), .inl (false, 24, fun _ => 0), .inl (false, 24, fun _ => 0), .inl (true, 24, fun _ => 0), .inl (true, 24, fun _ => 0), .inl (true, 24, fun _ => 0), .inl (true, 4, fun _ => 0), .inl (false, 4, fun _ => 0), .inl (false, 24, fun _ => 0), .inl (false, 24, fun _ => 0), .inl (false, 24, fun _ => 0), .inl (false, 24, fun _ => 0), .inl (false, 24, fun _ => 0), .inl (false, 24, fun _ => 0)] 19 416)⟩
  refine ax_X.steps 1 ⟨rfl, (?_ : ax_X ax_Ms ax_Xs no_M_init C _ 78 [some (.ref 0), some (.int x), some (.int y)] [] [.inr (5, [.int 0, .int 0, .int 0, .int 0, .int 0, .ref 1, .ref 2, .ref 3, .ref 4, .ref 5, .ref 6, .ref 7, .ref 8, .ref 9, .ref 10, .ref 11, .ref 12, .ref 13, .ref 14, .int 0, .ref 15, .ref 16, .ref 17, .ref 18, .ref 19, .null, .null, .null, .null, .null, .int 0, .int 0, .int 0, .int 0, .int 0]), .inl (false, 24, fun _ => 0), .inl (false, 24, fun _ => 0), .inl (false, 24, fun _ => 0), .inl (false, 24, fun _ => 0), .inl (false, 24, fun _ => 0), .inl (false, 24, fun _ => 0), .inl (false, 24, fun _ => 0), .inl (false, 24, fun _ => 0), .inl (true, 24, fun _ => 0), .inl (true, 24, fun _ => 0), .inl (true, 24, fun _ => 0), .inl (true, 4, fun _ => 0), .inl (false, 4, fun _ => 0), .inl (false, 24, fun _ => 0), .inl (false, 24, fun _ => 0), .inl (false, 24, fun _ => 0), .inl (false, 24, fun _ => 0), .inl (false, 24, fun _ => 0), .inl (false, 24, fun _ => 0)] 19 416)⟩
  refine ax_X.steps 3 ⟨24, ⟨rfl, by decide⟩, (?_ : ax_X ax_Ms ax_Xs no_M_init C _ 81 [some (.ref 0), some (.int x), some (.int y)] [.ref 20, .ref 0] [.inr (5, [.int 0, .int 0, .int 0, .int 0, .int 0, .ref 1, .ref 2, .ref 3, .ref 4, .ref 5, .ref 6, .ref 7, .ref 8, .ref 9, .ref 10, .ref 11, .ref 12, .ref 13, .ref 14, .int 0, .ref 15, .ref 16, .ref 17, .ref 18, .ref 19, .null, .null, .null, .null, .null, .int 0, .int 0, .int 0, .int 0, .int 0]), .inl (false, 24, fun _ => 0), .inl (false, 24, fun _ => 0), .inl (false, 24, fun _ => 0), .inl (false, 24, fun _ => 0), .inl (false, 24, fun _ => 0), .inl (false, 24, fun _ => 0), .inl (false, 24, fun _ => 0), .inl (false, 24, fun _ => 0), .inl (true, 24, fun _ => 0), .inl (true, 24, fun _ => 0), .inl (true, 24, fun _ => 0), .inl (true, 4, fun _ => 0), .inl (false, 4, fun _ => 0), .inl (false, 24, fun _ => 0), .inl (false, 24, fun _ => 0), .inl (false, 24, fun _ => 0), .inl (false, 24, fun _ => 0), .inl (false, 24, fun _ => 0), .inl (false, 24, fun _ => 0), .inl (false, 24, fun _ => 0)] 20 440)⟩
  refine ax_X.steps 1 ⟨rfl, (?_ : ax_X ax_Ms ax_Xs no_M_init C _ 82 [some (.ref 0), some (.int x), some (.int y)] [] [.inr (5, [.int 0, .int 0, .int 0, .int 0, .int 0, .ref 1, .ref 2, .ref 3, .ref 4, .ref 5, .ref 6, .ref 7, .ref 8, .ref 9, .ref 10, .ref 11, .ref 12, .ref 13, .ref 14, .int 0, .ref 15, .ref 16, .ref 17, .ref 18, .ref 19, .ref 20, .null, .null, .null, .null, .int 0, .int 0, .int 0, .int 0, .int 0]), .inl (false, 24, fun _ => 0), .inl (false, 24, fun _ => 0), .inl (false, 24, fun _ => 0), .inl (false, 24, fun _ => 0), .inl (false, 24, fun _ => 0), .inl (false, 24, fun _ => 0), .inl (false, 24, fun _ => 0), .inl (false, 24, fun _ => 0), .inl (true, 24, fun _ => 0), .inl (true, 24, fun _ => 0), .inl (true, 24, fun _ => 0), .inl (true, 4, fun _ => 0), .inl (false, 4, fun _ => 0), .inl (false, 24, fun _ => 0), .inl (false, 24, fun _ => 0), .inl (false, 24, fun _ => 0), .inl (false, 24, fun _ => 0), .inl (false, 24, fun _ => 0), .inl (false, 24, fun _ => 0), .inl (false, 24, fun _ => 0)] 20 440)⟩
  refine ax_X.steps 3 ⟨24, ⟨rfl, by decide⟩, (?_ : ax_X ax_Ms ax_Xs no_M_init C _ 85 [some (.ref 0), some (.int x), some (.int y)] [.ref 21, .ref 0] [.inr (5, [.int 0, .int 0, .int 0, .int 0, .int 0, .ref 1, .ref 2, .ref 3, .ref 4, .ref 5, .ref 6, .ref 7, .ref 8, .ref 9, .ref 10, .ref 11, .ref 12, .ref 13, .ref 14, .int 0, .ref 15, .ref 16, .ref 17, .ref 18, .ref 19, .ref 20, .null, .null, .null, .null, .int 0, .int 0, .int 0, .int 0, .int 0]), .inl (false, 24, fun _ => 0), .inl (false, 24, fun _ => 0), .inl (false, 24, fun _ => 0), .inl (false, 24, fun _ => 0), .inl (false, 24, fun _ => 0), .inl (false, 24, fun _ => 0), .inl (false, 24, fun _ => 0), .inl (false, 24, fun _ => 0), .inl (true, 24, fun _ => 0), .inl (true, 24, fun _ => 0), .inl (true, 24, fun _ => 0), .inl (true, 4, fun _ => 0), .inl (false, 4, fun _ => 0), .inl (false, 24, fun _ => 0), .inl (false, 24, fun _ => 0), .inl (false, 24, fun _ => 0), .inl (false, 24, fun _ => 0), .inl (false, 24, fun _ => 0), .inl (false, 24, fun _ => 0), .inl (false, 24, fun _ => 0), .inl (false, 24, fun _ => 0)] 21 464)⟩
  refine ax_X.steps 1 ⟨rfl, (?_ : ax_X ax_Ms ax_Xs no_M_init C _ 86 [some (.ref 0), some (.int x), some (.int y)] [] [.inr (5, [.int 0, .int 0, .int 0, .int 0, .int 0, .ref 1, .ref 2, .ref 3, .ref 4, .ref 5, .ref 6, .ref 7, .ref 8, .ref 9, .ref 10, .ref 11, .ref 12, .ref 13, .ref 14, .int 0, .ref 15, .ref 16, .ref 17, .ref 18, .ref 19, .ref 20, .ref 21, .null, .null, .null, .int 0, .int 0, .int 0, .int 0, .int 0]), .inl (false, 24, fun _ => 0), .inl (false, 24, fun _ => 0), .inl (false, 24, fun _ => 0), .inl (false, 24, fun _ => 0), .inl (false, 24, fun _ => 0), .inl (false, 24, fun _ => 0), .inl (false, 24, fun _ => 0), .inl (false, 24, fun _ => 0), .inl (true, 24, fun _ => 0), .inl (true, 24, fun _ => 0), .inl (true, 24, fun _ => 0), .inl (true, 4, fun _ => 0), .inl (false, 4, fun _ => 0), .inl (false, 24, fun _ => 0), .inl (false, 24, fun _ => 0), .inl (false, 24, fun _ => 0), .inl (false, 24, fun _ => 0), .inl (false, 24, fun _ => 0), .inl (false, 24, fun _ => 0), .inl (false, 24, fun _ => 0), .inl (false, 24, fun _ => 0)] 21 464)⟩
  refine ax_X.steps 3 ⟨24, ⟨rfl, by decide⟩, (?_ : ax_X ax_Ms ax_Xs no_M_init C _ 89 [some (.ref 0), some (.int x), some (.int y)] [.ref 22, .ref 0] [.inr (5, [.int 0, .int 0, .int 0, .int 0, .int 0, .ref 1, .ref 2, .ref 3, .ref 4, .ref 5, .ref 6, .ref 7, .ref 8, .ref 9, .ref 10, .ref 11, .ref 12, .ref 13, .ref 14, .int 0, .ref 15, .ref 16, .ref 17, .ref 18, .ref 19, .ref 20, .ref 21, .null, .null, .null, .int 0, .int 0, .int 0, .int 0, .int 0]), .inl (false, 24, fun _ => 0), .inl (false, 24, fun _ => 0), .inl (false, 24, fun _ => 0), .inl (false, 24, fun _ => 0), .inl (false, 24, fun _ => 0), .inl (false, 24, fun _ => 0), .inl (false, 24, fun _ => 0), .inl (false, 24, fun _ => 0), .inl (true, 24, fun _ => 0), .inl (true, 24, fun _ => 0), .inl (true, 24, fun _ => 0), .inl (true, 4, fun _ => 0), .inl (false, 4, fun _ => 0), .inl (false, 24, fun _ => 0), .inl (false, 24, fun _ => 0), .inl (false, 24, fun _ => 0), .inl (false, 24, fun _ => 0), .inl (false, 24, fun _ => 0), .inl (false, 24, fun _ => 0), .inl (false, 24, fun _ => 0), .inl (false, 24, fun _ => 0), .inl (false, 24, fun _ => 0)] 22 488)⟩
  refine ax_X.steps 1 ⟨rfl, (?_ : ax_X ax_Ms ax_Xs no_M_init C _ 90 [some (.ref 0), some (.int x), some (.int y)] [] [.inr (5, [.int 0, .int 0, .int 0, .int 0, .int 0, .ref 1, .ref 2, .ref 3, .ref 4, .ref 5, .ref 6, .ref 7, .ref 8, .ref 9, .ref 10, .ref 11, .ref 12, .ref 13, .ref 14, .int 0, .ref 15, .ref 16, .ref 17, .ref 18, .ref 19, .ref 20, .ref 21, .ref 22, .null, .null, .int 0, .int 0, .int 0, .int 0, .int 0]), .inl (false, 24, fun _ => 0), .inl (false, 24, fun _ => 0), .inl (false, 24, fun _ => 0), .inl (false, 24, fun _ => 0), .inl (false, 24, fun _ => 0), .inl (false, 24, fun _ => 0), .inl (false, 24, fun _ => 0), .inl (false, 24, fun _ => 0), .inl (true, 24, fun _ => 0), .inl (true, 24, fun _ => 0), .inl (true, 24, fun _ => 0), .inl (true, 4, fun _ => 0), .inl (false, 4, fun _ => 0), .inl (false, 24, fun _ => 0), .inl (false, 24, fun _ => 0), .inl (false, 24, fun _ => 0), .inl (false, 24, fun _ => 0), .inl (false, 24, fun _ => 0), .inl (false, 24, fun _ => 0), .inl (false, 24, fun _ => 0), .inl (false, 24, fun _ => 0), .inl (false, 24, fun _ => 0)] 22 488)⟩
  refine ax_X.steps 3 ⟨24, ⟨rfl, by decide⟩, (?_ : ax_X ax_Ms ax_Xs no_M_init C _ 93 [some (.ref 0), some (.int x), some (.int y)] [.ref 23, .ref 0] [.inr (5, [.int 0, .int 0, .int 0, .int 0, .int 0, .ref 1, .ref 2, .ref 3, .ref 4, .ref 5, .ref 6, .ref 7, .ref 8, .ref 9, .ref 10, .ref 11, .ref 12, .ref 13, .ref 14, .int 0, .ref 15, .ref 16, .ref 17, .ref 18, .ref 19, .ref 20, .ref 21, .ref 22, .null, .null, .int 0, .int 0, .int 0, .int 0, .int 0]), .inl (false, 24, fun _ => 0), .inl (false, 24, fun _ => 0), .inl (false, 24, fun _ => 0), .inl (false, 24, fun _ => 0), .inl (false, 24, fun _ => 0), .inl (false, 24, fun _ => 0), .inl (false, 24, fun _ => 0), .inl (false, 24, fun _ => 0), .inl (true, 24, fun _ => 0), .inl (true, 24, fun _ => 0), .inl (true, 24, fun _ => 0), .inl (true, 4, fun _ => 0), .inl (false, 4, fun _ => 0), .inl (false, 24, fun _ => 0), .inl (false, 24, fun _ => 0), .inl (false, 24, fun _ => 0), .inl (false, 24, fun _ => 0), .inl (false, 24, fun _ => 0), .inl (false, 24, fun _ => 0), .inl (false, 24, fun _ => 0), .inl (false, 24, fun _ => 0), .inl (false, 24, fun _ => 0), .inl (true, 24, fun _ => 0)] 23 512)⟩
  refine ax_X.steps 1 ⟨rfl, (?_ : ax_X ax_Ms ax_Xs no_M_init C _ 94 [some (.ref 0), some (.int x), some (.int y)] [] [.inr (5, [.int 0, .int 0, .int 0, .int 0, .int 0, .ref 1, .ref 2, .ref 3, .ref 4, .ref 5, .ref 6, .ref 7, .ref 8, .ref 9, .ref 10, .ref 11, .ref 12, .ref 13, .ref 14, .int 0, .ref 15, .ref 16, .ref 17, .ref 18, .ref 19, .ref 20, .ref 21, .ref 22, .ref 23, .null, .int 0, .int 0, .int 0, .int 0, .int 0]), .inl (false, 24, fun _ => 0), .inl (false, 24, fun _ => 0), .inl (false, 24, fun _ => 0), .inl (false, 24, fun _ => 0), .inl (false, 24, fun _ => 0), .inl (false, 24, fun _ => 0), .inl (false, 24, fun _ => 0), .inl (false, 24, fun _ => 0), .inl (true, 24, fun _ => 0), .inl (true, 24, fun _ => 0), .inl (true, 24, fun _ => 0), .inl (true, 4, fun _ => 0), .inl (false, 4, fun _ => 0), .inl (false, 24, fun _ => 0), .inl (false, 24, fun _ => 0), .inl (false, 24, fun _ => 0), .inl (false, 24, fun _ => 0), .inl (false, 24, fun _ => 0), .inl (false, 24, fun _ => 0), .inl (false, 24, fun _ => 0), .inl (false, 24, fun _ => 0), .inl (false, 24, fun _ => 0), .inl (true, 24, fun _ => 0)] 23 512)⟩
  refine ax_X.steps 3 ⟨100, ⟨rfl, by decide⟩, (?_ : ax_X ax_Ms ax_Xs no_M_init C _ 97 [some (.ref 0), some (.int x), some (.int y)] [.ref 24, .ref 0] [.inr (5, [.int 0, .int 0, .int 0, .int 0, .int 0, .ref 1, .ref 2, .ref 3, .ref 4, .ref 5, .ref 6, .ref 7, .ref 8, .ref 9, .ref 10, .ref 11, .ref 12, .ref 13, .ref 14, .int 0, .ref 15, .ref 16, .ref 17, .ref 18, .ref 19, .ref 20, .ref 21, .ref 22, .ref 23, .null, .int 0, .int 0, .int 0, .int 0, .int 0]), .inl (false, 24, fun _ => 0), .inl (false, 24, fun _ => 0), .inl (false, 24, fun _ => 0), .inl (false, 24, fun _ => 0), .inl (false, 24, fun _ => 0), .inl (false, 24, fun _ => 0), .inl (false, 24, fun _ => 0), .inl (false, 24, fun _ => 0), .inl (true, 24, fun _ => 0), .inl (true, 24, fun _ => 0), .inl (true, 24, fun _ => 0), .inl (true, 4, fun _ => 0), .inl (false, 4, fun _ => 0), .inl (false, 24, fun _ => 0), .inl (false, 24, fun _ => 0), .inl (false, 24, fun _ => 0), .inl (false, 24, fun _ => 0), .inl (false, 24, fun _ => 0), .inl (false, 24, fun _ => 0), .inl (false, 24, fun _ => 0), .inl (false, 24, fun _ => 0), .inl (false, 24, fun _ => 0), .inl (true, 24, fun _ => 0), .inl (false, 100, fun _ => 0)] 24 612)⟩
  refine ax_X.steps 1 ⟨rfl, (?_ : ax_X ax_Ms ax_Xs no_M_init C _ 98 [some (.ref 0), some (.int x), some (.int y)] [] [.inr (5, [.int 0, .int 0, .int 0, .int 0, .int 0, .ref 1, .ref 2, .ref 3, .ref 4, .ref 5, .ref 6, .ref 7, .ref 8, .ref 9, .ref 10, .ref 11, .ref 12, .ref 13, .ref 14, .int 0, .ref 15, .ref 16, .ref 17, .ref 18, .ref 19, .ref 20, .ref 21, .ref 22, .ref 23, .ref 24, .int 0, .int 0, .int 0, .int 0, .int 0]), .inl (false, 24, fun _ => 0), .inl (false, 24, fun _ => 0), .inl (false, 24, fun _ => 0), .inl (false, 24, fun _ => 0), .inl (false, 24, fun _ => 0), .inl (false, 24, fun _ => 0), .inl (false, 24, fun _ => 0), .inl (false, 24, fun _ => 0), .inl (true, 24, fun _ => 0), .inl (true, 24, fun _ => 0), .inl (true, 24, fun _ => 0), .inl (true, 4, fun _ => 0), .inl (false, 4, fun _ => 0), .inl (false, 24, fun _ => 0), .inl (false, 24, fun _ => 0), .inl (false, 24, fun _ => 0), .inl (false, 24, fun _ => 0), .inl (false, 24, fun _ => 0), .inl (false, 24, fun _ => 0), .inl (false, 24, fun _ => 0), .inl (false, 24, fun _ => 0), .inl (false, 24, fun _ => 0), .inl (true, 24, fun _ => 0), .inl (false, 100, fun _ => 0)] 24 612)⟩
  refine ax_X.steps 5 (ax_go (hN _ _ _ _) (?_ : ax_X ax_Ms ax_Xs no_M_init C _ 103 [some (.ref 0), some (.int x), some (.int y)] [.int (heldI x 1 16), .ref 0] [.inr (5, [.int 0, .int 0, .int 0, .int 0, .int 0, .ref 1, .ref 2, .ref 3, .ref 4, .ref 5, .ref 6, .ref 7, .ref 8, .ref 9, .ref 10, .ref 11, .ref 12, .ref 13, .ref 14, .int 0, .ref 15, .ref 16, .ref 17, .ref 18, .ref 19, .ref 20, .ref 21, .ref 22, .ref 23, .ref 24, .int 0, .int 0, .int 0, .int 0, .int 0]), .inl (false, 24, fun _ => 0), .inl (false, 24, fun _ => 0), .inl (false, 24, fun _ => 0), .inl (false, 24, fun _ => 0), .inl (false, 24, fun _ => 0), .inl (false, 24, fun _ => 0), .inl (false, 24, fun _ => 0), .inl (false, 24, fun _ => 0), .inl (true, 24, fun _ => 0), .inl (true, 24, fun _ => 0), .inl (true, 24, fun _ => 0), .inl (true, 4, fun _ => 0), .inl (false, 4, fun _ => 0), .inl (false, 24, fun _ => 0), .inl (false, 24, fun _ => 0), .inl (false, 24, fun _ => 0), .inl (false, 24, fun _ => 0), .inl (false, 24, fun _ => 0), .inl (false, 24, fun _ => 0), .inl (false, 24, fun _ => 0), .inl (false, 24, fun _ => 0), .inl (false, 24, fun _ => 0), .inl (true, 24, fun _ => 0), .inl (false, 100, fun _ => 0)] 24 612))
  refine ax_X.steps 1 ⟨Or.inl rfl, (?_ : ax_X ax_Ms ax_Xs no_M_init C _ 104 [some (.ref 0), some (.int x), some (.int y)] [] [.inr (5, [.int 0, .int (heldI x 1 16), .int 0, .int 0, .int 0, .ref 1, .ref 2, .ref 3, .ref 4, .ref 5, .ref 6, .ref 7, .ref 8, .ref 9, .ref 10, .ref 11, .ref 12, .ref 13, .ref 14, .int 0, .ref 15, .ref 16, .ref 17, .ref 18, .ref 19, .ref 20, .ref 21, .ref 22, .ref 23, .ref 24, .int 0, .int 0, .int 0, .int 0, .int 0]), .inl (false, 24, fun _ => 0), .inl (false, 24, fun _ => 0), .inl (false, 24, fun _ => 0), .inl (false, 24, fun _ => 0), .inl (false, 24, fun _ => 0), .inl (false, 24, fun _ => 0), .inl (false, 24, fun _ => 0), .inl (false, 24, fun _ => 0), .inl (true, 24, fun _ => 0), .inl (true, 24, fun _ => 0), .inl (true, 24, fun _ => 0), .inl (true, 4, fun _ => 0), .inl (false, 4, fun _ => 0), .inl (false, 24, fun _ => 0), .inl (false, 24, fun _ => 0), .inl (false, 24, fun _ => 0), .inl (false, 24, fun _ => 0), .inl (false, 24, fun _ => 0), .inl (false, 24, fun _ => 0), .inl (false, 24, fun _ => 0), .inl (false, 24, fun _ => 0), .inl (false, 24, fun _ => 0), .inl (true, 24, fun _ => 0), .inl (false, 100, fun _ => 0)] 24 612)⟩
  refine ax_X.steps 5 (ax_go (hN _ _ _ _) (?_ : ax_X ax_Ms ax_Xs no_M_init C _ 109 [some (.ref 0), some (.int x), some (.int y)] [.int (heldI y 0 1000000), .ref 0] [.inr (5, [.int 0, .int (heldI x 1 16), .int 0, .int 0, .int 0, .ref 1, .ref 2, .ref 3, .ref 4, .ref 5, .ref 6, .ref 7, .ref 8, .ref 9, .ref 10, .ref 11, .ref 12, .ref 13, .ref 14, .int 0, .ref 15, .ref 16, .ref 17, .ref 18, .ref 19, .ref 20, .ref 21, .ref 22, .ref 23, .ref 24, .int 0, .int 0, .int 0, .int 0, .int 0]), .inl (false, 24, fun _ => 0), .inl (false, 24, fun _ => 0), .inl (false, 24, fun _ => 0), .inl (false, 24, fun _ => 0), .inl (false, 24, fun _ => 0), .inl (false, 24, fun _ => 0), .inl (false, 24, fun _ => 0), .inl (false, 24, fun _ => 0), .inl (true, 24, fun _ => 0), .inl (true, 24, fun _ => 0), .inl (true, 24, fun _ => 0), .inl (true, 4, fun _ => 0), .inl (false, 4, fun _ => 0), .inl (false, 24, fun _ => 0), .inl (false, 24, fun _ => 0), .inl (false, 24, fun _ => 0), .inl (false, 24, fun _ => 0), .inl (false, 24, fun _ => 0), .inl (false, 24, fun _ => 0), .inl (false, 24, fun _ => 0), .inl (false, 24, fun _ => 0), .inl (false, 24, fun _ => 0), .inl (true, 24, fun _ => 0), .inl (false, 100, fun _ => 0)] 24 612))
  refine ax_X.steps 1 ⟨Or.inl rfl, (?_ : ax_X ax_Ms ax_Xs no_M_init C _ 110 [some (.ref 0), some (.int x), some (.int y)] [] [.inr (5, [.int 0, .int (heldI x 1 16), .int (heldI y 0 1000000), .int 0, .int 0, .ref 1, .ref 2, .ref 3, .ref 4, .ref 5, .ref 6, .ref 7, .ref 8, .ref 9, .ref 10, .ref 11, .ref 12, .ref 13, .ref 14, .int 0, .ref 15, .ref 16, .ref 17, .ref 18, .ref 19, .ref 20, .ref 21, .ref 22, .ref 23, .ref 24, .int 0, .int 0, .int 0, .int 0, .int 0]), .inl (false, 24, fun _ => 0), .inl (false, 24, fun _ => 0), .inl (false, 24, fun _ => 0), .inl (false, 24, fun _ => 0), .inl (false, 24, fun _ => 0), .inl (false, 24, fun _ => 0), .inl (false, 24, fun _ => 0), .inl (false, 24, fun _ => 0), .inl (true, 24, fun _ => 0), .inl (true, 24, fun _ => 0), .inl (true, 24, fun _ => 0), .inl (true, 4, fun _ => 0), .inl (false, 4, fun _ => 0), .inl (false, 24, fun _ => 0), .inl (false, 24, fun _ => 0), .inl (false, 24, fun _ => 0), .inl (false, 24, fun _ => 0), .inl (false, 24, fun _ => 0), .inl (false, 24, fun _ => 0), .inl (false, 24, fun _ => 0), .inl (false, 24, fun _ => 0), .inl (false, 24, fun _ => 0), .inl (true, 24, fun _ => 0), .inl (false, 100, fun _ => 0)] 24 612)⟩
  exact ax_X.steps 1 ⟨rfl, rfl⟩
end
section
/-! The class: the house, and loops that only look. -/
def clF (f : Nat → Int32) : Nat → Int32 := va_up (va_up (va_up (va_up (va_up (va_up f 3 0) 4 0) 5 0) 6 0) 7 0) 8 0
def tkF (f : Nat → Int32) (c m l : Int32) : Nat → Int32 := va_up (va_up (va_up (va_up (va_up f 3 (f 3 + c)) 4 (f 4 + m)) 5 (f 5 ||| l)) 7 (mxI (f 7) (f 3 + c))) 8 (mxI (f 8) (f 4 + m))
def gbF (f : Nat → Int32) (c m l : Int32) : Nat → Int32 := va_up (va_up (va_up f 3 (f 3 - c)) 4 (f 4 - m)) 5 (f 5 &&& (l ^^^ (-1)))
def tsB (f : Nat → Int32) (c m : Int32) : Bool := decide (f 0 < c) || decide (f 1 < m)
def frB (f : Nat → Int32) (c m l : Int32) : Bool := decide (c ≤ f 0 - f 3) && (decide (m ≤ f 1 - f 4) && decide (l &&& f 5 = 0))
def Sp_H_clear (C : ax_O) : Prop := ∀ (f : Nat → Int32) (n : Nat) (t : Nat → Nat → Int32) (u : Int32) (b : Nat), C no_H_clear [.ref 1] (oH f n t u b) (ax_is none (oH (clF f) n t u b))
theorem p_H_clear {C : ax_O} : Sp_H_clear (ax_B ax_Ms ax_Xs C) := by
  intro f n t u b
  refine ax_X.steps 3 ⟨Or.inl rfl, ?_⟩
  refine ax_X.steps 3 ⟨Or.inl rfl, ?_⟩
  refine ax_X.steps 3 ⟨Or.inl rfl, ?_⟩
  refine ax_X.steps 3 ⟨Or.inl rfl, ?_⟩
  refine ax_X.steps 3 ⟨Or.inl rfl, ?_⟩
  refine ax_X.steps 3 ⟨Or.inl rfl, ?_⟩
  exact ax_X.steps 1 (⟨rfl, rfl⟩)
def Sp_H_take (C : ax_O) : Prop := ∀ (f : Nat → Int32) (n : Nat) (t : Nat → Nat → Int32) (u : Int32) (b : Nat) (c m l : Int32), C no_H_take [.ref 1, .int c, .int m, .int l] (oH f n t u b) (ax_is none (oH (tkF f c m l) n t u b))
theorem p_H_take {C : ax_O} : Sp_H_take (ax_B ax_Ms ax_Xs C) := by
  intro f n t u b c m l
  refine ax_X.steps 6 ⟨Or.inl rfl, ?_⟩
  refine ax_X.steps 6 ⟨Or.inl rfl, ?_⟩
  refine ax_X.steps 6 ⟨Or.inl rfl, ?_⟩
  refine ax_X.steps 7 ⟨Or.inl rfl, ?_⟩
  refine ax_X.steps 7 ⟨Or.inl rfl, ?_⟩
  exact ax_X.steps 1 (⟨rfl, rfl⟩)
def Sp_H_giveBack (C : ax_O) : Prop := ∀ (f : Nat → Int32) (n : Nat) (t : Nat → Nat → Int32) (u : Int32) (b : Nat) (c m l : Int32), C no_H_giveBack [.ref 1, .int c, .int m, .int l] (oH f n t u b) (ax_is none (oH (gbF f c m l) n t u b))
theorem p_H_giveBack {C : ax_O} : Sp_H_giveBack (ax_B ax_Ms ax_Xs C) := by
  intro f n t u b c m l
  refine ax_X.steps 6 ⟨Or.inl rfl, ?_⟩
  refine ax_X.steps 6 ⟨Or.inl rfl, ?_⟩
  refine ax_X.steps 8 ⟨Or.inl rfl, ?_⟩
  exact ax_X.steps 1 (⟨rfl, rfl⟩)
def Sp_H_isTooSmallFor (C : ax_O) : Prop := ∀ (f : Nat → Int32) (n : Nat) (t : Nat → Nat → Int32) (u : Int32) (b : Nat) (c m : Int32), C no_H_isTooSmallFor [.ref 1, .int c, .int m] (oH f n t u b) (ax_is (some (.int (bI (tsB f c m)))) (oH f n t u b))
theorem p_H_isTooSmallFor {C : ax_O} : Sp_H_isTooSmallFor (ax_B ax_Ms ax_Xs C) := by
  intro f n t u b c m
  unfold tsB
  refine ax_X.steps 4 (ax_br2 (fun c3 => ?_) (fun c3 => ?_))
  · exact ax_X.steps 3 ⟨Or.inr (Or.inr rfl), by rw [decide_eq_true (show f 0 < c from c3)]; rfl, rfl⟩
  · refine ax_X.steps 4 (ax_br2 (fun c7 => ?_) (fun c7 => ?_))
    · exact ax_X.steps 2 ⟨Or.inr (Or.inl rfl), by rw [decide_eq_false (show ¬ f 0 < c from c3), decide_eq_false (i_nlt.mpr c7)]; rfl, rfl⟩
    · exact ax_X.steps 3 ⟨Or.inr (Or.inr rfl), by rw [decide_eq_true (show f 1 < m from i_nle.mp c7), Bool.or_true]; rfl, rfl⟩
def Sp_H_hasFree (C : ax_O) : Prop := ∀ (f : Nat → Int32) (n : Nat) (t : Nat → Nat → Int32) (u : Int32) (b : Nat) (c m l : Int32), C no_H_hasFree [.ref 1, .int c, .int m, .int l] (oH f n t u b) (ax_is (some (.int (bI (frB f c m l)))) (oH f n t u b))
theorem p_H_hasFree {C : ax_O} : Sp_H_hasFree (ax_B ax_Ms ax_Xs C) := by
  intro f n t u b c m l
  unfold frB
  refine ax_X.steps 7 (ax_br2 (fun c6 => ?_) (fun c6 => ?_))
  · exact ax_X.steps 2 ⟨Or.inr (Or.inl rfl), by rw [decide_eq_false (i_nle.mpr c6)]; rfl, rfl⟩
  · refine ax_X.steps 7 (ax_br2 (fun c13 => ?_) (fun c13 => ?_))
    · exact ax_X.steps 2 ⟨Or.inr (Or.inl rfl), by rw [decide_eq_false (i_nle.mpr c13), Bool.false_and, Bool.and_false]; rfl, rfl⟩
    · refine ax_X.steps 5 (ax_br2 (fun c18 => ?_) (fun c18 => ?_))
      · exact ax_X.steps 2 ⟨Or.inr (Or.inl rfl), by rw [decide_eq_false (show ¬ l &&& f 5 = 0 from c18), Bool.and_false, Bool.and_false]; rfl, rfl⟩
      · exact ax_X.steps 3 ⟨Or.inr (Or.inr rfl), by rw [decide_eq_true (i_nlt.mp c6), decide_eq_true (i_nlt.mp c13), decide_eq_true (nn c18)]; rfl, rfl⟩
def Sp_H_hasFreeSlot (C : ax_O) : Prop := ∀ (f : Nat → Int32) (n : Nat) (t : Nat → Nat → Int32) (u : Int32) (b : Nat), C no_H_hasFreeSlot [.ref 1] (oH f n t u b) (ax_is (some (.int (bI (decide (f 6 < f 2))))) (oH f n t u b))
theorem p_H_hasFreeSlot {C : ax_O} : Sp_H_hasFreeSlot (ax_B ax_Ms ax_Xs C) := by
  intro f n t u b
  refine ax_X.steps 5 (ax_br2 (fun c4 => ?_) (fun c4 => ?_))
  · exact ax_X.steps 2 ⟨Or.inr (Or.inl rfl), by rw [decide_eq_false (i_nlt.mpr c4)]; rfl, rfl⟩
  · exact ax_X.steps 3 ⟨Or.inr (Or.inr rfl), by rw [decide_eq_true (i_nle.mp c4)]; rfl, rfl⟩
def Sp_N_stateAtFirst (C : ax_O) : Prop := ∀ (f : Nat → Int32) (n : Nat) (t : Nat → Nat → Int32) (u : Int32) (b : Nat) (a : Nat), a < 24 → C no_N_stateAtFirst [.ref 18, .int (nI a)] (oH f n t u b) (ax_is (some (.int (if tsB f (t 1 a) (t 2 a) = true then 5 else 6))) (oH f n t u b))
theorem p_N_stateAtFirst {C : ax_O} (h1 : Sp_H_isTooSmallFor C) : Sp_N_stateAtFirst (ax_B ax_Ms ax_Xs C) := by
  intro f n t u b a ha
  cases hc : tsB f (t 1 a) (t 2 a)
  · rw [if_neg (by decide)]
    refine ax_X.steps 7 ⟨a, ⟨by omega, by omega⟩, rfl, ?_⟩
    refine ax_X.steps 5 ⟨a, ⟨by omega, by omega⟩, rfl, ?_⟩
    refine ax_X.steps 1 (ax_go (h1 f n t u b (t 1 a) (t 2 a)) ?_)
    refine ax_X.steps 1 (ax_brT (by rw [hc]; rfl) ?_)
    exact ax_X.steps 2 ⟨Or.inl rfl, rfl, rfl⟩
  · rw [if_pos rfl]
    refine ax_X.steps 7 ⟨a, ⟨by omega, by omega⟩, rfl, ?_⟩
    refine ax_X.steps 5 ⟨a, ⟨by omega, by omega⟩, rfl, ?_⟩
    refine ax_X.steps 1 (ax_go (h1 f n t u b (t 1 a) (t 2 a)) ?_)
    refine ax_X.steps 1 (ax_brF (by rw [hc]; exact bI_n0) ?_)
    exact ax_X.steps 3 ⟨Or.inl rfl, rfl, rfl⟩
def maskI (p : Nat → Bool) : Nat → Int32
  | 0 => 0
  | n + 1 => if p n = true then maskI p n ||| sB n else maskI p n
theorem bt_mask {p : Nat → Bool} : ∀ (n : Nat) {i : Nat}, n ≤ 32 → i < 32 → bt (maskI p n) i = (decide (i < n) && p i)
  | 0, i, _, _ => by
    rw [decide_eq_false (Nat.not_lt_zero i), Bool.false_and]
    exact b_0 i
  | n + 1, i, hn, hi => by
    have ih := bt_mask (p := p) n (i := i) (by omega) hi
    unfold maskI
    by_cases e : i = n
    · subst e
      rw [decide_eq_true (by omega), Bool.true_and]
      cases hp : p i
      · rw [if_neg (by decide), ih, hp, Bool.and_false]
      · rw [if_pos rfl, b_add (by omega) hi, decide_eq_true rfl, Bool.or_true]
    · have e2 : decide (i < n + 1) = decide (i < n) := decide_eq_decide.mpr (by omega)
      rw [e2, ← ih]
      cases hp : p n
      · rw [if_neg (by decide)]
      · rw [if_pos rfl, b_add (by omega) hi, decide_eq_false e, Bool.or_false]
theorem maskI_t {p : Nat → Bool} {n : Nat} (h : p n = true) : maskI p (n + 1) = maskI p n ||| sB n := if_pos h
theorem maskI_f {p : Nat → Bool} {n : Nat} (h : p n = false) : maskI p (n + 1) = maskI p n := if_neg (by rw [h]; decide)
def Sp_N_allIn (C : ax_O) : Prop := ∀ (f : Nat → Int32) (n : Nat) (t : Nat → Nat → Int32) (u : Int32) (b : Nat) (v : Int32), n ≤ 24 → C no_N_allIn [.ref 18, .int v] (oH f n t u b) (ax_is (some (.int (maskI (fun a => decide (t 14 a = v)) n))) (oH f n t u b))
theorem p_N_allIn {C : ax_O} (h1 : Sp_O_only C) : Sp_N_allIn (ax_B ax_Ms ax_Xs C) := by
  intro f n t u b v hn
  have loop : ∀ (k a : Nat) (x : Int32) (m : Int32), x = nI a → m = maskI (fun a => decide (t 14 a = v)) a → a + k = n → ax_X ax_Ms ax_Xs no_N_allIn C (ax_is (some (.int (maskI (fun a => decide (t 14 a = v)) n))) (oH f n t u b)) 4 [some (.ref 18), some (.int v), some (.int m), some (.int x)] [] (oH f n t u b) 0 0 := by
    intro k
    induction k with
    | zero =>
      intro a x m hx hm hk
      subst hx
      have hk : a = n := hk
      subst hk
      subst hm
      refine ax_X.steps 5 (ax_brT (nI_le (by omega) (by omega)) ?_)
      exact ax_X.steps 2 ⟨Or.inl rfl, rfl, rfl⟩
    | succ k ih =>
      intro a x m hx hm hk
      subst hx
      subst hm
      refine ax_X.steps 5 (ax_brF (nI_ge (by omega) (by omega)) ?_)
      refine ax_X.steps 4 ⟨a, ⟨by omega, by omega⟩, rfl, ?_⟩
      refine ax_X.steps 2 (ax_br2 (fun c14 => ?_) (fun c14 => ?_))
      · exact ax_X.steps 2 (ih (a + 1) _ _ (nI_1 a) (maskI_f (decide_eq_false c14)).symm (by omega))
      · refine ax_X.steps 3 (ax_go (h1 _ _) ?_)
        exact ax_X.steps 4 (ih (a + 1) _ _ (nI_1 a) (maskI_t (decide_eq_true (nn c14))).symm (by omega))
  exact ax_X.steps 4 (loop n 0 0 0 rfl rfl (by omega))
def stF (n : Nat) (st : Nat → Int32) : Nat → Int32 := fun a => if a < n ∧ st a = 6 then 4 else st a
theorem stF_0 (st : Nat → Int32) : stF 0 st = st := by
  funext a
  exact if_neg (fun h => absurd h.1 (Nat.not_lt_zero a))
theorem stF_s {st : Nat → Int32} {n : Nat} (h : st n = 6) : upd (stF n st) n 4 = stF (n + 1) st := by
  funext a
  unfold upd stF
  by_cases e : a = n
  · subst e
    rw [if_pos rfl, if_pos ⟨by omega, h⟩]
  · rw [if_neg e]
    by_cases h2 : a < n ∧ st a = 6
    · rw [if_pos h2, if_pos ⟨by omega, h2.2⟩]
    · rw [if_neg h2, if_neg (fun q => h2 ⟨by omega, q.2⟩)]
theorem stF_n {st : Nat → Int32} {n : Nat} (h : ¬ st n = 6) : stF n st = stF (n + 1) st := by
  funext a
  unfold stF
  by_cases h2 : a < n ∧ st a = 6
  · rw [if_pos h2, if_pos ⟨by omega, h2.2⟩]
  · rw [if_neg h2, if_neg]
    intro q
    by_cases e : a = n
    · subst e; exact h q.2
    · exact h2 ⟨by omega, q.2⟩
theorem stF_at {st : Nat → Int32} {n : Nat} : stF n st n = st n := if_neg (fun h => absurd h.1 (Nat.lt_irrefl n))
def Sp_N_stopWaiting (C : ax_O) : Prop := ∀ (f : Nat → Int32) (n : Nat) (t : Nat → Nat → Int32) (u : Int32) (b : Nat), n ≤ 24 → C no_N_stopWaiting [.ref 18] (oH f n t u b) (ax_is none (oH f n (va_up t 14 (stF n (t 14))) u b))
theorem p_N_stopWaiting {C : ax_O} : Sp_N_stopWaiting (ax_B ax_Ms ax_Xs C) := by
  intro f n t u b hn
  have loop : ∀ (k a : Nat) (x : Int32) (g : Nat → Int32), x = nI a → g = stF a (t 14) → a + k = n → ax_X ax_Ms ax_Xs no_N_stopWaiting C (ax_is none (oH f n (va_up t 14 (stF n (t 14))) u b)) 2 [some (.ref 18), some (.int x)] [] (oH f n (va_up t 14 g) u b) 0 0 := by
    intro k
    induction k with
    | zero =>
      intro a x g hx hg hk
      subst hx
      have hk : a = n := hk
      subst hk
      subst hg
      refine ax_X.steps 5 (ax_brT (nI_le (by omega) (by omega)) ?_)
      exact ax_X.steps 1 (⟨rfl, rfl⟩)
    | succ k ih =>
      intro a x g hx hg hk
      subst hx
      subst hg
      refine ax_X.steps 5 (ax_brF (nI_ge (by omega) (by omega)) ?_)
      refine ax_X.steps 4 ⟨a, ⟨by omega, by omega⟩, rfl, ?_⟩
      refine ax_X.steps 2 (ax_br2 (fun c12 => ?_) (fun c12 => ?_))
      · exact ax_X.steps 2 (ih (a + 1) _ (stF a (t 14)) (nI_1 a) (stF_n (fun q => c12 (stF_at.trans q))) (by omega))
      · refine ax_X.steps 5 ⟨a, ⟨by omega, by omega⟩, rfl, ?_⟩
        exact ax_X.steps 2 (ih (a + 1) _ (upd (stF a (t 14)) a 4) (nI_1 a) (stF_s (stF_at.symm.trans (nn c12))) (by omega))
  exact ax_X.steps 2 (loop n 0 0 (t 14) rfl (stF_0 _).symm (by omega))
def olB (t : Nat → Nat → Int32) (a : Nat) : Bool := decide (t 7 a = 0) && (decide (t 14 a = 6) || decide (t 14 a = 7))
def Sp_N_other (C : ax_O) : Prop := ∀ (f : Nat → Int32) (n : Nat) (t : Nat → Nat → Int32) (u : Int32) (b : Nat), n ≤ 24 → C no_N_isOtherThanTestLeft [.ref 18] (oH f n t u b) (ax_is (some (.int (bI (anyB (olB t) n)))) (oH f n t u b))
theorem p_N_other {C : ax_O} : Sp_N_other (ax_B ax_Ms ax_Xs C) := by
  intro f n t u b hn
  have loop : ∀ (k a : Nat) (x : Int32) , x = nI a → anyB (olB t) a = false → a + k = n → ax_X ax_Ms ax_Xs no_N_isOtherThanTestLeft C (ax_is (some (.int (bI (anyB (olB t) n)))) (oH f n t u b)) 2 [some (.ref 18), some (.int x)] [] (oH f n t u b) 0 0 := by
    intro k
    induction k with
    | zero =>
      intro a x  hx hm hk
      subst hx
      have hk : a = n := hk
      subst hk
      rw [hm]
      refine ax_X.steps 5 (ax_brT (nI_le (by omega) (by omega)) ?_)
      exact ax_X.steps 2 ⟨Or.inr (Or.inl rfl), rfl, rfl⟩
    | succ k ih =>
      intro a x  hx hm hk
      subst hx
      refine ax_X.steps 5 (ax_brF (nI_ge (by omega) (by omega)) ?_)
      refine ax_X.steps 5 ⟨a, ⟨by omega, by omega⟩, rfl, ?_⟩
      refine ax_X.steps 1 (ax_br2 (fun c12 => ?_) (fun c12 => ?_))
      · exact ax_X.steps 2 (ih (a + 1) _ (nI_1 a) (by rw [anyB, hm, Bool.false_or]; unfold olB; first | rw [decide_eq_false (show ¬ t 7 a = 0 from c12), Bool.false_and] | rw [decide_eq_false (show ¬ t 14 a = 6 from c18), decide_eq_false (show ¬ t 14 a = 7 from c24), Bool.or_false, Bool.and_false]) (by omega))
      · refine ax_X.steps 4 ⟨a, ⟨by omega, by omega⟩, rfl, ?_⟩
        refine ax_X.steps 2 (ax_br2 (fun c18 => ?_) (fun c18 => ?_))
        · exact ax_X.steps 2 ⟨Or.inr (Or.inr rfl), by rw [anyB_iff.mpr ⟨a, by omega, by unfold olB; rw [decide_eq_true (nn c12), decide_eq_true (show t 14 a = 6 from c18)]; rfl⟩]; rfl, rfl⟩
        · refine ax_X.steps 4 ⟨a, ⟨by omega, by omega⟩, rfl, ?_⟩
          refine ax_X.steps 2 (ax_br2 (fun c24 => ?_) (fun c24 => ?_))
          · exact ax_X.steps 2 (ih (a + 1) _ (nI_1 a) (by rw [anyB, hm, Bool.false_or]; unfold olB; first | rw [decide_eq_false (show ¬ t 7 a = 0 from c12), Bool.false_and] | rw [decide_eq_false (show ¬ t 14 a = 6 from c18), decide_eq_false (show ¬ t 14 a = 7 from c24), Bool.or_false, Bool.and_false]) (by omega))
          · exact ax_X.steps 2 ⟨Or.inr (Or.inr rfl), by rw [anyB_iff.mpr ⟨a, by omega, by unfold olB; rw [decide_eq_true (nn c12), decide_eq_true (nn c24), Bool.or_true]; rfl⟩]; rfl, rfl⟩
  exact ax_X.steps 2 (loop n 0 0 rfl rfl (by omega))
def wtI (t : Nat → Nat → Int32) : Nat → Int32
  | 0 => 0
  | n + 1 => if t 8 n = 0 then wtI t n else wtI t n ||| (sB n ||| t 10 n)
theorem wtI_0 {t : Nat → Nat → Int32} {n : Nat} (h : t 8 n = 0) : wtI t (n + 1) = wtI t n := if_pos h
theorem wtI_1 {t : Nat → Nat → Int32} {n : Nat} (h : ¬ t 8 n = 0) : wtI t (n + 1) = wtI t n ||| (sB n ||| t 10 n) := if_neg h
def Sp_A_wanted (C : ax_O) : Prop := ∀ (f : Nat → Int32) (n : Nat) (t : Nat → Nat → Int32) (u : Int32) (b : Nat), n ≤ 24 → C no_A_wanted [.ref 2] (oH f n t u b) (ax_is (some (.int (wtI t n))) (oH f n t u b))
theorem p_A_wanted {C : ax_O} (h1 : Sp_O_only C) : Sp_A_wanted (ax_B ax_Ms ax_Xs C) := by
  intro f n t u b hn
  have loop : ∀ (k a : Nat) (x : Int32) (m : Int32), x = nI a → m = wtI t a → a + k = n → ax_X ax_Ms ax_Xs no_A_wanted C (ax_is (some (.int (wtI t n))) (oH f n t u b)) 4 [some (.ref 2), some (.int m), some (.int x)] [] (oH f n t u b) 0 0 := by
    intro k
    induction k with
    | zero =>
      intro a x m hx hm hk
      subst hx
      have hk : a = n := hk
      subst hk
      subst hm
      refine ax_X.steps 4 (ax_brT (nI_le (by omega) (by omega)) ?_)
      exact ax_X.steps 2 ⟨Or.inl rfl, rfl, rfl⟩
    | succ k ih =>
      intro a x m hx hm hk
      subst hx
      subst hm
      refine ax_X.steps 4 (ax_brF (nI_ge (by omega) (by omega)) ?_)
      refine ax_X.steps 4 ⟨a, ⟨by omega, by omega⟩, rfl, ?_⟩
      refine ax_X.steps 1 (ax_br2 (fun c12 => ?_) (fun c12 => ?_))
      · exact ax_X.steps 2 (ih (a + 1) _ _ (nI_1 a) (wtI_0 c12).symm (by omega))
      · refine ax_X.steps 3 (ax_go (h1 _ _) ?_)
        refine ax_X.steps 4 ⟨a, ⟨by omega, by omega⟩, rfl, ?_⟩
        exact ax_X.steps 5 (ih (a + 1) _ _ (nI_1 a) (wtI_1 c12).symm (by omega))
  exact ax_X.steps 4 (loop n 0 0 0 rfl rfl (by omega))
def grI (t : Nat → Nat → Int32) (w : Int32) (k : Nat) : Nat → Int32
  | 0 => 0
  | m + 1 => if (bt w m && bt (t 9 m) k) = true then mxI (grI t w k m) (t 11 m) else grI t w k m
def Sp_A_gra (C : ax_O) : Prop := ∀ (f : Nat → Int32) (n : Nat) (t : Nat → Nat → Int32) (u : Int32) (b : Nat) (j : Nat) (w : Int32), n ≤ 24 → j < 24 → C no_A_greatestRestAbove [.ref 2, .int (nI j), .int w] (oH f n t u b) (ax_is (some (.int (grI t w j n))) (oH f n t u b))
theorem p_A_gra {C : ax_O} (h1 : Sp_O_isIn C) : Sp_A_gra (ax_B ax_Ms ax_Xs C) := by
  intro f n t u b j w hn hj
  have loop : ∀ (k a : Nat) (x : Int32) (m : Int32), x = nI a → m = grI t w j a → a + k = n → ax_X ax_Ms ax_Xs no_A_greatestRestAbove C (ax_is (some (.int (grI t w j n))) (oH f n t u b)) 4 [some (.ref 2), some (.int (nI j)), some (.int w), some (.int m), some (.int x)] [] (oH f n t u b) 0 0 := by
    intro k
    induction k with
    | zero =>
      intro a x m hx hm hk
      subst hx
      have hk : a = n := hk
      subst hk
      subst hm
      refine ax_X.steps 4 (ax_brT (nI_le (by omega) (by omega)) ?_)
      exact ax_X.steps 2 ⟨Or.inl rfl, rfl, rfl⟩
    | succ k ih =>
      intro a x m hx hm hk
      subst hx
      subst hm
      cases c1 : bt w a
      · refine ax_X.steps 4 (ax_brF (nI_ge (by omega) (by omega)) ?_)
        refine ax_X.steps 3 (ax_go (h1 _ _ _ false (by omega) c1) ?_)
        refine ax_X.steps 1 (ax_brT (rfl) ?_)
        exact ax_X.steps 2 (ih (a + 1) _ _ (nI_1 a) (by show _ = grI t w j (a + 1); rw [grI, c1]; rfl) (by omega))
      cases c2 : bt (t 9 a) j
      · refine ax_X.steps 4 (ax_brF (nI_ge (by omega) (by omega)) ?_)
        refine ax_X.steps 3 (ax_go (h1 _ _ _ true (by omega) c1) ?_)
        refine ax_X.steps 1 (ax_brF (bI_n0) ?_)
        refine ax_X.steps 4 ⟨a, ⟨by omega, by omega⟩, rfl, ?_⟩
        refine ax_X.steps 2 (ax_go (h1 _ _ _ false (by omega) c2) ?_)
        refine ax_X.steps 1 (ax_brT (rfl) ?_)
        exact ax_X.steps 2 (ih (a + 1) _ _ (nI_1 a) (by show _ = grI t w j (a + 1); rw [grI, c1, c2]; rfl) (by omega))
      · refine ax_X.steps 4 (ax_brF (nI_ge (by omega) (by omega)) ?_)
        refine ax_X.steps 3 (ax_go (h1 _ _ _ true (by omega) c1) ?_)
        refine ax_X.steps 1 (ax_brF (bI_n0) ?_)
        refine ax_X.steps 4 ⟨a, ⟨by omega, by omega⟩, rfl, ?_⟩
        refine ax_X.steps 2 (ax_go (h1 _ _ _ true (by omega) c2) ?_)
        refine ax_X.steps 1 (ax_brF (bI_n0) ?_)
        refine ax_X.steps 5 ⟨a, ⟨by omega, by omega⟩, rfl, ?_⟩
        exact ax_X.steps 4 (ih (a + 1) _ _ (nI_1 a) (by show _ = grI t w j (a + 1); rw [grI, c1, c2]; rfl) (by omega))
  exact ax_X.steps 4 (loop n 0 0 0 rfl rfl (by omega))
def fmN (p : Nat → Bool) (rs : Nat → Int32) : Nat → Option Nat
  | 0 => none
  | m + 1 => match fmN p rs m with
    | none => if p m = true then some m else none
    | some j => if (p m && decide (rs j < rs m)) = true then some m else some j
def oI : Option Nat → Int32
  | none => -1
  | some j => nI j
theorem fmN_lt {p : Nat → Bool} {rs : Nat → Int32} : ∀ {m j : Nat}, fmN p rs m = some j → j < m
  | 0, _, h => by cases h
  | m + 1, j, h => by
    unfold fmN at h
    cases e : fmN p rs m with
    | none =>
      rw [e] at h
      dsimp only at h
      split at h
      · cases h; omega
      · cases h
    | some i =>
      have := fmN_lt e
      rw [e] at h
      dsimp only at h
      split at h
      · cases h; omega
      · cases h; omega
theorem fmN_p {p : Nat → Bool} {rs : Nat → Int32} : ∀ {m j : Nat}, fmN p rs m = some j → p j = true
  | 0, _, h => by cases h
  | m + 1, j, h => by
    unfold fmN at h
    cases e : fmN p rs m with
    | none =>
      rw [e] at h
      dsimp only at h
      split at h
      · cases h; assumption
      · cases h
    | some i =>
      have := fmN_p e
      rw [e] at h
      dsimp only at h
      split at h
      · rename_i q
        rw [Bool.and_eq_true] at q
        cases h; exact q.1
      · cases h; exact this
theorem oI_ne {j : Nat} (h : j < 24) : ¬ nI j = -1 := fun q => by
  have h3 : (nI j).toInt = (j : Int) := nI_toInt (by omega)
  rw [q, show (-1 : Int32).toInt = -1 by decide] at h3
  omega
theorem fmN_k {p : Nat → Bool} {rs : Nat → Int32} {a j : Nat} (h : fmN p rs a = some j) (h2 : rs a ≤ rs j) : oI (some j) = oI (fmN p rs (a + 1)) := by
  rw [fmN, h]
  dsimp only
  rw [if_neg (by rw [decide_eq_false (i_nlt.mpr h2), Bool.and_false]; decide)]
theorem fmN_n {p : Nat → Bool} {rs : Nat → Int32} {a j : Nat} (h : fmN p rs a = some j) (hp : p a = true) (h2 : ¬ rs a ≤ rs j) : nI a = oI (fmN p rs (a + 1)) := by
  rw [fmN, h]
  dsimp only
  rw [if_pos (by rw [hp, decide_eq_true (i_nle.mp h2)]; rfl)]
  rfl
def Sp_N_foremost (C : ax_O) : Prop := ∀ (f : Nat → Int32) (n : Nat) (t : Nat → Nat → Int32) (u : Int32) (b : Nat) (w : Int32), n ≤ 24 → C no_N_foremost [.ref 18, .int w] (oH f n t u b) (ax_is (some (.int (oI (fmN (bt w) (t 11) n)))) (oH f n t u b))
theorem p_N_foremost {C : ax_O} (h1 : Sp_O_isIn C) : Sp_N_foremost (ax_B ax_Ms ax_Xs C) := by
  intro f n t u b w hn
  have loop : ∀ (k a : Nat) (x : Int32) (m : Int32), x = nI a → m = oI (fmN (bt w) (t 11) a) → a + k = n → ax_X ax_Ms ax_Xs no_N_foremost C (ax_is (some (.int (oI (fmN (bt w) (t 11) n)))) (oH f n t u b)) 4 [some (.ref 18), some (.int w), some (.int m), some (.int x)] [] (oH f n t u b) 0 0 := by
    intro k
    induction k with
    | zero =>
      intro a x m hx hm hk
      subst hx
      have hk : a = n := hk
      subst hk
      subst hm
      refine ax_X.steps 5 (ax_brT (nI_le (by omega) (by omega)) ?_)
      exact ax_X.steps 2 ⟨Or.inl rfl, rfl, rfl⟩
    | succ k ih =>
      intro a x m hx hm hk
      subst hx
      subst hm
      cases c1 : bt w a
      · have e : oI (fmN (bt w) (t 11) a) = oI (fmN (bt w) (t 11) (a + 1)) := by
          rw [fmN]
          cases fmN (bt w) (t 11) a <;> simp [c1]
        refine ax_X.steps 5 (ax_brF (nI_ge (by omega) (by omega)) ?_)
        refine ax_X.steps 3 (ax_go (h1 _ _ _ false (by omega) c1) ?_)
        refine ax_X.steps 1 (ax_brT (rfl) ?_)
        exact ax_X.steps 2 (ih (a + 1) _ _ (nI_1 a) e (by omega))
      cases c2 : fmN (bt w) (t 11) a with
      | none =>
        have e : nI a = oI (fmN (bt w) (t 11) (a + 1)) := by
          rw [fmN, c2]
          simp [c1, oI]
        refine ax_X.steps 5 (ax_brF (nI_ge (by omega) (by omega)) ?_)
        refine ax_X.steps 3 (ax_go (h1 _ _ _ true (by omega) c1) ?_)
        refine ax_X.steps 1 (ax_brF (bI_n0) ?_)
        refine ax_X.steps 3 (ax_brT (rfl) ?_)
        exact ax_X.steps 4 (ih (a + 1) _ _ (nI_1 a) e (by omega))
      | some j =>
        have hj := fmN_lt c2
        refine ax_X.steps 5 (ax_brF (nI_ge (by omega) (by omega)) ?_)
        refine ax_X.steps 3 (ax_go (h1 _ _ _ true (by omega) c1) ?_)
        refine ax_X.steps 1 (ax_brF (bI_n0) ?_)
        refine ax_X.steps 3 (ax_brF (oI_ne (by omega)) ?_)
        refine ax_X.steps 5 ⟨a, ⟨by omega, by omega⟩, rfl, ?_⟩
        refine ax_X.steps 5 ⟨j, ⟨by omega, by omega⟩, rfl, ?_⟩
        refine ax_X.steps 1 (ax_br2 (fun c26 => ?_) (fun c26 => ?_))
        · exact ax_X.steps 2 (ih (a + 1) _ _ (nI_1 a) (fmN_k c2 c26) (by omega))
        · exact ax_X.steps 4 (ih (a + 1) _ _ (nI_1 a) (fmN_n c2 c1 c26) (by omega))
  exact ax_X.steps 4 (loop n 0 0 (-1) rfl rfl (by omega))
def soI (x y : Int32) : Int32 := if x = -1 then y else if y = -1 then x else mnI x y
def Sp_N_sooner (C : ax_O) : Prop := ∀ (h : ax_H) (x y : Int32), C no_N_sooner [.int x, .int y] h (ax_is (some (.int (soI x y))) h)
theorem p_N_sooner {C : ax_O} : Sp_N_sooner (ax_B ax_Ms ax_Xs C) := by
  intro h x y
  unfold soI
  refine ax_X.steps 3 (ax_br2 (fun c2 => ?_) (fun c2 => ?_))
  · refine ax_X.steps 3 (ax_br2 (fun c7 => ?_) (fun c7 => ?_))
    · exact ax_X.steps 4 ⟨Or.inl rfl, by rw [if_neg (show ¬ x = -1 from c2), if_neg (show ¬ y = -1 from c7)]; rfl, rfl⟩
    · exact ax_X.steps 3 ⟨Or.inl rfl, by rw [if_neg (show ¬ x = -1 from c2), if_pos (nn c7)], rfl⟩
  · exact ax_X.steps 2 ⟨Or.inl rfl, by rw [if_pos (nn c2)], rfl⟩
def neI (t : Nat → Nat → Int32) : Nat → Int32
  | 0 => -1
  | m + 1 => soI (soI (neI t m) (t 19 m)) (t 20 m)
def Sp_N_nextEnd (C : ax_O) : Prop := ∀ (f : Nat → Int32) (n : Nat) (t : Nat → Nat → Int32) (u : Int32) (b : Nat), n ≤ 24 → C no_N_nextEnd [.ref 18] (oH f n t u b) (ax_is (some (.int (neI t n))) (oH f n t u b))
theorem p_N_nextEnd {C : ax_O} (h1 : Sp_N_sooner C) : Sp_N_nextEnd (ax_B ax_Ms ax_Xs C) := by
  intro f n t u b hn
  have loop : ∀ (k a : Nat) (x : Int32) (m : Int32), x = nI a → m = neI t a → a + k = n → ax_X ax_Ms ax_Xs no_N_nextEnd C (ax_is (some (.int (neI t n))) (oH f n t u b)) 4 [some (.ref 18), some (.int m), some (.int x)] [] (oH f n t u b) 0 0 := by
    intro k
    induction k with
    | zero =>
      intro a x m hx hm hk
      subst hx
      have hk : a = n := hk
      subst hk
      subst hm
      refine ax_X.steps 5 (ax_brT (nI_le (by omega) (by omega)) ?_)
      exact ax_X.steps 2 ⟨Or.inl rfl, rfl, rfl⟩
    | succ k ih =>
      intro a x m hx hm hk
      subst hx
      subst hm
      refine ax_X.steps 5 (ax_brF (nI_ge (by omega) (by omega)) ?_)
      refine ax_X.steps 5 ⟨a, ⟨by omega, by omega⟩, rfl, ?_⟩
      refine ax_X.steps 1 (ax_go (h1 _ _ _) ?_)
      refine ax_X.steps 6 ⟨a, ⟨by omega, by omega⟩, rfl, ?_⟩
      refine ax_X.steps 1 (ax_go (h1 _ _ _) ?_)
      exact ax_X.steps 3 (ih (a + 1) _ _ (nI_1 a) rfl (by omega))
  exact ax_X.steps 4 (loop n 0 0 (-1) rfl rfl (by omega))
end
section
/-! The reference: loops that only look. -/
def smI (st g : Nat → Int32) : Nat → Int32
  | 0 => 0
  | m + 1 => if st m = 7 then smI st g m + g m else smI st g m
def orI (st g : Nat → Int32) : Nat → Int32
  | 0 => 0
  | m + 1 => if st m = 7 then orI st g m ||| g m else orI st g m
theorem smI_t {st g : Nat → Int32} {m : Nat} (h : st m = 7) : smI st g (m + 1) = smI st g m + g m := if_pos h
theorem smI_f {st g : Nat → Int32} {m : Nat} (h : ¬ st m = 7) : smI st g (m + 1) = smI st g m := if_neg h
theorem orI_t {st g : Nat → Int32} {m : Nat} (h : st m = 7) : orI st g (m + 1) = orI st g m ||| g m := if_pos h
theorem orI_f {st g : Nat → Int32} {m : Nat} (h : ¬ st m = 7) : orI st g (m + 1) = orI st g m := if_neg h
def faI (t : Nat → Nat → Int32) (m : Nat) : Int32 := if t 16 m < 0 then 0 else 1
def Sp_M_taken_0 (C : ax_O) : Prop := ∀ (f : Nat → Int32) (n kn : Nat) (t : Nat → Nat → Int32) (b : Nat), n ≤ 24 → C no_M_taken [.ref 0, .int 0] (mH f n kn t b) (ax_is (some (.int (smI (t 14) (t 1) n))) (mH f n kn t b))
theorem p_M_taken_0 {C : ax_O} : Sp_M_taken_0 (ax_B ax_Ms ax_Xs C) := by
  intro f n kn t b hn
  have loop : ∀ (k a : Nat) (x : Int32) (m : Int32), x = nI a → m = smI (t 14) (t 1) a → a + k = n → ax_X ax_Ms ax_Xs no_M_taken C (ax_is (some (.int (smI (t 14) (t 1) n))) (mH f n kn t b)) 4 [some (.ref 0), some (.int 0), some (.int m), some (.int x)] [] (mH f n kn t b) 0 0 := by
    intro k
    induction k with
    | zero =>
      intro a x m hx hm hk
      subst hx
      have hk : a = n := hk
      subst hk
      subst hm
      refine ax_X.steps 4 (ax_brT (nI_le (by omega) (by omega)) ?_)
      exact ax_X.steps 2 ⟨Or.inl rfl, rfl, rfl⟩
    | succ k ih =>
      intro a x m hx hm hk
      subst hx
      subst hm
      refine ax_X.steps 4 (ax_brF (nI_ge (by omega) (by omega)) ?_)
      refine ax_X.steps 4 ⟨a, ⟨by omega, by omega⟩, rfl, ?_⟩
      refine ax_X.steps 2 (ax_br2 (fun c13 => ?_) (fun c13 => ?_))
      · refine ax_X.steps 2 (ax_brF (fun q => q rfl) ?_)
        refine ax_X.steps 5 ⟨a, ⟨by omega, by omega⟩, rfl, ?_⟩
        exact ax_X.steps 5 (ih (a + 1) _ _ (nI_1 a) (smI_t c13).symm (by omega))
      · exact ax_X.steps 3 (ih (a + 1) _ _ (nI_1 a) (smI_f c13).symm (by omega))
  exact ax_X.steps 4 (loop n 0 0 0 rfl rfl (by omega))
def Sp_M_taken_1 (C : ax_O) : Prop := ∀ (f : Nat → Int32) (n kn : Nat) (t : Nat → Nat → Int32) (b : Nat), n ≤ 24 → C no_M_taken [.ref 0, .int 1] (mH f n kn t b) (ax_is (some (.int (smI (t 14) (t 2) n))) (mH f n kn t b))
theorem p_M_taken_1 {C : ax_O} : Sp_M_taken_1 (ax_B ax_Ms ax_Xs C) := by
  intro f n kn t b hn
  have loop : ∀ (k a : Nat) (x : Int32) (m : Int32), x = nI a → m = smI (t 14) (t 2) a → a + k = n → ax_X ax_Ms ax_Xs no_M_taken C (ax_is (some (.int (smI (t 14) (t 2) n))) (mH f n kn t b)) 4 [some (.ref 0), some (.int 1), some (.int m), some (.int x)] [] (mH f n kn t b) 0 0 := by
    intro k
    induction k with
    | zero =>
      intro a x m hx hm hk
      subst hx
      have hk : a = n := hk
      subst hk
      subst hm
      refine ax_X.steps 4 (ax_brT (nI_le (by omega) (by omega)) ?_)
      exact ax_X.steps 2 ⟨Or.inl rfl, rfl, rfl⟩
    | succ k ih =>
      intro a x m hx hm hk
      subst hx
      subst hm
      refine ax_X.steps 4 (ax_brF (nI_ge (by omega) (by omega)) ?_)
      refine ax_X.steps 4 ⟨a, ⟨by omega, by omega⟩, rfl, ?_⟩
      refine ax_X.steps 2 (ax_br2 (fun c13 => ?_) (fun c13 => ?_))
      · refine ax_X.steps 2 (ax_brT (show ¬ (1 : Int32) = 0 by decide) ?_)
        refine ax_X.steps 3 (ax_brF (fun q => q rfl) ?_)
        refine ax_X.steps 5 ⟨a, ⟨by omega, by omega⟩, rfl, ?_⟩
        exact ax_X.steps 5 (ih (a + 1) _ _ (nI_1 a) (smI_t c13).symm (by omega))
      · exact ax_X.steps 3 (ih (a + 1) _ _ (nI_1 a) (smI_f c13).symm (by omega))
  exact ax_X.steps 4 (loop n 0 0 0 rfl rfl (by omega))
def Sp_M_taken_2 (C : ax_O) : Prop := ∀ (f : Nat → Int32) (n kn : Nat) (t : Nat → Nat → Int32) (b : Nat), n ≤ 24 → C no_M_taken [.ref 0, .int 2] (mH f n kn t b) (ax_is (some (.int (smI (t 14) (faI t) n))) (mH f n kn t b))
theorem p_M_taken_2 {C : ax_O} : Sp_M_taken_2 (ax_B ax_Ms ax_Xs C) := by
  intro f n kn t b hn
  have loop : ∀ (k a : Nat) (x : Int32) (m : Int32), x = nI a → m = smI (t 14) (faI t) a → a + k = n → ax_X ax_Ms ax_Xs no_M_taken C (ax_is (some (.int (smI (t 14) (faI t) n))) (mH f n kn t b)) 4 [some (.ref 0), some (.int 2), some (.int m), some (.int x)] [] (mH f n kn t b) 0 0 := by
    intro k
    induction k with
    | zero =>
      intro a x m hx hm hk
      subst hx
      have hk : a = n := hk
      subst hk
      subst hm
      refine ax_X.steps 4 (ax_brT (nI_le (by omega) (by omega)) ?_)
      exact ax_X.steps 2 ⟨Or.inl rfl, rfl, rfl⟩
    | succ k ih =>
      intro a x m hx hm hk
      subst hx
      subst hm
      refine ax_X.steps 4 (ax_brF (nI_ge (by omega) (by omega)) ?_)
      refine ax_X.steps 4 ⟨a, ⟨by omega, by omega⟩, rfl, ?_⟩
      refine ax_X.steps 2 (ax_br2 (fun c13 => ?_) (fun c13 => ?_))
      · refine ax_X.steps 2 (ax_brT (show ¬ (2 : Int32) = 0 by decide) ?_)
        refine ax_X.steps 3 (ax_brT (show ¬ (2 : Int32) = 1 by decide) ?_)
        refine ax_X.steps 3 (ax_brF (fun q => q rfl) ?_)
        refine ax_X.steps 5 ⟨a, ⟨by omega, by omega⟩, rfl, ?_⟩
        refine ax_X.steps 1 (ax_br2 (fun c42 => ?_) (fun c42 => ?_))
        · exact ax_X.steps 6 (ih (a + 1) _ _ (nI_1 a) (by show _ = smI (t 14) (faI t) (a + 1); rw [smI_t c13, faI, if_pos (show t 16 a < 0 from c42)]) (by omega))
        · exact ax_X.steps 7 (ih (a + 1) _ _ (nI_1 a) (by show _ = smI (t 14) (faI t) (a + 1); rw [smI_t c13, faI, if_neg (show ¬ t 16 a < 0 from c42)]) (by omega))
      · exact ax_X.steps 3 (ih (a + 1) _ _ (nI_1 a) (smI_f c13).symm (by omega))
  exact ax_X.steps 4 (loop n 0 0 0 rfl rfl (by omega))
def Sp_M_taken_3 (C : ax_O) : Prop := ∀ (f : Nat → Int32) (n kn : Nat) (t : Nat → Nat → Int32) (b : Nat), n ≤ 24 → C no_M_taken [.ref 0, .int 3] (mH f n kn t b) (ax_is (some (.int (orI (t 14) (t 3) n))) (mH f n kn t b))
theorem p_M_taken_3 {C : ax_O} : Sp_M_taken_3 (ax_B ax_Ms ax_Xs C) := by
  intro f n kn t b hn
  have loop : ∀ (k a : Nat) (x : Int32) (m : Int32), x = nI a → m = orI (t 14) (t 3) a → a + k = n → ax_X ax_Ms ax_Xs no_M_taken C (ax_is (some (.int (orI (t 14) (t 3) n))) (mH f n kn t b)) 4 [some (.ref 0), some (.int 3), some (.int m), some (.int x)] [] (mH f n kn t b) 0 0 := by
    intro k
    induction k with
    | zero =>
      intro a x m hx hm hk
      subst hx
      have hk : a = n := hk
      subst hk
      subst hm
      refine ax_X.steps 4 (ax_brT (nI_le (by omega) (by omega)) ?_)
      exact ax_X.steps 2 ⟨Or.inl rfl, rfl, rfl⟩
    | succ k ih =>
      intro a x m hx hm hk
      subst hx
      subst hm
      refine ax_X.steps 4 (ax_brF (nI_ge (by omega) (by omega)) ?_)
      refine ax_X.steps 4 ⟨a, ⟨by omega, by omega⟩, rfl, ?_⟩
      refine ax_X.steps 2 (ax_br2 (fun c13 => ?_) (fun c13 => ?_))
      · refine ax_X.steps 2 (ax_brT (show ¬ (3 : Int32) = 0 by decide) ?_)
        refine ax_X.steps 3 (ax_brT (show ¬ (3 : Int32) = 1 by decide) ?_)
        refine ax_X.steps 3 (ax_brT (show ¬ (3 : Int32) = 2 by decide) ?_)
        refine ax_X.steps 5 ⟨a, ⟨by omega, by omega⟩, rfl, ?_⟩
        exact ax_X.steps 4 (ih (a + 1) _ _ (nI_1 a) (orI_t c13).symm (by omega))
      · exact ax_X.steps 3 (ih (a + 1) _ _ (nI_1 a) (orI_f c13).symm (by omega))
  exact ax_X.steps 4 (loop n 0 0 0 rfl rfl (by omega))
def mfB (f : Nat → Int32) (n : Nat) (t : Nat → Nat → Int32) (a : Nat) : Bool := decide (smI (t 14) (t 1) n + t 1 a ≤ f 0) && (decide (smI (t 14) (t 2) n + t 2 a ≤ f 1) && decide (orI (t 14) (t 3) n &&& t 3 a = 0))
def Sp_M_fits (C : ax_O) : Prop := ∀ (f : Nat → Int32) (n kn : Nat) (t : Nat → Nat → Int32) (b : Nat) (a : Nat), n ≤ 24 → a < 24 → C no_M_fits [.ref 0, .int (nI a)] (mH f n kn t b) (ax_is (some (.int (bI (mfB f n t a)))) (mH f n kn t b))
theorem p_M_fits {C : ax_O} (h0 : Sp_M_taken_0 C) (h1 : Sp_M_taken_1 C) (h3 : Sp_M_taken_3 C) : Sp_M_fits (ax_B ax_Ms ax_Xs C) := by
  intro f n kn t b a hn ha
  unfold mfB
  refine ax_X.steps 3 (ax_go (h0 f n kn t b hn) ?_)
  refine ax_X.steps 4 ⟨a, ⟨by omega, by omega⟩, rfl, ?_⟩
  refine ax_X.steps 4 (ax_br2 (fun c10 => ?_) (fun c10 => ?_))
  · exact ax_X.steps 2 ⟨Or.inr (Or.inl rfl), by rw [decide_eq_false (i_nle.mpr c10)]; rfl, rfl⟩
  · refine ax_X.steps 3 (ax_go (h1 f n kn t b hn) ?_)
    refine ax_X.steps 4 ⟨a, ⟨by omega, by omega⟩, rfl, ?_⟩
    refine ax_X.steps 4 (ax_br2 (fun c21 => ?_) (fun c21 => ?_))
    · exact ax_X.steps 2 ⟨Or.inr (Or.inl rfl), by rw [decide_eq_false (i_nle.mpr c21), Bool.false_and, Bool.and_false]; rfl, rfl⟩
    · refine ax_X.steps 3 (ax_go (h3 f n kn t b hn) ?_)
      refine ax_X.steps 4 ⟨a, ⟨by omega, by omega⟩, rfl, ?_⟩
      refine ax_X.steps 2 (ax_br2 (fun c30 => ?_) (fun c30 => ?_))
      · exact ax_X.steps 2 ⟨Or.inr (Or.inl rfl), by rw [decide_eq_false (show ¬ orI (t 14) (t 3) n &&& t 3 a = 0 from c30), Bool.and_false, Bool.and_false]; rfl, rfl⟩
      · exact ax_X.steps 3 ⟨Or.inr (Or.inr rfl), by rw [decide_eq_true (i_nlt.mp c10), decide_eq_true (i_nlt.mp c21), decide_eq_true (nn c30)]; rfl, rfl⟩
def hiB (st : Nat → Int32) (c : Nat) : Bool := decide (st c = 2) || (decide (st c = 3) || decide (st c = 5))
theorem hiB_2 {st : Nat → Int32} {c : Nat} (h : st c = 2) : hiB st c = true := by unfold hiB; rw [decide_eq_true h, Bool.true_or]
theorem hiB_3 {st : Nat → Int32} {c : Nat} (h : st c = 3) : hiB st c = true := by unfold hiB; rw [decide_eq_true h, Bool.true_or, Bool.or_true]
theorem hiB_5 {st : Nat → Int32} {c : Nat} (h : st c = 5) : hiB st c = true := by unfold hiB; rw [decide_eq_true h, Bool.or_true, Bool.or_true]
theorem hiB_n {st : Nat → Int32} {c : Nat} (h2 : ¬ st c = 2) (h3 : ¬ st c = 3) (h5 : ¬ st c = 5) : hiB st c = false := by unfold hiB; rw [decide_eq_false h2, decide_eq_false h3, decide_eq_false h5]; rfl
def laB (st : Nat → Int32) (w : Int32) (c : Nat) : Bool := bt w c && hiB st c
theorem anyB_t {p : Nat → Bool} {n : Nat} (h : p n = true) : bI true = bI (anyB p (n + 1)) := by rw [anyB, h, Bool.or_true]
theorem anyB_f {p : Nat → Bool} {n : Nat} (h : p n = false) : bI (anyB p n) = bI (anyB p (n + 1)) := by rw [anyB, h, Bool.or_false]
theorem anyB_k {p : Nat → Bool} {n : Nat} (h : ¬ bI (anyB p n) = 0) : bI true = bI (anyB p (n + 1)) := by
  cases e : anyB p n
  · rw [e] at h; exact absurd rfl h
  · rw [anyB, e, Bool.true_or]
theorem anyB_0 {p : Nat → Bool} {n : Nat} (h : bI (anyB p n) = 0) (h2 : p n = false) : bI false = bI (anyB p (n + 1)) := by rw [anyB, h2, bI_0.mp h, Bool.or_false]
theorem b_rt1 {x : Int32} {k : Nat} (hk : k < 32) : (x >>> (nI k &&& 31)) &&& 1 = 1 ↔ bt x k = true := by rw [b_rt hk]; exact (bI_eq (c := true))
theorem b_rt0 {x : Int32} {k : Nat} (hk : k < 32) : (x >>> (nI k &&& 31)) &&& 1 = 0 ↔ bt x k = false := by rw [b_rt hk]; exact bI_0
def Sp_M_lacks (C : ax_O) : Prop := ∀ (f : Nat → Int32) (n kn : Nat) (t : Nat → Nat → Int32) (b : Nat) (j : Nat), n ≤ 24 → j < 24 → C no_M_lacks [.ref 0, .int (nI j)] (mH f n kn t b) (ax_is (some (.int (bI (anyB (laB (t 14) (t 7 j)) n)))) (mH f n kn t b))
theorem p_M_lacks {C : ax_O} : Sp_M_lacks (ax_B ax_Ms ax_Xs C) := by
  intro f n kn t b j hn hj
  have loop : ∀ (k a : Nat) (x : Int32) (m : Int32), x = nI a → m = bI (anyB (laB (t 14) (t 7 j)) a) → a + k = n → ax_X ax_Ms ax_Xs no_M_lacks C (ax_is (some (.int (bI (anyB (laB (t 14) (t 7 j)) n)))) (mH f n kn t b)) 4 [some (.ref 0), some (.int (nI j)), some (.int m), some (.int x)] [] (mH f n kn t b) 0 0 := by
    intro k
    induction k with
    | zero =>
      intro a x m hx hm hk
      subst hx
      have hk : a = n := hk
      subst hk
      subst hm
      refine ax_X.steps 4 (ax_brT (nI_le (by omega) (by omega)) ?_)
      exact ax_X.steps 2 ⟨Or.inr (bI_01 _), rfl, rfl⟩
    | succ k ih =>
      intro a x m hx hm hk
      subst hx
      subst hm
      refine ax_X.steps 4 (ax_brF (nI_ge (by omega) (by omega)) ?_)
      refine ax_X.steps 2 (ax_br2 (fun c9 => ?_) (fun c9 => ?_))
      · exact ax_X.steps 5 (ih (a + 1) _ _ (nI_1 a) (anyB_k c9) (by omega))
      · refine ax_X.steps 4 ⟨j, ⟨by omega, by omega⟩, rfl, ?_⟩
        refine ax_X.steps 6 (ax_br2 (fun c19 => ?_) (fun c19 => ?_))
        · exact ax_X.steps 4 (ih (a + 1) _ _ (nI_1 a) (anyB_0 (nn c9) (by unfold laB; rw [show bt (t 7 j) a = false from Bool.eq_false_iff.mpr (fun q => c19 ((b_rt1 (by omega)).mpr q)), Bool.false_and])) (by omega))
        · refine ax_X.steps 4 ⟨a, ⟨by omega, by omega⟩, rfl, ?_⟩
          refine ax_X.steps 2 (ax_br2 (fun c25 => ?_) (fun c25 => ?_))
          · exact ax_X.steps 5 (ih (a + 1) _ _ (nI_1 a) (anyB_t (by unfold laB; rw [(b_rt1 (by omega)).mp (nn c19), hiB_2 c25]; rfl)) (by omega))
          · refine ax_X.steps 4 ⟨a, ⟨by omega, by omega⟩, rfl, ?_⟩
            refine ax_X.steps 2 (ax_br2 (fun c31 => ?_) (fun c31 => ?_))
            · exact ax_X.steps 5 (ih (a + 1) _ _ (nI_1 a) (anyB_t (by unfold laB; rw [(b_rt1 (by omega)).mp (nn c19), hiB_3 c31]; rfl)) (by omega))
            · refine ax_X.steps 4 ⟨a, ⟨by omega, by omega⟩, rfl, ?_⟩
              refine ax_X.steps 2 (ax_br2 (fun c37 => ?_) (fun c37 => ?_))
              · exact ax_X.steps 4 (ih (a + 1) _ _ (nI_1 a) (anyB_0 (nn c9) (by unfold laB; rw [hiB_n c25 c31 c37, Bool.and_false])) (by omega))
              · exact ax_X.steps 5 (ih (a + 1) _ _ (nI_1 a) (anyB_t (by unfold laB; rw [(b_rt1 (by omega)).mp (nn c19), hiB_5 (nn c37)]; rfl)) (by omega))
  exact ax_X.steps 4 (loop n 0 0 0 rfl rfl (by omega))
def rdB (st : Nat → Int32) (w : Int32) (c0 : Bool) : Nat → Bool
  | 0 => c0
  | m + 1 => rdB st w c0 m && (!bt w m || decide (st m = 1))
theorem rdB_t {st : Nat → Int32} {w : Int32} {c0 : Bool} {m : Nat} (h1 : ¬ bI (rdB st w c0 m) = 0) (h2 : bt w m = false ∨ st m = 1) : bI true = bI (rdB st w c0 (m + 1)) := by
  cases e : rdB st w c0 m
  · rw [e] at h1; exact absurd rfl h1
  · rw [rdB, e]
    rcases h2 with h2 | h2
    · rw [h2]; rfl
    · rw [decide_eq_true h2, Bool.or_true]; rfl
theorem rdB_f {st : Nat → Int32} {w : Int32} {c0 : Bool} {m : Nat} (h1 : bI (rdB st w c0 m) = 0) : bI false = bI (rdB st w c0 (m + 1)) := by
  rw [rdB, bI_0.mp h1, Bool.false_and]
theorem rdB_n {st : Nat → Int32} {w : Int32} {c0 : Bool} {m : Nat} (h1 : ¬ bt w m = false) (h2 : ¬ st m = 1) : bI false = bI (rdB st w c0 (m + 1)) := by
  cases e : bt w m
  · exact absurd e h1
  · rw [rdB, e, decide_eq_false h2, Bool.or_false, Bool.not_true, Bool.and_false]
theorem rdB_iff {st : Nat → Int32} {w : Int32} {c0 : Bool} : ∀ (n : Nat), rdB st w c0 n = true ↔ c0 = true ∧ ∀ c, c < n → bt w c = true → st c = 1
  | 0 => ⟨fun h => ⟨h, fun c hc => absurd hc (Nat.not_lt_zero c)⟩, fun h => h.1⟩
  | n + 1 => by
    rw [rdB, Bool.and_eq_true, rdB_iff n]
    constructor
    · rintro ⟨⟨h1, h2⟩, h3⟩
      refine ⟨h1, fun c hc hb => ?_⟩
      by_cases e : c = n
      · subst e
        rw [hb] at h3
        exact of_decide_eq_true h3
      · exact h2 c (by omega) hb
    · rintro ⟨h1, h2⟩
      refine ⟨⟨h1, fun c hc => h2 c (by omega)⟩, ?_⟩
      cases e : bt w n
      · rfl
      · rw [decide_eq_true (h2 n (by omega) e)]; rfl
def Sp_M_isReady (C : ax_O) : Prop := ∀ (f : Nat → Int32) (n kn : Nat) (t : Nat → Nat → Int32) (b : Nat) (j : Nat) (z : Bool), n ≤ 24 → j < 24 → C no_M_isReady [.ref 0, .int (nI j), .int (bI z)] (mH f n kn t b) (ax_is (some (.int (bI (rdB (t 14) (t 7 j) (decide (t 14 j = 6) && (z || decide (t 8 j = 0))) n)))) (mH f n kn t b))
theorem p_M_isReady {C : ax_O} : Sp_M_isReady (ax_B ax_Ms ax_Xs C) := by
  intro f n kn t b j z hn hj
  generalize hc0 : (decide (t 14 j = 6) && (z || decide (t 8 j = 0))) = c0
  have loop : ∀ (k a : Nat) (x : Int32) (m : Int32), x = nI a → m = bI (rdB (t 14) (t 7 j) c0 a) → a + k = n → ax_X ax_Ms ax_Xs no_M_isReady C (ax_is (some (.int (bI (rdB (t 14) (t 7 j) c0 n)))) (mH f n kn t b)) 19 [some (.ref 0), some (.int (nI j)), some (.int (bI z)), some (.int m), some (.int x)] [] (mH f n kn t b) 0 0 := by
    intro k
    induction k with
    | zero =>
      intro a x m hx hm hk
      subst hx
      have hk : a = n := hk
      subst hk
      subst hm
      refine ax_X.steps 4 (ax_brT (nI_le (by omega) (by omega)) ?_)
      exact ax_X.steps 2 ⟨Or.inr (bI_01 _), rfl, rfl⟩
    | succ k ih =>
      intro a x m hx hm hk
      subst hx
      subst hm
      refine ax_X.steps 4 (ax_brF (nI_ge (by omega) (by omega)) ?_)
      refine ax_X.steps 2 (ax_br2 (fun c24 => ?_) (fun c24 => ?_))
      · exact ax_X.steps 4 (ih (a + 1) _ _ (nI_1 a) (rdB_f c24) (by omega))
      · refine ax_X.steps 4 ⟨j, ⟨by omega, by omega⟩, rfl, ?_⟩
        refine ax_X.steps 5 (ax_br2 (fun c33 => ?_) (fun c33 => ?_))
        · exact ax_X.steps 5 (ih (a + 1) _ _ (nI_1 a) (rdB_t c24 (Or.inl ((b_rt0 (by omega)).mp c33))) (by omega))
        · refine ax_X.steps 4 ⟨a, ⟨by omega, by omega⟩, rfl, ?_⟩
          refine ax_X.steps 2 (ax_br2 (fun c39 => ?_) (fun c39 => ?_))
          · exact ax_X.steps 4 (ih (a + 1) _ _ (nI_1 a) (rdB_n (fun q => c33 ((b_rt0 (by omega)).mpr q)) c39) (by omega))
          · exact ax_X.steps 5 (ih (a + 1) _ _ (nI_1 a) (rdB_t c24 (Or.inr (nn c39))) (by omega))
  refine ax_X.steps 4 ⟨j, ⟨by omega, by omega⟩, rfl, ?_⟩
  refine ax_X.steps 2 (ax_br2 (fun c5 => ?_) (fun c5 => ?_))
  · exact ax_X.steps 4 (loop n 0 0 _ rfl (show (0 : Int32) = bI c0 by rw [← hc0, decide_eq_false (show ¬ t 14 j = 6 from c5)]; rfl) (by omega))
  · refine ax_X.steps 2 (ax_br2 (fun c7 => ?_) (fun c7 => ?_))
    · exact ax_X.steps 5 (loop n 0 0 _ rfl (show (1 : Int32) = bI c0 by rw [← hc0, decide_eq_true (nn c5), show z = true from by cases z with | false => exact absurd rfl c7 | true => rfl]; rfl) (by omega))
    · refine ax_X.steps 4 ⟨j, ⟨by omega, by omega⟩, rfl, ?_⟩
      refine ax_X.steps 1 (ax_br2 (fun c12 => ?_) (fun c12 => ?_))
      · exact ax_X.steps 4 (loop n 0 0 _ rfl (show (0 : Int32) = bI c0 by rw [← hc0, bI_0.mp (nn c7), decide_eq_false (show ¬ t 8 j = 0 from c12), Bool.or_false, Bool.and_false]; rfl) (by omega))
      · exact ax_X.steps 5 (loop n 0 0 _ rfl (show (1 : Int32) = bI c0 by rw [← hc0, decide_eq_true (nn c5), decide_eq_true (nn c12), Bool.or_true]; rfl) (by omega))
def Sp_M_next (C : ax_O) : Prop := ∀ (f : Nat → Int32) (n kn : Nat) (t : Nat → Nat → Int32) (b : Nat), n ≤ 24 → C no_M_next [.ref 0] (mH f n kn t b) (ax_is (some (.int (oI (fmN (fun c => !decide (t 22 c = 0)) (t 13) n)))) (mH f n kn t b))
theorem p_M_next {C : ax_O} : Sp_M_next (ax_B ax_Ms ax_Xs C) := by
  intro f n kn t b hn
  have loop : ∀ (k a : Nat) (x : Int32) (m : Int32), x = nI a → m = oI (fmN (fun c => !decide (t 22 c = 0)) (t 13) a) → a + k = n → ax_X ax_Ms ax_Xs no_M_next C (ax_is (some (.int (oI (fmN (fun c => !decide (t 22 c = 0)) (t 13) n)))) (mH f n kn t b)) 4 [some (.ref 0), some (.int m), some (.int x)] [] (mH f n kn t b) 0 0 := by
    intro k
    induction k with
    | zero =>
      intro a x m hx hm hk
      subst hx
      have hk : a = n := hk
      subst hk
      subst hm
      refine ax_X.steps 4 (ax_brT (nI_le (by omega) (by omega)) ?_)
      exact ax_X.steps 2 ⟨Or.inl rfl, rfl, rfl⟩
    | succ k ih =>
      intro a x m hx hm hk
      subst hx
      subst hm
      by_cases c1 : t 22 a = 0
      · have e : oI (fmN (fun c => !decide (t 22 c = 0)) (t 13) a) = oI (fmN (fun c => !decide (t 22 c = 0)) (t 13) (a + 1)) := by
          rw [fmN]
          cases fmN (fun c => !decide (t 22 c = 0)) (t 13) a <;> simp [c1]
        refine ax_X.steps 4 (ax_brF (nI_ge (by omega) (by omega)) ?_)
        refine ax_X.steps 4 ⟨a, ⟨by omega, by omega⟩, rfl, ?_⟩
        refine ax_X.steps 1 (ax_brT (c1) ?_)
        exact ax_X.steps 2 (ih (a + 1) _ _ (nI_1 a) e (by omega))
      cases c2 : fmN (fun c => !decide (t 22 c = 0)) (t 13) a with
      | none =>
        have e : nI a = oI (fmN (fun c => !decide (t 22 c = 0)) (t 13) (a + 1)) := by
          rw [fmN, c2]
          simp [c1, oI]
        refine ax_X.steps 4 (ax_brF (nI_ge (by omega) (by omega)) ?_)
        refine ax_X.steps 4 ⟨a, ⟨by omega, by omega⟩, rfl, ?_⟩
        refine ax_X.steps 1 (ax_brF (c1) ?_)
        refine ax_X.steps 2 (ax_brT (show (-1 : Int32) < 0 by decide) ?_)
        exact ax_X.steps 4 (ih (a + 1) _ _ (nI_1 a) e (by omega))
      | some j =>
        have hj := fmN_lt c2
        have c3 : (fun c => !decide (t 22 c = 0)) a = true := by simp [c1]
        refine ax_X.steps 4 (ax_brF (nI_ge (by omega) (by omega)) ?_)
        refine ax_X.steps 4 ⟨a, ⟨by omega, by omega⟩, rfl, ?_⟩
        refine ax_X.steps 1 (ax_brF (c1) ?_)
        refine ax_X.steps 2 (ax_brF (nI_pos (by omega)) ?_)
        refine ax_X.steps 4 ⟨a, ⟨by omega, by omega⟩, rfl, ?_⟩
        refine ax_X.steps 4 ⟨j, ⟨by omega, by omega⟩, rfl, ?_⟩
        refine ax_X.steps 1 (ax_br2 (fun c23 => ?_) (fun c23 => ?_))
        · exact ax_X.steps 2 (ih (a + 1) _ _ (nI_1 a) (fmN_k c2 c23) (by omega))
        · exact ax_X.steps 4 (ih (a + 1) _ _ (nI_1 a) (fmN_n c2 c3 c23) (by omega))
  exact ax_X.steps 4 (loop n 0 0 (-1) rfl rfl (by omega))
def meI (t : Nat → Nat → Int32) (m : Nat) : Int32 := if t 16 m < 0 then t 15 m else if t 15 m ≤ t 16 m then t 15 m else t 16 m
def lsI (x e : Int32) : Int32 := if x < 0 then e else if x ≤ e then x else e
def mnE (t : Nat → Nat → Int32) : Nat → Int32
  | 0 => -1
  | m + 1 => if t 14 m = 7 then lsI (mnE t m) (meI t m) else mnE t m
theorem mnE_t {t : Nat → Nat → Int32} {m : Nat} (h : t 14 m = 7) : mnE t (m + 1) = lsI (mnE t m) (meI t m) := if_pos h
theorem mnE_f {t : Nat → Nat → Int32} {m : Nat} (h : ¬ t 14 m = 7) : mnE t (m + 1) = mnE t m := if_neg h
def Sp_M_nextEnd (C : ax_O) : Prop := ∀ (f : Nat → Int32) (n kn : Nat) (t : Nat → Nat → Int32) (b : Nat), n ≤ 24 → C no_M_nextEnd [.ref 0] (mH f n kn t b) (ax_is (some (.int (mnE t n))) (mH f n kn t b))
theorem p_M_nextEnd {C : ax_O} : Sp_M_nextEnd (ax_B ax_Ms ax_Xs C) := by
  intro f n kn t b hn
  have loop : ∀ (k a : Nat) (x : Int32) (m : Int32) (q : Option Value), x = nI a → m = mnE t a → a + k = n → ax_X ax_Ms ax_Xs no_M_nextEnd C (ax_is (some (.int (mnE t n))) (mH f n kn t b)) 4 [some (.ref 0), some (.int m), some (.int x), q] [] (mH f n kn t b) 0 0 := by
    intro k
    induction k with
    | zero =>
      intro a x m q hx hm hk
      subst hx
      have hk : a = n := hk
      subst hk
      subst hm
      refine ax_X.steps 4 (ax_brT (nI_le (by omega) (by omega)) ?_)
      exact ax_X.steps 2 ⟨Or.inl rfl, rfl, rfl⟩
    | succ k ih =>
      intro a x m q hx hm hk
      subst hx
      subst hm
      refine ax_X.steps 4 (ax_brF (nI_ge (by omega) (by omega)) ?_)
      refine ax_X.steps 4 ⟨a, ⟨by omega, by omega⟩, rfl, ?_⟩
      refine ax_X.steps 2 (ax_br2 (fun c13 => ?_) (fun c13 => ?_))
      · refine ax_X.steps 4 ⟨a, ⟨by omega, by omega⟩, rfl, ?_⟩
        refine ax_X.steps 1 (ax_br2 (fun c19 => ?_) (fun c19 => ?_))
        · refine ax_X.steps 4 ⟨a, ⟨by omega, by omega⟩, rfl, ?_⟩
          refine ax_X.steps 3 (ax_br2 (fun c40 => ?_) (fun c40 => ?_))
          · exact ax_X.steps 5 (ih (a + 1) _ _ _ (nI_1 a) (by show _ = mnE t (a + 1); rw [mnE_t c13]; simp only [meI, lsI, if_pos (show t 16 a < 0 from c19), if_pos (show mnE t a < 0 from c40)]) (by omega))
          · refine ax_X.steps 3 (ax_br2 (fun c43 => ?_) (fun c43 => ?_))
            · exact ax_X.steps 4 (ih (a + 1) _ _ _ (nI_1 a) (by show _ = mnE t (a + 1); rw [mnE_t c13]; simp only [meI, lsI, if_pos (show t 16 a < 0 from c19), if_neg (show ¬ mnE t a < 0 from c40), if_pos (show mnE t a ≤ t 15 a from c43)]) (by omega))
            · exact ax_X.steps 5 (ih (a + 1) _ _ _ (nI_1 a) (by show _ = mnE t (a + 1); rw [mnE_t c13]; simp only [meI, lsI, if_pos (show t 16 a < 0 from c19), if_neg (show ¬ mnE t a < 0 from c40), if_neg (show ¬ mnE t a ≤ t 15 a from c43)]) (by omega))
        · refine ax_X.steps 4 ⟨a, ⟨by omega, by omega⟩, rfl, ?_⟩
          refine ax_X.steps 4 ⟨a, ⟨by omega, by omega⟩, rfl, ?_⟩
          refine ax_X.steps 1 (ax_br2 (fun c28 => ?_) (fun c28 => ?_))
          · refine ax_X.steps 4 ⟨a, ⟨by omega, by omega⟩, rfl, ?_⟩
            refine ax_X.steps 3 (ax_br2 (fun c40 => ?_) (fun c40 => ?_))
            · exact ax_X.steps 5 (ih (a + 1) _ _ _ (nI_1 a) (by show _ = mnE t (a + 1); rw [mnE_t c13]; simp only [meI, lsI, if_neg (show ¬ t 16 a < 0 from c19), if_pos (show t 15 a ≤ t 16 a from c28), if_pos (show mnE t a < 0 from c40)]) (by omega))
            · refine ax_X.steps 3 (ax_br2 (fun c43 => ?_) (fun c43 => ?_))
              · exact ax_X.steps 4 (ih (a + 1) _ _ _ (nI_1 a) (by show _ = mnE t (a + 1); rw [mnE_t c13]; simp only [meI, lsI, if_neg (show ¬ t 16 a < 0 from c19), if_pos (show t 15 a ≤ t 16 a from c28), if_neg (show ¬ mnE t a < 0 from c40), if_pos (show mnE t a ≤ t 15 a from c43)]) (by omega))
              · exact ax_X.steps 5 (ih (a + 1) _ _ _ (nI_1 a) (by show _ = mnE t (a + 1); rw [mnE_t c13]; simp only [meI, lsI, if_neg (show ¬ t 16 a < 0 from c19), if_pos (show t 15 a ≤ t 16 a from c28), if_neg (show ¬ mnE t a < 0 from c40), if_neg (show ¬ mnE t a ≤ t 15 a from c43)]) (by omega))
          · refine ax_X.steps 4 ⟨a, ⟨by omega, by omega⟩, rfl, ?_⟩
            refine ax_X.steps 4 (ax_br2 (fun c40 => ?_) (fun c40 => ?_))
            · exact ax_X.steps 5 (ih (a + 1) _ _ _ (nI_1 a) (by show _ = mnE t (a + 1); rw [mnE_t c13]; simp only [meI, lsI, if_neg (show ¬ t 16 a < 0 from c19), if_neg (show ¬ t 15 a ≤ t 16 a from c28), if_pos (show mnE t a < 0 from c40)]) (by omega))
            · refine ax_X.steps 3 (ax_br2 (fun c43 => ?_) (fun c43 => ?_))
              · exact ax_X.steps 4 (ih (a + 1) _ _ _ (nI_1 a) (by show _ = mnE t (a + 1); rw [mnE_t c13]; simp only [meI, lsI, if_neg (show ¬ t 16 a < 0 from c19), if_neg (show ¬ t 15 a ≤ t 16 a from c28), if_neg (show ¬ mnE t a < 0 from c40), if_pos (show mnE t a ≤ t 16 a from c43)]) (by omega))
              · exact ax_X.steps 5 (ih (a + 1) _ _ _ (nI_1 a) (by show _ = mnE t (a + 1); rw [mnE_t c13]; simp only [meI, lsI, if_neg (show ¬ t 16 a < 0 from c19), if_neg (show ¬ t 15 a ≤ t 16 a from c28), if_neg (show ¬ mnE t a < 0 from c40), if_neg (show ¬ mnE t a ≤ t 16 a from c43)]) (by omega))
      · exact ax_X.steps 3 (ih (a + 1) _ _ _ (nI_1 a) (mnE_f c13).symm (by omega))
  exact ax_X.steps 4 (loop n 0 0 (-1) none rfl rfl (by omega))
theorem upd_id {g : Nat → Int32} {a : Nat} {v : Int32} (h : g a = v) : upd g a v = g := by
  funext q
  unfold upd
  by_cases e : q = a
  · rw [if_pos e, e, h]
  · rw [if_neg e]
def Sp_M_stopAll (C : ax_O) : Prop := ∀ (f : Nat → Int32) (n kn : Nat) (t : Nat → Nat → Int32) (b : Nat), n ≤ 24 → C no_M_stopAll [.ref 0] (mH f n kn t b) (ax_is none (mH f n kn (va_up t 14 (stF n (t 14))) b))
theorem p_M_stopAll {C : ax_O} : Sp_M_stopAll (ax_B ax_Ms ax_Xs C) := by
  intro f n kn t b hn
  have loop : ∀ (k a : Nat) (x : Int32) (g : Nat → Int32), x = nI a → g = stF a (t 14) → a + k = n → ax_X ax_Ms ax_Xs no_M_stopAll C (ax_is none (mH f n kn (va_up t 14 (stF n (t 14))) b)) 2 [some (.ref 0), some (.int x)] [] (mH f n kn (va_up t 14 g) b) 0 0 := by
    intro k
    induction k with
    | zero =>
      intro a x g hx hg hk
      subst hx
      have hk : a = n := hk
      subst hk
      subst hg
      refine ax_X.steps 4 (ax_brT (nI_le (by omega) (by omega)) ?_)
      exact ax_X.steps 1 (⟨rfl, rfl⟩)
    | succ k ih =>
      intro a x g hx hg hk
      subst hx
      subst hg
      refine ax_X.steps 4 (ax_brF (nI_ge (by omega) (by omega)) ?_)
      refine ax_X.steps 7 ⟨a, ⟨by omega, by omega⟩, rfl, ?_⟩
      refine ax_X.steps 2 (ax_br2 (fun c14 => ?_) (fun c14 => ?_))
      · refine ax_X.steps 4 ⟨a, ⟨by omega, by omega⟩, rfl, ?_⟩
        refine ax_X.steps 1 ⟨a, ⟨by omega, by omega⟩, rfl, ?_⟩
        exact ax_X.steps 2 (ih (a + 1) _ (upd (stF a (t 14)) a (stF a (t 14) a)) (nI_1 a) ((upd_id rfl).trans (stF_n (fun q => c14 (stF_at.trans q)))) (by omega))
      · refine ax_X.steps 3 ⟨a, ⟨by omega, by omega⟩, rfl, ?_⟩
        exact ax_X.steps 2 (ih (a + 1) _ (upd (stF a (t 14)) a 4) (nI_1 a) (stF_s (stF_at.symm.trans (nn c14))) (by omega))
  exact ax_X.steps 2 (loop n 0 0 (t 14) rfl (stF_0 _).symm (by omega))
end
section
/-! Ends of tries. r: the rows of a run (0 state 1 first 2 last 3 tries 4 side 5 end here 6 end far), laid over the class's rows by oT, over the reference's by mT. -/
def oT (t r : Nat → Nat → Int32) : Nat → Nat → Int32 := fun j => bif (Nat.ble 14 j && Nat.ble j 20) then r (j - 14) else t j
def mT (t r : Nat → Nat → Int32) : Nat → Nat → Int32 := fun j => bif (Nat.ble 14 j && Nat.ble j 20) then r (bif Nat.beq j 14 then 0 else bif Nat.ble j 16 then j - 10 else j - 16) else t j
theorem ts_id {r : Nat → Nat → Int32} {j a : Nat} {v : Int32} (h : r j a = v) : ts r j a v = r := by
  funext i
  unfold ts va_up
  by_cases e : i = j
  · rw [if_pos e, upd_id h, e]
  · rw [if_neg e]
def maB (tr lf on : Int32) (z : Bool) : Bool := decide (tr ≤ lf) && (decide (on = 0) || !z)
def Sp_N_may (C : ax_O) : Prop := ∀ (f : Nat → Int32) (n : Nat) (t : Nat → Nat → Int32) (u : Int32) (b : Nat) (a q : Nat), n ≤ 24 → a < 24 → q < 4 → t 6 a = nI q → C no_N_mayTryAgain [.ref 18, .int (nI a)] (oH f n t u b) (ax_is (some (.int (bI (maB (t 17 a) (t 13 q) (t 12 1) (anyB (badB (t 14)) n))))) (oH f n t u b))
theorem p_N_may {C : ax_O} (h1 : Sp_N_isOneBad C) : Sp_N_may (ax_B ax_Ms ax_Xs C) := by
  intro f n t u b a q hn ha hq e
  unfold maB
  refine ax_X.steps 4 ⟨a, ⟨by omega, by omega⟩, rfl, ?_⟩
  refine ax_X.steps 8 ⟨a, ⟨by omega, by omega⟩, rfl, ?_⟩
  refine ax_X.steps 1 ⟨q, ⟨by omega, by omega⟩, e, ?_⟩
  refine ax_X.steps 1 (ax_br2 (fun c13 => ?_) (fun c13 => ?_))
  · refine ax_X.steps 4 (ax_brT (rfl) ?_)
    exact ax_X.steps 2 ⟨Or.inr (Or.inl rfl), by rw [decide_eq_false (i_nle.mpr c13)]; rfl, rfl⟩
  · refine ax_X.steps 5 (ax_brF (bI_n0) ?_)
    refine ax_X.steps 5 ⟨1, ⟨by omega, by omega⟩, rfl, ?_⟩
    refine ax_X.steps 1 (ax_br2 (fun c25 => ?_) (fun c25 => ?_))
    · exact ax_X.steps 3 ⟨Or.inr (Or.inr rfl), by rw [decide_eq_true (i_nlt.mp c13), decide_eq_true (show t 12 1 = 0 from c25)]; rfl, rfl⟩
    · refine ax_X.steps 2 (ax_go (h1 f n t u b hn) ?_)
      refine ax_X.steps 1 (ax_br2 (fun c28 => ?_) (fun c28 => ?_))
      · exact ax_X.steps 2 ⟨Or.inr (Or.inl rfl), by rw [decide_eq_false (show ¬ t 12 1 = 0 from c25), show anyB (badB (t 14)) n = true from by cases z : anyB (badB (t 14)) n with | false => rw [z] at c28; exact absurd rfl c28 | true => rfl, Bool.not_true, Bool.or_false, Bool.and_false]; rfl, rfl⟩
      · exact ax_X.steps 3 ⟨Or.inr (Or.inr rfl), by rw [decide_eq_true (i_nlt.mp c13), bI_0.mp (nn c28), Bool.not_false, Bool.or_true]; rfl, rfl⟩
def lvF (f : Nat → Int32) (c m l e : Int32) : Nat → Int32 := if e = -1 then gbF f c m l else va_up (gbF f c m l) 6 (f 6 - 1)
def lvR (r : Nat → Nat → Int32) (a : Nat) : Nat → Nat → Int32 := ts (ts r 5 a (-1)) 6 a (-1)
def Sp_N_leave (C : ax_O) : Prop := ∀ (f : Nat → Int32) (n : Nat) (t : Nat → Nat → Int32) (u : Int32) (b : Nat) (r : Nat → Nat → Int32) (a : Nat), a < 24 → C no_N_leaveBothSides [.ref 18, .int (nI a)] (oH f n (oT t r) u b) (ax_is none (oH (lvF f (t 1 a) (t 2 a) (t 3 a) (r 6 a)) n (oT t (lvR r a)) u b))
theorem p_N_leave {C : ax_O} (h1 : Sp_H_giveBack C) : Sp_N_leave (ax_B ax_Ms ax_Xs C) := by
  intro f n t u b r a ha
  refine ax_X.steps 7 ⟨a, ⟨by omega, by omega⟩, rfl, ?_⟩
  refine ax_X.steps 5 ⟨a, ⟨by omega, by omega⟩, rfl, ?_⟩
  refine ax_X.steps 5 ⟨a, ⟨by omega, by omega⟩, rfl, ?_⟩
  refine ax_X.steps 1 (ax_gov (h1 f n (oT t r) u b (t 1 a) (t 2 a) (t 3 a)) ?_)
  refine ax_X.steps 5 ⟨a, ⟨by omega, by omega⟩, rfl, (?_ : ax_X ax_Ms ax_Xs no_N_leaveBothSides C _ 23 [some (.ref 18), some (.int (nI a))] [] (oH (gbF f (t 1 a) (t 2 a) (t 3 a)) n (oT t (ts r 5 a (-1))) u b) 0 0)⟩
  refine ax_X.steps 4 ⟨a, ⟨by omega, by omega⟩, rfl, ?_⟩
  refine ax_X.steps 2 (ax_br2 (fun c28 => ?_) (fun c28 => ?_))
  · exact ax_X.steps 1 (⟨rfl, by rw [lvF, if_pos (show r 6 a = -1 from c28), lvR, ts_id (r := ts r 5 a (-1)) (j := 6) (show r 6 a = -1 from c28)]⟩)
  · refine ax_X.steps 7 ⟨Or.inl rfl, (?_ : ax_X ax_Ms ax_Xs no_N_leaveBothSides C _ 36 [some (.ref 18), some (.int (nI a))] [] (oH (va_up (gbF f (t 1 a) (t 2 a) (t 3 a)) 6 (f 6 - 1)) n (oT t (ts r 5 a (-1))) u b) 0 0)⟩
    refine ax_X.steps 5 ⟨a, ⟨by omega, by omega⟩, rfl, (?_ : ax_X ax_Ms ax_Xs no_N_leaveBothSides C _ 41 [some (.ref 18), some (.int (nI a))] [] (oH (va_up (gbF f (t 1 a) (t 2 a) (t 3 a)) 6 (f 6 - 1)) n (oT t (ts (ts r 5 a (-1)) 6 a (-1))) u b) 0 0)⟩
    exact ax_X.steps 1 (⟨rfl, by rw [lvF, if_neg (show ¬ r 6 a = -1 from c28)]; rfl⟩)
def endR (fl : Nat → Int32) (m : Bool) (r : Nat → Nat → Int32) (a : Nat) (sd ck : Int32) : Nat → Nat → Int32 := if fl a < r 3 a then ts (ts (ts (lvR r a) 2 a ck) 0 a 1) 4 a sd else ts (ts (lvR r a) 2 a ck) 0 a (bif m then 6 else 2)
def mayR (n : Nat) (kd lf on : Nat → Int32) (r : Nat → Nat → Int32) (a : Nat) : Bool := maB (r 3 a) (lf (kd a).toNatClampNeg) (on 1) (anyB (badB (r 0)) n)
def Sp_N_endTry (C : ax_O) : Prop := ∀ (f : Nat → Int32) (n : Nat) (t : Nat → Nat → Int32) (u : Int32) (b : Nat) (r : Nat → Nat → Int32) (a : Nat) (ck sd : Int32), n ≤ 24 → a < 24 → (∃ q, q < 4 ∧ t 6 a = nI q) → C no_N_endTry [.ref 18, .int (nI a), .int ck, .int sd] (oH f n (oT t r) u b) (ax_is none (oH (lvF f (t 1 a) (t 2 a) (t 3 a) (r 6 a)) n (oT t (endR (t 5) (mayR n (t 6) (t 13) (t 12) r a) r a sd ck)) u b))
theorem p_N_endTry {C : ax_O} (h1 : Sp_N_leave C) (h2 : Sp_N_may C) : Sp_N_endTry (ax_B ax_Ms ax_Xs C) := by
  intro f n t u b r a ck sd hn ha hq
  obtain ⟨q, hq, eq⟩ := hq
  have e0 : (t 6 a).toNatClampNeg = q := by rw [eq]; exact nI_clamp (by omega)
  unfold endR mayR
  rw [e0]
  refine ax_X.steps 3 (ax_gov (h1 f n t u b r a ha) ?_)
  refine ax_X.steps 5 ⟨a, ⟨by omega, by omega⟩, rfl, (?_ : ax_X ax_Ms ax_Xs no_N_endTry C _ 8 [some (.ref 18), some (.int (nI a)), some (.int ck), some (.int sd)] [] (oH (lvF f (t 1 a) (t 2 a) (t 3 a) (r 6 a)) n (oT t (ts (lvR r a) 2 a ck)) u b) 0 0)⟩
  refine ax_X.steps 4 ⟨a, ⟨by omega, by omega⟩, rfl, ?_⟩
  refine ax_X.steps 5 ⟨a, ⟨by omega, by omega⟩, rfl, ?_⟩
  refine ax_X.steps 1 (ax_br2 (fun c17 => ?_) (fun c17 => ?_))
  · refine ax_X.steps 6 (ax_go (h2 (lvF f (t 1 a) (t 2 a) (t 3 a) (r 6 a)) n (oT t (ts (lvR r a) 2 a ck)) u b a q hn ha hq eq) ?_)
    refine ax_X.steps 1 (ax_br2 (fun c35 => ?_) (fun c35 => ?_))
    · refine ax_X.steps 2 ⟨a, ⟨by omega, by omega⟩, rfl, (?_ : ax_X ax_Ms ax_Xs no_N_endTry C _ 40 [some (.ref 18), some (.int (nI a)), some (.int ck), some (.int sd)] [] (oH (lvF f (t 1 a) (t 2 a) (t 3 a) (r 6 a)) n (oT t (ts (ts (lvR r a) 2 a ck) 0 a 2)) u b) 0 0)⟩
      exact ax_X.steps 1 (⟨rfl, by rw [if_neg (i_nlt.mpr (show r 3 a ≤ t 5 a from c17)), bI_0.mp (show bI (maB (r 3 a) (t 13 q) (t 12 1) (anyB (badB (r 0)) n)) = 0 from c35)]; rfl⟩)
    · refine ax_X.steps 3 ⟨a, ⟨by omega, by omega⟩, rfl, (?_ : ax_X ax_Ms ax_Xs no_N_endTry C _ 40 [some (.ref 18), some (.int (nI a)), some (.int ck), some (.int sd)] [] (oH (lvF f (t 1 a) (t 2 a) (t 3 a) (r 6 a)) n (oT t (ts (ts (lvR r a) 2 a ck) 0 a 6)) u b) 0 0)⟩
      exact ax_X.steps 1 (⟨rfl, by rw [if_neg (i_nlt.mpr (show r 3 a ≤ t 5 a from c17)), show maB (r 3 a) (t 13 q) (t 12 1) (anyB (badB (r 0)) n) = true from by cases z : maB (r 3 a) (t 13 q) (t 12 1) (anyB (badB (r 0)) n) with | false => exact absurd (congrArg bI z) c35 | true => rfl]; rfl⟩)
  · refine ax_X.steps 5 ⟨a, ⟨by omega, by omega⟩, rfl, (?_ : ax_X ax_Ms ax_Xs no_N_endTry C _ 23 [some (.ref 18), some (.int (nI a)), some (.int ck), some (.int sd)] [] (oH (lvF f (t 1 a) (t 2 a) (t 3 a) (r 6 a)) n (oT t (ts (ts (lvR r a) 2 a ck) 0 a 1)) u b) 0 0)⟩
    refine ax_X.steps 5 ⟨a, ⟨by omega, by omega⟩, rfl, (?_ : ax_X ax_Ms ax_Xs no_N_endTry C _ 28 [some (.ref 18), some (.int (nI a)), some (.int ck), some (.int sd)] [] (oH (lvF f (t 1 a) (t 2 a) (t 3 a) (r 6 a)) n (oT t (ts (ts (ts (lvR r a) 2 a ck) 0 a 1) 4 a sd)) u b) 0 0)⟩
    exact ax_X.steps 2 (⟨rfl, by rw [if_pos (i_nle.mp (show ¬ r 3 a ≤ t 5 a from c17))]⟩)
abbrev FR : Type := (Nat → Int32) × (Nat → Nat → Int32)
/-- the class at action a -/
def oES (n : Nat) (t : Nat → Nat → Int32) (ck : Int32) (a : Nat) (p : FR) : FR := if p.2 5 a = ck then (lvF p.1 (t 1 a) (t 2 a) (t 3 a) (p.2 6 a), endR (t 5) (mayR n (t 6) (t 13) (t 12) p.2 a) p.2 a 0 ck) else if p.2 6 a = ck then (lvF p.1 (t 1 a) (t 2 a) (t 3 a) (p.2 6 a), endR (t 5) (mayR n (t 6) (t 13) (t 12) p.2 a) p.2 a 1 ck) else p
def Sp_N_endTries (C : ax_O) : Prop := ∀ (f : Nat → Int32) (n : Nat) (t : Nat → Nat → Int32) (u : Int32) (b : Nat) (r : Nat → Nat → Int32) (ck : Int32), n ≤ 24 → (∀ a, a < n → ∃ q, q < 4 ∧ t 6 a = nI q) → C no_N_endTries [.ref 18, .int ck] (oH f n (oT t r) u b) (ax_is none (oH (itN (oES n t ck) n (f, r)).1 n (oT t (itN (oES n t ck) n (f, r)).2) u b))
theorem p_N_endTries {C : ax_O} (h1 : Sp_N_endTry C) : Sp_N_endTries (ax_B ax_Ms ax_Xs C) := by
  intro f n t u b r ck hn hq
  have loop : ∀ (k a : Nat) (x : Int32) (g : FR), x = nI a → g = itN (oES n t ck) a (f, r) → a + k = n → ax_X ax_Ms ax_Xs no_N_endTries C (ax_is none (oH (itN (oES n t ck) n (f, r)).1 n (oT t (itN (oES n t ck) n (f, r)).2) u b)) 2 [some (.ref 18), some (.int ck), some (.int x)] [] (oH g.1 n (oT t g.2) u b) 0 0 := by
    intro k
    induction k with
    | zero =>
      intro a x g hx hg hk
      subst hx
      have hk : a = n := hk
      subst hk
      subst hg
      refine ax_X.steps 5 (ax_brT (nI_le (by omega) (by omega)) ?_)
      exact ax_X.steps 1 (⟨rfl, rfl⟩)
    | succ k ih =>
      intro a x g hx hg hk
      subst hx
      have hs : oES n t ck a g = itN (oES n t ck) (a + 1) (f, r) := by rw [hg]; rfl
      unfold oES at hs
      refine ax_X.steps 5 (ax_brF (nI_ge (by omega) (by omega)) ?_)
      refine ax_X.steps 4 ⟨a, ⟨by omega, by omega⟩, rfl, ?_⟩
      refine ax_X.steps 2 (ax_br2 (fun c12 => ?_) (fun c12 => ?_))
      · refine ax_X.steps 4 ⟨a, ⟨by omega, by omega⟩, rfl, ?_⟩
        refine ax_X.steps 2 (ax_br2 (fun c24 => ?_) (fun c24 => ?_))
        · exact ax_X.steps 2 (ih (a + 1) _ g (nI_1 a) (by rw [if_neg (show ¬ g.2 5 a = ck from c12), if_neg (show ¬ g.2 6 a = ck from c24)] at hs; exact hs) (by omega))
        · refine ax_X.steps 5 (ax_gov (h1 g.1 n t u b g.2 a ck 1 hn (by omega) (hq a (by omega))) ?_)
          exact ax_X.steps 2 (ih (a + 1) _ (lvF g.1 (t 1 a) (t 2 a) (t 3 a) (g.2 6 a), endR (t 5) (mayR n (t 6) (t 13) (t 12) g.2 a) g.2 a 1 ck) (nI_1 a) (by rw [if_neg (show ¬ g.2 5 a = ck from c12), if_pos (show g.2 6 a = ck from nn c24)] at hs; exact hs) (by omega))
      · refine ax_X.steps 5 (ax_gov (h1 g.1 n t u b g.2 a ck 0 hn (by omega) (hq a (by omega))) ?_)
        exact ax_X.steps 3 (ih (a + 1) _ (lvF g.1 (t 1 a) (t 2 a) (t 3 a) (g.2 6 a), endR (t 5) (mayR n (t 6) (t 13) (t 12) g.2 a) g.2 a 0 ck) (nI_1 a) (by rw [if_pos (show g.2 5 a = ck from nn c12)] at hs; exact hs) (by omega))
  exact ax_X.steps 2 (loop n 0 0 (f, r) rfl rfl (by omega))
end
section
/-! Ends of tries, the reference. -/
theorem nI_lt_le {c : Nat} {x : Int32} (hc : c < 1000) : nI c < x ↔ nI (c + 1) ≤ x := by
  rw [Int32.lt_iff_toInt_lt, Int32.le_iff_toInt_le, nI_toInt (by omega), nI_toInt (by omega)]
  omega
theorem ts_ne {r : Nat → Nat → Int32} {j a i c : Nat} {v : Int32} (h : c ≠ a) : ts r j a v i c = r i c := by
  unfold ts va_up
  by_cases e : i = j
  · rw [if_pos e, pk_un h, e]
  · rw [if_neg e]
theorem lvR_ne {r : Nat → Nat → Int32} {a i c : Nat} (h : c ≠ a) : lvR r a i c = r i c := by
  unfold lvR
  rw [ts_ne h, ts_ne h]
theorem endR_ne {fl : Nat → Int32} {m : Bool} {r : Nat → Nat → Int32} {a i c : Nat} {sd ck : Int32} (h : c ≠ a) : endR fl m r a sd ck i c = r i c := by
  unfold endR
  split
  · rw [ts_ne h, ts_ne h, ts_ne h, lvR_ne h]
  · rw [ts_ne h, ts_ne h, lvR_ne h]
def agR (fl ag : Nat → Int32) (r : Nat → Nat → Int32) (a : Nat) : Nat → Int32 := if fl a < r 3 a then ag else upd ag a (ag a + 1)
def Sp_M_end (C : ax_O) : Prop := ∀ (f : Nat → Int32) (n kn : Nat) (t : Nat → Nat → Int32) (b : Nat) (ag : Nat → Int32) (r : Nat → Nat → Int32) (a : Nat) (sd ck : Int32), n ≤ 24 → a < 24 → (∃ q, q < 4 ∧ t 6 a = nI q) → (∃ c, c < 100 ∧ ag a = nI c ∧ r 3 a = nI (c + 1)) → C no_M_end [.ref 0, .int (nI a), .int sd, .int ck] (mH f n kn (mT (va_up t 21 ag) r) b) (ax_is none (mH (va_up f 5 ck) n kn (mT (va_up t 21 (agR (t 5) ag r a)) (endR (t 5) (mayR n (t 6) (t 12) (t 11) r a) r a sd ck)) b))
theorem p_M_end {C : ax_O} (h1 : Sp_M_isSpoilt C) : Sp_M_end (ax_B ax_Ms ax_Xs C) := by
  intro f n kn t b ag r a sd ck hn ha hq hc
  obtain ⟨q, hq, eq⟩ := hq
  obtain ⟨c, hc, ea, er⟩ := hc
  have e0 : (t 6 a).toNatClampNeg = q := by rw [eq]; exact nI_clamp (by omega)
  have e1 : ag a < t 12 q ↔ r 3 a ≤ t 12 q := by rw [ea, er]; exact nI_lt_le (by omega)
  unfold endR mayR agR
  rw [e0]
  refine ax_X.steps 5 ⟨a, ⟨by omega, by omega⟩, rfl, (?_ : ax_X ax_Ms ax_Xs no_M_end C _ 5 [some (.ref 0), some (.int (nI a)), some (.int sd), some (.int ck), none] [] (mH (f) n kn (mT (va_up t 21 (ag)) (ts r 5 a (-1))) b) 0 0)⟩
  refine ax_X.steps 5 ⟨a, ⟨by omega, by omega⟩, rfl, (?_ : ax_X ax_Ms ax_Xs no_M_end C _ 10 [some (.ref 0), some (.int (nI a)), some (.int sd), some (.int ck), none] [] (mH (f) n kn (mT (va_up t 21 (ag)) (lvR r a)) b) 0 0)⟩
  refine ax_X.steps 5 ⟨a, ⟨by omega, by omega⟩, rfl, (?_ : ax_X ax_Ms ax_Xs no_M_end C _ 15 [some (.ref 0), some (.int (nI a)), some (.int sd), some (.int ck), none] [] (mH (f) n kn (mT (va_up t 21 (ag)) (ts (lvR r a) 2 a ck)) b) 0 0)⟩
  refine ax_X.steps 3 ⟨Or.inl rfl, (?_ : ax_X ax_Ms ax_Xs no_M_end C _ 18 [some (.ref 0), some (.int (nI a)), some (.int sd), some (.int ck), none] [] (mH (va_up f 5 ck) n kn (mT (va_up t 21 (ag)) (ts (lvR r a) 2 a ck)) b) 0 0)⟩
  refine ax_X.steps 4 ⟨a, ⟨by omega, by omega⟩, rfl, ?_⟩
  refine ax_X.steps 4 ⟨a, ⟨by omega, by omega⟩, rfl, ?_⟩
  refine ax_X.steps 1 (ax_br2 (fun c26 => ?_) (fun c26 => ?_))
  · refine ax_X.steps 4 ⟨a, ⟨by omega, by omega⟩, rfl, ?_⟩
    refine ax_X.steps 6 ⟨a, ⟨by omega, by omega⟩, rfl, ?_⟩
    refine ax_X.steps 1 ⟨q, ⟨by omega, by omega⟩, eq, ?_⟩
    refine ax_X.steps 1 (ax_br2 (fun c49 => ?_) (fun c49 => ?_))
    · refine ax_X.steps 7 ⟨a, ⟨by omega, by omega⟩, rfl, ?_⟩
      refine ax_X.steps 3 ⟨a, ⟨by omega, by omega⟩, rfl, (?_ : ax_X ax_Ms ax_Xs no_M_end C _ 70 [some (.ref 0), some (.int (nI a)), some (.int sd), some (.int ck), some (.int 0)] [] (mH (va_up f 5 ck) n kn (mT (va_up t 21 (upd ag a (ag a + 1))) (ts (lvR r a) 2 a ck)) b) 0 0)⟩
      refine ax_X.steps 5 (ax_brT (rfl) ?_)
      refine ax_X.steps 2 ⟨a, ⟨by omega, by omega⟩, rfl, (?_ : ax_X ax_Ms ax_Xs no_M_end C _ 79 [some (.ref 0), some (.int (nI a)), some (.int sd), some (.int ck), some (.int 0)] [] (mH (va_up f 5 ck) n kn (mT (va_up t 21 (upd ag a (ag a + 1))) (ts (ts (lvR r a) 2 a ck) 0 a 2)) b) 0 0)⟩
      exact ax_X.steps 1 (⟨rfl, by rw [if_neg (i_nlt.mpr (show r 3 a ≤ t 5 a from c26)), if_neg (i_nlt.mpr (show r 3 a ≤ t 5 a from c26)), show maB (r 3 a) (t 12 q) (t 11 1) (anyB (badB (r 0)) n) = false from by unfold maB; rw [decide_eq_false (fun z => absurd (e1.mpr z) (i_nlt.mpr (show t 12 q ≤ ag a from c49))), Bool.false_and]]; rfl⟩)
    · refine ax_X.steps 4 ⟨1, ⟨by omega, by omega⟩, rfl, ?_⟩
      refine ax_X.steps 1 (ax_br2 (fun c54 => ?_) (fun c54 => ?_))
      · refine ax_X.steps 8 ⟨a, ⟨by omega, by omega⟩, rfl, ?_⟩
        refine ax_X.steps 3 ⟨a, ⟨by omega, by omega⟩, rfl, (?_ : ax_X ax_Ms ax_Xs no_M_end C _ 70 [some (.ref 0), some (.int (nI a)), some (.int sd), some (.int ck), some (.int 1)] [] (mH (va_up f 5 ck) n kn (mT (va_up t 21 (upd ag a (ag a + 1))) (ts (lvR r a) 2 a ck)) b) 0 0)⟩
        refine ax_X.steps 5 (ax_brF (bI_n0) ?_)
        refine ax_X.steps 3 ⟨a, ⟨by omega, by omega⟩, rfl, (?_ : ax_X ax_Ms ax_Xs no_M_end C _ 79 [some (.ref 0), some (.int (nI a)), some (.int sd), some (.int ck), some (.int 1)] [] (mH (va_up f 5 ck) n kn (mT (va_up t 21 (upd ag a (ag a + 1))) (ts (ts (lvR r a) 2 a ck) 0 a 6)) b) 0 0)⟩
        exact ax_X.steps 1 (⟨rfl, by rw [if_neg (i_nlt.mpr (show r 3 a ≤ t 5 a from c26)), if_neg (i_nlt.mpr (show r 3 a ≤ t 5 a from c26)), show maB (r 3 a) (t 12 q) (t 11 1) (anyB (badB (r 0)) n) = true from by unfold maB; rw [decide_eq_true (e1.mp (i_nle.mp (show ¬ t 12 q ≤ ag a from c49))), decide_eq_true (show t 11 1 = 0 from c54)]; rfl]; rfl⟩)
      · refine ax_X.steps 2 (ax_go (h1 (va_up f 5 ck) n kn (mT (va_up t 21 ag) (ts (lvR r a) 2 a ck)) b hn) ?_)
        refine ax_X.steps 1 (ax_br2 (fun c57 => ?_) (fun c57 => ?_))
        · refine ax_X.steps 7 ⟨a, ⟨by omega, by omega⟩, rfl, ?_⟩
          refine ax_X.steps 3 ⟨a, ⟨by omega, by omega⟩, rfl, (?_ : ax_X ax_Ms ax_Xs no_M_end C _ 70 [some (.ref 0), some (.int (nI a)), some (.int sd), some (.int ck), some (.int 0)] [] (mH (va_up f 5 ck) n kn (mT (va_up t 21 (upd ag a (ag a + 1))) (ts (lvR r a) 2 a ck)) b) 0 0)⟩
          refine ax_X.steps 5 (ax_brT (rfl) ?_)
          refine ax_X.steps 2 ⟨a, ⟨by omega, by omega⟩, rfl, (?_ : ax_X ax_Ms ax_Xs no_M_end C _ 79 [some (.ref 0), some (.int (nI a)), some (.int sd), some (.int ck), some (.int 0)] [] (mH (va_up f 5 ck) n kn (mT (va_up t 21 (upd ag a (ag a + 1))) (ts (ts (lvR r a) 2 a ck) 0 a 2)) b) 0 0)⟩
          exact ax_X.steps 1 (⟨rfl, by rw [if_neg (i_nlt.mpr (show r 3 a ≤ t 5 a from c26)), if_neg (i_nlt.mpr (show r 3 a ≤ t 5 a from c26)), show maB (r 3 a) (t 12 q) (t 11 1) (anyB (badB (r 0)) n) = false from by unfold maB; rw [decide_eq_false (show ¬ t 11 1 = 0 from c54), show anyB (badB (r 0)) n = true from (by cases z : anyB (badB (r 0)) n with | false => exact absurd (congrArg bI z) c57 | true => rfl), Bool.not_true, Bool.or_false, Bool.and_false]]; rfl⟩)
        · refine ax_X.steps 8 ⟨a, ⟨by omega, by omega⟩, rfl, ?_⟩
          refine ax_X.steps 3 ⟨a, ⟨by omega, by omega⟩, rfl, (?_ : ax_X ax_Ms ax_Xs no_M_end C _ 70 [some (.ref 0), some (.int (nI a)), some (.int sd), some (.int ck), some (.int 1)] [] (mH (va_up f 5 ck) n kn (mT (va_up t 21 (upd ag a (ag a + 1))) (ts (lvR r a) 2 a ck)) b) 0 0)⟩
          refine ax_X.steps 5 (ax_brF (bI_n0) ?_)
          refine ax_X.steps 3 ⟨a, ⟨by omega, by omega⟩, rfl, (?_ : ax_X ax_Ms ax_Xs no_M_end C _ 79 [some (.ref 0), some (.int (nI a)), some (.int sd), some (.int ck), some (.int 1)] [] (mH (va_up f 5 ck) n kn (mT (va_up t 21 (upd ag a (ag a + 1))) (ts (ts (lvR r a) 2 a ck) 0 a 6)) b) 0 0)⟩
          exact ax_X.steps 1 (⟨rfl, by rw [if_neg (i_nlt.mpr (show r 3 a ≤ t 5 a from c26)), if_neg (i_nlt.mpr (show r 3 a ≤ t 5 a from c26)), show maB (r 3 a) (t 12 q) (t 11 1) (anyB (badB (r 0)) n) = true from by unfold maB; rw [decide_eq_true (e1.mp (i_nle.mp (show ¬ t 12 q ≤ ag a from c49))), show anyB (badB (r 0)) n = false from bI_0.mp (nn c57), Bool.not_false, Bool.or_true]; rfl]; rfl⟩)
  · refine ax_X.steps 5 ⟨a, ⟨by omega, by omega⟩, rfl, (?_ : ax_X ax_Ms ax_Xs no_M_end C _ 32 [some (.ref 0), some (.int (nI a)), some (.int sd), some (.int ck), none] [] (mH (va_up f 5 ck) n kn (mT (va_up t 21 (ag)) (ts (ts (lvR r a) 2 a ck) 0 a 1)) b) 0 0)⟩
    refine ax_X.steps 5 ⟨a, ⟨by omega, by omega⟩, rfl, (?_ : ax_X ax_Ms ax_Xs no_M_end C _ 37 [some (.ref 0), some (.int (nI a)), some (.int sd), some (.int ck), none] [] (mH (va_up f 5 ck) n kn (mT (va_up t 21 (ag)) (ts (ts (ts (lvR r a) 2 a ck) 0 a 1) 4 a sd)) b) 0 0)⟩
    exact ax_X.steps 1 (⟨rfl, by rw [if_pos (i_nle.mp (show ¬ r 3 a ≤ t 5 a from c26)), if_pos (i_nle.mp (show ¬ r 3 a ≤ t 5 a from c26))]⟩)
abbrev FGR : Type := (Nat → Int32) × (Nat → Int32) × (Nat → Nat → Int32)
def mES (n : Nat) (t : Nat → Nat → Int32) (ck : Int32) (a : Nat) (p : FGR) : FGR := if p.2.2 0 a = 7 then (if p.2.2 5 a = ck then (va_up p.1 5 ck, agR (t 5) p.2.1 p.2.2 a, endR (t 5) (mayR n (t 6) (t 12) (t 11) p.2.2 a) p.2.2 a 0 ck) else if p.2.2 6 a = ck then (va_up p.1 5 ck, agR (t 5) p.2.1 p.2.2 a, endR (t 5) (mayR n (t 6) (t 12) (t 11) p.2.2 a) p.2.2 a 1 ck) else p) else p
theorem agR_ne {fl ag : Nat → Int32} {r : Nat → Nat → Int32} {a c : Nat} (h : c ≠ a) : agR fl ag r a c = ag c := by
  unfold agR
  split
  · rfl
  · exact pk_un h
theorem mES_ne {n : Nat} {t : Nat → Nat → Int32} {ck : Int32} {a c : Nat} {p : FGR} (h : c ≠ a) : (mES n t ck a p).2.1 c = p.2.1 c ∧ ∀ j, (mES n t ck a p).2.2 j c = p.2.2 j c := by
  unfold mES
  split
  · split
    · exact ⟨agR_ne h, fun j => endR_ne h⟩
    · split
      · exact ⟨agR_ne h, fun j => endR_ne h⟩
      · exact ⟨rfl, fun j => rfl⟩
  · exact ⟨rfl, fun j => rfl⟩
theorem mES_ge {n : Nat} {t : Nat → Nat → Int32} {ck : Int32} {p : FGR} : ∀ (a : Nat) {c : Nat}, a ≤ c → (itN (mES n t ck) a p).2.1 c = p.2.1 c ∧ ∀ j, (itN (mES n t ck) a p).2.2 j c = p.2.2 j c
  | 0, _, _ => ⟨rfl, fun _ => rfl⟩
  | a + 1, c, h => by
    have ih := mES_ge (n := n) (t := t) (ck := ck) (p := p) a (c := c) (by omega)
    have h2 := mES_ne (n := n) (t := t) (ck := ck) (a := a) (c := c) (p := itN (mES n t ck) a p) (by omega)
    exact ⟨h2.1.trans ih.1, fun j => (h2.2 j).trans (ih.2 j)⟩
def Sp_M_endAll (C : ax_O) : Prop := ∀ (f : Nat → Int32) (n kn : Nat) (t : Nat → Nat → Int32) (b : Nat) (ag : Nat → Int32) (r : Nat → Nat → Int32) (ck : Int32), n ≤ 24 → (∀ a, a < n → ∃ q, q < 4 ∧ t 6 a = nI q) → (∀ a, a < n → r 0 a = 7 → ∃ c, c < 100 ∧ ag a = nI c ∧ r 3 a = nI (c + 1)) → C no_M_endAll [.ref 0, .int ck] (mH f n kn (mT (va_up t 21 ag) r) b) (ax_is none (mH (itN (mES n t ck) n (f, ag, r)).1 n kn (mT (va_up t 21 (itN (mES n t ck) n (f, ag, r)).2.1) (itN (mES n t ck) n (f, ag, r)).2.2) b))
theorem p_M_endAll {C : ax_O} (h1 : Sp_M_end C) : Sp_M_endAll (ax_B ax_Ms ax_Xs C) := by
  intro f n kn t b ag r ck hn hq hc
  have loop : ∀ (k a : Nat) (x : Int32) (g : FGR), x = nI a → g = itN (mES n t ck) a (f, ag, r) → a + k = n → ax_X ax_Ms ax_Xs no_M_endAll C (ax_is none (mH (itN (mES n t ck) n (f, ag, r)).1 n kn (mT (va_up t 21 (itN (mES n t ck) n (f, ag, r)).2.1) (itN (mES n t ck) n (f, ag, r)).2.2) b)) 2 [some (.ref 0), some (.int ck), some (.int x)] [] (mH g.1 n kn (mT (va_up t 21 g.2.1) g.2.2) b) 0 0 := by
    intro k
    induction k with
    | zero =>
      intro a x g hx hg hk
      subst hx
      have hk : a = n := hk
      subst hk
      subst hg
      refine ax_X.steps 4 (ax_brT (nI_le (by omega) (by omega)) ?_)
      exact ax_X.steps 1 (⟨rfl, rfl⟩)
    | succ k ih =>
      intro a x g hx hg hk
      subst hx
      have hs : mES n t ck a g = itN (mES n t ck) (a + 1) (f, ag, r) := by rw [hg]; rfl
      have hge := mES_ge (n := n) (t := t) (ck := ck) (p := (f, ag, r)) a (c := a) (Nat.le_refl a)
      rw [← hg] at hge
      have hca : g.2.2 0 a = 7 → ∃ c, c < 100 ∧ g.2.1 a = nI c ∧ g.2.2 3 a = nI (c + 1) := by
        rw [hge.1, hge.2 0, hge.2 3]
        exact hc a (by omega)
      unfold mES at hs
      refine ax_X.steps 4 (ax_brF (nI_ge (by omega) (by omega)) ?_)
      refine ax_X.steps 4 ⟨a, ⟨by omega, by omega⟩, rfl, ?_⟩
      refine ax_X.steps 2 (ax_br2 (fun c11 => ?_) (fun c11 => ?_))
      · refine ax_X.steps 4 ⟨a, ⟨by omega, by omega⟩, rfl, ?_⟩
        refine ax_X.steps 2 (ax_br2 (fun c18 => ?_) (fun c18 => ?_))
        · refine ax_X.steps 4 ⟨a, ⟨by omega, by omega⟩, rfl, ?_⟩
          refine ax_X.steps 2 (ax_br2 (fun c30 => ?_) (fun c30 => ?_))
          · exact ax_X.steps 2 (ih (a + 1) _ g (nI_1 a) (by rw [if_pos (show g.2.2 0 a = 7 from c11), if_neg (show ¬ g.2.2 5 a = ck from c18), if_neg (show ¬ g.2.2 6 a = ck from c30)] at hs; exact hs) (by omega))
          · refine ax_X.steps 5 (ax_gov (h1 g.1 n kn t b g.2.1 g.2.2 a 1 ck hn (by omega) (hq a (by omega)) (hca c11)) ?_)
            exact ax_X.steps 2 (ih (a + 1) _ (va_up g.1 5 ck, agR (t 5) g.2.1 g.2.2 a, endR (t 5) (mayR n (t 6) (t 12) (t 11) g.2.2 a) g.2.2 a 1 ck) (nI_1 a) (by rw [if_pos (show g.2.2 0 a = 7 from c11), if_neg (show ¬ g.2.2 5 a = ck from c18), if_pos (show g.2.2 6 a = ck from nn c30)] at hs; exact hs) (by omega))
        · refine ax_X.steps 5 (ax_gov (h1 g.1 n kn t b g.2.1 g.2.2 a 0 ck hn (by omega) (hq a (by omega)) (hca c11)) ?_)
          exact ax_X.steps 3 (ih (a + 1) _ (va_up g.1 5 ck, agR (t 5) g.2.1 g.2.2 a, endR (t 5) (mayR n (t 6) (t 12) (t 11) g.2.2 a) g.2.2 a 0 ck) (nI_1 a) (by rw [if_pos (show g.2.2 0 a = 7 from c11), if_pos (show g.2.2 5 a = ck from nn c18)] at hs; exact hs) (by omega))
      · exact ax_X.steps 3 (ih (a + 1) _ g (nI_1 a) (by rw [if_neg (show ¬ g.2.2 0 a = 7 from c11)] at hs; exact hs) (by omega))
  exact ax_X.steps 2 (loop n 0 0 (f, ag, r) rfl rfl (by omega))
end
section
/-! Begins of tries, the class. -/
/-- ready: waits, all needed done, no test unless tests may (z) -/
def rdO (t : Nat → Nat → Int32) (n : Nat) (z : Bool) (a : Nat) : Bool := (decide (t 14 a = 6) && decide (t 9 a &&& (maskI (fun c => decide (t 14 c = 1)) n ^^^ (-1)) = 0)) && (z || decide (t 7 a = 0))
def tzO (t : Nat → Nat → Int32) (n : Nat) : Bool := decide (t 12 0 = 0) || !anyB (olB t) n
theorem rdO_a {t : Nat → Nat → Int32} {n a : Nat} {z : Bool} (h : ¬ t 14 a = 6) : rdO t n z a = false := by unfold rdO; rw [decide_eq_false h]; rfl
theorem rdO_b {t : Nat → Nat → Int32} {n a : Nat} {z : Bool} (h : ¬ t 9 a &&& (maskI (fun c => decide (t 14 c = 1)) n ^^^ (-1)) = 0) : rdO t n z a = false := by unfold rdO; rw [decide_eq_false h, Bool.and_false]; rfl
theorem rdO_c {t : Nat → Nat → Int32} {n a : Nat} {z : Bool} (h : z = false) (h2 : ¬ t 7 a = 0) : rdO t n z a = false := by unfold rdO; rw [h, decide_eq_false h2, Bool.or_false, Bool.and_false]
theorem rdO_t {t : Nat → Nat → Int32} {n a : Nat} {z : Bool} (h1 : t 14 a = 6) (h2 : t 9 a &&& (maskI (fun c => decide (t 14 c = 1)) n ^^^ (-1)) = 0) (h3 : z = true ∨ t 7 a = 0) : rdO t n z a = true := by
  unfold rdO
  rw [decide_eq_true h1, decide_eq_true h2]
  rcases h3 with h3 | h3
  · rw [h3]; rfl
  · rw [decide_eq_true h3, Bool.or_true]; rfl
def Sp_N_allReady (C : ax_O) : Prop := ∀ (f : Nat → Int32) (n : Nat) (t : Nat → Nat → Int32) (u : Int32) (b : Nat), n ≤ 24 → C no_N_allReady [.ref 18] (oH f n t u b) (ax_is (some (.int (maskI (rdO t n (tzO t n)) n))) (oH f n t u b))
theorem p_N_allReady {C : ax_O} (h1 : Sp_O_only C) (h2 : Sp_N_allIn C) (h3 : Sp_N_other C) : Sp_N_allReady (ax_B ax_Ms ax_Xs C) := by
  intro f n t u b hn
  have main : ∀ z : Bool, ax_X ax_Ms ax_Xs no_N_allReady C (ax_is (some (.int (maskI (rdO t n z) n))) (oH f n t u b)) 17 [some (.ref 18), some (.int (maskI (fun c => decide (t 14 c = 1)) n)), some (.int (bI z)), none, none, none] [] (oH f n t u b) 0 0 := by
    intro z
    have loop : ∀ (k a : Nat) (x : Int32) (m : Int32) (q : Option Value), x = nI a → m = maskI (rdO t n z) a → a + k = n → ax_X ax_Ms ax_Xs no_N_allReady C (ax_is (some (.int (maskI (rdO t n z) n))) (oH f n t u b)) 21 [some (.ref 18), some (.int (maskI (fun c => decide (t 14 c = 1)) n)), some (.int (bI z)), some (.int m), some (.int x), q] [] (oH f n t u b) 0 0 := by
      intro k
      induction k with
      | zero =>
        intro a x m q hx hm hk
        subst hx
        have hk : a = n := hk
        subst hk
        subst hm
        refine ax_X.steps 5 (ax_brT (nI_le (by omega) (by omega)) ?_)
        exact ax_X.steps 2 ⟨Or.inl rfl, rfl, rfl⟩
      | succ k ih =>
        intro a x m q hx hm hk
        subst hx
        subst hm
        refine ax_X.steps 5 (ax_brF (nI_ge (by omega) (by omega)) ?_)
        refine ax_X.steps 4 ⟨a, ⟨by omega, by omega⟩, rfl, ?_⟩
        refine ax_X.steps 2 (ax_br2 (fun c31 => ?_) (fun c31 => ?_))
        · refine ax_X.steps 4 (ax_brT (rfl) ?_)
          exact ax_X.steps 2 (ih (a + 1) _ _ _ (nI_1 a) (maskI_f (rdO_a c31)).symm (by omega))
        · refine ax_X.steps 5 ⟨a, ⟨by omega, by omega⟩, rfl, ?_⟩
          refine ax_X.steps 5 (ax_br2 (fun c41 => ?_) (fun c41 => ?_))
          · refine ax_X.steps 4 (ax_brT (rfl) ?_)
            exact ax_X.steps 2 (ih (a + 1) _ _ _ (nI_1 a) (maskI_f (rdO_b c41)).symm (by omega))
          · refine ax_X.steps 5 (ax_brF (bI_n0) ?_)
            refine ax_X.steps 2 (ax_br2 (fun c49 => ?_) (fun c49 => ?_))
            · refine ax_X.steps 3 (ax_go (h1 _ _) ?_)
              exact ax_X.steps 4 (ih (a + 1) _ _ _ (nI_1 a) (maskI_t (rdO_t (nn c31) (nn c41) (Or.inl (by cases z with | false => exact absurd rfl c49 | true => rfl)))).symm (by omega))
            · refine ax_X.steps 5 ⟨a, ⟨by omega, by omega⟩, rfl, ?_⟩
              refine ax_X.steps 1 (ax_br2 (fun c55 => ?_) (fun c55 => ?_))
              · exact ax_X.steps 2 (ih (a + 1) _ _ _ (nI_1 a) (maskI_f (rdO_c (bI_0.mp (nn c49)) c55)).symm (by omega))
              · refine ax_X.steps 3 (ax_go (h1 _ _) ?_)
                exact ax_X.steps 4 (ih (a + 1) _ _ _ (nI_1 a) (maskI_t (rdO_t (nn c31) (nn c41) (Or.inr (nn c55)))).symm (by omega))
    exact ax_X.steps 4 (loop n 0 0 0 none rfl rfl (by omega))
  unfold tzO
  refine ax_X.steps 3 (ax_go (h2 f n t u b 1 hn) ?_)
  refine ax_X.steps 6 ⟨0, ⟨by omega, by omega⟩, rfl, ?_⟩
  refine ax_X.steps 1 (ax_br2 (fun c9 => ?_) (fun c9 => ?_))
  · exact ax_X.steps 3 (by rw [decide_eq_true (show t 12 0 = 0 from c9), Bool.true_or]; exact main true)
  · refine ax_X.steps 2 (ax_go (h3 f n t u b hn) ?_)
    refine ax_X.steps 1 (ax_br2 (fun c12 => ?_) (fun c12 => ?_))
    · exact ax_X.steps 2 (by rw [decide_eq_false (show ¬ t 12 0 = 0 from c9), show anyB (olB t) n = true from (by cases z : anyB (olB t) n with | false => exact absurd (congrArg bI z) c12 | true => rfl)]; exact main false)
    · exact ax_X.steps 3 (by rw [decide_eq_false (show ¬ t 12 0 = 0 from c9), show anyB (olB t) n = false from bI_0.mp (nn c12)]; exact main true)
def awB (on fr f6 f2 : Int32) : Bool := !decide (on = 0) && (!decide (fr ≤ 0) && decide (f6 < f2))
def bgA (r : Nat → Nat → Int32) (a : Nat) (ck tm fr : Int32) (aw : Bool) : Nat → Nat → Int32 := bif aw then ts (ts (ts r 0 a 7) 5 a (ck + tm)) 6 a (ck + fr) else ts (ts r 0 a 7) 5 a (ck + tm)
def bgT (r : Nat → Nat → Int32) (a : Nat) (ck : Int32) (tr : Int32) : Nat → Nat → Int32 := ts (if tr = 0 then ts r 1 a ck else r) 3 a (tr + 1)
def bgR (r : Nat → Nat → Int32) (a : Nat) (ck tm fr : Int32) (aw : Bool) : Nat → Nat → Int32 := bgT (bgA r a ck tm fr aw) a ck (r 3 a)
def bgF (f : Nat → Int32) (c m l : Int32) (aw : Bool) : Nat → Int32 := bif aw then va_up (tkF f c m l) 6 (tkF f c m l 6 + 1) else tkF f c m l
def Sp_N_beginTry (C : ax_O) : Prop := ∀ (f : Nat → Int32) (n : Nat) (t : Nat → Nat → Int32) (u : Int32) (b : Nat) (r : Nat → Nat → Int32) (a : Nat) (ck : Int32), a < 24 → b < 96 → C no_N_beginTry [.ref 18, .int (nI a), .int ck] (oH f n (oT t r) u b) (ax_is none (oH (bgF f (t 1 a) (t 2 a) (t 3 a) (awB (t 12 3) (t 4 a) (f 6) (f 2))) n (oT (ts t 21 b (nI a)) (bgR r a ck (t 0 a) (t 4 a) (awB (t 12 3) (t 4 a) (f 6) (f 2)))) u (b + 1)))
theorem bt_tail {C : ax_O} (g : Nat → Int32) (n : Nat) (t : Nat → Nat → Int32) (u : Int32) (b a : Nat) (ck : Int32) (ha : a < 24) (hb : b < 96) (r3 : Nat → Nat → Int32) (K : ax_K) (hK : K none (oH g n (oT (ts t 21 b (nI a)) (ts r3 3 a (r3 3 a + 1))) u (b + 1))) : ax_X ax_Ms ax_Xs no_N_beginTry C K 78 [some (.ref 18), some (.int (nI a)), some (.int ck)] [] (oH g n (oT t r3) u b) 0 0 := by
      unfold oH at hK
      rw [← nI_1 b] at hK
      refine ax_X.steps 5 ⟨a, ⟨by omega, by omega⟩, rfl, ?_⟩
      refine ax_X.steps 3 ⟨a, ⟨by omega, by omega⟩, rfl, (?_ : ax_X ax_Ms ax_Xs no_N_beginTry C K 86 [some (.ref 18), some (.int (nI a)), some (.int ck)] [] (oH g n (oT t (ts r3 3 a (r3 3 a + 1))) u b) 0 0)⟩
      refine ax_X.steps 4 (ax_brF (nI_ge (a := b) (b := 96) (by omega) (by omega)) ?_)
      refine ax_X.steps 6 ⟨b, ⟨by omega, by omega⟩, rfl, (?_ : ax_X ax_Ms ax_Xs no_N_beginTry C K 96 [some (.ref 18), some (.int (nI a)), some (.int ck)] [] (oH g n (oT (ts t 21 b (nI a)) (ts r3 3 a (r3 3 a + 1))) u b) 0 0)⟩
      refine ax_X.steps 6 ⟨Or.inl rfl, ?_⟩
      exact ax_X.steps 1 (hK)
theorem bt_fin {C : ax_O} (g : Nat → Int32) (n : Nat) (t : Nat → Nat → Int32) (u : Int32) (b a : Nat) (ck : Int32) (ha : a < 24) (hb : b < 96) (r2 : Nat → Nat → Int32) (K : ax_K) (hK : K none (oH g n (oT (ts t 21 b (nI a)) (bgT r2 a ck (r2 3 a))) u (b + 1))) : ax_X ax_Ms ax_Xs no_N_beginTry C K 68 [some (.ref 18), some (.int (nI a)), some (.int ck)] [] (oH g n (oT t r2) u b) 0 0 := by
    refine ax_X.steps 4 ⟨a, ⟨by omega, by omega⟩, rfl, ?_⟩
    refine ax_X.steps 1 (ax_br2 (fun c72 => ?_) (fun c72 => ?_))
    · exact ax_X.steps 0 (bt_tail g n t u b a ck ha hb r2 K (by rw [bgT, if_neg (show ¬ r2 3 a = 0 from c72)] at hK; exact hK))
    · refine ax_X.steps 5 ⟨a, ⟨by omega, by omega⟩, rfl, (?_ : ax_X ax_Ms ax_Xs no_N_beginTry C K 78 [some (.ref 18), some (.int (nI a)), some (.int ck)] [] (oH g n (oT t (ts r2 1 a ck)) u b) 0 0)⟩
      exact ax_X.steps 0 (bt_tail g n t u b a ck ha hb (ts r2 1 a ck) K (by rw [bgT, if_pos (show r2 3 a = 0 from nn c72)] at hK; exact hK))
theorem bt_main {C : ax_O} (h2 : Sp_H_hasFreeSlot C) (g : Nat → Int32) (n : Nat) (t : Nat → Nat → Int32) (u : Int32) (b a : Nat) (ck : Int32) (ha : a < 24) (hb : b < 96) (r : Nat → Nat → Int32) (K : ax_K) (hK : K none (oH (bif awB (t 12 3) (t 4 a) (g 6) (g 2) then va_up g 6 (g 6 + 1) else g) n (oT (ts t 21 b (nI a)) (bgR r a ck (t 0 a) (t 4 a) (awB (t 12 3) (t 4 a) (g 6) (g 2)))) u (b + 1))) : ax_X ax_Ms ax_Xs no_N_beginTry C K 18 [some (.ref 18), some (.int (nI a)), some (.int ck)] [] (oH g n (oT t r) u b) 0 0 := by
  unfold bgR bgA at hK
  refine ax_X.steps 5 ⟨a, ⟨by omega, by omega⟩, rfl, (?_ : ax_X ax_Ms ax_Xs no_N_beginTry C _ 23 [some (.ref 18), some (.int (nI a)), some (.int ck)] [] (oH (g) n (oT (t) (ts r 0 a 7)) u b) 0 0)⟩
  refine ax_X.steps 9 ⟨a, ⟨by omega, by omega⟩, rfl, ?_⟩
  refine ax_X.steps 2 ⟨a, ⟨by omega, by omega⟩, rfl, (?_ : ax_X ax_Ms ax_Xs no_N_beginTry C _ 34 [some (.ref 18), some (.int (nI a)), some (.int ck)] [] (oH (g) n (oT (t) (ts (ts r 0 a 7) 5 a (ck + t 0 a))) u b) 0 0)⟩
  refine ax_X.steps 5 ⟨3, ⟨by omega, by omega⟩, rfl, ?_⟩
  refine ax_X.steps 1 (ax_br2 (fun c39 => ?_) (fun c39 => ?_))
  · exact ax_X.steps 0 (bt_fin g n t u b a ck ha hb (ts (ts r 0 a 7) 5 a (ck + t 0 a)) K (by rw [show awB (t 12 3) (t 4 a) (g 6) (g 2) = false from by unfold awB; rw [decide_eq_true (show t 12 3 = 0 from c39)]; rfl] at hK; exact hK))
  · refine ax_X.steps 5 ⟨a, ⟨by omega, by omega⟩, rfl, ?_⟩
    refine ax_X.steps 1 (ax_br2 (fun c45 => ?_) (fun c45 => ?_))
    · exact ax_X.steps 0 (bt_fin g n t u b a ck ha hb (ts (ts r 0 a 7) 5 a (ck + t 0 a)) K (by rw [show awB (t 12 3) (t 4 a) (g 6) (g 2) = false from by unfold awB; rw [decide_eq_true (show t 4 a ≤ 0 from c45), Bool.not_true, Bool.false_and, Bool.and_false]] at hK; exact hK))
    · refine ax_X.steps 3 (ax_go (h2 g n (oT t (ts (ts r 0 a 7) 5 a (ck + t 0 a))) u b) ?_)
      refine ax_X.steps 1 (ax_br2 (fun c49 => ?_) (fun c49 => ?_))
      · exact ax_X.steps 0 (bt_fin g n t u b a ck ha hb (ts (ts r 0 a 7) 5 a (ck + t 0 a)) K (by rw [show awB (t 12 3) (t 4 a) (g 6) (g 2) = false from by unfold awB; rw [show decide (g 6 < g 2) = false from bI_0.mp c49, Bool.and_false, Bool.and_false]] at hK; exact hK))
      · refine ax_X.steps 7 ⟨Or.inl rfl, (?_ : ax_X ax_Ms ax_Xs no_N_beginTry C _ 57 [some (.ref 18), some (.int (nI a)), some (.int ck)] [] (oH (va_up g 6 (g 6 + 1)) n (oT (t) (ts (ts r 0 a 7) 5 a (ck + t 0 a))) u b) 0 0)⟩
        refine ax_X.steps 9 ⟨a, ⟨by omega, by omega⟩, rfl, ?_⟩
        refine ax_X.steps 2 ⟨a, ⟨by omega, by omega⟩, rfl, (?_ : ax_X ax_Ms ax_Xs no_N_beginTry C _ 68 [some (.ref 18), some (.int (nI a)), some (.int ck)] [] (oH (va_up g 6 (g 6 + 1)) n (oT (t) (ts (ts (ts r 0 a 7) 5 a (ck + t 0 a)) 6 a (ck + t 4 a))) u b) 0 0)⟩
        exact ax_X.steps 0 (bt_fin (va_up g 6 (g 6 + 1)) n t u b a ck ha hb (ts (ts (ts r 0 a 7) 5 a (ck + t 0 a)) 6 a (ck + t 4 a)) K (by rw [show awB (t 12 3) (t 4 a) (g 6) (g 2) = true from by unfold awB; rw [decide_eq_false (show ¬ t 12 3 = 0 from c39), decide_eq_false (show ¬ t 4 a ≤ 0 from c45), show decide (g 6 < g 2) = true from (by cases z : decide (g 6 < g 2) with | false => exact absurd (congrArg bI z) c49 | true => rfl)]; rfl] at hK; exact hK))
theorem p_N_beginTry {C : ax_O} (h1 : Sp_H_take C) (h2 : Sp_H_hasFreeSlot C) : Sp_N_beginTry (ax_B ax_Ms ax_Xs C) := by
  intro f n t u b r a ck ha hb
  refine ax_X.steps 7 ⟨a, ⟨by omega, by omega⟩, rfl, ?_⟩
  refine ax_X.steps 5 ⟨a, ⟨by omega, by omega⟩, rfl, ?_⟩
  refine ax_X.steps 5 ⟨a, ⟨by omega, by omega⟩, rfl, ?_⟩
  refine ax_X.steps 1 (ax_gov (h1 f n (oT t r) u b (t 1 a) (t 2 a) (t 3 a)) ?_)
  refine ax_X.steps 0 (bt_main h2 (tkF f (t 1 a) (t 2 a) (t 3 a)) n t u b a ck ha hb r _ ⟨rfl, ?_⟩)
  have e6 : tkF f (t 1 a) (t 2 a) (t 3 a) 6 = f 6 := rfl
  have e2 : tkF f (t 1 a) (t 2 a) (t 3 a) 2 = f 2 := rfl
  unfold bgF
  rw [e6, e2]
def cntB (p : Nat → Bool) : Nat → Nat
  | 0 => 0
  | m + 1 => cntB p m + (bif p m then 1 else 0)
theorem cntB_congr {p q : Nat → Bool} : ∀ {n : Nat}, (∀ c, c < n → p c = q c) → cntB p n = cntB q n
  | 0, _ => rfl
  | n + 1, h => by
    rw [cntB, cntB, cntB_congr (fun c hc => h c (by omega)), h n (by omega)]
def delB (p : Nat → Bool) (a : Nat) (c : Nat) : Bool := p c && !decide (c = a)
theorem cntB_del {p : Nat → Bool} {a : Nat} : ∀ {n : Nat}, a < n → p a = true → cntB (delB p a) n + 1 = cntB p n
  | 0, h, _ => absurd h (Nat.not_lt_zero a)
  | n + 1, h, hp => by
    rw [cntB, cntB]
    by_cases e : a = n
    · subst e
      rw [cntB_congr (q := p) (fun c hc => by unfold delB; rw [decide_eq_false (by omega)]; simp), hp]
      unfold delB
      rw [decide_eq_true rfl, hp]
      rfl
    · have ih := cntB_del (p := p) (n := n) (a := a) (by omega) hp
      have e2 : delB p a n = p n := by unfold delB; rw [decide_eq_false (fun q => e q.symm)]; simp
      rw [e2]
      omega
theorem fmN_congr {p q : Nat → Bool} {rs : Nat → Int32} : ∀ {n : Nat}, (∀ c, c < n → p c = q c) → fmN p rs n = fmN q rs n
  | 0, _ => rfl
  | n + 1, h => by
    rw [fmN, fmN, fmN_congr (fun c hc => h c (by omega)), h n (by omega)]
abbrev BS : Type := (Nat → Int32) × (Nat → Int32) × (Nat → Nat → Int32) × Nat
def oBg (t : Nat → Nat → Int32) (ck : Int32) (a : Nat) (s : BS) : BS := (bgF s.1 (t 1 a) (t 2 a) (t 3 a) (awB (t 12 3) (t 4 a) (s.1 6) (s.1 2)), upd s.2.1 s.2.2.2 (nI a), bgR s.2.2.1 a ck (t 0 a) (t 4 a) (awB (t 12 3) (t 4 a) (s.1 6) (s.1 2)), s.2.2.2 + 1)
def oBL (n : Nat) (t : Nat → Nat → Int32) (ck : Int32) : Nat → (Nat → Bool) → BS → BS
  | 0, _, s => s
  | k + 1, p, s => match fmN p (t 11) n with
    | none => s
    | some a => if frB s.1 (t 1 a) (t 2 a) (t 3 a) = true then oBL n t ck k (delB p a) (oBg t ck a s) else if t 12 2 = 0 then s else oBL n t ck k (delB p a) s
def oHs (n : Nat) (t : Nat → Nat → Int32) (u : Int32) (s : BS) : ax_H := oH s.1 n (oT (va_up t 21 s.2.1) s.2.2.1) u s.2.2.2
def Sp_N_beginReady (C : ax_O) : Prop := ∀ (n : Nat) (t : Nat → Nat → Int32) (u : Int32) (s : BS) (ck : Int32), n ≤ 24 → s.2.2.2 + cntB (rdO (oT t s.2.2.1) n (tzO (oT t s.2.2.1) n)) n ≤ 96 → C no_N_beginReady [.ref 18, .int ck] (oHs n t u s) (ax_is none (oHs n t u (oBL n t ck n (rdO (oT t s.2.2.1) n (tzO (oT t s.2.2.1) n)) s)))
theorem p_N_beginReady {C : ax_O} (h1 : Sp_N_allReady C) (h2 : Sp_N_foremost C) (h3 : Sp_O_only C) (h4 : Sp_H_hasFree C) (h5 : Sp_N_beginTry C) : Sp_N_beginReady (ax_B ax_Ms ax_Xs C) := by
  intro n t u s0 ck hn hb0
  generalize hp0 : rdO (oT t s0.2.2.1) n (tzO (oT t s0.2.2.1) n) = p0
  rw [hp0] at hb0
  generalize he : oBL n t ck n p0 s0 = e
  have loop : ∀ (k a : Nat) (x : Int32) (L : Int32) (q : Option Value) (p : Nat → Bool) (s : BS), x = nI a → (∀ c, c < n → bt L c = p c) → s.2.2.2 + cntB p n ≤ 96 → oBL n t ck k p s = e → a + k = n → ax_X ax_Ms ax_Xs no_N_beginReady C (ax_is none (oHs n t u e)) 5 [some (.ref 18), some (.int ck), some (.int L), some (.int x), q] [] (oHs n t u s) 0 0 := by
    intro k
    induction k with
    | zero =>
      intro a x L q p s hx hL hb hs hk
      subst hx
      have hk : a = n := hk
      subst hk
      subst hs
      refine ax_X.steps 5 (ax_brT (nI_le (by omega) (by omega)) ?_)
      exact ax_X.steps 1 (⟨rfl, rfl⟩)
    | succ k ih =>
      intro a x L q p s hx hL hb hs hk
      subst hx
      rw [oBL] at hs
      have hfm : fmN (bt L) (t 11) n = fmN p (t 11) n := fmN_congr hL
      cases c1 : fmN p (t 11) n with
      | none =>
        rw [c1] at hs
        subst hs
        refine ax_X.steps 5 (ax_brF (nI_ge (by omega) (by omega)) ?_)
        refine ax_X.steps 3 (ax_go ((show C no_N_foremost [.ref 18, .int L] (oHs n t u s) (ax_is (some (.int (-1))) (oHs n t u s)) from by have := h2 s.1 n (oT (va_up t 21 s.2.1) s.2.2.1) u s.2.2.2 L hn; rw [show oT (va_up t 21 s.2.1) s.2.2.1 11 = t 11 from rfl, hfm, c1] at this; exact this)) ?_)
        refine ax_X.steps 4 (ax_brF (fun z => z rfl) ?_)
        exact ax_X.steps 1 (⟨rfl, rfl⟩)
      | some j =>
        rw [c1] at hs
        dsimp only at hs
        have hj := fmN_lt c1
        have hpj := fmN_p c1
        have hcd := cntB_del hj hpj
        have hL2 : ∀ c, c < n → bt (L &&& (sB j ^^^ (-1))) c = delB p j c := fun c hc => by rw [b_del (by omega) (by omega), hL c hc]; rfl
        cases c2 : frB s.1 (t 1 j) (t 2 j) (t 3 j)
        · rw [c2, if_neg (by decide)] at hs
          by_cases c3 : t 12 2 = 0
          · rw [if_pos c3] at hs
            subst hs
            refine ax_X.steps 5 (ax_brF (nI_ge (by omega) (by omega)) ?_)
            refine ax_X.steps 3 (ax_go ((show C no_N_foremost [.ref 18, .int L] (oHs n t u s) (ax_is (some (.int (nI j))) (oHs n t u s)) from by have := h2 s.1 n (oT (va_up t 21 s.2.1) s.2.2.1) u s.2.2.2 L hn; rw [show oT (va_up t 21 s.2.1) s.2.2.1 11 = t 11 from rfl, hfm, c1] at this; exact this)) ?_)
            refine ax_X.steps 4 (ax_brT (oI_ne (by omega)) ?_)
            refine ax_X.steps 3 (ax_go (h3 _ j) ?_)
            refine ax_X.steps 11 ⟨j, ⟨by omega, by omega⟩, rfl, ?_⟩
            refine ax_X.steps 5 ⟨j, ⟨by omega, by omega⟩, rfl, ?_⟩
            refine ax_X.steps 5 ⟨j, ⟨by omega, by omega⟩, rfl, ?_⟩
            refine ax_X.steps 1 (ax_go ((show C no_H_hasFree [.ref 1, .int (t 1 j), .int (t 2 j), .int (t 3 j)] (oHs n t u s) (ax_is (some (.int (bI false))) (oHs n t u s)) from by have := h4 s.1 n (oT (va_up t 21 s.2.1) s.2.2.1) u s.2.2.2 (t 1 j) (t 2 j) (t 3 j); rw [c2] at this; exact this)) ?_)
            refine ax_X.steps 1 (ax_brT (rfl) ?_)
            refine ax_X.steps 5 ⟨2, ⟨by omega, by omega⟩, rfl, ?_⟩
            refine ax_X.steps 1 (ax_brF (fun z => z c3) ?_)
            exact ax_X.steps 1 (⟨rfl, rfl⟩)
          · rw [if_neg c3] at hs
            refine ax_X.steps 5 (ax_brF (nI_ge (by omega) (by omega)) ?_)
            refine ax_X.steps 3 (ax_go ((show C no_N_foremost [.ref 18, .int L] (oHs n t u s) (ax_is (some (.int (nI j))) (oHs n t u s)) from by have := h2 s.1 n (oT (va_up t 21 s.2.1) s.2.2.1) u s.2.2.2 L hn; rw [show oT (va_up t 21 s.2.1) s.2.2.1 11 = t 11 from rfl, hfm, c1] at this; exact this)) ?_)
            refine ax_X.steps 4 (ax_brT (oI_ne (by omega)) ?_)
            refine ax_X.steps 3 (ax_go (h3 _ j) ?_)
            refine ax_X.steps 11 ⟨j, ⟨by omega, by omega⟩, rfl, ?_⟩
            refine ax_X.steps 5 ⟨j, ⟨by omega, by omega⟩, rfl, ?_⟩
            refine ax_X.steps 5 ⟨j, ⟨by omega, by omega⟩, rfl, ?_⟩
            refine ax_X.steps 1 (ax_go ((show C no_H_hasFree [.ref 1, .int (t 1 j), .int (t 2 j), .int (t 3 j)] (oHs n t u s) (ax_is (some (.int (bI false))) (oHs n t u s)) from by have := h4 s.1 n (oT (va_up t 21 s.2.1) s.2.2.1) u s.2.2.2 (t 1 j) (t 2 j) (t 3 j); rw [c2] at this; exact this)) ?_)
            refine ax_X.steps 1 (ax_brT (rfl) ?_)
            refine ax_X.steps 5 ⟨2, ⟨by omega, by omega⟩, rfl, ?_⟩
            refine ax_X.steps 1 (ax_brT (c3) ?_)
            exact ax_X.steps 2 (ih (a + 1) _ _ _ (delB p j) s (nI_1 a) hL2 (by omega) hs (by omega))
        · rw [c2, if_pos rfl] at hs
          refine ax_X.steps 5 (ax_brF (nI_ge (by omega) (by omega)) ?_)
          refine ax_X.steps 3 (ax_go ((show C no_N_foremost [.ref 18, .int L] (oHs n t u s) (ax_is (some (.int (nI j))) (oHs n t u s)) from by have := h2 s.1 n (oT (va_up t 21 s.2.1) s.2.2.1) u s.2.2.2 L hn; rw [show oT (va_up t 21 s.2.1) s.2.2.1 11 = t 11 from rfl, hfm, c1] at this; exact this)) ?_)
          refine ax_X.steps 4 (ax_brT (oI_ne (by omega)) ?_)
          refine ax_X.steps 3 (ax_go (h3 _ j) ?_)
          refine ax_X.steps 11 ⟨j, ⟨by omega, by omega⟩, rfl, ?_⟩
          refine ax_X.steps 5 ⟨j, ⟨by omega, by omega⟩, rfl, ?_⟩
          refine ax_X.steps 5 ⟨j, ⟨by omega, by omega⟩, rfl, ?_⟩
          refine ax_X.steps 1 (ax_go ((show C no_H_hasFree [.ref 1, .int (t 1 j), .int (t 2 j), .int (t 3 j)] (oHs n t u s) (ax_is (some (.int (bI true))) (oHs n t u s)) from by have := h4 s.1 n (oT (va_up t 21 s.2.1) s.2.2.1) u s.2.2.2 (t 1 j) (t 2 j) (t 3 j); rw [c2] at this; exact this)) ?_)
          refine ax_X.steps 1 (ax_brF (bI_n0) ?_)
          refine ax_X.steps 4 (ax_gov ((show C no_N_beginTry [.ref 18, .int (nI j), .int ck] (oHs n t u s) (ax_is none (oHs n t u (oBg t ck j s))) from h5 s.1 n (va_up t 21 s.2.1) u s.2.2.2 s.2.2.1 j ck (by omega) (by omega))) ?_)
          exact ax_X.steps 3 (ih (a + 1) _ _ _ (delB p j) (oBg t ck j s) (nI_1 a) hL2 (by show s.2.2.2 + 1 + _ ≤ 96; omega) hs (by omega))
  refine ax_X.steps 2 (ax_go (h1 s0.1 n (oT (va_up t 21 s0.2.1) s0.2.2.1) u s0.2.2.2 hn) ?_)
  refine ax_X.steps 3 (loop n 0 0 _ none p0 s0 rfl (fun c hc => ?_) hb0 he (by omega))
  rw [bt_mask n (by omega) (by omega), decide_eq_true hc, Bool.true_and, ← hp0]
  rfl
end
section
/-! Begins of tries, the reference. -/
def mbR (r : Nat → Nat → Int32) (a : Nat) (ck tm fr : Int32) (aw : Bool) : Nat → Nat → Int32 := ts (ts (ts (ts (ts r 0 a 7) 1 a (if r 3 a = 0 then ck else r 1 a)) 3 a (r 3 a + 1)) 5 a (ck + tm)) 6 a (bif aw then ck + fr else -1)
theorem mb_tail {C : ax_O} (f : Nat → Int32) (n kn : Nat) (t : Nat → Nat → Int32) (b : Nat) (r : Nat → Nat → Int32) (a : Nat) (ck : Int32) (aw : Bool) (ha : a < 24) (hb : b < 100) (K : ax_K) (hK : K none (mH f n kn (mT (ts t 23 b (nI a)) (mbR r a ck (t 0 a) (t 4 a) aw)) (b + 1))) : ax_X ax_Ms ax_Xs no_M_begin C K 20 [some (.ref 0), some (.int (nI a)), some (.int ck), some (.int (bI aw))] [] (mH f n kn (mT t r) b) 0 0 := by
  have last : ∀ R : Nat → Nat → Int32, K none (mH f n kn (mT (ts t 23 b (nI a)) R) (b + 1)) → ax_X ax_Ms ax_Xs no_M_begin C K 72 [some (.ref 0), some (.int (nI a)), some (.int ck), some (.int (bI aw))] [] (mH f n kn (mT t R) b) 0 0 := by
    intro R hK
    unfold mH at hK
    rw [← nI_1 b] at hK
    refine ax_X.steps 6 ⟨b, ⟨by omega, by omega⟩, rfl, (?_ : ax_X ax_Ms ax_Xs no_M_begin C K 78 [some (.ref 0), some (.int (nI a)), some (.int ck), some (.int (bI aw))] [] (mH f n kn (mT (ts t 23 b (nI a)) (R)) b) 0 0)⟩
    refine ax_X.steps 6 ⟨Or.inl rfl, ?_⟩
    exact ax_X.steps 1 (hK)
  have mid : ∀ v : Int32, v = (if r 3 a = 0 then ck else r 1 a) → ax_X ax_Ms ax_Xs no_M_begin C K 40 [some (.ref 0), some (.int (nI a)), some (.int ck), some (.int (bI aw))] [] (mH f n kn (mT t (ts (ts r 0 a 7) 1 a v)) b) 0 0 := by
    intro v hv
    unfold mbR at hK
    rw [← hv] at hK
    cases aw
    · refine ax_X.steps 5 ⟨a, ⟨by omega, by omega⟩, rfl, ?_⟩
      refine ax_X.steps 3 ⟨a, ⟨by omega, by omega⟩, rfl, (?_ : ax_X ax_Ms ax_Xs no_M_begin C K 48 [some (.ref 0), some (.int (nI a)), some (.int ck), some (.int (bI false))] [] (mH f n kn (mT (t) (ts (ts (ts r 0 a 7) 1 a v) 3 a (r 3 a + 1))) b) 0 0)⟩
      refine ax_X.steps 8 ⟨a, ⟨by omega, by omega⟩, rfl, ?_⟩
      refine ax_X.steps 2 ⟨a, ⟨by omega, by omega⟩, rfl, (?_ : ax_X ax_Ms ax_Xs no_M_begin C K 58 [some (.ref 0), some (.int (nI a)), some (.int ck), some (.int (bI false))] [] (mH f n kn (mT (t) (ts (ts (ts (ts r 0 a 7) 1 a v) 3 a (r 3 a + 1)) 5 a (ck + t 0 a))) b) 0 0)⟩
      refine ax_X.steps 5 (ax_brT (rfl) ?_)
      refine ax_X.steps 2 ⟨a, ⟨by omega, by omega⟩, rfl, (?_ : ax_X ax_Ms ax_Xs no_M_begin C K 72 [some (.ref 0), some (.int (nI a)), some (.int ck), some (.int (bI false))] [] (mH f n kn (mT (t) (ts (ts (ts (ts (ts r 0 a 7) 1 a v) 3 a (r 3 a + 1)) 5 a (ck + t 0 a)) 6 a (-1))) b) 0 0)⟩
      exact ax_X.steps 0 (last _ hK)
    · refine ax_X.steps 5 ⟨a, ⟨by omega, by omega⟩, rfl, ?_⟩
      refine ax_X.steps 3 ⟨a, ⟨by omega, by omega⟩, rfl, (?_ : ax_X ax_Ms ax_Xs no_M_begin C K 48 [some (.ref 0), some (.int (nI a)), some (.int ck), some (.int (bI true))] [] (mH f n kn (mT (t) (ts (ts (ts r 0 a 7) 1 a v) 3 a (r 3 a + 1))) b) 0 0)⟩
      refine ax_X.steps 8 ⟨a, ⟨by omega, by omega⟩, rfl, ?_⟩
      refine ax_X.steps 2 ⟨a, ⟨by omega, by omega⟩, rfl, (?_ : ax_X ax_Ms ax_Xs no_M_begin C K 58 [some (.ref 0), some (.int (nI a)), some (.int ck), some (.int (bI true))] [] (mH f n kn (mT (t) (ts (ts (ts (ts r 0 a 7) 1 a v) 3 a (r 3 a + 1)) 5 a (ck + t 0 a))) b) 0 0)⟩
      refine ax_X.steps 5 (ax_brF (bI_n0) ?_)
      refine ax_X.steps 5 ⟨a, ⟨by omega, by omega⟩, rfl, ?_⟩
      refine ax_X.steps 3 ⟨a, ⟨by omega, by omega⟩, rfl, (?_ : ax_X ax_Ms ax_Xs no_M_begin C K 72 [some (.ref 0), some (.int (nI a)), some (.int ck), some (.int (bI true))] [] (mH f n kn (mT (t) (ts (ts (ts (ts (ts r 0 a 7) 1 a v) 3 a (r 3 a + 1)) 5 a (ck + t 0 a)) 6 a (ck + t 4 a))) b) 0 0)⟩
      exact ax_X.steps 0 (last _ hK)
  refine ax_X.steps 5 ⟨a, ⟨by omega, by omega⟩, rfl, (?_ : ax_X ax_Ms ax_Xs no_M_begin C K 25 [some (.ref 0), some (.int (nI a)), some (.int ck), some (.int (bI aw))] [] (mH f n kn (mT (t) (ts r 0 a 7)) b) 0 0)⟩
  refine ax_X.steps 7 ⟨a, ⟨by omega, by omega⟩, rfl, ?_⟩
  refine ax_X.steps 1 (ax_br2 (fun c32 => ?_) (fun c32 => ?_))
  · refine ax_X.steps 4 ⟨a, ⟨by omega, by omega⟩, rfl, ?_⟩
    refine ax_X.steps 1 ⟨a, ⟨by omega, by omega⟩, rfl, (?_ : ax_X ax_Ms ax_Xs no_M_begin C K 40 [some (.ref 0), some (.int (nI a)), some (.int ck), some (.int (bI aw))] [] (mH f n kn (mT (t) (ts (ts r 0 a 7) 1 a (r 1 a))) b) 0 0)⟩
    exact ax_X.steps 0 (mid (r 1 a) (if_neg (show ¬ r 3 a = 0 from c32)).symm)
  · refine ax_X.steps 3 ⟨a, ⟨by omega, by omega⟩, rfl, (?_ : ax_X ax_Ms ax_Xs no_M_begin C K 40 [some (.ref 0), some (.int (nI a)), some (.int ck), some (.int (bI aw))] [] (mH f n kn (mT (t) (ts (ts r 0 a 7) 1 a ck)) b) 0 0)⟩
    exact ax_X.steps 0 (mid ck (if_pos (show r 3 a = 0 from nn c32)).symm)
def Sp_M_begin (C : ax_O) : Prop := ∀ (f : Nat → Int32) (n kn : Nat) (t : Nat → Nat → Int32) (b : Nat) (r : Nat → Nat → Int32) (a : Nat) (ck : Int32), n ≤ 24 → a < 24 → b < 100 → C no_M_begin [.ref 0, .int (nI a), .int ck] (mH f n kn (mT t r) b) (ax_is none (mH f n kn (mT (ts t 23 b (nI a)) (mbR r a ck (t 0 a) (t 4 a) (awB (t 11 3) (t 4 a) (smI (r 0) (faI (mT t r)) n) (f 2)))) (b + 1)))
theorem p_M_begin {C : ax_O} (h1 : Sp_M_taken_2 C) : Sp_M_begin (ax_B ax_Ms ax_Xs C) := by
  intro f n kn t b r a ck hn ha hb
  refine ax_X.steps 4 ⟨3, ⟨by omega, by omega⟩, rfl, ?_⟩
  refine ax_X.steps 1 (ax_br2 (fun c4 => ?_) (fun c4 => ?_))
  · exact ax_X.steps 2 (by rw [show awB (t 11 3) (t 4 a) (smI (r 0) (faI (mT t r)) n) (f 2) = false from by unfold awB; rw [decide_eq_true (show t 11 3 = 0 from c4)]; rfl]; exact mb_tail f n kn t b r a ck false ha hb _ ⟨rfl, rfl⟩)
  · refine ax_X.steps 4 ⟨a, ⟨by omega, by omega⟩, rfl, ?_⟩
    refine ax_X.steps 1 (ax_br2 (fun c9 => ?_) (fun c9 => ?_))
    · exact ax_X.steps 2 (by rw [show awB (t 11 3) (t 4 a) (smI (r 0) (faI (mT t r)) n) (f 2) = false from by unfold awB; rw [decide_eq_true (show t 4 a ≤ 0 from c9), Bool.not_true, Bool.false_and, Bool.and_false]]; exact mb_tail f n kn t b r a ck false ha hb _ ⟨rfl, rfl⟩)
    · refine ax_X.steps 3 (ax_go (h1 f n kn (mT t r) b hn) ?_)
      refine ax_X.steps 3 (ax_br2 (fun c15 => ?_) (fun c15 => ?_))
      · exact ax_X.steps 2 (by rw [show awB (t 11 3) (t 4 a) (smI (r 0) (faI (mT t r)) n) (f 2) = false from by unfold awB; rw [decide_eq_false (i_nlt.mpr (show f 2 ≤ smI (r 0) (faI (mT t r)) n from c15)), Bool.and_false, Bool.and_false]]; exact mb_tail f n kn t b r a ck false ha hb _ ⟨rfl, rfl⟩)
      · exact ax_X.steps 3 (by rw [show awB (t 11 3) (t 4 a) (smI (r 0) (faI (mT t r)) n) (f 2) = true from by unfold awB; rw [decide_eq_false (show ¬ t 11 3 = 0 from c4), decide_eq_false (show ¬ t 4 a ≤ 0 from c9), decide_eq_true (i_nle.mp (show ¬ f 2 ≤ smI (r 0) (faI (mT t r)) n from c15))]; rfl]; exact mb_tail f n kn t b r a ck true ha hb _ ⟨rfl, rfl⟩)
abbrev GS : Type := (Nat → Int32) × (Nat → Nat → Int32) × Nat
def mHb (f : Nat → Int32) (n kn : Nat) (t : Nat → Nat → Int32) (sn : Nat → Int32) (s : GS) : ax_H := mH f n kn (mT (va_up (va_up t 22 sn) 23 s.1) s.2.1) s.2.2
def mBg (f : Nat → Int32) (n : Nat) (t : Nat → Nat → Int32) (ck : Int32) (a : Nat) (s : GS) : GS := (upd s.1 s.2.2 (nI a), mbR s.2.1 a ck (t 0 a) (t 4 a) (awB (t 11 3) (t 4 a) (smI (s.2.1 0) (faI (mT t s.2.1)) n) (f 2)), s.2.2 + 1)
def mBL (f : Nat → Int32) (n : Nat) (t : Nat → Nat → Int32) (ck : Int32) : Nat → (Nat → Bool) → GS → GS
  | 0, _, s => s
  | k + 1, p, s => match fmN p (t 13) n with
    | none => s
    | some a => if mfB f n (mT t s.2.1) a = true then mBL f n t ck k (delB p a) (mBg f n t ck a s) else if t 11 2 = 0 then s else mBL f n t ck k (delB p a) s
theorem cnt0_fm {p : Nat → Bool} {rs : Nat → Int32} : ∀ {n : Nat}, cntB p n = 0 → fmN p rs n = none
  | 0, _ => rfl
  | n + 1, h => by
    rw [cntB] at h
    have h1 : cntB p n = 0 := by omega
    have h2 : p n = false := by
      cases e : p n
      · rfl
      · rw [e] at h
        have : cntB p n + 1 = 0 := h
        omega
    rw [fmN, cnt0_fm h1, h2]
    rfl
def msF (f : Nat → Int32) (n : Nat) (t r : Nat → Nat → Int32) : Nat → Int32 := va_up (va_up f 3 (mxI (f 3) (smI (r 0) (t 1) n))) 4 (mxI (f 4) (smI (r 0) (t 2) n))
theorem mxI_le {x y : Int32} (h : y ≤ x) : mxI x y = x := if_neg (i_nlt.mpr h)
theorem mxI_nle {x y : Int32} (h : ¬ y ≤ x) : mxI x y = y := if_pos (i_nle.mp h)
theorem mba_end {C : ax_O} (h0 : Sp_M_taken_0 C) (h1 : Sp_M_taken_1 C) (f : Nat → Int32) (n kn : Nat) (t : Nat → Nat → Int32) (ck : Int32) (z3 z4 z2 : Int32) (z5 : Option Value) (sn : Nat → Int32) (s : GS) (hn : n ≤ 24) (K : ax_K) (hK : K none (mHb (msF f n t s.2.1) n kn t sn s)) : ax_X ax_Ms ax_Xs no_M_beginAll C K 100 [some (.ref 0), some (.int ck), some (.int z2), some (.int z3), some (.int z4), z5] [] (mHb f n kn t sn s) 0 0 := by
  have fin : ∀ (c m : Int32), c = smI (s.2.1 0) (t 1) n → m = smI (s.2.1 0) (t 2) n → ax_X ax_Ms ax_Xs no_M_beginAll C K 108 [some (.ref 0), some (.int ck), some (.int z2), some (.int z3), some (.int c), some (.int m)] [] (mHb f n kn t sn s) 0 0 := by
    intro c m hc hm
    unfold msF at hK
    rw [← hc, ← hm] at hK
    have snd : ∀ v : Int32, v = mxI (f 3) c → ax_X ax_Ms ax_Xs no_M_beginAll C K 118 [some (.ref 0), some (.int ck), some (.int z2), some (.int z3), some (.int c), some (.int m)] [] (mHb (va_up f 3 v) n kn t sn s) 0 0 := by
      intro v hv
      rw [← hv] at hK
      refine ax_X.steps 5 (ax_br2 (fun c122 => ?_) (fun c122 => ?_))
      · refine ax_X.steps 3 ⟨Or.inl rfl, ?_⟩
        exact ax_X.steps 1 (by rw [mxI_le (show m ≤ f 4 from c122)] at hK; exact hK)
      · refine ax_X.steps 3 ⟨Or.inl rfl, ?_⟩
        exact ax_X.steps 1 (by rw [mxI_nle (show ¬ m ≤ f 4 from c122)] at hK; exact hK)
    refine ax_X.steps 5 (ax_br2 (fun c112 => ?_) (fun c112 => ?_))
    · refine ax_X.steps 3 ⟨Or.inl rfl, ?_⟩
      exact ax_X.steps 0 (snd (f 3) (mxI_le (show c ≤ f 3 from c112)).symm)
    · refine ax_X.steps 3 ⟨Or.inl rfl, ?_⟩
      exact ax_X.steps 0 (snd c (mxI_nle (show ¬ c ≤ f 3 from c112)).symm)
  refine ax_X.steps 3 (ax_go (h0 f n kn (mT (va_up (va_up t 22 sn) 23 s.1) s.2.1) s.2.2 hn) ?_)
  refine ax_X.steps 4 (ax_go (h1 f n kn (mT (va_up (va_up t 22 sn) 23 s.1) s.2.1) s.2.2 hn) ?_)
  exact ax_X.steps 1 (fin _ _ rfl rfl)
set_option maxHeartbeats 4000000 in
theorem mba_loop {C : ax_O} (h0 : Sp_M_taken_0 C) (h1 : Sp_M_taken_1 C) (hN : Sp_M_next C) (hF : Sp_M_fits C) (hB : Sp_M_begin C) (f : Nat → Int32) (n kn : Nat) (t : Nat → Nat → Int32) (ck z2 : Int32) (K : ax_K) (hn : n ≤ 24) : ∀ (k : Nat) (sn : Nat → Int32) (p : Nat → Bool) (s : GS) (z4 z5 : Option Value), (∀ c, c < n → p c = !decide (sn c = 0)) → cntB p n ≤ k → s.2.2 + cntB p n ≤ 96 → (∀ sn', K none (mHb (msF f n t (mBL f n t ck k p s).2.1) n kn t sn' (mBL f n t ck k p s))) → ax_X ax_Ms ax_Xs no_M_beginAll C K 62 [some (.ref 0), some (.int ck), some (.int z2), some (.int 1), z4, z5] [] (mHb f n kn t sn s) 0 0 := by
  intro k
  induction k with
  | zero =>
    intro sn p s z4 z5 hp hk hb hK
    have hK := hK sn
    have c0 : fmN p (t 13) n = none := cnt0_fm (by omega)
    have hfm : fmN (fun c => !decide (sn c = 0)) (t 13) n = fmN p (t 13) n := fmN_congr (fun c hc => (hp c hc).symm)
    have c1 : fmN p (t 13) n = none := c0
    refine ax_X.steps 2 (ax_brF (bI_n0) ?_)
    refine ax_X.steps 2 (ax_go ((show C no_M_next [.ref 0] (mHb f n kn t sn s) (ax_is (some (.int (-1))) (mHb f n kn t sn s)) from by have := hN f n kn (mT (va_up (va_up t 22 sn) 23 s.1) s.2.1) s.2.2 hn; rw [show (fun c => !decide (mT (va_up (va_up t 22 sn) 23 s.1) s.2.1 22 c = 0)) = (fun c => !decide (sn c = 0)) from rfl, show mT (va_up (va_up t 22 sn) 23 s.1) s.2.1 13 = t 13 from rfl, hfm, c1] at this; exact this)) ?_)
    refine ax_X.steps 3 (ax_brT (show (-1 : Int32) < 0 by decide) ?_)
    refine ax_X.steps 4 (ax_brT (rfl) ?_)
    refine ax_X.steps 2 (ax_brT (rfl) ?_)
    refine ax_X.steps 3 (ax_brT (rfl) ?_)
    exact ax_X.steps 0 (mba_end h0 h1 f n kn t ck 0 (-1) z2 z5 sn s hn K hK)
  | succ k ih =>
    intro sn p s z4 z5 hp hk hb hK
    have hfm : fmN (fun c => !decide (sn c = 0)) (t 13) n = fmN p (t 13) n := fmN_congr (fun c hc => (hp c hc).symm)
    rw [mBL] at hK
    cases c1 : fmN p (t 13) n with
    | none =>
      rw [c1] at hK
      have hK := hK sn
      refine ax_X.steps 2 (ax_brF (bI_n0) ?_)
      refine ax_X.steps 2 (ax_go ((show C no_M_next [.ref 0] (mHb f n kn t sn s) (ax_is (some (.int (-1))) (mHb f n kn t sn s)) from by have := hN f n kn (mT (va_up (va_up t 22 sn) 23 s.1) s.2.1) s.2.2 hn; rw [show (fun c => !decide (mT (va_up (va_up t 22 sn) 23 s.1) s.2.1 22 c = 0)) = (fun c => !decide (sn c = 0)) from rfl, show mT (va_up (va_up t 22 sn) 23 s.1) s.2.1 13 = t 13 from rfl, hfm, c1] at this; exact this)) ?_)
      refine ax_X.steps 3 (ax_brT (show (-1 : Int32) < 0 by decide) ?_)
      refine ax_X.steps 4 (ax_brT (rfl) ?_)
      refine ax_X.steps 2 (ax_brT (rfl) ?_)
      refine ax_X.steps 3 (ax_brT (rfl) ?_)
      exact ax_X.steps 0 (mba_end h0 h1 f n kn t ck 0 (-1) z2 z5 sn s hn K hK)
    | some j =>
      rw [c1] at hK
      dsimp only at hK
      have hj := fmN_lt c1
      have hpj := fmN_p c1
      have hcd := cntB_del hj hpj
      have hp2 : ∀ c, c < n → delB p j c = !decide (upd sn j 0 c = 0) := by
        intro c hc
        unfold delB
        by_cases e : c = j
        · subst e
          rw [pk_us, decide_eq_true rfl, decide_eq_true rfl, Bool.not_true, Bool.and_false]
        · rw [pk_un e, decide_eq_false e, hp c hc, Bool.not_false, Bool.and_true]
      cases c2 : mfB f n (mT t s.2.1) j
      · rw [c2, if_neg (by decide)] at hK
        by_cases c3 : t 11 2 = 0
        · rw [if_pos c3] at hK
          have hK := hK sn
          refine ax_X.steps 2 (ax_brF (bI_n0) ?_)
          refine ax_X.steps 2 (ax_go ((show C no_M_next [.ref 0] (mHb f n kn t sn s) (ax_is (some (.int (nI j))) (mHb f n kn t sn s)) from by have := hN f n kn (mT (va_up (va_up t 22 sn) 23 s.1) s.2.1) s.2.2 hn; rw [show (fun c => !decide (mT (va_up (va_up t 22 sn) 23 s.1) s.2.1 22 c = 0)) = (fun c => !decide (sn c = 0)) from rfl, show mT (va_up (va_up t 22 sn) 23 s.1) s.2.1 13 = t 13 from rfl, hfm, c1] at this; exact this)) ?_)
          refine ax_X.steps 3 (ax_brF (nI_pos (by omega)) ?_)
          refine ax_X.steps 3 (ax_go ((show C no_M_fits [.ref 0, .int (nI j)] (mHb f n kn t sn s) (ax_is (some (.int (bI false))) (mHb f n kn t sn s)) from by have := hF f n kn (mT (va_up (va_up t 22 sn) 23 s.1) s.2.1) s.2.2 j hn (by omega); rw [show mfB f n (mT (va_up (va_up t 22 sn) 23 s.1) s.2.1) j = mfB f n (mT t s.2.1) j from rfl, c2] at this; exact this)) ?_)
          refine ax_X.steps 1 (ax_brF (fun q => q rfl) ?_)
          refine ax_X.steps 4 ⟨2, ⟨by omega, by omega⟩, rfl, ?_⟩
          refine ax_X.steps 1 (ax_brT (c3) ?_)
          refine ax_X.steps 4 (ax_brT (rfl) ?_)
          refine ax_X.steps 2 (ax_brT (rfl) ?_)
          refine ax_X.steps 3 (ax_brT (rfl) ?_)
          exact ax_X.steps 0 (mba_end h0 h1 f n kn t ck 0 (nI j) z2 z5 sn s hn K hK)
        · rw [if_neg c3] at hK
          refine ax_X.steps 2 (ax_brF (bI_n0) ?_)
          refine ax_X.steps 2 (ax_go ((show C no_M_next [.ref 0] (mHb f n kn t sn s) (ax_is (some (.int (nI j))) (mHb f n kn t sn s)) from by have := hN f n kn (mT (va_up (va_up t 22 sn) 23 s.1) s.2.1) s.2.2 hn; rw [show (fun c => !decide (mT (va_up (va_up t 22 sn) 23 s.1) s.2.1 22 c = 0)) = (fun c => !decide (sn c = 0)) from rfl, show mT (va_up (va_up t 22 sn) 23 s.1) s.2.1 13 = t 13 from rfl, hfm, c1] at this; exact this)) ?_)
          refine ax_X.steps 3 (ax_brF (nI_pos (by omega)) ?_)
          refine ax_X.steps 3 (ax_go ((show C no_M_fits [.ref 0, .int (nI j)] (mHb f n kn t sn s) (ax_is (some (.int (bI false))) (mHb f n kn t sn s)) from by have := hF f n kn (mT (va_up (va_up t 22 sn) 23 s.1) s.2.1) s.2.2 j hn (by omega); rw [show mfB f n (mT (va_up (va_up t 22 sn) 23 s.1) s.2.1) j = mfB f n (mT t s.2.1) j from rfl, c2] at this; exact this)) ?_)
          refine ax_X.steps 1 (ax_brF (fun q => q rfl) ?_)
          refine ax_X.steps 4 ⟨2, ⟨by omega, by omega⟩, rfl, ?_⟩
          refine ax_X.steps 1 (ax_brF (c3) ?_)
          refine ax_X.steps 5 (ax_brF (bI_n0) ?_)
          refine ax_X.steps 3 (ax_go ((show C no_M_fits [.ref 0, .int (nI j)] (mHb f n kn t sn s) (ax_is (some (.int (bI false))) (mHb f n kn t sn s)) from by have := hF f n kn (mT (va_up (va_up t 22 sn) 23 s.1) s.2.1) s.2.2 j hn (by omega); rw [show mfB f n (mT (va_up (va_up t 22 sn) 23 s.1) s.2.1) j = mfB f n (mT t s.2.1) j from rfl, c2] at this; exact this)) ?_)
          refine ax_X.steps 1 (ax_brT (rfl) ?_)
          refine ax_X.steps 2 (ax_brF (bI_n0) ?_)
          refine ax_X.steps 5 ⟨j, ⟨by omega, by omega⟩, rfl, (?_ : ax_X ax_Ms ax_Xs no_M_beginAll C K 99 [some (.ref 0), some (.int ck), some (.int z2), some (.int 1), some (.int (nI j)), z5] [] (mHb f n kn t (upd sn j 0) s) 0 0)⟩
          exact ax_X.steps 1 (ih (upd sn j 0) (delB p j) s _ z5 hp2 (by omega) (by omega) hK)
      · rw [c2, if_pos rfl] at hK
        refine ax_X.steps 2 (ax_brF (bI_n0) ?_)
        refine ax_X.steps 2 (ax_go ((show C no_M_next [.ref 0] (mHb f n kn t sn s) (ax_is (some (.int (nI j))) (mHb f n kn t sn s)) from by have := hN f n kn (mT (va_up (va_up t 22 sn) 23 s.1) s.2.1) s.2.2 hn; rw [show (fun c => !decide (mT (va_up (va_up t 22 sn) 23 s.1) s.2.1 22 c = 0)) = (fun c => !decide (sn c = 0)) from rfl, show mT (va_up (va_up t 22 sn) 23 s.1) s.2.1 13 = t 13 from rfl, hfm, c1] at this; exact this)) ?_)
        refine ax_X.steps 3 (ax_brF (nI_pos (by omega)) ?_)
        refine ax_X.steps 3 (ax_go ((show C no_M_fits [.ref 0, .int (nI j)] (mHb f n kn t sn s) (ax_is (some (.int (bI true))) (mHb f n kn t sn s)) from by have := hF f n kn (mT (va_up (va_up t 22 sn) 23 s.1) s.2.1) s.2.2 j hn (by omega); rw [show mfB f n (mT (va_up (va_up t 22 sn) 23 s.1) s.2.1) j = mfB f n (mT t s.2.1) j from rfl, c2] at this; exact this)) ?_)
        refine ax_X.steps 1 (ax_brT (bI_n0) ?_)
        refine ax_X.steps 5 (ax_brF (bI_n0) ?_)
        refine ax_X.steps 3 (ax_go ((show C no_M_fits [.ref 0, .int (nI j)] (mHb f n kn t sn s) (ax_is (some (.int (bI true))) (mHb f n kn t sn s)) from by have := hF f n kn (mT (va_up (va_up t 22 sn) 23 s.1) s.2.1) s.2.2 j hn (by omega); rw [show mfB f n (mT (va_up (va_up t 22 sn) 23 s.1) s.2.1) j = mfB f n (mT t s.2.1) j from rfl, c2] at this; exact this)) ?_)
        refine ax_X.steps 1 (ax_brF (bI_n0) ?_)
        refine ax_X.steps 4 (ax_gov ((show C no_M_begin [.ref 0, .int (nI j), .int ck] (mHb f n kn t sn s) (ax_is none (mHb f n kn t sn (mBg f n t ck j s))) from hB f n kn (va_up (va_up t 22 sn) 23 s.1) s.2.2 s.2.1 j ck hn (by omega) (by omega))) ?_)
        refine ax_X.steps 2 (ax_brF (bI_n0) ?_)
        refine ax_X.steps 5 ⟨j, ⟨by omega, by omega⟩, rfl, (?_ : ax_X ax_Ms ax_Xs no_M_beginAll C K 99 [some (.ref 0), some (.int ck), some (.int z2), some (.int 1), some (.int (nI j)), z5] [] (mHb f n kn t (upd sn j 0) (mBg f n t ck j s)) 0 0)⟩
        exact ax_X.steps 1 (ih (upd sn j 0) (delB p j) (mBg f n t ck j s) _ z5 hp2 (by omega) (by show s.2.2 + 1 + _ ≤ 96; omega) hK)
end
section
/-! Begins of tries, the reference: the whole. -/
def olM (t r : Nat → Nat → Int32) (m : Nat) : Bool := decide (t 8 m = 0) && (decide (r 0 m = 6) || decide (r 0 m = 7))
def tzM (t r : Nat → Nat → Int32) (n : Nat) : Bool := !anyB (olM t r) n || decide (t 11 0 = 0)
def rdM (t r : Nat → Nat → Int32) (n : Nat) (z : Bool) (a : Nat) : Bool := rdB (r 0) (t 7 a) (decide (r 0 a = 6) && (z || decide (t 8 a = 0))) n
theorem na_0 {p : Nat → Bool} {a : Nat} (h : bI (!anyB p a) = 0) : bI false = bI (!anyB p (a + 1)) := by
  rw [anyB]
  have h2 := bI_0.mp h
  cases e : anyB p a
  · rw [e] at h2; cases h2
  · rfl
theorem na_1 {p : Nat → Bool} {a : Nat} (h : ¬ bI (!anyB p a) = 0) (h2 : p a = false) : bI true = bI (!anyB p (a + 1)) := by
  rw [anyB, h2]
  cases e : anyB p a
  · rfl
  · rw [e] at h; exact absurd rfl h
theorem na_2 {p : Nat → Bool} {a : Nat} (h2 : p a = true) : bI false = bI (!anyB p (a + 1)) := by rw [anyB, h2, Bool.or_true]; rfl
theorem cntB_le {p : Nat → Bool} : ∀ (n : Nat), cntB p n ≤ n
  | 0 => Nat.le_refl 0
  | n + 1 => by
    have := cntB_le (p := p) n
    rw [cntB]
    cases p n
    · show cntB p n + 0 ≤ n + 1; omega
    · show cntB p n + 1 ≤ n + 1; omega
theorem bI_dec (b : Bool) : b = !decide (bI b = 0) := by cases b <;> decide
def mbK (f : Nat → Int32) (n kn : Nat) (t : Nat → Nat → Int32) (ck : Int32) (s : GS) (z : Bool) : ax_K := fun x h' => x = none ∧ ∃ sn' : Nat → Int32, h' = mHb (msF f n t (mBL f n t ck n (rdM t s.2.1 n z) s).2.1) n kn t sn' (mBL f n t ck n (rdM t s.2.1 n z) s)
theorem mba_seen {C : ax_O} (h0 : Sp_M_taken_0 C) (h1 : Sp_M_taken_1 C) (hN : Sp_M_next C) (hF : Sp_M_fits C) (hB : Sp_M_begin C) (hR : Sp_M_isReady C) (f : Nat → Int32) (n kn : Nat) (t : Nat → Nat → Int32) (ck : Int32) (s : GS) (z : Bool) (hn : n ≤ 24) (hb : s.2.2 + cntB (rdM t s.2.1 n z) n ≤ 96) (sn0 : Nat → Int32) (z3 z4 z5 : Option Value) : ax_X ax_Ms ax_Xs no_M_beginAll C (mbK f n kn t ck s z) 44 [some (.ref 0), some (.int ck), some (.int (bI z)), z3, z4, z5] [] (mHb f n kn t sn0 s) 0 0 := by
  have loop : ∀ (k a : Nat) (x : Int32) (sn : Nat → Int32), x = nI a → (∀ c, c < a → sn c = bI (rdM t s.2.1 n z c)) → a + k = n → ax_X ax_Ms ax_Xs no_M_beginAll C (mbK f n kn t ck s z) 46 [some (.ref 0), some (.int ck), some (.int (bI z)), some (.int x), z4, z5] [] (mHb f n kn t sn s) 0 0 := by
    intro k
    induction k with
    | zero =>
      intro a x sn hx hs hk
      subst hx
      have hk : a = n := hk
      subst hk
      refine ax_X.steps 4 (ax_brT (nI_le (by omega) (by omega)) ?_)
      exact ax_X.steps 2 (mba_loop h0 h1 hN hF hB f a kn t ck (bI z) _ hn a sn (rdM t s.2.1 a z) s z4 z5 (fun c hc => by rw [hs c hc]; exact bI_dec _) (cntB_le a) hb (fun sn2 => ⟨rfl, sn2, rfl⟩))
    | succ k ih =>
      intro a x sn hx hs hk
      subst hx
      refine ax_X.steps 4 (ax_brF (nI_ge (by omega) (by omega)) ?_)
      refine ax_X.steps 7 (ax_go ((show C no_M_isReady [.ref 0, .int (nI a), .int (bI z)] (mHb f n kn t sn s) (ax_is (some (.int (bI (rdM t s.2.1 n z a)))) (mHb f n kn t sn s)) from hR f n kn (mT (va_up (va_up t 22 sn) 23 s.1) s.2.1) s.2.2 a z hn (by omega))) ?_)
      refine ax_X.steps 1 ⟨a, ⟨by omega, by omega⟩, rfl, ?_⟩
      exact ax_X.steps 2 (ih (a + 1) _ (upd sn a (bI (rdM t s.2.1 n z a) &&& 1)) (nI_1 a) (fun c hc => by
          by_cases e : c = a
          · rw [e, pk_us, bI_and1]
          · rw [pk_un e]; exact hs c (by omega)) (by omega))
  exact ax_X.steps 2 (loop n 0 0 sn0 rfl (fun c hc => absurd hc (Nat.not_lt_zero c)) (by omega))
def Sp_M_beginAll (C : ax_O) : Prop := ∀ (f : Nat → Int32) (n kn : Nat) (t : Nat → Nat → Int32) (sn : Nat → Int32) (s : GS) (ck : Int32), n ≤ 24 → s.2.2 + cntB (rdM t s.2.1 n (tzM t s.2.1 n)) n ≤ 96 → C no_M_beginAll [.ref 0, .int ck] (mHb f n kn t sn s) (mbK f n kn t ck s (tzM t s.2.1 n))
theorem p_M_beginAll {C : ax_O} (h0 : Sp_M_taken_0 C) (h1 : Sp_M_taken_1 C) (hN : Sp_M_next C) (hF : Sp_M_fits C) (hB : Sp_M_begin C) (hR : Sp_M_isReady C) : Sp_M_beginAll (ax_B ax_Ms ax_Xs C) := by
  intro f n kn t sn s ck hn hb
  have go : ∀ (z : Bool) (z3 z4 z5 : Option Value), z = tzM t s.2.1 n → ax_X ax_Ms ax_Xs no_M_beginAll C (mbK f n kn t ck s (tzM t s.2.1 n)) 44 [some (.ref 0), some (.int ck), some (.int (bI z)), z3, z4, z5] [] (mHb f n kn t sn s) 0 0 := by
    intro z z3 z4 z5 hz
    subst hz
    exact mba_seen h0 h1 hN hF hB hR f n kn t ck s _ hn hb sn z3 z4 z5
  have loop : ∀ (k a : Nat) (x : Int32) (m : Int32), x = nI a → m = bI (!anyB (olM t s.2.1) a) → a + k = n → ax_X ax_Ms ax_Xs no_M_beginAll C (mbK f n kn t ck s (tzM t s.2.1 n)) 4 [some (.ref 0), some (.int ck), some (.int m), some (.int x), none, none] [] (mHb f n kn t sn s) 0 0 := by
    intro k
    induction k with
    | zero =>
      intro a x m hx hm hk
      subst hx
      have hk : a = n := hk
      subst hk
      subst hm
      refine ax_X.steps 4 (ax_brT (nI_le (by omega) (by omega)) ?_)
      refine ax_X.steps 2 (ax_br2 (fun c34 => ?_) (fun c34 => ?_))
      · exact ax_X.steps 3 (go true _ _ _ (by unfold tzM; rw [show (!anyB (olM t s.2.1) a) = true from (by cases z : (!anyB (olM t s.2.1) a) with | false => exact absurd (congrArg bI z) c34 | true => rfl)]; rfl))
      · refine ax_X.steps 4 ⟨0, ⟨by omega, by omega⟩, rfl, ?_⟩
        refine ax_X.steps 1 (ax_br2 (fun c39 => ?_) (fun c39 => ?_))
        · exact ax_X.steps 2 (go false _ _ _ (by unfold tzM; rw [bI_0.mp (nn c34), decide_eq_false (show ¬ t 11 0 = 0 from c39)]; rfl))
        · exact ax_X.steps 3 (go true _ _ _ (by unfold tzM; rw [decide_eq_true (show t 11 0 = 0 from nn c39), Bool.or_true]))
    | succ k ih =>
      intro a x m hx hm hk
      subst hx
      subst hm
      refine ax_X.steps 4 (ax_brF (nI_ge (by omega) (by omega)) ?_)
      refine ax_X.steps 2 (ax_br2 (fun c9 => ?_) (fun c9 => ?_))
      · exact ax_X.steps 4 (ih (a + 1) _ _ (nI_1 a) (na_0 c9) (by omega))
      · refine ax_X.steps 4 ⟨a, ⟨by omega, by omega⟩, rfl, ?_⟩
        refine ax_X.steps 1 (ax_br2 (fun c14 => ?_) (fun c14 => ?_))
        · exact ax_X.steps 5 (ih (a + 1) _ _ (nI_1 a) (na_1 c9 (by unfold olM; rw [decide_eq_false (show ¬ t 8 a = 0 from c14)]; rfl)) (by omega))
        · refine ax_X.steps 4 ⟨a, ⟨by omega, by omega⟩, rfl, ?_⟩
          refine ax_X.steps 2 (ax_br2 (fun c20 => ?_) (fun c20 => ?_))
          · exact ax_X.steps 4 (ih (a + 1) _ _ (nI_1 a) (na_2 (by unfold olM; rw [decide_eq_true (show t 8 a = 0 from nn c14), decide_eq_true (show s.2.1 0 a = 6 from c20)]; rfl)) (by omega))
          · refine ax_X.steps 4 ⟨a, ⟨by omega, by omega⟩, rfl, ?_⟩
            refine ax_X.steps 2 (ax_br2 (fun c26 => ?_) (fun c26 => ?_))
            · exact ax_X.steps 4 (ih (a + 1) _ _ (nI_1 a) (na_2 (by unfold olM; rw [decide_eq_true (show t 8 a = 0 from nn c14), decide_eq_true (show s.2.1 0 a = 7 from c26), Bool.or_true]; rfl)) (by omega))
            · exact ax_X.steps 5 (ih (a + 1) _ _ (nI_1 a) (na_1 c9 (by unfold olM; rw [decide_eq_false (show ¬ s.2.1 0 a = 6 from c20), decide_eq_false (show ¬ s.2.1 0 a = 7 from c26), Bool.or_false, Bool.and_false])) (by omega))
  exact ax_X.steps 4 (loop n 0 0 1 rfl rfl (by omega))
end
section
/-! Those that are skipped: the least closed change. -/
def skO (n : Nat) (st g : Nat → Int32) : Prop := ∀ a, g a = st a ∨ (a < n ∧ st a = 6 ∧ g a = 3)
def skD (n : Nat) (nd g : Nat → Int32) : Prop := ∀ a, a < n → g a = 6 → anyB (laB g (nd a)) n = false
def skM (n : Nat) (nd st g : Nat → Int32) : Prop := ∀ g', skO n st g' → skD n nd g' → ∀ a, st a = 6 → g a = 3 → g' a = 3
def skC (n : Nat) (nd st g : Nat → Int32) : Prop := skO n st g ∧ skD n nd g ∧ skM n nd st g
theorem skC_one {n : Nat} {nd st g g' : Nat → Int32} (h : skC n nd st g) (h' : skC n nd st g') : g = g' := by
  funext a
  rcases h.1 a with e | ⟨h1, h2, h3⟩
  · rcases h'.1 a with e' | ⟨h1', h2', h3'⟩
    · rw [e, e']
    · have := h'.2.2 g h.1 h.2.1 a h2' h3'
      rw [e, h2'] at this
      exact absurd this (by decide)
  · rw [h3, h.2.2 g' h'.1 h'.2.1 a h2 h3]
theorem hi_iff {g : Nat → Int32} {c : Nat} : hiB g c = true ↔ g c = 2 ∨ g c = 3 ∨ g c = 5 := by
  unfold hiB
  rw [Bool.or_eq_true, Bool.or_eq_true, decide_eq_true_iff, decide_eq_true_iff, decide_eq_true_iff]
theorem la_iff {g : Nat → Int32} {w : Int32} {n : Nat} : anyB (laB g w) n = true ↔ ∃ c, c < n ∧ bt w c = true ∧ hiB g c = true := by
  rw [anyB_iff]
  constructor
  · rintro ⟨c, h1, h2⟩
    unfold laB at h2
    rw [Bool.and_eq_true] at h2
    exact ⟨c, h1, h2⟩
  · rintro ⟨c, h1, h2⟩
    exact ⟨c, h1, by unfold laB; rw [Bool.and_eq_true]; exact h2⟩
theorem skO_rf {n : Nat} {st : Nat → Int32} : skO n st st := fun a => Or.inl rfl
theorem skM_rf {n : Nat} {nd st : Nat → Int32} : skM n nd st st := fun g' h1 h2 a h3 h4 => by
  rw [h3] at h4
  exact absurd h4 (by decide)
/-- one more is skipped -/
theorem sk_step {n a c : Nat} {nd st g : Nat → Int32} (ho : skO n st g) (hm : skM n nd st g) (ha : a < n) (h6 : g a = 6) (hc : c < n) (hb : bt (nd a) c = true) (hh : hiB g c = true) : skO n st (upd g a 3) ∧ skM n nd st (upd g a 3) := by
  have hs6 : st a = 6 := by
    rcases ho a with e | ⟨_, h, _⟩
    · rw [← e]; exact h6
    · exact h
  refine ⟨fun q => ?_, fun g' h1 h2 q h3 h4 => ?_⟩
  · by_cases e : q = a
    · subst e
      exact Or.inr ⟨ha, hs6, pk_us⟩
    · rw [pk_un e]
      exact ho q
  · by_cases e : q = a
    · subst e
      rcases h1 q with e1 | ⟨_, _, e1⟩
      · have h5 := h2 q ha (e1.trans h3)
        have h7 : hiB g' c = true := by
          rcases ho c with e2 | ⟨_, h8, h9⟩
          · rcases h1 c with e3 | ⟨_, h8, h9⟩
            · rw [hi_iff] at hh ⊢
              rw [e3, ← e2]
              exact hh
            · exact hiB_3 h9
          · exact hiB_3 (hm g' h1 h2 c h8 h9)
        rw [la_iff.mpr ⟨c, hc, hb, h7⟩] at h5
        cases h5
      · exact e1
    · rw [pk_un e] at h4
      exact hm g' h1 h2 q h3 h4
def c6 (g : Nat → Int32) (n : Nat) : Nat := cntB (fun a => decide (g a = 6)) n
theorem c6_upd {g : Nat → Int32} {n a : Nat} (ha : a < n) (h : g a = 6) : c6 (upd g a 3) n + 1 = c6 g n := by
  have h1 := cntB_del (p := fun q => decide (g q = 6)) ha (decide_eq_true h)
  have h2 : cntB (fun q => decide (upd g a 3 q = 6)) n = cntB (delB (fun q => decide (g q = 6)) a) n := cntB_congr (fun c _ => by
    unfold delB
    by_cases e : c = a
    · subst e
      rw [pk_us, decide_eq_true rfl, Bool.not_true, Bool.and_false]
      decide
    · rw [pk_un e, decide_eq_false e, Bool.not_false, Bool.and_true])
  unfold c6
  rw [h2]
  exact h1
theorem c6_0 {g : Nat → Int32} : ∀ {n : Nat}, c6 g n = 0 → ∀ a, a < n → ¬ g a = 6
  | 0, _, a, h => absurd h (Nat.not_lt_zero a)
  | n + 1, h, a, ha => by
    unfold c6 at h
    rw [cntB] at h
    by_cases e : a = n
    · subst e
      intro q
      rw [decide_eq_true q] at h
      have : cntB (fun a => decide (g a = 6)) a + 1 = 0 := h
      omega
    · exact c6_0 (n := n) (by unfold c6; omega) a (by omega)
theorem hi_upd {g : Nat → Int32} {a c : Nat} (h6 : g a = 6) (h : hiB g c = true) : hiB (upd g a 3) c = true := by
  by_cases e : c = a
  · subst e
    rw [hi_iff, h6] at h
    exact absurd h (by decide)
  · rw [hi_iff, pk_un e, ← hi_iff]
    exact h
def Sp_M_skipAll (C : ax_O) : Prop := ∀ (f : Nat → Int32) (n kn : Nat) (t : Nat → Nat → Int32) (b : Nat), n ≤ 24 → C no_M_skipAll [.ref 0] (mH f n kn t b) (fun x h' => x = none ∧ ∃ g, skC n (t 7) (t 14) g ∧ h' = mH f n kn (va_up t 14 g) b)
theorem p_M_skipAll {C : ax_O} (h1 : Sp_M_lacks C) : Sp_M_skipAll (ax_B ax_Ms ax_Xs C) := by
  intro f n kn t b hn
  have outer : ∀ (m : Nat) (g0 : Nat → Int32) (q : Option Value), c6 g0 n ≤ m → skO n (t 14) g0 → skM n (t 7) (t 14) g0 → ax_X ax_Ms ax_Xs no_M_skipAll C (fun x h' => x = none ∧ ∃ g, skC n (t 7) (t 14) g ∧ h' = mH f n kn (va_up t 14 g) b) 2 [some (.ref 0), some (.int 1), q] [] (mH f n kn (va_up t 14 g0) b) 0 0 := by
    intro m
    induction m with
    | zero =>
      intro g0 q hm ho hM
      have hz := c6_0 (Nat.le_zero.mp hm)
      have loop : ∀ (k a : Nat) (x : Int32) , x = nI a → a + k = n → ax_X ax_Ms ax_Xs no_M_skipAll C (fun x h' => x = none ∧ ∃ g, skC n (t 7) (t 14) g ∧ h' = mH f n kn (va_up t 14 g) b) 8 [some (.ref 0), some (.int 0), some (.int x)] [] (mH f n kn (va_up t 14 g0) b) 0 0 := by
        intro k
        induction k with
        | zero =>
          intro a x  hx  hk
          subst hx
          have hk : a = n := hk
          subst hk
          refine ax_X.steps 4 (ax_brT (nI_le (by omega) (by omega)) ?_)
          refine ax_X.steps 3 (ax_brT (rfl) ?_)
          exact ax_X.steps 1 (⟨rfl, g0, ⟨ho, fun c hc h6 => absurd h6 (hz c hc), hM⟩, rfl⟩)
        | succ k ih =>
          intro a x  hx  hk
          subst hx
          refine ax_X.steps 4 (ax_brF (nI_ge (by omega) (by omega)) ?_)
          refine ax_X.steps 4 ⟨a, ⟨by omega, by omega⟩, rfl, ?_⟩
          refine ax_X.steps 2 (ax_brT (hz a (by omega)) ?_)
          exact ax_X.steps 2 (ih (a + 1) _ (nI_1 a) (by omega))
      refine ax_X.steps 2 (ax_brF bI_n0 ?_)
      exact ax_X.steps 4 (loop n 0 0 rfl (by omega))
    | succ m ihm =>
      intro g0 q hm ho hM
      have loop : ∀ (k a : Nat) (x : Int32) (g : Nat → Int32) (z : Bool), x = nI a → skO n (t 14) g → skM n (t 7) (t 14) g → (z = false → g = g0 ∧ ∀ c, c < a → g0 c = 6 → anyB (laB g0 (t 7 c)) n = false) → (z = true → c6 g n < c6 g0 n) → a + k = n → ax_X ax_Ms ax_Xs no_M_skipAll C (fun x h' => x = none ∧ ∃ g, skC n (t 7) (t 14) g ∧ h' = mH f n kn (va_up t 14 g) b) 8 [some (.ref 0), some (.int (bI z)), some (.int x)] [] (mH f n kn (va_up t 14 g) b) 0 0 := by
        intro k
        induction k with
        | zero =>
          intro a x g z hx h2 h3 h4 h5 hk
          subst hx
          have hk : a = n := hk
          subst hk
          cases z
          · obtain ⟨rfl, h6⟩ := h4 rfl
            refine ax_X.steps 4 (ax_brT (nI_le (by omega) (by omega)) ?_)
            refine ax_X.steps 3 (ax_brT (rfl) ?_)
            exact ax_X.steps 1 (⟨rfl, g, ⟨h2, h6, h3⟩, rfl⟩)
          · refine ax_X.steps 4 (ax_brT (nI_le (by omega) (by omega)) ?_)
            exact ax_X.steps 1 (ihm g _ (by have := h5 rfl; omega) h2 h3)
        | succ k ih =>
          intro a x g z hx h2 h3 h4 h5 hk
          subst hx
          by_cases k6 : g a = 6
          · cases kl : anyB (laB g (t 7 a)) n
            · refine ax_X.steps 4 (ax_brF (nI_ge (by omega) (by omega)) ?_)
              refine ax_X.steps 4 ⟨a, ⟨by omega, by omega⟩, rfl, ?_⟩
              refine ax_X.steps 2 (ax_brF (fun q => q k6) ?_)
              refine ax_X.steps 3 (ax_go ((show C no_M_lacks [.ref 0, .int (nI a)] (mH f n kn (va_up t 14 g) b) (ax_is (some (.int (bI false))) (mH f n kn (va_up t 14 g) b)) from by have := h1 f n kn (va_up t 14 g) b a hn (by omega); rw [show anyB (laB (va_up t 14 g 14) (va_up t 14 g 7 a)) n = anyB (laB g (t 7 a)) n from rfl, kl] at this; exact this)) ?_)
              refine ax_X.steps 1 (ax_brF (fun q => q rfl) ?_)
              exact ax_X.steps 3 (ih (a + 1) _ g z (nI_1 a) h2 h3 (fun e => ⟨(h4 e).1, fun c hc q => by
                by_cases e2 : c = a
                · rw [e2, ← (h4 e).1]; exact kl
                · exact (h4 e).2 c (by omega) q⟩) h5 (by omega))
            · obtain ⟨c, q1, q2, q3⟩ := la_iff.mp kl
              obtain ⟨s1, s2⟩ := sk_step h2 h3 (show a < n by omega) k6 q1 q2 q3
              have s3 := c6_upd (show a < n by omega) k6
              refine ax_X.steps 4 (ax_brF (nI_ge (by omega) (by omega)) ?_)
              refine ax_X.steps 4 ⟨a, ⟨by omega, by omega⟩, rfl, ?_⟩
              refine ax_X.steps 2 (ax_brF (fun q => q k6) ?_)
              refine ax_X.steps 3 (ax_go ((show C no_M_lacks [.ref 0, .int (nI a)] (mH f n kn (va_up t 14 g) b) (ax_is (some (.int (bI true))) (mH f n kn (va_up t 14 g) b)) from by have := h1 f n kn (va_up t 14 g) b a hn (by omega); rw [show anyB (laB (va_up t 14 g 14) (va_up t 14 g 7 a)) n = anyB (laB g (t 7 a)) n from rfl, kl] at this; exact this)) ?_)
              refine ax_X.steps 1 (ax_brT (bI_n0) ?_)
              refine ax_X.steps 5 ⟨a, ⟨by omega, by omega⟩, rfl, ?_⟩
              exact ax_X.steps 4 (ih (a + 1) _ (upd g a 3) true (nI_1 a) s1 s2 (fun e => by cases e) (fun _ => by cases z with | false => rw [(h4 rfl).1] at s3 ⊢; omega | true => have := h5 rfl; omega) (by omega))
          · refine ax_X.steps 4 (ax_brF (nI_ge (by omega) (by omega)) ?_)
            refine ax_X.steps 4 ⟨a, ⟨by omega, by omega⟩, rfl, ?_⟩
            refine ax_X.steps 2 (ax_brT (k6) ?_)
            exact ax_X.steps 2 (ih (a + 1) _ g z (nI_1 a) h2 h3 (fun e => ⟨(h4 e).1, fun c hc q => by
              by_cases e2 : c = a
              · rw [e2, ← (h4 e).1] at q; exact absurd q k6
              · exact (h4 e).2 c (by omega) q⟩) h5 (by omega))
      refine ax_X.steps 2 (ax_brF bI_n0 ?_)
      exact ax_X.steps 4 (loop n 0 0 g0 false rfl ho hM (fun _ => ⟨rfl, fun c hc => absurd hc (Nat.not_lt_zero c)⟩) (fun q => by cases q) (by omega))
  exact ax_X.steps 2 (outer (c6 (t 14) n) (t 14) none (Nat.le_refl _) skO_rf skM_rf)
theorem hind_iff {g0 : Nat → Int32} {n : Nat} {w : Int32} (hn : n ≤ 24) : ¬ w &&& (maskI (fun a => decide (g0 a = 2)) n ||| maskI (fun a => decide (g0 a = 3)) n ||| maskI (fun a => decide (g0 a = 5)) n) = 0 ↔ anyB (laB g0 w) n = true := by
  have hb : ∀ i, i < 32 → bt (maskI (fun a => decide (g0 a = 2)) n ||| maskI (fun a => decide (g0 a = 3)) n ||| maskI (fun a => decide (g0 a = 5)) n) i = (decide (i < n) && hiB g0 i) := by
    intro i hi
    rw [b_or, b_or, bt_mask n (by omega) hi, bt_mask n (by omega) hi, bt_mask n (by omega) hi]
    unfold hiB
    cases decide (i < n)
    · rfl
    · simp only [Bool.true_and, Bool.or_assoc]
  rw [la_iff, b_and0]
  constructor
  · intro h
    apply Classical.byContradiction
    intro q
    apply h
    intro i hi h1 h2
    rw [hb i hi, Bool.and_eq_true] at h2
    exact q ⟨i, of_decide_eq_true h2.1, h1, h2.2⟩
  · rintro ⟨c, h1, h2, h3⟩ q
    exact q c (by omega) h2 (by rw [hb c (by omega), decide_eq_true h1, h3]; rfl)
theorem la_mono {g0 g : Nat → Int32} {n : Nat} {w : Int32} (h : ∀ c, hiB g0 c = true → hiB g c = true) (h1 : anyB (laB g0 w) n = true) : ∃ c, c < n ∧ bt w c = true ∧ hiB g c = true := by
  obtain ⟨c, q1, q2, q3⟩ := la_iff.mp h1
  exact ⟨c, q1, q2, h c q3⟩
def Sp_N_skip (C : ax_O) : Prop := ∀ (f : Nat → Int32) (n : Nat) (t : Nat → Nat → Int32) (u : Int32) (b : Nat), n ≤ 24 → C no_N_skipHindered [.ref 18] (oH f n t u b) (fun x h' => x = none ∧ ∃ g, skC n (t 9) (t 14) g ∧ h' = oH f n (va_up t 14 g) u b)
theorem p_N_skip {C : ax_O} (h1 : Sp_N_allIn C) : Sp_N_skip (ax_B ax_Ms ax_Xs C) := by
  intro f n t u b hn
  have outer : ∀ (m rd : Nat) (g0 : Nat → Int32) (y : Int32) (q3 q4 : Option Value), y = nI rd → rd + m = n → c6 g0 n ≤ m → skO n (t 14) g0 → skM n (t 9) (t 14) g0 → ax_X ax_Ms ax_Xs no_N_skipHindered C (fun x h' => x = none ∧ ∃ g, skC n (t 9) (t 14) g ∧ h' = oH f n (va_up t 14 g) u b) 4 [some (.ref 18), some (.int 1), some (.int y), q3, q4] [] (oH f n (va_up t 14 g0) u b) 0 0 := by
    intro m
    induction m with
    | zero =>
      intro rd g0 y q3 q4 hy hr hm ho hM
      subst hy
      have hz := c6_0 (Nat.le_zero.mp hm)
      refine ax_X.steps 2 (ax_brF (bI_n0) ?_)
      refine ax_X.steps 5 (ax_brT (nI_le (by omega) (by omega)) ?_)
      exact ax_X.steps 1 (⟨rfl, g0, ⟨ho, fun c hc h6 => absurd h6 (hz c hc), hM⟩, rfl⟩)
    | succ m ihm =>
      intro rd g0 y q3 q4 hy hr hm ho hM
      subst hy
      have loop : ∀ (k a : Nat) (x : Int32) (g : Nat → Int32) (z : Bool), x = nI a → skO n (t 14) g → skM n (t 9) (t 14) g → (z = false → g = g0 ∧ ∀ c, c < a → g0 c = 6 → anyB (laB g0 (t 9 c)) n = false) → (z = true → c6 g n < c6 g0 n) → (∀ c, hiB g0 c = true → hiB g c = true) → (∀ c, a ≤ c → g c = g0 c) → a + k = n → ax_X ax_Ms ax_Xs no_N_skipHindered C (fun x h' => x = none ∧ ∃ g, skC n (t 9) (t 14) g ∧ h' = oH f n (va_up t 14 g) u b) 27 [some (.ref 18), some (.int (bI z)), some (.int (nI rd)), some (.int (maskI (fun a => decide (g0 a = 2)) n ||| maskI (fun a => decide (g0 a = 3)) n ||| maskI (fun a => decide (g0 a = 5)) n)), some (.int x)] [] (oH f n (va_up t 14 g) u b) 0 0 := by
        intro k
        induction k with
        | zero =>
          intro a x g z hx h2 h3 h4 h5 h7 h8 hk
          subst hx
          have hk : a = n := hk
          subst hk
          cases z
          · obtain ⟨rfl, h6⟩ := h4 rfl
            refine ax_X.steps 5 (ax_brT (nI_le (by omega) (by omega)) ?_)
            refine ax_X.steps 4 (ax_brT (rfl) ?_)
            exact ax_X.steps 1 (⟨rfl, g, ⟨h2, h6, h3⟩, rfl⟩)
          · refine ax_X.steps 5 (ax_brT (nI_le (by omega) (by omega)) ?_)
            exact ax_X.steps 2 (ihm (rd + 1) g _ _ _ (nI_1 rd) (by omega) (by have := h5 rfl; omega) h2 h3)
        | succ k ih =>
          intro a x g z hx h2 h3 h4 h5 h7 h8 hk
          subst hx
          by_cases k6 : g a = 6
          · cases kl : anyB (laB g0 (t 9 a)) n
            · refine ax_X.steps 5 (ax_brF (nI_ge (by omega) (by omega)) ?_)
              refine ax_X.steps 4 ⟨a, ⟨by omega, by omega⟩, rfl, ?_⟩
              refine ax_X.steps 2 (ax_brF (fun q => q k6) ?_)
              refine ax_X.steps 5 ⟨a, ⟨by omega, by omega⟩, rfl, ?_⟩
              refine ax_X.steps 3 (ax_brT (Classical.byContradiction (fun q => by rw [show anyB (laB g0 (t 9 a)) n = true from (hind_iff hn).mp q] at kl; cases kl)) ?_)
              exact ax_X.steps 2 (ih (a + 1) _ g z (nI_1 a) h2 h3 (fun e => ⟨(h4 e).1, fun c hc q => by
                by_cases e2 : c = a
                · rw [e2]; exact kl
                · exact (h4 e).2 c (by omega) q⟩) h5 h7 (fun c hc => h8 c (by omega)) (by omega))
            · obtain ⟨c, q1, q2, q3⟩ := la_mono h7 kl
              obtain ⟨s1, s2⟩ := sk_step h2 h3 (show a < n by omega) k6 q1 q2 q3
              have s3 := c6_upd (show a < n by omega) k6
              refine ax_X.steps 5 (ax_brF (nI_ge (by omega) (by omega)) ?_)
              refine ax_X.steps 4 ⟨a, ⟨by omega, by omega⟩, rfl, ?_⟩
              refine ax_X.steps 2 (ax_brF (fun q => q k6) ?_)
              refine ax_X.steps 5 ⟨a, ⟨by omega, by omega⟩, rfl, ?_⟩
              refine ax_X.steps 3 (ax_brF ((hind_iff hn).mpr kl) ?_)
              refine ax_X.steps 5 ⟨a, ⟨by omega, by omega⟩, rfl, ?_⟩
              exact ax_X.steps 4 (ih (a + 1) _ (upd g a 3) true (nI_1 a) s1 s2 (fun e => by cases e) (fun _ => by cases z with | false => rw [(h4 rfl).1] at s3 ⊢; omega | true => have := h5 rfl; omega) (fun c hc => hi_upd k6 (h7 c hc)) (fun c hc => by rw [pk_un (by omega)]; exact h8 c (by omega)) (by omega))
          · refine ax_X.steps 5 (ax_brF (nI_ge (by omega) (by omega)) ?_)
            refine ax_X.steps 4 ⟨a, ⟨by omega, by omega⟩, rfl, ?_⟩
            refine ax_X.steps 2 (ax_brT (k6) ?_)
            exact ax_X.steps 2 (ih (a + 1) _ g z (nI_1 a) h2 h3 (fun e => ⟨(h4 e).1, fun c hc q => by
              by_cases e2 : c = a
              · rw [e2, ← (h4 e).1] at q; exact absurd q k6
              · exact (h4 e).2 c (by omega) q⟩) h5 h7 (fun c hc => h8 c (by omega)) (by omega))
      refine ax_X.steps 2 (ax_brF (bI_n0) ?_)
      refine ax_X.steps 5 (ax_brF (nI_ge (by omega) (by omega)) ?_)
      refine ax_X.steps 3 (ax_go (h1 f n (va_up t 14 g0) u b 2 hn) ?_)
      refine ax_X.steps 3 (ax_go (h1 f n (va_up t 14 g0) u b 3 hn) ?_)
      refine ax_X.steps 4 (ax_go (h1 f n (va_up t 14 g0) u b 5 hn) ?_)
      exact ax_X.steps 6 (loop n 0 0 g0 false rfl ho hM (fun _ => ⟨rfl, fun c hc => absurd hc (Nat.not_lt_zero c)⟩) (fun q => by cases q) (fun c hc => hc) (fun c hc => rfl) (by omega))
  exact ax_X.steps 4 (outer n 0 (t 14) 0 none none rfl (by omega) (cntB_le n) skO_rf skM_rf)
end
section
/-! What is needed, all the way. -/
def sub (v w : Int32) : Prop := ∀ i, i < 32 → bt v i = true → bt w i = true
theorem sub_rf {v : Int32} : sub v v := fun _ _ h => h
theorem sub_tr {u v w : Int32} (h1 : sub u v) (h2 : sub v w) : sub u w := fun i hi h => h2 i hi (h1 i hi h)
theorem sub_eq {v w : Int32} (h1 : sub v w) (h2 : sub w v) : v = w := b_ext (fun i hi => by
  cases e : bt v i
  · cases e2 : bt w i
    · rfl
    · rw [h2 i hi e2] at e; cases e
  · exact (h1 i hi e).symm)
theorem sub_or {u v w : Int32} (h1 : sub u w) (h2 : sub v w) : sub (u ||| v) w := fun i hi h => by
  rw [b_or, Bool.or_eq_true] at h
  exact h.elim (h1 i hi) (h2 i hi)
theorem sub_l {u v : Int32} : sub u (u ||| v) := fun i _ h => by rw [b_or, h, Bool.true_or]
theorem sub_r {u v : Int32} : sub v (u ||| v) := fun i _ h => by rw [b_or, h, Bool.or_true]
/-- closed under what is needed -/
def clo (n : Nat) (nd : Nat → Int32) (v : Int32) : Prop := ∀ c, c < n → bt v c = true → sub (nd c) v
def allP (n : Nat) (nd : Nat → Int32) (a : Nat) (v : Int32) : Prop := sub (nd a) v ∧ clo n nd v ∧ ∀ w, sub (nd a) w → clo n nd w → sub v w
theorem allP_one {n a : Nat} {nd : Nat → Int32} {v w : Int32} (h : allP n nd a v) (h' : allP n nd a w) : v = w := sub_eq (h.2.2 w h'.1 h'.2.1) (h'.2.2 v h.1 h.2.1)
def nxI (nd : Nat → Int32) (v : Int32) : Nat → Int32
  | 0 => v
  | m + 1 => if bt v m = true then nxI nd v m ||| nd m else nxI nd v m
theorem nxI_t {nd : Nat → Int32} {v : Int32} {m : Nat} (h : bt v m = true) : nxI nd v (m + 1) = nxI nd v m ||| nd m := if_pos h
theorem nxI_f {nd : Nat → Int32} {v : Int32} {m : Nat} (h : ¬ bt v m = true) : nxI nd v (m + 1) = nxI nd v m := if_neg h
theorem nxI_sup {nd : Nat → Int32} {v : Int32} : ∀ n, sub v (nxI nd v n)
  | 0 => sub_rf
  | n + 1 => by
    by_cases h : bt v n = true
    · rw [nxI_t h]; exact sub_tr (nxI_sup n) sub_l
    · rw [nxI_f h]; exact nxI_sup n
theorem nxI_has {nd : Nat → Int32} {v : Int32} : ∀ n c, c < n → bt v c = true → sub (nd c) (nxI nd v n)
  | 0, c, h, _ => absurd h (Nat.not_lt_zero c)
  | n + 1, c, h, hb => by
    by_cases e : c = n
    · subst e
      rw [nxI_t hb]; exact sub_r
    · have ih := nxI_has (nd := nd) (v := v) n c (by omega) hb
      by_cases h2 : bt v n = true
      · rw [nxI_t h2]; exact sub_tr ih sub_l
      · rw [nxI_f h2]; exact ih
theorem nxI_in {nd : Nat → Int32} {v w : Int32} {N : Nat} (hv : sub v w) (hw : clo N nd w) : ∀ n, n ≤ N → n ≤ 32 → sub (nxI nd v n) w
  | 0, _, _ => hv
  | n + 1, h, h3 => by
    by_cases h2 : bt v n = true
    · rw [nxI_t h2]; exact sub_or (nxI_in hv hw n (by omega) (by omega)) (hw n (by omega) (hv n (by omega) h2))
    · rw [nxI_f h2]; exact nxI_in hv hw n (by omega) (by omega)
def zbt (v : Int32) : Nat := cntB (fun i => !bt v i) 32
theorem cntB_le2 {p q : Nat → Bool} : ∀ {n : Nat}, (∀ c, c < n → p c = true → q c = true) → cntB p n ≤ cntB q n
  | 0, _ => Nat.le_refl 0
  | n + 1, h => by
    have ih := cntB_le2 (p := p) (q := q) (n := n) (fun c hc => h c (by omega))
    rw [cntB, cntB]
    cases e : p n
    · exact Nat.le_trans ih (Nat.le_add_right _ _)
    · rw [h n (by omega) e]; exact Nat.add_le_add_right ih _
theorem cntB_lt {p q : Nat → Bool} : ∀ {n : Nat}, (∀ c, c < n → p c = true → q c = true) → (∃ c, c < n ∧ p c = false ∧ q c = true) → cntB p n < cntB q n
  | 0, _, ⟨c, h, _⟩ => absurd h (Nat.not_lt_zero c)
  | n + 1, h, ⟨c, h1, h2, h3⟩ => by
    rw [cntB, cntB]
    by_cases e : c = n
    · subst e
      have := cntB_le2 (p := p) (q := q) (n := c) (fun d hd => h d (by omega))
      rw [h2, h3]
      show cntB p c + 0 < cntB q c + 1
      omega
    · have ih := cntB_lt (p := p) (q := q) (n := n) (fun d hd => h d (by omega)) ⟨c, by omega, h2, h3⟩
      cases e2 : p n
      · show cntB p n + 0 < _
        omega
      · rw [h n (by omega) e2]; exact Nat.add_lt_add_right ih _
theorem zbt_lt {v w : Int32} (h : sub v w) (hne : ¬ w = v) : zbt w < zbt v := by
  refine cntB_lt (fun c hc h1 => ?_) ?_
  · cases e : bt v c
    · rfl
    · rw [h c hc e] at h1; cases h1
  · apply Classical.byContradiction
    intro q
    refine hne (sub_eq (fun i hi hw => ?_) h)
    apply Classical.byContradiction
    intro hv
    exact q ⟨i, hi, by rw [hw]; rfl, by rw [Bool.not_eq_true] at hv; rw [hv]; rfl⟩
def Sp_M_all (C : ax_O) : Prop := ∀ (f : Nat → Int32) (n kn : Nat) (t : Nat → Nat → Int32) (b : Nat) (j : Nat), n ≤ 24 → j < 24 → C no_M_all [.ref 0, .int (nI j)] (mH f n kn t b) (fun x h' => ∃ v, allP n (t 7) j v ∧ x = some (.int v) ∧ h' = mH f n kn t b)
theorem p_M_all {C : ax_O} : Sp_M_all (ax_B ax_Ms ax_Xs C) := by
  intro f n kn t b j hn hj
  have outer : ∀ (m : Nat) (v : Int32) (q4 q5 : Option Value), zbt v ≤ m → sub (t 7 j) v → (∀ w, sub (t 7 j) w → clo n (t 7) w → sub v w) → ax_X ax_Ms ax_Xs no_M_all C (fun x h' => ∃ v, allP n (t 7) j v ∧ x = some (.int v) ∧ h' = mH f n kn t b) 7 [some (.ref 0), some (.int (nI j)), some (.int v), some (.int 1), q4, q5] [] (mH f n kn t b) 0 0 := by
    intro m
    induction m with
    | zero =>
      intro v q4 q5 hm h1 h2
      have hfix : nxI (t 7) v n = v := Classical.byContradiction (fun q => by have := zbt_lt (nxI_sup n) q; omega)
      have hclo : clo n (t 7) v := fun c hc hb => by have := nxI_has (nd := t 7) (v := v) n c hc hb; rw [hfix] at this; exact this
      have loop : ∀ (k a : Nat) (x : Int32) (w : Int32), x = nI a → w = nxI (t 7) v a → a + k = n → ax_X ax_Ms ax_Xs no_M_all C (fun x h' => ∃ v, allP n (t 7) j v ∧ x = some (.int v) ∧ h' = mH f n kn t b) 13 [some (.ref 0), some (.int (nI j)), some (.int v), some (.int 1), some (.int w), some (.int x)] [] (mH f n kn t b) 0 0 := by
        intro k
        induction k with
        | zero =>
          intro a x w hx hw hk
          subst hx
          have hk : a = n := hk
          subst hk
          subst hw
          rw [hfix]
          refine ax_X.steps 4 (ax_brT (nI_le (by omega) (by omega)) ?_)
          refine ax_X.steps 3 (ax_brT (rfl) ?_)
          refine ax_X.steps 7 (ax_brT (rfl) ?_)
          exact ax_X.steps 2 ⟨Or.inl rfl, v, ⟨h1, hclo, h2⟩, rfl, rfl⟩
        | succ k ih =>
          intro a x w hx hw hk
          subst hx
          subst hw
          refine ax_X.steps 4 (ax_brF (nI_ge (by omega) (by omega)) ?_)
          refine ax_X.steps 7 (ax_br2 (fun c23 => ?_) (fun c23 => ?_))
          · exact ax_X.steps 4 (ih (a + 1) _ _ (nI_1 a) (nxI_f (fun q => c23 ((b_rt1 (by omega)).mpr q))).symm (by omega))
          · refine ax_X.steps 5 ⟨a, ⟨by omega, by omega⟩, rfl, ?_⟩
            exact ax_X.steps 5 (ih (a + 1) _ _ (nI_1 a) (nxI_t ((b_rt1 (by omega)).mp (nn c23))).symm (by omega))
      refine ax_X.steps 2 (ax_brF (bI_n0) ?_)
      exact ax_X.steps 4 (loop n 0 0 v rfl rfl (by omega))
    | succ m ihm =>
      intro v q4 q5 hm h1 h2
      have loop : ∀ (k a : Nat) (x : Int32) (w : Int32), x = nI a → w = nxI (t 7) v a → a + k = n → ax_X ax_Ms ax_Xs no_M_all C (fun x h' => ∃ v, allP n (t 7) j v ∧ x = some (.int v) ∧ h' = mH f n kn t b) 13 [some (.ref 0), some (.int (nI j)), some (.int v), some (.int 1), some (.int w), some (.int x)] [] (mH f n kn t b) 0 0 := by
        intro k
        induction k with
        | zero =>
          intro a x w hx hw hk
          subst hx
          have hk : a = n := hk
          subst hk
          subst hw
          by_cases hfix : nxI (t 7) v a = v
          · have hclo : clo a (t 7) v := fun c hc hb => by have := nxI_has (nd := t 7) (v := v) a c hc hb; rw [hfix] at this; exact this
            rw [hfix]
            refine ax_X.steps 4 (ax_brT (nI_le (by omega) (by omega)) ?_)
            refine ax_X.steps 3 (ax_brT (rfl) ?_)
            refine ax_X.steps 7 (ax_brT (rfl) ?_)
            exact ax_X.steps 2 ⟨Or.inl rfl, v, ⟨h1, hclo, h2⟩, rfl, rfl⟩
          · have hlt := zbt_lt (nxI_sup a) hfix
            refine ax_X.steps 4 (ax_brT (nI_le (by omega) (by omega)) ?_)
            refine ax_X.steps 3 (ax_brF (hfix) ?_)
            exact ax_X.steps 6 (ihm (nxI (t 7) v a) _ _ (by omega) (sub_tr h1 (nxI_sup a)) (fun w q1 q2 => nxI_in (h2 w q1 q2) q2 a (Nat.le_refl a) (by omega)))
        | succ k ih =>
          intro a x w hx hw hk
          subst hx
          subst hw
          refine ax_X.steps 4 (ax_brF (nI_ge (by omega) (by omega)) ?_)
          refine ax_X.steps 7 (ax_br2 (fun c23 => ?_) (fun c23 => ?_))
          · exact ax_X.steps 4 (ih (a + 1) _ _ (nI_1 a) (nxI_f (fun q => c23 ((b_rt1 (by omega)).mpr q))).symm (by omega))
          · refine ax_X.steps 5 ⟨a, ⟨by omega, by omega⟩, rfl, ?_⟩
            exact ax_X.steps 5 (ih (a + 1) _ _ (nI_1 a) (nxI_t ((b_rt1 (by omega)).mp (nn c23))).symm (by omega))
      refine ax_X.steps 2 (ax_brF (bI_n0) ?_)
      exact ax_X.steps 4 (loop n 0 0 v rfl rfl (by omega))
  refine ax_X.steps 4 ⟨j, ⟨by omega, by omega⟩, rfl, ?_⟩
  exact ax_X.steps 3 (outer (zbt (t 7 j)) (t 7 j) none none (Nat.le_refl _) sub_rf (fun w h _ => h))
def Sp_M_needs_n (C : ax_O) : Prop := ∀ (f : Nat → Int32) (n kn : Nat) (t : Nat → Nat → Int32) (b : Nat) (x y : Int32), n ≤ 24 → (hasB n x = false ∨ hasB n y = false) → C no_M_needs [.ref 0, .int x, .int y] (mH f n kn t b) (ax_is (some (.int (-1))) (mH f n kn t b))
theorem p_M_needs_n {C : ax_O} (hH : Sp_M_isAction C) : Sp_M_needs_n (ax_B ax_Ms ax_Xs C) := by
  intro f n kn t b x y hn hx
  cases a1 : hasB n x
  · refine ax_X.steps 3 ⟨Or.inl rfl, ?_⟩
    refine ax_X.steps 3 (ax_go (hH _ _ _ _ _ _ false hn a1) ?_)
    refine ax_X.steps 1 (ax_brT (rfl) ?_)
    exact ax_X.steps 2 ⟨Or.inl rfl, rfl, rfl⟩
  · have a2 : hasB n y = false := hx.resolve_left (by rw [a1]; decide)
    refine ax_X.steps 3 ⟨Or.inl rfl, ?_⟩
    refine ax_X.steps 3 (ax_go (hH _ _ _ _ _ _ true hn a1) ?_)
    refine ax_X.steps 1 (ax_brF (bI_n0) ?_)
    refine ax_X.steps 3 (ax_go (hH _ _ _ _ _ _ false hn a2) ?_)
    refine ax_X.steps 1 (ax_brT (rfl) ?_)
    exact ax_X.steps 2 ⟨Or.inl rfl, rfl, rfl⟩
def Sp_M_needs_0 (C : ax_O) : Prop := ∀ (f : Nat → Int32) (n kn : Nat) (t : Nat → Nat → Int32) (b : Nat) (k j : Nat), n ≤ 24 → k < n → j < n → bt (t 7 k) j = true → C no_M_needs [.ref 0, .int (nI k), .int (nI j)] (mH f n kn t b) (ax_is (some (.int (-1))) (mH f n kn t b))
theorem p_M_needs_0 {C : ax_O} (hH : Sp_M_isAction C) : Sp_M_needs_0 (ax_B ax_Ms ax_Xs C) := by
  intro f n kn t b k j hn hk hj hb
  refine ax_X.steps 3 ⟨Or.inl rfl, ?_⟩
  refine ax_X.steps 3 (ax_go (hH _ _ _ _ _ _ true hn (hasB_k hn hk)) ?_)
  refine ax_X.steps 1 (ax_brF (bI_n0) ?_)
  refine ax_X.steps 3 (ax_go (hH _ _ _ _ _ _ true hn (hasB_k hn hj)) ?_)
  refine ax_X.steps 1 (ax_brF (bI_n0) ?_)
  refine ax_X.steps 4 ⟨k, ⟨by omega, by omega⟩, rfl, ?_⟩
  refine ax_X.steps 6 (ax_brF (fun q => q ((b_rt1 (by omega)).mpr hb)) ?_)
  exact ax_X.steps 2 ⟨Or.inl rfl, rfl, rfl⟩
def Sp_M_needs_2 (C : ax_O) : Prop := ∀ (f : Nat → Int32) (n kn : Nat) (t : Nat → Nat → Int32) (b : Nat) (k j : Nat) (v : Int32), n ≤ 24 → k < n → j < n → ¬ bt (t 7 k) j = true → allP n (t 7) j v → (k = j ∨ bt v k = true) → C no_M_needs [.ref 0, .int (nI k), .int (nI j)] (mH f n kn t b) (ax_is (some (.int (-2))) (mH f n kn t b))
theorem p_M_needs_2 {C : ax_O} (hH : Sp_M_isAction C) (h1 : Sp_M_all C) : Sp_M_needs_2 (ax_B ax_Ms ax_Xs C) := by
  intro f n kn t b k j v hn hk hj hb hv hc
  by_cases e : k = j
  · subst e
    refine ax_X.steps 3 ⟨Or.inl rfl, ?_⟩
    refine ax_X.steps 3 (ax_go (hH _ _ _ _ _ _ true hn (hasB_k hn hk)) ?_)
    refine ax_X.steps 1 (ax_brF (bI_n0) ?_)
    refine ax_X.steps 3 (ax_go (hH _ _ _ _ _ _ true hn (hasB_k hn hk)) ?_)
    refine ax_X.steps 1 (ax_brF (bI_n0) ?_)
    refine ax_X.steps 4 ⟨k, ⟨by omega, by omega⟩, rfl, ?_⟩
    refine ax_X.steps 6 (ax_brT (fun q => hb ((b_rt1 (by omega)).mp q)) ?_)
    refine ax_X.steps 3 (ax_brT (rfl) ?_)
    exact ax_X.steps 2 ⟨Or.inl rfl, rfl, rfl⟩
  have hc := hc.resolve_left e
  refine ax_X.steps 3 ⟨Or.inl rfl, ?_⟩
  refine ax_X.steps 3 (ax_go (hH _ _ _ _ _ _ true hn (hasB_k hn hk)) ?_)
  refine ax_X.steps 1 (ax_brF (bI_n0) ?_)
  refine ax_X.steps 3 (ax_go (hH _ _ _ _ _ _ true hn (hasB_k hn hj)) ?_)
  refine ax_X.steps 1 (ax_brF (bI_n0) ?_)
  refine ax_X.steps 4 ⟨k, ⟨by omega, by omega⟩, rfl, ?_⟩
  refine ax_X.steps 6 (ax_brT (fun q => hb ((b_rt1 (by omega)).mp q)) ?_)
  refine ax_X.steps 3 (ax_brF (fun q => e ((nI_eq (by omega) (by omega)).mp q)) ?_)
  refine ax_X.steps 3 (ax_goP (h1 f n kn t b j hn (by omega)) (fun z h2 hz => ?_))
  obtain ⟨v2, hv2, hz1, rfl⟩ := hz
  cases hz1
  have ev := allP_one hv2 hv
  subst ev
  refine ax_X.steps 6 (ax_brF (fun q => q ((b_rt1 (by omega)).mpr hc)) ?_)
  exact ax_X.steps 2 ⟨Or.inl rfl, rfl, rfl⟩
def Sp_M_needs_1 (C : ax_O) : Prop := ∀ (f : Nat → Int32) (n kn : Nat) (t : Nat → Nat → Int32) (b : Nat) (k j : Nat) (v : Int32), n ≤ 24 → k < n → j < n → ¬ bt (t 7 k) j = true → allP n (t 7) j v → ¬ k = j → ¬ bt v k = true → C no_M_needs [.ref 0, .int (nI k), .int (nI j)] (mH f n kn t b) (ax_is (some (.int 1)) (mH f n kn (ts t 7 k (t 7 k ||| sB j)) b))
theorem p_M_needs_1 {C : ax_O} (hH : Sp_M_isAction C) (h1 : Sp_M_all C) : Sp_M_needs_1 (ax_B ax_Ms ax_Xs C) := by
  intro f n kn t b k j v hn hk hj hb hv hne hc
  refine ax_X.steps 3 ⟨Or.inl rfl, ?_⟩
  refine ax_X.steps 3 (ax_go (hH _ _ _ _ _ _ true hn (hasB_k hn hk)) ?_)
  refine ax_X.steps 1 (ax_brF (bI_n0) ?_)
  refine ax_X.steps 3 (ax_go (hH _ _ _ _ _ _ true hn (hasB_k hn hj)) ?_)
  refine ax_X.steps 1 (ax_brF (bI_n0) ?_)
  refine ax_X.steps 4 ⟨k, ⟨by omega, by omega⟩, rfl, ?_⟩
  refine ax_X.steps 6 (ax_brT (fun q => hb ((b_rt1 (by omega)).mp q)) ?_)
  refine ax_X.steps 3 (ax_brF (fun q => hne ((nI_eq (by omega) (by omega)).mp q)) ?_)
  refine ax_X.steps 3 (ax_goP (h1 f n kn t b j hn (by omega)) (fun z h2 hz => ?_))
  obtain ⟨v2, hv2, hz1, rfl⟩ := hz
  cases hz1
  have ev := allP_one hv2 hv
  subst ev
  refine ax_X.steps 6 (ax_brT (fun q => hc ((b_rt1 (by omega)).mp q)) ?_)
  refine ax_X.steps 7 ⟨k, ⟨by omega, by omega⟩, rfl, ?_⟩
  refine ax_X.steps 5 ⟨k, ⟨by omega, by omega⟩, rfl, ?_⟩
  exact ax_X.steps 2 ⟨Or.inl rfl, rfl, rfl⟩
def dpJ (n : Nat) (dp : Nat → Int32) (k : Nat) (m : Int32) : Nat → Int32 := fun a => if a < n ∧ (a = k ∨ bt (dp a) k = true) then dp a ||| m else dp a
theorem dpJ_0 {dp : Nat → Int32} {k : Nat} {m : Int32} : dpJ 0 dp k m = dp := by
  funext a
  exact if_neg (fun h => absurd h.1 (Nat.not_lt_zero a))
theorem dpJ_at {dp : Nat → Int32} {k n : Nat} {m : Int32} : dpJ n dp k m n = dp n := if_neg (fun h => absurd h.1 (Nat.lt_irrefl n))
theorem dpJ_s {dp : Nat → Int32} {k n : Nat} {m : Int32} (h : n = k ∨ bt (dp n) k = true) : upd (dpJ n dp k m) n (dpJ n dp k m n ||| m) = dpJ (n + 1) dp k m := by
  rw [dpJ_at]
  funext a
  unfold upd dpJ
  by_cases e : a = n
  · subst e
    rw [if_pos rfl, if_pos ⟨by omega, h⟩]
  · rw [if_neg e]
    by_cases h2 : a < n ∧ (a = k ∨ bt (dp a) k = true)
    · rw [if_pos h2, if_pos ⟨by omega, h2.2⟩]
    · rw [if_neg h2, if_neg (fun q => h2 ⟨by omega, q.2⟩)]
theorem dpJ_n {dp : Nat → Int32} {k n : Nat} {m : Int32} (h : ¬ n = k) (h1 : bt (dp n) k = false) : dpJ n dp k m = dpJ (n + 1) dp k m := by
  funext a
  unfold dpJ
  by_cases h2 : a < n ∧ (a = k ∨ bt (dp a) k = true)
  · rw [if_pos h2, if_pos ⟨by omega, h2.2⟩]
  · rw [if_neg h2, if_neg]
    intro q
    by_cases e : a = n
    · subst e
      rcases q.2 with q2 | q2
      · exact h q2
      · rw [h1] at q2; cases q2
    · exact h2 ⟨by omega, q.2⟩
def Sp_A_join_0 (C : ax_O) : Prop := ∀ (f : Nat → Int32) (n : Nat) (t : Nat → Nat → Int32) (u : Int32) (b : Nat) (k j : Nat), k < 24 → j < 24 → bt (t 9 k) j = true → C no_A_join [.ref 2, .int (nI k), .int (nI j)] (oH f n t u b) (ax_is (some (.int (-1))) (oH f n t u b))
theorem p_A_join_0 {C : ax_O} (hI : Sp_O_isIn C) : Sp_A_join_0 (ax_B ax_Ms ax_Xs C) := by
  intro f n t u b k j hk hj hb
  refine ax_X.steps 4 ⟨k, ⟨by omega, by omega⟩, rfl, ?_⟩
  refine ax_X.steps 2 (ax_go (hI _ _ _ true (by omega) hb) ?_)
  refine ax_X.steps 1 (ax_brF (bI_n0) ?_)
  exact ax_X.steps 2 ⟨Or.inl rfl, rfl, rfl⟩
def Sp_A_join_2 (C : ax_O) : Prop := ∀ (f : Nat → Int32) (n : Nat) (t : Nat → Nat → Int32) (u : Int32) (b : Nat) (k j : Nat), k < 24 → j < 24 → bt (t 9 k) j = false → (k = j ∨ bt (t 10 j) k = true) → C no_A_join [.ref 2, .int (nI k), .int (nI j)] (oH f n t u b) (ax_is (some (.int (-2))) (oH f n t u b))
theorem p_A_join_2 {C : ax_O} (hI : Sp_O_isIn C) : Sp_A_join_2 (ax_B ax_Ms ax_Xs C) := by
  intro f n t u b k j hk hj hb hc
  by_cases e : k = j
  · subst e
    refine ax_X.steps 4 ⟨k, ⟨by omega, by omega⟩, rfl, ?_⟩
    refine ax_X.steps 2 (ax_go (hI _ _ _ false (by omega) hb) ?_)
    refine ax_X.steps 1 (ax_brT (rfl) ?_)
    refine ax_X.steps 3 (ax_brT (rfl) ?_)
    exact ax_X.steps 2 ⟨Or.inl rfl, rfl, rfl⟩
  have hc := hc.resolve_left e
  refine ax_X.steps 4 ⟨k, ⟨by omega, by omega⟩, rfl, ?_⟩
  refine ax_X.steps 2 (ax_go (hI _ _ _ false (by omega) hb) ?_)
  refine ax_X.steps 1 (ax_brT (rfl) ?_)
  refine ax_X.steps 3 (ax_brF (fun q => e ((nI_eq (by omega) (by omega)).mp q)) ?_)
  refine ax_X.steps 4 ⟨j, ⟨by omega, by omega⟩, rfl, ?_⟩
  refine ax_X.steps 2 (ax_go (hI _ _ _ true (by omega) hc) ?_)
  refine ax_X.steps 1 (ax_brF (bI_n0) ?_)
  exact ax_X.steps 2 ⟨Or.inl rfl, rfl, rfl⟩
def Sp_A_join_1 (C : ax_O) : Prop := ∀ (f : Nat → Int32) (n : Nat) (t : Nat → Nat → Int32) (u : Int32) (b : Nat) (i j : Nat), n ≤ 24 → i < 24 → j < 24 → bt (t 9 i) j = false → ¬ i = j → bt (t 10 j) i = false → C no_A_join [.ref 2, .int (nI i), .int (nI j)] (oH f n t u b) (ax_is (some (.int 1)) (oH f n (va_up (ts t 9 i (t 9 i ||| sB j)) 10 (dpJ n (t 10) i (t 10 j ||| sB j))) u b))
theorem p_A_join_1 {C : ax_O} (hI : Sp_O_isIn C) (hO : Sp_O_only C) : Sp_A_join_1 (ax_B ax_Ms ax_Xs C) := by
  intro f n t u b i j hn hi hj hb hne hc
  have loop : ∀ (k a : Nat) (x : Int32) (g : Nat → Int32), x = nI a → g = dpJ a (t 10) i (t 10 j ||| sB j) → a + k = n → ax_X ax_Ms ax_Xs no_A_join C (ax_is (some (.int 1)) (oH f n (va_up (ts t 9 i (t 9 i ||| sB j)) 10 (dpJ n (t 10) i (t 10 j ||| sB j))) u b)) 40 [some (.ref 2), some (.int (nI i)), some (.int (nI j)), some (.int (t 10 j ||| sB j)), some (.int x)] [] (oH f n (va_up (ts t 9 i (t 9 i ||| sB j)) 10 g) u b) 0 0 := by
    intro k
    induction k with
    | zero =>
      intro a x g hx hg hk
      subst hx
      have hk : a = n := hk
      subst hk
      subst hg
      refine ax_X.steps 4 (ax_brT (nI_le (by omega) (by omega)) ?_)
      exact ax_X.steps 2 ⟨Or.inl rfl, rfl, rfl⟩
    | succ k ih =>
      intro a x g hx hg hk
      subst hx
      subst hg
      by_cases ek : a = i
      · refine ax_X.steps 4 (ax_brF (nI_ge (by omega) (by omega)) ?_)
        refine ax_X.steps 3 (ax_brT (by rw [ek]; rfl) ?_)
        refine ax_X.steps 5 ⟨a, ⟨by omega, by omega⟩, rfl, ?_⟩
        refine ax_X.steps 3 ⟨a, ⟨by omega, by omega⟩, rfl, ?_⟩
        exact ax_X.steps 2 (ih (a + 1) _ (upd (dpJ a (t 10) i (t 10 j ||| sB j)) a (dpJ a (t 10) i (t 10 j ||| sB j) a ||| (t 10 j ||| sB j))) (nI_1 a) (dpJ_s (Or.inl ek)) (by omega))
      have nek : ¬ nI a = nI i := fun q => ek ((nI_eq (by omega) (by omega)).mp q)
      cases eb : bt (t 10 a) i
      · refine ax_X.steps 4 (ax_brF (nI_ge (by omega) (by omega)) ?_)
        refine ax_X.steps 3 (ax_brF (nek) ?_)
        refine ax_X.steps 4 ⟨a, ⟨by omega, by omega⟩, rfl, ?_⟩
        refine ax_X.steps 2 (ax_go (hI _ _ _ false (by omega) (by show bt (dpJ a (t 10) i (t 10 j ||| sB j) a) i = _; rw [dpJ_at]; exact eb)) ?_)
        refine ax_X.steps 1 (ax_brT (rfl) ?_)
        exact ax_X.steps 2 (ih (a + 1) _ _ (nI_1 a) (dpJ_n ek eb) (by omega))
      · refine ax_X.steps 4 (ax_brF (nI_ge (by omega) (by omega)) ?_)
        refine ax_X.steps 3 (ax_brF (nek) ?_)
        refine ax_X.steps 4 ⟨a, ⟨by omega, by omega⟩, rfl, ?_⟩
        refine ax_X.steps 2 (ax_go (hI _ _ _ true (by omega) (by show bt (dpJ a (t 10) i (t 10 j ||| sB j) a) i = _; rw [dpJ_at]; exact eb)) ?_)
        refine ax_X.steps 1 (ax_brF (bI_n0) ?_)
        refine ax_X.steps 5 ⟨a, ⟨by omega, by omega⟩, rfl, ?_⟩
        refine ax_X.steps 3 ⟨a, ⟨by omega, by omega⟩, rfl, ?_⟩
        exact ax_X.steps 2 (ih (a + 1) _ (upd (dpJ a (t 10) i (t 10 j ||| sB j)) a (dpJ a (t 10) i (t 10 j ||| sB j) a ||| (t 10 j ||| sB j))) (nI_1 a) (dpJ_s (Or.inr eb)) (by omega))
  refine ax_X.steps 4 ⟨i, ⟨by omega, by omega⟩, rfl, ?_⟩
  refine ax_X.steps 2 (ax_go (hI _ _ _ false (by omega) hb) ?_)
  refine ax_X.steps 1 (ax_brT (rfl) ?_)
  refine ax_X.steps 3 (ax_brF (fun q => hne ((nI_eq (by omega) (by omega)).mp q)) ?_)
  refine ax_X.steps 4 ⟨j, ⟨by omega, by omega⟩, rfl, ?_⟩
  refine ax_X.steps 2 (ax_go (hI _ _ _ false (by omega) hc) ?_)
  refine ax_X.steps 1 (ax_brT (rfl) ?_)
  refine ax_X.steps 5 ⟨i, ⟨by omega, by omega⟩, rfl, ?_⟩
  refine ax_X.steps 2 (ax_go (hO _ _) ?_)
  refine ax_X.steps 2 ⟨i, ⟨by omega, by omega⟩, rfl, (?_ : ax_X ax_Ms ax_Xs no_A_join C _ 30 [some (.ref 2), some (.int (nI i)), some (.int (nI j)), none, none] [] (oH f n (ts t 9 i (t 9 i ||| sB j)) u b) 0 0)⟩
  refine ax_X.steps 4 ⟨j, ⟨by omega, by omega⟩, rfl, ?_⟩
  refine ax_X.steps 2 (ax_go (hO _ _) ?_)
  exact ax_X.steps 4 (loop n 0 0 (t 10) rfl dpJ_0.symm (by omega))
def Sp_O_needs_n (C : ax_O) : Prop := ∀ (f : Nat → Int32) (n : Nat) (t : Nat → Nat → Int32) (u : Int32) (b : Nat) (x y : Int32), (hasB n x = false ∨ hasB n y = false) → C no_O_needs [.ref 0, .int x, .int y] (oH f n t u b) (ax_is (some (.int (-1))) (oH f n t u b))
theorem p_O_needs_n {C : ax_O} (hH : Sp_A_has C) : Sp_O_needs_n (ax_B ax_Ms ax_Xs C) := by
  intro f n t u b x y hx
  cases a1 : hasB n x
  · refine ax_X.steps 4 (ax_go (hH _ _ _ _ _ _ false a1) ?_)
    refine ax_X.steps 1 (ax_brT (rfl) ?_)
    exact ax_X.steps 2 ⟨Or.inl rfl, rfl, rfl⟩
  · have a2 : hasB n y = false := hx.resolve_left (by rw [a1]; decide)
    refine ax_X.steps 4 (ax_go (hH _ _ _ _ _ _ true a1) ?_)
    refine ax_X.steps 1 (ax_brF (bI_n0) ?_)
    refine ax_X.steps 4 (ax_go (hH _ _ _ _ _ _ false a2) ?_)
    refine ax_X.steps 1 (ax_brF (fun q => q rfl) ?_)
    exact ax_X.steps 2 ⟨Or.inl rfl, rfl, rfl⟩
/-- needs, of two that are there: what join does -/
def Sp_O_needs (C : ax_O) : Prop := ∀ (f : Nat → Int32) (n : Nat) (t : Nat → Nat → Int32) (u : Int32) (b : Nat) (k j : Nat), n ≤ 24 → k < n → j < n → (bt (t 9 k) j = true → C no_O_needs [.ref 0, .int (nI k), .int (nI j)] (oH f n t u b) (ax_is (some (.int (-1))) (oH f n t u b))) ∧
  (bt (t 9 k) j = false → (k = j ∨ bt (t 10 j) k = true) → C no_O_needs [.ref 0, .int (nI k), .int (nI j)] (oH f n t u b) (ax_is (some (.int (-2))) (oH f n t u b))) ∧
  (bt (t 9 k) j = false → ¬ k = j → bt (t 10 j) k = false → C no_O_needs [.ref 0, .int (nI k), .int (nI j)] (oH f n t u b) (ax_is (some (.int 1)) (oH f n (va_up (ts t 9 k (t 9 k ||| sB j)) 10 (dpJ n (t 10) k (t 10 j ||| sB j))) u b)))
theorem p_O_needs {C : ax_O} (hH : Sp_A_has C) (h0 : Sp_A_join_0 C) (h2 : Sp_A_join_2 C) (h1 : Sp_A_join_1 C) : Sp_O_needs (ax_B ax_Ms ax_Xs C) := by
  intro f n t u b k j hn hk hj
  refine ⟨fun hb => ?_, fun hb hc => ?_, fun hb hne hc => ?_⟩
  · refine ax_X.steps 4 (ax_go (hH _ _ _ _ _ _ true (hasB_k hn hk)) ?_)
    refine ax_X.steps 1 (ax_brF (bI_n0) ?_)
    refine ax_X.steps 4 (ax_go (hH _ _ _ _ _ _ true (hasB_k hn hj)) ?_)
    refine ax_X.steps 1 (ax_brT (bI_n0) ?_)
    refine ax_X.steps 5 (ax_go (h0 f n t u b k j (by omega) (by omega) hb) ?_)
    exact ax_X.steps 1 ⟨Or.inl rfl, rfl, rfl⟩
  · refine ax_X.steps 4 (ax_go (hH _ _ _ _ _ _ true (hasB_k hn hk)) ?_)
    refine ax_X.steps 1 (ax_brF (bI_n0) ?_)
    refine ax_X.steps 4 (ax_go (hH _ _ _ _ _ _ true (hasB_k hn hj)) ?_)
    refine ax_X.steps 1 (ax_brT (bI_n0) ?_)
    refine ax_X.steps 5 (ax_go (h2 f n t u b k j (by omega) (by omega) hb hc) ?_)
    exact ax_X.steps 1 ⟨Or.inl rfl, rfl, rfl⟩
  · refine ax_X.steps 4 (ax_go (hH _ _ _ _ _ _ true (hasB_k hn hk)) ?_)
    refine ax_X.steps 1 (ax_brF (bI_n0) ?_)
    refine ax_X.steps 4 (ax_go (hH _ _ _ _ _ _ true (hasB_k hn hj)) ?_)
    refine ax_X.steps 1 (ax_brT (bI_n0) ?_)
    refine ax_X.steps 5 (ax_go (h1 f n t u b k j hn (by omega) (by omega) hb hne hc) ?_)
    exact ax_X.steps 1 ⟨Or.inl rfl, rfl, rfl⟩
end
section
/-! Rests. rk: a rank that falls from what is needed to what needs it. -/
def grG (nd rs : Nat → Int32) (w : Int32) (k : Nat) : Nat → Int32
  | 0 => 0
  | m + 1 => if (bt w m && bt (nd m) k) = true then mxI (grG nd rs w k m) (rs m) else grG nd rs w k m
theorem grI_eq {t : Nat → Nat → Int32} {w : Int32} {k : Nat} : ∀ m, grI t w k m = grG (t 9) (t 11) w k m
  | 0 => rfl
  | m + 1 => by rw [grI, grG, grI_eq m]
theorem grG_congr {nd rs rs' : Nat → Int32} {w : Int32} {k : Nat} : ∀ {m : Nat}, (∀ c, c < m → bt (nd c) k = true → rs c = rs' c) → grG nd rs w k m = grG nd rs' w k m
  | 0, _ => rfl
  | m + 1, h => by
    rw [grG, grG, grG_congr (m := m) (fun c hc => h c (by omega))]
    by_cases e : (bt w m && bt (nd m) k) = true
    · rw [if_pos e, if_pos e, h m (by omega) (by rw [Bool.and_eq_true] at e; exact e.2)]
    · rw [if_neg e, if_neg e]
def reI (nd tm : Nat → Int32) (w : Int32) (n : Nat) : Nat → Nat → Int32
  | 0 => fun _ => 0
  | m + 1 => fun a => tm a + grG nd (reI nd tm w n m) w a n
/-- the rests -/
def reN (nd tm : Nat → Int32) (w : Int32) (n : Nat) : Nat → Int32 := reI nd tm w n n
def rkP (n : Nat) (nd : Nat → Int32) (rk : Nat → Nat) : Prop := (∀ a, a < n → rk a < n) ∧ ∀ a c, a < n → c < n → bt (nd c) a = true → rk c < rk a
theorem reI_fix {n : Nat} {nd tm : Nat → Int32} {w : Int32} {rk : Nat → Nat} (h : rkP n nd rk) : ∀ (m a : Nat), a < n → rk a < m → reI nd tm w n m a = reI nd tm w n (m + 1) a
  | 0, _, _, h2 => absurd h2 (Nat.not_lt_zero _)
  | m + 1, a, ha, h2 => by
    show tm a + grG nd (reI nd tm w n m) w a n = tm a + grG nd (reI nd tm w n (m + 1)) w a n
    rw [grG_congr (fun c hc hb => reI_fix h m c hc (by have := h.2 a c ha hc hb; omega))]
theorem reN_eq {n : Nat} {nd tm : Nat → Int32} {w : Int32} {rk : Nat → Nat} (h : rkP n nd rk) {a : Nat} (ha : a < n) : reN nd tm w n a = tm a + grG nd (reN nd tm w n) w a n := by
  unfold reN
  exact reI_fix h n a ha (h.1 a ha)
theorem reN_one {n : Nat} {nd tm g : Nat → Int32} {w : Int32} {rk : Nat → Nat} (h : rkP n nd rk) (hg : ∀ a, a < n → g a = tm a + grG nd g w a n) : ∀ (m a : Nat), a < n → rk a < m → g a = reN nd tm w n a
  | 0, _, _, h2 => absurd h2 (Nat.not_lt_zero _)
  | m + 1, a, ha, h2 => by
    rw [hg a ha, reN_eq h ha, grG_congr (fun c hc hb => reN_one h hg m c hc (by have := h.2 a c ha hc hb; omega))]
def Sp_A_measure (C : ax_O) : Prop := ∀ (f : Nat → Int32) (n : Nat) (t : Nat → Nat → Int32) (u : Int32) (b : Nat) (w : Int32) (rk : Nat → Nat), n ≤ 24 → rkP n (t 9) rk → C no_A_measureRests [.ref 2, .int w] (oH f n t u b) (fun x h' => x = none ∧ ∃ g : Nat → Int32, (∀ a, a < n → g a = reN (t 9) (t 0) w n a) ∧ h' = oH f n (va_up t 11 g) u b)
theorem p_A_measure {C : ax_O} (h1 : Sp_A_gra C) : Sp_A_measure (ax_B ax_Ms ax_Xs C) := by
  intro f n t u b w rk hn hrk
  have outer : ∀ (m rd : Nat) (g0 : Nat → Int32) (y : Int32) (q4 q5 : Option Value), y = nI rd → rd + m = n → (∀ a, a < n → rk a < rd → g0 a = reN (t 9) (t 0) w n a) → ax_X ax_Ms ax_Xs no_A_measureRests C (fun x h' => x = none ∧ ∃ g : Nat → Int32, (∀ a, a < n → g a = reN (t 9) (t 0) w n a) ∧ h' = oH f n (va_up t 11 g) u b) 4 [some (.ref 2), some (.int w), some (.int 1), some (.int y), q4, q5] [] (oH f n (va_up t 11 g0) u b) 0 0 := by
    intro m
    induction m with
    | zero =>
      intro rd g0 y q4 q5 hy hr hg
      subst hy
      refine ax_X.steps 2 (ax_brF (bI_n0) ?_)
      refine ax_X.steps 4 (ax_brT (nI_le (by omega) (by omega)) ?_)
      exact ax_X.steps 1 (⟨rfl, g0, fun a ha => hg a ha (by have := hrk.1 a ha; omega), rfl⟩)
    | succ m ihm =>
      intro rd g0 y q4 q5 hy hr hg
      subst hy
      have loop : ∀ (k a : Nat) (x : Int32) (g : Nat → Int32) (z : Bool) (q5 : Option Value), x = nI a → (∀ c, c < n → rk c < rd → g c = reN (t 9) (t 0) w n c) → (∀ c, c < a → rk c < rd + 1 → g c = reN (t 9) (t 0) w n c) → (z = false → g = g0 ∧ ∀ c, c < a → g0 c = t 0 c + grG (t 9) g0 w c n) → a + k = n → ax_X ax_Ms ax_Xs no_A_measureRests C (fun x h' => x = none ∧ ∃ g : Nat → Int32, (∀ a, a < n → g a = reN (t 9) (t 0) w n a) ∧ h' = oH f n (va_up t 11 g) u b) 14 [some (.ref 2), some (.int w), some (.int (bI z)), some (.int (nI rd)), some (.int x), q5] [] (oH f n (va_up t 11 g) u b) 0 0 := by
        intro k
        induction k with
        | zero =>
          intro a x g z q5 hx h2 h3 h4 hk
          subst hx
          have hk : a = n := hk
          subst hk
          cases z
          · obtain ⟨rfl, h6⟩ := h4 rfl
            refine ax_X.steps 4 (ax_brT (nI_le (by omega) (by omega)) ?_)
            refine ax_X.steps 4 (ax_brT (rfl) ?_)
            exact ax_X.steps 1 (⟨rfl, g, fun c hc => reN_one hrk h6 (rk c + 1) c hc (by omega), rfl⟩)
          · refine ax_X.steps 4 (ax_brT (nI_le (by omega) (by omega)) ?_)
            exact ax_X.steps 2 (ihm (rd + 1) g _ _ _ (nI_1 rd) (by omega) h3)
        | succ k ih =>
          intro a x g z q5 hx h2 h3 h4 hk
          subst hx
          have hv : ∀ c, c < n → rk c < rd + 1 → c = a → t 0 a + grG (t 9) g w a n = reN (t 9) (t 0) w n c := by
            intro c hc hr2 e
            subst e
            rw [reN_eq hrk hc, grG_congr (fun d hd hb => h2 d hd (by have := hrk.2 c d hc hd hb; omega))]
          have k2 : ∀ c, c < n → rk c < rd → upd g a (t 0 a + grG (t 9) g w a n) c = reN (t 9) (t 0) w n c := by
            intro c hc hr2
            by_cases e : c = a
            · rw [e, pk_us, hv c hc (by omega) e, e]
            · rw [pk_un e]; exact h2 c hc hr2
          have k3 : ∀ c, c < a + 1 → rk c < rd + 1 → upd g a (t 0 a + grG (t 9) g w a n) c = reN (t 9) (t 0) w n c := by
            intro c hc hr2
            by_cases e : c = a
            · rw [e, pk_us, hv c (by omega) hr2 e, e]
            · rw [pk_un e]; exact h3 c (by omega) hr2
          have hgr : C no_A_greatestRestAbove [.ref 2, .int (nI a), .int w] (oH f n (va_up t 11 g) u b) (ax_is (some (.int (grG (t 9) g w a n))) (oH f n (va_up t 11 g) u b)) := by
            have := h1 f n (va_up t 11 g) u b a w hn (by omega)
            rw [grI_eq] at this
            exact this
          cases z
          · obtain ⟨rfl, h6⟩ := h4 rfl
            refine ax_X.steps 4 (ax_brF (nI_ge (by omega) (by omega)) ?_)
            refine ax_X.steps 4 ⟨a, ⟨by omega, by omega⟩, rfl, ?_⟩
            refine ax_X.steps 4 (ax_go (hgr) ?_)
            refine ax_X.steps 4 (ax_brF (fun q => q rfl) ?_)
            refine ax_X.steps 5 ⟨a, ⟨by omega, by omega⟩, rfl, ?_⟩
            refine ax_X.steps 1 (ax_br2 (fun c35 => ?_) (fun c35 => ?_))
            · refine ax_X.steps 7 ⟨a, ⟨by omega, by omega⟩, rfl, ?_⟩
              exact ax_X.steps 2 (ih (a + 1) _ (upd g a (t 0 a + grG (t 9) g w a n)) false _ (nI_1 a) k2 k3 (fun _ => ⟨upd_id (show g a = _ from (show t 0 a + grG (t 9) g w a n = g a from c35).symm), fun c hc => by
                by_cases e : c = a
                · rw [e]; exact (show t 0 a + grG (t 9) g w a n = g a from c35).symm
                · exact h6 c (by omega)⟩) (by omega))
            · refine ax_X.steps 8 ⟨a, ⟨by omega, by omega⟩, rfl, ?_⟩
              exact ax_X.steps 2 (ih (a + 1) _ (upd g a (t 0 a + grG (t 9) g w a n)) true _ (nI_1 a) k2 k3 (fun q => by cases q) (by omega))
          · refine ax_X.steps 4 (ax_brF (nI_ge (by omega) (by omega)) ?_)
            refine ax_X.steps 4 ⟨a, ⟨by omega, by omega⟩, rfl, ?_⟩
            refine ax_X.steps 4 (ax_go (hgr) ?_)
            refine ax_X.steps 4 (ax_brT (bI_n0) ?_)
            refine ax_X.steps 8 ⟨a, ⟨by omega, by omega⟩, rfl, ?_⟩
            exact ax_X.steps 2 (ih (a + 1) _ (upd g a (t 0 a + grG (t 9) g w a n)) true _ (nI_1 a) k2 k3 (fun q => by cases q) (by omega))
      refine ax_X.steps 2 (ax_brF (bI_n0) ?_)
      refine ax_X.steps 4 (ax_brF (nI_ge (by omega) (by omega)) ?_)
      exact ax_X.steps 4 (loop n 0 0 g0 false _ rfl hg (fun c hc => absurd hc (Nat.not_lt_zero c)) (fun _ => ⟨rfl, fun c hc => absurd hc (Nat.not_lt_zero c)⟩) (by omega))
  exact ax_X.steps 4 (outer n 0 (t 11) 0 none none rfl (by omega) (fun a _ h => absurd h (Nat.not_lt_zero _)))
end
section
/-! The class: rest, and the whole run. -/
def Sp_O_rest_n (C : ax_O) : Prop := ∀ (f : Nat → Int32) (n : Nat) (t : Nat → Nat → Int32) (u : Int32) (b : Nat) (x : Int32), hasB n x = false → C no_O_rest [.ref 0, .int x] (oH f n t u b) (ax_is (some (.int 0)) (oH f n t u b))
theorem p_O_rest_n {C : ax_O} (hH : Sp_A_has C) : Sp_O_rest_n (ax_B ax_Ms ax_Xs C) := by
  intro f n t u b x hx
  refine ax_X.steps 4 (ax_go (hH _ _ _ _ _ _ false hx) ?_)
  refine ax_X.steps 1 (ax_brF (fun q => q rfl) ?_)
  exact ax_X.steps 2 ⟨Or.inl rfl, rfl, rfl⟩
def Sp_O_rest_0 (C : ax_O) : Prop := ∀ (f : Nat → Int32) (n : Nat) (t : Nat → Nat → Int32) (u : Int32) (b : Nat) (k : Nat), n ≤ 24 → k < n → bt (wtI t n) k = false → C no_O_rest [.ref 0, .int (nI k)] (oH f n t u b) (ax_is (some (.int 0)) (oH f n t u b))
theorem p_O_rest_0 {C : ax_O} (hH : Sp_A_has C) (hW : Sp_A_wanted C) (hI : Sp_O_isIn C) : Sp_O_rest_0 (ax_B ax_Ms ax_Xs C) := by
  intro f n t u b k hn hk hb
  refine ax_X.steps 4 (ax_go (hH _ _ _ _ _ _ true (hasB_k hn hk)) ?_)
  refine ax_X.steps 1 (ax_brT (bI_n0) ?_)
  refine ax_X.steps 3 (ax_go (hW f n t u b hn) ?_)
  refine ax_X.steps 4 (ax_go (hI _ _ _ false (by omega) hb) ?_)
  refine ax_X.steps 1 (ax_brF (fun q => q rfl) ?_)
  exact ax_X.steps 2 ⟨Or.inl rfl, rfl, rfl⟩
def Sp_O_rest_1 (C : ax_O) : Prop := ∀ (f : Nat → Int32) (n : Nat) (t : Nat → Nat → Int32) (u : Int32) (b : Nat) (k : Nat) (rk : Nat → Nat), n ≤ 24 → k < n → rkP n (t 9) rk → bt (wtI t n) k = true → C no_O_rest [.ref 0, .int (nI k)] (oH f n t u b) (fun x h' => x = some (.int (reN (t 9) (t 0) (wtI t n) n k)) ∧ ∃ g : Nat → Int32, h' = oH f n (va_up t 11 g) u b)
theorem p_O_rest_1 {C : ax_O} (hH : Sp_A_has C) (hW : Sp_A_wanted C) (hI : Sp_O_isIn C) (hM : Sp_A_measure C) : Sp_O_rest_1 (ax_B ax_Ms ax_Xs C) := by
  intro f n t u b k rk hn hk hrk hb
  refine ax_X.steps 4 (ax_go (hH _ _ _ _ _ _ true (hasB_k hn hk)) ?_)
  refine ax_X.steps 1 (ax_brT (bI_n0) ?_)
  refine ax_X.steps 3 (ax_go (hW f n t u b hn) ?_)
  refine ax_X.steps 4 (ax_go (hI _ _ _ true (by omega) hb) ?_)
  refine ax_X.steps 1 (ax_brT (bI_n0) ?_)
  refine ax_X.steps 4 (ax_goPv (hM f n t u b (wtI t n) rk hn hrk) (fun h' hz => ?_))
  obtain ⟨-, g, hg, rfl⟩ := hz
  refine ax_X.steps 5 ⟨k, ⟨by omega, by omega⟩, rfl, ?_⟩
  exact ax_X.steps 1 ⟨Or.inl rfl, by rw [← hg k hk]; rfl, g, rfl⟩
def fillR (r : Nat → Nat → Int32) (a : Nat) (v : Int32) : Nat → Nat → Int32 := ts (ts (ts (ts (ts (ts (ts r 0 a v) 1 a (-1)) 2 a (-1)) 3 a 0) 4 a (-1)) 5 a (-1)) 6 a (-1)
def inV (f : Nat → Int32) (t : Nat → Nat → Int32) (w : Int32) (a : Nat) : Int32 := if bt w a = true then (if tsB f (t 1 a) (t 2 a) = true then 5 else 6) else 0
theorem prep_one {C : ax_O} (f : Nat → Int32) (n : Nat) (t : Nat → Nat → Int32) (u : Int32) (b : Nat) (r : Nat → Nat → Int32) (w v : Int32) (a : Nat) (ha : a < 24) (K : ax_K) (hK : ax_X ax_Ms ax_Xs no_N_prepare C K 65 [some (.ref 18), some (.int w), some (.int (nI a))] [] (oH f n (oT t (fillR r a v)) u b) 0 0) : ax_X ax_Ms ax_Xs no_N_prepare C K 35 [some (.ref 18), some (.int w), some (.int (nI a))] [] (oH f n (oT t (ts r 0 a v)) u b) 0 0 := by
  refine ax_X.steps 5 ⟨a, ⟨by omega, by omega⟩, rfl, (?_ : ax_X ax_Ms ax_Xs no_N_prepare C _ 40 [some (.ref 18), some (.int w), some (.int (nI a))] [] (oH f n (oT t (ts (ts r 0 a v) 1 a (-1))) u b) 0 0)⟩
  refine ax_X.steps 5 ⟨a, ⟨by omega, by omega⟩, rfl, (?_ : ax_X ax_Ms ax_Xs no_N_prepare C _ 45 [some (.ref 18), some (.int w), some (.int (nI a))] [] (oH f n (oT t (ts (ts (ts r 0 a v) 1 a (-1)) 2 a (-1))) u b) 0 0)⟩
  refine ax_X.steps 5 ⟨a, ⟨by omega, by omega⟩, rfl, (?_ : ax_X ax_Ms ax_Xs no_N_prepare C _ 50 [some (.ref 18), some (.int w), some (.int (nI a))] [] (oH f n (oT t (ts (ts (ts (ts r 0 a v) 1 a (-1)) 2 a (-1)) 3 a 0)) u b) 0 0)⟩
  refine ax_X.steps 5 ⟨a, ⟨by omega, by omega⟩, rfl, (?_ : ax_X ax_Ms ax_Xs no_N_prepare C _ 55 [some (.ref 18), some (.int w), some (.int (nI a))] [] (oH f n (oT t (ts (ts (ts (ts (ts r 0 a v) 1 a (-1)) 2 a (-1)) 3 a 0) 4 a (-1))) u b) 0 0)⟩
  refine ax_X.steps 5 ⟨a, ⟨by omega, by omega⟩, rfl, (?_ : ax_X ax_Ms ax_Xs no_N_prepare C _ 60 [some (.ref 18), some (.int w), some (.int (nI a))] [] (oH f n (oT t (ts (ts (ts (ts (ts (ts r 0 a v) 1 a (-1)) 2 a (-1)) 3 a 0) 4 a (-1)) 5 a (-1))) u b) 0 0)⟩
  refine ax_X.steps 5 ⟨a, ⟨by omega, by omega⟩, rfl, (?_ : ax_X ax_Ms ax_Xs no_N_prepare C _ 65 [some (.ref 18), some (.int w), some (.int (nI a))] [] (oH f n (oT t (ts (ts (ts (ts (ts (ts (ts r 0 a v) 1 a (-1)) 2 a (-1)) 3 a 0) 4 a (-1)) 5 a (-1)) 6 a (-1))) u b) 0 0)⟩
  exact ax_X.steps 0 (hK)
theorem prep_loop {C : ax_O} (hI : Sp_O_isIn C) (hS : Sp_N_stateAtFirst C) (f : Nat → Int32) (n : Nat) (t : Nat → Nat → Int32) (u : Int32) (b : Nat) (r : Nat → Nat → Int32) (w : Int32) (K : ax_K) (hK : K none (oH f n (oT t (itN (fun a r => fillR r a (inV f t w a)) 24 r)) u b)) : ax_X ax_Ms ax_Xs no_N_prepare C K 17 [some (.ref 18), some (.int w), none] [] (oH f n (oT t r) u b) 0 0 := by
  have loop : ∀ (k a : Nat) (x : Int32) (g : Nat → Nat → Int32), x = nI a → g = itN (fun a r => fillR r a (inV f t w a)) a r → a + k = 24 → ax_X ax_Ms ax_Xs no_N_prepare C (K) 19 [some (.ref 18), some (.int w), some (.int x)] [] (oH f n (oT t g) u b) 0 0 := by
    intro k
    induction k with
    | zero =>
      intro a x g hx hg hk
      subst hx
      have hk : a = 24 := hk
      subst hk
      subst hg
      refine ax_X.steps 3 (ax_brT ((nI_le (a := 24) (b := 24) (by omega) (by omega))) ?_)
      exact ax_X.steps 1 (hK)
    | succ k ih =>
      intro a x g hx hg hk
      subst hx
      have hs : fillR g a (inV f t w a) = itN (fun a r => fillR r a (inV f t w a)) (a + 1) r := by rw [hg]; rfl
      have nxt : ax_X ax_Ms ax_Xs no_N_prepare C K 65 [some (.ref 18), some (.int w), some (.int (nI a))] [] (oH f n (oT t (fillR g a (inV f t w a))) u b) 0 0 := ax_X.steps 2 (ih (a + 1) _ _ (nI_1 a) hs (by omega))
      cases hb : bt w a
      · have e : inV f t w a = 0 := by unfold inV; rw [hb]; rfl
        rw [e] at nxt
        refine ax_X.steps 3 (ax_brF ((nI_ge (a := a) (b := 24) (by omega) (by omega))) ?_)
        refine ax_X.steps 6 (ax_go (hI _ _ _ false (by omega) hb) ?_)
        refine ax_X.steps 1 (ax_brT (rfl) ?_)
        refine ax_X.steps 2 ⟨a, ⟨by omega, by omega⟩, rfl, ?_⟩
        exact ax_X.steps 0 (prep_one f n t u b g w 0 a (by omega) _ nxt)
      · have e : inV f t w a = (if tsB f (t 1 a) (t 2 a) = true then 5 else 6) := by unfold inV; rw [hb]; rfl
        rw [e] at nxt
        refine ax_X.steps 3 (ax_brF ((nI_ge (a := a) (b := 24) (by omega) (by omega))) ?_)
        refine ax_X.steps 6 (ax_go (hI _ _ _ true (by omega) hb) ?_)
        refine ax_X.steps 1 (ax_brF (bI_n0) ?_)
        refine ax_X.steps 3 (ax_go ((show C no_N_stateAtFirst [.ref 18, .int (nI a)] (oH f n (oT t g) u b) (ax_is (some (.int (if tsB f (t 1 a) (t 2 a) = true then 5 else 6))) (oH f n (oT t g) u b)) from hS f n (oT t g) u b a (by omega))) ?_)
        refine ax_X.steps 2 ⟨a, ⟨by omega, by omega⟩, rfl, ?_⟩
        exact ax_X.steps 0 (prep_one f n t u b g w _ a (by omega) _ nxt)
  exact ax_X.steps 2 (loop 24 0 0 r rfl rfl rfl)
def Sp_N_prepare (C : ax_O) : Prop := ∀ (f : Nat → Int32) (n : Nat) (t : Nat → Nat → Int32) (u : Int32) (b : Nat) (r : Nat → Nat → Int32) (rk : Nat → Nat), n ≤ 24 → rkP n (t 9) rk → C no_N_prepare [.ref 18] (oH f n (oT t r) u b) (fun x h' => x = none ∧ ∃ g : Nat → Int32, (∀ a, a < n → g a = reN (t 9) (t 0) (wtI t n) n a) ∧ h' = oH (clF f) n (oT (va_up t 11 g) (itN (fun a r => fillR r a (inV (clF f) t (wtI t n) a)) 24 r)) 1 0)
theorem wtI_oT {t r : Nat → Nat → Int32} : ∀ n, wtI (oT t r) n = wtI t n
  | 0 => rfl
  | n + 1 => by
    rw [wtI, wtI, wtI_oT n]
    rfl
theorem p_N_prepare {C : ax_O} (hC : Sp_H_clear C) (hW : Sp_A_wanted C) (hM : Sp_A_measure C) (hI : Sp_O_isIn C) (hS : Sp_N_stateAtFirst C) : Sp_N_prepare (ax_B ax_Ms ax_Xs C) := by
  intro f n t u b r rk hn hrk
  have hW2 := hW (clF f) n (oT t r) 1 0 hn
  rw [wtI_oT] at hW2
  refine ax_X.steps 3 ⟨Or.inr ⟨rfl, Or.inr rfl⟩, (?_ : ax_X ax_Ms ax_Xs no_N_prepare C _ 3 [some (.ref 18), none, none] [] (oH f n (oT t r) 1 b) 0 0)⟩
  refine ax_X.steps 3 ⟨Or.inl rfl, (?_ : ax_X ax_Ms ax_Xs no_N_prepare C _ 6 [some (.ref 18), none, none] [] (oH f n (oT t r) 1 0) 0 0)⟩
  refine ax_X.steps 3 (ax_gov (hC f n (oT t r) 1 0) ?_)
  refine ax_X.steps 3 (ax_go (hW2) ?_)
  refine ax_X.steps 5 (ax_goPv (hM (clF f) n (oT t r) 1 0 (wtI t n) rk hn hrk) (fun h' hz => ?_))
  obtain ⟨-, g, hg, rfl⟩ := hz
  exact ax_X.steps 0 (prep_loop hI hS (clF f) n (va_up t 11 g) 1 0 r (wtI t n) _ ⟨rfl, g, hg, rfl⟩)
noncomputable def skF (n : Nat) (nd st : Nat → Int32) : Nat → Int32 := Classical.epsilon (fun g => skC n nd st g)
theorem skF_eq {n : Nat} {nd st g : Nat → Int32} (h : skC n nd st g) : g = skF n nd st := skC_one h (Classical.epsilon_spec (p := fun g => skC n nd st g) ⟨g, h⟩)
/-- behind ends and skips, and stops if one is bad and the run fails fast -/
noncomputable def mdR (n : Nat) (nd : Nat → Int32) (on : Int32) (r : Nat → Nat → Int32) : Nat → Nat → Int32 :=
  if (!decide (on = 0) && anyB (badB (skF n nd (r 0))) n) = true then va_up r 0 (stF n (skF n nd (r 0))) else va_up r 0 (skF n nd (r 0))
/-- the class at one time, up to the begins -/
noncomputable def oMd (n : Nat) (t : Nat → Nat → Int32) (ck : Int32) (s : BS) : BS := ((itN (oES n t ck) n (s.1, s.2.2.1)).1, s.2.1, mdR n (t 9) (t 12 1) (itN (oES n t ck) n (s.1, s.2.2.1)).2, s.2.2.2)
def oPd (n : Nat) (t : Nat → Nat → Int32) (s : BS) : Nat → Bool := rdO (oT t s.2.2.1) n (tzO (oT t s.2.2.1) n)
noncomputable def oSt (n : Nat) (t : Nat → Nat → Int32) (ck : Int32) (s : BS) : BS := oBL n t ck n (oPd n t (oMd n t ck s)) (oMd n t ck s)
def oNe (n : Nat) (t : Nat → Nat → Int32) (s : BS) : Int32 := neI (oT t s.2.2.1) n
noncomputable def oRn (n : Nat) (t : Nat → Nat → Int32) : Nat → Int32 → BS → Int32 × BS
  | 0, ck, s => (ck, s)
  | k + 1, ck, s => if oNe n t (oSt n t ck s) = -1 then (ck, oSt n t ck s) else oRn n t k (oNe n t (oSt n t ck s)) (oSt n t ck s)
def oOk (n : Nat) (t : Nat → Nat → Int32) : Nat → Int32 → BS → Prop
  | 0, _, _ => True
  | k + 1, ck, s => (oMd n t ck s).2.2.2 + cntB (oPd n t (oMd n t ck s)) n ≤ 96 ∧ (¬ oNe n t (oSt n t ck s) = -1 → oOk n t k (oNe n t (oSt n t ck s)) (oSt n t ck s))
theorem neI_oT {t t' r : Nat → Nat → Int32} : ∀ n, neI (oT t r) n = neI (oT t' r) n
  | 0 => rfl
  | n + 1 => by rw [neI, neI, neI_oT (t := t) (t' := t') n]; rfl
def Sp_N_go (C : ax_O) : Prop := ∀ (f : Nat → Int32) (n : Nat) (t : Nat → Nat → Int32) (u : Int32) (b : Nat) (r : Nat → Nat → Int32) (rk : Nat → Nat), n ≤ 24 → rkP n (t 9) rk → (∀ a, a < n → ∃ q, q < 4 ∧ t 6 a = nI q) → (∀ g : Nat → Int32, (∀ a, a < n → g a = reN (t 9) (t 0) (wtI t n) n a) → oOk n (va_up t 11 g) 97 0 (clF f, t 21, itN (fun a r => fillR r a (inV (clF f) t (wtI t n) a)) 24 r, 0)) →
  C no_N_goThrough [.ref 18] (oH f n (oT t r) u b) (fun x h' => ∃ g : Nat → Int32, (∀ a, a < n → g a = reN (t 9) (t 0) (wtI t n) n a) ∧ ∃ (ck : Int32) (s : BS), oRn n (va_up t 11 g) 97 0 (clF f, t 21, itN (fun a r => fillR r a (inV (clF f) t (wtI t n) a)) 24 r, 0) = (ck, s) ∧ x = some (.int ck) ∧ h' = oHs n (va_up t 11 g) 1 (s.1, s.2.1, va_up s.2.2.1 0 (stF n (s.2.2.1 0)), s.2.2.2))
theorem p_N_go {C : ax_O} (h1 : Sp_N_prepare C) (h2 : Sp_N_endTries C) (h3 : Sp_N_skip C) (h4 : Sp_N_isOneBad C) (h5 : Sp_N_stopWaiting C) (h6 : Sp_N_beginReady C) (h7 : Sp_N_nextEnd C) : Sp_N_go (ax_B ax_Ms ax_Xs C) := by
  intro f n t u b r rk hn hrk hq hok
  generalize hR : itN (fun a r => fillR r a (inV (clF f) t (wtI t n) a)) 24 r = R0 at hok
  have loop : ∀ (t : Nat → Nat → Int32) (K : ax_K), (∀ a, a < n → ∃ q, q < 4 ∧ t 6 a = nI q) → ∀ (k e : Nat) (x ck : Int32) (q3 : Option Value) (s : BS), x = nI e → e + k = 97 → oOk n t k ck s → (∀ ck2 s2, oRn n t k ck s = (ck2, s2) → K (some (.int ck2)) (oHs n t 1 (s2.1, s2.2.1, va_up s2.2.2.1 0 (stF n (s2.2.2.1 0)), s2.2.2.2))) → ax_X ax_Ms ax_Xs no_N_goThrough C K 6 [some (.ref 18), some (.int ck), some (.int x), q3] [] (oHs n t 1 s) 0 0 := by
    intro t K hq
    have fin : ∀ (x ck : Int32) (q3 : Option Value) (s : BS), K (some (.int ck)) (oHs n t 1 (s.1, s.2.1, va_up s.2.2.1 0 (stF n (s.2.2.1 0)), s.2.2.2)) → ax_X ax_Ms ax_Xs no_N_goThrough C K 39 [some (.ref 18), some (.int ck), some (.int x), q3] [] (oHs n t 1 s) 0 0 := by
      intro x ck q3 s hK
      refine ax_X.steps 2 (ax_gov ((show C no_N_stopWaiting [.ref 18] (oHs n t 1 s) (ax_is none (oHs n t 1 (s.1, s.2.1, va_up s.2.2.1 0 (stF n (s.2.2.1 0)), s.2.2.2))) from h5 s.1 n (oT (va_up t 21 s.2.1) s.2.2.1) 1 s.2.2.2 hn)) ?_)
      exact ax_X.steps 2 ⟨Or.inl rfl, hK⟩
    intro k
    induction k with
    | zero =>
      intro e x ck q3 s hx hk hok hK
      subst hx
      have hk : e = 97 := hk
      subst hk
      refine ax_X.steps 3 (ax_brT (nI_lt (a := 96) (b := 97) (by omega) (by omega)) ?_)
      exact ax_X.steps 0 (fin _ _ _ s (hK _ _ rfl))
    | succ k ih =>
      intro e x ck q3 s hx hk hok hK
      subst hx
      obtain ⟨hb, hnx⟩ := hok
      have begin : ax_X ax_Ms ax_Xs no_N_goThrough C K 25 [some (.ref 18), some (.int ck), some (.int (nI e)), q3] [] (oHs n t 1 (oMd n t ck s)) 0 0 := by
        rw [oRn] at hK
        by_cases hne : oNe n t (oSt n t ck s) = -1
        · rw [if_pos hne] at hK
          have hK := hK _ _ rfl
          refine ax_X.steps 3 (ax_gov (h6 n t 1 (oMd n t ck s) ck hn hb) ?_)
          refine ax_X.steps 2 (ax_go ((show C no_N_nextEnd [.ref 18] (oHs n t 1 (oSt n t ck s)) (ax_is (some (.int (-1))) (oHs n t 1 (oSt n t ck s))) from by have := h7 (oSt n t ck s).1 n (oT (va_up t 21 (oSt n t ck s).2.1) (oSt n t ck s).2.2.1) 1 (oSt n t ck s).2.2.2 hn; rw [neI_oT (t := va_up t 21 (oSt n t ck s).2.1) (t' := t), show neI (oT t (oSt n t ck s).2.2.1) n = -1 from hne] at this; exact this)) ?_)
          refine ax_X.steps 4 (ax_brF (fun q => q rfl) ?_)
          exact ax_X.steps 1 (fin _ _ _ _ hK)
        · rw [if_neg hne] at hK
          refine ax_X.steps 3 (ax_gov (h6 n t 1 (oMd n t ck s) ck hn hb) ?_)
          refine ax_X.steps 2 (ax_go ((show C no_N_nextEnd [.ref 18] (oHs n t 1 (oSt n t ck s)) (ax_is (some (.int (oNe n t (oSt n t ck s)))) (oHs n t 1 (oSt n t ck s))) from by have := h7 (oSt n t ck s).1 n (oT (va_up t 21 (oSt n t ck s).2.1) (oSt n t ck s).2.2.1) 1 (oSt n t ck s).2.2.2 hn; rw [neI_oT (t := va_up t 21 (oSt n t ck s).2.1) (t' := t)] at this; exact this)) ?_)
          refine ax_X.steps 4 (ax_brT (hne) ?_)
          exact ax_X.steps 4 (ih (e + 1) _ _ _ _ (nI_1 e) (by omega) (hnx hne) hK)
      have p := itN (oES n t ck) n (s.1, s.2.2.1)
      refine ax_X.steps 3 (ax_brF (nI_nlt (a := 96) (b := e) (by omega) (by omega)) ?_)
      refine ax_X.steps 3 (ax_gov ((show C no_N_endTries [.ref 18, .int ck] (oHs n t 1 s) (ax_is none (oHs n t 1 ((itN (oES n t ck) n (s.1, s.2.2.1)).1, s.2.1, (itN (oES n t ck) n (s.1, s.2.2.1)).2, s.2.2.2))) from by have := h2 s.1 n (va_up t 21 s.2.1) 1 s.2.2.2 s.2.2.1 ck hn hq; exact this)) ?_)
      refine ax_X.steps 2 (ax_goPv (h3 (itN (oES n t ck) n (s.1, s.2.2.1)).1 n (oT (va_up t 21 s.2.1) (itN (oES n t ck) n (s.1, s.2.2.1)).2) 1 s.2.2.2 hn) (fun h' hz => ?_))
      obtain ⟨-, g, hg, rfl⟩ := hz
      have hg := skF_eq hg
      subst hg
      refine ax_X.steps 5 ⟨1, ⟨by omega, by omega⟩, rfl, ?_⟩
      refine ax_X.steps 1 (ax_br2 (fun c19 => ?_) (fun c19 => ?_))
      · exact ax_X.steps 0 (by rw [show oMd n t ck s = _ from congrArg (fun z => ((itN (oES n t ck) n (s.1, s.2.2.1)).1, s.2.1, z, s.2.2.2)) (show mdR n (t 9) (t 12 1) (itN (oES n t ck) n (s.1, s.2.2.1)).2 = va_up (itN (oES n t ck) n (s.1, s.2.2.1)).2 0 (skF n (t 9) ((itN (oES n t ck) n (s.1, s.2.2.1)).2 0)) from by unfold mdR; rw [decide_eq_true (show t 12 1 = 0 from c19), Bool.not_true, Bool.false_and, if_neg (by decide)])] at begin; exact begin)
      · refine ax_X.steps 2 (ax_go ((show C no_N_isOneBad [.ref 18] (oHs n t 1 ((itN (oES n t ck) n (s.1, s.2.2.1)).1, s.2.1, va_up (itN (oES n t ck) n (s.1, s.2.2.1)).2 0 (skF n (t 9) ((itN (oES n t ck) n (s.1, s.2.2.1)).2 0)), s.2.2.2)) (ax_is (some (.int (bI (anyB (badB (skF n (t 9) ((itN (oES n t ck) n (s.1, s.2.2.1)).2 0))) n)))) (oHs n t 1 ((itN (oES n t ck) n (s.1, s.2.2.1)).1, s.2.1, va_up (itN (oES n t ck) n (s.1, s.2.2.1)).2 0 (skF n (t 9) ((itN (oES n t ck) n (s.1, s.2.2.1)).2 0)), s.2.2.2))) from h4 (itN (oES n t ck) n (s.1, s.2.2.1)).1 n (oT (va_up t 21 s.2.1) (va_up (itN (oES n t ck) n (s.1, s.2.2.1)).2 0 (skF n (t 9) ((itN (oES n t ck) n (s.1, s.2.2.1)).2 0)))) 1 s.2.2.2 hn)) ?_)
        refine ax_X.steps 1 (ax_br2 (fun c22 => ?_) (fun c22 => ?_))
        · exact ax_X.steps 0 (by rw [show oMd n t ck s = _ from congrArg (fun z => ((itN (oES n t ck) n (s.1, s.2.2.1)).1, s.2.1, z, s.2.2.2)) (show mdR n (t 9) (t 12 1) (itN (oES n t ck) n (s.1, s.2.2.1)).2 = va_up (itN (oES n t ck) n (s.1, s.2.2.1)).2 0 (skF n (t 9) ((itN (oES n t ck) n (s.1, s.2.2.1)).2 0)) from by unfold mdR; rw [show anyB (badB (skF n (t 9) ((itN (oES n t ck) n (s.1, s.2.2.1)).2 0))) n = false from bI_0.mp c22, Bool.and_false, if_neg (by decide)])] at begin; exact begin)
        · refine ax_X.steps 2 (ax_gov ((show C no_N_stopWaiting [.ref 18] (oHs n t 1 ((itN (oES n t ck) n (s.1, s.2.2.1)).1, s.2.1, va_up (itN (oES n t ck) n (s.1, s.2.2.1)).2 0 (skF n (t 9) ((itN (oES n t ck) n (s.1, s.2.2.1)).2 0)), s.2.2.2)) (ax_is none (oHs n t 1 ((itN (oES n t ck) n (s.1, s.2.2.1)).1, s.2.1, va_up (itN (oES n t ck) n (s.1, s.2.2.1)).2 0 (stF n (skF n (t 9) ((itN (oES n t ck) n (s.1, s.2.2.1)).2 0))), s.2.2.2))) from h5 (itN (oES n t ck) n (s.1, s.2.2.1)).1 n (oT (va_up t 21 s.2.1) (va_up (itN (oES n t ck) n (s.1, s.2.2.1)).2 0 (skF n (t 9) ((itN (oES n t ck) n (s.1, s.2.2.1)).2 0)))) 1 s.2.2.2 hn)) ?_)
          exact ax_X.steps 0 (by rw [show oMd n t ck s = _ from congrArg (fun z => ((itN (oES n t ck) n (s.1, s.2.2.1)).1, s.2.1, z, s.2.2.2)) (show mdR n (t 9) (t 12 1) (itN (oES n t ck) n (s.1, s.2.2.1)).2 = va_up (itN (oES n t ck) n (s.1, s.2.2.1)).2 0 (stF n (skF n (t 9) ((itN (oES n t ck) n (s.1, s.2.2.1)).2 0))) from by unfold mdR; rw [decide_eq_false (show ¬ t 12 1 = 0 from c19), show anyB (badB (skF n (t 9) ((itN (oES n t ck) n (s.1, s.2.2.1)).2 0))) n = true from (by cases z : anyB (badB (skF n (t 9) ((itN (oES n t ck) n (s.1, s.2.2.1)).2 0))) n with | false => exact absurd (congrArg bI z) c22 | true => rfl)]; rfl)] at begin; exact begin)
  refine ax_X.steps 2 (ax_goPv (h1 f n t u b r rk hn hrk) (fun h' hz => ?_))
  obtain ⟨-, g, hg, hh⟩ := hz
  rw [hR] at hh
  subst hh
  refine ax_X.steps 4 (loop (va_up t 11 g) _ hq 97 0 0 0 none (clF f, t 21, R0, 0) rfl (by omega) (hok g hg) (fun ck2 s2 he => ⟨g, hg, ck2, s2, he, rfl, rfl⟩))
end
section
/-! The reference: what is wanted, and rests. -/
def wtG (ws dp : Nat → Int32) : Nat → Int32
  | 0 => 0
  | n + 1 => if ws n = 0 then wtG ws dp n else wtG ws dp n ||| (sB n ||| dp n)
theorem wtI_eq {t : Nat → Nat → Int32} : ∀ n, wtI t n = wtG (t 8) (t 10) n
  | 0 => rfl
  | n + 1 => by rw [wtI, wtG, wtI_eq n]
theorem mxI_nI {a b : Nat} (ha : a < 100000) (hb : b < 100000) : mxI (nI a) (nI b) = nI (max a b) := by
  unfold mxI
  by_cases h : a < b
  · rw [if_pos (nI_lt h (by omega)), Nat.max_eq_right (by omega)]
  · rw [if_neg (nI_nlt (by omega) (by omega)), Nat.max_eq_left (by omega)]
/-- what comes above lies within a bound -/
theorem grG_bd {nd rs : Nat → Int32} {w : Int32} {k B : Nat} (hB : B < 100000) : ∀ {m : Nat}, (∀ c, c < m → bt w c = true → bt (nd c) k = true → ∃ y, y ≤ B ∧ rs c = nI y) → ∃ y, y ≤ B ∧ grG nd rs w k m = nI y
  | 0, _ => ⟨0, Nat.zero_le B, rfl⟩
  | m + 1, h => by
    obtain ⟨y, hy, e⟩ := grG_bd hB (m := m) (fun c hc => h c (by omega))
    rw [grG, e]
    by_cases q : (bt w m && bt (nd m) k) = true
    · rw [if_pos q]
      rw [Bool.and_eq_true] at q
      obtain ⟨z, hz, e2⟩ := h m (by omega) q.1 q.2
      rw [e2, mxI_nI (by omega) (by omega)]
      exact ⟨max y z, by omega, rfl⟩
    · rw [if_neg q]
      exact ⟨y, hy, rfl⟩
/-- it is the greatest, and one of them or 0 -/
theorem grG_is {nd rs : Nat → Int32} {w : Int32} {k : Nat} {xs : Nat → Nat} : ∀ {m : Nat}, (∀ c, c < m → bt w c = true → bt (nd c) k = true → xs c < 100000 ∧ rs c = nI (xs c)) → ∃ y, y < 100000 ∧ grG nd rs w k m = nI y ∧ (∀ c, c < m → bt w c = true → bt (nd c) k = true → xs c ≤ y) ∧ (y = 0 ∨ ∃ c, c < m ∧ bt w c = true ∧ bt (nd c) k = true ∧ y = xs c)
  | 0, _ => ⟨0, by omega, rfl, fun c hc => absurd hc (Nat.not_lt_zero c), Or.inl rfl⟩
  | m + 1, h => by
    obtain ⟨y, hy, e, g1, g2⟩ := grG_is (m := m) (xs := xs) (fun c hc => h c (by omega))
    rw [grG, e]
    by_cases q : (bt w m && bt (nd m) k) = true
    · rw [if_pos q]
      rw [Bool.and_eq_true] at q
      obtain ⟨hz, e2⟩ := h m (by omega) q.1 q.2
      rw [e2, mxI_nI (by omega) (by omega)]
      refine ⟨max y (xs m), by omega, rfl, fun c hc h1 h2 => ?_, ?_⟩
      · by_cases ec : c = m
        · subst ec; omega
        · have := g1 c (by omega) h1 h2; omega
      · by_cases hm : xs m ≤ y
        · rw [Nat.max_eq_left hm]
          rcases g2 with g2 | ⟨c, q1, q2, q3, q4⟩
          · exact Or.inl g2
          · exact Or.inr ⟨c, by omega, q2, q3, q4⟩
        · rw [Nat.max_eq_right (by omega)]
          exact Or.inr ⟨m, by omega, q.1, q.2, rfl⟩
    · rw [if_neg q]
      refine ⟨y, hy, rfl, fun c hc h1 h2 => ?_, ?_⟩
      · by_cases ec : c = m
        · subst ec; exact absurd (by rw [h1, h2]; rfl) q
        · exact g1 c (by omega) h1 h2
      · rcases g2 with g2 | ⟨c, q1, q2, q3, q4⟩
        · exact Or.inl g2
        · exact Or.inr ⟨c, by omega, q2, q3, q4⟩
def tmP (n : Nat) (tm : Nat → Int32) (tn : Nat → Nat) : Prop := ∀ a, a < n → tn a ≤ 1000 ∧ tm a = nI (tn a)
theorem reN_bd {n : Nat} {nd tm : Nat → Int32} {w : Int32} {rk tn : Nat → Nat} (hn : n ≤ 24) (h : rkP n nd rk) (ht : tmP n tm tn) : ∀ (m a : Nat), a < n → rk a < m → ∃ y, y ≤ 1000 * (rk a + 1) ∧ reN nd tm w n a = nI y
  | 0, _, _, h2 => absurd h2 (Nat.not_lt_zero _)
  | m + 1, a, ha, h2 => by
    have hra := h.1 a ha
    obtain ⟨y, hy, e⟩ := grG_bd (nd := nd) (rs := reN nd tm w n) (w := w) (k := a) (B := 1000 * rk a) (by omega) (m := n) (fun c hc _ hb => by
      have h3 := h.2 a c ha hc hb
      obtain ⟨y, hy, e⟩ := reN_bd hn h ht m c hc (by omega)
      exact ⟨y, by omega, e⟩)
    rw [reN_eq h ha, e, (ht a ha).2, nI_add]
    exact ⟨tn a + y, by have := (ht a ha).1; omega, rfl⟩
/-- the rests as numbers -/
def reX (nd tm : Nat → Int32) (w : Int32) (n a : Nat) : Nat := (reN nd tm w n a).toNatClampNeg
theorem reX_eq {n : Nat} {nd tm : Nat → Int32} {w : Int32} {rk tn : Nat → Nat} (hn : n ≤ 24) (h : rkP n nd rk) (ht : tmP n tm tn) {a : Nat} (ha : a < n) : reX nd tm w n a ≤ 24000 ∧ reN nd tm w n a = nI (reX nd tm w n a) := by
  obtain ⟨y, hy, e⟩ := reN_bd (w := w) hn h ht (rk a + 1) a ha (by omega)
  have := h.1 a ha
  unfold reX
  rw [e, nI_clamp (by omega)]
  exact ⟨by omega, rfl⟩
theorem reX_is {n : Nat} {nd tm : Nat → Int32} {w : Int32} {rk tn : Nat → Nat} (hn : n ≤ 24) (h : rkP n nd rk) (ht : tmP n tm tn) {a : Nat} (ha : a < n) : (∀ c, c < n → bt w c = true → bt (nd c) a = true → reX nd tm w n c + tn a ≤ reX nd tm w n a) ∧ (reX nd tm w n a = tn a ∨ ∃ c, c < n ∧ bt w c = true ∧ bt (nd c) a = true ∧ reX nd tm w n a = reX nd tm w n c + tn a) := by
  obtain ⟨y, hy, e, g1, g2⟩ := grG_is (nd := nd) (rs := reN nd tm w n) (w := w) (k := a) (xs := reX nd tm w n) (m := n) (fun c hc _ _ => by have := reX_eq (w := w) hn h ht hc; exact ⟨by omega, this.2⟩)
  have h1 := (reX_eq (w := w) hn h ht ha).2
  rw [reN_eq h ha, e, (ht a ha).2, nI_add] at h1
  have h2 := (reX_eq (w := w) hn h ht ha).1
  have h3 : tn a + y = reX nd tm w n a := (nI_eq (by have := (ht a ha).1; omega) (by omega)).mp h1
  refine ⟨fun c hc q1 q2 => by have := g1 c hc q1 q2; omega, ?_⟩
  rcases g2 with g2 | ⟨c, q1, q2, q3, q4⟩
  · exact Or.inl (by omega)
  · exact Or.inr ⟨c, q1, q2, q3, by omega⟩
def wcl (n : Nat) (nd : Nat → Int32) (w : Int32) : Prop := ∀ c, c < n → bt w c = true → ∀ a, a < n → bt (nd c) a = true → bt w a = true
/-- the goal of the relaxation -/
def goX (nd tm : Nat → Int32) (w : Int32) (n a : Nat) : Nat := if bt w a = true then reX nd tm w n a else 0
def rlx (n : Nat) (nd tm : Nat → Int32) (w : Int32) (tn : Nat → Nat) (rs : Nat → Int32) : Prop := ∀ c, c < n → ∃ y, rs c = nI y ∧ y ≤ goX nd tm w n c ∧ (bt w c = true → tn c ≤ y)
def suN (g : Nat → Nat) : Nat → Nat
  | 0 => 0
  | m + 1 => suN g m + g m
theorem suN_congr {g h : Nat → Nat} : ∀ {m : Nat}, (∀ c, c < m → g c = h c) → suN g m = suN h m
  | 0, _ => rfl
  | m + 1, q => by rw [suN, suN, suN_congr (fun c hc => q c (by omega)), q m (by omega)]
theorem suN_lt {g h : Nat → Nat} {a : Nat} : ∀ {m : Nat}, a < m → (∀ c, c < m → c ≠ a → g c = h c) → g a < h a → suN g m < suN h m
  | 0, ha, _, _ => absurd ha (Nat.not_lt_zero a)
  | m + 1, ha, q, hl => by
    rw [suN, suN]
    by_cases e : a = m
    · subst e
      rw [suN_congr (g := g) (h := h) (fun c hc => q c (by omega) (by omega))]
      omega
    · have := suN_lt (m := m) (by omega) (fun c hc => q c (by omega)) hl
      rw [q m (by omega) (fun z => e z.symm)]
      omega
def msr (nd tm : Nat → Int32) (w : Int32) (n : Nat) (rs : Nat → Int32) : Nat := suN (fun c => goX nd tm w n c - (rs c).toNatClampNeg) n
theorem rlx_step {n : Nat} {nd tm rs : Nat → Int32} {w : Int32} {rk tn : Nat → Nat} (hn : n ≤ 24) (h : rkP n nd rk) (ht : tmP n tm tn) (hw : wcl n nd w) (hr : rlx n nd tm w tn rs) {a c : Nat} (ha : a < n) (hc : c < n) (hwc : bt w c = true) (hb : bt (nd c) a = true) (hlt : ¬ rs c + tm a ≤ rs a) : rlx n nd tm w tn (upd rs a (rs c + tm a)) ∧ msr nd tm w n (upd rs a (rs c + tm a)) < msr nd tm w n rs := by
  obtain ⟨y, e1, l1, m1⟩ := hr a ha
  obtain ⟨z, e2, l2, m2⟩ := hr c hc
  have hwa := hw c hc hwc a ha hb
  have ht1 := ht a ha
  have g1 := (reX_is (w := w) hn h ht ha).1 c hc hwc hb
  have g2 := (reX_eq (w := w) hn h ht ha).1
  have l2' : z ≤ reX nd tm w n c := by unfold goX at l2; rw [if_pos hwc] at l2; exact l2
  have l1' : y ≤ reX nd tm w n a := by unfold goX at l1; rw [if_pos hwa] at l1; exact l1
  have ev : rs c + tm a = nI (z + tn a) := by rw [e2, ht1.2, nI_add]
  have hyz : y < z + tn a := by
    rw [ev, e1, nI_leI (by omega) (by omega)] at hlt
    omega
  constructor
  · intro d hd
    by_cases e : d = a
    · subst e
      rw [pk_us, ev]
      exact ⟨z + tn d, rfl, by unfold goX; rw [if_pos hwa]; omega, fun _ => by omega⟩
    · rw [pk_un e]
      exact hr d hd
  · unfold msr
    refine suN_lt ha (fun d hd e => by rw [pk_un e]) ?_
    rw [pk_us, ev, e1, nI_clamp (by omega), nI_clamp (by omega)]
    unfold goX
    rw [if_pos hwa]
    omega
theorem rlx_end {n : Nat} {nd tm rs : Nat → Int32} {w : Int32} {rk tn : Nat → Nat} (hn : n ≤ 24) (h : rkP n nd rk) (ht : tmP n tm tn) (hw : wcl n nd w) (hr : rlx n nd tm w tn rs) (hend : ∀ a, a < n → ∀ c, c < n → bt w c = true → bt (nd c) a = true → rs c + tm a ≤ rs a) : ∀ (m a : Nat), a < n → rk a < m → rs a = if bt w a = true then reN nd tm w n a else 0
  | 0, _, _, h2 => absurd h2 (Nat.not_lt_zero _)
  | m + 1, a, ha, h2 => by
    obtain ⟨y, e1, l1, m1⟩ := hr a ha
    unfold goX at l1
    by_cases q : bt w a = true
    · rw [if_pos q] at l1 ⊢
      have g2 := reX_eq (w := w) hn h ht ha
      rw [g2.2, e1]
      congr 1
      refine Nat.le_antisymm l1 ?_
      rcases (reX_is (w := w) hn h ht ha).2 with g | ⟨c, q1, q2, q3, q4⟩
      · have := m1 q; omega
      · have ih := rlx_end hn h ht hw hr hend m c q1 (by have := h.2 a c ha q1 q3; omega)
        rw [if_pos q2] at ih
        have g3 := hend a ha c q1 q2 q3
        have g4 := reX_eq (w := w) hn h ht q1
        rw [ih, g4.2, (ht a ha).2, nI_add, e1, nI_leI (by have := (ht a ha).1; omega) (by omega)] at g3
        omega
    · rw [if_neg q] at l1 ⊢
      rw [e1, show y = 0 by omega]
      rfl
end
section
/-! The reference: want, walked. -/
def mHw (f : Nat → Int32) (n kn : Nat) (t : Nat → Nat → Int32) (b : Nat) (wd rs : Nat → Int32) : ax_H := mH f n kn (va_up (va_up t 10 wd) 13 rs) b
theorem wn_in {C : ax_O} (f : Nat → Int32) (n kn : Nat) (t : Nat → Nat → Int32) (b : Nat) (hn : n ≤ 24) (w : Int32) (rk tn : Nat → Nat) (hrk : rkP n (t 7) rk) (ht : tmP n (t 0) tn) (hw : wcl n (t 7) w) (wd : Nat → Int32) (hwd : ∀ c, c < n → wd c = bI (bt w c)) (K : ax_K) (rs0 : Nat → Int32) (a : Nat) (ha : a < n)
    (nxt : ∀ (rs : Nat → Int32) (z : Bool), rlx n (t 7) (t 0) w tn rs → (z = false → rs = rs0 ∧ (∀ d, d < a → ∀ e, e < n → bt w e = true → bt (t 7 e) d = true → rs0 e + t 0 d ≤ rs0 d) ∧ (∀ e, e < n → bt w e = true → bt (t 7 e) a = true → rs0 e + t 0 a ≤ rs0 a)) → (z = true → msr (t 7) (t 0) w n rs < msr (t 7) (t 0) w n rs0) → ax_X ax_Ms ax_Xs no_M_want C K 149 [some (.ref 0), some (.int (bI z)), some (.int (nI a)), some (.int (nI n))] [] (mHw f n kn t b wd rs) 0 0) :
    ∀ (k c : Nat) (x : Int32) (rs : Nat → Int32) (z : Bool), x = nI c → rlx n (t 7) (t 0) w tn rs → (z = false → rs = rs0 ∧ (∀ d, d < a → ∀ e, e < n → bt w e = true → bt (t 7 e) d = true → rs0 e + t 0 d ≤ rs0 d) ∧ (∀ e, e < c → bt w e = true → bt (t 7 e) a = true → rs0 e + t 0 a ≤ rs0 a)) → (z = true → msr (t 7) (t 0) w n rs < msr (t 7) (t 0) w n rs0) → c + k = n → ax_X ax_Ms ax_Xs no_M_want C K 99 [some (.ref 0), some (.int (bI z)), some (.int (nI a)), some (.int x)] [] (mHw f n kn t b wd rs) 0 0 := by
  intro k
  induction k with
  | zero =>
    intro c x rs z hx hr h4 h5 hk
    subst hx
    have hk : c = n := hk
    subst hk
    refine ax_X.steps 4 (ax_brT (nI_le (by omega) (by omega)) ?_)
    exact ax_X.steps 0 (nxt rs z hr h4 h5)
  | succ k ih =>
    intro c x rs z hx hr h4 h5 hk
    subst hx
    have st : ¬ wd c = 0 → ¬ (t 7 c >>> (nI a &&& 31)) &&& 1 = 0 → ¬ rs c + t 0 a ≤ rs a → rlx n (t 7) (t 0) w tn (upd rs a (rs c + t 0 a)) ∧ msr (t 7) (t 0) w n (upd rs a (rs c + t 0 a)) < msr (t 7) (t 0) w n rs := by
      intro q1 q2 q3
      refine rlx_step hn hrk ht hw hr ha (show c < n by omega) ?_ ?_ q3
      · cases e : bt w c
        · rw [hwd c (by omega), e] at q1; exact absurd rfl q1
        · rfl
      · cases e : bt (t 7 c) a
        · exact absurd ((b_rt0 (by omega)).mpr e) q2
        · rfl
    refine ax_X.steps 4 (ax_brF (nI_ge (by omega) (by omega)) ?_)
    refine ax_X.steps 4 ⟨c, ⟨by omega, by omega⟩, rfl, ?_⟩
    refine ax_X.steps 1 (ax_br2 (fun c107 => ?_) (fun c107 => ?_))
    · exact ax_X.steps 2 (ih (c + 1) _ rs z (nI_1 c) hr (fun q => ⟨(h4 q).1, (h4 q).2.1, fun e he q1 q2 => by
          by_cases ee : e = c
          · rw [ee, bI_0.mp ((hwd c (by omega)).symm.trans (show wd c = 0 from c107))] at q1; cases q1
          · exact (h4 q).2.2 e (by omega) q1 q2⟩) h5 (by omega))
    · refine ax_X.steps 4 ⟨c, ⟨by omega, by omega⟩, rfl, ?_⟩
      refine ax_X.steps 5 (ax_br2 (fun c116 => ?_) (fun c116 => ?_))
      · exact ax_X.steps 2 (ih (c + 1) _ rs z (nI_1 c) hr (fun q => ⟨(h4 q).1, (h4 q).2.1, fun e he q1 q2 => by
          by_cases ee : e = c
          · rw [ee, (b_rt0 (by omega)).mp (show (t 7 c >>> (nI a &&& 31)) &&& 1 = 0 from c116)] at q2; cases q2
          · exact (h4 q).2.2 e (by omega) q1 q2⟩) h5 (by omega))
      · refine ax_X.steps 4 ⟨c, ⟨by omega, by omega⟩, rfl, ?_⟩
        refine ax_X.steps 4 ⟨a, ⟨by omega, by omega⟩, rfl, ?_⟩
        refine ax_X.steps 5 ⟨a, ⟨by omega, by omega⟩, rfl, ?_⟩
        refine ax_X.steps 1 (ax_br2 (fun c130 => ?_) (fun c130 => ?_))
        · refine ax_X.steps 7 ⟨c, ⟨by omega, by omega⟩, rfl, ?_⟩
          refine ax_X.steps 4 ⟨a, ⟨by omega, by omega⟩, rfl, ?_⟩
          refine ax_X.steps 2 ⟨a, ⟨by omega, by omega⟩, rfl, (?_ : ax_X ax_Ms ax_Xs no_M_want C K 145 [some (.ref 0), some (.int (bI z)), some (.int (nI a)), some (.int (nI c))] [] (mHw f n kn t b wd (upd rs a (rs c + t 0 a))) 0 0)⟩
          exact ax_X.steps 4 (ih (c + 1) _ (upd rs a (rs c + t 0 a)) true (nI_1 c) (st c107 c116 (i_nle.mpr c130)).1 (fun q => by cases q) (fun _ => by have := (st c107 c116 (i_nle.mpr c130)).2; cases z with | false => rw [(h4 rfl).1] at this ⊢; exact this | true => have := h5 rfl; omega) (by omega))
        · exact ax_X.steps 3 (ih (c + 1) _ rs z (nI_1 c) hr (fun q => ⟨(h4 q).1, (h4 q).2.1, fun e he q1 q2 => by
          by_cases ee : e = c
          · rw [ee, ← (h4 q).1]; exact i_nlt.mp (show ¬ rs a < rs c + t 0 a from c130)
          · exact (h4 q).2.2 e (by omega) q1 q2⟩) h5 (by omega))
theorem wn_mid {C : ax_O} (f : Nat → Int32) (n kn : Nat) (t : Nat → Nat → Int32) (b : Nat) (hn : n ≤ 24) (w : Int32) (rk tn : Nat → Nat) (hrk : rkP n (t 7) rk) (ht : tmP n (t 0) tn) (hw : wcl n (t 7) w) (wd : Nat → Int32) (hwd : ∀ c, c < n → wd c = bI (bt w c)) (K : ax_K) (rs0 : Nat → Int32)
    (nxt : ∀ (rs : Nat → Int32) (z : Bool) (q2 q3 : Option Value), rlx n (t 7) (t 0) w tn rs → (z = false → rs = rs0 ∧ (∀ d, d < n → ∀ e, e < n → bt w e = true → bt (t 7 e) d = true → rs0 e + t 0 d ≤ rs0 d)) → (z = true → msr (t 7) (t 0) w n rs < msr (t 7) (t 0) w n rs0) → ax_X ax_Ms ax_Xs no_M_want C K 151 [some (.ref 0), some (.int (bI z)), q2, q3] [] (mHw f n kn t b wd rs) 0 0) :
    ∀ (k a : Nat) (x : Int32) (rs : Nat → Int32) (z : Bool) (q3 : Option Value), x = nI a → rlx n (t 7) (t 0) w tn rs → (z = false → rs = rs0 ∧ (∀ d, d < a → ∀ e, e < n → bt w e = true → bt (t 7 e) d = true → rs0 e + t 0 d ≤ rs0 d)) → (z = true → msr (t 7) (t 0) w n rs < msr (t 7) (t 0) w n rs0) → a + k = n → ax_X ax_Ms ax_Xs no_M_want C K 93 [some (.ref 0), some (.int (bI z)), some (.int x), q3] [] (mHw f n kn t b wd rs) 0 0 := by
  intro k
  induction k with
  | zero =>
    intro a x rs z q3 hx hr h4 h5 hk
    subst hx
    have hk : a = n := hk
    subst hk
    refine ax_X.steps 4 (ax_brT (nI_le (by omega) (by omega)) ?_)
    exact ax_X.steps 0 (nxt rs z _ _ hr h4 h5)
  | succ k ih =>
    intro a x rs z q3 hx hr h4 h5 hk
    subst hx
    have hin := wn_in (C := C) f n kn t b hn w rk tn hrk ht hw wd hwd K rs0 a (by omega) (fun rs z hr h4 h5 => ax_X.steps 2 (ih (a + 1) _ rs z _ (nI_1 a) hr (fun q => ⟨(h4 q).1, fun d hd => by
      by_cases e : d = a
      · rw [e]; exact (h4 q).2.2
      · exact (h4 q).2.1 d (by omega)⟩) h5 (by omega)))
    refine ax_X.steps 4 (ax_brF (nI_ge (by omega) (by omega)) ?_)
    exact ax_X.steps 2 (hin n 0 0 rs z rfl hr (fun q => ⟨(h4 q).1, (h4 q).2, fun e he => absurd he (Nat.not_lt_zero e)⟩) h5 (by omega))
theorem wn_out {C : ax_O} (f : Nat → Int32) (n kn : Nat) (t : Nat → Nat → Int32) (b : Nat) (hn : n ≤ 24) (w : Int32) (rk tn : Nat → Nat) (hrk : rkP n (t 7) rk) (ht : tmP n (t 0) tn) (hw : wcl n (t 7) w) (wd : Nat → Int32) (hwd : ∀ c, c < n → wd c = bI (bt w c)) (K : ax_K) (hK : (∀ rs, (∀ c, c < n → rs c = if bt w c = true then reN (t 7) (t 0) w n c else 0) → K none (mHw f n kn t b wd rs))) : ∀ (m : Nat) (rs : Nat → Int32) (q2 q3 : Option Value), msr (t 7) (t 0) w n rs = m → rlx n (t 7) (t 0) w tn rs → ax_X ax_Ms ax_Xs no_M_want C K 87 [some (.ref 0), some (.int 1), q2, q3] [] (mHw f n kn t b wd rs) 0 0 := by
  intro m
  induction m using Nat.strongRecOn with
  | ind m ihm =>
    intro rs q2 q3 hm hr
    have hmid := wn_mid (C := C) f n kn t b hn w rk tn hrk ht hw wd hwd K rs (fun rs' z q2 q3 hr' h4 h5 => by
      cases z
      · obtain ⟨rfl, h6⟩ := h4 rfl
        exact ax_X.steps 1 (ax_X.steps 2 (ax_brT rfl (ax_X.steps 1 (hK rs' (fun c hc => rlx_end hn hrk ht hw hr' h6 (rk c + 1) c hc (by omega))))))
      · exact ax_X.steps 1 (ihm _ (by rw [← hm]; exact h5 rfl) rs' q2 q3 rfl hr'))
    refine ax_X.steps 2 (ax_brF bI_n0 ?_)
    exact ax_X.steps 4 (hmid n 0 0 rs false q3 rfl hr (fun _ => ⟨rfl, fun d hd => absurd hd (Nat.not_lt_zero d)⟩) (fun q => by cases q) (by omega))
end
section
/-! The reference: want, the whole; rest. -/
theorem wt_s {ws dp : Nat → Int32} {a : Nat} (h : ¬ ws a = 0) (i : Nat) (hi : i < 32) : bt (wtG ws dp (a + 1)) i = (bt (wtG ws dp a) i || bt (dp a ||| sB a) i) := by
  rw [wtG, if_neg h, b_or, b_or, b_or, Bool.or_comm (bt (sB a) i)]
theorem wt_0 {ws dp : Nat → Int32} {a : Nat} (h : ws a = 0) : wtG ws dp (a + 1) = wtG ws dp a := if_pos h
theorem wt_iff {ws dp : Nat → Int32} : ∀ {n i : Nat}, i < 32 → n ≤ 32 → (bt (wtG ws dp n) i = true ↔ ∃ a, a < n ∧ ¬ ws a = 0 ∧ (i = a ∨ bt (dp a) i = true))
  | 0, i, hi, _ => ⟨fun h => (by rw [wtG, b_0] at h; cases h), fun ⟨a, h, _⟩ => absurd h (Nat.not_lt_zero a)⟩
  | n + 1, i, hi, hn => by
    have ih := wt_iff (ws := ws) (dp := dp) (n := n) hi (by omega)
    by_cases h : ws n = 0
    · rw [wt_0 h, ih]
      constructor
      · rintro ⟨a, h1, h2⟩; exact ⟨a, by omega, h2⟩
      · rintro ⟨a, h1, h2, h3⟩
        by_cases e : a = n
        · subst e; exact absurd h h2
        · exact ⟨a, by omega, h2, h3⟩
    · rw [wt_s h i hi, Bool.or_eq_true, ih, b_add (by omega) hi, Bool.or_eq_true, decide_eq_true_iff]
      constructor
      · rintro (⟨a, h1, h2⟩ | h1)
        · exact ⟨a, by omega, h2⟩
        · exact ⟨n, by omega, h, h1.symm⟩
      · rintro ⟨a, h1, h2, h3⟩
        by_cases e : a = n
        · subst e; exact Or.inr h3.symm
        · exact Or.inl ⟨a, by omega, h2, h3⟩
/-- what is wanted is closed -/
theorem wt_cl {n : Nat} {nd ws dp : Nat → Int32} (hn : n ≤ 24) (hdp : ∀ a, a < n → allP n nd a (dp a)) : wcl n nd (wtG ws dp n) := by
  intro c hc hb a ha hb2
  obtain ⟨d, h1, h2, h3⟩ := (wt_iff (by omega) (by omega)).mp hb
  refine (wt_iff (by omega) (by omega)).mpr ⟨d, h1, h2, Or.inr ?_⟩
  rcases h3 with h3 | h3
  · subst h3
    exact (hdp c hc).1 a (by omega) hb2
  · exact (hdp d h1).2.1 c hc h3 a (by omega) hb2
theorem wn_rs {C : ax_O} (f : Nat → Int32) (n kn : Nat) (t : Nat → Nat → Int32) (b : Nat) (hn : n ≤ 24) (w : Int32) (rk tn : Nat → Nat) (hrk : rkP n (t 7) rk) (ht : tmP n (t 0) tn) (hw : wcl n (t 7) w) (wd : Nat → Int32) (hwd : ∀ c, c < n → wd c = bI (bt w c)) (K : ax_K) (hK : (∀ rs, (∀ c, c < n → rs c = if bt w c = true then reN (t 7) (t 0) w n c else 0) → K none (mHw f n kn t b wd rs))) (rs : Nat → Int32) (q1 q2 q3 : Option Value) : ax_X ax_Ms ax_Xs no_M_want C K 62 [some (.ref 0), q1, q2, q3] [] (mHw f n kn t b wd rs) 0 0 := by
  have loop : ∀ (k a : Nat) (x : Int32) (rs : Nat → Int32), x = nI a → (∀ c, c < a → rs c = if bt w c = true then t 0 c else 0) → a + k = n → ax_X ax_Ms ax_Xs no_M_want C (K) 64 [some (.ref 0), some (.int x), q2, q3] [] (mHw f n kn t b wd rs) 0 0 := by
    intro k
    induction k with
    | zero =>
      intro a x rs hx hr hk
      subst hx
      have hk : a = n := hk
      subst hk
      refine ax_X.steps 4 (ax_brT (nI_le (by omega) (by omega)) ?_)
      exact ax_X.steps 2 (wn_out f a kn t b hn w rk tn hrk ht hw wd hwd K hK _ rs _ _ rfl (fun c hc => by
        have g := reX_is (w := w) hn hrk ht hc
        have g2 := ht c hc
        by_cases q : bt w c = true
        · refine ⟨tn c, by rw [hr c hc, if_pos q]; exact g2.2, ?_, fun _ => Nat.le_refl _⟩
          unfold goX
          rw [if_pos q]
          rcases g.2 with g3 | ⟨d, _, _, _, g3⟩ <;> omega
        · exact ⟨0, by rw [hr c hc, if_neg q]; rfl, Nat.zero_le _, fun h => absurd h q⟩))
    | succ k ih =>
      intro a x rs hx hr hk
      subst hx
      refine ax_X.steps 4 (ax_brF (nI_ge (by omega) (by omega)) ?_)
      refine ax_X.steps 7 ⟨a, ⟨by omega, by omega⟩, rfl, ?_⟩
      refine ax_X.steps 1 (ax_br2 (fun c75 => ?_) (fun c75 => ?_))
      · refine ax_X.steps 2 ⟨a, ⟨by omega, by omega⟩, rfl, ?_⟩
        exact ax_X.steps 2 (ih (a + 1) _ (upd rs a 0) (nI_1 a) (fun c hc => by
          by_cases e : c = a
          · rw [e, pk_us, if_neg (by rw [bI_0.mp ((hwd a (by omega)).symm.trans (show wd a = 0 from c75))]; decide)]
          · rw [pk_un e]; exact hr c (by omega)) (by omega))
      · refine ax_X.steps 4 ⟨a, ⟨by omega, by omega⟩, rfl, ?_⟩
        refine ax_X.steps 2 ⟨a, ⟨by omega, by omega⟩, rfl, ?_⟩
        exact ax_X.steps 2 (ih (a + 1) _ (upd rs a (t 0 a)) (nI_1 a) (fun c hc => by
          by_cases e : c = a
          · rw [e, pk_us, if_pos (by cases q : bt w a with | false => exact absurd ((hwd a (by omega)).trans (by rw [q]; rfl)) c75 | true => rfl)]
          · rw [pk_un e]; exact hr c (by omega)) (by omega))
  exact ax_X.steps 2 (loop n 0 0 rs rfl (fun c hc => absurd hc (Nat.not_lt_zero c)) (by omega))
def Sp_M_want (C : ax_O) : Prop := ∀ (f : Nat → Int32) (n kn : Nat) (t : Nat → Nat → Int32) (b : Nat) (dp : Nat → Int32) (rk tn : Nat → Nat), n ≤ 24 → rkP n (t 7) rk → tmP n (t 0) tn → (∀ a, a < n → allP n (t 7) a (dp a)) → C no_M_want [.ref 0] (mH f n kn t b) (fun x h' => x = none ∧ ∃ wd rs : Nat → Int32, (∀ c, c < n → wd c = bI (bt (wtG (t 9) dp n) c)) ∧ (∀ c, c < n → rs c = if bt (wtG (t 9) dp n) c = true then reN (t 7) (t 0) (wtG (t 9) dp n) n c else 0) ∧ h' = mHw f n kn t b wd rs)
theorem wn_set {C : ax_O} (f : Nat → Int32) (n kn : Nat) (t : Nat → Nat → Int32) (b : Nat) (hn : n ≤ 24) (dp : Nat → Int32) (K : ax_K) (a : Nat) (ha : a < n) (hs : ¬ t 9 a = 0) (rs : Nat → Int32) (nxt : ∀ (wd : Nat → Int32) (q2 q3 : Option Value), (∀ c, c < n → wd c = bI (bt (wtG (t 9) dp (a + 1)) c)) → ax_X ax_Ms ax_Xs no_M_want C K 60 [some (.ref 0), some (.int (nI a)), q2, q3] [] (mHw f n kn t b wd rs) 0 0) (wd0 : Nat → Int32) (h0 : ∀ c, c < n → wd0 c = bI (bt (wtG (t 9) dp a) c)) (q3 : Option Value) : ax_X ax_Ms ax_Xs no_M_want C K 33 [some (.ref 0), some (.int (nI a)), some (.int (dp a ||| sB a)), q3] [] (mHw f n kn t b wd0 rs) 0 0 := by
  have inner : ∀ (k c : Nat) (x : Int32) (wd : Nat → Int32), x = nI c → (∀ d, d < c → wd d = bI (bt (wtG (t 9) dp (a + 1)) d)) → (∀ d, c ≤ d → d < n → wd d = bI (bt (wtG (t 9) dp a) d)) → c + k = n → ax_X ax_Ms ax_Xs no_M_want C K 35 [some (.ref 0), some (.int (nI a)), some (.int (dp a ||| sB a)), some (.int x)] [] (mHw f n kn t b wd rs) 0 0 := by
    intro k
    induction k with
    | zero =>
      intro c x wd hx h1 h2 hk
      subst hx
      have hk : c = n := hk
      subst hk
      refine ax_X.steps 4 (ax_brT (nI_le (by omega) (by omega)) ?_)
      exact ax_X.steps 0 (nxt wd _ _ h1)
    | succ k ih =>
      intro c x wd hx h1 h2 hk
      subst hx
      have hc := h2 c (Nat.le_refl c) (by omega)
      have key : ∀ v : Bool, v = bt (wtG (t 9) dp (a + 1)) c → ax_X ax_Ms ax_Xs no_M_want C K 58 [some (.ref 0), some (.int (nI a)), some (.int (dp a ||| sB a)), some (.int (nI c))] [] (mHw f n kn t b (upd wd c (bI v &&& 1)) rs) 0 0 := by
        intro v hv
        refine ax_X.steps 2 (ih (c + 1) _ (upd wd c (bI v &&& 1)) (nI_1 c) (fun d hd => ?_) (fun d hd hd2 => ?_) (by omega))
        · by_cases e : d = c
          · rw [e, pk_us, bI_and1, hv]
          · rw [pk_un e]; exact h1 d (by omega)
        · rw [pk_un (by omega)]; exact h2 d (by omega) hd2
      have hsp := wt_s (dp := dp) hs c (by omega)
      refine ax_X.steps 4 (ax_brF (nI_ge (by omega) (by omega)) ?_)
      refine ax_X.steps 7 ⟨c, ⟨by omega, by omega⟩, rfl, ?_⟩
      refine ax_X.steps 1 (ax_br2 (fun c46 => ?_) (fun c46 => ?_))
      · refine ax_X.steps 3 ⟨c, ⟨by omega, by omega⟩, rfl, ?_⟩
        exact ax_X.steps 0 (key true (by rw [hsp, show bt (wtG (t 9) dp a) c = true from (by cases q : bt (wtG (t 9) dp a) c with | false => exact absurd (hc.trans (by rw [q]; rfl)) c46 | true => rfl)]; rfl))
      · refine ax_X.steps 7 (ax_br2 (fun c53 => ?_) (fun c53 => ?_))
        · refine ax_X.steps 2 ⟨c, ⟨by omega, by omega⟩, rfl, ?_⟩
          exact ax_X.steps 0 (key false (by rw [hsp, bI_0.mp (hc.symm.trans (nn c46)), show bt (dp a ||| sB a) c = false from Bool.eq_false_iff.mpr (fun q => c53 ((b_rt1 (by omega)).mpr q))]; rfl))
        · refine ax_X.steps 3 ⟨c, ⟨by omega, by omega⟩, rfl, ?_⟩
          exact ax_X.steps 0 (key true (by rw [hsp, (b_rt1 (by omega)).mp (nn c53), Bool.or_true]))
  exact ax_X.steps 2 (inner n 0 0 wd0 rfl (fun d hd => absurd hd (Nat.not_lt_zero d)) (fun d _ hd => h0 d hd) (by omega))
theorem p_M_want {C : ax_O} (hA : Sp_M_all C) : Sp_M_want (ax_B ax_Ms ax_Xs C) := by
  intro f n kn t b dp rk tn hn hrk ht hdp
  generalize hK0 : (fun x h' => x = none ∧ ∃ wd rs : Nat → Int32, (∀ c, c < n → wd c = bI (bt (wtG (t 9) dp n) c)) ∧ (∀ c, c < n → rs c = if bt (wtG (t 9) dp n) c = true then reN (t 7) (t 0) (wtG (t 9) dp n) n c else 0) ∧ h' = mHw f n kn t b wd rs) = K
  have hK : ∀ wd : Nat → Int32, (∀ c, c < n → wd c = bI (bt (wtG (t 9) dp n) c)) → ∀ rs : Nat → Int32, (∀ c, c < n → rs c = if bt (wtG (t 9) dp n) c = true then reN (t 7) (t 0) (wtG (t 9) dp n) n c else 0) → K none (mHw f n kn t b wd rs) := by
    intro wd h1 rs h2
    rw [← hK0]
    exact ⟨rfl, wd, rs, h1, h2, rfl⟩
  have set : ∀ (k a : Nat) (x : Int32) (wd : Nat → Int32) (q2 q3 : Option Value), x = nI a → (∀ c, c < n → wd c = bI (bt (wtG (t 9) dp a) c)) → a + k = n → ax_X ax_Ms ax_Xs no_M_want C K 15 [some (.ref 0), some (.int x), q2, q3] [] (mHw f n kn t b wd (t 13)) 0 0 := by
    intro k
    induction k with
    | zero =>
      intro a x wd q2 q3 hx h1 hk
      subst hx
      have hk : a = n := hk
      subst hk
      refine ax_X.steps 4 (ax_brT (nI_le (by omega) (by omega)) ?_)
      exact ax_X.steps 0 (wn_rs f a kn t b hn (wtG (t 9) dp a) rk tn hrk ht (wt_cl hn hdp) wd h1 K (hK wd h1) (t 13) _ _ _)
    | succ k ih =>
      intro a x wd q2 q3 hx h1 hk
      subst hx
      refine ax_X.steps 4 (ax_brF (nI_ge (by omega) (by omega)) ?_)
      refine ax_X.steps 4 ⟨a, ⟨by omega, by omega⟩, rfl, ?_⟩
      refine ax_X.steps 1 (ax_br2 (fun c23 => ?_) (fun c23 => ?_))
      · refine ax_X.steps 3 (ax_goP (hA f n kn (va_up (va_up t 10 wd) 13 (t 13)) b a hn (by omega)) (fun z h' hz => ?_))
        obtain ⟨v2, hv2, hz1, rfl⟩ := hz
        cases hz1
        have ev := allP_one hv2 (hdp a (by omega))
        subst ev
        exact ax_X.steps 5 (wn_set f n kn t b hn dp K a (by omega) c23 (t 13) (fun wd q2 q3 h1 => ax_X.steps 2 (ih (a + 1) _ wd q2 q3 (nI_1 a) h1 (by omega))) wd h1 q3)
      · refine ax_X.steps 1 ?_
        exact ax_X.steps 2 (ih (a + 1) _ wd _ _ (nI_1 a) (fun c hc => by rw [wt_0 (show t 9 a = 0 from nn c23)]; exact h1 c hc) (by omega))
  have clear : ∀ (k a : Nat) (x : Int32) (wd : Nat → Int32), x = nI a → (∀ c, c < a → wd c = 0) → a + k = n → ax_X ax_Ms ax_Xs no_M_want C K 2 [some (.ref 0), some (.int x), none, none] [] (mHw f n kn t b wd (t 13)) 0 0 := by
    intro k
    induction k with
    | zero =>
      intro a x wd hx h1 hk
      subst hx
      have hk : a = n := hk
      subst hk
      refine ax_X.steps 4 (ax_brT (nI_le (by omega) (by omega)) ?_)
      exact ax_X.steps 2 (set a 0 0 wd _ _ rfl (fun c hc => by rw [h1 c hc, wtG, b_0]; rfl) (by omega))
    | succ k ih =>
      intro a x wd hx h1 hk
      subst hx
      refine ax_X.steps 4 (ax_brF (nI_ge (by omega) (by omega)) ?_)
      refine ax_X.steps 5 ⟨a, ⟨by omega, by omega⟩, rfl, ?_⟩
      exact ax_X.steps 2 (ih (a + 1) _ (upd wd a 0) (nI_1 a) (fun c hc => by
        by_cases e : c = a
        · rw [e, pk_us]
        · rw [pk_un e]; exact h1 c (by omega)) (by omega))
  exact ax_X.steps 2 (clear n 0 0 (t 10) rfl (fun c hc => absurd hc (Nat.not_lt_zero c)) (by omega))
def Sp_M_rest_n (C : ax_O) : Prop := ∀ (f : Nat → Int32) (n kn : Nat) (t : Nat → Nat → Int32) (b : Nat) (x : Int32), n ≤ 24 → hasB n x = false → C no_M_rest [.ref 0, .int x] (mH f n kn t b) (ax_is (some (.int 0)) (mH f n kn t b))
theorem p_M_rest_n {C : ax_O} (hH : Sp_M_isAction C) : Sp_M_rest_n (ax_B ax_Ms ax_Xs C) := by
  intro f n kn t b x hn hx
  refine ax_X.steps 3 ⟨Or.inl rfl, ?_⟩
  refine ax_X.steps 3 (ax_go (hH _ _ _ _ _ _ false hn hx) ?_)
  refine ax_X.steps 1 (ax_brF (fun q => q rfl) ?_)
  exact ax_X.steps 2 ⟨Or.inl rfl, rfl, rfl⟩
def Sp_M_rest_1 (C : ax_O) : Prop := ∀ (f : Nat → Int32) (n kn : Nat) (t : Nat → Nat → Int32) (b : Nat) (dp : Nat → Int32) (rk tn : Nat → Nat) (k : Nat), n ≤ 24 → rkP n (t 7) rk → tmP n (t 0) tn → (∀ a, a < n → allP n (t 7) a (dp a)) → k < n → C no_M_rest [.ref 0, .int (nI k)] (mH f n kn t b) (fun x h' => x = some (.int (if bt (wtG (t 9) dp n) k = true then reN (t 7) (t 0) (wtG (t 9) dp n) n k else 0)) ∧ ∃ wd rs : Nat → Int32, h' = mHw f n kn t b wd rs)
theorem p_M_rest_1 {C : ax_O} (hH : Sp_M_isAction C) (hW : Sp_M_want C) : Sp_M_rest_1 (ax_B ax_Ms ax_Xs C) := by
  intro f n kn t b dp rk tn k hn hrk ht hdp hk
  refine ax_X.steps 3 ⟨Or.inl rfl, ?_⟩
  refine ax_X.steps 3 (ax_go (hH _ _ _ _ _ _ true hn (hasB_k hn hk)) ?_)
  refine ax_X.steps 1 (ax_brT (bI_n0) ?_)
  refine ax_X.steps 2 (ax_goPv (hW f n kn t b dp rk tn hn hrk ht hdp) (fun h' hz => ?_))
  obtain ⟨-, wd, rs, h1, h2, rfl⟩ := hz
  refine ax_X.steps 4 ⟨k, ⟨by omega, by omega⟩, rfl, ?_⟩
  exact ax_X.steps 1 ⟨Or.inl rfl, by rw [← h2 k hk]; rfl, wd, rs, rfl⟩
end
section
/-! The reference: fresh, and the whole run. -/
theorem fresh_one {C : ax_O} (f : Nat → Int32) (n kn : Nat) (t : Nat → Nat → Int32) (b : Nat) (ag : Nat → Int32) (r : Nat → Nat → Int32) (v : Int32) (a : Nat) (z2 : Option Value) (ha : a < 24) (K : ax_K) (hK : ax_X ax_Ms ax_Xs no_M_fresh C K 96 [some (.ref 0), some (.int (nI a)), z2] [] (mH f n kn (mT (va_up t 21 (upd ag a 0)) (fillR r a v)) b) 0 0) : ax_X ax_Ms ax_Xs no_M_fresh C K 61 [some (.ref 0), some (.int (nI a)), z2] [] (mH f n kn (mT (va_up t 21 ag) (ts r 0 a v)) b) 0 0 := by
  refine ax_X.steps 5 ⟨a, ⟨by omega, by omega⟩, rfl, (?_ : ax_X ax_Ms ax_Xs no_M_fresh C K 66 [some (.ref 0), some (.int (nI a)), z2] [] (mH f n kn (mT (va_up t 21 (ag)) (ts (ts r 0 a v) 5 a (-1))) b) 0 0)⟩
  refine ax_X.steps 5 ⟨a, ⟨by omega, by omega⟩, rfl, (?_ : ax_X ax_Ms ax_Xs no_M_fresh C K 71 [some (.ref 0), some (.int (nI a)), z2] [] (mH f n kn (mT (va_up t 21 (ag)) (ts (ts (ts r 0 a v) 5 a (-1)) 6 a (-1))) b) 0 0)⟩
  refine ax_X.steps 5 ⟨a, ⟨by omega, by omega⟩, rfl, (?_ : ax_X ax_Ms ax_Xs no_M_fresh C K 76 [some (.ref 0), some (.int (nI a)), z2] [] (mH f n kn (mT (va_up t 21 (ag)) (ts (ts (ts (ts r 0 a v) 5 a (-1)) 6 a (-1)) 1 a (-1))) b) 0 0)⟩
  refine ax_X.steps 5 ⟨a, ⟨by omega, by omega⟩, rfl, (?_ : ax_X ax_Ms ax_Xs no_M_fresh C K 81 [some (.ref 0), some (.int (nI a)), z2] [] (mH f n kn (mT (va_up t 21 (ag)) (ts (ts (ts (ts (ts r 0 a v) 5 a (-1)) 6 a (-1)) 1 a (-1)) 2 a (-1))) b) 0 0)⟩
  refine ax_X.steps 5 ⟨a, ⟨by omega, by omega⟩, rfl, (?_ : ax_X ax_Ms ax_Xs no_M_fresh C K 86 [some (.ref 0), some (.int (nI a)), z2] [] (mH f n kn (mT (va_up t 21 (ag)) (ts (ts (ts (ts (ts (ts r 0 a v) 5 a (-1)) 6 a (-1)) 1 a (-1)) 2 a (-1)) 3 a 0)) b) 0 0)⟩
  refine ax_X.steps 5 ⟨a, ⟨by omega, by omega⟩, rfl, (?_ : ax_X ax_Ms ax_Xs no_M_fresh C K 91 [some (.ref 0), some (.int (nI a)), z2] [] (mH f n kn (mT (va_up t 21 (ag)) (ts (ts (ts (ts (ts (ts (ts r 0 a v) 5 a (-1)) 6 a (-1)) 1 a (-1)) 2 a (-1)) 3 a 0) 4 a (-1))) b) 0 0)⟩
  refine ax_X.steps 5 ⟨a, ⟨by omega, by omega⟩, rfl, (?_ : ax_X ax_Ms ax_Xs no_M_fresh C K 96 [some (.ref 0), some (.int (nI a)), z2] [] (mH f n kn (mT (va_up t 21 (upd ag a 0)) (ts (ts (ts (ts (ts (ts (ts r 0 a v) 5 a (-1)) 6 a (-1)) 1 a (-1)) 2 a (-1)) 3 a 0) 4 a (-1))) b) 0 0)⟩
  exact ax_X.steps 0 (hK)
theorem fresh_loop {C : ax_O} (f : Nat → Int32) (n kn : Nat) (t : Nat → Nat → Int32) (b : Nat) (hn : n ≤ 24) (w : Int32) (wd : Nat → Int32) (ew : t 10 = wd) (hwd : ∀ c, c < n → wd c = bI (bt w c)) (hwn : ∀ c, n ≤ c → c < 24 → bt w c = false) (ag : Nat → Int32) (r : Nat → Nat → Int32) (K : ax_K) (hK : K none (mH f n kn (mT (va_up t 21 (itN (fun a g => upd g a 0) 24 ag)) (itN (fun a r => fillR r a (inV f t w a)) 24 r)) b)) : ax_X ax_Ms ax_Xs no_M_fresh C K 18 [some (.ref 0), none, none] [] (mH f n kn (mT (va_up t 21 ag) r) b) 0 0 := by
  have loop : ∀ (k a : Nat) (x : Int32) (g1 : Nat → Int32) (g : Nat → Nat → Int32) (q : Option Value), x = nI a → g1 = itN (fun a g => upd g a 0) a ag → g = itN (fun a r => fillR r a (inV f t w a)) a r → a + k = 24 → ax_X ax_Ms ax_Xs no_M_fresh C (K) 20 [some (.ref 0), some (.int x), q] [] (mH f n kn (mT (va_up t 21 g1) g) b) 0 0 := by
    intro k
    induction k with
    | zero =>
      intro a x g1 g q hx hg1 hg hk
      subst hx
      have hk : a = 24 := hk
      subst hk
      subst hg1
      subst hg
      refine ax_X.steps 3 (ax_brT ((nI_le (a := 24) (b := 24) (by omega) (by omega))) ?_)
      exact ax_X.steps 1 (hK)
    | succ k ih =>
      intro a x g1 g q hx hg1 hg hk
      subst hx
      have hs1 : upd g1 a 0 = itN (fun a g => upd g a 0) (a + 1) ag := by rw [hg1]; rfl
      have hs : fillR g a (inV f t w a) = itN (fun a r => fillR r a (inV f t w a)) (a + 1) r := by rw [hg]; rfl
      have nxt : ∀ (v : Int32) (z : Option Value), v = inV f t w a → ax_X ax_Ms ax_Xs no_M_fresh C K 61 [some (.ref 0), some (.int (nI a)), z] [] (mH f n kn (mT (va_up t 21 g1) (ts g 0 a v)) b) 0 0 := by
        intro v z hv
        subst hv
        exact fresh_one f n kn t b g1 g _ a z (by omega) K (ax_X.steps 2 (ih (a + 1) _ _ _ _ (nI_1 a) hs1 hs (by omega)))
      have ha24 : a < 24 := by omega
      have fit : ∀ z : Bool, z = !tsB f (t 1 a) (t 2 a) → ax_X ax_Ms ax_Xs no_M_fresh C K 41 [some (.ref 0), some (.int (nI a)), some (.int (bI z))] [] (mH f n kn (mT (va_up t 21 g1) g) b) 0 0 := by
        intro z hz
        by_cases hna : n ≤ a
        · have e0 : (0 : Int32) = inV f t w a := by unfold inV; rw [hwn a hna (by omega), if_neg (by decide)]
          refine ax_X.steps 7 (ax_brT (nI_le (by omega) (by omega)) ?_)
          refine ax_X.steps 3 ⟨a, ⟨by omega, by omega⟩, rfl, ?_⟩
          exact ax_X.steps 0 (nxt 0 _ e0)
        have hwa : t 10 a = bI (bt w a) := by rw [ew]; exact hwd a (by omega)
        cases hb : bt w a
        · have e0 : (0 : Int32) = inV f t w a := by unfold inV; rw [hb, if_neg (by decide)]
          rw [hb] at hwa
          refine ax_X.steps 7 (ax_brF (nI_ge (by omega) (by omega)) ?_)
          refine ax_X.steps 4 ⟨a, ⟨by omega, by omega⟩, rfl, ?_⟩
          refine ax_X.steps 1 (ax_brF (fun q => q hwa) ?_)
          refine ax_X.steps 3 ⟨a, ⟨by omega, by omega⟩, rfl, ?_⟩
          exact ax_X.steps 0 (nxt 0 _ e0)
        · rw [hb] at hwa
          cases z
          · have e0 : (5 : Int32) = inV f t w a := by unfold inV; rw [hb, if_pos rfl, if_pos (by cases q : tsB f (t 1 a) (t 2 a) with | false => rw [q] at hz; cases hz | true => rfl)]
            refine ax_X.steps 7 (ax_brF (nI_ge (by omega) (by omega)) ?_)
            refine ax_X.steps 4 ⟨a, ⟨by omega, by omega⟩, rfl, ?_⟩
            refine ax_X.steps 1 (ax_brT (fun q => bI_n0 (hwa.symm.trans q)) ?_)
            refine ax_X.steps 2 (ax_brT (rfl) ?_)
            refine ax_X.steps 2 ⟨a, ⟨by omega, by omega⟩, rfl, ?_⟩
            exact ax_X.steps 0 (nxt 5 _ e0)
          · have e0 : (6 : Int32) = inV f t w a := by unfold inV; rw [hb, if_pos rfl, if_neg (by cases q : tsB f (t 1 a) (t 2 a) with | true => rw [q] at hz; cases hz | false => decide)]
            refine ax_X.steps 7 (ax_brF (nI_ge (by omega) (by omega)) ?_)
            refine ax_X.steps 4 ⟨a, ⟨by omega, by omega⟩, rfl, ?_⟩
            refine ax_X.steps 1 (ax_brT (fun q => bI_n0 (hwa.symm.trans q)) ?_)
            refine ax_X.steps 2 (ax_brF (bI_n0) ?_)
            refine ax_X.steps 3 ⟨a, ⟨by omega, by omega⟩, rfl, ?_⟩
            exact ax_X.steps 0 (nxt 6 _ e0)
      refine ax_X.steps 3 (ax_brF ((nI_ge (a := a) (b := 24) (by omega) (by omega))) ?_)
      refine ax_X.steps 4 ⟨a, ⟨by omega, by omega⟩, rfl, ?_⟩
      refine ax_X.steps 3 (ax_br2 (fun c29 => ?_) (fun c29 => ?_))
      · exact ax_X.steps 2 (fit false (by unfold tsB; rw [decide_eq_true (show f 0 < t 1 a from c29)]; rfl))
      · refine ax_X.steps 4 ⟨a, ⟨by omega, by omega⟩, rfl, ?_⟩
        refine ax_X.steps 3 (ax_br2 (fun c36 => ?_) (fun c36 => ?_))
        · exact ax_X.steps 2 (fit false (by unfold tsB; rw [decide_eq_true (show f 1 < t 2 a from c36), Bool.or_true]; rfl))
        · exact ax_X.steps 3 (fit true (by unfold tsB; rw [decide_eq_false (show ¬ f 0 < t 1 a from c29), decide_eq_false (show ¬ f 1 < t 2 a from c36)]; rfl))
  exact ax_X.steps 2 (loop 24 0 0 ag r none rfl rfl rfl rfl)
def frF (f : Nat → Int32) : Nat → Int32 := va_up (va_up (va_up f 3 0) 4 0) 5 0
def Sp_M_fresh (C : ax_O) : Prop := ∀ (f : Nat → Int32) (n kn : Nat) (t : Nat → Nat → Int32) (b : Nat) (r : Nat → Nat → Int32) (dp : Nat → Int32) (rk tn : Nat → Nat), n ≤ 24 → rkP n (t 7) rk → tmP n (t 0) tn → (∀ a, a < n → allP n (t 7) a (dp a)) → (∀ c, n ≤ c → c < 24 → bt (wtG (t 9) dp n) c = false) → C no_M_fresh [.ref 0] (mH f n kn (mT t r) b) (fun x h' => x = none ∧ ∃ wd rs : Nat → Int32, (∀ c, c < n → wd c = bI (bt (wtG (t 9) dp n) c)) ∧ (∀ c, c < n → rs c = if bt (wtG (t 9) dp n) c = true then reN (t 7) (t 0) (wtG (t 9) dp n) n c else 0) ∧ h' = mH (frF f) n n (mT (va_up (va_up (va_up t 10 wd) 13 rs) 21 (itN (fun a g => upd g a 0) 24 (t 21))) (itN (fun a r => fillR r a (inV f t (wtG (t 9) dp n) a)) 24 r)) 0)
theorem p_M_fresh {C : ax_O} (hW : Sp_M_want C) : Sp_M_fresh (ax_B ax_Ms ax_Xs C) := by
  intro f n kn t b r dp rk tn hn hrk ht hdp hwn
  refine ax_X.steps 2 (ax_goPv (hW f n kn (mT t r) b dp rk tn hn hrk ht hdp) (fun h' hz => ?_))
  obtain ⟨-, wd, rs, h1, h2, rfl⟩ := hz
  have hfl := fresh_loop (C := C) (frF f) n n (va_up (va_up t 10 wd) 13 rs) 0 hn (wtG (t 9) dp n) wd rfl h1 hwn (t 21) r
  refine ax_X.steps 4 ⟨Or.inl rfl, (?_ : ax_X ax_Ms ax_Xs no_M_fresh C _ 6 [some (.ref 0), none, none] [] (mH (f) n n (mT (va_up (va_up t 10 wd) 13 rs) r) b) 0 0)⟩
  refine ax_X.steps 3 ⟨Or.inl rfl, (?_ : ax_X ax_Ms ax_Xs no_M_fresh C _ 9 [some (.ref 0), none, none] [] (mH (f) n n (mT (va_up (va_up t 10 wd) 13 rs) r) 0) 0 0)⟩
  refine ax_X.steps 3 ⟨Or.inl rfl, (?_ : ax_X ax_Ms ax_Xs no_M_fresh C _ 12 [some (.ref 0), none, none] [] (mH (va_up f 3 0) n n (mT (va_up (va_up t 10 wd) 13 rs) r) 0) 0 0)⟩
  refine ax_X.steps 3 ⟨Or.inl rfl, (?_ : ax_X ax_Ms ax_Xs no_M_fresh C _ 15 [some (.ref 0), none, none] [] (mH (va_up (va_up f 3 0) 4 0) n n (mT (va_up (va_up t 10 wd) 13 rs) r) 0) 0 0)⟩
  refine ax_X.steps 3 ⟨Or.inl rfl, (?_ : ax_X ax_Ms ax_Xs no_M_fresh C _ 18 [some (.ref 0), none, none] [] (mH (frF f) n n (mT (va_up (va_up t 10 wd) 13 rs) r) 0) 0 0)⟩
  exact ax_X.steps 0 (hfl _ ⟨rfl, wd, rs, h1, h2, rfl⟩)
end
section
/-! The reference: the whole run. -/
abbrev MS : Type := (Nat → Int32) × (Nat → Int32) × GS
def mHs (n kn : Nat) (t : Nat → Nat → Int32) (sn : Nat → Int32) (s : MS) : ax_H := mHb s.1 n kn (va_up t 21 s.2.1) sn s.2.2
noncomputable def mMd (n : Nat) (t : Nat → Nat → Int32) (ck : Int32) (s : MS) : MS := ((itN (mES n t ck) n (s.1, s.2.1, s.2.2.2.1)).1, (itN (mES n t ck) n (s.1, s.2.1, s.2.2.2.1)).2.1, s.2.2.1, mdR n (t 7) (t 11 1) (itN (mES n t ck) n (s.1, s.2.1, s.2.2.2.1)).2.2, s.2.2.2.2)
def mPd (n : Nat) (t : Nat → Nat → Int32) (s : MS) : Nat → Bool := rdM t s.2.2.2.1 n (tzM t s.2.2.2.1 n)
noncomputable def mSt (n : Nat) (t : Nat → Nat → Int32) (ck : Int32) (s : MS) : MS := (msF (mMd n t ck s).1 n t (mBL (mMd n t ck s).1 n t ck n (mPd n t (mMd n t ck s)) (mMd n t ck s).2.2).2.1, (mMd n t ck s).2.1, mBL (mMd n t ck s).1 n t ck n (mPd n t (mMd n t ck s)) (mMd n t ck s).2.2)
def mNe (n : Nat) (t : Nat → Nat → Int32) (s : MS) : Int32 := mnE (mT t s.2.2.2.1) n
noncomputable def mRn (n : Nat) (t : Nat → Nat → Int32) : Nat → Int32 → MS → MS
  | 0, _, s => s
  | k + 1, ck, s => if mNe n t (mSt n t ck s) < 0 then mSt n t ck s else mRn n t k (mNe n t (mSt n t ck s)) (mSt n t ck s)
def mOk (n : Nat) (t : Nat → Nat → Int32) : Nat → Int32 → MS → Prop
  | 0, _, _ => False
  | k + 1, ck, s => (∀ a, a < n → s.2.2.2.1 0 a = 7 → ∃ c, c < 100 ∧ s.2.1 a = nI c ∧ s.2.2.2.1 3 a = nI (c + 1)) ∧ (mMd n t ck s).2.2.2.2 + cntB (mPd n t (mMd n t ck s)) n ≤ 96 ∧ (¬ mNe n t (mSt n t ck s) < 0 → mOk n t k (mNe n t (mSt n t ck s)) (mSt n t ck s))
theorem mnE_mT {t t' r : Nat → Nat → Int32} : ∀ n, mnE (mT t r) n = mnE (mT t' r) n
  | 0 => rfl
  | n + 1 => by rw [mnE, mnE, mnE_mT (t := t) (t' := t') n]; rfl
theorem mES_t {n : Nat} {t : Nat → Nat → Int32} {ck : Int32} {bg ag sn : Nat → Int32} : mES n (va_up (va_up (va_up t 21 ag) 22 sn) 23 bg) ck = mES n t ck := rfl
theorem mbK_t {f : Nat → Int32} {n kn : Nat} {t : Nat → Nat → Int32} {ag : Nat → Int32} {ck : Int32} {s : GS} {z : Bool} : ∀ (k : Nat) (p : Nat → Bool) (s : GS), mBL f n (va_up t 21 ag) ck k p s = mBL f n t ck k p s
  | 0, p, s => rfl
  | k + 1, p, s => by
    rw [mBL, mBL]
    show (match fmN p (t 13) n with
      | none => s
      | some a => if mfB f n (mT (va_up t 21 ag) s.2.1) a = true then mBL f n (va_up t 21 ag) ck k (delB p a) (mBg f n (va_up t 21 ag) ck a s) else if t 11 2 = 0 then s else mBL f n (va_up t 21 ag) ck k (delB p a) s) = _
    cases fmN p (t 13) n with
    | none => rfl
    | some a =>
      dsimp only
      rw [mbK_t (kn := kn) (s := s) (z := z) k, mbK_t (kn := kn) (s := s) (z := z) k]
      rfl
def mRk (n kn : Nat) (t : Nat → Nat → Int32) (s : MS) : ax_K := fun x h' => x = some (.int (s.1 5)) ∧ ∃ sn : Nat → Int32, h' = mHs n kn t sn (s.1, s.2.1, s.2.2.1, va_up s.2.2.2.1 0 (stF n (s.2.2.2.1 0)), s.2.2.2.2)
theorem mrun_loop {C : ax_O} (h2 : Sp_M_endAll C) (h3 : Sp_M_skipAll C) (h4 : Sp_M_isSpoilt C) (h5 : Sp_M_stopAll C) (h6 : Sp_M_beginAll C) (h7 : Sp_M_nextEnd C) (n kn : Nat) (t : Nat → Nat → Int32) (hn : n ≤ 24) (hq : ∀ a, a < n → ∃ q, q < 4 ∧ t 6 a = nI q) (e : MS) (K : ax_K) (hKK : ∀ x h', mRk n kn t e x h' → K x h') : ∀ (k : Nat) (ck : Int32) (sn : Nat → Int32) (s : MS), ¬ ck < 0 → mOk n t k ck s → mRn n t k ck s = e → ax_X ax_Ms ax_Xs no_M_run C K 10 [some (.ref 0), some (.int ck)] [] (mHs n kn t sn s) 0 0 := by
  have fin : ∀ (ck : Int32) (sn : Nat → Int32), ax_X ax_Ms ax_Xs no_M_run C K 34 [some (.ref 0), some (.int ck)] [] (mHs n kn t sn e) 0 0 := by
    intro ck sn
    refine ax_X.steps 2 (ax_gov ((show C no_M_stopAll [.ref 0] (mHs n kn t sn e) (ax_is none (mHs n kn t sn (e.1, e.2.1, e.2.2.1, va_up e.2.2.2.1 0 (stF n (e.2.2.2.1 0)), e.2.2.2.2))) from h5 e.1 n kn (mT (va_up (va_up (va_up t 21 e.2.1) 22 sn) 23 e.2.2.1) e.2.2.2.1) e.2.2.2.2 hn)) ?_)
    exact ax_X.steps 3 ⟨Or.inl rfl, hKK _ _ ⟨rfl, sn, rfl⟩⟩
  intro k
  induction k with
  | zero => intro ck sn s hc hok; exact False.elim hok
  | succ k ih =>
    intro ck sn s hc hok he
    obtain ⟨ha, hb, hnx⟩ := hok
    rw [mRn] at he
    have begin : ∀ sn, ax_X ax_Ms ax_Xs no_M_run C K 27 [some (.ref 0), some (.int ck)] [] (mHs n kn t sn (mMd n t ck s)) 0 0 := by
      intro sn
      have hbA := h6 (mMd n t ck s).1 n kn (va_up t 21 (mMd n t ck s).2.1) sn (mMd n t ck s).2.2 ck hn hb
      refine ax_X.steps 3 (ax_goPv hbA (fun h' hz => ?_))
      obtain ⟨-, sn2, hh⟩ := hz
      rw [mbK_t (kn := kn) (s := (mMd n t ck s).2.2) (z := true)] at hh
      have hh : h' = mHs n kn t sn2 (mSt n t ck s) := hh
      subst hh
      have hne := h7 (mSt n t ck s).1 n kn (mT (va_up (va_up (va_up t 21 (mSt n t ck s).2.1) 22 sn2) 23 (mSt n t ck s).2.2.1) (mSt n t ck s).2.2.2.1) (mSt n t ck s).2.2.2.2 hn
      rw [mnE_mT (t := va_up (va_up (va_up t 21 (mSt n t ck s).2.1) 22 sn2) 23 (mSt n t ck s).2.2.1) (t' := t)] at hne
      have hne : C no_M_nextEnd [.ref 0] (mHs n kn t sn2 (mSt n t ck s)) (ax_is (some (.int (mNe n t (mSt n t ck s)))) (mHs n kn t sn2 (mSt n t ck s))) := hne
      refine ax_X.steps 2 (ax_go hne ?_)
      by_cases hlt : mNe n t (mSt n t ck s) < 0
      · rw [if_pos hlt] at he
        rw [he] at hlt ⊢
        exact ax_X.steps 2 (ax_X.steps 2 (ax_brT hlt (fin _ sn2)))
      · rw [if_neg hlt] at he
        exact ax_X.steps 2 (ih _ sn2 _ hlt (hnx hlt) he)
    refine ax_X.steps 2 (ax_brF (hc) ?_)
    refine ax_X.steps 3 (ax_gov ((show C no_M_endAll [.ref 0, .int ck] (mHs n kn t sn s) (ax_is none (mHs n kn t sn ((itN (mES n t ck) n (s.1, s.2.1, s.2.2.2.1)).1, (itN (mES n t ck) n (s.1, s.2.1, s.2.2.2.1)).2.1, s.2.2.1, (itN (mES n t ck) n (s.1, s.2.1, s.2.2.2.1)).2.2, s.2.2.2.2))) from by have := h2 s.1 n kn (va_up (va_up (va_up t 21 s.2.1) 22 sn) 23 s.2.2.1) s.2.2.2.2 s.2.1 s.2.2.2.1 ck hn hq ha; exact this)) ?_)
    refine ax_X.steps 2 (ax_goPv (h3 (itN (mES n t ck) n (s.1, s.2.1, s.2.2.2.1)).1 n kn (mT (va_up (va_up (va_up t 21 (itN (mES n t ck) n (s.1, s.2.1, s.2.2.2.1)).2.1) 22 sn) 23 s.2.2.1) (itN (mES n t ck) n (s.1, s.2.1, s.2.2.2.1)).2.2) s.2.2.2.2 hn) (fun h' hz => ?_))
    obtain ⟨-, g, hg, rfl⟩ := hz
    have hg := skF_eq hg
    subst hg
    refine ax_X.steps 4 ⟨1, ⟨by omega, by omega⟩, rfl, ?_⟩
    refine ax_X.steps 1 (ax_br2 (fun c21 => ?_) (fun c21 => ?_))
    · exact ax_X.steps 0 (by have hx := begin sn; rw [show mMd n t ck s = _ from congrArg (fun z => ((itN (mES n t ck) n (s.1, s.2.1, s.2.2.2.1)).1, (itN (mES n t ck) n (s.1, s.2.1, s.2.2.2.1)).2.1, s.2.2.1, z, s.2.2.2.2)) (show mdR n (t 7) (t 11 1) (itN (mES n t ck) n (s.1, s.2.1, s.2.2.2.1)).2.2 = va_up (itN (mES n t ck) n (s.1, s.2.1, s.2.2.2.1)).2.2 0 (skF n (t 7) ((itN (mES n t ck) n (s.1, s.2.1, s.2.2.2.1)).2.2 0)) from by unfold mdR; rw [decide_eq_true (show t 11 1 = 0 from c21), Bool.not_true, Bool.false_and, if_neg (by decide)])] at hx; exact hx)
    · refine ax_X.steps 2 (ax_go ((show C no_M_isSpoilt [.ref 0] (mHs n kn t sn ((itN (mES n t ck) n (s.1, s.2.1, s.2.2.2.1)).1, (itN (mES n t ck) n (s.1, s.2.1, s.2.2.2.1)).2.1, s.2.2.1, va_up (itN (mES n t ck) n (s.1, s.2.1, s.2.2.2.1)).2.2 0 (skF n (t 7) ((itN (mES n t ck) n (s.1, s.2.1, s.2.2.2.1)).2.2 0)), s.2.2.2.2)) (ax_is (some (.int (bI (anyB (badB (skF n (t 7) ((itN (mES n t ck) n (s.1, s.2.1, s.2.2.2.1)).2.2 0))) n)))) (mHs n kn t sn ((itN (mES n t ck) n (s.1, s.2.1, s.2.2.2.1)).1, (itN (mES n t ck) n (s.1, s.2.1, s.2.2.2.1)).2.1, s.2.2.1, va_up (itN (mES n t ck) n (s.1, s.2.1, s.2.2.2.1)).2.2 0 (skF n (t 7) ((itN (mES n t ck) n (s.1, s.2.1, s.2.2.2.1)).2.2 0)), s.2.2.2.2))) from h4 (itN (mES n t ck) n (s.1, s.2.1, s.2.2.2.1)).1 n kn (mT (va_up (va_up (va_up t 21 (itN (mES n t ck) n (s.1, s.2.1, s.2.2.2.1)).2.1) 22 sn) 23 s.2.2.1) (va_up (itN (mES n t ck) n (s.1, s.2.1, s.2.2.2.1)).2.2 0 (skF n (t 7) ((itN (mES n t ck) n (s.1, s.2.1, s.2.2.2.1)).2.2 0)))) s.2.2.2.2 hn)) ?_)
      refine ax_X.steps 1 (ax_br2 (fun c24 => ?_) (fun c24 => ?_))
      · exact ax_X.steps 0 (by have hx := begin sn; rw [show mMd n t ck s = _ from congrArg (fun z => ((itN (mES n t ck) n (s.1, s.2.1, s.2.2.2.1)).1, (itN (mES n t ck) n (s.1, s.2.1, s.2.2.2.1)).2.1, s.2.2.1, z, s.2.2.2.2)) (show mdR n (t 7) (t 11 1) (itN (mES n t ck) n (s.1, s.2.1, s.2.2.2.1)).2.2 = va_up (itN (mES n t ck) n (s.1, s.2.1, s.2.2.2.1)).2.2 0 (skF n (t 7) ((itN (mES n t ck) n (s.1, s.2.1, s.2.2.2.1)).2.2 0)) from by unfold mdR; rw [show anyB (badB (skF n (t 7) ((itN (mES n t ck) n (s.1, s.2.1, s.2.2.2.1)).2.2 0))) n = false from bI_0.mp c24, Bool.and_false, if_neg (by decide)])] at hx; exact hx)
      · refine ax_X.steps 2 (ax_gov ((show C no_M_stopAll [.ref 0] (mHs n kn t sn ((itN (mES n t ck) n (s.1, s.2.1, s.2.2.2.1)).1, (itN (mES n t ck) n (s.1, s.2.1, s.2.2.2.1)).2.1, s.2.2.1, va_up (itN (mES n t ck) n (s.1, s.2.1, s.2.2.2.1)).2.2 0 (skF n (t 7) ((itN (mES n t ck) n (s.1, s.2.1, s.2.2.2.1)).2.2 0)), s.2.2.2.2)) (ax_is none (mHs n kn t sn ((itN (mES n t ck) n (s.1, s.2.1, s.2.2.2.1)).1, (itN (mES n t ck) n (s.1, s.2.1, s.2.2.2.1)).2.1, s.2.2.1, va_up (itN (mES n t ck) n (s.1, s.2.1, s.2.2.2.1)).2.2 0 (stF n (skF n (t 7) ((itN (mES n t ck) n (s.1, s.2.1, s.2.2.2.1)).2.2 0))), s.2.2.2.2))) from h5 (itN (mES n t ck) n (s.1, s.2.1, s.2.2.2.1)).1 n kn (mT (va_up (va_up (va_up t 21 (itN (mES n t ck) n (s.1, s.2.1, s.2.2.2.1)).2.1) 22 sn) 23 s.2.2.1) (va_up (itN (mES n t ck) n (s.1, s.2.1, s.2.2.2.1)).2.2 0 (skF n (t 7) ((itN (mES n t ck) n (s.1, s.2.1, s.2.2.2.1)).2.2 0)))) s.2.2.2.2 hn)) ?_)
        exact ax_X.steps 0 (by have hx := begin sn; rw [show mMd n t ck s = _ from congrArg (fun z => ((itN (mES n t ck) n (s.1, s.2.1, s.2.2.2.1)).1, (itN (mES n t ck) n (s.1, s.2.1, s.2.2.2.1)).2.1, s.2.2.1, z, s.2.2.2.2)) (show mdR n (t 7) (t 11 1) (itN (mES n t ck) n (s.1, s.2.1, s.2.2.2.1)).2.2 = va_up (itN (mES n t ck) n (s.1, s.2.1, s.2.2.2.1)).2.2 0 (stF n (skF n (t 7) ((itN (mES n t ck) n (s.1, s.2.1, s.2.2.2.1)).2.2 0))) from by unfold mdR; rw [decide_eq_false (show ¬ t 11 1 = 0 from c21), show anyB (badB (skF n (t 7) ((itN (mES n t ck) n (s.1, s.2.1, s.2.2.2.1)).2.2 0))) n = true from (by cases z : anyB (badB (skF n (t 7) ((itN (mES n t ck) n (s.1, s.2.1, s.2.2.2.1)).2.2 0))) n with | false => exact absurd (congrArg bI z) c24 | true => rfl)]; rfl)] at hx; exact hx)
def frM (f : Nat → Int32) : Nat → Int32 := va_up (frF f) 6 1
def Sp_M_run (C : ax_O) : Prop := ∀ (f : Nat → Int32) (n kn : Nat) (t : Nat → Nat → Int32) (b : Nat) (r : Nat → Nat → Int32) (dp : Nat → Int32) (rk tn : Nat → Nat) (k : Nat), n ≤ 24 → rkP n (t 7) rk → tmP n (t 0) tn → (∀ a, a < n → allP n (t 7) a (dp a)) → (∀ c, n ≤ c → c < 24 → bt (wtG (t 9) dp n) c = false) → (∀ a, a < n → ∃ q, q < 4 ∧ t 6 a = nI q) →
  (∀ wd rs : Nat → Int32, (∀ c, c < n → wd c = bI (bt (wtG (t 9) dp n) c)) → (∀ c, c < n → rs c = if bt (wtG (t 9) dp n) c = true then reN (t 7) (t 0) (wtG (t 9) dp n) n c else 0) → mOk n (va_up (va_up t 10 wd) 13 rs) k 0 (frM f, itN (fun a g => upd g a 0) 24 (t 21), t 23, itN (fun a r => fillR r a (inV f t (wtG (t 9) dp n) a)) 24 r, 0)) →
  C no_M_run [.ref 0] (mH f n kn (mT t r) b) (fun x h' => ∃ wd rs : Nat → Int32, (∀ c, c < n → wd c = bI (bt (wtG (t 9) dp n) c)) ∧ (∀ c, c < n → rs c = if bt (wtG (t 9) dp n) c = true then reN (t 7) (t 0) (wtG (t 9) dp n) n c else 0) ∧ mRk n n (va_up (va_up t 10 wd) 13 rs) (mRn n (va_up (va_up t 10 wd) 13 rs) k 0 (frM f, itN (fun a g => upd g a 0) 24 (t 21), t 23, itN (fun a r => fillR r a (inV f t (wtG (t 9) dp n) a)) 24 r, 0)) x h')
theorem p_M_run {C : ax_O} (h1 : Sp_M_fresh C) (h2 : Sp_M_endAll C) (h3 : Sp_M_skipAll C) (h4 : Sp_M_isSpoilt C) (h5 : Sp_M_stopAll C) (h6 : Sp_M_beginAll C) (h7 : Sp_M_nextEnd C) : Sp_M_run (ax_B ax_Ms ax_Xs C) := by
  intro f n kn t b r dp rk tn k hn hrk ht hdp hwn hq hok
  generalize hR : itN (fun a r => fillR r a (inV f t (wtG (t 9) dp n) a)) 24 r = R0 at hok ⊢
  generalize hG : itN (fun a g => upd g a 0) 24 (t 21) = G0 at hok ⊢
  refine ax_X.steps 3 ⟨Or.inl rfl, (?_ : ax_X ax_Ms ax_Xs no_M_run C _ 3 [some (.ref 0), none] [] (mH f n kn (mT t r) b) 0 0)⟩
  refine ax_X.steps 2 (ax_goPv (h1 f n kn t b r dp rk tn hn hrk ht hdp hwn) (fun h' hz => ?_))
  obtain ⟨-, wd, rs, q1, q2, hh⟩ := hz
  rw [hR, hG] at hh
  subst hh
  refine ax_X.steps 3 ⟨Or.inr ⟨rfl, Or.inr rfl⟩, (?_ : ax_X ax_Ms ax_Xs no_M_run C _ 8 [some (.ref 0), none] [] (mHs n n (va_up (va_up t 10 wd) 13 rs) (t 22) (frM f, G0, t 23, R0, 0)) 0 0)⟩
  exact ax_X.steps 2 (mrun_loop h2 h3 h4 h5 h6 h7 n n (va_up (va_up t 10 wd) 13 rs) hn hq _ _ (fun x h' hx => ⟨wd, rs, q1, q2, hx⟩) k 0 (t 22) (frM f, G0, t 23, R0, 0) (by decide) (hok wd rs q1 q2) rfl)
end
