section
-- ===== PART A: goes FIRST, ahead of the names: the tables' words, and 'selects' of the private methods out of them =====
/-- a private method of a class that the tables say can be made, by its rows of tables_1 -/
def lw_okq (q : MethodName × Nat) : Prop := (q.1.cls ≠ "java/lang/invoke/MethodHandle" ∧ q.1.cls ≠ "java/lang/invoke/VarHandle") ∧ Cond.instantiable q.1.cls q.2 ∈ tables_1 ∧ Cond.privateMethod q.1 ∈ tables_1 ∧ Cond.instanceMethod q.1 ∈ tables_1
theorem lw_p0 : lw_okq (⟨"RunOrder$Run", "prepare", "()V"⟩, 13) := ⟨⟨by decide +kernel, by decide +kernel⟩, List.mem_of_getElem? (i := 148) (by decide +kernel), List.mem_of_getElem? (i := 269) (by decide +kernel), List.mem_of_getElem? (i := 270) (by decide +kernel)⟩
theorem lw_p1 : lw_okq (⟨"RunOrder$Actions", "greatestRestAbove", "(II)I"⟩, 13) := ⟨⟨by decide +kernel, by decide +kernel⟩, List.mem_of_getElem? (i := 65) (by decide +kernel), List.mem_of_getElem? (i := 285) (by decide +kernel), List.mem_of_getElem? (i := 286) (by decide +kernel)⟩
theorem lw_p2 : lw_okq (⟨"RunOrder$Run", "stateAtFirst", "(I)I"⟩, 13) := ⟨⟨by decide +kernel, by decide +kernel⟩, List.mem_of_getElem? (i := 148) (by decide +kernel), List.mem_of_getElem? (i := 291) (by decide +kernel), List.mem_of_getElem? (i := 292) (by decide +kernel)⟩
theorem lw_p3 : lw_okq (⟨"RunOrder$Run", "endTries", "(I)V"⟩, 13) := ⟨⟨by decide +kernel, by decide +kernel⟩, List.mem_of_getElem? (i := 148) (by decide +kernel), List.mem_of_getElem? (i := 299) (by decide +kernel), List.mem_of_getElem? (i := 300) (by decide +kernel)⟩
theorem lw_p4 : lw_okq (⟨"RunOrder$Run", "endTry", "(III)V"⟩, 13) := ⟨⟨by decide +kernel, by decide +kernel⟩, List.mem_of_getElem? (i := 148) (by decide +kernel), List.mem_of_getElem? (i := 303) (by decide +kernel), List.mem_of_getElem? (i := 304) (by decide +kernel)⟩
theorem lw_p5 : lw_okq (⟨"RunOrder$Run", "leaveBothSides", "(I)V"⟩, 13) := ⟨⟨by decide +kernel, by decide +kernel⟩, List.mem_of_getElem? (i := 148) (by decide +kernel), List.mem_of_getElem? (i := 307) (by decide +kernel), List.mem_of_getElem? (i := 308) (by decide +kernel)⟩
theorem lw_p6 : lw_okq (⟨"RunOrder$Run", "mayTryAgain", "(I)Z"⟩, 13) := ⟨⟨by decide +kernel, by decide +kernel⟩, List.mem_of_getElem? (i := 148) (by decide +kernel), List.mem_of_getElem? (i := 315) (by decide +kernel), List.mem_of_getElem? (i := 316) (by decide +kernel)⟩
theorem lw_p7 : lw_okq (⟨"RunOrder$Run", "isOneBad", "()Z"⟩, 13) := ⟨⟨by decide +kernel, by decide +kernel⟩, List.mem_of_getElem? (i := 148) (by decide +kernel), List.mem_of_getElem? (i := 319) (by decide +kernel), List.mem_of_getElem? (i := 320) (by decide +kernel)⟩
theorem lw_p8 : lw_okq (⟨"RunOrder$Run", "skipHindered", "()V"⟩, 13) := ⟨⟨by decide +kernel, by decide +kernel⟩, List.mem_of_getElem? (i := 148) (by decide +kernel), List.mem_of_getElem? (i := 327) (by decide +kernel), List.mem_of_getElem? (i := 328) (by decide +kernel)⟩
theorem lw_p9 : lw_okq (⟨"RunOrder$Run", "allIn", "(I)I"⟩, 13) := ⟨⟨by decide +kernel, by decide +kernel⟩, List.mem_of_getElem? (i := 148) (by decide +kernel), List.mem_of_getElem? (i := 331) (by decide +kernel), List.mem_of_getElem? (i := 332) (by decide +kernel)⟩
theorem lw_p10 : lw_okq (⟨"RunOrder$Run", "stopWaiting", "()V"⟩, 13) := ⟨⟨by decide +kernel, by decide +kernel⟩, List.mem_of_getElem? (i := 148) (by decide +kernel), List.mem_of_getElem? (i := 336) (by decide +kernel), List.mem_of_getElem? (i := 337) (by decide +kernel)⟩
theorem lw_p11 : lw_okq (⟨"RunOrder$Run", "beginReady", "(I)V"⟩, 13) := ⟨⟨by decide +kernel, by decide +kernel⟩, List.mem_of_getElem? (i := 148) (by decide +kernel), List.mem_of_getElem? (i := 340) (by decide +kernel), List.mem_of_getElem? (i := 341) (by decide +kernel)⟩
theorem lw_p12 : lw_okq (⟨"RunOrder$Run", "allReady", "()I"⟩, 13) := ⟨⟨by decide +kernel, by decide +kernel⟩, List.mem_of_getElem? (i := 148) (by decide +kernel), List.mem_of_getElem? (i := 344) (by decide +kernel), List.mem_of_getElem? (i := 345) (by decide +kernel)⟩
theorem lw_p13 : lw_okq (⟨"RunOrder$Run", "isOtherThanTestLeft", "()Z"⟩, 13) := ⟨⟨by decide +kernel, by decide +kernel⟩, List.mem_of_getElem? (i := 148) (by decide +kernel), List.mem_of_getElem? (i := 348) (by decide +kernel), List.mem_of_getElem? (i := 349) (by decide +kernel)⟩
theorem lw_p14 : lw_okq (⟨"RunOrder$Run", "foremost", "(I)I"⟩, 13) := ⟨⟨by decide +kernel, by decide +kernel⟩, List.mem_of_getElem? (i := 148) (by decide +kernel), List.mem_of_getElem? (i := 352) (by decide +kernel), List.mem_of_getElem? (i := 353) (by decide +kernel)⟩
theorem lw_p15 : lw_okq (⟨"RunOrder$Run", "beginTry", "(II)V"⟩, 13) := ⟨⟨by decide +kernel, by decide +kernel⟩, List.mem_of_getElem? (i := 148) (by decide +kernel), List.mem_of_getElem? (i := 360) (by decide +kernel), List.mem_of_getElem? (i := 361) (by decide +kernel)⟩
def lw_privs_1 : List (MethodName × Nat) := [(⟨"RunOrder$Run", "prepare", "()V"⟩, 13), (⟨"RunOrder$Actions", "greatestRestAbove", "(II)I"⟩, 13), (⟨"RunOrder$Run", "stateAtFirst", "(I)I"⟩, 13), (⟨"RunOrder$Run", "endTries", "(I)V"⟩, 13), (⟨"RunOrder$Run", "endTry", "(III)V"⟩, 13), (⟨"RunOrder$Run", "leaveBothSides", "(I)V"⟩, 13), (⟨"RunOrder$Run", "mayTryAgain", "(I)Z"⟩, 13), (⟨"RunOrder$Run", "isOneBad", "()Z"⟩, 13), (⟨"RunOrder$Run", "skipHindered", "()V"⟩, 13), (⟨"RunOrder$Run", "allIn", "(I)I"⟩, 13), (⟨"RunOrder$Run", "stopWaiting", "()V"⟩, 13), (⟨"RunOrder$Run", "beginReady", "(I)V"⟩, 13), (⟨"RunOrder$Run", "allReady", "()I"⟩, 13), (⟨"RunOrder$Run", "isOtherThanTestLeft", "()Z"⟩, 13), (⟨"RunOrder$Run", "foremost", "(I)I"⟩, 13), (⟨"RunOrder$Run", "beginTry", "(II)V"⟩, 13)]
theorem lw_r1 : ∀ q ∈ lw_privs_1, lw_okq q := List.forall_mem_cons.mpr ⟨lw_p0, List.forall_mem_cons.mpr ⟨lw_p1, List.forall_mem_cons.mpr ⟨lw_p2, List.forall_mem_cons.mpr ⟨lw_p3, List.forall_mem_cons.mpr ⟨lw_p4, List.forall_mem_cons.mpr ⟨lw_p5, List.forall_mem_cons.mpr ⟨lw_p6, List.forall_mem_cons.mpr ⟨lw_p7, List.forall_mem_cons.mpr ⟨lw_p8, List.forall_mem_cons.mpr ⟨lw_p9, List.forall_mem_cons.mpr ⟨lw_p10, List.forall_mem_cons.mpr ⟨lw_p11, List.forall_mem_cons.mpr ⟨lw_p12, List.forall_mem_cons.mpr ⟨lw_p13, List.forall_mem_cons.mpr ⟨lw_p14, List.forall_mem_cons.mpr ⟨lw_p15, fun _ h => absurd h List.not_mem_nil⟩⟩⟩⟩⟩⟩⟩⟩⟩⟩⟩⟩⟩⟩⟩⟩
theorem lw_p16 : lw_okq (⟨"RunOrder$Run", "nextEnd", "()I"⟩, 13) := ⟨⟨by decide +kernel, by decide +kernel⟩, List.mem_of_getElem? (i := 148) (by decide +kernel), List.mem_of_getElem? (i := 373) (by decide +kernel), List.mem_of_getElem? (i := 374) (by decide +kernel)⟩
theorem lw_p17 : lw_okq (⟨"RunOrderModel", "isAction", "(I)Z"⟩, 35) := ⟨⟨by decide +kernel, by decide +kernel⟩, List.mem_of_getElem? (i := 416) (by decide +kernel), List.mem_of_getElem? (i := 547) (by decide +kernel), List.mem_of_getElem? (i := 548) (by decide +kernel)⟩
theorem lw_p18 : lw_okq (⟨"RunOrderModel", "all", "(I)I"⟩, 35) := ⟨⟨by decide +kernel, by decide +kernel⟩, List.mem_of_getElem? (i := 416) (by decide +kernel), List.mem_of_getElem? (i := 559) (by decide +kernel), List.mem_of_getElem? (i := 560) (by decide +kernel)⟩
theorem lw_p19 : lw_okq (⟨"RunOrderModel", "want", "()V"⟩, 35) := ⟨⟨by decide +kernel, by decide +kernel⟩, List.mem_of_getElem? (i := 416) (by decide +kernel), List.mem_of_getElem? (i := 579) (by decide +kernel), List.mem_of_getElem? (i := 580) (by decide +kernel)⟩
theorem lw_p20 : lw_okq (⟨"RunOrderModel", "fresh", "()V"⟩, 35) := ⟨⟨by decide +kernel, by decide +kernel⟩, List.mem_of_getElem? (i := 416) (by decide +kernel), List.mem_of_getElem? (i := 587) (by decide +kernel), List.mem_of_getElem? (i := 588) (by decide +kernel)⟩
theorem lw_p21 : lw_okq (⟨"RunOrderModel", "endAll", "(I)V"⟩, 35) := ⟨⟨by decide +kernel, by decide +kernel⟩, List.mem_of_getElem? (i := 416) (by decide +kernel), List.mem_of_getElem? (i := 591) (by decide +kernel), List.mem_of_getElem? (i := 592) (by decide +kernel)⟩
theorem lw_p22 : lw_okq (⟨"RunOrderModel", "end", "(III)V"⟩, 35) := ⟨⟨by decide +kernel, by decide +kernel⟩, List.mem_of_getElem? (i := 416) (by decide +kernel), List.mem_of_getElem? (i := 595) (by decide +kernel), List.mem_of_getElem? (i := 596) (by decide +kernel)⟩
theorem lw_p23 : lw_okq (⟨"RunOrderModel", "isSpoilt", "()Z"⟩, 35) := ⟨⟨by decide +kernel, by decide +kernel⟩, List.mem_of_getElem? (i := 416) (by decide +kernel), List.mem_of_getElem? (i := 599) (by decide +kernel), List.mem_of_getElem? (i := 600) (by decide +kernel)⟩
theorem lw_p24 : lw_okq (⟨"RunOrderModel", "skipAll", "()V"⟩, 35) := ⟨⟨by decide +kernel, by decide +kernel⟩, List.mem_of_getElem? (i := 416) (by decide +kernel), List.mem_of_getElem? (i := 603) (by decide +kernel), List.mem_of_getElem? (i := 604) (by decide +kernel)⟩
theorem lw_p25 : lw_okq (⟨"RunOrderModel", "lacks", "(I)Z"⟩, 35) := ⟨⟨by decide +kernel, by decide +kernel⟩, List.mem_of_getElem? (i := 416) (by decide +kernel), List.mem_of_getElem? (i := 607) (by decide +kernel), List.mem_of_getElem? (i := 608) (by decide +kernel)⟩
theorem lw_p26 : lw_okq (⟨"RunOrderModel", "stopAll", "()V"⟩, 35) := ⟨⟨by decide +kernel, by decide +kernel⟩, List.mem_of_getElem? (i := 416) (by decide +kernel), List.mem_of_getElem? (i := 611) (by decide +kernel), List.mem_of_getElem? (i := 612) (by decide +kernel)⟩
theorem lw_p27 : lw_okq (⟨"RunOrderModel", "beginAll", "(I)V"⟩, 35) := ⟨⟨by decide +kernel, by decide +kernel⟩, List.mem_of_getElem? (i := 416) (by decide +kernel), List.mem_of_getElem? (i := 615) (by decide +kernel), List.mem_of_getElem? (i := 616) (by decide +kernel)⟩
theorem lw_p28 : lw_okq (⟨"RunOrderModel", "isReady", "(IZ)Z"⟩, 35) := ⟨⟨by decide +kernel, by decide +kernel⟩, List.mem_of_getElem? (i := 416) (by decide +kernel), List.mem_of_getElem? (i := 619) (by decide +kernel), List.mem_of_getElem? (i := 620) (by decide +kernel)⟩
theorem lw_p29 : lw_okq (⟨"RunOrderModel", "next", "()I"⟩, 35) := ⟨⟨by decide +kernel, by decide +kernel⟩, List.mem_of_getElem? (i := 416) (by decide +kernel), List.mem_of_getElem? (i := 623) (by decide +kernel), List.mem_of_getElem? (i := 624) (by decide +kernel)⟩
theorem lw_p30 : lw_okq (⟨"RunOrderModel", "fits", "(I)Z"⟩, 35) := ⟨⟨by decide +kernel, by decide +kernel⟩, List.mem_of_getElem? (i := 416) (by decide +kernel), List.mem_of_getElem? (i := 627) (by decide +kernel), List.mem_of_getElem? (i := 628) (by decide +kernel)⟩
theorem lw_p31 : lw_okq (⟨"RunOrderModel", "taken", "(I)I"⟩, 35) := ⟨⟨by decide +kernel, by decide +kernel⟩, List.mem_of_getElem? (i := 416) (by decide +kernel), List.mem_of_getElem? (i := 631) (by decide +kernel), List.mem_of_getElem? (i := 632) (by decide +kernel)⟩
def lw_privs_2 : List (MethodName × Nat) := [(⟨"RunOrder$Run", "nextEnd", "()I"⟩, 13), (⟨"RunOrderModel", "isAction", "(I)Z"⟩, 35), (⟨"RunOrderModel", "all", "(I)I"⟩, 35), (⟨"RunOrderModel", "want", "()V"⟩, 35), (⟨"RunOrderModel", "fresh", "()V"⟩, 35), (⟨"RunOrderModel", "endAll", "(I)V"⟩, 35), (⟨"RunOrderModel", "end", "(III)V"⟩, 35), (⟨"RunOrderModel", "isSpoilt", "()Z"⟩, 35), (⟨"RunOrderModel", "skipAll", "()V"⟩, 35), (⟨"RunOrderModel", "lacks", "(I)Z"⟩, 35), (⟨"RunOrderModel", "stopAll", "()V"⟩, 35), (⟨"RunOrderModel", "beginAll", "(I)V"⟩, 35), (⟨"RunOrderModel", "isReady", "(IZ)Z"⟩, 35), (⟨"RunOrderModel", "next", "()I"⟩, 35), (⟨"RunOrderModel", "fits", "(I)Z"⟩, 35), (⟨"RunOrderModel", "taken", "(I)I"⟩, 35)]
theorem lw_r2 : ∀ q ∈ lw_privs_2, lw_okq q := List.forall_mem_cons.mpr ⟨lw_p16, List.forall_mem_cons.mpr ⟨lw_p17, List.forall_mem_cons.mpr ⟨lw_p18, List.forall_mem_cons.mpr ⟨lw_p19, List.forall_mem_cons.mpr ⟨lw_p20, List.forall_mem_cons.mpr ⟨lw_p21, List.forall_mem_cons.mpr ⟨lw_p22, List.forall_mem_cons.mpr ⟨lw_p23, List.forall_mem_cons.mpr ⟨lw_p24, List.forall_mem_cons.mpr ⟨lw_p25, List.forall_mem_cons.mpr ⟨lw_p26, List.forall_mem_cons.mpr ⟨lw_p27, List.forall_mem_cons.mpr ⟨lw_p28, List.forall_mem_cons.mpr ⟨lw_p29, List.forall_mem_cons.mpr ⟨lw_p30, List.forall_mem_cons.mpr ⟨lw_p31, fun _ h => absurd h List.not_mem_nil⟩⟩⟩⟩⟩⟩⟩⟩⟩⟩⟩⟩⟩⟩⟩⟩
theorem lw_p32 : lw_okq (⟨"RunOrderModel", "begin", "(II)V"⟩, 35) := ⟨⟨by decide +kernel, by decide +kernel⟩, List.mem_of_getElem? (i := 416) (by decide +kernel), List.mem_of_getElem? (i := 635) (by decide +kernel), List.mem_of_getElem? (i := 636) (by decide +kernel)⟩
theorem lw_p33 : lw_okq (⟨"RunOrderModel", "nextEnd", "()I"⟩, 35) := ⟨⟨by decide +kernel, by decide +kernel⟩, List.mem_of_getElem? (i := 416) (by decide +kernel), List.mem_of_getElem? (i := 639) (by decide +kernel), List.mem_of_getElem? (i := 640) (by decide +kernel)⟩
def lw_privs_3 : List (MethodName × Nat) := [(⟨"RunOrderModel", "begin", "(II)V"⟩, 35), (⟨"RunOrderModel", "nextEnd", "()I"⟩, 35)]
theorem lw_r3 : ∀ q ∈ lw_privs_3, lw_okq q := List.forall_mem_cons.mpr ⟨lw_p32, List.forall_mem_cons.mpr ⟨lw_p33, fun _ h => absurd h List.not_mem_nil⟩⟩
def lw_privs : List (MethodName × Nat) := lw_privs_1 ++ (lw_privs_2 ++ (lw_privs_3))
def lw_tbl : List Cond := k2_sels lw_privs ++ tables_1
theorem lw_privs_ok : ∀ q ∈ lw_privs, lw_okq q := by
  show ∀ q ∈ lw_privs_1 ++ (lw_privs_2 ++ (lw_privs_3)), lw_okq q
  exact List.forall_mem_append.mpr ⟨lw_r1, List.forall_mem_append.mpr ⟨lw_r2, lw_r3⟩⟩
end
section
/-! A SMALL MACHINE over places: the walk of a method as a predicate that unfolds; proved sound over the kit's rows in the next part.
A reference is the number of a place in the list of cells; a cell is an array (boolean or int, length, contents) or an object (number of its kind, fields). -/
abbrev ax_C : Type := (Bool × Nat × (Nat → Int32)) ⊕ (Nat × List Value)
abbrev ax_H : Type := List ax_C
abbrev ax_L : Type := List (Option Value)
abbrev ax_K : Type := Option Value → ax_H → Prop
abbrev ax_O : Type := Nat → List Value → ax_H → ax_K → Prop
/-- an instruction: its pc, itself, two numbers, a constant, targets -/
abbrev ax_I : Type := Nat × Instr × Nat × Nat × Int32 × List Nat
/-- a method: its instructions, its locals, its arguments, the cells and slots that it makes -/
abbrev ax_M : Type := List ax_I × Nat × Nat × Nat × Nat
abbrev ax_R : Type := Nat → ax_L → List Value → ax_H → Nat → Nat → Prop
def ax_nth {α : Type} : List α → Nat → Option α
  | [], _ => none
  | a :: _, 0 => some a
  | _ :: l, n + 1 => ax_nth l n
theorem ax_nth_eq {α : Type} : ∀ (l : List α) (n : Nat), ax_nth l n = l[n]?
  | [], n => by simp [ax_nth]
  | a :: l, 0 => by simp [ax_nth]
  | a :: l, n + 1 => by simp [ax_nth, ax_nth_eq l n]
/-- refs lie below n -/
def ax_okv (n : Nat) : Value → Bool
  | .ref k => Nat.blt k n
  | _ => true
def ax_okc (n : Nat) : ax_C → Bool
  | .inl _ => true
  | .inr (_, fs) => fs.all (ax_okv n)
def ax_oko (n : Nat) : Option Value → Bool
  | none => true
  | some v => ax_okv n v
def ax_okf (n : Nat) (L : ax_L) (S : List Value) : Bool := L.all (ax_oko n) && S.all (ax_okv n)
def ax_okh (n : Nat) (h : ax_H) : Bool := h.all (ax_okc n)
def ax_if (b : Bool) (k : Prop) : Prop := match b with
  | true => k
  | false => False
def ax_bin (f : Int32 → Int32 → Int32) (S : List Value) (k : List Value → Prop) : Prop := match S with
  | .int y :: .int x :: r => k (.int (f x y) :: r)
  | _ => False
def ax_ldi (L : ax_L) (i : Nat) (k : Value → Prop) : Prop := match ax_nth L i with
  | some (some (.int x)) => k (.int x)
  | _ => False
def ax_lda (L : ax_L) (i : Nat) (k : Value → Prop) : Prop := match ax_nth L i with
  | some (some (.ref q)) => k (.ref q)
  | some (some .null) => k .null
  | _ => False
def ax_sti (S : List Value) (k : Value → List Value → Prop) : Prop := match S with
  | .int x :: r => k (.int x) r
  | _ => False
def ax_sta (S : List Value) (k : Value → List Value → Prop) : Prop := match S with
  | .ref q :: r => k (.ref q) r
  | .null :: r => k .null r
  | _ => False
def ax_inc (L : ax_L) (i : Nat) (v : Int32) (k : ax_L → Prop) : Prop := match ax_nth L i with
  | some (some (.int x)) => k (L.set i (some (.int (x + v))))
  | _ => False
def ax_getf (S : List Value) (h : ax_H) (ci f : Nat) (k : List Value → Prop) : Prop := match S with
  | .ref q :: r => match ax_nth h q with
    | some (.inr (c, fs)) => ax_if (Nat.beq c ci) (match ax_nth fs f with
      | some x => k (x :: r)
      | none => False)
    | _ => False
  | _ => False
/-- ty: 0 int, 1 boolean, 2 a reference -/
def ax_fit (ty : Int32) (v : Value) (k : Prop) : Prop := match v with
  | .int x => (ty = 0 ∨ (ty = 1 ∧ (x = 0 ∨ x = 1))) ∧ k
  | .ref _ => ty = 2 ∧ k
  | .null => ty = 2 ∧ k
  | _ => False
def ax_putf (S : List Value) (h : ax_H) (ci f : Nat) (ty : Int32) (k : List Value → ax_H → Prop) : Prop := match S with
  | v :: .ref q :: r => match ax_nth h q with
    | some (.inr (c, fs)) => ax_if (Nat.beq c ci && Nat.blt f fs.length) (ax_fit ty v (k r (h.set q (.inr (c, fs.set f v)))))
    | _ => False
  | _ => False
def ax_ald (z : Bool) (S : List Value) (h : ax_H) (k : List Value → Prop) : Prop := match S with
  | .int j :: .ref q :: r => match ax_nth h q with
    | some (.inl (z', n, f)) => ax_if (z == z') (∃ a : Nat, (a < n ∧ a < 2147483648) ∧ j = nI a ∧ k (.int (f a) :: r))
    | _ => False
  | _ => False
def ax_zv (z : Bool) (x : Int32) : Int32 := match z with
  | true => x &&& 1
  | false => x
def ax_ast (z : Bool) (S : List Value) (h : ax_H) (k : List Value → ax_H → Prop) : Prop := match S with
  | .int x :: .int j :: .ref q :: r => match ax_nth h q with
    | some (.inl (z', n, f)) => ax_if (z == z') (∃ a : Nat, (a < n ∧ a < 2147483648) ∧ j = nI a ∧ k r (h.set q (.inl (z', n, upd f a (ax_zv z x)))))
    | _ => False
  | _ => False
def ax_alen (S : List Value) (h : ax_H) (k : List Value → Prop) : Prop := match S with
  | .ref q :: r => match ax_nth h q with
    | some (.inl (_, n, _)) => k (.int (nI n) :: r)
    | _ => False
  | _ => False
def ax_cmp (c : ClassFile.Cond) (x y : Int32) : Prop := match c with
  | .eq => x = y
  | .ne => ¬ x = y
  | .lt => x < y
  | .ge => y ≤ x
  | .gt => y < x
  | .le => x ≤ y
def ax_br (P : Prop) (a b : Prop) : Prop := (P → a) ∧ (¬ P → b)
def ax_args : Nat → List Value → List Value → Option (List Value × List Value)
  | 0, acc, S => some (acc, S)
  | _ + 1, _, [] => none
  | n + 1, acc, v :: S => ax_args n (v :: acc) S
/-- the receiver of a call is an object of the kind told (static calls tell none) -/
def ax_rcv (ts : List Nat) (As : List Value) (h : ax_H) : Bool := match ts with
  | [] => true
  | ci :: _ => match As with
    | .ref p :: _ => match ax_nth h p with
      | some (.inr (c, _)) => Nat.beq c ci
      | _ => false
    | _ => false
/-- a call of method a: kind 3 answers an int, kind 4 nothing; 0 Object(), 1 max, 2 min -/
def ax_call (M : List ax_M) (mc ms : Nat) (C : ax_O) (a b : Nat) (ts : List Nat) (L : ax_L) (S : List Value) (h : ax_H) (ce sl : Nat) (R : List Value → ax_H → Nat → Nat → Prop) : Prop := match b with
  | 0 => match S with
    | .ref _ :: r => ax_if (Nat.ble r.length 4) (R r h ce sl)
    | _ => False
  | 1 => match S with
    | .int y :: .int x :: r => ax_if (Nat.ble r.length 4 && (Nat.ble ce mc && Nat.ble sl ms)) (R (.int (if x < y then y else x) :: r) h ce sl)
    | _ => False
  | 2 => match S with
    | .int y :: .int x :: r => ax_if (Nat.ble r.length 4 && (Nat.ble ce mc && Nat.ble sl ms)) (R (.int (if y < x then y else x) :: r) h ce sl)
    | _ => False
  | 3 => match ax_nth M a with
    | none => False
    | some (_, _, n, mA, sA) => match ax_args n [] S with
      | none => False
      | some (As, r) => ax_if (Nat.ble r.length 4 && (Nat.ble (ce + mA) mc && (Nat.ble (sl + sA) ms && ((Nat.beq mA 0 || ax_okf h.length L r) && ax_rcv ts As h)))) (∃ K : ax_K, C a As h K ∧ ∀ (z : Int32) (h' : ax_H), K (some (.int z)) h' → R (.int z :: r) h' (ce + mA) (sl + sA))
  | 4 => match ax_nth M a with
    | none => False
    | some (_, _, n, mA, sA) => match ax_args n [] S with
      | none => False
      | some (As, r) => ax_if (Nat.ble r.length 4 && (Nat.ble (ce + mA) mc && (Nat.ble (sl + sA) ms && ((Nat.beq mA 0 || ax_okf h.length L r) && ax_rcv ts As h)))) (∃ K : ax_K, C a As h K ∧ ∀ h' : ax_H, K none h' → R r h' (ce + mA) (sl + sA))
  | _ => False
def ax_sw (x : Int32) (lo : Int32) (ts : List Nat) (R : Nat → Prop) (d : Nat) : Prop :=
  (∀ (k t : Nat), ax_nth ts k = some t → x.toInt = lo.toInt + k → R t) ∧ ((x.toInt < lo.toInt ∨ lo.toInt + ts.length ≤ x.toInt) → R d)
/-- one instruction. X: fields of a kind at its birth -/
def ax_F (M : List ax_M) (X : List (List Value)) (y : Nat) (C : ax_O) (K : ax_K) (R : ax_R) (i : Nat) (L : ax_L) (S : List Value) (h : ax_H) (ce sl : Nat) : Prop :=
  match ax_nth M y with
  | none => False
  | some (cd, _, _, mc, ms) => match ax_nth cd i with
    | none => False
    | some (_, ins, a, b, v, ts) => match ins with
      | .iconst _ => R (i + 1) L (.int v :: S) h ce sl
      | .bipush _ => R (i + 1) L (.int v :: S) h ce sl
      | .sipush _ => R (i + 1) L (.int v :: S) h ce sl
      | .ldc _ => R (i + 1) L (.int v :: S) h ce sl
      | .aconst_null => R (i + 1) L (.null :: S) h ce sl
      | .iload_n _ => ax_ldi L a (fun x => R (i + 1) L (x :: S) h ce sl)
      | .iload _ => ax_ldi L a (fun x => R (i + 1) L (x :: S) h ce sl)
      | .aload_n _ => ax_lda L a (fun x => R (i + 1) L (x :: S) h ce sl)
      | .aload _ => ax_lda L a (fun x => R (i + 1) L (x :: S) h ce sl)
      | .istore_n _ => ax_sti S (fun x r => R (i + 1) (L.set a (some x)) r h ce sl)
      | .istore _ => ax_sti S (fun x r => R (i + 1) (L.set a (some x)) r h ce sl)
      | .astore_n _ => ax_sta S (fun x r => R (i + 1) (L.set a (some x)) r h ce sl)
      | .astore _ => ax_sta S (fun x r => R (i + 1) (L.set a (some x)) r h ce sl)
      | .iinc _ _ => ax_inc L a v (fun L' => R (i + 1) L' S h ce sl)
      | .iadd => ax_bin (fun x y => x + y) S (fun S' => R (i + 1) L S' h ce sl)
      | .isub => ax_bin (fun x y => x - y) S (fun S' => R (i + 1) L S' h ce sl)
      | .imul => ax_bin (fun x y => x * y) S (fun S' => R (i + 1) L S' h ce sl)
      | .iand => ax_bin (fun x y => x &&& y) S (fun S' => R (i + 1) L S' h ce sl)
      | .ior => ax_bin (fun x y => x ||| y) S (fun S' => R (i + 1) L S' h ce sl)
      | .ixor => ax_bin (fun x y => x ^^^ y) S (fun S' => R (i + 1) L S' h ce sl)
      | .ishl => ax_bin (fun x y => x <<< (y &&& 31)) S (fun S' => R (i + 1) L S' h ce sl)
      | .ishr => ax_bin (fun x y => x >>> (y &&& 31)) S (fun S' => R (i + 1) L S' h ce sl)
      | .dup => match S with
        | v :: r => ax_if (Nat.beq v.category 1) (R (i + 1) L (v :: v :: r) h ce sl)
        | _ => False
      | .pop => match S with
        | v :: r => ax_if (Nat.beq v.category 1) (R (i + 1) L r h ce sl)
        | _ => False
      | .dup2 => match S with
        | v :: w :: r => ax_if (Nat.beq v.category 1 && Nat.beq w.category 1) (R (i + 1) L (v :: w :: v :: w :: r) h ce sl)
        | _ => False
      | .dup_x1 => match S with
        | v :: w :: r => ax_if (Nat.beq v.category 1 && Nat.beq w.category 1) (R (i + 1) L (v :: w :: v :: r) h ce sl)
        | _ => False
      | .getfield _ => ax_getf S h a b (fun S' => R (i + 1) L S' h ce sl)
      | .putfield _ => ax_putf S h a b v (fun S' h' => R (i + 1) L S' h' ce sl)
      | .iaload => ax_ald false S h (fun S' => R (i + 1) L S' h ce sl)
      | .baload => ax_ald true S h (fun S' => R (i + 1) L S' h ce sl)
      | .iastore => ax_ast false S h (fun S' h' => R (i + 1) L S' h' ce sl)
      | .bastore => ax_ast true S h (fun S' h' => R (i + 1) L S' h' ce sl)
      | .arraylength => ax_alen S h (fun S' => R (i + 1) L S' h ce sl)
      | .if_icmp c _ => match S with
        | .int y :: .int x :: r => ax_br (ax_cmp c x y) (R a L r h ce sl) (R (i + 1) L r h ce sl)
        | _ => False
      | .ifCond c _ => match S with
        | .int x :: r => ax_br (ax_cmp c x 0) (R a L r h ce sl) (R (i + 1) L r h ce sl)
        | _ => False
      | .goto _ => R a L S h ce sl
      | .tableswitch _ _ _ _ => match S with
        | .int x :: r => ax_sw x v ts (fun t => R t L r h ce sl) a
        | _ => False
      | .new _ => match ax_nth X a with
        | some fs => ax_if (ax_okf h.length L S && (ax_okh h.length h && (Nat.ble (ce + 1) mc && Nat.ble (sl + b) ms))) (R (i + 1) L (.ref h.length :: S) (h ++ [.inr (a, fs)]) (ce + 1) (sl + b))
        | none => False
      | .newarray _ => match S with
        | .int n :: r => ∃ N : Nat, (n = nI N ∧ N ≤ 100000) ∧ ax_if (ax_okf h.length L r && (ax_okh h.length h && (Nat.ble (ce + 1) mc && Nat.ble (sl + N) ms))) (R (i + 1) L (.ref h.length :: r) (h ++ [.inl (Nat.beq a 1, N, fun _ => 0)]) (ce + 1) (sl + N))
        | _ => False
      | .invokevirtual _ => ax_call M mc ms C a b ts L S h ce sl (fun S' h' ce' sl' => R (i + 1) L S' h' ce' sl')
      | .invokestatic _ => ax_call M mc ms C a b ts L S h ce sl (fun S' h' ce' sl' => R (i + 1) L S' h' ce' sl')
      | .invokespecial _ => ax_call M mc ms C a b ts L S h ce sl (fun S' h' ce' sl' => R (i + 1) L S' h' ce' sl')
      | .ireturn => match S with
        | [.int x] => ax_if (Nat.ble ce mc && Nat.ble sl ms) ((a = 0 ∨ (x = 0 ∨ x = 1)) ∧ K (some (.int x)) h)
        | _ => False
      | .return_ => match S with
        | [] => ax_if (Nat.ble ce mc && Nat.ble sl ms) (K none h)
        | _ => False
      | _ => False
/-- the least predicate that the instructions lead back to -/
def ax_X (M : List ax_M) (X : List (List Value)) (y : Nat) (C : ax_O) (K : ax_K) (i : Nat) (L : ax_L) (S : List Value) (h : ax_H) (ce sl : Nat) : Prop :=
  ∀ R : ax_R, (∀ (i : Nat) (L : ax_L) (S : List Value) (h : ax_H) (ce sl : Nat), ax_F M X y C K R i L S h ce sl → R i L S h ce sl) → R i L S h ce sl
/-- a method's body -/
def ax_B (M : List ax_M) (X : List (List Value)) (C : ax_O) : ax_O := fun y As h K => match ax_nth M y with
  | none => False
  | some (_, nl, n, _, _) => ax_if (Nat.beq As.length n && As.all (fun v => Nat.beq v.category 1)) (ax_X M X y C K 0 (As.map some ++ List.replicate (nl - n) none) [] h 0 0)
/-- calls, d deep -/
def ax_D (M : List ax_M) (X : List (List Value)) : Nat → ax_O
  | 0 => fun _ _ _ _ => False
  | d + 1 => ax_B M X (ax_D M X d)
end
section
/-! The small machine against the kit's rows, 1: places and addresses. -/
def ax_v (ad : Nat → Nat) : Value → Value
  | .ref k => .ref (ad k)
  | v => v
def ax_c (cI cZ : ClassId) (ad : Nat → Nat) : ax_C → va_E
  | .inl (z, n, f) => .inl (cond z cZ cI, n, .inl f)
  | .inr (ci, fs) => .inr (ci, fs.map (ax_v ad))
def ax_w (cI cZ : ClassId) (ad : Nat → Nat) (h : ax_H) : va_W := h.mapIdx (fun k c => (ad k, ax_c cI cZ ad c))
theorem ax_w_at (cI cZ : ClassId) (ad : Nat → Nat) (h : ax_H) (q : Nat) : (ax_w cI cZ ad h)[q]? = (h[q]?).map (fun c => (ad q, ax_c cI cZ ad c)) := by
  simp [ax_w]
theorem ax_w_get {cI cZ : ClassId} {ad : Nat → Nat} {h : ax_H} {q : Nat} {c : ax_C} (e : ax_nth h q = some c) : (ax_w cI cZ ad h)[q]? = some (ad q, ax_c cI cZ ad c) := by
  rw [ax_w_at, ← ax_nth_eq, e]
  rfl
theorem ax_w_len (cI cZ : ClassId) (ad : Nat → Nat) (h : ax_H) : (ax_w cI cZ ad h).length = h.length := by simp [ax_w]
theorem ax_w_set (cI cZ : ClassId) (ad : Nat → Nat) (h : ax_H) (q : Nat) (c : ax_C) : (ax_w cI cZ ad h).set q (ad q, ax_c cI cZ ad c) = ax_w cI cZ ad (h.set q c) := by
  apply List.ext_getElem?
  intro i
  rw [ax_w_at, List.getElem?_set, List.getElem?_set, ax_w_at, ax_w_len]
  by_cases hq : q = i
  · subst hq
    by_cases h2 : q < h.length <;> simp [h2]
  · simp [hq]
theorem ax_v_cat (ad : Nat → Nat) (v : Value) : (ax_v ad v).category = v.category := by cases v <;> rfl
theorem ax_v_eq {ad ad' : Nat → Nat} {n : Nat} {v : Value} (h : ∀ k, k < n → ad' k = ad k) (hv : ax_okv n v = true) : ax_v ad' v = ax_v ad v := by
  cases v with
  | ref k => exact congrArg Value.ref (h k (Nat.le_of_ble_eq_true hv))
  | _ => rfl
theorem ax_vs_eq {ad ad' : Nat → Nat} {n : Nat} {S : List Value} (h : ∀ k, k < n → ad' k = ad k) (hv : S.all (ax_okv n) = true) : S.map (ax_v ad') = S.map (ax_v ad) := by
  apply List.map_congr_left
  intro v hm
  exact ax_v_eq h (List.all_eq_true.mp hv v hm)
theorem ax_c_eq {cI cZ : ClassId} {ad ad' : Nat → Nat} {n : Nat} {c : ax_C} (h : ∀ k, k < n → ad' k = ad k) (hv : ax_okc n c = true) : ax_c cI cZ ad' c = ax_c cI cZ ad c := by
  rcases c with ⟨z, n, f⟩ | ⟨ci, fs⟩
  · rfl
  · show Sum.inr (ci, fs.map (ax_v ad')) = Sum.inr (ci, fs.map (ax_v ad))
    rw [ax_vs_eq h hv]
theorem ax_w_eq {cI cZ : ClassId} {ad ad' : Nat → Nat} {h : ax_H} (hk : ∀ k, k < h.length → ad' k = ad k) (ho : ax_okh h.length h = true) : ax_w cI cZ ad' h = ax_w cI cZ ad h := by
  apply List.ext_getElem?
  intro i
  rw [ax_w_at, ax_w_at]
  cases hc : h[i]? with
  | none => rfl
  | some c =>
    have hi : i < h.length := (List.getElem?_eq_some_iff.mp hc).1
    have h1 : ax_okc h.length c = true := List.all_eq_true.mp ho c (List.mem_of_getElem? hc)
    show some (ad' i, ax_c cI cZ ad' c) = some (ad i, ax_c cI cZ ad c)
    rw [hk i hi, ax_c_eq hk h1]
def ax_up (ad : Nat → Nat) (n q : Nat) : Nat → Nat := fun k => if k = n then q else ad k
theorem ax_up_lt {ad : Nat → Nat} {n q k : Nat} (h : k < n) : ax_up ad n q k = ad k := if_neg (Nat.ne_of_lt h)
theorem ax_up_self {ad : Nat → Nat} {n q : Nat} : ax_up ad n q n = q := if_pos rfl
theorem ax_w_push {cI cZ : ClassId} {ad : Nat → Nat} {h : ax_H} {c : ax_C} {q : Nat} (ho : ax_okh h.length h = true) (hc : ax_c cI cZ (ax_up ad h.length q) c = ax_c cI cZ ad c) : ax_w cI cZ (ax_up ad h.length q) (h ++ [c]) = ax_w cI cZ ad h ++ [(q, ax_c cI cZ ad c)] := by
  have e := ax_w_eq (cI := cI) (cZ := cZ) (ad := ad) (ad' := ax_up ad h.length q) (h := h) (fun k hk => ax_up_lt hk) ho
  rw [← e]
  unfold ax_w
  rw [List.mapIdx_append]
  simp only [List.mapIdx_cons, List.mapIdx_nil, Nat.zero_add, ax_up_self, hc]
/-! locals -/
def ax_lv1 (ad : Nat → Nat) (L : ax_L) (i : Nat) : Option (Nat × Value) := match ax_nth L i with
  | some (some v) => if v.category = 1 then some (i, ax_v ad v) else none
  | _ => none
def ax_lv (ad : Nat → Nat) (L : ax_L) : List (Nat × Value) := (List.range L.length).filterMap (ax_lv1 ad L)
theorem ax_lv1_eq {ad : Nat → Nat} {L : ax_L} {i : Nat} {q : Nat × Value} (h : ax_lv1 ad L i = some q) : ∃ v, ax_nth L i = some (some v) ∧ v.category = 1 ∧ q = (i, ax_v ad v) := by
  unfold ax_lv1 at h
  split at h
  · rename_i v hv
    split at h
    · rename_i hc
      cases h
      exact ⟨v, hv, hc, rfl⟩
    · cases h
  · cases h
theorem ax_lv_mem {ad : Nat → Nat} {L : ax_L} {i : Nat} {v : Value} (h : ax_nth L i = some (some v)) (hc : v.category = 1) : (i, ax_v ad v) ∈ ax_lv ad L := by
  have hi : i < L.length := by
    rw [ax_nth_eq] at h
    exact (List.getElem?_eq_some_iff.mp h).1
  refine List.mem_filterMap.mpr ⟨i, List.mem_range.mpr hi, ?_⟩
  unfold ax_lv1
  rw [h]
  simp [hc]
theorem ax_lv_of {ad : Nat → Nat} {L : ax_L} {q : Nat × Value} (h : q ∈ ax_lv ad L) : ∃ v, ax_nth L q.1 = some (some v) ∧ v.category = 1 ∧ q.2 = ax_v ad v := by
  obtain ⟨i, -, h1⟩ := List.mem_filterMap.mp h
  obtain ⟨v, e1, e2, rfl⟩ := ax_lv1_eq h1
  exact ⟨v, e1, e2, rfl⟩
theorem ax_lv_at {ad : Nat → Nat} {L : ax_L} {ls : Array Slot} {nl i : Nat} {v : Value} (hl : lv_has ls nl (ax_lv ad L)) (h : ax_nth L i = some (some v)) (hc : v.category = 1) : ls[i]? = some (.val (ax_v ad v)) := hl.2.2 (i, ax_v ad v) (ax_lv_mem h hc)
theorem ax_lv_set {ad : Nat → Nat} {L : ax_L} {ls : Array Slot} {nl i : Nat} {w : Value} (hL : L.length = nl) (hi : i < nl) (h : lv_has ls nl ((i, ax_v ad w) :: (ax_lv ad L).filter (fun q => !(q.1 == i) && !(q.1 + 1 == i && q.2.category == 2)))) : lv_has ls nl (ax_lv ad (L.set i (some w))) := by
  refine ⟨h.1, h.2.1, fun q hq => h.2.2 q ?_⟩
  obtain ⟨v, e1, e2, e3⟩ := ax_lv_of hq
  obtain ⟨j, u⟩ := q
  dsimp only at e1 e3
  subst e3
  rw [ax_nth_eq, List.getElem?_set] at e1
  by_cases hj : i = j
  · subst hj
    rw [if_pos rfl, if_pos (by rw [hL]; exact hi)] at e1
    cases e1
    exact List.mem_cons_self
  · rw [if_neg hj, ← ax_nth_eq] at e1
    refine List.mem_cons_of_mem _ (List.mem_filter.mpr ⟨ax_lv_mem e1 e2, ?_⟩)
    have h2 : (ax_v ad v).category = 1 := by rw [ax_v_cat]; exact e2
    have h3 : (j == i) = false := by simpa using fun h => hj h.symm
    simp [h2, h3]
theorem ax_lv_ad {ad ad' : Nat → Nat} {n : Nat} {L : ax_L} (h : ∀ k, k < n → ad' k = ad k) (hv : L.all (ax_oko n) = true) {ls : Array Slot} {nl : Nat} (hl : lv_has ls nl (ax_lv ad L)) : lv_has ls nl (ax_lv ad' L) := by
  refine ⟨hl.1, hl.2.1, fun q hq => ?_⟩
  obtain ⟨v, e1, e2, e3⟩ := ax_lv_of hq
  have hm : some v ∈ L := by
    rw [ax_nth_eq] at e1
    exact List.mem_of_getElem? e1
  have h1 : ax_okv n v = true := List.all_eq_true.mp hv (some v) hm
  rw [e3, ax_v_eq h h1]
  exact ax_lv_at hl e1 e2
theorem ax_lv_entry (ad : Nat → Nat) (As : List Value) (k : Nat) (hc : ∀ v ∈ As, v.category = 1) {ls : Array Slot} {nl : Nat} (hl : lv_has ls nl (lv_args 0 (As.map (ax_v ad)))) : lv_has ls nl (ax_lv ad (As.map some ++ List.replicate k none)) := by
  refine ⟨hl.1, hl.2.1, fun q hq => ?_⟩
  obtain ⟨v, e1, e2, e3⟩ := ax_lv_of hq
  have key : ∀ (Bs : List Value) (o i : Nat) (v : Value), (∀ v ∈ Bs, v.category = 1) → ax_nth (Bs.map some ++ List.replicate k none) i = some (some v) → (o + i, ax_v ad v) ∈ lv_args o (Bs.map (ax_v ad)) := by
    intro Bs
    induction Bs with
    | nil =>
      intro o i v _ h
      rw [ax_nth_eq] at h
      have := List.mem_of_getElem? h
      simp at this
    | cons b Bs ih =>
      intro o i v hc h
      cases i with
      | zero =>
        have : b = v := by simpa [ax_nth] using h
        subst this
        simp [lv_args]
      | succ i =>
        have h' : ax_nth (Bs.map some ++ List.replicate k none) i = some (some v) := by simpa [ax_nth] using h
        have h1 : (ax_v ad b).category = 1 := by rw [ax_v_cat]; exact hc b List.mem_cons_self
        have := ih (o + 1) i v (fun u hu => hc u (List.mem_cons_of_mem _ hu)) h'
        simp only [List.map_cons, lv_args, h1]
        rw [if_neg (by decide)]
        refine List.mem_cons_of_mem _ ?_
        rw [show o + (i + 1) = o + 1 + i by omega]
        exact this
  have := key As 0 q.1 v hc e1
  rw [Nat.zero_add] at this
  rw [e3]
  exact hl.2.2 (q.1, ax_v ad v) this
/-! monotone -/
theorem ax_if_mono {b : Bool} {k k' : Prop} (h : k → k') : ax_if b k → ax_if b k' := by
  cases b
  · exact id
  · exact h
theorem ax_if_t {b : Bool} {k : Prop} (h : ax_if b k) : b = true ∧ k := by
  cases b
  · exact h.elim
  · exact ⟨rfl, h⟩
theorem ax_bin_mono {f : Int32 → Int32 → Int32} {S : List Value} {k k' : List Value → Prop} (h : ∀ S, k S → k' S) : ax_bin f S k → ax_bin f S k' := by
  unfold ax_bin
  split
  · exact h _
  · exact id
theorem ax_ldi_mono {L : ax_L} {i : Nat} {k k' : Value → Prop} (h : ∀ v, k v → k' v) : ax_ldi L i k → ax_ldi L i k' := by
  unfold ax_ldi
  split
  · exact h _
  · exact id
theorem ax_lda_mono {L : ax_L} {i : Nat} {k k' : Value → Prop} (h : ∀ v, k v → k' v) : ax_lda L i k → ax_lda L i k' := by
  unfold ax_lda
  split
  · exact h _
  · exact h _
  · exact id
theorem ax_sti_mono {S : List Value} {k k' : Value → List Value → Prop} (h : ∀ v r, k v r → k' v r) : ax_sti S k → ax_sti S k' := by
  unfold ax_sti
  split
  · exact h _ _
  · exact id
theorem ax_sta_mono {S : List Value} {k k' : Value → List Value → Prop} (h : ∀ v r, k v r → k' v r) : ax_sta S k → ax_sta S k' := by
  unfold ax_sta
  split
  · exact h _ _
  · exact h _ _
  · exact id
theorem ax_inc_mono {L : ax_L} {i : Nat} {v : Int32} {k k' : ax_L → Prop} (h : ∀ L, k L → k' L) : ax_inc L i v k → ax_inc L i v k' := by
  unfold ax_inc
  split
  · exact h _
  · exact id
theorem ax_getf_mono {S : List Value} {h : ax_H} {ci f : Nat} {k k' : List Value → Prop} (hk : ∀ S, k S → k' S) : ax_getf S h ci f k → ax_getf S h ci f k' := by
  unfold ax_getf
  split
  · split
    · refine ax_if_mono ?_
      split
      · exact hk _
      · exact id
    · exact id
  · exact id
theorem ax_fit_mono {ty : Int32} {v : Value} {k k' : Prop} (h : k → k') : ax_fit ty v k → ax_fit ty v k' := by
  unfold ax_fit
  split
  · exact fun q => ⟨q.1, h q.2⟩
  · exact fun q => ⟨q.1, h q.2⟩
  · exact fun q => ⟨q.1, h q.2⟩
  · exact id
theorem ax_putf_mono {S : List Value} {h : ax_H} {ci f : Nat} {ty : Int32} {k k' : List Value → ax_H → Prop} (hk : ∀ S h, k S h → k' S h) : ax_putf S h ci f ty k → ax_putf S h ci f ty k' := by
  unfold ax_putf
  split
  · split
    · exact ax_if_mono (ax_fit_mono (hk _ _))
    · exact id
  · exact id
theorem ax_ald_mono {z : Bool} {S : List Value} {h : ax_H} {k k' : List Value → Prop} (hk : ∀ S, k S → k' S) : ax_ald z S h k → ax_ald z S h k' := by
  unfold ax_ald
  split
  · split
    · exact ax_if_mono (fun ⟨a, h1, h2, h3⟩ => ⟨a, h1, h2, hk _ h3⟩)
    · exact id
  · exact id
theorem ax_ast_mono {z : Bool} {S : List Value} {h : ax_H} {k k' : List Value → ax_H → Prop} (hk : ∀ S h, k S h → k' S h) : ax_ast z S h k → ax_ast z S h k' := by
  unfold ax_ast
  split
  · split
    · exact ax_if_mono (fun ⟨a, h1, h2, h3⟩ => ⟨a, h1, h2, hk _ _ h3⟩)
    · exact id
  · exact id
theorem ax_alen_mono {S : List Value} {h : ax_H} {k k' : List Value → Prop} (hk : ∀ S, k S → k' S) : ax_alen S h k → ax_alen S h k' := by
  unfold ax_alen
  split
  · split
    · exact hk _
    · exact id
  · exact id
theorem ax_br_mono {P a b a' b' : Prop} (h1 : a → a') (h2 : b → b') : ax_br P a b → ax_br P a' b' := fun q => ⟨fun p => h1 (q.1 p), fun p => h2 (q.2 p)⟩
theorem ax_sw_mono {x lo : Int32} {ts : List Nat} {R R' : Nat → Prop} {d : Nat} (h : ∀ t, R t → R' t) : ax_sw x lo ts R d → ax_sw x lo ts R' d := fun q => ⟨fun k t h1 h2 => h _ (q.1 k t h1 h2), fun p => h _ (q.2 p)⟩
theorem ax_call_mono {M : List ax_M} {mc ms : Nat} {C : ax_O} {a b : Nat} {ts : List Nat} {L : ax_L} {S : List Value} {h : ax_H} {ce sl : Nat} {R R' : List Value → ax_H → Nat → Nat → Prop} (hk : ∀ S h ce sl, R S h ce sl → R' S h ce sl) : ax_call M mc ms C a b ts L S h ce sl R → ax_call M mc ms C a b ts L S h ce sl R' := by
  unfold ax_call
  split
  · split
    · exact ax_if_mono (hk _ _ _ _)
    · exact id
  · split
    · exact ax_if_mono (hk _ _ _ _)
    · exact id
  · split
    · exact ax_if_mono (hk _ _ _ _)
    · exact id
  · split
    · exact id
    · split
      · exact id
      · exact ax_if_mono (fun ⟨K, h1, h2⟩ => ⟨K, h1, fun z h' q => hk _ _ _ _ (h2 z h' q)⟩)
  · split
    · exact id
    · split
      · exact id
      · exact ax_if_mono (fun ⟨K, h1, h2⟩ => ⟨K, h1, fun h' q => hk _ _ _ _ (h2 h' q)⟩)
  · exact id
set_option maxHeartbeats 4000000 in
theorem ax_F_mono {M : List ax_M} {X : List (List Value)} {y : Nat} {C : ax_O} {K : ax_K} {R R' : ax_R} (hR : ∀ i L S h ce sl, R i L S h ce sl → R' i L S h ce sl) {i : Nat} {L : ax_L} {S : List Value} {h : ax_H} {ce sl : Nat} : ax_F M X y C K R i L S h ce sl → ax_F M X y C K R' i L S h ce sl := by
  unfold ax_F
  rcases ax_nth M y with _ | ⟨cd, nl, n, mc, ms⟩
  · exact id
  dsimp only
  rcases ax_nth cd i with _ | ⟨pc, ins, a, b, v, ts⟩
  · exact id
  dsimp only
  cases ins
  all_goals dsimp only
  all_goals first
    | exact id
    | exact hR _ _ _ _ _ _
    | exact ax_ldi_mono (fun _ => hR _ _ _ _ _ _)
    | exact ax_lda_mono (fun _ => hR _ _ _ _ _ _)
    | exact ax_sti_mono (fun _ _ => hR _ _ _ _ _ _)
    | exact ax_sta_mono (fun _ _ => hR _ _ _ _ _ _)
    | exact ax_inc_mono (fun _ => hR _ _ _ _ _ _)
    | exact ax_bin_mono (fun _ => hR _ _ _ _ _ _)
    | exact ax_getf_mono (fun _ => hR _ _ _ _ _ _)
    | exact ax_putf_mono (fun _ _ => hR _ _ _ _ _ _)
    | exact ax_ald_mono (fun _ => hR _ _ _ _ _ _)
    | exact ax_ast_mono (fun _ _ => hR _ _ _ _ _ _)
    | exact ax_alen_mono (fun _ => hR _ _ _ _ _ _)
    | exact ax_call_mono (fun _ _ _ _ => hR _ _ _ _ _ _)
    | (split <;> first
      | exact id
      | exact ax_if_mono (hR _ _ _ _ _ _)
      | exact ax_br_mono (hR _ _ _ _ _ _) (hR _ _ _ _ _ _)
      | exact ax_sw_mono (fun _ => hR _ _ _ _ _ _)
      | exact fun ⟨N, h1, h2⟩ => ⟨N, h1, ax_if_mono (hR _ _ _ _ _ _) h2⟩)
theorem ax_X.step {M : List ax_M} {X : List (List Value)} {y : Nat} {C : ax_O} {K : ax_K} {i : Nat} {L : ax_L} {S : List Value} {h : ax_H} {ce sl : Nat} (hF : ax_F M X y C K (ax_X M X y C K) i L S h ce sl) : ax_X M X y C K i L S h ce sl := by
  intro R hR
  exact hR _ _ _ _ _ _ (ax_F_mono (fun _ _ _ _ _ _ hx => hx R hR) hF)
/-- k instructions -/
def ax_Fk (M : List ax_M) (X : List (List Value)) (y : Nat) (C : ax_O) (K : ax_K) : Nat → ax_R → ax_R
  | 0, R => R
  | k + 1, R => ax_F M X y C K (ax_Fk M X y C K k R)
theorem ax_X.steps {M : List ax_M} {X : List (List Value)} {y : Nat} {C : ax_O} {K : ax_K} : ∀ (k : Nat) {i : Nat} {L : ax_L} {S : List Value} {h : ax_H} {ce sl : Nat} (_ : ax_Fk M X y C K k (ax_X M X y C K) i L S h ce sl), ax_X M X y C K i L S h ce sl
  | 0, _, _, _, _, _, _, h => h
  | k + 1, _, _, _, _, _, _, h => ax_X.step (ax_F_mono (fun _ _ _ _ _ _ q => ax_X.steps k q) h)
end
section
/-! The small machine against the kit's rows, 2: what the tables must hold, and each instruction. -/
/-- name, code, answer -/
abbrev ax_N : Type := MethodName × ByteArray × Option FieldType
def ax_pc (cd : List ax_I) (i : Nat) : Nat := match ax_nth cd i with
  | some e => e.1
  | none => 0
theorem ax_pc_eq {cd : List ax_I} {i pc : Nat} {r : Instr × Nat × Nat × Int32 × List Nat} (h : ax_nth cd i = some (pc, r)) : ax_pc cd i = pc := by
  unfold ax_pc
  rw [h]
/-- a link to a method: of the tables, or of the nest -/
def ax_lk (TT : List Cond) (NL : List (String × Nat × MethodName × String)) (own : String) (idx : Nat) (y : MethodName) : Prop := Cond.methodLink own idx y ∈ TT ∨ ∃ host : String, (own, idx, y, host) ∈ NL
/-- what an instruction's entry must say; k: how many bytes further the next one stands -/
def ax_ok (M : List ax_M) (X : List (List Value)) (NM : List ax_N) (cl : List vw_C) (TT : List Cond) (NL : List (String × Nat × MethodName × String)) (nm : MethodName) (cc : ByteArray) (rt : Option FieldType) (nl : Nat) (cd : List ax_I) (i : Nat) (e : ax_I) : Prop := match e with
  | (pc, ins, a, b, v, ts) => match ins with
    | .iconst n => decode cc pc = .ok (.iconst n, 1) ∧ ax_pc cd (i + 1) = pc + 1 ∧ Int32.ofInt n = v
    | .bipush n => decode cc pc = .ok (.bipush n, 2) ∧ ax_pc cd (i + 1) = pc + 2 ∧ (Int8.ofInt n).toInt32 = v
    | .sipush n => decode cc pc = .ok (.sipush n, 3) ∧ ax_pc cd (i + 1) = pc + 3 ∧ (Int16.ofInt n).toInt32 = v
    | .ldc n => decode cc pc = .ok (.ldc n, 2) ∧ ax_pc cd (i + 1) = pc + 2 ∧ Cond.constant nm.cls n v ∈ TT
    | .aconst_null => decode cc pc = .ok (.aconst_null, 1) ∧ ax_pc cd (i + 1) = pc + 1
    | .iload_n n => decode cc pc = .ok (.iload_n n, 1) ∧ ax_pc cd (i + 1) = pc + 1 ∧ (n : Nat) = a
    | .iload n => decode cc pc = .ok (.iload n, 2) ∧ ax_pc cd (i + 1) = pc + 2 ∧ n = a
    | .aload_n n => decode cc pc = .ok (.aload_n n, 1) ∧ ax_pc cd (i + 1) = pc + 1 ∧ (n : Nat) = a
    | .aload n => decode cc pc = .ok (.aload n, 2) ∧ ax_pc cd (i + 1) = pc + 2 ∧ n = a
    | .istore_n n => decode cc pc = .ok (.istore_n n, 1) ∧ ax_pc cd (i + 1) = pc + 1 ∧ (n : Nat) = a ∧ a < nl
    | .istore n => decode cc pc = .ok (.istore n, 2) ∧ ax_pc cd (i + 1) = pc + 2 ∧ n = a ∧ a < nl
    | .astore_n n => decode cc pc = .ok (.astore_n n, 1) ∧ ax_pc cd (i + 1) = pc + 1 ∧ (n : Nat) = a ∧ a < nl
    | .astore n => decode cc pc = .ok (.astore n, 2) ∧ ax_pc cd (i + 1) = pc + 2 ∧ n = a ∧ a < nl
    | .iinc n z => decode cc pc = .ok (.iinc n z, 3) ∧ ax_pc cd (i + 1) = pc + 3 ∧ n = a ∧ a < nl ∧ Int32.ofInt z = v
    | .iadd => decode cc pc = .ok (.iadd, 1) ∧ ax_pc cd (i + 1) = pc + 1
    | .isub => decode cc pc = .ok (.isub, 1) ∧ ax_pc cd (i + 1) = pc + 1
    | .imul => decode cc pc = .ok (.imul, 1) ∧ ax_pc cd (i + 1) = pc + 1
    | .iand => decode cc pc = .ok (.iand, 1) ∧ ax_pc cd (i + 1) = pc + 1
    | .ior => decode cc pc = .ok (.ior, 1) ∧ ax_pc cd (i + 1) = pc + 1
    | .ixor => decode cc pc = .ok (.ixor, 1) ∧ ax_pc cd (i + 1) = pc + 1
    | .ishl => decode cc pc = .ok (.ishl, 1) ∧ ax_pc cd (i + 1) = pc + 1
    | .ishr => decode cc pc = .ok (.ishr, 1) ∧ ax_pc cd (i + 1) = pc + 1
    | .dup => decode cc pc = .ok (.dup, 1) ∧ ax_pc cd (i + 1) = pc + 1
    | .pop => decode cc pc = .ok (.pop, 1) ∧ ax_pc cd (i + 1) = pc + 1
    | .dup2 => decode cc pc = .ok (.dup2, 1) ∧ ax_pc cd (i + 1) = pc + 1
    | .dup_x1 => decode cc pc = .ok (.dup_x1, 1) ∧ ax_pc cd (i + 1) = pc + 1
    | .getfield n => decode cc pc = .ok (.getfield n, 3) ∧ ax_pc cd (i + 1) = pc + 3 ∧ ∃ q : vw_C, cl[a]? = some q ∧ b < q.2.2 ∧ Cond.fieldLink nm.cls n (q.2.1 b).1 (q.2.1 b).2.1 (q.2.1 b).2.2.1 ∈ TT
    | .putfield n => decode cc pc = .ok (.putfield n, 3) ∧ ax_pc cd (i + 1) = pc + 3 ∧ ∃ q : vw_C, cl[a]? = some q ∧ b < q.2.2 ∧ Cond.fieldLink nm.cls n (q.2.1 b).1 (q.2.1 b).2.1 (q.2.1 b).2.2.1 ∈ TT ∧ (∃ ty : FieldType, parseFieldDescriptor (q.2.1 b).2.2.1 = some ty ∧ ((v = 0 ∧ ty = .int) ∨ (v = 1 ∧ ty = .boolean) ∨ (v = 2 ∧ ((∃ t, ty = .object t) ∨ ∃ t, ty = .array t)))) ∧ ((q.2.1 b).2.2.2 = false ∨ ((q.2.1 b).2.2.2 = true ∧ nm.name = "<init>" ∧ (q.2.1 b).1 = nm.cls))
    | .iaload => decode cc pc = .ok (.iaload, 1) ∧ ax_pc cd (i + 1) = pc + 1
    | .baload => decode cc pc = .ok (.baload, 1) ∧ ax_pc cd (i + 1) = pc + 1
    | .iastore => decode cc pc = .ok (.iastore, 1) ∧ ax_pc cd (i + 1) = pc + 1
    | .bastore => decode cc pc = .ok (.bastore, 1) ∧ ax_pc cd (i + 1) = pc + 1
    | .arraylength => decode cc pc = .ok (.arraylength, 1) ∧ ax_pc cd (i + 1) = pc + 1
    | .if_icmp c o => decode cc pc = .ok (.if_icmp c o, 3) ∧ ax_pc cd (i + 1) = pc + 3 ∧ (pc : Int) + o = (ax_pc cd a : Int)
    | .ifCond c o => decode cc pc = .ok (.ifCond c o, 3) ∧ ax_pc cd (i + 1) = pc + 3 ∧ (pc : Int) + o = (ax_pc cd a : Int)
    | .goto o => decode cc pc = .ok (.goto o, 3) ∧ (pc : Int) + o = (ax_pc cd a : Int)
    | .tableswitch d lo hi os => (∃ n, decode cc pc = .ok (.tableswitch d lo hi os, n)) ∧ v.toInt = lo ∧ hi = lo + ts.length - 1 ∧ (pc : Int) + d = (ax_pc cd a : Int) ∧ ∀ k t : Nat, ax_nth ts k = some t → ∃ o : Int, os[k]? = some o ∧ (pc : Int) + o = (ax_pc cd t : Int)
    | .new n => decode cc pc = .ok (.new n, 3) ∧ ax_pc cd (i + 1) = pc + 3 ∧ ∃ (q : vw_C) (fs : List Value), cl[a]? = some q ∧ ax_nth X a = some fs ∧ b = q.2.2 ∧ Cond.classLink nm.cls n q.1 ∈ TT ∧ Cond.instantiable q.1 q.2.2 ∈ TT ∧ Cond.initialized q.1 ∈ TT ∧ (∀ ty : Nat → FieldType, (∀ k, k < q.2.2 → parseFieldDescriptor (q.2.1 k).2.2.1 = some (ty k)) → ∀ j, j < q.2.2 → defaultValue (ty j) = vp_V fs j) ∧ fs.all (ax_okv 0) = true
    | .newarray t => decode cc pc = .ok (.newarray t, 2) ∧ ax_pc cd (i + 1) = pc + 2 ∧ ((t = .int ∧ a = 0) ∨ (t = .boolean ∧ a = 1)) ∧ Cond.arrayClass (newarray.typeOf t) ∈ TT
    | .invokevirtual n => decode cc pc = .ok (.invokevirtual n, 3) ∧ ax_pc cd (i + 1) = pc + 3 ∧ (b = 3 ∨ b = 4) ∧ ∃ (q : ax_N) (ci : Nat) (qc : vw_C), ax_nth NM a = some q ∧ ts = [ci] ∧ cl[ci]? = some qc ∧ qc.1 = q.1.cls ∧ (b = 4 ↔ q.2.2 = none) ∧ ax_lk TT NL nm.cls n q.1 ∧ Cond.instanceMethod q.1 ∈ TT ∧ Cond.selects q.1.cls q.1 q.1 ∈ TT ∧ ∀ r : ax_M, ax_nth M a = some r → ∃ n : Nat, r.2.2.1 = n + 1 ∧ (parseMethodDescriptor q.1.desc).map (fun d => d.parameters.length) = some n
    | .invokestatic n => decode cc pc = .ok (.invokestatic n, 3) ∧ ax_pc cd (i + 1) = pc + 3 ∧ ((b = 1 ∧ Cond.methodLink nm.cls n Lib.Math.max.name ∈ TT ∧ Cond.static Lib.Math.max.name ∈ TT ∧ Cond.initialized "java/lang/Math" ∈ TT ∧ Cond.code Lib.Math.max.name Lib.Math.max.code 2 (some .int) ∈ TT) ∨ (b = 2 ∧ Cond.methodLink nm.cls n Lib.Math.min.name ∈ TT ∧ Cond.static Lib.Math.min.name ∈ TT ∧ Cond.initialized "java/lang/Math" ∈ TT ∧ Cond.code Lib.Math.min.name Lib.Math.min.code 2 (some .int) ∈ TT) ∨
        ((b = 3 ∨ b = 4) ∧ ∃ q : ax_N, ax_nth NM a = some q ∧ (b = 4 ↔ q.2.2 = none) ∧ ax_lk TT NL nm.cls n q.1 ∧ Cond.static q.1 ∈ TT ∧ ∀ r : ax_M, ax_nth M a = some r → (parseMethodDescriptor q.1.desc).map (fun d => d.parameters.length) = some r.2.2.1))
    | .invokespecial n => decode cc pc = .ok (.invokespecial n, 3) ∧ ax_pc cd (i + 1) = pc + 3 ∧ ((b = 0 ∧ Cond.methodLink nm.cls n Lib.objectInit ∈ TT ∧ Cond.instanceMethod Lib.objectInit ∈ TT ∧ Cond.code Lib.objectInit ⟨#[0xb1]⟩ 1 none ∈ TT) ∨
        (b = 4 ∧ ∃ (q : ax_N) (ci : Nat), ax_nth NM a = some q ∧ ts = [ci] ∧ q.2.2 = none ∧ ax_lk TT NL nm.cls n q.1 ∧ q.1.name = "<init>" ∧ Cond.instanceMethod q.1 ∈ TT ∧ ∀ r : ax_M, ax_nth M a = some r → ∃ n : Nat, r.2.2.1 = n + 1 ∧ (parseMethodDescriptor q.1.desc).map (fun d => d.parameters.length) = some n))
    | .ireturn => decode cc pc = .ok (.ireturn, 1) ∧ ((a = 0 ∧ rt = some .int) ∨ (a = 1 ∧ rt = some .boolean))
    | .return_ => decode cc pc = .ok (.return_, 1) ∧ rt = none
    | _ => True
section AXG
variable (M : List ax_M) (X : List (List Value)) (NM : List ax_N) (cl : List vw_C) (TT : List Cond) (NL : List (String × Nat × MethodName × String))
def ax_okl (nm : MethodName) (cc : ByteArray) (rt : Option FieldType) (nl : Nat) (cd : List ax_I) : Nat → List ax_I → Prop
  | _, [] => True
  | i, e :: l => ax_ok M X NM cl TT NL nm cc rt nl cd i e ∧ ax_okl nm cc rt nl cd (i + 1) l
/-- what a method's tables must hold -/
def ax_g3 (q : ax_N) (r : ax_M) : Prop := plainName q.1.cls = true ∧ Cond.code q.1 q.2.1 r.2.1 q.2.2 ∈ TT ∧ Cond.initialized q.1.cls ∈ TT ∧ (q.1.cls ≠ "java/lang/invoke/MethodHandle" ∧ q.1.cls ≠ "java/lang/invoke/VarHandle") ∧ r.2.1 ≤ 21 ∧ r.2.2.1 ≤ r.2.1 ∧ ax_pc r.1 0 = 0 ∧
    ∀ (i : Nat) (e : ax_I), ax_nth r.1 i = some e → ax_ok M X NM cl TT NL q.1 q.2.1 q.2.2 r.2.1 r.1 i e
/-- what the tables must hold -/
def ax_Good : Prop :=
  (∀ w ∈ TT, (w.onTables && w.keeps) = true ∨ ∃ ty, w = Cond.arrayClass ty) ∧
  (∀ (a : Nat) (q : vw_C), cl[a]? = some q → (∀ w ∈ u_ws q.1 q.2.1 q.2.2, w ∈ TT) ∧ (∃ ty : Nat → FieldType, ∀ k, k < q.2.2 → parseFieldDescriptor (q.2.1 k).2.2.1 = some (ty k)) ∧ ∀ a, a < q.2.2 → ∀ b, b < q.2.2 → a ≠ b → (q.2.1 a).2.1 ≠ (q.2.1 b).2.1) ∧
  (∀ (y : Nat) (q : ax_N) (r : ax_M), ax_nth NM y = some q → ax_nth M y = some r → ax_g3 M X NM cl TT NL q r) ∧
  (∀ (y : Nat) (r : ax_M), ax_nth M y = some r → ∃ q : ax_N, ax_nth NM y = some q)
end AXG
theorem ax_okl_at' {M : List ax_M} {X : List (List Value)} {NM : List ax_N} {cl : List vw_C} {TT : List Cond} {NL : List (String × Nat × MethodName × String)} {nm : MethodName} {cc : ByteArray} {rt : Option FieldType} {nl : Nat} {cd : List ax_I} : ∀ (l : List ax_I) (k : Nat), ax_okl M X NM cl TT NL nm cc rt nl cd k l → ∀ (i : Nat) (e : ax_I), ax_nth l i = some e → ax_ok M X NM cl TT NL nm cc rt nl cd (k + i) e
  | [], _, _, _, _, h => by cases h
  | a :: l, k, h, 0, e, he => by
    cases he
    exact h.1
  | a :: l, k, h, i + 1, e, he => by
    have := ax_okl_at' l (k + 1) h.2 i e he
    rw [show k + (i + 1) = k + 1 + i by omega]
    exact this
theorem ax_okl_at {M : List ax_M} {X : List (List Value)} {NM : List ax_N} {cl : List vw_C} {TT : List Cond} {NL : List (String × Nat × MethodName × String)} {nm : MethodName} {cc : ByteArray} {rt : Option FieldType} {nl : Nat} {cd : List ax_I} (h : ax_okl M X NM cl TT NL nm cc rt nl cd 0 cd) (i : Nat) (e : ax_I) (he : ax_nth cd i = some e) : ax_ok M X NM cl TT NL nm cc rt nl cd i e := by
  have := ax_okl_at' cd 0 h i e he
  rwa [Nat.zero_add] at this
def ax_all2 (P : ax_N → ax_M → Prop) : List ax_N → List ax_M → Prop
  | [], [] => True
  | a :: l, b :: m => P a b ∧ ax_all2 P l m
  | _, _ => False
theorem ax_all2_at {P : ax_N → ax_M → Prop} : ∀ {l : List ax_N} {m : List ax_M}, ax_all2 P l m → ∀ (y : Nat) (q : ax_N) (r : ax_M), ax_nth l y = some q → ax_nth m y = some r → P q r
  | [], _, _, _, _, _, h, _ => by cases h
  | _ :: _, [], h, _, _, _, _, _ => False.elim h
  | a :: l, b :: m, h, 0, q, r, h1, h2 => by
    cases h1
    cases h2
    exact h.1
  | a :: l, b :: m, h, y + 1, q, r, h1, h2 => ax_all2_at (l := l) (m := m) h.2 y q r h1 h2
theorem ax_all2_ex {P : ax_N → ax_M → Prop} : ∀ {l : List ax_N} {m : List ax_M}, ax_all2 P l m → ∀ (y : Nat) (r : ax_M), ax_nth m y = some r → ∃ q : ax_N, ax_nth l y = some q
  | _, [], _, _, _, h => by cases h
  | [], _ :: _, h, _, _, _ => False.elim h
  | a :: l, b :: m, _, 0, _, _ => ⟨a, rfl⟩
  | a :: l, b :: m, h, y + 1, r, h2 => ax_all2_ex (l := l) (m := m) h.2 y r h2
abbrev ax_ty (cI cZ : ClassId) : List (ClassId × FieldType) := [(cI, .int), (cZ, .boolean)]
def ax_rm (d mc ms : Nat) : Room := { frames := d, cells := mc, slots := ms, locals := 40 * d }
/-- the world behind a method -/
def ax_Bw (D : va_G) (cl : List vw_C) (cI cZ : ClassId) (A : Nat → Prop) (mc : Nat) (h : ax_H) (ad : Nat → Nat) (u : ax_H × (Nat → Nat)) (t : State) : Prop :=
  va_P D cl (ax_w cI cZ u.2 u.1) t.heap ∧ va_K D cl (ax_ty cI cZ) t ∧ va_D A (ax_w cI cZ u.2 u.1) ∧ (∀ k, k < h.length → u.2 k = ad k) ∧ (mc = 0 → u.2 = ad) ∧ h.length ≤ u.1.length
def ax_Q (D : va_G) (cl : List vw_C) (cI cZ : ClassId) (A : Nat → Prop) (mc : Nat) (h : ax_H) (ad : Nat → Nat) (K : ax_K) (rt : Option FieldType) : Array Value → State → Outcome → State → Prop := match rt with
  | none => va_Qv (fun u : ax_H × (Nat → Nat) => K none u.1) (ax_Bw D cl cI cZ A mc h ad) A
  | some _ => va_Qi (fun (r : Int32) (u : ax_H × (Nat → Nat)) => K (some (.int r)) u.1) (ax_Bw D cl cI cZ A mc h ad) A
def ax_P (D : va_G) (cl : List vw_C) (NL : List (String × Nat × MethodName × String)) (cI cZ : ClassId) (sz : Nat) (h : ax_H) (ad : Nat → Nat) (U : State) : Prop :=
  U.heap.size = sz ∧ va_P D cl (ax_w cI cZ ad h) U.heap ∧ va_K D cl (ax_ty cI cZ) U ∧ va_D (fun _ => True) (ax_w cI cZ ad h) ∧ ∀ q ∈ NL, va_Nw (.methodLinkNest q.1 q.2.1 q.2.2.1 q.2.2.2) U
/-- a method's contract -/
def ax_Met (l : Launch) (D : va_G) (cl : List vw_C) (TT : List Cond) (NL : List (String × Nat × MethodName × String)) (NM : List ax_N) (M : List ax_M) (cI cZ : ClassId) (d : Nat) (y : Nat) (As : List Value) (h : ax_H) (K : ax_K) : Prop :=
  ∀ (q : ax_N) (r : ax_M), ax_nth NM y = some q → ax_nth M y = some r → ∀ (ad : Nat → Nat) (sz : Nat),
    Met l q.1 (Cond.code q.1 q.2.1 r.2.1 q.2.2 :: TT) (ax_rm d r.2.2.2.1 r.2.2.2.2) (va_Pc (As.map (ax_v ad)) (ax_P D cl NL cI cZ sz h ad)) (ax_Q D cl cI cZ (va_A (ax_w cI cZ ad h) sz) r.2.2.2.1 h ad K q.2.2) r.2.2.2.1 r.2.2.2.2 (va_A (ax_w cI cZ ad h) sz)
def ax_Inv (D : va_G) (cl : List vw_C) (cI cZ : ClassId) (A : Nat → Prop) (H0 : Heap) (nl : Nat) (h0 : ax_H) (ad0 : Nat → Nat) (L : ax_L) (h : ax_H) (ce : Nat) (ad : Nat → Nat) (H : Heap) (locs : List Loc) (ls : Array Slot) : Prop :=
  L.length = nl ∧ lv_has ls nl (ax_lv ad L) ∧ va_P D cl (ax_w cI cZ ad h) H ∧ va_D A (ax_w cI cZ ad h) ∧ va_S A H0 H locs ∧ (∀ k, k < h0.length → ad k = ad0 k) ∧ (ce = 0 → ad = ad0) ∧ h0.length ≤ h.length
def ax_W (p : Program) (l : Launch) (e : Env) (R : Room) (s : State) (m : MethodId) (args : Array Value) (below : List Frame) (meth : Method) (c : Code) (D : va_G) (cl : List vw_C) (cI cZ : ClassId) (A : Nat → Prop) (nl : Nat) (cd : List ax_I) (h0 : ax_H) (ad0 : Nat → Nat) (Q : State → Prop) : ax_R := fun i L S h ce sl =>
  ∀ (ad : Nat → Nat) (H : Heap) (locs : List Loc) (ls : Array Slot), ax_Inv D cl cI cZ A s.heap nl h0 ad0 L h ce ad H locs ls → W p l e R s m args below meth c H locs ce sl Q (F0 m (ax_pc cd i) ls (S.map (ax_v ad)))
end
section
/-! The small machine against the kit's rows, 3: what an instruction's predicate says, taken apart. -/
theorem ax_bin_inv {f : Int32 → Int32 → Int32} {S : List Value} {k : List Value → Prop} (h : ax_bin f S k) : ∃ x y r, S = .int y :: .int x :: r ∧ k (.int (f x y) :: r) := by
  rcases S with _ | ⟨v1, _ | ⟨v2, r⟩⟩
  · exact False.elim h
  · cases v1 <;> exact False.elim h
  · cases v1 <;> cases v2 <;> first | exact ⟨_, _, _, rfl, h⟩ | exact False.elim h
theorem ax_ldi_inv {L : ax_L} {i : Nat} {k : Value → Prop} (h : ax_ldi L i k) : ∃ x, ax_nth L i = some (some (.int x)) ∧ k (.int x) := by
  unfold ax_ldi at h
  rcases e : ax_nth L i with _ | _ | v
  · rw [e] at h; exact False.elim h
  · rw [e] at h; exact False.elim h
  · rw [e] at h
    cases v <;> first | exact ⟨_, rfl, h⟩ | exact False.elim h
theorem ax_lda_inv {L : ax_L} {i : Nat} {k : Value → Prop} (h : ax_lda L i k) : (∃ q, ax_nth L i = some (some (.ref q)) ∧ k (.ref q)) ∨ (ax_nth L i = some (some .null) ∧ k .null) := by
  unfold ax_lda at h
  rcases e : ax_nth L i with _ | _ | v
  · rw [e] at h; exact False.elim h
  · rw [e] at h; exact False.elim h
  · rw [e] at h
    cases v <;> first | exact Or.inl ⟨_, rfl, h⟩ | exact Or.inr ⟨rfl, h⟩ | exact False.elim h
theorem ax_sti_inv {S : List Value} {k : Value → List Value → Prop} (h : ax_sti S k) : ∃ x r, S = .int x :: r ∧ k (.int x) r := by
  rcases S with _ | ⟨v, r⟩
  · exact False.elim h
  · cases v <;> first | exact ⟨_, _, rfl, h⟩ | exact False.elim h
theorem ax_sta_inv {S : List Value} {k : Value → List Value → Prop} (h : ax_sta S k) : (∃ q r, S = .ref q :: r ∧ k (.ref q) r) ∨ (∃ r, S = .null :: r ∧ k .null r) := by
  rcases S with _ | ⟨v, r⟩
  · exact False.elim h
  · cases v <;> first | exact Or.inl ⟨_, _, rfl, h⟩ | exact Or.inr ⟨_, rfl, h⟩ | exact False.elim h
theorem ax_inc_inv {L : ax_L} {i : Nat} {v : Int32} {k : ax_L → Prop} (h : ax_inc L i v k) : ∃ x, ax_nth L i = some (some (.int x)) ∧ k (L.set i (some (.int (x + v)))) := by
  unfold ax_inc at h
  rcases e : ax_nth L i with _ | _ | v
  · rw [e] at h; exact False.elim h
  · rw [e] at h; exact False.elim h
  · rw [e] at h
    cases v <;> first | exact ⟨_, rfl, h⟩ | exact False.elim h
theorem ax_getf_inv {S : List Value} {h : ax_H} {ci f : Nat} {k : List Value → Prop} (hh : ax_getf S h ci f k) : ∃ q r fs x, S = .ref q :: r ∧ ax_nth h q = some (.inr (ci, fs)) ∧ ax_nth fs f = some x ∧ k (x :: r) := by
  rcases S with _ | ⟨v, r⟩
  · exact False.elim hh
  · cases v with
    | ref q =>
      unfold ax_getf at hh
      dsimp only at hh
      rcases e : ax_nth h q with _ | c | ⟨c, fs⟩
      · rw [e] at hh; exact False.elim hh
      · rw [e] at hh; exact False.elim hh
      · rw [e] at hh
        obtain ⟨h1, h2⟩ := ax_if_t hh
        have h3 := Nat.eq_of_beq_eq_true h1
        subst h3
        rcases e2 : ax_nth fs f with _ | x
        · rw [e2] at h2; exact False.elim h2
        · rw [e2] at h2
          exact ⟨q, r, fs, x, rfl, e, e2, h2⟩
    | _ => exact False.elim hh
theorem ax_fit_inv {ty : Int32} {v : Value} {k : Prop} (h : ax_fit ty v k) : k ∧ ((∃ x, v = .int x ∧ (ty = 0 ∨ (ty = 1 ∧ (x = 0 ∨ x = 1)))) ∨ (ty = 2 ∧ (v = .null ∨ ∃ q, v = .ref q))) := by
  cases v <;> first | exact ⟨h.2, Or.inl ⟨_, rfl, h.1⟩⟩ | exact ⟨h.2, Or.inr ⟨h.1, Or.inl rfl⟩⟩ | exact ⟨h.2, Or.inr ⟨h.1, Or.inr ⟨_, rfl⟩⟩⟩ | exact False.elim h
theorem ax_putf_inv {S : List Value} {h : ax_H} {ci f : Nat} {ty : Int32} {k : List Value → ax_H → Prop} (hh : ax_putf S h ci f ty k) : ∃ v q r fs, S = v :: .ref q :: r ∧ ax_nth h q = some (.inr (ci, fs)) ∧ f < fs.length ∧ ((∃ x, v = .int x ∧ (ty = 0 ∨ (ty = 1 ∧ (x = 0 ∨ x = 1)))) ∨ (ty = 2 ∧ (v = .null ∨ ∃ q, v = .ref q))) ∧ k r (h.set q (.inr (ci, fs.set f v))) := by
  rcases S with _ | ⟨v, _ | ⟨w, r⟩⟩
  · exact False.elim hh
  · exact False.elim hh
  · cases w with
    | ref q =>
      unfold ax_putf at hh
      dsimp only at hh
      rcases e : ax_nth h q with _ | c | ⟨c, fs⟩
      · rw [e] at hh; exact False.elim hh
      · rw [e] at hh; exact False.elim hh
      · rw [e] at hh
        obtain ⟨h1, h2⟩ := ax_if_t hh
        rw [Bool.and_eq_true] at h1
        have h3 := Nat.eq_of_beq_eq_true h1.1
        subst h3
        obtain ⟨h4, h5⟩ := ax_fit_inv h2
        exact ⟨v, q, r, fs, rfl, e, Nat.le_of_ble_eq_true h1.2, h5, h4⟩
    | _ => exact False.elim hh
theorem ax_ald_inv {z : Bool} {S : List Value} {h : ax_H} {k : List Value → Prop} (hh : ax_ald z S h k) : ∃ a q r n f, S = .int (nI a) :: .ref q :: r ∧ ax_nth h q = some (.inl (z, n, f)) ∧ a < n ∧ a < 2147483648 ∧ k (.int (f a) :: r) := by
  rcases S with _ | ⟨v, _ | ⟨w, r⟩⟩
  · exact False.elim hh
  · cases v <;> exact False.elim hh
  · cases v with
    | int j =>
      cases w with
      | ref q =>
        unfold ax_ald at hh
        dsimp only at hh
        rcases e : ax_nth h q with _ | ⟨z', n, f⟩ | c
        · rw [e] at hh; exact False.elim hh
        · rw [e] at hh
          obtain ⟨h1, a, h2, h3, h4⟩ := ax_if_t hh
          have h5 : z = z' := by simpa using h1
          subst h5
          subst h3
          exact ⟨a, q, r, n, f, rfl, e, h2.1, h2.2, h4⟩
        · rw [e] at hh; exact False.elim hh
      | _ => exact False.elim hh
    | _ => exact False.elim hh
theorem ax_ast_inv {z : Bool} {S : List Value} {h : ax_H} {k : List Value → ax_H → Prop} (hh : ax_ast z S h k) : ∃ x a q r n f, S = .int x :: .int (nI a) :: .ref q :: r ∧ ax_nth h q = some (.inl (z, n, f)) ∧ a < n ∧ a < 2147483648 ∧ k r (h.set q (.inl (z, n, upd f a (ax_zv z x)))) := by
  rcases S with _ | ⟨u, _ | ⟨v, _ | ⟨w, r⟩⟩⟩
  · exact False.elim hh
  · cases u <;> exact False.elim hh
  · cases u <;> cases v <;> exact False.elim hh
  · cases u with
    | int x =>
      cases v with
      | int j =>
        cases w with
        | ref q =>
          unfold ax_ast at hh
          dsimp only at hh
          rcases e : ax_nth h q with _ | ⟨z', n, f⟩ | c
          · rw [e] at hh; exact False.elim hh
          · rw [e] at hh
            obtain ⟨h1, a, h2, h3, h4⟩ := ax_if_t hh
            have h5 : z = z' := by simpa using h1
            subst h5
            subst h3
            exact ⟨x, a, q, r, n, f, rfl, e, h2.1, h2.2, h4⟩
          · rw [e] at hh; exact False.elim hh
        | _ => exact False.elim hh
      | _ => exact False.elim hh
    | _ => exact False.elim hh
theorem ax_alen_inv {S : List Value} {h : ax_H} {k : List Value → Prop} (hh : ax_alen S h k) : ∃ q r z n f, S = .ref q :: r ∧ ax_nth h q = some (.inl (z, n, f)) ∧ k (.int (nI n) :: r) := by
  rcases S with _ | ⟨v, r⟩
  · exact False.elim hh
  · cases v with
    | ref q =>
      unfold ax_alen at hh
      dsimp only at hh
      rcases e : ax_nth h q with _ | ⟨z', n, f⟩ | c
      · rw [e] at hh; exact False.elim hh
      · rw [e] at hh
        exact ⟨q, r, z', n, f, rfl, e, hh⟩
      · rw [e] at hh; exact False.elim hh
    | _ => exact False.elim hh
theorem ax_args_spec : ∀ (n : Nat) (acc S As r : List Value), ax_args n acc S = some (As, r) → ∃ Bs : List Value, Bs.length = n ∧ S = Bs ++ r ∧ As = Bs.reverse ++ acc := by
  intro n
  induction n with
  | zero =>
    intro acc S As r h
    cases h
    exact ⟨[], rfl, rfl, rfl⟩
  | succ n ih =>
    intro acc S As r h
    cases S with
    | nil => cases h
    | cons v S =>
      obtain ⟨Bs, h1, h2, h3⟩ := ih (v :: acc) S As r h
      refine ⟨v :: Bs, by simp [h1], by simp [h2], by simp [h3]⟩
theorem ax_args_0 {n : Nat} {S As r : List Value} (h : ax_args n [] S = some (As, r)) : As.length = n ∧ S = As.reverse ++ r := by
  obtain ⟨Bs, h1, h2, h3⟩ := ax_args_spec n [] S As r h
  subst h3
  exact ⟨by simp [h1], by simp [h2]⟩
theorem ax_rcv_inv {ci : Nat} {ts : List Nat} {As : List Value} {h : ax_H} (hh : ax_rcv (ci :: ts) As h = true) : ∃ p As' fs, As = .ref p :: As' ∧ ax_nth h p = some (.inr (ci, fs)) := by
  rcases As with _ | ⟨v, As'⟩
  · cases hh
  · cases v with
    | ref p =>
      unfold ax_rcv at hh
      dsimp only at hh
      rcases e : ax_nth h p with _ | c | ⟨c, fs⟩
      · rw [e] at hh; cases hh
      · rw [e] at hh; cases hh
      · rw [e] at hh
        have h3 := Nat.eq_of_beq_eq_true hh
        subst h3
        exact ⟨p, As', fs, rfl, e⟩
    | _ => cases hh
theorem ax_call3_inv {M : List ax_M} {mc ms : Nat} {C : ax_O} {a : Nat} {ts : List Nat} {L : ax_L} {S : List Value} {h : ax_H} {ce sl : Nat} {R : List Value → ax_H → Nat → Nat → Prop} (hh : ax_call M mc ms C a 3 ts L S h ce sl R) :
    ∃ (rM : ax_M) (As r : List Value) (K : ax_K), ax_nth M a = some rM ∧ As.length = rM.2.2.1 ∧ S = As.reverse ++ r ∧ r.length ≤ 4 ∧ ce + rM.2.2.2.1 ≤ mc ∧ sl + rM.2.2.2.2 ≤ ms ∧ (rM.2.2.2.1 = 0 ∨ ax_okf h.length L r = true) ∧ ax_rcv ts As h = true ∧ C a As h K ∧ ∀ (z : Int32) (h' : ax_H), K (some (.int z)) h' → R (.int z :: r) h' (ce + rM.2.2.2.1) (sl + rM.2.2.2.2) := by
  unfold ax_call at hh
  rcases e : ax_nth M a with _ | ⟨cdA, nlA, n, mA, sA⟩
  · rw [e] at hh; exact False.elim hh
  · rw [e] at hh
    dsimp only at hh
    rcases e2 : ax_args n [] S with _ | ⟨As, r⟩
    · rw [e2] at hh; exact False.elim hh
    · rw [e2] at hh
      obtain ⟨h1, K, h2, h3⟩ := ax_if_t hh
      simp only [Bool.and_eq_true, Bool.or_eq_true] at h1
      obtain ⟨g1, g2, g3, g4, g5⟩ := h1
      obtain ⟨k1, k2⟩ := ax_args_0 e2
      exact ⟨_, As, r, K, rfl, k1, k2, Nat.le_of_ble_eq_true g1, Nat.le_of_ble_eq_true g2, Nat.le_of_ble_eq_true g3, g4.imp Nat.eq_of_beq_eq_true id, g5, h2, h3⟩
theorem ax_call4_inv {M : List ax_M} {mc ms : Nat} {C : ax_O} {a : Nat} {ts : List Nat} {L : ax_L} {S : List Value} {h : ax_H} {ce sl : Nat} {R : List Value → ax_H → Nat → Nat → Prop} (hh : ax_call M mc ms C a 4 ts L S h ce sl R) :
    ∃ (rM : ax_M) (As r : List Value) (K : ax_K), ax_nth M a = some rM ∧ As.length = rM.2.2.1 ∧ S = As.reverse ++ r ∧ r.length ≤ 4 ∧ ce + rM.2.2.2.1 ≤ mc ∧ sl + rM.2.2.2.2 ≤ ms ∧ (rM.2.2.2.1 = 0 ∨ ax_okf h.length L r = true) ∧ ax_rcv ts As h = true ∧ C a As h K ∧ ∀ h' : ax_H, K none h' → R r h' (ce + rM.2.2.2.1) (sl + rM.2.2.2.2) := by
  unfold ax_call at hh
  rcases e : ax_nth M a with _ | ⟨cdA, nlA, n, mA, sA⟩
  · rw [e] at hh; exact False.elim hh
  · rw [e] at hh
    dsimp only at hh
    rcases e2 : ax_args n [] S with _ | ⟨As, r⟩
    · rw [e2] at hh; exact False.elim hh
    · rw [e2] at hh
      obtain ⟨h1, K, h2, h3⟩ := ax_if_t hh
      simp only [Bool.and_eq_true, Bool.or_eq_true] at h1
      obtain ⟨g1, g2, g3, g4, g5⟩ := h1
      obtain ⟨k1, k2⟩ := ax_args_0 e2
      exact ⟨_, As, r, K, rfl, k1, k2, Nat.le_of_ble_eq_true g1, Nat.le_of_ble_eq_true g2, Nat.le_of_ble_eq_true g3, g4.imp Nat.eq_of_beq_eq_true id, g5, h2, h3⟩
theorem ax_call0_inv {M : List ax_M} {mc ms : Nat} {C : ax_O} {a : Nat} {ts : List Nat} {L : ax_L} {S : List Value} {h : ax_H} {ce sl : Nat} {R : List Value → ax_H → Nat → Nat → Prop} (hh : ax_call M mc ms C a 0 ts L S h ce sl R) : ∃ q r, S = .ref q :: r ∧ r.length ≤ 4 ∧ R r h ce sl := by
  rcases S with _ | ⟨v, r⟩
  · exact False.elim hh
  · cases v with
    | ref q =>
      obtain ⟨h1, h2⟩ := ax_if_t (show ax_if (Nat.ble r.length 4) (R r h ce sl) from hh)
      exact ⟨q, r, rfl, Nat.le_of_ble_eq_true h1, h2⟩
    | _ => exact False.elim hh
theorem ax_call1_inv {M : List ax_M} {mc ms : Nat} {C : ax_O} {a : Nat} {ts : List Nat} {L : ax_L} {S : List Value} {h : ax_H} {ce sl : Nat} {R : List Value → ax_H → Nat → Nat → Prop} (hh : ax_call M mc ms C a 1 ts L S h ce sl R) : ∃ x y r, S = .int y :: .int x :: r ∧ r.length ≤ 4 ∧ ce ≤ mc ∧ sl ≤ ms ∧ R (.int (if x < y then y else x) :: r) h ce sl := by
  rcases S with _ | ⟨v, _ | ⟨w, r⟩⟩
  · exact False.elim hh
  · cases v <;> exact False.elim hh
  · cases v with
    | int y =>
      cases w with
      | int x =>
        obtain ⟨h1, h2⟩ := ax_if_t (show ax_if (Nat.ble r.length 4 && (Nat.ble ce mc && Nat.ble sl ms)) (R (.int (if x < y then y else x) :: r) h ce sl) from hh)
        simp only [Bool.and_eq_true] at h1
        exact ⟨x, y, r, rfl, Nat.le_of_ble_eq_true h1.1, Nat.le_of_ble_eq_true h1.2.1, Nat.le_of_ble_eq_true h1.2.2, h2⟩
      | _ => exact False.elim hh
    | _ => exact False.elim hh
theorem ax_call2_inv {M : List ax_M} {mc ms : Nat} {C : ax_O} {a : Nat} {ts : List Nat} {L : ax_L} {S : List Value} {h : ax_H} {ce sl : Nat} {R : List Value → ax_H → Nat → Nat → Prop} (hh : ax_call M mc ms C a 2 ts L S h ce sl R) : ∃ x y r, S = .int y :: .int x :: r ∧ r.length ≤ 4 ∧ ce ≤ mc ∧ sl ≤ ms ∧ R (.int (if y < x then y else x) :: r) h ce sl := by
  rcases S with _ | ⟨v, _ | ⟨w, r⟩⟩
  · exact False.elim hh
  · cases v <;> exact False.elim hh
  · cases v with
    | int y =>
      cases w with
      | int x =>
        obtain ⟨h1, h2⟩ := ax_if_t (show ax_if (Nat.ble r.length 4 && (Nat.ble ce mc && Nat.ble sl ms)) (R (.int (if y < x then y else x) :: r) h ce sl) from hh)
        simp only [Bool.and_eq_true] at h1
        exact ⟨x, y, r, rfl, Nat.le_of_ble_eq_true h1.1, Nat.le_of_ble_eq_true h1.2.1, Nat.le_of_ble_eq_true h1.2.2, h2⟩
      | _ => exact False.elim hh
    | _ => exact False.elim hh
/-- words of a stack of places: at most two each -/
theorem ax_cat_le (ad : Nat → Nat) (r : List Value) : ((r.map (ax_v ad)).map fun v => v.category).sum ≤ 2 * r.length := by
  induction r with
  | nil => exact Nat.le_refl _
  | cons v r ih =>
    have h1 : (ax_v ad v).category = 1 ∨ (ax_v ad v).category = 2 := lv_cat _
    simp only [List.map_cons, List.sum_cons, List.length_cons]
    omega
end
section
/-! The small machine against the kit's rows, 4: each instruction, then methods by depth. -/
section AXS
variable {l : Launch} {D : va_G} {cl : List vw_C} {TT : List Cond} {NL : List (String × Nat × MethodName × String)} {NM : List ax_N} {M : List ax_M} {X : List (List Value)} {cI cZ : ClassId}
/-- behind a call: the world has moved, the frame stands -/
theorem ax_back {A : Nat → Prop} {H0 H1 : Heap} {nl : Nat} {h0 : ax_H} {ad0 ad ad' : Nat → Nat} {L : ax_L} {r : List Value} {h h' : ax_H} {ce mA : Nat} {H : Heap} {locs locs1 : List Loc} {ls : Array Slot} {t : State}
    (hI : ax_Inv D cl cI cZ A H0 nl h0 ad0 L h ce ad H locs ls) (hF : ∀ q, va_A (ax_w cI cZ ad h) H.size q → A q) (hok : mA = 0 ∨ ax_okf h.length L r = true) (hB : ax_Bw D cl cI cZ (va_A (ax_w cI cZ ad h) H.size) mA h ad (h', ad') t) (ht : t.heap = H1) (hS1 : va_S A H0 H1 locs1) :
    ax_Inv D cl cI cZ A H0 nl h0 ad0 L h' (ce + mA) ad' H1 locs1 ls ∧ r.map (ax_v ad') = r.map (ax_v ad) := by
  obtain ⟨hL, hl, hP, hD, hS, hag, hz, hlen⟩ := hI
  obtain ⟨bP, bK, bD, b1, b2, b3⟩ := hB
  dsimp only at bP bD b1 b2 b3
  have hk : lv_has ls nl (ax_lv ad' L) ∧ r.map (ax_v ad') = r.map (ax_v ad) := by
    rcases hok with h1 | h1
    · rw [b2 h1]
      exact ⟨hl, rfl⟩
    · unfold ax_okf at h1
      rw [Bool.and_eq_true] at h1
      exact ⟨ax_lv_ad b1 h1.1 hl, ax_vs_eq b1 h1.2⟩
  refine ⟨⟨hL, hk.1, by rw [← ht]; exact bP, bD.weaken (fun k q _ hq => hF q.1 hq), hS1, fun k hk => ?_, fun hc => ?_, Nat.le_trans hlen b3⟩, hk.2⟩
  · rw [b1 k (Nat.lt_of_lt_of_le hk hlen), hag k hk]
  · rw [b2 (by omega), hz (by omega)]
theorem ax_blind {As : List Value} {sz : Nat} {h : ax_H} {ad : Nat → Nat} : FrameBlind (va_Pc As (ax_P D cl NL cI cZ sz h ad)) := by
  intro a U g mk q
  obtain ⟨q0, q1, qP, qK, qD, qN⟩ := q
  exact ⟨q0, q1, qP, va_K.moved (u := U) (U := U.calling g mk a) (Vm.Alike.refl U.vm) qK, qD, fun w hw => va_Nw.same rfl rfl (qN w hw)⟩
theorem ax_pre {s : State} {As : List Value} {h : ax_H} {ad : Nat → Nat} {H : Heap} {A : Nat → Prop} (hP : va_P D cl (ax_w cI cZ ad h) H) (hD : va_D A (ax_w cI cZ ad h)) (hK : va_K D cl (ax_ty cI cZ) s) (hN : ∀ q ∈ NL, va_Nw (.methodLinkNest q.1 q.2.1 q.2.2.1 q.2.2.2) s) (U : State) (hU : U.heap = H) (hW : s.WarmedH U.vm) : va_Pc As (ax_P D cl NL cI cZ H.size h ad) As.toArray U :=
  ⟨rfl, by rw [hU], by rw [hU]; exact hP, va_K.moved hW.alike hK, hD.weaken (fun _ _ _ _ => trivial), fun q hq => va_Nw.warmM hW (hN q hq)⟩
theorem ax_inA {A : Nat → Prop} {H0 H : Heap} {locs : List Loc} {ad : Nat → Nat} {h : ax_H} (hD : va_D A (ax_w cI cZ ad h)) (hS : va_S A H0 H locs) (hA : ∀ q, H0.size ≤ q → A q) : ∀ q, va_A (ax_w cI cZ ad h) H.size q → A q := by
  intro q hq
  rcases hq with ⟨k, e, hk⟩ | hq
  · exact hD.2 k (q, e) hk
  · exact hA q (Nat.le_trans hS.1 hq)
variable {p : Program} {e : Env} {s : State} {m : MethodId} {args : Array Value} {below : List Frame} {meth : Method} {c : Code} {H : Heap} {locs : List Loc} {ce sl : Nat} {Q : State → Prop} {A : Nat → Prop}
/-- a call that answers an int, whatever its kind -/
theorem ax_calli {d mc ms : Nat} {h0 : ax_H} {ad0 ad : Nat → Nat} {L : ax_L} {h : ax_H} {ls : Array Slot} {nl pc : Nat} {rM : ax_M} {qN : ax_N} {As r st0 : List Value} {K : ax_K} {ty : FieldType}
    (hr : va_Run p l e (ax_rm (d + 1) mc ms) s m args below meth c H locs ce sl rM.2.2.2.1 rM.2.2.2.2 (F0 m pc ls st0) (r.map (ax_v ad)) (ax_Q D cl cI cZ (va_A (ax_w cI cZ ad h) H.size) rM.2.2.2.1 h ad K qN.2.2 (As.map (ax_v ad)).toArray) (va_A (ax_w cI cZ ad h) H.size))
    (hrt : qN.2.2 = some ty) (hI : ax_Inv D cl cI cZ A s.heap nl h0 ad0 L h ce ad H locs ls) (hA : ∀ q, s.heap.size ≤ q → A q) (hok : rM.2.2.2.1 = 0 ∨ ax_okf h.length L r = true)
    (kk : ∀ (z : Int32) (h' : ax_H), K (some (.int z)) h' → ∀ (ad' : Nat → Nat) (H1 : Heap) (locs1 : List Loc), ax_Inv D cl cI cZ A s.heap nl h0 ad0 L h' (ce + rM.2.2.2.1) ad' H1 locs1 ls → W p l e (ax_rm (d + 1) mc ms) s m args below meth c H1 locs1 (ce + rM.2.2.2.1) (sl + rM.2.2.2.2) Q (F0 m (pc + 3) ls ((Value.int z :: r).map (ax_v ad')))) :
    W p l e (ax_rm (d + 1) mc ms) s m args below meth c H locs ce sl Q (F0 m pc ls st0) := by
  have hF := ax_inA hI.2.2.2.1 hI.2.2.2.2.1 hA
  rw [hrt] at hr
  refine va_calli (a := (As.map (ax_v ad)).toArray) (post := fun (r : Int32) (u : ax_H × (Nat → Nat)) => K (some (.int r)) u.1) (B := ax_Bw D cl cI cZ (va_A (ax_w cI cZ ad h) H.size) rM.2.2.2.1 h ad) hr hI.2.2.2.2.1 (fun q _ hq => hF q hq) hF (fun z u t H1 locs1 ht hvm hw hB hz1 hk1 hS1 => ?_)
  obtain ⟨h', ad'⟩ := u
  obtain ⟨hI', he⟩ := ax_back hI hF hok hB ht hS1
  have := kk z h' hw ad' H1 locs1 hI'
  rw [List.map_cons, he] at this
  exact this
theorem ax_callv {d mc ms : Nat} {h0 : ax_H} {ad0 ad : Nat → Nat} {L : ax_L} {h : ax_H} {ls : Array Slot} {nl pc : Nat} {rM : ax_M} {qN : ax_N} {As r st0 : List Value} {K : ax_K}
    (hr : va_Run p l e (ax_rm (d + 1) mc ms) s m args below meth c H locs ce sl rM.2.2.2.1 rM.2.2.2.2 (F0 m pc ls st0) (r.map (ax_v ad)) (ax_Q D cl cI cZ (va_A (ax_w cI cZ ad h) H.size) rM.2.2.2.1 h ad K qN.2.2 (As.map (ax_v ad)).toArray) (va_A (ax_w cI cZ ad h) H.size))
    (hrt : qN.2.2 = none) (hI : ax_Inv D cl cI cZ A s.heap nl h0 ad0 L h ce ad H locs ls) (hA : ∀ q, s.heap.size ≤ q → A q) (hok : rM.2.2.2.1 = 0 ∨ ax_okf h.length L r = true)
    (kk : ∀ h' : ax_H, K none h' → ∀ (ad' : Nat → Nat) (H1 : Heap) (locs1 : List Loc), ax_Inv D cl cI cZ A s.heap nl h0 ad0 L h' (ce + rM.2.2.2.1) ad' H1 locs1 ls → W p l e (ax_rm (d + 1) mc ms) s m args below meth c H1 locs1 (ce + rM.2.2.2.1) (sl + rM.2.2.2.2) Q (F0 m (pc + 3) ls (r.map (ax_v ad')))) :
    W p l e (ax_rm (d + 1) mc ms) s m args below meth c H locs ce sl Q (F0 m pc ls st0) := by
  have hF := ax_inA hI.2.2.2.1 hI.2.2.2.2.1 hA
  rw [hrt] at hr
  refine va_callv (a := (As.map (ax_v ad)).toArray) (post := fun (u : ax_H × (Nat → Nat)) => K none u.1) (B := ax_Bw D cl cI cZ (va_A (ax_w cI cZ ad h) H.size) rM.2.2.2.1 h ad) hr hI.2.2.2.2.1 (fun q _ hq => hF q hq) hF (fun u t H1 locs1 ht hvm hw hB hz1 hk1 hS1 => ?_)
  obtain ⟨h', ad'⟩ := u
  obtain ⟨hI', he⟩ := ax_back hI hF hok hB ht hS1
  have := kk h' hw ad' H1 locs1 hI'
  rw [he] at this
  exact this
/-- the words of a callee, out of the caller's -/
theorem ax_gi (G : ∀ w ∈ TT, (w.onTables && w.keeps) = true ∨ ∃ ty, w = Cond.arrayClass ty) {w0 : Cond} {ws : List Cond} (h : ∀ w ∈ ws, w ∈ TT) : GoodIn (w0 :: TT) ws := fun w hw => ⟨List.mem_cons_of_mem _ (h w hw), G w (h w hw)⟩
theorem ax_runV (G : ax_Good M X NM cl TT NL) {d mc ms : Nat} {C : ax_O} (hC : ∀ y As h K, C y As h K → ax_Met l D cl TT NL NM M cI cZ d y As h K) {w0 : Cond} {own : String} {cc : ByteArray} {nL : Nat} (S : CallFix p m c cc nL s args (w0 :: TT) own)
    (hK : va_K D cl (ax_ty cI cZ) s) (hN : ∀ q ∈ NL, va_Nw (.methodLinkNest q.1 q.2.1 q.2.2.1 q.2.2.2) s) {a idx ci : Nat} {qN : ax_N} {rM : ax_M} {qc : vw_C} (hn : ax_nth NM a = some qN) (hm : ax_nth M a = some rM) (hci : cl[ci]? = some qc) (hcc : qc.1 = qN.1.cls) (hlk : ax_lk TT NL own idx qN.1) (him : Cond.instanceMethod qN.1 ∈ TT) (hse : Cond.selects qN.1.cls qN.1 qN.1 ∈ TT) {n : Nat} (hn1 : rM.2.2.1 = n + 1) (hpd : (parseMethodDescriptor qN.1.desc).map (fun d => d.parameters.length) = some n)
    {h : ax_H} {ad : Nat → Nat} {As r : List Value} {K : ax_K} (hc : C a As h K) (hP : va_P D cl (ax_w cI cZ ad h) H) (hD : va_D A (ax_w cI cZ ad h)) (hAl : As.length = rM.2.2.1) (hrc : ax_rcv [ci] As h = true) (hr4 : r.length ≤ 4) {ls : Array Slot} {pc : Nat} (hls : ls.size = nL) (hdg : decode cc pc = .ok (.invokevirtual idx, 3)) (hcm : ce + rM.2.2.2.1 ≤ mc) (hsm : sl + rM.2.2.2.2 ≤ ms) :
    va_Run p l e (ax_rm (d + 1) mc ms) s m args below meth c H locs ce sl rM.2.2.2.1 rM.2.2.2.2 (F0 m pc ls ((As.reverse ++ r).map (ax_v ad))) (r.map (ax_v ad)) (ax_Q D cl cI cZ (va_A (ax_w cI cZ ad h) H.size) rM.2.2.2.1 h ad K qN.2.2 (As.map (ax_v ad)).toArray) (va_A (ax_w cI cZ ad h) H.size) := by
  obtain ⟨G1, G2, G3, G4⟩ := G
  obtain ⟨g1, g2, g3, g4, g5, g6, g7, g8⟩ := G3 a qN rM hn hm
  have hM := hC a As h K hc qN rM hn hm ad H.size
  obtain ⟨q, As', fs, rfl, hq⟩ := ax_rcv_inv hrc
  have hts := S.2.2.2.2
  have hR : (ax_rm d rM.2.2.2.1 rM.2.2.2.2).frames + 1 ≤ (ax_rm (d + 1) mc ms).frames ∧ 8 + (rM.2.1 + 11) + (ax_rm d rM.2.2.2.1 rM.2.2.2.2).locals ≤ (ax_rm (d + 1) mc ms).locals := by
    refine ⟨Nat.le_refl _, ?_⟩
    show 8 + (rM.2.1 + 11) + 40 * d ≤ 40 * (d + 1)
    omega
  have hGw : GoodIn (w0 :: TT) (Cond.code qN.1 qN.2.1 rM.2.1 qN.2.2 :: TT) := ax_gi G1 (fun w hw => by
    rcases List.mem_cons.mp hw with rfl | hw
    · exact g2
    · exact hw)
  have hd3 : qN.1.cls ≠ "java/lang/invoke/MethodHandle" ∧ qN.1.cls ≠ "java/lang/invoke/VarHandle" ∧ (parseMethodDescriptor qN.1.desc).map (fun d => d.parameters.length) = some n := ⟨g4.1, g4.2, hpd⟩
  have hini : (Cond.initialized qN.1.cls).before args s = true := hts _ (List.mem_cons_of_mem _ g3)
  have him' : (Cond.instanceMethod qN.1).before args s = true := hts _ (List.mem_cons_of_mem _ him)
  have hse' : (Cond.selects qN.1.cls qN.1 qN.1).before args s = true := hts _ (List.mem_cons_of_mem _ hse)
  have hrecv : ∃ cellB : Cell, H[ad q]? = some cellB ∧ cellB.vm.isStatics = false ∧ s.vm.findClass qN.1.cls = some cellB.cls := by
    have := va_recv hK hP (ci := ci) (q0 := q) hci (ax_w_get hq)
    rw [hcc] at this
    exact this
  have hpre : PreV s H qN.1.cls (ad q) (va_Pc ((Value.ref q :: As').map (ax_v ad)) (ax_P D cl NL cI cZ H.size h ad)) (As'.map (ax_v ad)) := ⟨ax_blind, hrecv, fun U hU hW => ax_pre hP hD hK hN U hU hW⟩
  have hst : ((Value.ref q :: As').reverse ++ r).map (ax_v ad) = (As'.map (ax_v ad)).reverse ++ Value.ref (ad q) :: r.map (ax_v ad) := by
    simp [ax_v]
  have hW8 : 2 * (F0 m pc ls (((Value.ref q :: As').reverse ++ r).map (ax_v ad))).monitorRoom + ((r.map (ax_v ad)).map fun v => v.category).sum ≤ 8 := lv_room (Nat.le_trans (ax_cat_le ad r) (by omega))
  have hln : (As'.map (ax_v ad)).length = n := by
    rw [List.length_map]
    have : (Value.ref q :: As').length = n + 1 := hAl.trans hn1
    simpa using this
  have hf : ce + rM.2.2.2.1 ≤ (ax_rm (d + 1) mc ms).cells ∧ sl + rM.2.2.2.2 ≤ (ax_rm (d + 1) mc ms).slots := ⟨hcm, hsm⟩
  rcases hlk with hlk | ⟨host, hlk⟩
  · exact va_runV (As := As'.map (ax_v ad)) (rest := r.map (ax_v ad)) S hM ⟨callB_of n hts hGw rfl rfl rfl hini (hts _ (List.mem_cons_of_mem _ hlk)) hd3 hR, him', hse'⟩ hpre rfl hln hls hst hW8 hdg hf
  · exact va_runVN (As := As'.map (ax_v ad)) (rest := r.map (ax_v ad)) S hM ⟨va_cnB n hts hGw rfl rfl rfl (hN _ hlk) hini hd3 hR, him', hse'⟩ hpre rfl hln hls hst hW8 hdg hf
theorem ax_runS (G : ax_Good M X NM cl TT NL) {d mc ms : Nat} {C : ax_O} (hC : ∀ y As h K, C y As h K → ax_Met l D cl TT NL NM M cI cZ d y As h K) {w0 : Cond} {own : String} {cc : ByteArray} {nL : Nat} (S : CallFix p m c cc nL s args (w0 :: TT) own)
    (hK : va_K D cl (ax_ty cI cZ) s) (hN : ∀ q ∈ NL, va_Nw (.methodLinkNest q.1 q.2.1 q.2.2.1 q.2.2.2) s) {a idx : Nat} {qN : ax_N} {rM : ax_M} (hn : ax_nth NM a = some qN) (hm : ax_nth M a = some rM) (hlk : ax_lk TT NL own idx qN.1) (hstt : Cond.static qN.1 ∈ TT) (hpd : (parseMethodDescriptor qN.1.desc).map (fun d => d.parameters.length) = some rM.2.2.1)
    {h : ax_H} {ad : Nat → Nat} {As r : List Value} {K : ax_K} (hc : C a As h K) (hP : va_P D cl (ax_w cI cZ ad h) H) (hD : va_D A (ax_w cI cZ ad h)) (hAl : As.length = rM.2.2.1) (hr4 : r.length ≤ 4) {ls : Array Slot} {pc : Nat} (hls : ls.size = nL) (hdg : decode cc pc = .ok (.invokestatic idx, 3)) (hcm : ce + rM.2.2.2.1 ≤ mc) (hsm : sl + rM.2.2.2.2 ≤ ms) :
    va_Run p l e (ax_rm (d + 1) mc ms) s m args below meth c H locs ce sl rM.2.2.2.1 rM.2.2.2.2 (F0 m pc ls ((As.reverse ++ r).map (ax_v ad))) (r.map (ax_v ad)) (ax_Q D cl cI cZ (va_A (ax_w cI cZ ad h) H.size) rM.2.2.2.1 h ad K qN.2.2 (As.map (ax_v ad)).toArray) (va_A (ax_w cI cZ ad h) H.size) := by
  obtain ⟨G1, G2, G3, G4⟩ := G
  obtain ⟨g1, g2, g3, g4, g5, g6, g7, g8⟩ := G3 a qN rM hn hm
  have hM := hC a As h K hc qN rM hn hm ad H.size
  have hts := S.2.2.2.2
  have hR : (ax_rm d rM.2.2.2.1 rM.2.2.2.2).frames + 1 ≤ (ax_rm (d + 1) mc ms).frames ∧ 8 + (rM.2.1 + 11) + (ax_rm d rM.2.2.2.1 rM.2.2.2.2).locals ≤ (ax_rm (d + 1) mc ms).locals := by
    refine ⟨Nat.le_refl _, ?_⟩
    show 8 + (rM.2.1 + 11) + 40 * d ≤ 40 * (d + 1)
    omega
  have hGw : GoodIn (w0 :: TT) (Cond.code qN.1 qN.2.1 rM.2.1 qN.2.2 :: TT) := ax_gi G1 (fun w hw => by
    rcases List.mem_cons.mp hw with rfl | hw
    · exact g2
    · exact hw)
  have hd3 : qN.1.cls ≠ "java/lang/invoke/MethodHandle" ∧ qN.1.cls ≠ "java/lang/invoke/VarHandle" ∧ (parseMethodDescriptor qN.1.desc).map (fun d => d.parameters.length) = some rM.2.2.1 := ⟨g4.1, g4.2, hpd⟩
  have hini : (Cond.initialized qN.1.cls).before args s = true := hts _ (List.mem_cons_of_mem _ g3)
  have hst' : (Cond.static qN.1).before args s = true := hts _ (List.mem_cons_of_mem _ hstt)
  have hpre : PreS s H (va_Pc (As.map (ax_v ad)) (ax_P D cl NL cI cZ H.size h ad)) (As.map (ax_v ad)) := ⟨ax_blind, fun U hU hW => ax_pre hP hD hK hN U hU hW⟩
  have hst : (As.reverse ++ r).map (ax_v ad) = (As.map (ax_v ad)).reverse ++ r.map (ax_v ad) := by simp
  have hW8 : 2 * (F0 m pc ls ((As.reverse ++ r).map (ax_v ad))).monitorRoom + ((r.map (ax_v ad)).map fun v => v.category).sum ≤ 8 := lv_room (Nat.le_trans (ax_cat_le ad r) (by omega))
  have hln : (As.map (ax_v ad)).length = rM.2.2.1 := by rw [List.length_map]; exact hAl
  have hf : ce + rM.2.2.2.1 ≤ (ax_rm (d + 1) mc ms).cells ∧ sl + rM.2.2.2.2 ≤ (ax_rm (d + 1) mc ms).slots := ⟨hcm, hsm⟩
  rcases hlk with hlk | ⟨host, hlk⟩
  · exact va_runS (As := As.map (ax_v ad)) (rest := r.map (ax_v ad)) S hM ⟨callB_of _ hts hGw rfl rfl rfl hini (hts _ (List.mem_cons_of_mem _ hlk)) hd3 hR, hst'⟩ hpre rfl hln hls hst hW8 hdg hf
  · exact va_runSN (As := As.map (ax_v ad)) (rest := r.map (ax_v ad)) S hM ⟨va_cnB _ hts hGw rfl rfl rfl (hN _ hlk) hini hd3 hR, hst', trivial⟩ hpre rfl hln hls hst hW8 hdg hf
theorem ax_runI (G : ax_Good M X NM cl TT NL) {d mc ms : Nat} {C : ax_O} (hC : ∀ y As h K, C y As h K → ax_Met l D cl TT NL NM M cI cZ d y As h K) {w0 : Cond} {own : String} {cc : ByteArray} {nL : Nat} (S : CallFix p m c cc nL s args (w0 :: TT) own)
    (hK : va_K D cl (ax_ty cI cZ) s) (hN : ∀ q ∈ NL, va_Nw (.methodLinkNest q.1 q.2.1 q.2.2.1 q.2.2.2) s) {a idx ci : Nat} {qN : ax_N} {rM : ax_M} (hn : ax_nth NM a = some qN) (hm : ax_nth M a = some rM) (hrt : qN.2.2 = none) (hlk : ax_lk TT NL own idx qN.1) (hnm : qN.1.name = "<init>") (him : Cond.instanceMethod qN.1 ∈ TT) {n : Nat} (hn1 : rM.2.2.1 = n + 1) (hpd : (parseMethodDescriptor qN.1.desc).map (fun d => d.parameters.length) = some n)
    {h : ax_H} {ad : Nat → Nat} {As r : List Value} {K : ax_K} (hc : C a As h K) (hP : va_P D cl (ax_w cI cZ ad h) H) (hD : va_D A (ax_w cI cZ ad h)) (hAl : As.length = rM.2.2.1) (hrc : ax_rcv [ci] As h = true) (hr4 : r.length ≤ 4) {ls : Array Slot} {pc : Nat} (hls : ls.size = nL) (hdg : decode cc pc = .ok (.invokespecial idx, 3)) (hcm : ce + rM.2.2.2.1 ≤ mc) (hsm : sl + rM.2.2.2.2 ≤ ms) :
    va_Run p l e (ax_rm (d + 1) mc ms) s m args below meth c H locs ce sl rM.2.2.2.1 rM.2.2.2.2 (F0 m pc ls ((As.reverse ++ r).map (ax_v ad))) (r.map (ax_v ad)) (ax_Q D cl cI cZ (va_A (ax_w cI cZ ad h) H.size) rM.2.2.2.1 h ad K qN.2.2 (As.map (ax_v ad)).toArray) (va_A (ax_w cI cZ ad h) H.size) := by
  obtain ⟨G1, G2, G3, G4⟩ := G
  obtain ⟨g1, g2, g3, g4, g5, g6, g7, g8⟩ := G3 a qN rM hn hm
  have hM := hC a As h K hc qN rM hn hm ad H.size
  obtain ⟨q, As', fs, rfl, hq⟩ := ax_rcv_inv hrc
  have hts := S.2.2.2.2
  have hR : (ax_rm d rM.2.2.2.1 rM.2.2.2.2).frames + 1 ≤ (ax_rm (d + 1) mc ms).frames ∧ 8 + (rM.2.1 + 11) + (ax_rm d rM.2.2.2.1 rM.2.2.2.2).locals ≤ (ax_rm (d + 1) mc ms).locals := by
    refine ⟨Nat.le_refl _, ?_⟩
    show 8 + (rM.2.1 + 11) + 40 * d ≤ 40 * (d + 1)
    omega
  rw [hrt] at g2
  have hGw : GoodIn (w0 :: TT) (Cond.code qN.1 qN.2.1 rM.2.1 none :: TT) := ax_gi G1 (fun w hw => by
    rcases List.mem_cons.mp hw with rfl | hw
    · exact g2
    · exact hw)
  have hd3 : qN.1.cls ≠ "java/lang/invoke/MethodHandle" ∧ qN.1.cls ≠ "java/lang/invoke/VarHandle" ∧ (parseMethodDescriptor qN.1.desc).map (fun d => d.parameters.length) = some n := ⟨g4.1, g4.2, hpd⟩
  have hini : (Cond.initialized qN.1.cls).before args s = true := hts _ (List.mem_cons_of_mem _ g3)
  have him' : (Cond.instanceMethod qN.1).before args s = true := hts _ (List.mem_cons_of_mem _ him)
  have hpre : PreS s H (va_Pc ((Value.ref q :: As').map (ax_v ad)) (ax_P D cl NL cI cZ H.size h ad)) (Value.ref (ad q) :: As'.map (ax_v ad)) := ⟨ax_blind, fun U hU hW => ax_pre hP hD hK hN U hU hW⟩
  have hst : ((Value.ref q :: As').reverse ++ r).map (ax_v ad) = (As'.map (ax_v ad)).reverse ++ Value.ref (ad q) :: r.map (ax_v ad) := by
    simp [ax_v]
  have hW8 : 2 * (F0 m pc ls (((Value.ref q :: As').reverse ++ r).map (ax_v ad))).monitorRoom + ((r.map (ax_v ad)).map fun v => v.category).sum ≤ 8 := lv_room (Nat.le_trans (ax_cat_le ad r) (by omega))
  have hln : (As'.map (ax_v ad)).length = n := by
    rw [List.length_map]
    have : (Value.ref q :: As').length = n + 1 := hAl.trans hn1
    simpa using this
  have hf : ce + rM.2.2.2.1 ≤ (ax_rm (d + 1) mc ms).cells ∧ sl + rM.2.2.2.2 ≤ (ax_rm (d + 1) mc ms).slots := ⟨hcm, hsm⟩
  rw [hrt] at hM ⊢
  rcases hlk with hlk | ⟨host, hlk⟩
  · exact va_runI (As := As'.map (ax_v ad)) (rest := r.map (ax_v ad)) S hM ⟨callB_of n hts hGw rfl rfl rfl hini (hts _ (List.mem_cons_of_mem _ hlk)) hd3 hR, hnm, him'⟩ hpre rfl hln hls hst hW8 hdg hf
  · exact va_runIN (As := As'.map (ax_v ad)) (rest := r.map (ax_v ad)) S hM ⟨va_cnB n hts hGw rfl rfl rfl (hN _ hlk) hini hd3 hR, hnm, him'⟩ hpre rfl hln hls hst hW8 hdg hf
end AXS
end
section
/-! The small machine against the kit's rows, 5: one instruction, and all of them. -/
section AXT
variable {l : Launch} {D : va_G} {cl : List vw_C} {TT : List Cond} {NL : List (String × Nat × MethodName × String)} {NM : List ax_N} {M : List ax_M} {X : List (List Value)} {cI cZ : ClassId}
variable {p : Program} {e : Env} {s : State} {m : MethodId} {args : Array Value} {below : List Frame} {meth : Method} {c : Code}
set_option maxHeartbeats 8000000 in
set_option maxRecDepth 100000 in
theorem ax_one (G : ax_Good M X NM cl TT NL) {d : Nat} {C : ax_O} (hC : ∀ y As h K, C y As h K → ax_Met l D cl TT NL NM M cI cZ d y As h K) {y : Nat} {q : ax_N} {cd : List ax_I} {nl n mc ms : Nat} (hn : ax_nth NM y = some q) (hy : ax_nth M y = some (cd, nl, n, mc, ms))
    {h0 : ax_H} {ad0 : Nat → Nat} {A : Nat → Prop} {K : ax_K} (hx : p.tables.exec = Jvm.exec) (hb : c.code = q.2.1) (hr : meth.sig.returnType = q.2.2) (hml : c.maxLocals = nl) (hts : ∀ w ∈ (Cond.code q.1 q.2.1 nl q.2.2 :: TT), w.before args s = true) (hown : s.vm.findClass q.1.cls = some m.cls) (hlocks : meth.locks = false) (hin : meth.name = q.1.name)
    (hN : ∀ q ∈ NL, va_Nw (.methodLinkNest q.1 q.2.1 q.2.2.1 q.2.2.2) s) (hA : ∀ q, s.heap.size ≤ q → A q) (hK : va_K D cl (ax_ty cI cZ) s) :
    ∀ (i : Nat) (L : ax_L) (S : List Value) (h : ax_H) (ce sl : Nat),
      ax_F M X y C K (ax_W p l e (ax_rm (d + 1) mc ms) s m args below meth c D cl cI cZ A nl cd h0 ad0 (MQ below (ax_Q D cl cI cZ A mc h0 ad0 K q.2.2) args s mc ms A)) i L S h ce sl →
      ax_W p l e (ax_rm (d + 1) mc ms) s m args below meth c D cl cI cZ A nl cd h0 ad0 (MQ below (ax_Q D cl cI cZ A mc h0 ad0 K q.2.2) args s mc ms A) i L S h ce sl := by
  intro i L S h ce sl hF ad H locs ls hI
  have hI0 := hI
  obtain ⟨hL, hl, hP, hD, hS, hag, hz, hlen⟩ := hI
  have hTT : ∀ w ∈ TT, w.before args s = true := fun w hw => hts w (List.mem_cons_of_mem _ hw)
  obtain ⟨G1, G2, G3, G4⟩ := id G
  have hok := (G3 y q _ hn hy).2.2.2.2.2.2.2
  have hlsz : ls.size = nl := hl.1
  unfold ax_F at hF
  rw [hy] at hF
  dsimp only at hF hok
  rcases he : ax_nth cd i with _ | ⟨pc, ins, a, b, v, ts⟩
  · rw [he] at hF
    exact False.elim hF
  rw [he] at hF
  dsimp only at hF
  have ok := hok i _ he
  rw [ax_pc_eq he]
  have nx : ∀ {j pc' : Nat} {L' : ax_L} {S' : List Value} {h' : ax_H} {ce' sl' : Nat} {ad' : Nat → Nat} {H' : Heap} {locs' : List Loc} {ls' : Array Slot}, ax_pc cd j = pc' → ax_W p l e (ax_rm (d + 1) mc ms) s m args below meth c D cl cI cZ A nl cd h0 ad0 (MQ below (ax_Q D cl cI cZ A mc h0 ad0 K q.2.2) args s mc ms A) j L' S' h' ce' sl' → ax_Inv D cl cI cZ A s.heap nl h0 ad0 L' h' ce' ad' H' locs' ls' → W p l e (ax_rm (d + 1) mc ms) s m args below meth c H' locs' ce' sl' (MQ below (ax_Q D cl cI cZ A mc h0 ad0 K q.2.2) args s mc ms A) (F0 m pc' ls' (S'.map (ax_v ad'))) := by
    intro j pc' L' S' h' ce' sl' ad' H' locs' ls' e1 hr hI
    subst e1
    exact hr _ _ _ _ hI
  have st : ∀ {w : Value} {a' : Nat} {ls' : Array Slot}, a' < nl → lv_has ls' nl ((a', ax_v ad w) :: (ax_lv ad L).filter (fun q => !(q.1 == a') && !(q.1 + 1 == a' && q.2.category == 2))) → ax_Inv D cl cI cZ A s.heap nl h0 ad0 (L.set a' (some w)) h ce ad H locs ls' := by
    intro w a' ls' h1 h2
    exact ⟨by rw [List.length_set]; exact hL, ax_lv_set hL h1 h2, hP, hD, hS, hag, hz, hlen⟩
  cases ins with
  | iconst k =>
    obtain ⟨o1, o2, o3⟩ := ok
    exact lv_iconst hx hb o1 o3 (nx o2 hF hI0)
  | bipush k =>
    obtain ⟨o1, o2, o3⟩ := ok
    exact lv_bipush hx hb o1 o3 (nx o2 hF hI0)
  | sipush k =>
    obtain ⟨o1, o2, o3⟩ := ok
    exact lv_sipush hx hb o1 o3 (nx o2 hF hI0)
  | ldc k =>
    obtain ⟨o1, o2, o3⟩ := ok
    exact lv_ldc hx hb hown (hTT _ o3) o1 (nx o2 hF hI0)
  | aconst_null =>
    obtain ⟨o1, o2⟩ := ok
    exact lv_null hx hb o1 (nx o2 hF hI0)
  | iload_n k =>
    obtain ⟨o1, o2, o3⟩ := ok
    obtain ⟨x, h1, h2⟩ := ax_ldi_inv hF
    exact lv_iload_n hx hb o1 o3 (ax_lv_at hl h1 rfl) (nx o2 h2 hI0)
  | iload k =>
    obtain ⟨o1, o2, o3⟩ := ok
    subst o3
    obtain ⟨x, h1, h2⟩ := ax_ldi_inv hF
    exact lv_iload hx hb o1 (ax_lv_at hl h1 rfl) (nx o2 h2 hI0)
  | aload_n k =>
    obtain ⟨o1, o2, o3⟩ := ok
    rcases ax_lda_inv hF with ⟨x, h1, h2⟩ | ⟨h1, h2⟩
    · exact lv_aload_n hx hb o1 o3 (ax_lv_at hl h1 rfl) (nx o2 h2 hI0)
    · exact lv_aload_nN hx hb o1 o3 (ax_lv_at hl h1 rfl) (nx o2 h2 hI0)
  | aload k =>
    obtain ⟨o1, o2, o3⟩ := ok
    subst o3
    rcases ax_lda_inv hF with ⟨x, h1, h2⟩ | ⟨h1, h2⟩
    · exact lv_aload hx hb o1 (ax_lv_at hl h1 rfl) (nx o2 h2 hI0)
    · exact lv_aloadN hx hb o1 (ax_lv_at hl h1 rfl) (nx o2 h2 hI0)
  | istore_n k =>
    obtain ⟨o1, o2, o3, o4⟩ := ok
    obtain ⟨x, r, rfl, h2⟩ := ax_sti_inv hF
    exact lv_istore_n hx hb o1 o3 hl o4 rfl (fun ls' hl' => nx o2 h2 (st o4 hl'))
  | istore k =>
    obtain ⟨o1, o2, o3, o4⟩ := ok
    subst o3
    obtain ⟨x, r, rfl, h2⟩ := ax_sti_inv hF
    exact lv_istore hx hb o1 hl o4 rfl (fun ls' hl' => nx o2 h2 (st o4 hl'))
  | astore_n k =>
    obtain ⟨o1, o2, o3, o4⟩ := ok
    rcases ax_sta_inv hF with ⟨x, r, rfl, h2⟩ | ⟨r, rfl, h2⟩
    · exact lv_astore_n hx hb o1 o3 hl o4 rfl (fun ls' hl' => nx o2 h2 (st (w := .ref x) o4 hl'))
    · exact lv_astore_nN hx hb o1 o3 hl o4 rfl (fun ls' hl' => nx o2 h2 (st (w := .null) o4 hl'))
  | astore k =>
    obtain ⟨o1, o2, o3, o4⟩ := ok
    subst o3
    rcases ax_sta_inv hF with ⟨x, r, rfl, h2⟩ | ⟨r, rfl, h2⟩
    · exact lv_astore hx hb o1 hl o4 rfl (fun ls' hl' => nx o2 h2 (st (w := .ref x) o4 hl'))
    · exact lv_astoreN hx hb o1 hl o4 rfl (fun ls' hl' => nx o2 h2 (st (w := .null) o4 hl'))
  | iinc k z =>
    obtain ⟨o1, o2, o3, o4, o5⟩ := ok
    subst o3
    obtain ⟨x, h1, h2⟩ := ax_inc_inv hF
    obtain ⟨j, hj⟩ := List.getElem?_of_mem (ax_lv_mem (ad := ad) h1 rfl)
    exact lv_iinc (v := x + v) hx hb o1 hl hj (by rw [o5]) o4 rfl (fun ls' hl' => nx o2 h2 (st (w := .int (x + v)) o4 hl'))
  | iadd =>
    obtain ⟨o1, o2⟩ := ok
    obtain ⟨x, y, r, rfl, h2⟩ := ax_bin_inv hF
    exact lv_iadd hx hb o1 (nx o2 h2 hI0)
  | isub =>
    obtain ⟨o1, o2⟩ := ok
    obtain ⟨x, y, r, rfl, h2⟩ := ax_bin_inv hF
    exact lv_isub hx hb o1 (nx o2 h2 hI0)
  | imul =>
    obtain ⟨o1, o2⟩ := ok
    obtain ⟨x, y, r, rfl, h2⟩ := ax_bin_inv hF
    exact lv_imul hx hb o1 (nx o2 h2 hI0)
  | iand =>
    obtain ⟨o1, o2⟩ := ok
    obtain ⟨x, y, r, rfl, h2⟩ := ax_bin_inv hF
    exact lv_iand hx hb o1 (nx o2 h2 hI0)
  | ior =>
    obtain ⟨o1, o2⟩ := ok
    obtain ⟨x, y, r, rfl, h2⟩ := ax_bin_inv hF
    exact lv_ior hx hb o1 (nx o2 h2 hI0)
  | ixor =>
    obtain ⟨o1, o2⟩ := ok
    obtain ⟨x, y, r, rfl, h2⟩ := ax_bin_inv hF
    exact lv_ixor hx hb o1 (nx o2 h2 hI0)
  | ishl =>
    obtain ⟨o1, o2⟩ := ok
    obtain ⟨x, y, r, rfl, h2⟩ := ax_bin_inv hF
    exact lv_ishl hx hb o1 (nx o2 h2 hI0)
  | ishr =>
    obtain ⟨o1, o2⟩ := ok
    obtain ⟨x, y, r, rfl, h2⟩ := ax_bin_inv hF
    exact lv_ishr hx hb o1 (nx o2 h2 hI0)
  | dup =>
    obtain ⟨o1, o2⟩ := ok
    rcases S with _ | ⟨v1, r⟩
    · exact False.elim hF
    obtain ⟨h1, h2⟩ := ax_if_t hF
    exact lv_dup hx hb o1 ((ax_v_cat ad v1).trans (Nat.eq_of_beq_eq_true h1)) (nx o2 h2 hI0)
  | pop =>
    obtain ⟨o1, o2⟩ := ok
    rcases S with _ | ⟨v1, r⟩
    · exact False.elim hF
    obtain ⟨h1, h2⟩ := ax_if_t hF
    exact lv_pop hx hb o1 ((ax_v_cat ad v1).trans (Nat.eq_of_beq_eq_true h1)) (nx o2 h2 hI0)
  | dup2 =>
    obtain ⟨o1, o2⟩ := ok
    rcases S with _ | ⟨v1, _ | ⟨v2, r⟩⟩
    · exact False.elim hF
    · exact False.elim hF
    obtain ⟨h1, h2⟩ := ax_if_t hF
    rw [Bool.and_eq_true] at h1
    exact lv_dup2_11 hx hb o1 ((ax_v_cat ad v1).trans (Nat.eq_of_beq_eq_true h1.1)) ((ax_v_cat ad v2).trans (Nat.eq_of_beq_eq_true h1.2)) (nx o2 h2 hI0)
  | dup_x1 =>
    obtain ⟨o1, o2⟩ := ok
    rcases S with _ | ⟨v1, _ | ⟨v2, r⟩⟩
    · exact False.elim hF
    · exact False.elim hF
    obtain ⟨h1, h2⟩ := ax_if_t hF
    rw [Bool.and_eq_true] at h1
    exact lv_dup_x1 hx hb o1 ((ax_v_cat ad v1).trans (Nat.eq_of_beq_eq_true h1.1)) ((ax_v_cat ad v2).trans (Nat.eq_of_beq_eq_true h1.2)) (nx o2 h2 hI0)
  | getfield k =>
    obtain ⟨o1, o2, qc, o3, o4, o5⟩ := ok
    obtain ⟨u, r, fs, x, rfl, h1, h2, h3⟩ := ax_getf_inv hF
    obtain ⟨C', T', N'⟩ := qc
    refine va_get (D := D) (ci := a) (v := ax_v ad x) (C := C') (T := T') (N := N') hx hb hTT (G2 a _ o3).1 hown hK hP u (ax_w_get h1) o3 b o4 (hTT _ o5) (fun _ h9 => h9) ?_ o1 (nx o2 h3 hI0)
    rw [List.getElem?_map, ← ax_nth_eq, h2]
    rfl
  | putfield k =>
    obtain ⟨o1, o2, qc, o3, o4, o5, ⟨ty, t1, t2⟩, o6⟩ := ok
    obtain ⟨w, u, r, fs, rfl, h1, h2, h3, h4⟩ := ax_putf_inv hF
    obtain ⟨C', T', N'⟩ := qc
    obtain ⟨gw, ⟨ty0, gt⟩, gn⟩ := G2 a _ o3
    have hfit : narrow ty (ax_v ad w) = ax_v ad w ∧ fits ty (ax_v ad w) = true := by
      rcases h3 with ⟨x, rfl, h3 | ⟨h3, h5⟩⟩ | ⟨h3, h5⟩
      · rcases t2 with ⟨t3, rfl⟩ | ⟨t3, -⟩ | ⟨t3, -⟩
        · exact ⟨rfl, rfl⟩
        · rw [h3] at t3; exact absurd t3 (by decide)
        · rw [h3] at t3; exact absurd t3 (by decide)
      · rcases t2 with ⟨t3, rfl⟩ | ⟨t3, rfl⟩ | ⟨t3, -⟩
        · exact ⟨rfl, rfl⟩
        · rcases h5 with rfl | rfl <;> exact ⟨rfl, rfl⟩
        · rw [h3] at t3; exact absurd t3 (by decide)
      · rcases t2 with ⟨t3, -⟩ | ⟨t3, -⟩ | ⟨t3, ⟨t, rfl⟩ | ⟨t, rfl⟩⟩
        · rw [h3] at t3; exact absurd t3 (by decide)
        · rw [h3] at t3; exact absurd t3 (by decide)
        · rcases h5 with rfl | ⟨g, rfl⟩ <;> exact ⟨rfl, rfl⟩
        · rcases h5 with rfl | ⟨g, rfl⟩ <;> exact ⟨rfl, rfl⟩
    have hset : (ax_w cI cZ ad h).set u (ad u, .inr (a, (fs.map (ax_v ad)).set b (ax_v ad w))) = ax_w cI cZ ad (h.set u (.inr (a, fs.set b w))) := by
      rw [← ax_w_set]
      show _ = (ax_w cI cZ ad h).set u (ad u, .inr (a, (fs.set b w).map (ax_v ad)))
      rw [List.map_set]
    have hgo : ∀ (H1 : Heap) (locs1 : List Loc), va_P D cl ((ax_w cI cZ ad h).set u (ad u, .inr (a, (fs.map (ax_v ad)).set b (ax_v ad w)))) H1 → va_D A ((ax_w cI cZ ad h).set u (ad u, .inr (a, (fs.map (ax_v ad)).set b (ax_v ad w)))) → va_S A s.heap H1 locs1 → W p l e (ax_rm (d + 1) mc ms) s m args below meth c H1 locs1 ce sl (MQ below (ax_Q D cl cI cZ A mc h0 ad0 K q.2.2) args s mc ms A) (F0 m (pc + 3) ls (r.map (ax_v ad))) := by
      intro H1 locs1 hP1 hD1 hS1
      rw [hset] at hP1 hD1
      exact nx o2 h4 ⟨hL, hl, hP1, hD1, hS1, hag, hz, by rw [List.length_set]; exact hlen⟩
    rcases o6 with o6 | ⟨o6, o7, o8⟩
    · exact va_put (D := D) (ci := a) (v := ax_v ad w) (ty := ty) (C := C') (T := T') (N := N') hx hb hTT gw ty0 gt gn hown hK hP hD hS u (ax_w_get h1) o3 b o4 (hTT _ o5) (fun _ h9 => h9) o6 t1 hfit.1 hfit.2 (by rw [List.length_map]; exact h2) o1 hgo
    · exact va_putF (D := D) (ci := a) (v := ax_v ad w) (ty := ty) (C := C') (T := T') (N := N') hx hb hTT gw ty0 gt gn hown hK hP hD hS u (ax_w_get h1) o3 b o4 (hTT _ o5) (fun _ h9 => h9) o6 (hin.trans o7) o8 t1 hfit.1 hfit.2 (by rw [List.length_map]; exact h2) o1 hgo
  | iaload =>
    obtain ⟨o1, o2⟩ := ok
    obtain ⟨x, u, r, N, f, rfl, h1, h2, h3, h4⟩ := ax_ald_inv hF
    have hv : vp_in (nI x) N := vp_in_iff.mpr (by rw [nI_toInt (by omega)]; omega)
    refine va_iald hx hb hK hP u 0 (ax_w_get h1) rfl hv o1 ?_
    rw [nI_clamp (by omega)]
    exact nx o2 h4 hI0
  | baload =>
    obtain ⟨o1, o2⟩ := ok
    obtain ⟨x, u, r, N, f, rfl, h1, h2, h3, h4⟩ := ax_ald_inv hF
    have hv : vp_in (nI x) N := vp_in_iff.mpr (by rw [nI_toInt (by omega)]; omega)
    refine va_zald hx hb hK hP u 1 (ax_w_get h1) rfl hv o1 ?_
    rw [nI_clamp (by omega)]
    exact nx o2 h4 hI0
  | iastore =>
    obtain ⟨o1, o2⟩ := ok
    obtain ⟨w, x, u, r, N, f, rfl, h1, h2, h3, h4⟩ := ax_ast_inv hF
    have hv : vp_in (nI x) N := vp_in_iff.mpr (by rw [nI_toInt (by omega)]; omega)
    refine va_iast hx hb hK hP hD hS u 0 (ax_w_get h1) rfl hv o1 (fun H1 locs1 hP1 hD1 hS1 => ?_)
    rw [nI_clamp (by omega)] at hP1 hD1
    have hset : (ax_w cI cZ ad h).set u (ad u, .inl (cI, N, .inl (upd f x w))) = ax_w cI cZ ad (h.set u (.inl (false, N, upd f x w))) := by
      rw [← ax_w_set]
      rfl
    have hP1 : va_P D cl ((ax_w cI cZ ad h).set u (ad u, .inl (cI, N, .inl (upd f x w)))) H1 := hP1
    have hD1 : va_D A ((ax_w cI cZ ad h).set u (ad u, .inl (cI, N, .inl (upd f x w)))) := hD1
    rw [hset] at hP1 hD1
    exact nx o2 h4 ⟨hL, hl, hP1, hD1, hS1, hag, hz, by rw [List.length_set]; exact hlen⟩
  | bastore =>
    obtain ⟨o1, o2⟩ := ok
    obtain ⟨w, x, u, r, N, f, rfl, h1, h2, h3, h4⟩ := ax_ast_inv hF
    have hv : vp_in (nI x) N := vp_in_iff.mpr (by rw [nI_toInt (by omega)]; omega)
    refine va_zast hx hb hK hP hD hS u 1 (ax_w_get h1) rfl hv o1 (fun H1 locs1 hP1 hD1 hS1 => ?_)
    rw [nI_clamp (by omega)] at hP1 hD1
    have hset : (ax_w cI cZ ad h).set u (ad u, .inl (cZ, N, .inl (upd f x (w &&& 1)))) = ax_w cI cZ ad (h.set u (.inl (true, N, upd f x (w &&& 1)))) := by
      rw [← ax_w_set]
      rfl
    have hP1 : va_P D cl ((ax_w cI cZ ad h).set u (ad u, .inl (cZ, N, .inl (upd f x (w &&& 1))))) H1 := hP1
    have hD1 : va_D A ((ax_w cI cZ ad h).set u (ad u, .inl (cZ, N, .inl (upd f x (w &&& 1))))) := hD1
    rw [hset] at hP1 hD1
    exact nx o2 h4 ⟨hL, hl, hP1, hD1, hS1, hag, hz, by rw [List.length_set]; exact hlen⟩
  | arraylength =>
    obtain ⟨o1, o2⟩ := ok
    obtain ⟨u, r, z, N, f, rfl, h1, h4⟩ := ax_alen_inv hF
    cases z
    · exact va_alen hx hb hK hP u 0 (ax_w_get h1) (ty := .int) rfl rfl o1 (nx o2 h4 hI0)
    · exact va_alen hx hb hK hP u 1 (ax_w_get h1) (ty := .boolean) rfl rfl o1 (nx o2 h4 hI0)
  | if_icmp cnd o =>
    obtain ⟨o1, o2, o3⟩ := ok
    rcases S with _ | ⟨v1, _ | ⟨v2, r⟩⟩
    · exact False.elim hF
    · cases v1 <;> exact False.elim hF
    cases v1 with
    | int y =>
      cases v2 with
      | int x =>
        obtain ⟨k1, k2⟩ := hF
        cases cnd with
        | eq => exact lv_icmp_eq hx hb o1 o3 (fun q => nx rfl (k1 q) hI0) (fun q => nx o2 (k2 q) hI0)
        | ne => exact lv_icmp_ne hx hb o1 o3 (fun q => nx rfl (k1 q) hI0) (fun q => nx o2 (k2 (fun z => z q)) hI0)
        | lt => exact lv_icmp_lt hx hb o1 o3 (fun q => nx rfl (k1 q) hI0) (fun q => nx o2 (k2 q) hI0)
        | ge => exact lv_icmp_ge hx hb o1 o3 (fun q => nx rfl (k1 q) hI0) (fun q => nx o2 (k2 q) hI0)
        | gt => exact lv_icmp_gt hx hb o1 o3 (fun q => nx rfl (k1 q) hI0) (fun q => nx o2 (k2 q) hI0)
        | le => exact lv_icmp_le hx hb o1 o3 (fun q => nx rfl (k1 q) hI0) (fun q => nx o2 (k2 q) hI0)
      | _ => exact False.elim hF
    | _ => exact False.elim hF
  | ifCond cnd o =>
    obtain ⟨o1, o2, o3⟩ := ok
    rcases S with _ | ⟨v1, r⟩
    · exact False.elim hF
    cases v1 with
    | int x =>
      obtain ⟨k1, k2⟩ := hF
      cases cnd with
      | eq => exact lv_if_eq hx hb o1 o3 (fun q => nx rfl (k1 q) hI0) (fun q => nx o2 (k2 q) hI0)
      | ne => exact lv_if_ne hx hb o1 o3 (fun q => nx rfl (k1 q) hI0) (fun q => nx o2 (k2 (fun z => z q)) hI0)
      | lt => exact lv_if_lt hx hb o1 o3 (fun q => nx rfl (k1 q) hI0) (fun q => nx o2 (k2 q) hI0)
      | ge => exact lv_if_ge hx hb o1 o3 (fun q => nx rfl (k1 q) hI0) (fun q => nx o2 (k2 q) hI0)
      | gt => exact lv_if_gt hx hb o1 o3 (fun q => nx rfl (k1 q) hI0) (fun q => nx o2 (k2 q) hI0)
      | le => exact lv_if_le hx hb o1 o3 (fun q => nx rfl (k1 q) hI0) (fun q => nx o2 (k2 q) hI0)
    | _ => exact False.elim hF
  | goto o =>
    obtain ⟨o1, o3⟩ := ok
    exact lv_goto hx hb o1 o3 (nx rfl hF hI0)
  | tableswitch df lo hi os =>
    obtain ⟨⟨k, o1⟩, o2, o3, o4, o5⟩ := ok
    rcases S with _ | ⟨v1, r⟩
    · exact False.elim hF
    cases v1 with
    | int x =>
      obtain ⟨k1, k2⟩ := hF
      by_cases hx1 : x.toInt < lo ∨ hi < x.toInt
      · exact lv_tableOut hx hb o1 hx1 o4 (nx rfl (k2 (by rw [o2]; omega)) hI0)
      · have h1 : ¬ x.toInt < lo := fun z => hx1 (Or.inl z)
        have h2 : ¬ hi < x.toInt := fun z => hx1 (Or.inr z)
        have h3 : (x.toInt - lo).toNat < ts.length := by omega
        have h4 : ax_nth ts (x.toInt - lo).toNat = some ts[(x.toInt - lo).toNat] := by rw [ax_nth_eq]; exact List.getElem?_eq_getElem h3
        obtain ⟨of, o6, o7⟩ := o5 _ _ h4
        exact lv_tableIn hx hb o1 h1 h2 o6 o7 (nx rfl (k1 _ _ h4 (by rw [o2]; omega)) hI0)
    | _ => exact False.elim hF
  | new k =>
    obtain ⟨o1, o2, qc, fs, o3, o4, o5, o6, o7, o8, o9, o10⟩ := ok
    obtain ⟨C', T', N'⟩ := qc
    dsimp only at o5 o6 o7 o8 o9
    subst o5
    rw [o4] at hF
    obtain ⟨h1, h2⟩ := ax_if_t hF
    simp only [Bool.and_eq_true] at h1
    obtain ⟨g1, g2, g3, g4⟩ := h1
    unfold ax_okf at g1
    rw [Bool.and_eq_true] at g1
    obtain ⟨gw, ⟨ty0, gt⟩, gn⟩ := G2 a _ o3
    have hfs : ∀ ad' : Nat → Nat, fs.map (ax_v ad') = fs := by
      intro ad'
      have := ax_vs_eq (ad := id) (ad' := ad') (n := 0) (S := fs) (fun k hk => absurd hk (Nat.not_lt_zero k)) o10
      rw [this]
      have h9 : ∀ v : Value, ax_v id v = v := fun v => by cases v <;> rfl
      rw [show (ax_v id) = id from funext h9, List.map_id]
    refine va_new (D := D) (ci := a) (fs := fs) (C := C') (T := T') (N := b) hx hb hTT gw ty0 gt hown (hTT _ o6) (hTT _ o7) (hTT _ o8) hK hP hD hS hA o3 (o9 ty0 gt) (Nat.le_of_ble_eq_true g3) (Nat.le_of_ble_eq_true g4) o1 (fun qa H1 hP1 hD1 hS1 => ?_)
    have hpush : ax_w cI cZ (ax_up ad h.length qa) (h ++ [.inr (a, fs)]) = ax_w cI cZ ad h ++ [(qa, .inr (a, fs))] := by
      rw [ax_w_push (q := qa) (c := .inr (a, fs)) g2 (by show Sum.inr (a, fs.map _) = Sum.inr (a, fs.map _); rw [hfs, hfs])]
      show _ ++ [(qa, Sum.inr (a, fs.map (ax_v ad)))] = _
      rw [hfs]
    have hlt : ∀ k, k < h.length → ax_up ad h.length qa k = ad k := fun k hk => ax_up_lt hk
    have hres := nx (ad' := ax_up ad h.length qa) (H' := H1) (locs' := locs) (ls' := ls) o2 h2 ⟨hL, ax_lv_ad hlt g1.1 hl, by rw [hpush]; exact hP1, by rw [hpush]; exact hD1, hS1, fun k hk => by rw [hlt k (Nat.lt_of_lt_of_le hk hlen)]; exact hag k hk, fun hc => absurd hc (Nat.succ_ne_zero _), by rw [List.length_append]; exact Nat.le_trans hlen (Nat.le_add_right _ _)⟩
    rw [List.map_cons, ax_vs_eq hlt g1.2] at hres
    have hq : ax_v (ax_up ad h.length qa) (.ref h.length) = .ref qa := congrArg Value.ref ax_up_self
    rw [hq] at hres
    exact hres
  | newarray t =>
    obtain ⟨o1, o2, o3, o4⟩ := ok
    rcases S with _ | ⟨v1, r⟩
    · exact False.elim hF
    cases v1 with
    | int x =>
      obtain ⟨N, ⟨rfl, hN2⟩, hF⟩ := hF
      obtain ⟨h1, h2⟩ := ax_if_t hF
      simp only [Bool.and_eq_true] at h1
      obtain ⟨g1, g2, g3, g4⟩ := h1
      unfold ax_okf at g1
      rw [Bool.and_eq_true] at g1
      have hneg : ¬ nI N < 0 := nI_pos (by omega)
      have hcl : (nI N).toNatClampNeg = N := nI_clamp (by omega)
      have key : ∀ (cA : ClassId) (z : Bool) (ty : FieldType), newarray.typeOf t = ty → Nat.beq a 1 = z → cond z cZ cI = cA → (∀ cA' : ClassId, s.vm.findClass ("[" ++ ty.toString) = some cA' → cA' = cA) → defaultValue ty = .int 0 → componentBytes ty ≤ 4 →
          W p l e (ax_rm (d + 1) mc ms) s m args below meth c H locs ce sl (MQ below (ax_Q D cl cI cZ A mc h0 ad0 K q.2.2) args s mc ms A) (F0 m pc ls ((Value.int (nI N) :: r).map (ax_v ad))) := by
        intro cA z ty e1 e2 e3 e4 e5 e6
        refine va_newa (D := D) (ty := ty) (a0 := (N, .inl (fun _ => 0))) hx hb (hTT _ o4) e1 hK hP hD hS hA (fun cA => ?_) hneg hcl ?_ (Nat.le_of_ble_eq_true g3) (Nat.le_of_ble_eq_true g4) o1 (fun qa cA' H1 hK1 hP1 hD1 hS1 => ?_)
        · rw [e5]; rfl
        · calc N * componentBytes ty ≤ 100000 * 4 := Nat.mul_le_mul hN2 e6
            _ ≤ 536870912 := by decide
        · have hA' : cA' = cA := by
            have h9 := (hK1.2 2 (cA', ty) rfl).2
            have hno : ∀ n, ty ≠ .object n := by
              intro n hn
              rw [hn] at e5
              exact absurd e5 (by simp [defaultValue])
            refine e4 cA' ?_
            revert h9 hno
            cases ty <;> intro h9 hno <;> first | exact h9 | exact absurd rfl (hno _)
          subst hA'
          rw [e2] at h2
          have hpush : ax_w cI cZ (ax_up ad h.length qa) (h ++ [.inl (z, N, fun _ => 0)]) = ax_w cI cZ ad h ++ [(qa, .inl (cA', N, .inl (fun _ => 0)))] := by
            rw [ax_w_push (q := qa) (c := .inl (z, N, fun _ => 0)) g2 rfl]
            show _ ++ [(qa, Sum.inl (cond z cZ cI, N, Sum.inl (fun _ => (0 : Int32))))] = _
            rw [e3]
          have hlt : ∀ k, k < h.length → ax_up ad h.length qa k = ad k := fun k hk => ax_up_lt hk
          have hres := nx (ad' := ax_up ad h.length qa) (H' := H1) (locs' := locs) (ls' := ls) o2 h2 ⟨hL, ax_lv_ad hlt g1.1 hl, by rw [hpush]; exact hP1, by rw [hpush]; exact hD1, hS1, fun k hk => by rw [hlt k (Nat.lt_of_lt_of_le hk hlen)]; exact hag k hk, fun hc => absurd hc (Nat.succ_ne_zero _), by rw [List.length_append]; exact Nat.le_trans hlen (Nat.le_add_right _ _)⟩
          rw [List.map_cons, ax_vs_eq hlt g1.2] at hres
          have hq : ax_v (ax_up ad h.length qa) (.ref h.length) = .ref qa := congrArg Value.ref ax_up_self
          rw [hq] at hres
          exact hres
      rcases o3 with ⟨rfl, rfl⟩ | ⟨rfl, rfl⟩
      · exact key cI false .int rfl rfl rfl (fun cA' h9 => Option.some.inj (h9.symm.trans (hK.2 0 (cI, .int) rfl).2)) rfl (by decide)
      · exact key cZ true .boolean rfl rfl rfl (fun cA' h9 => Option.some.inj (h9.symm.trans (hK.2 1 (cZ, .boolean) rfl).2)) rfl (by decide)
    | _ => exact False.elim hF
  | invokevirtual k =>
    obtain ⟨o1, o2, o3, qN, ci, qc, o4, rfl, o5, o6, o7, o8, o9, o10, o11⟩ := ok
    rcases o3 with rfl | rfl
    · obtain ⟨rM, As, r, K', h1, h2, rfl, h4, h5, h6, h7, h8, h9, h10⟩ := ax_call3_inv hF
      obtain ⟨k1, k2, k3⟩ := o11 rM h1
      rcases hrt : qN.2.2 with _ | ty
      · exact absurd (o7.mpr hrt) (by decide)
      exact ax_calli (qN := qN) (ax_runV G hC ⟨hx, hb, hml, hown, hts⟩ hK hN o4 h1 o5 o6 o8 o9 o10 k2 k3 h9 hP hD h2 h8 h4 hlsz o1 h5 h6) hrt hI0 hA h7 (fun z h' hz' ad' H1 locs1 hI1 => nx o2 (h10 z h' hz') hI1)
    · obtain ⟨rM, As, r, K', h1, h2, rfl, h4, h5, h6, h7, h8, h9, h10⟩ := ax_call4_inv hF
      obtain ⟨k1, k2, k3⟩ := o11 rM h1
      exact ax_callv (qN := qN) (ax_runV G hC ⟨hx, hb, hml, hown, hts⟩ hK hN o4 h1 o5 o6 o8 o9 o10 k2 k3 h9 hP hD h2 h8 h4 hlsz o1 h5 h6) (o7.mp rfl) hI0 hA h7 (fun h' hz' ad' H1 locs1 hI1 => nx o2 (h10 h' hz') hI1)
  | invokestatic k =>
    obtain ⟨o1, o2, o3⟩ := ok
    have hr21 : 21 ≤ 40 * (d + 1) := by omega
    rcases o3 with ⟨rfl, p1, p2, p3, p4⟩ | ⟨rfl, p1, p2, p3, p4⟩ | ⟨hb34, qN, o4, o7, o8, o9, o11⟩
    · obtain ⟨x, y, r, rfl, h4, h6, h7, h5⟩ := ax_call1_inv hF
      have hcs : ((r.map (ax_v ad)).map fun v => v.category).sum ≤ 8 := Nat.le_trans (ax_cat_le ad r) (by omega)
      refine va_mmax (rest := r.map (ax_v ad)) hx hb (hml.trans hlsz.symm) hown (hTT _ p1) (hTT _ p2) (hTT _ p3) (hTT _ p4) (by show 1 ≤ d + 1; omega) (by show _ + 13 ≤ 40 * (d + 1); omega) h6 h7 o1 ?_
      exact nx o2 h5 hI0
    · obtain ⟨x, y, r, rfl, h4, h6, h7, h5⟩ := ax_call2_inv hF
      have hcs : ((r.map (ax_v ad)).map fun v => v.category).sum ≤ 8 := Nat.le_trans (ax_cat_le ad r) (by omega)
      refine va_mmin (rest := r.map (ax_v ad)) hx hb (hml.trans hlsz.symm) hown (hTT _ p1) (hTT _ p2) (hTT _ p3) (hTT _ p4) (by show 1 ≤ d + 1; omega) (by show _ + 13 ≤ 40 * (d + 1); omega) h6 h7 o1 ?_
      exact nx o2 h5 hI0
    · rcases hb34 with rfl | rfl
      · obtain ⟨rM, As, r, K', h1, h2, rfl, h4, h5, h6, h7, h8, h9, h10⟩ := ax_call3_inv hF
        rcases hrt : qN.2.2 with _ | ty
        · exact absurd (o7.mpr hrt) (by decide)
        exact ax_calli (qN := qN) (ax_runS G hC ⟨hx, hb, hml, hown, hts⟩ hK hN o4 h1 o8 o9 (o11 rM h1) h9 hP hD h2 h4 hlsz o1 h5 h6) hrt hI0 hA h7 (fun z h' hz' ad' H1 locs1 hI1 => nx o2 (h10 z h' hz') hI1)
      · obtain ⟨rM, As, r, K', h1, h2, rfl, h4, h5, h6, h7, h8, h9, h10⟩ := ax_call4_inv hF
        exact ax_callv (qN := qN) (ax_runS G hC ⟨hx, hb, hml, hown, hts⟩ hK hN o4 h1 o8 o9 (o11 rM h1) h9 hP hD h2 h4 hlsz o1 h5 h6) (o7.mp rfl) hI0 hA h7 (fun h' hz' ad' H1 locs1 hI1 => nx o2 (h10 h' hz') hI1)
  | invokespecial k =>
    obtain ⟨o1, o2, o3⟩ := ok
    rcases o3 with ⟨rfl, p1, p2, p3⟩ | ⟨rfl, qN, ci, o4, rfl, o5, o8, o9, o10, o11⟩
    · obtain ⟨u, r, rfl, h4, h5⟩ := ax_call0_inv hF
      have hcs : ((r.map (ax_v ad)).map fun v => v.category).sum ≤ 8 := Nat.le_trans (ax_cat_le ad r) (by omega)
      refine W.objInit hx hb hown (hTT _ p1) (hTT _ p2) (hTT _ p3) rfl (by rw [hml]; exact hlsz) rfl o1 ?_ ?_ ?_
      · show 1 ≤ d + 1
        omega
      · show 2 * 0 + ((r.map (ax_v ad)).map fun v => v.category).sum + 12 ≤ 40 * (d + 1)
        omega
      · exact nx o2 h5 hI0
    · obtain ⟨rM, As, r, K', h1, h2, rfl, h4, h5, h6, h7, h8, h9, h10⟩ := ax_call4_inv hF
      obtain ⟨k1, k2, k3⟩ := o11 rM h1
      exact ax_callv (qN := qN) (ax_runI G hC ⟨hx, hb, hml, hown, hts⟩ hK hN o4 h1 o5 o8 o9 o10 k2 k3 h9 hP hD h2 h8 h4 hlsz o1 h5 h6) o5 hI0 hA h7 (fun h' hz' ad' H1 locs1 hI1 => nx o2 (h10 h' hz') hI1)
  | ireturn =>
    obtain ⟨o1, o2⟩ := ok
    rcases S with _ | ⟨v1, _ | ⟨v2, r⟩⟩
    · exact False.elim hF
    · cases v1 with
      | int x =>
        obtain ⟨h1, h2, h3⟩ := ax_if_t hF
        rw [Bool.and_eq_true] at h1
        refine W.widen (k := mc) (n := ms) (Nat.le_of_ble_eq_true h1.1) (Nat.le_of_ble_eq_true h1.2) ?_
        have hend : ∀ t : State, t.heap = H → s.WarmedH t.vm → va_Qi (fun (r : Int32) (u : ax_H × (Nat → Nat)) => K (some (.int r)) u.1) (ax_Bw D cl cI cZ A mc h0 ad0) A args s (.returned (some (.int x))) t := fun t ht hW => ⟨⟨x, (h, ad), rfl, h3, by rw [ht]; exact hP, va_K.moved hW.alike hK, hD, hag, fun hm => hz (by have := Nat.le_of_ble_eq_true h1.1; omega), hlen⟩, hS.F ht⟩
        rcases o2 with ⟨o2, o3⟩ | ⟨o2, o3⟩
        · rw [o3] at hr ⊢
          exact W.iret (v := x) hx hb hr hend hS.2.2 o1
        · rw [o3] at hr ⊢
          have hnar : narrow .boolean (.int x) = .int x := by
            rcases h2 with h2 | rfl | rfl
            · exact absurd (h2.symm.trans o2) (by decide)
            · rfl
            · rfl
          exact W.zret (v := x) hx hb hr hnar hend hS.2.2 o1
      | _ => exact False.elim hF
    · cases v1 <;> exact False.elim hF
  | return_ =>
    obtain ⟨o1, o3⟩ := ok
    rcases S with _ | ⟨v1, r⟩
    · obtain ⟨h1, h3⟩ := ax_if_t hF
      rw [Bool.and_eq_true] at h1
      refine W.widen (k := mc) (n := ms) (Nat.le_of_ble_eq_true h1.1) (Nat.le_of_ble_eq_true h1.2) ?_
      rw [o3] at hr ⊢
      exact W.vret hx hb hr (fun t ht hW => ⟨⟨(h, ad), rfl, h3, by rw [ht]; exact hP, va_K.moved hW.alike hK, hD, hag, fun hm => hz (by have := Nat.le_of_ble_eq_true h1.1; omega), hlen⟩, hS.F ht⟩) hS.2.2 o1
    · exact False.elim hF
  | _ => exact False.elim hF
end AXT
theorem ax_sl_len : ∀ (vs : List Value), (∀ v ∈ vs, v.category = 1) → (lg_sl vs).length = vs.length
  | [], _ => rfl
  | v :: vs, h => by
    have h1 := h v List.mem_cons_self
    have ih := ax_sl_len vs (fun u hu => h u (List.mem_cons_of_mem _ hu))
    unfold lg_sl at ih ⊢
    simp [h1, ih]
set_option maxHeartbeats 4000000 in
set_option maxRecDepth 100000 in
/-- every walk of the small machine is a contract of the machine -/
theorem ax_sound {l : Launch} {D : va_G} {cl : List vw_C} {TT : List Cond} {NL : List (String × Nat × MethodName × String)} {NM : List ax_N} {M : List ax_M} {X : List (List Value)} {cI cZ : ClassId} (G : ax_Good M X NM cl TT NL) :
    ∀ (d y : Nat) (As : List Value) (h : ax_H) (K : ax_K), ax_D M X d y As h K → ax_Met l D cl TT NL NM M cI cZ d y As h K := by
  intro d
  induction d with
  | zero => intro y As h K hc; exact False.elim hc
  | succ d ih =>
    intro y As h K hc q r hn hm ad sz
    obtain ⟨cd, nl, n, mc, ms⟩ := r
    have hB : ax_B M X (ax_D M X d) y As h K := hc
    unfold ax_B at hB
    rw [hm] at hB
    obtain ⟨h1, hX⟩ := ax_if_t hB
    rw [Bool.and_eq_true] at h1
    have hAl : As.length = n := Nat.eq_of_beq_eq_true h1.1
    have hAc : ∀ v ∈ As, v.category = 1 := fun v hv => Nat.eq_of_beq_eq_true (List.all_eq_true.mp h1.2 v hv)
    obtain ⟨g1, g2, g3, g4, g5, g6, g7, g8⟩ := G.2.2.1 y q _ hn hm
    dsimp only at g2 g5 g6 g7 g8 ⊢
    refine Met.ofW (cc := q.2.1) (maxL := nl) (ret := q.2.2) g1 rfl ?_
    intro p e s m args below meth c s₁ B hml hv
    obtain ⟨rfl, hsz, hP, hK, hD0, hN⟩ := hv
    have hx := B.exec
    have hb := B.bytes
    have hr := B.returns
    have hts := atoms_spec (ws := Cond.code q.1 q.2.1 nl q.2.2 :: TT) B.pre
    have hown : s.vm.findClass q.1.cls = some m.cls := findClass_of_methodNamed B.named
    have hlocks := B.notSynchronized
    have hin : meth.name = q.1.name := (name_of_methodNamed B.named B.method).1
    subst hsz
    have hD := hD0.self (sz := s.heap.size)
    have hA : ∀ w : Nat, s.heap.size ≤ w → va_A (ax_w cI cZ ad h) s.heap.size w := fun w hw => Or.inr hw
    have hS : va_S (va_A (ax_w cI cZ ad h) s.heap.size) s.heap s.heap [] := va_S.rf
    have hlen : (lg_sl (As.map (ax_v ad))).length ≤ nl := by
      rw [ax_sl_len _ (fun v hv => by
        obtain ⟨u, hu, rfl⟩ := List.mem_map.mp hv
        rw [ax_v_cat]; exact hAc u hu), List.length_map, hAl]
      exact g6
    have hl := lv_entry (As.map (ax_v ad)) (n := nl) hlen
    rw [lg_entry_eq]
    generalize (lg_sl (As.map (ax_v ad)) ++ List.replicate (nl - (lg_sl (As.map (ax_v ad))).length) Slot.unset).toArray = ls at hl ⊢
    have hl2 := ax_lv_entry ad As (nl - n) hAc hl
    have hone := ax_one (l := l) (D := D) (cI := cI) (cZ := cZ) (p := p) (e := e) (s := s) (m := m) (args := (As.map (ax_v ad)).toArray) (below := below) (meth := meth) (c := c) (h0 := h) (ad0 := ad) (A := va_A (ax_w cI cZ ad h) s.heap.size) (K := K) G ih hn hm hx hb hr hml hts hown hlocks hin hN hA hK
    have hres := hX _ hone ad s.heap [] ls ⟨by rw [List.length_append, List.length_map, List.length_replicate, hAl]; omega, hl2, hP, hD, hS, fun _ _ => rfl, fun _ => rfl, Nat.le_refl _⟩
    rw [g7] at hres
    exact hres
end
