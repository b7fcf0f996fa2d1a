/-! The small machine against the kit's rows, 2: what the tables must hold, and each instruction. -/
/-- name, code, answer -/
abbrev ax_N : Type := MethodName × ByteArray × Option FieldType
def ax_pc (cd : List ax_I) (i : Nat) : Nat := match ax_nth cd i with
  | some e => e.1
  | none => 0
theorem ax_pc_eq {cd : List ax_I} {i pc : Nat} {r : Instr × Nat × Nat × Int32 × List Nat} (h : ax_nth cd i = some (pc, r)) : ax_pc cd i = pc := by
  unfold ax_pc
  rw [h]
/-- a link to a method: of the tables, or of the nest -/
def ax_lk (TT : List Cond) (NL : List (String × Nat × MethodName × String)) (own : String) (idx : Nat) (y : MethodName) : Prop := Cond.methodLink own idx y ∈ TT ∨ ∃ host : String, (own, idx, y, host) ∈ NL
/-- what an instruction's entry must say; k: how many bytes further the next one stands -/
def ax_ok (M : List ax_M) (X : List (List Value)) (NM : List ax_N) (cl : List vw_C) (TT : List Cond) (NL : List (String × Nat × MethodName × String)) (nm : MethodName) (cc : ByteArray) (rt : Option FieldType) (nl : Nat) (cd : List ax_I) (i : Nat) (e : ax_I) : Prop := match e with
  | (pc, ins, a, b, v, ts) => match ins with
    | .iconst n => decode cc pc = .ok (.iconst n, 1) ∧ ax_pc cd (i + 1) = pc + 1 ∧ Int32.ofInt n = v
    | .bipush n => decode cc pc = .ok (.bipush n, 2) ∧ ax_pc cd (i + 1) = pc + 2 ∧ (Int8.ofInt n).toInt32 = v
    | .sipush n => decode cc pc = .ok (.sipush n, 3) ∧ ax_pc cd (i + 1) = pc + 3 ∧ (Int16.ofInt n).toInt32 = v
    | .ldc n => decode cc pc = .ok (.ldc n, 2) ∧ ax_pc cd (i + 1) = pc + 2 ∧ Cond.constant nm.cls n v ∈ TT
    | .aconst_null => decode cc pc = .ok (.aconst_null, 1) ∧ ax_pc cd (i + 1) = pc + 1
    | .iload_n n => decode cc pc = .ok (.iload_n n, 1) ∧ ax_pc cd (i + 1) = pc + 1 ∧ (n : Nat) = a
    | .iload n => decode cc pc = .ok (.iload n, 2) ∧ ax_pc cd (i + 1) = pc + 2 ∧ n = a
    | .aload_n n => decode cc pc = .ok (.aload_n n, 1) ∧ ax_pc cd (i + 1) = pc + 1 ∧ (n : Nat) = a
    | .aload n => decode cc pc = .ok (.aload n, 2) ∧ ax_pc cd (i + 1) = pc + 2 ∧ n = a
    | .istore_n n => decode cc pc = .ok (.istore_n n, 1) ∧ ax_pc cd (i + 1) = pc + 1 ∧ (n : Nat) = a ∧ a < nl
    | .istore n => decode cc pc = .ok (.istore n, 2) ∧ ax_pc cd (i + 1) = pc + 2 ∧ n = a ∧ a < nl
    | .astore_n n => decode cc pc = .ok (.astore_n n, 1) ∧ ax_pc cd (i + 1) = pc + 1 ∧ (n : Nat) = a ∧ a < nl
    | .astore n => decode cc pc = .ok (.astore n, 2) ∧ ax_pc cd (i + 1) = pc + 2 ∧ n = a ∧ a < nl
    | .iinc n z => decode cc pc = .ok (.iinc n z, 3) ∧ ax_pc cd (i + 1) = pc + 3 ∧ n = a ∧ a < nl ∧ Int32.ofInt z = v
    | .iadd => decode cc pc = .ok (.iadd, 1) ∧ ax_pc cd (i + 1) = pc + 1
    | .isub => decode cc pc = .ok (.isub, 1) ∧ ax_pc cd (i + 1) = pc + 1
    | .imul => decode cc pc = .ok (.imul, 1) ∧ ax_pc cd (i + 1) = pc + 1
    | .iand => decode cc pc = .ok (.iand, 1) ∧ ax_pc cd (i + 1) = pc + 1
    | .ior => decode cc pc = .ok (.ior, 1) ∧ ax_pc cd (i + 1) = pc + 1
    | .ixor => decode cc pc = .ok (.ixor, 1) ∧ ax_pc cd (i + 1) = pc + 1
    | .ishl => decode cc pc = .ok (.ishl, 1) ∧ ax_pc cd (i + 1) = pc + 1
    | .ishr => decode cc pc = .ok (.ishr, 1) ∧ ax_pc cd (i + 1) = pc + 1
    | .dup => decode cc pc = .ok (.dup, 1) ∧ ax_pc cd (i + 1) = pc + 1
    | .pop => decode cc pc = .ok (.pop, 1) ∧ ax_pc cd (i + 1) = pc + 1
    | .dup2 => decode cc pc = .ok (.dup2, 1) ∧ ax_pc cd (i + 1) = pc + 1
    | .dup_x1 => decode cc pc = .ok (.dup_x1, 1) ∧ ax_pc cd (i + 1) = pc + 1
    | .getfield n => decode cc pc = .ok (.getfield n, 3) ∧ ax_pc cd (i + 1) = pc + 3 ∧ ∃ q : vw_C, cl[a]? = some q ∧ b < q.2.2 ∧ Cond.fieldLink nm.cls n (q.2.1 b).1 (q.2.1 b).2.1 (q.2.1 b).2.2.1 ∈ TT
    | .putfield n => decode cc pc = .ok (.putfield n, 3) ∧ ax_pc cd (i + 1) = pc + 3 ∧ ∃ q : vw_C, cl[a]? = some q ∧ b < q.2.2 ∧ Cond.fieldLink nm.cls n (q.2.1 b).1 (q.2.1 b).2.1 (q.2.1 b).2.2.1 ∈ TT ∧ (∃ ty : FieldType, parseFieldDescriptor (q.2.1 b).2.2.1 = some ty ∧ ((v = 0 ∧ ty = .int) ∨ (v = 1 ∧ ty = .boolean) ∨ (v = 2 ∧ ((∃ t, ty = .object t) ∨ ∃ t, ty = .array t)))) ∧ ((q.2.1 b).2.2.2 = false ∨ ((q.2.1 b).2.2.2 = true ∧ nm.name = "<init>" ∧ (q.2.1 b).1 = nm.cls))
    | .iaload => decode cc pc = .ok (.iaload, 1) ∧ ax_pc cd (i + 1) = pc + 1
    | .baload => decode cc pc = .ok (.baload, 1) ∧ ax_pc cd (i + 1) = pc + 1
    | .iastore => decode cc pc = .ok (.iastore, 1) ∧ ax_pc cd (i + 1) = pc + 1
    | .bastore => decode cc pc = .ok (.bastore, 1) ∧ ax_pc cd (i + 1) = pc + 1
    | .arraylength => decode cc pc = .ok (.arraylength, 1) ∧ ax_pc cd (i + 1) = pc + 1
    | .if_icmp c o => decode cc pc = .ok (.if_icmp c o, 3) ∧ ax_pc cd (i + 1) = pc + 3 ∧ (pc : Int) + o = (ax_pc cd a : Int)
    | .ifCond c o => decode cc pc = .ok (.ifCond c o, 3) ∧ ax_pc cd (i + 1) = pc + 3 ∧ (pc : Int) + o = (ax_pc cd a : Int)
    | .goto o => decode cc pc = .ok (.goto o, 3) ∧ (pc : Int) + o = (ax_pc cd a : Int)
    | .tableswitch d lo hi os => (∃ n, decode cc pc = .ok (.tableswitch d lo hi os, n)) ∧ v.toInt = lo ∧ hi = lo + ts.length - 1 ∧ (pc : Int) + d = (ax_pc cd a : Int) ∧ ∀ k t : Nat, ax_nth ts k = some t → ∃ o : Int, os[k]? = some o ∧ (pc : Int) + o = (ax_pc cd t : Int)
    | .new n => decode cc pc = .ok (.new n, 3) ∧ ax_pc cd (i + 1) = pc + 3 ∧ ∃ (q : vw_C) (fs : List Value), cl[a]? = some q ∧ ax_nth X a = some fs ∧ b = q.2.2 ∧ Cond.classLink nm.cls n q.1 ∈ TT ∧ Cond.instantiable q.1 q.2.2 ∈ TT ∧ Cond.initialized q.1 ∈ TT ∧ (∀ ty : Nat → FieldType, (∀ k, k < q.2.2 → parseFieldDescriptor (q.2.1 k).2.2.1 = some (ty k)) → ∀ j, j < q.2.2 → defaultValue (ty j) = vp_V fs j) ∧ fs.all (ax_okv 0) = true
    | .newarray t => decode cc pc = .ok (.newarray t, 2) ∧ ax_pc cd (i + 1) = pc + 2 ∧ ((t = .int ∧ a = 0) ∨ (t = .boolean ∧ a = 1)) ∧ Cond.arrayClass (newarray.typeOf t) ∈ TT
    | .invokevirtual n => decode cc pc = .ok (.invokevirtual n, 3) ∧ ax_pc cd (i + 1) = pc + 3 ∧ (b = 3 ∨ b = 4) ∧ ∃ (q : ax_N) (ci : Nat) (qc : vw_C), ax_nth NM a = some q ∧ ts = [ci] ∧ cl[ci]? = some qc ∧ qc.1 = q.1.cls ∧ (b = 4 ↔ q.2.2 = none) ∧ ax_lk TT NL nm.cls n q.1 ∧ Cond.instanceMethod q.1 ∈ TT ∧ Cond.selects q.1.cls q.1 q.1 ∈ TT ∧ ∀ r : ax_M, ax_nth M a = some r → ∃ n : Nat, r.2.2.1 = n + 1 ∧ (parseMethodDescriptor q.1.desc).map (fun d => d.parameters.length) = some n
    | .invokestatic n => decode cc pc = .ok (.invokestatic n, 3) ∧ ax_pc cd (i + 1) = pc + 3 ∧ ((b = 1 ∧ Cond.methodLink nm.cls n Lib.Math.max.name ∈ TT ∧ Cond.static Lib.Math.max.name ∈ TT ∧ Cond.initialized "java/lang/Math" ∈ TT ∧ Cond.code Lib.Math.max.name Lib.Math.max.code 2 (some .int) ∈ TT) ∨ (b = 2 ∧ Cond.methodLink nm.cls n Lib.Math.min.name ∈ TT ∧ Cond.static Lib.Math.min.name ∈ TT ∧ Cond.initialized "java/lang/Math" ∈ TT ∧ Cond.code Lib.Math.min.name Lib.Math.min.code 2 (some .int) ∈ TT) ∨
        ((b = 3 ∨ b = 4) ∧ ∃ q : ax_N, ax_nth NM a = some q ∧ (b = 4 ↔ q.2.2 = none) ∧ ax_lk TT NL nm.cls n q.1 ∧ Cond.static q.1 ∈ TT ∧ ∀ r : ax_M, ax_nth M a = some r → (parseMethodDescriptor q.1.desc).map (fun d => d.parameters.length) = some r.2.2.1))
    | .invokespecial n => decode cc pc = .ok (.invokespecial n, 3) ∧ ax_pc cd (i + 1) = pc + 3 ∧ ((b = 0 ∧ Cond.methodLink nm.cls n Lib.objectInit ∈ TT ∧ Cond.instanceMethod Lib.objectInit ∈ TT ∧ Cond.code Lib.objectInit ⟨#[0xb1]⟩ 1 none ∈ TT) ∨
        (b = 4 ∧ ∃ (q : ax_N) (ci : Nat), ax_nth NM a = some q ∧ ts = [ci] ∧ q.2.2 = none ∧ ax_lk TT NL nm.cls n q.1 ∧ q.1.name = "<init>" ∧ Cond.instanceMethod q.1 ∈ TT ∧ ∀ r : ax_M, ax_nth M a = some r → ∃ n : Nat, r.2.2.1 = n + 1 ∧ (parseMethodDescriptor q.1.desc).map (fun d => d.parameters.length) = some n))
    | .ireturn => decode cc pc = .ok (.ireturn, 1) ∧ ((a = 0 ∧ rt = some .int) ∨ (a = 1 ∧ rt = some .boolean))
    | .return_ => decode cc pc = .ok (.return_, 1) ∧ rt = none
    | _ => True
section AXG
variable (M : List ax_M) (X : List (List Value)) (NM : List ax_N) (cl : List vw_C) (TT : List Cond) (NL : List (String × Nat × MethodName × String))
def ax_okl (nm : MethodName) (cc : ByteArray) (rt : Option FieldType) (nl : Nat) (cd : List ax_I) : Nat → List ax_I → Prop
  | _, [] => True
  | i, e :: l => ax_ok M X NM cl TT NL nm cc rt nl cd i e ∧ ax_okl nm cc rt nl cd (i + 1) l
/-- what a method's tables must hold -/
def ax_g3 (q : ax_N) (r : ax_M) : Prop := plainName q.1.cls = true ∧ Cond.code q.1 q.2.1 r.2.1 q.2.2 ∈ TT ∧ Cond.initialized q.1.cls ∈ TT ∧ (q.1.cls ≠ "java/lang/invoke/MethodHandle" ∧ q.1.cls ≠ "java/lang/invoke/VarHandle") ∧ r.2.1 ≤ 21 ∧ r.2.2.1 ≤ r.2.1 ∧ ax_pc r.1 0 = 0 ∧
    ∀ (i : Nat) (e : ax_I), ax_nth r.1 i = some e → ax_ok M X NM cl TT NL q.1 q.2.1 q.2.2 r.2.1 r.1 i e
/-- what the tables must hold -/
def ax_Good : Prop :=
  (∀ w ∈ TT, (w.onTables && w.keeps) = true ∨ ∃ ty, w = Cond.arrayClass ty) ∧
  (∀ (a : Nat) (q : vw_C), cl[a]? = some q → (∀ w ∈ u_ws q.1 q.2.1 q.2.2, w ∈ TT) ∧ (∃ ty : Nat → FieldType, ∀ k, k < q.2.2 → parseFieldDescriptor (q.2.1 k).2.2.1 = some (ty k)) ∧ ∀ a, a < q.2.2 → ∀ b, b < q.2.2 → a ≠ b → (q.2.1 a).2.1 ≠ (q.2.1 b).2.1) ∧
  (∀ (y : Nat) (q : ax_N) (r : ax_M), ax_nth NM y = some q → ax_nth M y = some r → ax_g3 M X NM cl TT NL q r) ∧
  (∀ (y : Nat) (r : ax_M), ax_nth M y = some r → ∃ q : ax_N, ax_nth NM y = some q)
end AXG
theorem ax_okl_at' {M : List ax_M} {X : List (List Value)} {NM : List ax_N} {cl : List vw_C} {TT : List Cond} {NL : List (String × Nat × MethodName × String)} {nm : MethodName} {cc : ByteArray} {rt : Option FieldType} {nl : Nat} {cd : List ax_I} : ∀ (l : List ax_I) (k : Nat), ax_okl M X NM cl TT NL nm cc rt nl cd k l → ∀ (i : Nat) (e : ax_I), ax_nth l i = some e → ax_ok M X NM cl TT NL nm cc rt nl cd (k + i) e
  | [], _, _, _, _, h => by cases h
  | a :: l, k, h, 0, e, he => by
    cases he
    exact h.1
  | a :: l, k, h, i + 1, e, he => by
    have := ax_okl_at' l (k + 1) h.2 i e he
    rw [show k + (i + 1) = k + 1 + i by omega]
    exact this
theorem ax_okl_at {M : List ax_M} {X : List (List Value)} {NM : List ax_N} {cl : List vw_C} {TT : List Cond} {NL : List (String × Nat × MethodName × String)} {nm : MethodName} {cc : ByteArray} {rt : Option FieldType} {nl : Nat} {cd : List ax_I} (h : ax_okl M X NM cl TT NL nm cc rt nl cd 0 cd) (i : Nat) (e : ax_I) (he : ax_nth cd i = some e) : ax_ok M X NM cl TT NL nm cc rt nl cd i e := by
  have := ax_okl_at' cd 0 h i e he
  rwa [Nat.zero_add] at this
def ax_all2 (P : ax_N → ax_M → Prop) : List ax_N → List ax_M → Prop
  | [], [] => True
  | a :: l, b :: m => P a b ∧ ax_all2 P l m
  | _, _ => False
theorem ax_all2_at {P : ax_N → ax_M → Prop} : ∀ {l : List ax_N} {m : List ax_M}, ax_all2 P l m → ∀ (y : Nat) (q : ax_N) (r : ax_M), ax_nth l y = some q → ax_nth m y = some r → P q r
  | [], _, _, _, _, _, h, _ => by cases h
  | _ :: _, [], h, _, _, _, _, _ => False.elim h
  | a :: l, b :: m, h, 0, q, r, h1, h2 => by
    cases h1
    cases h2
    exact h.1
  | a :: l, b :: m, h, y + 1, q, r, h1, h2 => ax_all2_at (l := l) (m := m) h.2 y q r h1 h2
theorem ax_all2_ex {P : ax_N → ax_M → Prop} : ∀ {l : List ax_N} {m : List ax_M}, ax_all2 P l m → ∀ (y : Nat) (r : ax_M), ax_nth m y = some r → ∃ q : ax_N, ax_nth l y = some q
  | _, [], _, _, _, h => by cases h
  | [], _ :: _, h, _, _, _ => False.elim h
  | a :: l, b :: m, _, 0, _, _ => ⟨a, rfl⟩
  | a :: l, b :: m, h, y + 1, r, h2 => ax_all2_ex (l := l) (m := m) h.2 y r h2
abbrev ax_ty (cI cZ : ClassId) : List (ClassId × FieldType) := [(cI, .int), (cZ, .boolean)]
def ax_rm (d mc ms : Nat) : Room := { frames := d, cells := mc, slots := ms, locals := 40 * d }
/-- the world behind a method -/
def ax_Bw (D : va_G) (cl : List vw_C) (cI cZ : ClassId) (A : Nat → Prop) (mc : Nat) (h : ax_H) (ad : Nat → Nat) (u : ax_H × (Nat → Nat)) (t : State) : Prop :=
  va_P D cl (ax_w cI cZ u.2 u.1) t.heap ∧ va_K D cl (ax_ty cI cZ) t ∧ va_D A (ax_w cI cZ u.2 u.1) ∧ (∀ k, k < h.length → u.2 k = ad k) ∧ (mc = 0 → u.2 = ad) ∧ h.length ≤ u.1.length
def ax_Q (D : va_G) (cl : List vw_C) (cI cZ : ClassId) (A : Nat → Prop) (mc : Nat) (h : ax_H) (ad : Nat → Nat) (K : ax_K) (rt : Option FieldType) : Array Value → State → Outcome → State → Prop := match rt with
  | none => va_Qv (fun u : ax_H × (Nat → Nat) => K none u.1) (ax_Bw D cl cI cZ A mc h ad) A
  | some _ => va_Qi (fun (r : Int32) (u : ax_H × (Nat → Nat)) => K (some (.int r)) u.1) (ax_Bw D cl cI cZ A mc h ad) A
def ax_P (D : va_G) (cl : List vw_C) (NL : List (String × Nat × MethodName × String)) (cI cZ : ClassId) (sz : Nat) (h : ax_H) (ad : Nat → Nat) (U : State) : Prop :=
  U.heap.size = sz ∧ va_P D cl (ax_w cI cZ ad h) U.heap ∧ va_K D cl (ax_ty cI cZ) U ∧ va_D (fun _ => True) (ax_w cI cZ ad h) ∧ ∀ q ∈ NL, va_Nw (.methodLinkNest q.1 q.2.1 q.2.2.1 q.2.2.2) U
/-- a method's contract -/
def ax_Met (l : Launch) (D : va_G) (cl : List vw_C) (TT : List Cond) (NL : List (String × Nat × MethodName × String)) (NM : List ax_N) (M : List ax_M) (cI cZ : ClassId) (d : Nat) (y : Nat) (As : List Value) (h : ax_H) (K : ax_K) : Prop :=
  ∀ (q : ax_N) (r : ax_M), ax_nth NM y = some q → ax_nth M y = some r → ∀ (ad : Nat → Nat) (sz : Nat),
    Met l q.1 (Cond.code q.1 q.2.1 r.2.1 q.2.2 :: TT) (ax_rm d r.2.2.2.1 r.2.2.2.2) (va_Pc (As.map (ax_v ad)) (ax_P D cl NL cI cZ sz h ad)) (ax_Q D cl cI cZ (va_A (ax_w cI cZ ad h) sz) r.2.2.2.1 h ad K q.2.2) r.2.2.2.1 r.2.2.2.2 (va_A (ax_w cI cZ ad h) sz)
def ax_Inv (D : va_G) (cl : List vw_C) (cI cZ : ClassId) (A : Nat → Prop) (H0 : Heap) (nl : Nat) (h0 : ax_H) (ad0 : Nat → Nat) (L : ax_L) (h : ax_H) (ce : Nat) (ad : Nat → Nat) (H : Heap) (locs : List Loc) (ls : Array Slot) : Prop :=
  L.length = nl ∧ lv_has ls nl (ax_lv ad L) ∧ va_P D cl (ax_w cI cZ ad h) H ∧ va_D A (ax_w cI cZ ad h) ∧ va_S A H0 H locs ∧ (∀ k, k < h0.length → ad k = ad0 k) ∧ (ce = 0 → ad = ad0) ∧ h0.length ≤ h.length
def ax_W (p : Program) (l : Launch) (e : Env) (R : Room) (s : State) (m : MethodId) (args : Array Value) (below : List Frame) (meth : Method) (c : Code) (D : va_G) (cl : List vw_C) (cI cZ : ClassId) (A : Nat → Prop) (nl : Nat) (cd : List ax_I) (h0 : ax_H) (ad0 : Nat → Nat) (Q : State → Prop) : ax_R := fun i L S h ce sl =>
  ∀ (ad : Nat → Nat) (H : Heap) (locs : List Loc) (ls : Array Slot), ax_Inv D cl cI cZ A s.heap nl h0 ad0 L h ce ad H locs ls → W p l e R s m args below meth c H locs ce sl Q (F0 m (ax_pc cd i) ls (S.map (ax_v ad)))
