/-! THE CLAIM OUT OF ONE WALK OF THE LAW'S BODY. Your part is whole_start (and what it stands on); all else here is the same for every law, but numbers. -/
def R_law : String := "RunOrderLaw"
def lw_P (b : Addr) (xs : List Int32) (args : Array Value) (s : State) : Prop := args = #[.ref b] ∧ s.IntsAt b xs ∧ xs.length ≤ 2562 ∧ (Jvm.Cond.and given_1 narrow_1).before args s = true
def lw_Q (_ : Array Value) (s : State) (o : Outcome) (t : State) : Prop := o = .returned (some (.int 1)) ∧ Framed s o t [] 52 1248
def lw_Z (below : List Frame) (a : Array Value) (s : State) : State → Prop := fun t => ∃ o, t.status = .running ∧ Ended t below o ∧ lw_Q a s o t
/-- the law's own end, with 1 on the stack, nothing written that was there before, its room as the claim has it -/
theorem lw_ret {p : Program} {l : Launch} {e : Env} {s : State} {m : MethodId} {below : List Frame} {meth : Method} {c : Code} {b : Nat} (hx : p.tables.exec = Jvm.exec) (hb : c.code = code) (hr : meth.sig.returnType = ret) (hlocks : meth.locks = false) {pc : Nat} {H : Heap} {ls : Array Slot} (hdg : decode code pc = .ok (.ireturn, 1)) : W p l e room_1 s m #[Value.ref b] below meth c H [] 52 1248 (lw_Z below #[Value.ref b] s) (F0 m pc ls [.int 1]) := by
  intro T hT X
  obtain ⟨fs, hret, hrun, hended, hW, hframe⟩ := X.leave (v := some (.int 1)) (hlocks := hlocks) (fun h => by rw [hr] at h; cases h)
  have hmeth' : T.vm.method? m = some meth := X.method'
  refine ⟨T.setFrames fs, ?_, .returned (some (.int 1)), hrun, hended, rfl, ⟨_, rfl⟩, hW, hframe⟩
  jvm_step X.here [X.here.top, hx, hb, hdg, hmeth', hr, ret, narrow_b1]
  (try refine ⟨rfl, ?_⟩); (try refine ⟨rfl, ?_⟩)
  first | (intro acts; rw [hret _ acts rfl rfl rfl]) | rw [hret _ _ rfl rfl rfl]
  exact Steps.refl _
/-- what holds at the law's entry: the machine, the code, the tables' words (any of lw_tbl by 'hts w (by decide +kernel)'), the script of L ints xs at the cell b, what the Statement gives of the start (any of its parts by flat_of_before) -/
def lw_At (p : Program) (s : State) (m : MethodId) (meth : Method) (c : Code) (b L : Nat) (xs : Nat → Int32) : Prop :=
  p.tables.exec = Jvm.exec ∧ c.code = code ∧ meth.sig.returnType = ret ∧ c.maxLocals = 4 ∧ s.vm.findClass R_law = some m.cls ∧ (∀ w ∈ lw_tbl, w.before #[Value.ref b] s = true) ∧ va_X b L xs s s.heap ∧ b < s.heap.size ∧ meth.locks = false ∧ (Jvm.Cond.and given_1 narrow_1).before #[Value.ref b] s = true

/-! The law: calls out of it. -/
abbrev lx_A (s : State) : Nat → Prop := fun q => s.heap.size ≤ q
theorem lx_gi {ws : List Cond} (h : ∀ w ∈ ws, w ∈ ax_TT) : GoodIn lw_tbl ws := fun w hw => ⟨(List.mem_filter.mp (h w hw)).1, good_of_word (List.mem_filter.mp (h w hw)).2⟩
section LX
variable {p : Program} {l : Launch} {e : Env} {s : State} {m : MethodId} {args : Array Value} {below : List Frame} {meth : Method} {c : Code} {H : Heap} {locs : List Loc} {Q : State → Prop} {D : va_G} {cI cZ : ClassId} {ls : Array Slot} {pc : Nat}
theorem lx_runV (S : CallFix p m c code 4 s args lw_tbl R_law) (hK : va_K D ax_cl (ax_ty cI cZ) s) (hN : ∀ q ∈ ax_NLs, va_Nw (.methodLinkNest q.1 q.2.1 q.2.2.1 q.2.2.2) s) {y idx ci n nl : Nat} {nm : MethodName} {cc2 : ByteArray} {ty : FieldType} {cd : List ax_I} {qc : vw_C} (hn : ax_nth ax_NMs y = some (nm, cc2, some ty)) (hm : ax_nth ax_Ms y = some (cd, nl, n + 1, 0, 0)) (hnl : nl ≤ 11) (hci : ax_cl[ci]? = some qc) (hcc : qc.1 = nm.cls) (hlk : Cond.methodLink R_law idx nm ∈ lw_tbl) (him : Cond.instanceMethod nm ∈ lw_tbl) (hse : Cond.selects nm.cls nm nm ∈ lw_tbl) (hpd : (parseMethodDescriptor nm.desc).map (fun d => d.parameters.length) = some n)
    {A : Nat → Prop} {h : ax_H} {ad : Nat → Nat} {xs r : List Value} {K : ax_K} {fs : List Value} (hc : ax_D ax_Ms ax_Xs 7 y (.ref 0 :: xs) h K) (hxs : xs.map (ax_v ad) = xs) (h0 : ax_nth h 0 = some (.inr (ci, fs))) (hP : va_P D ax_cl (ax_w cI cZ ad h) H) (hD : va_D A (ax_w cI cZ ad h)) (hl : xs.length = n) (hr4 : (r.map fun v => v.category).sum ≤ 8) (hls : ls.size = 4) (hdg : decode code pc = .ok (.invokevirtual idx, 3)) :
    va_Run p l e room_1 s m args below meth c H locs 52 1248 0 0 (F0 m pc ls (xs.reverse ++ .ref (ad 0) :: r)) r (ax_Q D ax_cl cI cZ (va_A (ax_w cI cZ ad h) H.size) 0 h ad K (some ty) (Value.ref (ad 0) :: xs).toArray) (va_A (ax_w cI cZ ad h) H.size) := by
  obtain ⟨G1, G2, G3, G4⟩ := ax_good
  obtain ⟨g1, g2, g3, g4, g5, g6, g7, g8⟩ := G3 y _ _ hn hm
  have hM := ax_sound (l := l) (D := D) (cI := cI) (cZ := cZ) ax_good 7 y _ h K hc _ _ hn hm ad H.size
  have hts := S.2.2.2.2
  rw [show (Value.ref 0 :: xs).map (ax_v ad) = Value.ref (ad 0) :: xs by rw [List.map_cons, hxs]; rfl] at hM
  have hR : (ax_rm 7 0 0).frames + 1 ≤ room_1.frames ∧ 8 + (nl + 11) + (ax_rm 7 0 0).locals ≤ room_1.locals := by
    refine ⟨by decide, ?_⟩
    show 8 + (nl + 11) + 40 * 7 ≤ 310
    omega
  have hGw : GoodIn lw_tbl (Cond.code nm cc2 nl (some ty) :: ax_TT) := lx_gi (fun w hw => by
    rcases List.mem_cons.mp hw with rfl | hw
    · exact g2
    · exact hw)
  have hin : ∀ w ∈ ax_TT, w.before args s = true := fun w hw => hts w (List.mem_filter.mp hw).1
  have hrecv : ∃ cellB : Cell, H[ad 0]? = some cellB ∧ cellB.vm.isStatics = false ∧ s.vm.findClass nm.cls = some cellB.cls := by
    have := va_recv hK hP (ci := ci) (q0 := 0) hci (ax_w_get h0)
    rw [hcc] at this
    exact this
  have hpre : PreV s H nm.cls (ad 0) (va_Pc (Value.ref (ad 0) :: xs) (ax_P D ax_cl ax_NLs cI cZ H.size h ad)) xs := ⟨ax_blind, hrecv, fun U hU hW => ax_pre hP hD hK hN U hU hW⟩
  exact va_runV (As := xs) (rest := r) S hM ⟨callB_of n hts hGw rfl rfl rfl (hin _ g3) (hts _ hlk) ⟨g4.1, g4.2, hpd⟩ hR, hts _ him, hts _ hse⟩ hpre rfl hl hls rfl (lv_room hr4) hdg ⟨by decide, by decide⟩
/-- a call of a method that makes nothing; the other world stands -/
theorem lx_call (S : CallFix p m c code 4 s args lw_tbl R_law) (hK : va_K D ax_cl (ax_ty cI cZ) s) (hN : ∀ q ∈ ax_NLs, va_Nw (.methodLinkNest q.1 q.2.1 q.2.2.1 q.2.2.2) s) {y idx ci n nl : Nat} {nm : MethodName} {cc2 : ByteArray} {ty : FieldType} {cd : List ax_I} {qc : vw_C} (hn : ax_nth ax_NMs y = some (nm, cc2, some ty)) (hm : ax_nth ax_Ms y = some (cd, nl, n + 1, 0, 0)) (hnl : nl ≤ 11) (hci : ax_cl[ci]? = some qc) (hcc : qc.1 = nm.cls) (hlk : Cond.methodLink R_law idx nm ∈ lw_tbl) (him : Cond.instanceMethod nm ∈ lw_tbl) (hse : Cond.selects nm.cls nm nm ∈ lw_tbl) (hpd : (parseMethodDescriptor nm.desc).map (fun d => d.parameters.length) = some n)
    {h : ax_H} {ad : Nat → Nat} {xs r : List Value} {K : ax_K} {fs : List Value} (hc : ax_D ax_Ms ax_Xs 7 y (.ref 0 :: xs) h K) (hxs : xs.map (ax_v ad) = xs) (h0 : ax_nth h 0 = some (.inr (ci, fs))) (hl : xs.length = n) (hr4 : (r.map fun v => v.category).sum ≤ 8) (hls : ls.size = 4) (hdg : decode code pc = .ok (.invokevirtual idx, 3))
    (hP : va_P D ax_cl (ax_w cI cZ ad h) H) (hD : va_D (lx_A s) (ax_w cI cZ ad h)) {wo : va_W} (hPo : va_P D ax_cl wo H) (hx : ∀ (i j : Nat) (p q : Nat × va_E), (ax_w cI cZ ad h)[i]? = some p → wo[j]? = some q → p.1 ≠ q.1) (hS : va_S (lx_A s) s.heap H locs)
    (kk : ∀ (z : Int32) (h' : ax_H) (H1 : Heap) (locs1 : List Loc), K (some (.int z)) h' → va_P D ax_cl (ax_w cI cZ ad h') H1 → va_D (lx_A s) (ax_w cI cZ ad h') → va_P D ax_cl wo H1 → (∀ (i j : Nat) (p q : Nat × va_E), (ax_w cI cZ ad h')[i]? = some p → wo[j]? = some q → p.1 ≠ q.1) → va_S (lx_A s) s.heap H1 locs1 → W p l e room_1 s m args below meth c H1 locs1 52 1248 Q (F0 m (pc + 3) ls (.int z :: r))) :
    W p l e room_1 s m args below meth c H locs 52 1248 Q (F0 m pc ls (xs.reverse ++ .ref (ad 0) :: r)) := by
  have hF : ∀ q, va_A (ax_w cI cZ ad h) H.size q → lx_A s q := by
    rintro q (⟨k, e, hk⟩ | hq)
    · exact hD.2 k (q, e) hk
    · exact Nat.le_trans hS.1 hq
  have hap : ∀ (j : Nat) (q : Nat × va_E), wo[j]? = some q → ¬ va_A (ax_w cI cZ ad h) H.size q.1 := by
    rintro j q hq (⟨i, e, hi⟩ | hlt)
    · exact hx i j (q.1, e) q hi hq rfl
    · have := (hPo j q hq).lt
      omega
  have hr := lx_runV (l := l) (p := p) (e := e) (below := below) (meth := meth) (locs := locs) (pc := pc) S hK hN hn hm hnl hci hcc hlk him hse hpd hc hxs h0 hP hD hl hr4 hls hdg
  refine va_calli (a := (Value.ref (ad 0) :: xs).toArray) (post := fun (r : Int32) (u : ax_H × (Nat → Nat)) => K (some (.int r)) u.1) (B := ax_Bw D ax_cl cI cZ (va_A (ax_w cI cZ ad h) H.size) 0 h ad) hr hS (fun q _ hq => hF q hq) hF (fun z u t H1 locs1 ht hvm hw hB hz1 hk1 hS1 => ?_)
  obtain ⟨h', ad'⟩ := u
  obtain ⟨bP, bK, bD, b1, b2, b3⟩ := hB
  dsimp only at bP bD b1 b2 b3
  have e1 : ad' = ad := b2 rfl
  subst e1
  refine kk z h' H1 locs1 hw (by rw [← ht]; exact bP) (bD.weaken (fun k q _ hq => hF q.1 hq)) (hPo.kept (fun k q hq => hk1 q.1 ((hPo k q hq).lt) (hap k q hq))) (fun i j p q hp hq e => ?_) hS1
  refine hap j q hq ?_
  rw [← e]
  exact bD.2 i p hp
theorem lx_runI (S : CallFix p m c code 4 s args lw_tbl R_law) (hK : va_K D ax_cl (ax_ty cI cZ) s) (hN : ∀ q ∈ ax_NLs, va_Nw (.methodLinkNest q.1 q.2.1 q.2.2.1 q.2.2.2) s) {y idx n nl mA sA ce sl : Nat} {nm : MethodName} {cc2 : ByteArray} {cd : List ax_I} (hn : ax_nth ax_NMs y = some (nm, cc2, none)) (hm : ax_nth ax_Ms y = some (cd, nl, n + 1, mA, sA)) (hnl : nl ≤ 11) (hlk : Cond.methodLink R_law idx nm ∈ lw_tbl) (him : Cond.instanceMethod nm ∈ lw_tbl) (hnm : nm.name = "<init>") (hpd : (parseMethodDescriptor nm.desc).map (fun d => d.parameters.length) = some n)
    {A : Nat → Prop} {h : ax_H} {ad : Nat → Nat} {xs r : List Value} {K : ax_K} (hc : ax_D ax_Ms ax_Xs 7 y (.ref 0 :: xs) h K) (hxs : xs.map (ax_v ad) = xs) (hP : va_P D ax_cl (ax_w cI cZ ad h) H) (hD : va_D A (ax_w cI cZ ad h)) (hl : xs.length = n) (hr4 : (r.map fun v => v.category).sum ≤ 8) (hls : ls.size = 4) (hdg : decode code pc = .ok (.invokespecial idx, 3)) (hcm : ce + mA ≤ 52) (hsm : sl + sA ≤ 1248) :
    va_Run p l e room_1 s m args below meth c H locs ce sl mA sA (F0 m pc ls (xs.reverse ++ .ref (ad 0) :: r)) r (ax_Q D ax_cl cI cZ (va_A (ax_w cI cZ ad h) H.size) mA h ad K none (Value.ref (ad 0) :: xs).toArray) (va_A (ax_w cI cZ ad h) H.size) := by
  obtain ⟨G1, G2, G3, G4⟩ := ax_good
  obtain ⟨g1, g2, g3, g4, g5, g6, g7, g8⟩ := G3 y _ _ hn hm
  have hM := ax_sound (l := l) (D := D) (cI := cI) (cZ := cZ) ax_good 7 y _ h K hc _ _ hn hm ad H.size
  have hts := S.2.2.2.2
  rw [show (Value.ref 0 :: xs).map (ax_v ad) = Value.ref (ad 0) :: xs by rw [List.map_cons, hxs]; rfl] at hM
  have hR : (ax_rm 7 mA sA).frames + 1 ≤ room_1.frames ∧ 8 + (nl + 11) + (ax_rm 7 mA sA).locals ≤ room_1.locals := by
    refine ⟨show 7 + 1 ≤ 9 by decide, ?_⟩
    show 8 + (nl + 11) + 40 * 7 ≤ 310
    omega
  have hGw : GoodIn lw_tbl (Cond.code nm cc2 nl none :: ax_TT) := lx_gi (fun w hw => by
    rcases List.mem_cons.mp hw with rfl | hw
    · exact g2
    · exact hw)
  have hin : ∀ w ∈ ax_TT, w.before args s = true := fun w hw => hts w (List.mem_filter.mp hw).1
  have hpre : PreS s H (va_Pc (Value.ref (ad 0) :: xs) (ax_P D ax_cl ax_NLs cI cZ H.size h ad)) (Value.ref (ad 0) :: xs) := ⟨ax_blind, fun U hU hW => ax_pre hP hD hK hN U hU hW⟩
  exact va_runI (As := xs) (rest := r) S hM ⟨callB_of n hts hGw rfl rfl rfl (hin _ g3) (hts _ hlk) ⟨g4.1, g4.2, hpd⟩ hR, hnm, hts _ him⟩ hpre rfl hl hls rfl (lv_room hr4) hdg ⟨hcm, hsm⟩
/-- a constructor -/
theorem lx_init (S : CallFix p m c code 4 s args lw_tbl R_law) (hK : va_K D ax_cl (ax_ty cI cZ) s) (hN : ∀ q ∈ ax_NLs, va_Nw (.methodLinkNest q.1 q.2.1 q.2.2.1 q.2.2.2) s) {y idx n nl mA sA ce sl : Nat} {nm : MethodName} {cc2 : ByteArray} {cd : List ax_I} (hn : ax_nth ax_NMs y = some (nm, cc2, none)) (hm : ax_nth ax_Ms y = some (cd, nl, n + 1, mA, sA)) (hnl : nl ≤ 11) (hlk : Cond.methodLink R_law idx nm ∈ lw_tbl) (him : Cond.instanceMethod nm ∈ lw_tbl) (hnm : nm.name = "<init>") (hpd : (parseMethodDescriptor nm.desc).map (fun d => d.parameters.length) = some n)
    {h : ax_H} {ad : Nat → Nat} {xs r : List Value} {K : ax_K} (hc : ax_D ax_Ms ax_Xs 7 y (.ref 0 :: xs) h K) (hxs : xs.map (ax_v ad) = xs) (h0 : 0 < h.length) (hl : xs.length = n) (hr4 : (r.map fun v => v.category).sum ≤ 8) (hls : ls.size = 4) (hdg : decode code pc = .ok (.invokespecial idx, 3)) (hcm : ce + mA ≤ 52) (hsm : sl + sA ≤ 1248)
    (hP : va_P D ax_cl (ax_w cI cZ ad h) H) (hD : va_D (lx_A s) (ax_w cI cZ ad h)) {wo : va_W} (hPo : va_P D ax_cl wo H) (hx : ∀ (i j : Nat) (p q : Nat × va_E), (ax_w cI cZ ad h)[i]? = some p → wo[j]? = some q → p.1 ≠ q.1) (hS : va_S (lx_A s) s.heap H locs)
    (kk : ∀ (h' : ax_H) (ad' : Nat → Nat) (H1 : Heap) (locs1 : List Loc), K none h' → ad' 0 = ad 0 → va_P D ax_cl (ax_w cI cZ ad' h') H1 → va_D (lx_A s) (ax_w cI cZ ad' h') → va_P D ax_cl wo H1 → (∀ (i j : Nat) (p q : Nat × va_E), (ax_w cI cZ ad' h')[i]? = some p → wo[j]? = some q → p.1 ≠ q.1) → va_S (lx_A s) s.heap H1 locs1 → W p l e room_1 s m args below meth c H1 locs1 (ce + mA) (sl + sA) Q (F0 m (pc + 3) ls r)) :
    W p l e room_1 s m args below meth c H locs ce sl Q (F0 m pc ls (xs.reverse ++ .ref (ad 0) :: r)) := by
  have hF : ∀ q, va_A (ax_w cI cZ ad h) H.size q → lx_A s q := by
    rintro q (⟨k, e, hk⟩ | hq)
    · exact hD.2 k (q, e) hk
    · exact Nat.le_trans hS.1 hq
  have hap : ∀ (j : Nat) (q : Nat × va_E), wo[j]? = some q → ¬ va_A (ax_w cI cZ ad h) H.size q.1 := by
    rintro j q hq (⟨i, e, hi⟩ | hlt)
    · exact hx i j (q.1, e) q hi hq rfl
    · have := (hPo j q hq).lt
      omega
  have hr := lx_runI (l := l) (p := p) (e := e) (below := below) (meth := meth) (locs := locs) (pc := pc) S hK hN hn hm hnl hlk him hnm hpd hc hxs hP hD hl hr4 hls hdg hcm hsm
  refine va_callv (a := (Value.ref (ad 0) :: xs).toArray) (post := fun (u : ax_H × (Nat → Nat)) => K none u.1) (B := ax_Bw D ax_cl cI cZ (va_A (ax_w cI cZ ad h) H.size) mA h ad) hr hS (fun q _ hq => hF q hq) hF (fun u t H1 locs1 ht hvm hw hB hz1 hk1 hS1 => ?_)
  obtain ⟨h', ad'⟩ := u
  obtain ⟨bP, bK, bD, b1, b2, b3⟩ := hB
  dsimp only at bP bD b1 b2 b3
  refine kk h' ad' H1 locs1 hw (b1 0 h0) (by rw [← ht]; exact bP) (bD.weaken (fun k q _ hq => hF q.1 hq)) (hPo.kept (fun k q hq => hk1 q.1 ((hPo k q hq).lt) (hap k q hq))) (fun i j p q hp hq e => ?_) hS1
  refine hap j q hq ?_
  rw [← e]
  exact bD.2 i p hp
end LX
/-! cell(): the script's k-th number, or 0. -/
abbrev nm_cell : MethodName := ⟨"RunOrderLaw", "cell", "([II)I"⟩
theorem c_cell (l : Launch) (b L k sz : Nat) (xs : Nat → Int32) (hk : k < 2) (hL : L ≤ 2562) : Met l nm_cell [Cond.code nm_cell method_2_code 2 (some .int)] { frames := 0, cells := 0, slots := 0, locals := 0 } (va_Pc [.ref b, .int (nI k)] (fun U => U.heap.size = sz ∧ b < sz ∧ va_X b L xs U U.heap)) (va_Qi (fun (r : Int32) (_ : Unit) => r = if k < L then xs k else 0) (fun _ _ => True) (fun _ => False)) 0 0 (fun _ => False) := by
  refine Met.ofW (cc := method_2_code) (maxL := 2) (ret := some .int) (by decide) rfl ?_
  intro p e s m args below meth c s₁ B hml hv
  obtain ⟨rfl, hsz, hbs, hX⟩ := hv
  have hx := B.exec
  have hb := B.bytes
  have hr := B.returns
  have hlocks := B.notSynchronized
  have hS : va_S (fun _ => False) s.heap s.heap [] := va_S.rf
  have hl := lv_entry [Value.ref b, .int (nI k)] (n := 2) (Nat.le_refl 2)
  rw [lg_entry_eq]
  generalize (lg_sl [Value.ref b, .int (nI k)] ++ List.replicate (2 - (lg_sl [Value.ref b, .int (nI k)]).length) Slot.unset).toArray = ls at hl ⊢
  have l0 : ls[0]? = some (.val (.ref b)) := hl.2.2 (0, .ref b) List.mem_cons_self
  have l1 : ls[1]? = some (.val (.int (nI k))) := hl.2.2 (1, .int (nI k)) (List.mem_cons_of_mem _ List.mem_cons_self)
  have hend : ∀ x : Int32, (x = if k < L then xs k else 0) → ∀ t : State, t.heap = s.heap → s.WarmedH t.vm → va_Qi (fun (r : Int32) (_ : Unit) => r = if k < L then xs k else 0) (fun _ _ => True) (fun _ => False) [Value.ref b, .int (nI k)].toArray s (.returned (some (.int x))) t := fun x hx t ht _ => ⟨⟨x, (), rfl, hx, trivial⟩, hS.F ht⟩
  refine lv_iload_n hx hb (by decide +kernel : decode method_2_code 0 = .ok (.iload_n 1, 1)) (i := 1) rfl l1 ?_
  refine lv_aload_n hx hb (by decide +kernel : decode method_2_code 1 = .ok (.aload_n 0, 1)) (i := 0) rfl l0 ?_
  refine va_slen hx hb hX (by omega) (fun q => q) hS (by decide +kernel : decode method_2_code 2 = .ok (.arraylength, 1)) ?_
  refine lv_icmp_ge hx hb (tgt := 12) (by decide +kernel : decode method_2_code 3 = .ok (.if_icmp .ge 9, 3)) (by decide) (fun q => ?_) (fun q => ?_)
  · have hq : nI L ≤ nI k := q
    rw [nI_leI (by omega) (by omega)] at hq
    refine lv_iconst hx hb (by decide +kernel : decode method_2_code 12 = .ok (.iconst 0, 1)) rfl ?_
    exact W.iret hx hb hr (hend _ (by rw [if_neg (by omega)]; rfl)) hS.2.2 (by decide +kernel : decode method_2_code 13 = .ok (.ireturn, 1))
  · have hq : ¬ nI L ≤ nI k := q
    rw [nI_leI (by omega) (by omega)] at hq
    refine lv_aload_n hx hb (by decide +kernel : decode method_2_code 6 = .ok (.aload_n 0, 1)) (i := 0) rfl l0 ?_
    refine lv_iload_n hx hb (by decide +kernel : decode method_2_code 7 = .ok (.iload_n 1, 1)) (i := 1) rfl l1 ?_
    refine va_sld hx hb hX (by omega) (fun q => q) hS (vp_in_iff.mpr (by rw [nI_toInt (by omega)]; omega)) (by decide +kernel : decode method_2_code 8 = .ok (.iaload, 1)) ?_
    refine lv_goto hx hb (tgt := 13) (by decide +kernel : decode method_2_code 9 = .ok (.goto 4, 3)) (by decide) ?_
    exact W.iret hx hb hr (hend _ (by rw [if_pos (by omega), nI_clamp (by omega)])) hS.2.2 (by decide +kernel : decode method_2_code 13 = .ok (.ireturn, 1))
theorem lx_cell {p : Program} {l : Launch} {e : Env} {s : State} {m : MethodId} {args : Array Value} {below : List Frame} {meth : Method} {c : Code} {H : Heap} {locs : List Loc} {Q : State → Prop} {ls : Array Slot} {pc : Nat} (S : CallFix p m c code 4 s args lw_tbl R_law) {b L k ce sl : Nat} {xs : Nat → Int32} (hX : va_X b L xs s s.heap) (hbl : b < s.heap.size) (hL : L ≤ 2562) (hk : k < 2) (hS : va_S (lx_A s) s.heap H locs) (hc : ce ≤ 52) (hs : sl ≤ 1248) {r : List Value} (hr4 : (r.map fun v => v.category).sum ≤ 8) (hls : ls.size = 4) (hdg : decode code pc = .ok (.invokestatic 9, 3))
    (kk : ∀ (H1 : Heap) (locs1 : List Loc), (∀ q : Nat, q < H.size → H1[q]? = H[q]?) → va_S (lx_A s) s.heap H1 locs1 → W p l e room_1 s m args below meth c H1 locs1 ce sl Q (F0 m (pc + 3) ls (.int (if k < L then xs k else 0) :: r))) :
    W p l e room_1 s m args below meth c H locs ce sl Q (F0 m pc ls (.int (nI k) :: .ref b :: r)) := by
  have hts := S.2.2.2.2
  have hM := c_cell l b L k H.size xs hk hL
  have hw : Cond.code nm_cell method_2_code 2 (some .int) ∈ ax_TT := ax_tt 448 rfl rfl
  have hGw : GoodIn lw_tbl [Cond.code nm_cell method_2_code 2 (some .int)] := lx_gi (fun w h => by
    rcases List.mem_cons.mp h with rfl | h
    · exact hw
    · cases h)
  have hXH : va_X b L xs s H := hX.kept (hS.2.1 b hbl (by show ¬ s.heap.size ≤ b; omega))
  have hpre : PreS s H (va_Pc [.ref b, .int (nI k)] (fun U => U.heap.size = H.size ∧ b < H.size ∧ va_X b L xs U U.heap)) [.ref b, .int (nI k)] := ⟨fun a U g mk q => ⟨q.1, q.2.1, q.2.2.1, va_X.moved (u := U) (U := U.calling g mk a) (Vm.Alike.refl U.vm) q.2.2.2⟩, fun U hU hW => ⟨rfl, by rw [hU], Nat.lt_of_lt_of_le hbl hS.1, by rw [hU]; exact va_X.moved hW.alike hXH⟩⟩
  have hr := va_runS (l := l) (p := p) (e := e) (below := below) (meth := meth) (locs := locs) (g := F0 m pc ls (.int (nI k) :: .ref b :: r)) (R := room_1) (cells := ce) (slots := sl) (As := [.ref b, .int (nI k)]) (rest := r) S hM ⟨callB_of 2 hts hGw rfl rfl rfl (hts _ (List.mem_of_getElem? (i := 34) rfl)) (hts _ (List.mem_of_getElem? (i := 446) rfl)) ⟨by decide, by decide, by decide +kernel⟩ ⟨by decide, by decide⟩, hts _ (List.mem_of_getElem? (i := 447) rfl)⟩ hpre rfl rfl hls rfl (lv_room hr4) hdg ⟨hc, hs⟩
  refine va_calli (a := [Value.ref b, .int (nI k)].toArray) (post := fun (r : Int32) (_ : Unit) => r = if k < L then xs k else 0) (B := fun _ _ => True) hr hS (fun q _ hq => hq.elim) (fun q hq => hq.elim) (fun z u t H1 locs1 ht hvm hw hB hz1 hk1 hS1 => ?_)
  subst hw
  exact kk H1 locs1 (fun q hq => hk1 q hq (fun z => z)) hS1
