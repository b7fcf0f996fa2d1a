/-! The small machine against the kit's rows, 4: each instruction, then methods by depth. -/
section AXS
variable {l : Launch} {D : va_G} {cl : List vw_C} {TT : List Cond} {NL : List (String × Nat × MethodName × String)} {NM : List ax_N} {M : List ax_M} {X : List (List Value)} {cI cZ : ClassId}
/-- behind a call: the world has moved, the frame stands -/
theorem ax_back {A : Nat → Prop} {H0 H1 : Heap} {nl : Nat} {h0 : ax_H} {ad0 ad ad' : Nat → Nat} {L : ax_L} {r : List Value} {h h' : ax_H} {ce mA : Nat} {H : Heap} {locs locs1 : List Loc} {ls : Array Slot} {t : State}
    (hI : ax_Inv D cl cI cZ A H0 nl h0 ad0 L h ce ad H locs ls) (hF : ∀ q, va_A (ax_w cI cZ ad h) H.size q → A q) (hok : mA = 0 ∨ ax_okf h.length L r = true) (hB : ax_Bw D cl cI cZ (va_A (ax_w cI cZ ad h) H.size) mA h ad (h', ad') t) (ht : t.heap = H1) (hS1 : va_S A H0 H1 locs1) :
    ax_Inv D cl cI cZ A H0 nl h0 ad0 L h' (ce + mA) ad' H1 locs1 ls ∧ r.map (ax_v ad') = r.map (ax_v ad) := by
  obtain ⟨hL, hl, hP, hD, hS, hag, hz, hlen⟩ := hI
  obtain ⟨bP, bK, bD, b1, b2, b3⟩ := hB
  dsimp only at bP bD b1 b2 b3
  have hk : lv_has ls nl (ax_lv ad' L) ∧ r.map (ax_v ad') = r.map (ax_v ad) := by
    rcases hok with h1 | h1
    · rw [b2 h1]
      exact ⟨hl, rfl⟩
    · unfold ax_okf at h1
      rw [Bool.and_eq_true] at h1
      exact ⟨ax_lv_ad b1 h1.1 hl, ax_vs_eq b1 h1.2⟩
  refine ⟨⟨hL, hk.1, by rw [← ht]; exact bP, bD.weaken (fun k q _ hq => hF q.1 hq), hS1, fun k hk => ?_, fun hc => ?_, Nat.le_trans hlen b3⟩, hk.2⟩
  · rw [b1 k (Nat.lt_of_lt_of_le hk hlen), hag k hk]
  · rw [b2 (by omega), hz (by omega)]
theorem ax_blind {As : List Value} {sz : Nat} {h : ax_H} {ad : Nat → Nat} : FrameBlind (va_Pc As (ax_P D cl NL cI cZ sz h ad)) := by
  intro a U g mk q
  obtain ⟨q0, q1, qP, qK, qD, qN⟩ := q
  exact ⟨q0, q1, qP, va_K.moved (u := U) (U := U.calling g mk a) (Vm.Alike.refl U.vm) qK, qD, fun w hw => va_Nw.same rfl rfl (qN w hw)⟩
theorem ax_pre {s : State} {As : List Value} {h : ax_H} {ad : Nat → Nat} {H : Heap} {A : Nat → Prop} (hP : va_P D cl (ax_w cI cZ ad h) H) (hD : va_D A (ax_w cI cZ ad h)) (hK : va_K D cl (ax_ty cI cZ) s) (hN : ∀ q ∈ NL, va_Nw (.methodLinkNest q.1 q.2.1 q.2.2.1 q.2.2.2) s) (U : State) (hU : U.heap = H) (hW : s.WarmedH U.vm) : va_Pc As (ax_P D cl NL cI cZ H.size h ad) As.toArray U :=
  ⟨rfl, by rw [hU], by rw [hU]; exact hP, va_K.moved hW.alike hK, hD.weaken (fun _ _ _ _ => trivial), fun q hq => va_Nw.warmM hW (hN q hq)⟩
theorem ax_inA {A : Nat → Prop} {H0 H : Heap} {locs : List Loc} {ad : Nat → Nat} {h : ax_H} (hD : va_D A (ax_w cI cZ ad h)) (hS : va_S A H0 H locs) (hA : ∀ q, H0.size ≤ q → A q) : ∀ q, va_A (ax_w cI cZ ad h) H.size q → A q := by
  intro q hq
  rcases hq with ⟨k, e, hk⟩ | hq
  · exact hD.2 k (q, e) hk
  · exact hA q (Nat.le_trans hS.1 hq)
variable {p : Program} {e : Env} {s : State} {m : MethodId} {args : Array Value} {below : List Frame} {meth : Method} {c : Code} {H : Heap} {locs : List Loc} {ce sl : Nat} {Q : State → Prop} {A : Nat → Prop}
/-- a call that answers an int, whatever its kind -/
theorem ax_calli {d mc ms : Nat} {h0 : ax_H} {ad0 ad : Nat → Nat} {L : ax_L} {h : ax_H} {ls : Array Slot} {nl pc : Nat} {rM : ax_M} {qN : ax_N} {As r st0 : List Value} {K : ax_K} {ty : FieldType}
    (hr : va_Run p l e (ax_rm (d + 1) mc ms) s m args below meth c H locs ce sl rM.2.2.2.1 rM.2.2.2.2 (F0 m pc ls st0) (r.map (ax_v ad)) (ax_Q D cl cI cZ (va_A (ax_w cI cZ ad h) H.size) rM.2.2.2.1 h ad K qN.2.2 (As.map (ax_v ad)).toArray) (va_A (ax_w cI cZ ad h) H.size))
    (hrt : qN.2.2 = some ty) (hI : ax_Inv D cl cI cZ A s.heap nl h0 ad0 L h ce ad H locs ls) (hA : ∀ q, s.heap.size ≤ q → A q) (hok : rM.2.2.2.1 = 0 ∨ ax_okf h.length L r = true)
    (kk : ∀ (z : Int32) (h' : ax_H), K (some (.int z)) h' → ∀ (ad' : Nat → Nat) (H1 : Heap) (locs1 : List Loc), ax_Inv D cl cI cZ A s.heap nl h0 ad0 L h' (ce + rM.2.2.2.1) ad' H1 locs1 ls → W p l e (ax_rm (d + 1) mc ms) s m args below meth c H1 locs1 (ce + rM.2.2.2.1) (sl + rM.2.2.2.2) Q (F0 m (pc + 3) ls ((Value.int z :: r).map (ax_v ad')))) :
    W p l e (ax_rm (d + 1) mc ms) s m args below meth c H locs ce sl Q (F0 m pc ls st0) := by
  have hF := ax_inA hI.2.2.2.1 hI.2.2.2.2.1 hA
  rw [hrt] at hr
  refine va_calli (a := (As.map (ax_v ad)).toArray) (post := fun (r : Int32) (u : ax_H × (Nat → Nat)) => K (some (.int r)) u.1) (B := ax_Bw D cl cI cZ (va_A (ax_w cI cZ ad h) H.size) rM.2.2.2.1 h ad) hr hI.2.2.2.2.1 (fun q _ hq => hF q hq) hF (fun z u t H1 locs1 ht hvm hw hB hz1 hk1 hS1 => ?_)
  obtain ⟨h', ad'⟩ := u
  obtain ⟨hI', he⟩ := ax_back hI hF hok hB ht hS1
  have := kk z h' hw ad' H1 locs1 hI'
  rw [List.map_cons, he] at this
  exact this
theorem ax_callv {d mc ms : Nat} {h0 : ax_H} {ad0 ad : Nat → Nat} {L : ax_L} {h : ax_H} {ls : Array Slot} {nl pc : Nat} {rM : ax_M} {qN : ax_N} {As r st0 : List Value} {K : ax_K}
    (hr : va_Run p l e (ax_rm (d + 1) mc ms) s m args below meth c H locs ce sl rM.2.2.2.1 rM.2.2.2.2 (F0 m pc ls st0) (r.map (ax_v ad)) (ax_Q D cl cI cZ (va_A (ax_w cI cZ ad h) H.size) rM.2.2.2.1 h ad K qN.2.2 (As.map (ax_v ad)).toArray) (va_A (ax_w cI cZ ad h) H.size))
    (hrt : qN.2.2 = none) (hI : ax_Inv D cl cI cZ A s.heap nl h0 ad0 L h ce ad H locs ls) (hA : ∀ q, s.heap.size ≤ q → A q) (hok : rM.2.2.2.1 = 0 ∨ ax_okf h.length L r = true)
    (kk : ∀ h' : ax_H, K none h' → ∀ (ad' : Nat → Nat) (H1 : Heap) (locs1 : List Loc), ax_Inv D cl cI cZ A s.heap nl h0 ad0 L h' (ce + rM.2.2.2.1) ad' H1 locs1 ls → W p l e (ax_rm (d + 1) mc ms) s m args below meth c H1 locs1 (ce + rM.2.2.2.1) (sl + rM.2.2.2.2) Q (F0 m (pc + 3) ls (r.map (ax_v ad')))) :
    W p l e (ax_rm (d + 1) mc ms) s m args below meth c H locs ce sl Q (F0 m pc ls st0) := by
  have hF := ax_inA hI.2.2.2.1 hI.2.2.2.2.1 hA
  rw [hrt] at hr
  refine va_callv (a := (As.map (ax_v ad)).toArray) (post := fun (u : ax_H × (Nat → Nat)) => K none u.1) (B := ax_Bw D cl cI cZ (va_A (ax_w cI cZ ad h) H.size) rM.2.2.2.1 h ad) hr hI.2.2.2.2.1 (fun q _ hq => hF q hq) hF (fun u t H1 locs1 ht hvm hw hB hz1 hk1 hS1 => ?_)
  obtain ⟨h', ad'⟩ := u
  obtain ⟨hI', he⟩ := ax_back hI hF hok hB ht hS1
  have := kk h' hw ad' H1 locs1 hI'
  rw [he] at this
  exact this
/-- the words of a callee, out of the caller's -/
theorem ax_gi (G : ∀ w ∈ TT, (w.onTables && w.keeps) = true ∨ ∃ ty, w = Cond.arrayClass ty) {w0 : Cond} {ws : List Cond} (h : ∀ w ∈ ws, w ∈ TT) : GoodIn (w0 :: TT) ws := fun w hw => ⟨List.mem_cons_of_mem _ (h w hw), G w (h w hw)⟩
theorem ax_runV (G : ax_Good M X NM cl TT NL) {d mc ms : Nat} {C : ax_O} (hC : ∀ y As h K, C y As h K → ax_Met l D cl TT NL NM M cI cZ d y As h K) {w0 : Cond} {own : String} {cc : ByteArray} {nL : Nat} (S : CallFix p m c cc nL s args (w0 :: TT) own)
    (hK : va_K D cl (ax_ty cI cZ) s) (hN : ∀ q ∈ NL, va_Nw (.methodLinkNest q.1 q.2.1 q.2.2.1 q.2.2.2) s) {a idx ci : Nat} {qN : ax_N} {rM : ax_M} {qc : vw_C} (hn : ax_nth NM a = some qN) (hm : ax_nth M a = some rM) (hci : cl[ci]? = some qc) (hcc : qc.1 = qN.1.cls) (hlk : ax_lk TT NL own idx qN.1) (him : Cond.instanceMethod qN.1 ∈ TT) (hse : Cond.selects qN.1.cls qN.1 qN.1 ∈ TT) {n : Nat} (hn1 : rM.2.2.1 = n + 1) (hpd : (parseMethodDescriptor qN.1.desc).map (fun d => d.parameters.length) = some n)
    {h : ax_H} {ad : Nat → Nat} {As r : List Value} {K : ax_K} (hc : C a As h K) (hP : va_P D cl (ax_w cI cZ ad h) H) (hD : va_D A (ax_w cI cZ ad h)) (hAl : As.length = rM.2.2.1) (hrc : ax_rcv [ci] As h = true) (hr4 : r.length ≤ 4) {ls : Array Slot} {pc : Nat} (hls : ls.size = nL) (hdg : decode cc pc = .ok (.invokevirtual idx, 3)) (hcm : ce + rM.2.2.2.1 ≤ mc) (hsm : sl + rM.2.2.2.2 ≤ ms) :
    va_Run p l e (ax_rm (d + 1) mc ms) s m args below meth c H locs ce sl rM.2.2.2.1 rM.2.2.2.2 (F0 m pc ls ((As.reverse ++ r).map (ax_v ad))) (r.map (ax_v ad)) (ax_Q D cl cI cZ (va_A (ax_w cI cZ ad h) H.size) rM.2.2.2.1 h ad K qN.2.2 (As.map (ax_v ad)).toArray) (va_A (ax_w cI cZ ad h) H.size) := by
  obtain ⟨G1, G2, G3, G4⟩ := G
  obtain ⟨g1, g2, g3, g4, g5, g6, g7, g8⟩ := G3 a qN rM hn hm
  have hM := hC a As h K hc qN rM hn hm ad H.size
  obtain ⟨q, As', fs, rfl, hq⟩ := ax_rcv_inv hrc
  have hts := S.2.2.2.2
  have hR : (ax_rm d rM.2.2.2.1 rM.2.2.2.2).frames + 1 ≤ (ax_rm (d + 1) mc ms).frames ∧ 8 + (rM.2.1 + 11) + (ax_rm d rM.2.2.2.1 rM.2.2.2.2).locals ≤ (ax_rm (d + 1) mc ms).locals := by
    refine ⟨Nat.le_refl _, ?_⟩
    show 8 + (rM.2.1 + 11) + 40 * d ≤ 40 * (d + 1)
    omega
  have hGw : GoodIn (w0 :: TT) (Cond.code qN.1 qN.2.1 rM.2.1 qN.2.2 :: TT) := ax_gi G1 (fun w hw => by
    rcases List.mem_cons.mp hw with rfl | hw
    · exact g2
    · exact hw)
  have hd3 : qN.1.cls ≠ "java/lang/invoke/MethodHandle" ∧ qN.1.cls ≠ "java/lang/invoke/VarHandle" ∧ (parseMethodDescriptor qN.1.desc).map (fun d => d.parameters.length) = some n := ⟨g4.1, g4.2, hpd⟩
  have hini : (Cond.initialized qN.1.cls).before args s = true := hts _ (List.mem_cons_of_mem _ g3)
  have him' : (Cond.instanceMethod qN.1).before args s = true := hts _ (List.mem_cons_of_mem _ him)
  have hse' : (Cond.selects qN.1.cls qN.1 qN.1).before args s = true := hts _ (List.mem_cons_of_mem _ hse)
  have hrecv : ∃ cellB : Cell, H[ad q]? = some cellB ∧ cellB.vm.isStatics = false ∧ s.vm.findClass qN.1.cls = some cellB.cls := by
    have := va_recv hK hP (ci := ci) (q0 := q) hci (ax_w_get hq)
    rw [hcc] at this
    exact this
  have hpre : PreV s H qN.1.cls (ad q) (va_Pc ((Value.ref q :: As').map (ax_v ad)) (ax_P D cl NL cI cZ H.size h ad)) (As'.map (ax_v ad)) := ⟨ax_blind, hrecv, fun U hU hW => ax_pre hP hD hK hN U hU hW⟩
  have hst : ((Value.ref q :: As').reverse ++ r).map (ax_v ad) = (As'.map (ax_v ad)).reverse ++ Value.ref (ad q) :: r.map (ax_v ad) := by
    simp [ax_v]
  have hW8 : 2 * (F0 m pc ls (((Value.ref q :: As').reverse ++ r).map (ax_v ad))).monitorRoom + ((r.map (ax_v ad)).map fun v => v.category).sum ≤ 8 := lv_room (Nat.le_trans (ax_cat_le ad r) (by omega))
  have hln : (As'.map (ax_v ad)).length = n := by
    rw [List.length_map]
    have : (Value.ref q :: As').length = n + 1 := hAl.trans hn1
    simpa using this
  have hf : ce + rM.2.2.2.1 ≤ (ax_rm (d + 1) mc ms).cells ∧ sl + rM.2.2.2.2 ≤ (ax_rm (d + 1) mc ms).slots := ⟨hcm, hsm⟩
  rcases hlk with hlk | ⟨host, hlk⟩
  · exact va_runV (As := As'.map (ax_v ad)) (rest := r.map (ax_v ad)) S hM ⟨callB_of n hts hGw rfl rfl rfl hini (hts _ (List.mem_cons_of_mem _ hlk)) hd3 hR, him', hse'⟩ hpre rfl hln hls hst hW8 hdg hf
  · exact va_runVN (As := As'.map (ax_v ad)) (rest := r.map (ax_v ad)) S hM ⟨va_cnB n hts hGw rfl rfl rfl (hN _ hlk) hini hd3 hR, him', hse'⟩ hpre rfl hln hls hst hW8 hdg hf
theorem ax_runS (G : ax_Good M X NM cl TT NL) {d mc ms : Nat} {C : ax_O} (hC : ∀ y As h K, C y As h K → ax_Met l D cl TT NL NM M cI cZ d y As h K) {w0 : Cond} {own : String} {cc : ByteArray} {nL : Nat} (S : CallFix p m c cc nL s args (w0 :: TT) own)
    (hK : va_K D cl (ax_ty cI cZ) s) (hN : ∀ q ∈ NL, va_Nw (.methodLinkNest q.1 q.2.1 q.2.2.1 q.2.2.2) s) {a idx : Nat} {qN : ax_N} {rM : ax_M} (hn : ax_nth NM a = some qN) (hm : ax_nth M a = some rM) (hlk : ax_lk TT NL own idx qN.1) (hstt : Cond.static qN.1 ∈ TT) (hpd : (parseMethodDescriptor qN.1.desc).map (fun d => d.parameters.length) = some rM.2.2.1)
    {h : ax_H} {ad : Nat → Nat} {As r : List Value} {K : ax_K} (hc : C a As h K) (hP : va_P D cl (ax_w cI cZ ad h) H) (hD : va_D A (ax_w cI cZ ad h)) (hAl : As.length = rM.2.2.1) (hr4 : r.length ≤ 4) {ls : Array Slot} {pc : Nat} (hls : ls.size = nL) (hdg : decode cc pc = .ok (.invokestatic idx, 3)) (hcm : ce + rM.2.2.2.1 ≤ mc) (hsm : sl + rM.2.2.2.2 ≤ ms) :
    va_Run p l e (ax_rm (d + 1) mc ms) s m args below meth c H locs ce sl rM.2.2.2.1 rM.2.2.2.2 (F0 m pc ls ((As.reverse ++ r).map (ax_v ad))) (r.map (ax_v ad)) (ax_Q D cl cI cZ (va_A (ax_w cI cZ ad h) H.size) rM.2.2.2.1 h ad K qN.2.2 (As.map (ax_v ad)).toArray) (va_A (ax_w cI cZ ad h) H.size) := by
  obtain ⟨G1, G2, G3, G4⟩ := G
  obtain ⟨g1, g2, g3, g4, g5, g6, g7, g8⟩ := G3 a qN rM hn hm
  have hM := hC a As h K hc qN rM hn hm ad H.size
  have hts := S.2.2.2.2
  have hR : (ax_rm d rM.2.2.2.1 rM.2.2.2.2).frames + 1 ≤ (ax_rm (d + 1) mc ms).frames ∧ 8 + (rM.2.1 + 11) + (ax_rm d rM.2.2.2.1 rM.2.2.2.2).locals ≤ (ax_rm (d + 1) mc ms).locals := by
    refine ⟨Nat.le_refl _, ?_⟩
    show 8 + (rM.2.1 + 11) + 40 * d ≤ 40 * (d + 1)
    omega
  have hGw : GoodIn (w0 :: TT) (Cond.code qN.1 qN.2.1 rM.2.1 qN.2.2 :: TT) := ax_gi G1 (fun w hw => by
    rcases List.mem_cons.mp hw with rfl | hw
    · exact g2
    · exact hw)
  have hd3 : qN.1.cls ≠ "java/lang/invoke/MethodHandle" ∧ qN.1.cls ≠ "java/lang/invoke/VarHandle" ∧ (parseMethodDescriptor qN.1.desc).map (fun d => d.parameters.length) = some rM.2.2.1 := ⟨g4.1, g4.2, hpd⟩
  have hini : (Cond.initialized qN.1.cls).before args s = true := hts _ (List.mem_cons_of_mem _ g3)
  have hst' : (Cond.static qN.1).before args s = true := hts _ (List.mem_cons_of_mem _ hstt)
  have hpre : PreS s H (va_Pc (As.map (ax_v ad)) (ax_P D cl NL cI cZ H.size h ad)) (As.map (ax_v ad)) := ⟨ax_blind, fun U hU hW => ax_pre hP hD hK hN U hU hW⟩
  have hst : (As.reverse ++ r).map (ax_v ad) = (As.map (ax_v ad)).reverse ++ r.map (ax_v ad) := by simp
  have hW8 : 2 * (F0 m pc ls ((As.reverse ++ r).map (ax_v ad))).monitorRoom + ((r.map (ax_v ad)).map fun v => v.category).sum ≤ 8 := lv_room (Nat.le_trans (ax_cat_le ad r) (by omega))
  have hln : (As.map (ax_v ad)).length = rM.2.2.1 := by rw [List.length_map]; exact hAl
  have hf : ce + rM.2.2.2.1 ≤ (ax_rm (d + 1) mc ms).cells ∧ sl + rM.2.2.2.2 ≤ (ax_rm (d + 1) mc ms).slots := ⟨hcm, hsm⟩
  rcases hlk with hlk | ⟨host, hlk⟩
  · exact va_runS (As := As.map (ax_v ad)) (rest := r.map (ax_v ad)) S hM ⟨callB_of _ hts hGw rfl rfl rfl hini (hts _ (List.mem_cons_of_mem _ hlk)) hd3 hR, hst'⟩ hpre rfl hln hls hst hW8 hdg hf
  · exact va_runSN (As := As.map (ax_v ad)) (rest := r.map (ax_v ad)) S hM ⟨va_cnB _ hts hGw rfl rfl rfl (hN _ hlk) hini hd3 hR, hst', trivial⟩ hpre rfl hln hls hst hW8 hdg hf
theorem ax_runI (G : ax_Good M X NM cl TT NL) {d mc ms : Nat} {C : ax_O} (hC : ∀ y As h K, C y As h K → ax_Met l D cl TT NL NM M cI cZ d y As h K) {w0 : Cond} {own : String} {cc : ByteArray} {nL : Nat} (S : CallFix p m c cc nL s args (w0 :: TT) own)
    (hK : va_K D cl (ax_ty cI cZ) s) (hN : ∀ q ∈ NL, va_Nw (.methodLinkNest q.1 q.2.1 q.2.2.1 q.2.2.2) s) {a idx ci : Nat} {qN : ax_N} {rM : ax_M} (hn : ax_nth NM a = some qN) (hm : ax_nth M a = some rM) (hrt : qN.2.2 = none) (hlk : ax_lk TT NL own idx qN.1) (hnm : qN.1.name = "<init>") (him : Cond.instanceMethod qN.1 ∈ TT) {n : Nat} (hn1 : rM.2.2.1 = n + 1) (hpd : (parseMethodDescriptor qN.1.desc).map (fun d => d.parameters.length) = some n)
    {h : ax_H} {ad : Nat → Nat} {As r : List Value} {K : ax_K} (hc : C a As h K) (hP : va_P D cl (ax_w cI cZ ad h) H) (hD : va_D A (ax_w cI cZ ad h)) (hAl : As.length = rM.2.2.1) (hrc : ax_rcv [ci] As h = true) (hr4 : r.length ≤ 4) {ls : Array Slot} {pc : Nat} (hls : ls.size = nL) (hdg : decode cc pc = .ok (.invokespecial idx, 3)) (hcm : ce + rM.2.2.2.1 ≤ mc) (hsm : sl + rM.2.2.2.2 ≤ ms) :
    va_Run p l e (ax_rm (d + 1) mc ms) s m args below meth c H locs ce sl rM.2.2.2.1 rM.2.2.2.2 (F0 m pc ls ((As.reverse ++ r).map (ax_v ad))) (r.map (ax_v ad)) (ax_Q D cl cI cZ (va_A (ax_w cI cZ ad h) H.size) rM.2.2.2.1 h ad K qN.2.2 (As.map (ax_v ad)).toArray) (va_A (ax_w cI cZ ad h) H.size) := by
  obtain ⟨G1, G2, G3, G4⟩ := G
  obtain ⟨g1, g2, g3, g4, g5, g6, g7, g8⟩ := G3 a qN rM hn hm
  have hM := hC a As h K hc qN rM hn hm ad H.size
  obtain ⟨q, As', fs, rfl, hq⟩ := ax_rcv_inv hrc
  have hts := S.2.2.2.2
  have hR : (ax_rm d rM.2.2.2.1 rM.2.2.2.2).frames + 1 ≤ (ax_rm (d + 1) mc ms).frames ∧ 8 + (rM.2.1 + 11) + (ax_rm d rM.2.2.2.1 rM.2.2.2.2).locals ≤ (ax_rm (d + 1) mc ms).locals := by
    refine ⟨Nat.le_refl _, ?_⟩
    show 8 + (rM.2.1 + 11) + 40 * d ≤ 40 * (d + 1)
    omega
  rw [hrt] at g2
  have hGw : GoodIn (w0 :: TT) (Cond.code qN.1 qN.2.1 rM.2.1 none :: TT) := ax_gi G1 (fun w hw => by
    rcases List.mem_cons.mp hw with rfl | hw
    · exact g2
    · exact hw)
  have hd3 : qN.1.cls ≠ "java/lang/invoke/MethodHandle" ∧ qN.1.cls ≠ "java/lang/invoke/VarHandle" ∧ (parseMethodDescriptor qN.1.desc).map (fun d => d.parameters.length) = some n := ⟨g4.1, g4.2, hpd⟩
  have hini : (Cond.initialized qN.1.cls).before args s = true := hts _ (List.mem_cons_of_mem _ g3)
  have him' : (Cond.instanceMethod qN.1).before args s = true := hts _ (List.mem_cons_of_mem _ him)
  have hpre : PreS s H (va_Pc ((Value.ref q :: As').map (ax_v ad)) (ax_P D cl NL cI cZ H.size h ad)) (Value.ref (ad q) :: As'.map (ax_v ad)) := ⟨ax_blind, fun U hU hW => ax_pre hP hD hK hN U hU hW⟩
  have hst : ((Value.ref q :: As').reverse ++ r).map (ax_v ad) = (As'.map (ax_v ad)).reverse ++ Value.ref (ad q) :: r.map (ax_v ad) := by
    simp [ax_v]
  have hW8 : 2 * (F0 m pc ls (((Value.ref q :: As').reverse ++ r).map (ax_v ad))).monitorRoom + ((r.map (ax_v ad)).map fun v => v.category).sum ≤ 8 := lv_room (Nat.le_trans (ax_cat_le ad r) (by omega))
  have hln : (As'.map (ax_v ad)).length = n := by
    rw [List.length_map]
    have : (Value.ref q :: As').length = n + 1 := hAl.trans hn1
    simpa using this
  have hf : ce + rM.2.2.2.1 ≤ (ax_rm (d + 1) mc ms).cells ∧ sl + rM.2.2.2.2 ≤ (ax_rm (d + 1) mc ms).slots := ⟨hcm, hsm⟩
  rw [hrt] at hM ⊢
  rcases hlk with hlk | ⟨host, hlk⟩
  · exact va_runI (As := As'.map (ax_v ad)) (rest := r.map (ax_v ad)) S hM ⟨callB_of n hts hGw rfl rfl rfl hini (hts _ (List.mem_cons_of_mem _ hlk)) hd3 hR, hnm, him'⟩ hpre rfl hln hls hst hW8 hdg hf
  · exact va_runIN (As := As'.map (ax_v ad)) (rest := r.map (ax_v ad)) S hM ⟨va_cnB n hts hGw rfl rfl rfl (hN _ hlk) hini hd3 hR, hnm, him'⟩ hpre rfl hln hls hst hW8 hdg hf
end AXS
