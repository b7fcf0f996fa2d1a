/-! The small machine against the kit's rows, 5: one instruction, and all of them. -/
section AXT
variable {l : Launch} {D : va_G} {cl : List vw_C} {TT : List Cond} {NL : List (String × Nat × MethodName × String)} {NM : List ax_N} {M : List ax_M} {X : List (List Value)} {cI cZ : ClassId}
variable {p : Program} {e : Env} {s : State} {m : MethodId} {args : Array Value} {below : List Frame} {meth : Method} {c : Code}
set_option maxHeartbeats 8000000 in
set_option maxRecDepth 100000 in
theorem ax_one (G : ax_Good M X NM cl TT NL) {d : Nat} {C : ax_O} (hC : ∀ y As h K, C y As h K → ax_Met l D cl TT NL NM M cI cZ d y As h K) {y : Nat} {q : ax_N} {cd : List ax_I} {nl n mc ms : Nat} (hn : ax_nth NM y = some q) (hy : ax_nth M y = some (cd, nl, n, mc, ms))
    {h0 : ax_H} {ad0 : Nat → Nat} {A : Nat → Prop} {K : ax_K} (hx : p.tables.exec = Jvm.exec) (hb : c.code = q.2.1) (hr : meth.sig.returnType = q.2.2) (hml : c.maxLocals = nl) (hts : ∀ w ∈ (Cond.code q.1 q.2.1 nl q.2.2 :: TT), w.before args s = true) (hown : s.vm.findClass q.1.cls = some m.cls) (hlocks : meth.locks = false) (hin : meth.name = q.1.name)
    (hN : ∀ q ∈ NL, va_Nw (.methodLinkNest q.1 q.2.1 q.2.2.1 q.2.2.2) s) (hA : ∀ q, s.heap.size ≤ q → A q) (hK : va_K D cl (ax_ty cI cZ) s) :
    ∀ (i : Nat) (L : ax_L) (S : List Value) (h : ax_H) (ce sl : Nat),
      ax_F M X y C K (ax_W p l e (ax_rm (d + 1) mc ms) s m args below meth c D cl cI cZ A nl cd h0 ad0 (MQ below (ax_Q D cl cI cZ A mc h0 ad0 K q.2.2) args s mc ms A)) i L S h ce sl →
      ax_W p l e (ax_rm (d + 1) mc ms) s m args below meth c D cl cI cZ A nl cd h0 ad0 (MQ below (ax_Q D cl cI cZ A mc h0 ad0 K q.2.2) args s mc ms A) i L S h ce sl := by
  intro i L S h ce sl hF ad H locs ls hI
  have hI0 := hI
  obtain ⟨hL, hl, hP, hD, hS, hag, hz, hlen⟩ := hI
  have hTT : ∀ w ∈ TT, w.before args s = true := fun w hw => hts w (List.mem_cons_of_mem _ hw)
  obtain ⟨G1, G2, G3, G4⟩ := id G
  have hok := (G3 y q _ hn hy).2.2.2.2.2.2.2
  have hlsz : ls.size = nl := hl.1
  unfold ax_F at hF
  rw [hy] at hF
  dsimp only at hF hok
  rcases he : ax_nth cd i with _ | ⟨pc, ins, a, b, v, ts⟩
  · rw [he] at hF
    exact False.elim hF
  rw [he] at hF
  dsimp only at hF
  have ok := hok i _ he
  rw [ax_pc_eq he]
  have nx : ∀ {j pc' : Nat} {L' : ax_L} {S' : List Value} {h' : ax_H} {ce' sl' : Nat} {ad' : Nat → Nat} {H' : Heap} {locs' : List Loc} {ls' : Array Slot}, ax_pc cd j = pc' → ax_W p l e (ax_rm (d + 1) mc ms) s m args below meth c D cl cI cZ A nl cd h0 ad0 (MQ below (ax_Q D cl cI cZ A mc h0 ad0 K q.2.2) args s mc ms A) j L' S' h' ce' sl' → ax_Inv D cl cI cZ A s.heap nl h0 ad0 L' h' ce' ad' H' locs' ls' → W p l e (ax_rm (d + 1) mc ms) s m args below meth c H' locs' ce' sl' (MQ below (ax_Q D cl cI cZ A mc h0 ad0 K q.2.2) args s mc ms A) (F0 m pc' ls' (S'.map (ax_v ad'))) := by
    intro j pc' L' S' h' ce' sl' ad' H' locs' ls' e1 hr hI
    subst e1
    exact hr _ _ _ _ hI
  have st : ∀ {w : Value} {a' : Nat} {ls' : Array Slot}, a' < nl → lv_has ls' nl ((a', ax_v ad w) :: (ax_lv ad L).filter (fun q => !(q.1 == a') && !(q.1 + 1 == a' && q.2.category == 2))) → ax_Inv D cl cI cZ A s.heap nl h0 ad0 (L.set a' (some w)) h ce ad H locs ls' := by
    intro w a' ls' h1 h2
    exact ⟨by rw [List.length_set]; exact hL, ax_lv_set hL h1 h2, hP, hD, hS, hag, hz, hlen⟩
  cases ins with
  | iconst k =>
    obtain ⟨o1, o2, o3⟩ := ok
    exact lv_iconst hx hb o1 o3 (nx o2 hF hI0)
  | bipush k =>
    obtain ⟨o1, o2, o3⟩ := ok
    exact lv_bipush hx hb o1 o3 (nx o2 hF hI0)
  | sipush k =>
    obtain ⟨o1, o2, o3⟩ := ok
    exact lv_sipush hx hb o1 o3 (nx o2 hF hI0)
  | ldc k =>
    obtain ⟨o1, o2, o3⟩ := ok
    exact lv_ldc hx hb hown (hTT _ o3) o1 (nx o2 hF hI0)
  | aconst_null =>
    obtain ⟨o1, o2⟩ := ok
    exact lv_null hx hb o1 (nx o2 hF hI0)
  | iload_n k =>
    obtain ⟨o1, o2, o3⟩ := ok
    obtain ⟨x, h1, h2⟩ := ax_ldi_inv hF
    exact lv_iload_n hx hb o1 o3 (ax_lv_at hl h1 rfl) (nx o2 h2 hI0)
  | iload k =>
    obtain ⟨o1, o2, o3⟩ := ok
    subst o3
    obtain ⟨x, h1, h2⟩ := ax_ldi_inv hF
    exact lv_iload hx hb o1 (ax_lv_at hl h1 rfl) (nx o2 h2 hI0)
  | aload_n k =>
    obtain ⟨o1, o2, o3⟩ := ok
    rcases ax_lda_inv hF with ⟨x, h1, h2⟩ | ⟨h1, h2⟩
    · exact lv_aload_n hx hb o1 o3 (ax_lv_at hl h1 rfl) (nx o2 h2 hI0)
    · exact lv_aload_nN hx hb o1 o3 (ax_lv_at hl h1 rfl) (nx o2 h2 hI0)
  | aload k =>
    obtain ⟨o1, o2, o3⟩ := ok
    subst o3
    rcases ax_lda_inv hF with ⟨x, h1, h2⟩ | ⟨h1, h2⟩
    · exact lv_aload hx hb o1 (ax_lv_at hl h1 rfl) (nx o2 h2 hI0)
    · exact lv_aloadN hx hb o1 (ax_lv_at hl h1 rfl) (nx o2 h2 hI0)
  | istore_n k =>
    obtain ⟨o1, o2, o3, o4⟩ := ok
    obtain ⟨x, r, rfl, h2⟩ := ax_sti_inv hF
    exact lv_istore_n hx hb o1 o3 hl o4 rfl (fun ls' hl' => nx o2 h2 (st o4 hl'))
  | istore k =>
    obtain ⟨o1, o2, o3, o4⟩ := ok
    subst o3
    obtain ⟨x, r, rfl, h2⟩ := ax_sti_inv hF
    exact lv_istore hx hb o1 hl o4 rfl (fun ls' hl' => nx o2 h2 (st o4 hl'))
  | astore_n k =>
    obtain ⟨o1, o2, o3, o4⟩ := ok
    rcases ax_sta_inv hF with ⟨x, r, rfl, h2⟩ | ⟨r, rfl, h2⟩
    · exact lv_astore_n hx hb o1 o3 hl o4 rfl (fun ls' hl' => nx o2 h2 (st (w := .ref x) o4 hl'))
    · exact lv_astore_nN hx hb o1 o3 hl o4 rfl (fun ls' hl' => nx o2 h2 (st (w := .null) o4 hl'))
  | astore k =>
    obtain ⟨o1, o2, o3, o4⟩ := ok
    subst o3
    rcases ax_sta_inv hF with ⟨x, r, rfl, h2⟩ | ⟨r, rfl, h2⟩
    · exact lv_astore hx hb o1 hl o4 rfl (fun ls' hl' => nx o2 h2 (st (w := .ref x) o4 hl'))
    · exact lv_astoreN hx hb o1 hl o4 rfl (fun ls' hl' => nx o2 h2 (st (w := .null) o4 hl'))
  | iinc k z =>
    obtain ⟨o1, o2, o3, o4, o5⟩ := ok
    subst o3
    obtain ⟨x, h1, h2⟩ := ax_inc_inv hF
    obtain ⟨j, hj⟩ := List.getElem?_of_mem (ax_lv_mem (ad := ad) h1 rfl)
    exact lv_iinc (v := x + v) hx hb o1 hl hj (by rw [o5]) o4 rfl (fun ls' hl' => nx o2 h2 (st (w := .int (x + v)) o4 hl'))
  | iadd =>
    obtain ⟨o1, o2⟩ := ok
    obtain ⟨x, y, r, rfl, h2⟩ := ax_bin_inv hF
    exact lv_iadd hx hb o1 (nx o2 h2 hI0)
  | isub =>
    obtain ⟨o1, o2⟩ := ok
    obtain ⟨x, y, r, rfl, h2⟩ := ax_bin_inv hF
    exact lv_isub hx hb o1 (nx o2 h2 hI0)
  | imul =>
    obtain ⟨o1, o2⟩ := ok
    obtain ⟨x, y, r, rfl, h2⟩ := ax_bin_inv hF
    exact lv_imul hx hb o1 (nx o2 h2 hI0)
  | iand =>
    obtain ⟨o1, o2⟩ := ok
    obtain ⟨x, y, r, rfl, h2⟩ := ax_bin_inv hF
    exact lv_iand hx hb o1 (nx o2 h2 hI0)
  | ior =>
    obtain ⟨o1, o2⟩ := ok
    obtain ⟨x, y, r, rfl, h2⟩ := ax_bin_inv hF
    exact lv_ior hx hb o1 (nx o2 h2 hI0)
  | ixor =>
    obtain ⟨o1, o2⟩ := ok
    obtain ⟨x, y, r, rfl, h2⟩ := ax_bin_inv hF
    exact lv_ixor hx hb o1 (nx o2 h2 hI0)
  | ishl =>
    obtain ⟨o1, o2⟩ := ok
    obtain ⟨x, y, r, rfl, h2⟩ := ax_bin_inv hF
    exact lv_ishl hx hb o1 (nx o2 h2 hI0)
  | ishr =>
    obtain ⟨o1, o2⟩ := ok
    obtain ⟨x, y, r, rfl, h2⟩ := ax_bin_inv hF
    exact lv_ishr hx hb o1 (nx o2 h2 hI0)
  | dup =>
    obtain ⟨o1, o2⟩ := ok
    rcases S with _ | ⟨v1, r⟩
    · exact False.elim hF
    obtain ⟨h1, h2⟩ := ax_if_t hF
    exact lv_dup hx hb o1 ((ax_v_cat ad v1).trans (Nat.eq_of_beq_eq_true h1)) (nx o2 h2 hI0)
  | pop =>
    obtain ⟨o1, o2⟩ := ok
    rcases S with _ | ⟨v1, r⟩
    · exact False.elim hF
    obtain ⟨h1, h2⟩ := ax_if_t hF
    exact lv_pop hx hb o1 ((ax_v_cat ad v1).trans (Nat.eq_of_beq_eq_true h1)) (nx o2 h2 hI0)
  | dup2 =>
    obtain ⟨o1, o2⟩ := ok
    rcases S with _ | ⟨v1, _ | ⟨v2, r⟩⟩
    · exact False.elim hF
    · exact False.elim hF
    obtain ⟨h1, h2⟩ := ax_if_t hF
    rw [Bool.and_eq_true] at h1
    exact lv_dup2_11 hx hb o1 ((ax_v_cat ad v1).trans (Nat.eq_of_beq_eq_true h1.1)) ((ax_v_cat ad v2).trans (Nat.eq_of_beq_eq_true h1.2)) (nx o2 h2 hI0)
  | dup_x1 =>
    obtain ⟨o1, o2⟩ := ok
    rcases S with _ | ⟨v1, _ | ⟨v2, r⟩⟩
    · exact False.elim hF
    · exact False.elim hF
    obtain ⟨h1, h2⟩ := ax_if_t hF
    rw [Bool.and_eq_true] at h1
    exact lv_dup_x1 hx hb o1 ((ax_v_cat ad v1).trans (Nat.eq_of_beq_eq_true h1.1)) ((ax_v_cat ad v2).trans (Nat.eq_of_beq_eq_true h1.2)) (nx o2 h2 hI0)
  | getfield k =>
    obtain ⟨o1, o2, qc, o3, o4, o5⟩ := ok
    obtain ⟨u, r, fs, x, rfl, h1, h2, h3⟩ := ax_getf_inv hF
    obtain ⟨C', T', N'⟩ := qc
    refine va_get (D := D) (ci := a) (v := ax_v ad x) (C := C') (T := T') (N := N') hx hb hTT (G2 a _ o3).1 hown hK hP u (ax_w_get h1) o3 b o4 (hTT _ o5) (fun _ h9 => h9) ?_ o1 (nx o2 h3 hI0)
    rw [List.getElem?_map, ← ax_nth_eq, h2]
    rfl
  | putfield k =>
    obtain ⟨o1, o2, qc, o3, o4, o5, ⟨ty, t1, t2⟩, o6⟩ := ok
    obtain ⟨w, u, r, fs, rfl, h1, h2, h3, h4⟩ := ax_putf_inv hF
    obtain ⟨C', T', N'⟩ := qc
    obtain ⟨gw, ⟨ty0, gt⟩, gn⟩ := G2 a _ o3
    have hfit : narrow ty (ax_v ad w) = ax_v ad w ∧ fits ty (ax_v ad w) = true := by
      rcases h3 with ⟨x, rfl, h3 | ⟨h3, h5⟩⟩ | ⟨h3, h5⟩
      · rcases t2 with ⟨t3, rfl⟩ | ⟨t3, -⟩ | ⟨t3, -⟩
        · exact ⟨rfl, rfl⟩
        · rw [h3] at t3; exact absurd t3 (by decide)
        · rw [h3] at t3; exact absurd t3 (by decide)
      · rcases t2 with ⟨t3, rfl⟩ | ⟨t3, rfl⟩ | ⟨t3, -⟩
        · exact ⟨rfl, rfl⟩
        · rcases h5 with rfl | rfl <;> exact ⟨rfl, rfl⟩
        · rw [h3] at t3; exact absurd t3 (by decide)
      · rcases t2 with ⟨t3, -⟩ | ⟨t3, -⟩ | ⟨t3, ⟨t, rfl⟩ | ⟨t, rfl⟩⟩
        · rw [h3] at t3; exact absurd t3 (by decide)
        · rw [h3] at t3; exact absurd t3 (by decide)
        · rcases h5 with rfl | ⟨g, rfl⟩ <;> exact ⟨rfl, rfl⟩
        · rcases h5 with rfl | ⟨g, rfl⟩ <;> exact ⟨rfl, rfl⟩
    have hset : (ax_w cI cZ ad h).set u (ad u, .inr (a, (fs.map (ax_v ad)).set b (ax_v ad w))) = ax_w cI cZ ad (h.set u (.inr (a, fs.set b w))) := by
      rw [← ax_w_set]
      show _ = (ax_w cI cZ ad h).set u (ad u, .inr (a, (fs.set b w).map (ax_v ad)))
      rw [List.map_set]
    have hgo : ∀ (H1 : Heap) (locs1 : List Loc), va_P D cl ((ax_w cI cZ ad h).set u (ad u, .inr (a, (fs.map (ax_v ad)).set b (ax_v ad w)))) H1 → va_D A ((ax_w cI cZ ad h).set u (ad u, .inr (a, (fs.map (ax_v ad)).set b (ax_v ad w)))) → va_S A s.heap H1 locs1 → W p l e (ax_rm (d + 1) mc ms) s m args below meth c H1 locs1 ce sl (MQ below (ax_Q D cl cI cZ A mc h0 ad0 K q.2.2) args s mc ms A) (F0 m (pc + 3) ls (r.map (ax_v ad))) := by
      intro H1 locs1 hP1 hD1 hS1
      rw [hset] at hP1 hD1
      exact nx o2 h4 ⟨hL, hl, hP1, hD1, hS1, hag, hz, by rw [List.length_set]; exact hlen⟩
    rcases o6 with o6 | ⟨o6, o7, o8⟩
    · exact va_put (D := D) (ci := a) (v := ax_v ad w) (ty := ty) (C := C') (T := T') (N := N') hx hb hTT gw ty0 gt gn hown hK hP hD hS u (ax_w_get h1) o3 b o4 (hTT _ o5) (fun _ h9 => h9) o6 t1 hfit.1 hfit.2 (by rw [List.length_map]; exact h2) o1 hgo
    · exact va_putF (D := D) (ci := a) (v := ax_v ad w) (ty := ty) (C := C') (T := T') (N := N') hx hb hTT gw ty0 gt gn hown hK hP hD hS u (ax_w_get h1) o3 b o4 (hTT _ o5) (fun _ h9 => h9) o6 (hin.trans o7) o8 t1 hfit.1 hfit.2 (by rw [List.length_map]; exact h2) o1 hgo
  | iaload =>
    obtain ⟨o1, o2⟩ := ok
    obtain ⟨x, u, r, N, f, rfl, h1, h2, h3, h4⟩ := ax_ald_inv hF
    have hv : vp_in (nI x) N := vp_in_iff.mpr (by rw [nI_toInt (by omega)]; omega)
    refine va_iald hx hb hK hP u 0 (ax_w_get h1) rfl hv o1 ?_
    rw [nI_clamp (by omega)]
    exact nx o2 h4 hI0
  | baload =>
    obtain ⟨o1, o2⟩ := ok
    obtain ⟨x, u, r, N, f, rfl, h1, h2, h3, h4⟩ := ax_ald_inv hF
    have hv : vp_in (nI x) N := vp_in_iff.mpr (by rw [nI_toInt (by omega)]; omega)
    refine va_zald hx hb hK hP u 1 (ax_w_get h1) rfl hv o1 ?_
    rw [nI_clamp (by omega)]
    exact nx o2 h4 hI0
  | iastore =>
    obtain ⟨o1, o2⟩ := ok
    obtain ⟨w, x, u, r, N, f, rfl, h1, h2, h3, h4⟩ := ax_ast_inv hF
    have hv : vp_in (nI x) N := vp_in_iff.mpr (by rw [nI_toInt (by omega)]; omega)
    refine va_iast hx hb hK hP hD hS u 0 (ax_w_get h1) rfl hv o1 (fun H1 locs1 hP1 hD1 hS1 => ?_)
    rw [nI_clamp (by omega)] at hP1 hD1
    have hset : (ax_w cI cZ ad h).set u (ad u, .inl (cI, N, .inl (upd f x w))) = ax_w cI cZ ad (h.set u (.inl (false, N, upd f x w))) := by
      rw [← ax_w_set]
      rfl
    have hP1 : va_P D cl ((ax_w cI cZ ad h).set u (ad u, .inl (cI, N, .inl (upd f x w)))) H1 := hP1
    have hD1 : va_D A ((ax_w cI cZ ad h).set u (ad u, .inl (cI, N, .inl (upd f x w)))) := hD1
    rw [hset] at hP1 hD1
    exact nx o2 h4 ⟨hL, hl, hP1, hD1, hS1, hag, hz, by rw [List.length_set]; exact hlen⟩
  | bastore =>
    obtain ⟨o1, o2⟩ := ok
    obtain ⟨w, x, u, r, N, f, rfl, h1, h2, h3, h4⟩ := ax_ast_inv hF
    have hv : vp_in (nI x) N := vp_in_iff.mpr (by rw [nI_toInt (by omega)]; omega)
    refine va_zast hx hb hK hP hD hS u 1 (ax_w_get h1) rfl hv o1 (fun H1 locs1 hP1 hD1 hS1 => ?_)
    rw [nI_clamp (by omega)] at hP1 hD1
    have hset : (ax_w cI cZ ad h).set u (ad u, .inl (cZ, N, .inl (upd f x (w &&& 1)))) = ax_w cI cZ ad (h.set u (.inl (true, N, upd f x (w &&& 1)))) := by
      rw [← ax_w_set]
      rfl
    have hP1 : va_P D cl ((ax_w cI cZ ad h).set u (ad u, .inl (cZ, N, .inl (upd f x (w &&& 1))))) H1 := hP1
    have hD1 : va_D A ((ax_w cI cZ ad h).set u (ad u, .inl (cZ, N, .inl (upd f x (w &&& 1))))) := hD1
    rw [hset] at hP1 hD1
    exact nx o2 h4 ⟨hL, hl, hP1, hD1, hS1, hag, hz, by rw [List.length_set]; exact hlen⟩
  | arraylength =>
    obtain ⟨o1, o2⟩ := ok
    obtain ⟨u, r, z, N, f, rfl, h1, h4⟩ := ax_alen_inv hF
    cases z
    · exact va_alen hx hb hK hP u 0 (ax_w_get h1) (ty := .int) rfl rfl o1 (nx o2 h4 hI0)
    · exact va_alen hx hb hK hP u 1 (ax_w_get h1) (ty := .boolean) rfl rfl o1 (nx o2 h4 hI0)
  | if_icmp cnd o =>
    obtain ⟨o1, o2, o3⟩ := ok
    rcases S with _ | ⟨v1, _ | ⟨v2, r⟩⟩
    · exact False.elim hF
    · cases v1 <;> exact False.elim hF
    cases v1 with
    | int y =>
      cases v2 with
      | int x =>
        obtain ⟨k1, k2⟩ := hF
        cases cnd with
        | eq => exact lv_icmp_eq hx hb o1 o3 (fun q => nx rfl (k1 q) hI0) (fun q => nx o2 (k2 q) hI0)
        | ne => exact lv_icmp_ne hx hb o1 o3 (fun q => nx rfl (k1 q) hI0) (fun q => nx o2 (k2 (fun z => z q)) hI0)
        | lt => exact lv_icmp_lt hx hb o1 o3 (fun q => nx rfl (k1 q) hI0) (fun q => nx o2 (k2 q) hI0)
        | ge => exact lv_icmp_ge hx hb o1 o3 (fun q => nx rfl (k1 q) hI0) (fun q => nx o2 (k2 q) hI0)
        | gt => exact lv_icmp_gt hx hb o1 o3 (fun q => nx rfl (k1 q) hI0) (fun q => nx o2 (k2 q) hI0)
        | le => exact lv_icmp_le hx hb o1 o3 (fun q => nx rfl (k1 q) hI0) (fun q => nx o2 (k2 q) hI0)
      | _ => exact False.elim hF
    | _ => exact False.elim hF
  | ifCond cnd o =>
    obtain ⟨o1, o2, o3⟩ := ok
    rcases S with _ | ⟨v1, r⟩
    · exact False.elim hF
    cases v1 with
    | int x =>
      obtain ⟨k1, k2⟩ := hF
      cases cnd with
      | eq => exact lv_if_eq hx hb o1 o3 (fun q => nx rfl (k1 q) hI0) (fun q => nx o2 (k2 q) hI0)
      | ne => exact lv_if_ne hx hb o1 o3 (fun q => nx rfl (k1 q) hI0) (fun q => nx o2 (k2 (fun z => z q)) hI0)
      | lt => exact lv_if_lt hx hb o1 o3 (fun q => nx rfl (k1 q) hI0) (fun q => nx o2 (k2 q) hI0)
      | ge => exact lv_if_ge hx hb o1 o3 (fun q => nx rfl (k1 q) hI0) (fun q => nx o2 (k2 q) hI0)
      | gt => exact lv_if_gt hx hb o1 o3 (fun q => nx rfl (k1 q) hI0) (fun q => nx o2 (k2 q) hI0)
      | le => exact lv_if_le hx hb o1 o3 (fun q => nx rfl (k1 q) hI0) (fun q => nx o2 (k2 q) hI0)
    | _ => exact False.elim hF
  | goto o =>
    obtain ⟨o1, o3⟩ := ok
    exact lv_goto hx hb o1 o3 (nx rfl hF hI0)
  | tableswitch df lo hi os =>
    obtain ⟨⟨k, o1⟩, o2, o3, o4, o5⟩ := ok
    rcases S with _ | ⟨v1, r⟩
    · exact False.elim hF
    cases v1 with
    | int x =>
      obtain ⟨k1, k2⟩ := hF
      by_cases hx1 : x.toInt < lo ∨ hi < x.toInt
      · exact lv_tableOut hx hb o1 hx1 o4 (nx rfl (k2 (by rw [o2]; omega)) hI0)
      · have h1 : ¬ x.toInt < lo := fun z => hx1 (Or.inl z)
        have h2 : ¬ hi < x.toInt := fun z => hx1 (Or.inr z)
        have h3 : (x.toInt - lo).toNat < ts.length := by omega
        have h4 : ax_nth ts (x.toInt - lo).toNat = some ts[(x.toInt - lo).toNat] := by rw [ax_nth_eq]; exact List.getElem?_eq_getElem h3
        obtain ⟨of, o6, o7⟩ := o5 _ _ h4
        exact lv_tableIn hx hb o1 h1 h2 o6 o7 (nx rfl (k1 _ _ h4 (by rw [o2]; omega)) hI0)
    | _ => exact False.elim hF
  | new k =>
    obtain ⟨o1, o2, qc, fs, o3, o4, o5, o6, o7, o8, o9, o10⟩ := ok
    obtain ⟨C', T', N'⟩ := qc
    dsimp only at o5 o6 o7 o8 o9
    subst o5
    rw [o4] at hF
    obtain ⟨h1, h2⟩ := ax_if_t hF
    simp only [Bool.and_eq_true] at h1
    obtain ⟨g1, g2, g3, g4⟩ := h1
    unfold ax_okf at g1
    rw [Bool.and_eq_true] at g1
    obtain ⟨gw, ⟨ty0, gt⟩, gn⟩ := G2 a _ o3
    have hfs : ∀ ad' : Nat → Nat, fs.map (ax_v ad') = fs := by
      intro ad'
      have := ax_vs_eq (ad := id) (ad' := ad') (n := 0) (S := fs) (fun k hk => absurd hk (Nat.not_lt_zero k)) o10
      rw [this]
      have h9 : ∀ v : Value, ax_v id v = v := fun v => by cases v <;> rfl
      rw [show (ax_v id) = id from funext h9, List.map_id]
    refine va_new (D := D) (ci := a) (fs := fs) (C := C') (T := T') (N := b) hx hb hTT gw ty0 gt hown (hTT _ o6) (hTT _ o7) (hTT _ o8) hK hP hD hS hA o3 (o9 ty0 gt) (Nat.le_of_ble_eq_true g3) (Nat.le_of_ble_eq_true g4) o1 (fun qa H1 hP1 hD1 hS1 => ?_)
    have hpush : ax_w cI cZ (ax_up ad h.length qa) (h ++ [.inr (a, fs)]) = ax_w cI cZ ad h ++ [(qa, .inr (a, fs))] := by
      rw [ax_w_push (q := qa) (c := .inr (a, fs)) g2 (by show Sum.inr (a, fs.map _) = Sum.inr (a, fs.map _); rw [hfs, hfs])]
      show _ ++ [(qa, Sum.inr (a, fs.map (ax_v ad)))] = _
      rw [hfs]
    have hlt : ∀ k, k < h.length → ax_up ad h.length qa k = ad k := fun k hk => ax_up_lt hk
    have hres := nx (ad' := ax_up ad h.length qa) (H' := H1) (locs' := locs) (ls' := ls) o2 h2 ⟨hL, ax_lv_ad hlt g1.1 hl, by rw [hpush]; exact hP1, by rw [hpush]; exact hD1, hS1, fun k hk => by rw [hlt k (Nat.lt_of_lt_of_le hk hlen)]; exact hag k hk, fun hc => absurd hc (Nat.succ_ne_zero _), by rw [List.length_append]; exact Nat.le_trans hlen (Nat.le_add_right _ _)⟩
    rw [List.map_cons, ax_vs_eq hlt g1.2] at hres
    have hq : ax_v (ax_up ad h.length qa) (.ref h.length) = .ref qa := congrArg Value.ref ax_up_self
    rw [hq] at hres
    exact hres
  | newarray t =>
    obtain ⟨o1, o2, o3, o4⟩ := ok
    rcases S with _ | ⟨v1, r⟩
    · exact False.elim hF
    cases v1 with
    | int x =>
      obtain ⟨N, ⟨rfl, hN2⟩, hF⟩ := hF
      obtain ⟨h1, h2⟩ := ax_if_t hF
      simp only [Bool.and_eq_true] at h1
      obtain ⟨g1, g2, g3, g4⟩ := h1
      unfold ax_okf at g1
      rw [Bool.and_eq_true] at g1
      have hneg : ¬ nI N < 0 := nI_pos (by omega)
      have hcl : (nI N).toNatClampNeg = N := nI_clamp (by omega)
      have key : ∀ (cA : ClassId) (z : Bool) (ty : FieldType), newarray.typeOf t = ty → Nat.beq a 1 = z → cond z cZ cI = cA → (∀ cA' : ClassId, s.vm.findClass ("[" ++ ty.toString) = some cA' → cA' = cA) → defaultValue ty = .int 0 → componentBytes ty ≤ 4 →
          W p l e (ax_rm (d + 1) mc ms) s m args below meth c H locs ce sl (MQ below (ax_Q D cl cI cZ A mc h0 ad0 K q.2.2) args s mc ms A) (F0 m pc ls ((Value.int (nI N) :: r).map (ax_v ad))) := by
        intro cA z ty e1 e2 e3 e4 e5 e6
        refine va_newa (D := D) (ty := ty) (a0 := (N, .inl (fun _ => 0))) hx hb (hTT _ o4) e1 hK hP hD hS hA (fun cA => ?_) hneg hcl ?_ (Nat.le_of_ble_eq_true g3) (Nat.le_of_ble_eq_true g4) o1 (fun qa cA' H1 hK1 hP1 hD1 hS1 => ?_)
        · rw [e5]; rfl
        · calc N * componentBytes ty ≤ 100000 * 4 := Nat.mul_le_mul hN2 e6
            _ ≤ 536870912 := by decide
        · have hA' : cA' = cA := by
            have h9 := (hK1.2 2 (cA', ty) rfl).2
            have hno : ∀ n, ty ≠ .object n := by
              intro n hn
              rw [hn] at e5
              exact absurd e5 (by simp [defaultValue])
            refine e4 cA' ?_
            revert h9 hno
            cases ty <;> intro h9 hno <;> first | exact h9 | exact absurd rfl (hno _)
          subst hA'
          rw [e2] at h2
          have hpush : ax_w cI cZ (ax_up ad h.length qa) (h ++ [.inl (z, N, fun _ => 0)]) = ax_w cI cZ ad h ++ [(qa, .inl (cA', N, .inl (fun _ => 0)))] := by
            rw [ax_w_push (q := qa) (c := .inl (z, N, fun _ => 0)) g2 rfl]
            show _ ++ [(qa, Sum.inl (cond z cZ cI, N, Sum.inl (fun _ => (0 : Int32))))] = _
            rw [e3]
          have hlt : ∀ k, k < h.length → ax_up ad h.length qa k = ad k := fun k hk => ax_up_lt hk
          have hres := nx (ad' := ax_up ad h.length qa) (H' := H1) (locs' := locs) (ls' := ls) o2 h2 ⟨hL, ax_lv_ad hlt g1.1 hl, by rw [hpush]; exact hP1, by rw [hpush]; exact hD1, hS1, fun k hk => by rw [hlt k (Nat.lt_of_lt_of_le hk hlen)]; exact hag k hk, fun hc => absurd hc (Nat.succ_ne_zero _), by rw [List.length_append]; exact Nat.le_trans hlen (Nat.le_add_right _ _)⟩
          rw [List.map_cons, ax_vs_eq hlt g1.2] at hres
          have hq : ax_v (ax_up ad h.length qa) (.ref h.length) = .ref qa := congrArg Value.ref ax_up_self
          rw [hq] at hres
          exact hres
      rcases o3 with ⟨rfl, rfl⟩ | ⟨rfl, rfl⟩
      · exact key cI false .int rfl rfl rfl (fun cA' h9 => Option.some.inj (h9.symm.trans (hK.2 0 (cI, .int) rfl).2)) rfl (by decide)
      · exact key cZ true .boolean rfl rfl rfl (fun cA' h9 => Option.some.inj (h9.symm.trans (hK.2 1 (cZ, .boolean) rfl).2)) rfl (by decide)
    | _ => exact False.elim hF
  | invokevirtual k =>
    obtain ⟨o1, o2, o3, qN, ci, qc, o4, rfl, o5, o6, o7, o8, o9, o10, o11⟩ := ok
    rcases o3 with rfl | rfl
    · obtain ⟨rM, As, r, K', h1, h2, rfl, h4, h5, h6, h7, h8, h9, h10⟩ := ax_call3_inv hF
      obtain ⟨k1, k2, k3⟩ := o11 rM h1
      rcases hrt : qN.2.2 with _ | ty
      · exact absurd (o7.mpr hrt) (by decide)
      exact ax_calli (qN := qN) (ax_runV G hC ⟨hx, hb, hml, hown, hts⟩ hK hN o4 h1 o5 o6 o8 o9 o10 k2 k3 h9 hP hD h2 h8 h4 hlsz o1 h5 h6) hrt hI0 hA h7 (fun z h' hz' ad' H1 locs1 hI1 => nx o2 (h10 z h' hz') hI1)
    · obtain ⟨rM, As, r, K', h1, h2, rfl, h4, h5, h6, h7, h8, h9, h10⟩ := ax_call4_inv hF
      obtain ⟨k1, k2, k3⟩ := o11 rM h1
      exact ax_callv (qN := qN) (ax_runV G hC ⟨hx, hb, hml, hown, hts⟩ hK hN o4 h1 o5 o6 o8 o9 o10 k2 k3 h9 hP hD h2 h8 h4 hlsz o1 h5 h6) (o7.mp rfl) hI0 hA h7 (fun h' hz' ad' H1 locs1 hI1 => nx o2 (h10 h' hz') hI1)
  | invokestatic k =>
    obtain ⟨o1, o2, o3⟩ := ok
    have hr21 : 21 ≤ 40 * (d + 1) := by omega
    rcases o3 with ⟨rfl, p1, p2, p3, p4⟩ | ⟨rfl, p1, p2, p3, p4⟩ | ⟨hb34, qN, o4, o7, o8, o9, o11⟩
    · obtain ⟨x, y, r, rfl, h4, h6, h7, h5⟩ := ax_call1_inv hF
      have hcs : ((r.map (ax_v ad)).map fun v => v.category).sum ≤ 8 := Nat.le_trans (ax_cat_le ad r) (by omega)
      refine va_mmax (rest := r.map (ax_v ad)) hx hb (hml.trans hlsz.symm) hown (hTT _ p1) (hTT _ p2) (hTT _ p3) (hTT _ p4) (by show 1 ≤ d + 1; omega) (by show _ + 13 ≤ 40 * (d + 1); omega) h6 h7 o1 ?_
      exact nx o2 h5 hI0
    · obtain ⟨x, y, r, rfl, h4, h6, h7, h5⟩ := ax_call2_inv hF
      have hcs : ((r.map (ax_v ad)).map fun v => v.category).sum ≤ 8 := Nat.le_trans (ax_cat_le ad r) (by omega)
      refine va_mmin (rest := r.map (ax_v ad)) hx hb (hml.trans hlsz.symm) hown (hTT _ p1) (hTT _ p2) (hTT _ p3) (hTT _ p4) (by show 1 ≤ d + 1; omega) (by show _ + 13 ≤ 40 * (d + 1); omega) h6 h7 o1 ?_
      exact nx o2 h5 hI0
    · rcases hb34 with rfl | rfl
      · obtain ⟨rM, As, r, K', h1, h2, rfl, h4, h5, h6, h7, h8, h9, h10⟩ := ax_call3_inv hF
        rcases hrt : qN.2.2 with _ | ty
        · exact absurd (o7.mpr hrt) (by decide)
        exact ax_calli (qN := qN) (ax_runS G hC ⟨hx, hb, hml, hown, hts⟩ hK hN o4 h1 o8 o9 (o11 rM h1) h9 hP hD h2 h4 hlsz o1 h5 h6) hrt hI0 hA h7 (fun z h' hz' ad' H1 locs1 hI1 => nx o2 (h10 z h' hz') hI1)
      · obtain ⟨rM, As, r, K', h1, h2, rfl, h4, h5, h6, h7, h8, h9, h10⟩ := ax_call4_inv hF
        exact ax_callv (qN := qN) (ax_runS G hC ⟨hx, hb, hml, hown, hts⟩ hK hN o4 h1 o8 o9 (o11 rM h1) h9 hP hD h2 h4 hlsz o1 h5 h6) (o7.mp rfl) hI0 hA h7 (fun h' hz' ad' H1 locs1 hI1 => nx o2 (h10 h' hz') hI1)
  | invokespecial k =>
    obtain ⟨o1, o2, o3⟩ := ok
    rcases o3 with ⟨rfl, p1, p2, p3⟩ | ⟨rfl, qN, ci, o4, rfl, o5, o8, o9, o10, o11⟩
    · obtain ⟨u, r, rfl, h4, h5⟩ := ax_call0_inv hF
      have hcs : ((r.map (ax_v ad)).map fun v => v.category).sum ≤ 8 := Nat.le_trans (ax_cat_le ad r) (by omega)
      refine W.objInit hx hb hown (hTT _ p1) (hTT _ p2) (hTT _ p3) rfl (by rw [hml]; exact hlsz) rfl o1 ?_ ?_ ?_
      · show 1 ≤ d + 1
        omega
      · show 2 * 0 + ((r.map (ax_v ad)).map fun v => v.category).sum + 12 ≤ 40 * (d + 1)
        omega
      · exact nx o2 h5 hI0
    · obtain ⟨rM, As, r, K', h1, h2, rfl, h4, h5, h6, h7, h8, h9, h10⟩ := ax_call4_inv hF
      obtain ⟨k1, k2, k3⟩ := o11 rM h1
      exact ax_callv (qN := qN) (ax_runI G hC ⟨hx, hb, hml, hown, hts⟩ hK hN o4 h1 o5 o8 o9 o10 k2 k3 h9 hP hD h2 h8 h4 hlsz o1 h5 h6) o5 hI0 hA h7 (fun h' hz' ad' H1 locs1 hI1 => nx o2 (h10 h' hz') hI1)
  | ireturn =>
    obtain ⟨o1, o2⟩ := ok
    rcases S with _ | ⟨v1, _ | ⟨v2, r⟩⟩
    · exact False.elim hF
    · cases v1 with
      | int x =>
        obtain ⟨h1, h2, h3⟩ := ax_if_t hF
        rw [Bool.and_eq_true] at h1
        refine W.widen (k := mc) (n := ms) (Nat.le_of_ble_eq_true h1.1) (Nat.le_of_ble_eq_true h1.2) ?_
        have hend : ∀ t : State, t.heap = H → s.WarmedH t.vm → va_Qi (fun (r : Int32) (u : ax_H × (Nat → Nat)) => K (some (.int r)) u.1) (ax_Bw D cl cI cZ A mc h0 ad0) A args s (.returned (some (.int x))) t := fun t ht hW => ⟨⟨x, (h, ad), rfl, h3, by rw [ht]; exact hP, va_K.moved hW.alike hK, hD, hag, fun hm => hz (by have := Nat.le_of_ble_eq_true h1.1; omega), hlen⟩, hS.F ht⟩
        rcases o2 with ⟨o2, o3⟩ | ⟨o2, o3⟩
        · rw [o3] at hr ⊢
          exact W.iret (v := x) hx hb hr hend hS.2.2 o1
        · rw [o3] at hr ⊢
          have hnar : narrow .boolean (.int x) = .int x := by
            rcases h2 with h2 | rfl | rfl
            · exact absurd (h2.symm.trans o2) (by decide)
            · rfl
            · rfl
          exact W.zret (v := x) hx hb hr hnar hend hS.2.2 o1
      | _ => exact False.elim hF
    · cases v1 <;> exact False.elim hF
  | return_ =>
    obtain ⟨o1, o3⟩ := ok
    rcases S with _ | ⟨v1, r⟩
    · obtain ⟨h1, h3⟩ := ax_if_t hF
      rw [Bool.and_eq_true] at h1
      refine W.widen (k := mc) (n := ms) (Nat.le_of_ble_eq_true h1.1) (Nat.le_of_ble_eq_true h1.2) ?_
      rw [o3] at hr ⊢
      exact W.vret hx hb hr (fun t ht hW => ⟨⟨(h, ad), rfl, h3, by rw [ht]; exact hP, va_K.moved hW.alike hK, hD, hag, fun hm => hz (by have := Nat.le_of_ble_eq_true h1.1; omega), hlen⟩, hS.F ht⟩) hS.2.2 o1
    · exact False.elim hF
  | _ => exact False.elim hF
end AXT
theorem ax_sl_len : ∀ (vs : List Value), (∀ v ∈ vs, v.category = 1) → (lg_sl vs).length = vs.length
  | [], _ => rfl
  | v :: vs, h => by
    have h1 := h v List.mem_cons_self
    have ih := ax_sl_len vs (fun u hu => h u (List.mem_cons_of_mem _ hu))
    unfold lg_sl at ih ⊢
    simp [h1, ih]
set_option maxHeartbeats 4000000 in
set_option maxRecDepth 100000 in
/-- every walk of the small machine is a contract of the machine -/
theorem ax_sound {l : Launch} {D : va_G} {cl : List vw_C} {TT : List Cond} {NL : List (String × Nat × MethodName × String)} {NM : List ax_N} {M : List ax_M} {X : List (List Value)} {cI cZ : ClassId} (G : ax_Good M X NM cl TT NL) :
    ∀ (d y : Nat) (As : List Value) (h : ax_H) (K : ax_K), ax_D M X d y As h K → ax_Met l D cl TT NL NM M cI cZ d y As h K := by
  intro d
  induction d with
  | zero => intro y As h K hc; exact False.elim hc
  | succ d ih =>
    intro y As h K hc q r hn hm ad sz
    obtain ⟨cd, nl, n, mc, ms⟩ := r
    have hB : ax_B M X (ax_D M X d) y As h K := hc
    unfold ax_B at hB
    rw [hm] at hB
    obtain ⟨h1, hX⟩ := ax_if_t hB
    rw [Bool.and_eq_true] at h1
    have hAl : As.length = n := Nat.eq_of_beq_eq_true h1.1
    have hAc : ∀ v ∈ As, v.category = 1 := fun v hv => Nat.eq_of_beq_eq_true (List.all_eq_true.mp h1.2 v hv)
    obtain ⟨g1, g2, g3, g4, g5, g6, g7, g8⟩ := G.2.2.1 y q _ hn hm
    dsimp only at g2 g5 g6 g7 g8 ⊢
    refine Met.ofW (cc := q.2.1) (maxL := nl) (ret := q.2.2) g1 rfl ?_
    intro p e s m args below meth c s₁ B hml hv
    obtain ⟨rfl, hsz, hP, hK, hD0, hN⟩ := hv
    have hx := B.exec
    have hb := B.bytes
    have hr := B.returns
    have hts := atoms_spec (ws := Cond.code q.1 q.2.1 nl q.2.2 :: TT) B.pre
    have hown : s.vm.findClass q.1.cls = some m.cls := findClass_of_methodNamed B.named
    have hlocks := B.notSynchronized
    have hin : meth.name = q.1.name := (name_of_methodNamed B.named B.method).1
    subst hsz
    have hD := hD0.self (sz := s.heap.size)
    have hA : ∀ w : Nat, s.heap.size ≤ w → va_A (ax_w cI cZ ad h) s.heap.size w := fun w hw => Or.inr hw
    have hS : va_S (va_A (ax_w cI cZ ad h) s.heap.size) s.heap s.heap [] := va_S.rf
    have hlen : (lg_sl (As.map (ax_v ad))).length ≤ nl := by
      rw [ax_sl_len _ (fun v hv => by
        obtain ⟨u, hu, rfl⟩ := List.mem_map.mp hv
        rw [ax_v_cat]; exact hAc u hu), List.length_map, hAl]
      exact g6
    have hl := lv_entry (As.map (ax_v ad)) (n := nl) hlen
    rw [lg_entry_eq]
    generalize (lg_sl (As.map (ax_v ad)) ++ List.replicate (nl - (lg_sl (As.map (ax_v ad))).length) Slot.unset).toArray = ls at hl ⊢
    have hl2 := ax_lv_entry ad As (nl - n) hAc hl
    have hone := ax_one (l := l) (D := D) (cI := cI) (cZ := cZ) (p := p) (e := e) (s := s) (m := m) (args := (As.map (ax_v ad)).toArray) (below := below) (meth := meth) (c := c) (h0 := h) (ad0 := ad) (A := va_A (ax_w cI cZ ad h) s.heap.size) (K := K) G ih hn hm hx hb hr hml hts hown hlocks hin hN hA hK
    have hres := hX _ hone ad s.heap [] ls ⟨by rw [List.length_append, List.length_map, List.length_replicate, hAl]; omega, hl2, hP, hD, hS, fun _ _ => rfl, fun _ => rfl, Nat.le_refl _⟩
    rw [g7] at hres
    exact hres
