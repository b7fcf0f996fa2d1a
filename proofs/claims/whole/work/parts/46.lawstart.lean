/-! The law: loop and start. -/
section LZ
variable {p : Program} {l : Launch} {e : Env} {s : State} {m : MethodId} {below : List Frame} {meth : Method} {c : Code} {D : va_G} {cI cZ : ClassId} {b L : Nat} {xs : Nat → Int32} {adx adm : Nat → Nat}
theorem lx_loop (hE : lx_E p s m meth c b L xs D cI cZ) : ∀ (k i : Nat) (hx hm : ax_H) (H : Heap) (locs : List Loc) (ls : Array Slot), L + 1 ≤ i + k → i ≤ 3000 → lv_has ls 4 [(3, .int (nI i)), (2, .ref (adm 0)), (1, .ref (adx 0)), (0, .ref b)] → lx_V D cI cZ s adx adm hx hm H locs → RH hx hm → W p l e room_1 s m #[Value.ref b] below meth c H locs 52 1248 (lw_Z below #[Value.ref b] s) (F0 m 38 ls []) := by
  intro k
  induction k with
  | zero =>
    intro i hx hm H locs ls hk hi3 hl hV hR
    obtain ⟨⟨hx2, hb2, hr, hml, _, _, hX, hbl, hlocks, _⟩, hL, _, _⟩ := hE
    refine lv_iload_n hx2 hb2 dl_38 (i := 3) rfl (lx_l3 hl) ?_
    refine lv_aload_n hx2 hb2 dl_39 (i := 0) rfl (lx_l0 hl) ?_
    refine va_slen hx2 hb2 hX hbl (A := lx_A s) (by show ¬ s.heap.size ≤ b; omega) hV.2.2.2.2.2 dl_40 ?_
    refine lv_iconst hx2 hb2 dl_41 (v := nI 5) rfl ?_
    refine lv_isub hx2 hb2 dl_42 ?_
    refine lv_icmp_gt hx2 hb2 (tgt := 600) dl_43 (by decide) (fun q => ?_) (fun q => ?_)
    · refine lv_iconst hx2 hb2 dl_600 (v := 1) rfl ?_
      exact va_forget hV.2.2.2.2.2.2.2 (lw_ret hx2 hb2 hr hlocks dl_601)
    · have hq : ¬ nI L - nI 5 < nI i := q
      rw [Int32.lt_iff_toInt_lt, pk_sub_toInt (by omega) (by omega), nI_toInt (by omega)] at hq
      omega
  | succ k ih =>
    intro i hx hm H locs ls hk hi3 hl hV hR
    have hE0 := hE
    obtain ⟨⟨hx2, hb2, hr, hml, _, _, hX, hbl, hlocks, _⟩, hL, _, _⟩ := hE
    have hE := hE0
    refine lv_iload_n hx2 hb2 dl_38 (i := 3) rfl (lx_l3 hl) ?_
    refine lv_aload_n hx2 hb2 dl_39 (i := 0) rfl (lx_l0 hl) ?_
    refine va_slen hx2 hb2 hX hbl (A := lx_A s) (by show ¬ s.heap.size ≤ b; omega) hV.2.2.2.2.2 dl_40 ?_
    refine lv_iconst hx2 hb2 dl_41 (v := nI 5) rfl ?_
    refine lv_isub hx2 hb2 dl_42 ?_
    refine lv_icmp_gt hx2 hb2 (tgt := 600) dl_43 (by decide) (fun q => ?_) (fun q => ?_)
    · refine lv_iconst hx2 hb2 dl_600 (v := 1) rfl ?_
      exact va_forget hV.2.2.2.2.2.2.2 (lw_ret hx2 hb2 hr hlocks dl_601)
    · have hq : ¬ nI L - nI 5 < nI i := q
      rw [Int32.lt_iff_toInt_lt, pk_sub_toInt (by omega) (by omega), nI_toInt (by omega)] at hq
      have hi : i + 5 ≤ L := by omega
      have tail : ∀ (hx' hm' : ax_H) (H1 : Heap) (locs1 : List Loc), RH hx' hm' → lx_V D cI cZ s adx adm hx' hm' H1 locs1 → W p l e room_1 s m #[Value.ref b] below meth c H1 locs1 52 1248 (lw_Z below #[Value.ref b] s) (F0 m 594 ls []) := fun hx' hm' H1 locs1 hR' hV' => by
        refine lv_iinc (v := nI (i + 5)) hx2 hb2 dl_594 hl (k := 0) rfl (nI_add i 5) (by omega) rfl (fun ls' hl' => ?_)
        refine lv_goto hx2 hb2 (tgt := 38) dl_597 (by decide) ?_
        exact ih (i + 5) hx' hm' H1 locs1 ls' (by omega) (by omega) hl' hV' hR'
      refine lv_aload_n hx2 hb2 dl_46 (i := 0) rfl (lx_l0 hl) ?_
      refine lv_iload_n hx2 hb2 dl_47 (i := 3) rfl (lx_l3 hl) ?_
      refine va_sld hx2 hb2 hX hbl (A := lx_A s) (by show ¬ s.heap.size ≤ b; omega) hV.2.2.2.2.2 (vp_in_iff.mpr (by rw [nI_toInt (by omega)]; omega)) dl_48 ?_
      rw [nI_clamp (by omega)]
      refine lv_bipush hx2 hb2 dl_49 (v := 15) rfl ?_
      refine lv_iand hx2 hb2 dl_51 ?_
      obtain ⟨j, hj16, ej⟩ := pk_andE (xs i) (m := 15) 4 (by decide)
      have hj : j = 0 ∨ j = 1 ∨ j = 2 ∨ j = 3 ∨ j = 4 ∨ j = 5 ∨ j = 6 ∨ j = 7 ∨ j = 8 ∨ j = 9 ∨ j = 10 ∨ j = 11 ∨ j = 12 ∨ j = 13 ∨ j = 14 ∨ j = 15 := by omega
      rcases hj with hj | hj | hj | hj | hj | hj | hj | hj | hj | hj | hj | hj | hj | hj | hj | hj
      · subst hj
        rw [ej]
        exact lv_tableIn hx2 hb2 (off := 72) (tgt := 124) dl_52 (by decide) (by decide) (by decide +kernel) (by decide) (lx_c0 hE hl hi hV hR tail)
      · subst hj
        rw [ej]
        exact lv_tableIn hx2 hb2 (off := 95) (tgt := 147) dl_52 (by decide) (by decide) (by decide +kernel) (by decide) (lx_c1 hE hl hi hV hR tail)
      · subst hj
        rw [ej]
        exact lv_tableIn hx2 hb2 (off := 138) (tgt := 190) dl_52 (by decide) (by decide) (by decide +kernel) (by decide) (lx_c2 hE hl hi hV hR tail)
      · subst hj
        rw [ej]
        exact lv_tableIn hx2 hb2 (off := 207) (tgt := 259) dl_52 (by decide) (by decide) (by decide +kernel) (by decide) (lx_c3 hE hl hi hV hR tail)
      · subst hj
        rw [ej]
        exact lv_tableIn hx2 hb2 (off := 250) (tgt := 302) dl_52 (by decide) (by decide) (by decide +kernel) (by decide) (lx_c4 hE hl hi hV hR tail)
      · subst hj
        rw [ej]
        exact lv_tableIn hx2 hb2 (off := 283) (tgt := 335) dl_52 (by decide) (by decide) (by decide +kernel) (by decide) (lx_c5 hE hl hi hV hR tail)
      · subst hj
        rw [ej]
        exact lv_tableIn hx2 hb2 (off := 332) (tgt := 384) dl_52 (by decide) (by decide) (by decide +kernel) (by decide) (lx_c6 hE hl hi hV hR tail)
      · subst hj
        rw [ej]
        exact lv_tableIn hx2 hb2 (off := 381) (tgt := 433) dl_52 (by decide) (by decide) (by decide +kernel) (by decide) (lx_c7 hE hl hi hV hR tail)
      · subst hj
        rw [ej]
        exact lv_tableIn hx2 hb2 (off := 414) (tgt := 466) dl_52 (by decide) (by decide) (by decide +kernel) (by decide) (lx_c8 hE hl hi hV hR tail)
      · subst hj
        rw [ej]
        exact lv_tableIn hx2 hb2 (off := 427) (tgt := 479) dl_52 (by decide) (by decide) (by decide +kernel) (by decide) (lx_c9 hE hl hi hV hR tail)
      · subst hj
        rw [ej]
        exact lv_tableIn hx2 hb2 (off := 450) (tgt := 502) dl_52 (by decide) (by decide) (by decide +kernel) (by decide) (lx_c10 hE hl hi hV hR tail)
      · subst hj
        rw [ej]
        exact lv_tableIn hx2 hb2 (off := 483) (tgt := 535) dl_52 (by decide) (by decide) (by decide +kernel) (by decide) (lx_c11 hE hl hi hV hR tail)
      · subst hj
        rw [ej]
        exact lv_tableIn hx2 hb2 (off := 496) (tgt := 548) dl_52 (by decide) (by decide) (by decide +kernel) (by decide) (lx_c12 hE hl hi hV hR tail)
      · subst hj
        rw [ej]
        exact lv_tableIn hx2 hb2 (off := 519) (tgt := 571) dl_52 (by decide) (by decide) (by decide +kernel) (by decide) (lx_c13 hE hl hi hV hR tail)
      · subst hj
        rw [ej]
        exact lv_tableOut hx2 hb2 (tgt := 594) dl_52 (Or.inr (by decide)) (by decide) (tail hx hm H locs hR hV)
      · subst hj
        rw [ej]
        exact lv_tableOut hx2 hb2 (tgt := 594) dl_52 (Or.inr (by decide)) (by decide) (tail hx hm H locs hR hV)
theorem lx_words (hA : lw_At p s m meth c b L xs) : ∃ (D : va_G) (cI cZ : ClassId), va_K D ax_cl (ax_ty cI cZ) s ∧ ∀ q ∈ ax_NLs, va_Nw (.methodLinkNest q.1 q.2.1 q.2.2.1 q.2.2.2) s := by
  have hts : ∀ w ∈ lw_tbl, w.before #[Value.ref b] s = true := hA.2.2.2.2.2.1
  have hin : ∀ w ∈ ax_TT, w ∈ lw_tbl := fun w hw => (List.mem_filter.mp hw).1
  obtain ⟨cO, iO, kO⟩ := u_known hts (fun w hw => hin w (fi_O w hw)) (hts (Cond.instantiable "RunOrder" 4) (List.mem_of_getElem? (i := 43) rfl))
  obtain ⟨cH, iH, kH⟩ := u_known hts (fun w hw => hin w (fi_H w hw)) (hts (Cond.instantiable "RunOrder$House" 9) (List.mem_of_getElem? (i := 51) rfl))
  obtain ⟨cA, iA, kA⟩ := u_known hts (fun w hw => hin w (fi_A w hw)) (hts (Cond.instantiable "RunOrder$Actions" 13) (List.mem_of_getElem? (i := 99) rfl))
  obtain ⟨cU, iU, kU⟩ := u_known hts (fun w hw => hin w (fi_U w hw)) (hts (Cond.instantiable "RunOrder$Rules" 2) (List.mem_of_getElem? (i := 165) rfl))
  obtain ⟨cN, iN, kN⟩ := u_known hts (fun w hw => hin w (fi_N w hw)) (hts (Cond.instantiable "RunOrder$Run" 13) (List.mem_of_getElem? (i := 182) rfl))
  obtain ⟨cM, iM, kM⟩ := u_known hts (fun w hw => hin w (fi_M w hw)) (hts (Cond.instantiable "RunOrderModel" 35) (List.mem_of_getElem? (i := 450) rfl))
  obtain ⟨cI, kI, compI, f1, f2, f3⟩ := Cond.arrayClass_spec (hts (Cond.arrayClass .int) (List.mem_of_getElem? (i := 162) rfl))
  obtain ⟨cZ, kZ, compZ, z1, z2, z3⟩ := Cond.arrayClass_spec (hts (Cond.arrayClass .boolean) (List.mem_of_getElem? (i := 163) rfl))
  refine ⟨(fun k => match k with | 0 => cO | 1 => cH | 2 => cA | 3 => cU | 4 => cN | _ => cM, fun k => match k with | 0 => iO | 1 => iH | 2 => iA | 3 => iU | 4 => iN | _ => iM), cI, cZ, ⟨fun a q h => ?_, fun a q h => ?_⟩, fun q hq => ?_⟩
  · match a, q, h with
    | 0, _, h => cases h; exact kO
    | 1, _, h => cases h; exact kH
    | 2, _, h => cases h; exact kA
    | 3, _, h => cases h; exact kU
    | 4, _, h => cases h; exact kN
    | 5, _, h => cases h; exact kM
    | n + 6, _, h => simp [ax_cl] at h
  · match a, q, h with
    | 0, _, h => cases h; exact ⟨fun n z => ⟨fun k h => (by cases h), kI, f2, compI, f3⟩, f1⟩
    | 1, _, h => cases h; exact ⟨fun n z => ⟨fun k h => (by cases h), kZ, z2, compZ, z3⟩, z1⟩
    | n + 2, _, h => simp at h
  · rcases List.mem_cons.mp hq with rfl | hq
    · exact va_Nw.of rfl (hts _ (List.mem_of_getElem? (i := 100) rfl))
    rcases List.mem_cons.mp hq with rfl | hq
    · exact va_Nw.of rfl (hts _ (List.mem_of_getElem? (i := 166) rfl))
    rcases List.mem_cons.mp hq with rfl | hq
    · exact va_Nw.of rfl (hts _ (List.mem_of_getElem? (i := 275) rfl))
    rcases List.mem_cons.mp hq with rfl | hq
    · exact va_Nw.of rfl (hts _ (List.mem_of_getElem? (i := 281) rfl))
    rcases List.mem_cons.mp hq with rfl | hq
    · exact va_Nw.of rfl (hts _ (List.mem_of_getElem? (i := 323) rfl))
    rcases List.mem_cons.mp hq with rfl | hq
    · exact va_Nw.of rfl (hts _ (List.mem_of_getElem? (i := 368) rfl))
    cases hq
end LZ
set_option maxRecDepth 100000 in
theorem whole_start {p : Program} {e : Env} {s : State} {m : MethodId} {below : List Frame} {meth : Method} {c : Code} (l : Launch) {b L : Nat} {xs : Nat → Int32} (hL : L ≤ 2562) (C0 : lw_At p s m meth c b L xs) : W p l e room_1 s m #[Value.ref b] below meth c s.heap [] 0 0 (lw_Z below #[Value.ref b] s) (entryFrame m ([Value.ref b] : List Value).toArray 4) := by
  obtain ⟨D, cI, cZ, hK, hN⟩ := lx_words C0
  have hE : lx_E p s m meth c b L xs D cI cZ := ⟨C0, hL, hK, hN⟩
  have S := lx_fix hE
  obtain ⟨hx2, hb2, hr, hml, hown, hts, hX, hbl, hlocks, _⟩ := C0
  have hin : ∀ w ∈ ax_TT, w ∈ lw_tbl := fun w hw => (List.mem_filter.mp hw).1
  have hl := lv_entry [Value.ref b] (n := 4) (by show 1 ≤ 4; omega)
  rw [lg_entry_eq]
  generalize (lg_sl [Value.ref b] ++ List.replicate (4 - (lg_sl [Value.ref b]).length) Slot.unset).toArray = ls at hl ⊢
  have hl : lv_has ls 4 [(0, .ref b)] := hl
  have l0 : ls[0]? = some (.val (.ref b)) := hl.2.2 (0, .ref b) List.mem_cons_self
  have hA : ∀ q, s.heap.size ≤ q → lx_A s q := fun q h => h
  have hP0 : va_P D ax_cl [] s.heap := fun k q h => by cases h
  have hD0 : va_D (lx_A s) [] := ⟨fun i j p q h => (by cases h), fun k q h => (by cases h)⟩
  refine va_new (D := D) (ci := 0) (fs := fv_O) (C := rn_O) (T := fd_O) (N := 4) (own := R_law) hx2 hb2 hts (fun w hw => hin w (fi_O w hw)) ft_O ft_O_ok hown (hts _ (List.mem_of_getElem? (i := 42) rfl)) (hts _ (List.mem_of_getElem? (i := 43) rfl)) (hts _ (List.mem_of_getElem? (i := 35) rfl)) hK hP0 hD0 va_S.rf hA rfl (fx_O ft_O ft_O_ok) (by decide) (by decide) dl_0 (fun q1 H1 hP1 hD1 hS1 => ?_)
  have hP1 : va_P D ax_cl (ax_w cI cZ (fun _ => q1) [.inr (0, fv_O)]) H1 := hP1
  have hD1 : va_D (lx_A s) (ax_w cI cZ (fun _ => q1) [.inr (0, fv_O)]) := hD1
  refine lv_dup hx2 hb2 dl_3 rfl ?_
  refine lv_aload_n hx2 hb2 dl_4 (i := 0) rfl l0 ?_
  refine lv_iconst hx2 hb2 dl_5 (v := nI 0) rfl ?_
  refine lx_cell S hX hbl hL (k := 0) (by omega) hS1 (by omega) (by omega) (Nat.le_of_ble_eq_true rfl) hl.1 dl_6 (fun H2 locs2 hk2 hS2 => ?_)
  have hP2 := hP1.kept (fun k q h => hk2 q.1 ((hP1 k q h).lt))
  refine lv_aload_n hx2 hb2 dl_9 (i := 0) rfl l0 ?_
  refine lv_iconst hx2 hb2 dl_10 (v := nI 1) rfl ?_
  refine lx_cell S hX hbl hL (k := 1) (by omega) hS2 (by omega) (by omega) (Nat.le_of_ble_eq_true rfl) hl.1 dl_11 (fun H3 locs3 hk3 hS3 => ?_)
  have hP3 := hP2.kept (fun k q h => hk3 q.1 ((hP2 k q h).lt))
  refine lx_init S hK hN (y := no_O_init) (n := 2) (mA := 26) (sA := 597) (ad := fun _ => q1) (xs := [.int (if 0 < L then xs 0 else 0), .int (if 1 < L then xs 1 else 0)]) rfl rfl (by decide) (List.mem_of_getElem? (i := 44) rfl) (List.mem_of_getElem? (i := 45) rfl) rfl (by decide +kernel) (in_O _ _) rfl (by decide) rfl (Nat.le_of_ble_eq_true rfl) hl.1 dl_14 (by decide) (by decide) hP3 hD1 (wo := []) (fun k q h => (by cases h)) (fun i j p q _ h => (by cases h)) hS3 (fun h4 adx H4 locs4 hk4 e4 hP4 hD4 _ _ hS4 => ?_)
  obtain ⟨-, rfl⟩ := hk4
  refine lv_astore_n hx2 hb2 dl_17 (i := 1) rfl hl (by omega) rfl (fun ls1 hl1 => ?_)
  have hl1 : lv_has ls1 4 [(1, .ref q1), (0, .ref b)] := hl1
  have m0 : ls1[0]? = some (.val (.ref b)) := hl1.2.2 (0, .ref b) (by simp)
  generalize hgx : oH (f0 (mxI 1 (mnI (if 0 < L then xs 0 else 0) 16)) (mxI 0 (mnI (if 1 < L then xs 1 else 0) 1000000))) 0 (fun _ _ => 0) 0 0 = hx at hP4 hD4
  refine va_new (D := D) (ci := 5) (fs := fv_M) (C := rn_M) (T := fd_M) (N := 35) (own := R_law) hx2 hb2 hts (fun w hw => hin w (fi_M w hw)) ft_M ft_M_ok hown (hts _ (List.mem_of_getElem? (i := 449) rfl)) (hts _ (List.mem_of_getElem? (i := 450) rfl)) (hts _ (List.mem_of_getElem? (i := 41) rfl)) hK hP4 hD4 hS4 hA rfl (fx_M ft_M ft_M_ok) (by decide) (by decide) dl_18 (fun q2 H5 hP5 hD5 hS5 => ?_)
  have hPx5 : va_P D ax_cl (ax_w cI cZ adx hx) H5 := fun k q h => hP5 k q (by rw [List.getElem?_append_left (List.getElem?_eq_some_iff.mp h).1]; exact h)
  have hDx5 : va_D (lx_A s) (ax_w cI cZ adx hx) := hD4
  have hPm5 : va_P D ax_cl (ax_w cI cZ (fun _ => q2) [.inr (5, fv_M)]) H5 := fun k q h => by
    have hz : k < 1 := (List.getElem?_eq_some_iff.mp h).1
    have hk0 : k = 0 := by omega
    subst hk0
    cases h
    exact hP5 (ax_w cI cZ adx hx).length _ (by rw [List.getElem?_append_right (Nat.le_refl _), Nat.sub_self]; rfl)
  have hat : ∀ (j : Nat) (q : Nat × va_E), (ax_w cI cZ (fun _ => q2) [.inr (5, fv_M)])[j]? = some q → q.1 = q2 := fun j q h => by
    have hz : j < 1 := (List.getElem?_eq_some_iff.mp h).1
    have hk0 : j = 0 := by omega
    subst hk0
    cases h
    rfl
  have hDm5 : va_D (lx_A s) (ax_w cI cZ (fun _ => q2) [.inr (5, fv_M)]) := ⟨fun i j p q h1 h2 _ => by
    have hz1 : i < 1 := (List.getElem?_eq_some_iff.mp h1).1
    have hz2 : j < 1 := (List.getElem?_eq_some_iff.mp h2).1
    omega, fun k q h => by
    have := hD5.2 (ax_w cI cZ adx hx).length (q2, .inr (5, fv_M)) (by rw [List.getElem?_append_right (Nat.le_refl _), Nat.sub_self]; rfl)
    rw [hat k q h]
    exact this⟩
  have hX5 : ∀ (i j : Nat) (p q : Nat × va_E), (ax_w cI cZ (fun _ => q2) [.inr (5, fv_M)])[i]? = some p → (ax_w cI cZ adx hx)[j]? = some q → p.1 ≠ q.1 := fun i j p q h1 h2 e => by
    have hj := (List.getElem?_eq_some_iff.mp h2).1
    have := hD5.1 j (ax_w cI cZ adx hx).length q (q2, .inr (5, fv_M)) (by rw [List.getElem?_append_left hj]; exact h2) (by rw [List.getElem?_append_right (Nat.le_refl _), Nat.sub_self]; rfl) (by rw [← e, hat i p h1])
    omega
  refine lv_dup hx2 hb2 dl_21 rfl ?_
  refine lv_aload_n hx2 hb2 dl_22 (i := 0) rfl m0 ?_
  refine lv_iconst hx2 hb2 dl_23 (v := nI 0) rfl ?_
  refine lx_cell S hX hbl hL (k := 0) (by omega) hS5 (by omega) (by omega) (Nat.le_of_ble_eq_true rfl) hl1.1 dl_24 (fun H6 locs6 hk6 hS6 => ?_)
  have hPx6 := hPx5.kept (fun k q h => hk6 q.1 ((hPx5 k q h).lt))
  have hPm6 := hPm5.kept (fun k q h => hk6 q.1 ((hPm5 k q h).lt))
  refine lv_aload_n hx2 hb2 dl_27 (i := 0) rfl m0 ?_
  refine lv_iconst hx2 hb2 dl_28 (v := nI 1) rfl ?_
  refine lx_cell S hX hbl hL (k := 1) (by omega) hS6 (by omega) (by omega) (Nat.le_of_ble_eq_true rfl) hl1.1 dl_29 (fun H7 locs7 hk7 hS7 => ?_)
  have hPx7 := hPx6.kept (fun k q h => hk7 q.1 ((hPx6 k q h).lt))
  have hPm7 := hPm6.kept (fun k q h => hk7 q.1 ((hPm6 k q h).lt))
  refine lx_init S hK hN (y := no_M_init) (n := 2) (mA := 24) (sA := 612) (ad := fun _ => q2) (xs := [.int (if 0 < L then xs 0 else 0), .int (if 1 < L then xs 1 else 0)]) rfl rfl (by decide) (List.mem_of_getElem? (i := 451) rfl) (List.mem_of_getElem? (i := 452) rfl) rfl (by decide +kernel) (in_M _ _) rfl (by decide) rfl (Nat.le_of_ble_eq_true rfl) hl1.1 dl_32 (by decide) (by decide) hPm7 hDm5 (wo := ax_w cI cZ adx hx) hPx7 hX5 hS7 (fun h8 adm H8 locs8 hk8 e8 hP8 hD8 hPx8 hX8 hS8 => ?_)
  obtain ⟨-, rfl⟩ := hk8
  refine lv_astore_n hx2 hb2 dl_35 (i := 2) rfl hl1 (by omega) rfl (fun ls2 hl2 => ?_)
  have hl2 : lv_has ls2 4 [(2, .ref q2), (1, .ref q1), (0, .ref b)] := hl2
  refine lv_iconst hx2 hb2 dl_36 (v := nI 2) rfl ?_
  refine lv_istore_n hx2 hb2 dl_37 (i := 3) rfl hl2 (by omega) rfl (fun ls3 hl3 => ?_)
  have hl3 : lv_has ls3 4 [(3, .int (nI 2)), (2, .ref (adm 0)), (1, .ref (adx 0)), (0, .ref b)] := by rw [e4, e8]; exact hl3
  exact lx_loop hE L 2 hx _ H8 locs8 ls3 (by omega) (by omega) hl3 ⟨hPx8, hP8, hD4, hD8, fun i j p q h1 h2 e => hX8 j i q p h2 h1 e.symm, hS8⟩ (by rw [← hgx]; exact RH_start _ _)
