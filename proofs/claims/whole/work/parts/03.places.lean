/-! The small machine against the kit's rows, 1: places and addresses. -/
def ax_v (ad : Nat → Nat) : Value → Value
  | .ref k => .ref (ad k)
  | v => v
def ax_c (cI cZ : ClassId) (ad : Nat → Nat) : ax_C → va_E
  | .inl (z, n, f) => .inl (cond z cZ cI, n, .inl f)
  | .inr (ci, fs) => .inr (ci, fs.map (ax_v ad))
def ax_w (cI cZ : ClassId) (ad : Nat → Nat) (h : ax_H) : va_W := h.mapIdx (fun k c => (ad k, ax_c cI cZ ad c))
theorem ax_w_at (cI cZ : ClassId) (ad : Nat → Nat) (h : ax_H) (q : Nat) : (ax_w cI cZ ad h)[q]? = (h[q]?).map (fun c => (ad q, ax_c cI cZ ad c)) := by
  simp [ax_w]
theorem ax_w_get {cI cZ : ClassId} {ad : Nat → Nat} {h : ax_H} {q : Nat} {c : ax_C} (e : ax_nth h q = some c) : (ax_w cI cZ ad h)[q]? = some (ad q, ax_c cI cZ ad c) := by
  rw [ax_w_at, ← ax_nth_eq, e]
  rfl
theorem ax_w_len (cI cZ : ClassId) (ad : Nat → Nat) (h : ax_H) : (ax_w cI cZ ad h).length = h.length := by simp [ax_w]
theorem ax_w_set (cI cZ : ClassId) (ad : Nat → Nat) (h : ax_H) (q : Nat) (c : ax_C) : (ax_w cI cZ ad h).set q (ad q, ax_c cI cZ ad c) = ax_w cI cZ ad (h.set q c) := by
  apply List.ext_getElem?
  intro i
  rw [ax_w_at, List.getElem?_set, List.getElem?_set, ax_w_at, ax_w_len]
  by_cases hq : q = i
  · subst hq
    by_cases h2 : q < h.length <;> simp [h2]
  · simp [hq]
theorem ax_v_cat (ad : Nat → Nat) (v : Value) : (ax_v ad v).category = v.category := by cases v <;> rfl
theorem ax_v_eq {ad ad' : Nat → Nat} {n : Nat} {v : Value} (h : ∀ k, k < n → ad' k = ad k) (hv : ax_okv n v = true) : ax_v ad' v = ax_v ad v := by
  cases v with
  | ref k => exact congrArg Value.ref (h k (Nat.le_of_ble_eq_true hv))
  | _ => rfl
theorem ax_vs_eq {ad ad' : Nat → Nat} {n : Nat} {S : List Value} (h : ∀ k, k < n → ad' k = ad k) (hv : S.all (ax_okv n) = true) : S.map (ax_v ad') = S.map (ax_v ad) := by
  apply List.map_congr_left
  intro v hm
  exact ax_v_eq h (List.all_eq_true.mp hv v hm)
theorem ax_c_eq {cI cZ : ClassId} {ad ad' : Nat → Nat} {n : Nat} {c : ax_C} (h : ∀ k, k < n → ad' k = ad k) (hv : ax_okc n c = true) : ax_c cI cZ ad' c = ax_c cI cZ ad c := by
  rcases c with ⟨z, n, f⟩ | ⟨ci, fs⟩
  · rfl
  · show Sum.inr (ci, fs.map (ax_v ad')) = Sum.inr (ci, fs.map (ax_v ad))
    rw [ax_vs_eq h hv]
theorem ax_w_eq {cI cZ : ClassId} {ad ad' : Nat → Nat} {h : ax_H} (hk : ∀ k, k < h.length → ad' k = ad k) (ho : ax_okh h.length h = true) : ax_w cI cZ ad' h = ax_w cI cZ ad h := by
  apply List.ext_getElem?
  intro i
  rw [ax_w_at, ax_w_at]
  cases hc : h[i]? with
  | none => rfl
  | some c =>
    have hi : i < h.length := (List.getElem?_eq_some_iff.mp hc).1
    have h1 : ax_okc h.length c = true := List.all_eq_true.mp ho c (List.mem_of_getElem? hc)
    show some (ad' i, ax_c cI cZ ad' c) = some (ad i, ax_c cI cZ ad c)
    rw [hk i hi, ax_c_eq hk h1]
def ax_up (ad : Nat → Nat) (n q : Nat) : Nat → Nat := fun k => if k = n then q else ad k
theorem ax_up_lt {ad : Nat → Nat} {n q k : Nat} (h : k < n) : ax_up ad n q k = ad k := if_neg (Nat.ne_of_lt h)
theorem ax_up_self {ad : Nat → Nat} {n q : Nat} : ax_up ad n q n = q := if_pos rfl
theorem ax_w_push {cI cZ : ClassId} {ad : Nat → Nat} {h : ax_H} {c : ax_C} {q : Nat} (ho : ax_okh h.length h = true) (hc : ax_c cI cZ (ax_up ad h.length q) c = ax_c cI cZ ad c) : ax_w cI cZ (ax_up ad h.length q) (h ++ [c]) = ax_w cI cZ ad h ++ [(q, ax_c cI cZ ad c)] := by
  have e := ax_w_eq (cI := cI) (cZ := cZ) (ad := ad) (ad' := ax_up ad h.length q) (h := h) (fun k hk => ax_up_lt hk) ho
  rw [← e]
  unfold ax_w
  rw [List.mapIdx_append]
  simp only [List.mapIdx_cons, List.mapIdx_nil, Nat.zero_add, ax_up_self, hc]
/-! locals -/
def ax_lv1 (ad : Nat → Nat) (L : ax_L) (i : Nat) : Option (Nat × Value) := match ax_nth L i with
  | some (some v) => if v.category = 1 then some (i, ax_v ad v) else none
  | _ => none
def ax_lv (ad : Nat → Nat) (L : ax_L) : List (Nat × Value) := (List.range L.length).filterMap (ax_lv1 ad L)
theorem ax_lv1_eq {ad : Nat → Nat} {L : ax_L} {i : Nat} {q : Nat × Value} (h : ax_lv1 ad L i = some q) : ∃ v, ax_nth L i = some (some v) ∧ v.category = 1 ∧ q = (i, ax_v ad v) := by
  unfold ax_lv1 at h
  split at h
  · rename_i v hv
    split at h
    · rename_i hc
      cases h
      exact ⟨v, hv, hc, rfl⟩
    · cases h
  · cases h
theorem ax_lv_mem {ad : Nat → Nat} {L : ax_L} {i : Nat} {v : Value} (h : ax_nth L i = some (some v)) (hc : v.category = 1) : (i, ax_v ad v) ∈ ax_lv ad L := by
  have hi : i < L.length := by
    rw [ax_nth_eq] at h
    exact (List.getElem?_eq_some_iff.mp h).1
  refine List.mem_filterMap.mpr ⟨i, List.mem_range.mpr hi, ?_⟩
  unfold ax_lv1
  rw [h]
  simp [hc]
theorem ax_lv_of {ad : Nat → Nat} {L : ax_L} {q : Nat × Value} (h : q ∈ ax_lv ad L) : ∃ v, ax_nth L q.1 = some (some v) ∧ v.category = 1 ∧ q.2 = ax_v ad v := by
  obtain ⟨i, -, h1⟩ := List.mem_filterMap.mp h
  obtain ⟨v, e1, e2, rfl⟩ := ax_lv1_eq h1
  exact ⟨v, e1, e2, rfl⟩
theorem ax_lv_at {ad : Nat → Nat} {L : ax_L} {ls : Array Slot} {nl i : Nat} {v : Value} (hl : lv_has ls nl (ax_lv ad L)) (h : ax_nth L i = some (some v)) (hc : v.category = 1) : ls[i]? = some (.val (ax_v ad v)) := hl.2.2 (i, ax_v ad v) (ax_lv_mem h hc)
theorem ax_lv_set {ad : Nat → Nat} {L : ax_L} {ls : Array Slot} {nl i : Nat} {w : Value} (hL : L.length = nl) (hi : i < nl) (h : lv_has ls nl ((i, ax_v ad w) :: (ax_lv ad L).filter (fun q => !(q.1 == i) && !(q.1 + 1 == i && q.2.category == 2)))) : lv_has ls nl (ax_lv ad (L.set i (some w))) := by
  refine ⟨h.1, h.2.1, fun q hq => h.2.2 q ?_⟩
  obtain ⟨v, e1, e2, e3⟩ := ax_lv_of hq
  obtain ⟨j, u⟩ := q
  dsimp only at e1 e3
  subst e3
  rw [ax_nth_eq, List.getElem?_set] at e1
  by_cases hj : i = j
  · subst hj
    rw [if_pos rfl, if_pos (by rw [hL]; exact hi)] at e1
    cases e1
    exact List.mem_cons_self
  · rw [if_neg hj, ← ax_nth_eq] at e1
    refine List.mem_cons_of_mem _ (List.mem_filter.mpr ⟨ax_lv_mem e1 e2, ?_⟩)
    have h2 : (ax_v ad v).category = 1 := by rw [ax_v_cat]; exact e2
    have h3 : (j == i) = false := by simpa using fun h => hj h.symm
    simp [h2, h3]
theorem ax_lv_ad {ad ad' : Nat → Nat} {n : Nat} {L : ax_L} (h : ∀ k, k < n → ad' k = ad k) (hv : L.all (ax_oko n) = true) {ls : Array Slot} {nl : Nat} (hl : lv_has ls nl (ax_lv ad L)) : lv_has ls nl (ax_lv ad' L) := by
  refine ⟨hl.1, hl.2.1, fun q hq => ?_⟩
  obtain ⟨v, e1, e2, e3⟩ := ax_lv_of hq
  have hm : some v ∈ L := by
    rw [ax_nth_eq] at e1
    exact List.mem_of_getElem? e1
  have h1 : ax_okv n v = true := List.all_eq_true.mp hv (some v) hm
  rw [e3, ax_v_eq h h1]
  exact ax_lv_at hl e1 e2
theorem ax_lv_entry (ad : Nat → Nat) (As : List Value) (k : Nat) (hc : ∀ v ∈ As, v.category = 1) {ls : Array Slot} {nl : Nat} (hl : lv_has ls nl (lv_args 0 (As.map (ax_v ad)))) : lv_has ls nl (ax_lv ad (As.map some ++ List.replicate k none)) := by
  refine ⟨hl.1, hl.2.1, fun q hq => ?_⟩
  obtain ⟨v, e1, e2, e3⟩ := ax_lv_of hq
  have key : ∀ (Bs : List Value) (o i : Nat) (v : Value), (∀ v ∈ Bs, v.category = 1) → ax_nth (Bs.map some ++ List.replicate k none) i = some (some v) → (o + i, ax_v ad v) ∈ lv_args o (Bs.map (ax_v ad)) := by
    intro Bs
    induction Bs with
    | nil =>
      intro o i v _ h
      rw [ax_nth_eq] at h
      have := List.mem_of_getElem? h
      simp at this
    | cons b Bs ih =>
      intro o i v hc h
      cases i with
      | zero =>
        have : b = v := by simpa [ax_nth] using h
        subst this
        simp [lv_args]
      | succ i =>
        have h' : ax_nth (Bs.map some ++ List.replicate k none) i = some (some v) := by simpa [ax_nth] using h
        have h1 : (ax_v ad b).category = 1 := by rw [ax_v_cat]; exact hc b List.mem_cons_self
        have := ih (o + 1) i v (fun u hu => hc u (List.mem_cons_of_mem _ hu)) h'
        simp only [List.map_cons, lv_args, h1]
        rw [if_neg (by decide)]
        refine List.mem_cons_of_mem _ ?_
        rw [show o + (i + 1) = o + 1 + i by omega]
        exact this
  have := key As 0 q.1 v hc e1
  rw [Nat.zero_add] at this
  rw [e3]
  exact hl.2.2 (q.1, ax_v ad v) this
/-! monotone -/
theorem ax_if_mono {b : Bool} {k k' : Prop} (h : k → k') : ax_if b k → ax_if b k' := by
  cases b
  · exact id
  · exact h
theorem ax_if_t {b : Bool} {k : Prop} (h : ax_if b k) : b = true ∧ k := by
  cases b
  · exact h.elim
  · exact ⟨rfl, h⟩
theorem ax_bin_mono {f : Int32 → Int32 → Int32} {S : List Value} {k k' : List Value → Prop} (h : ∀ S, k S → k' S) : ax_bin f S k → ax_bin f S k' := by
  unfold ax_bin
  split
  · exact h _
  · exact id
theorem ax_ldi_mono {L : ax_L} {i : Nat} {k k' : Value → Prop} (h : ∀ v, k v → k' v) : ax_ldi L i k → ax_ldi L i k' := by
  unfold ax_ldi
  split
  · exact h _
  · exact id
theorem ax_lda_mono {L : ax_L} {i : Nat} {k k' : Value → Prop} (h : ∀ v, k v → k' v) : ax_lda L i k → ax_lda L i k' := by
  unfold ax_lda
  split
  · exact h _
  · exact h _
  · exact id
theorem ax_sti_mono {S : List Value} {k k' : Value → List Value → Prop} (h : ∀ v r, k v r → k' v r) : ax_sti S k → ax_sti S k' := by
  unfold ax_sti
  split
  · exact h _ _
  · exact id
theorem ax_sta_mono {S : List Value} {k k' : Value → List Value → Prop} (h : ∀ v r, k v r → k' v r) : ax_sta S k → ax_sta S k' := by
  unfold ax_sta
  split
  · exact h _ _
  · exact h _ _
  · exact id
theorem ax_inc_mono {L : ax_L} {i : Nat} {v : Int32} {k k' : ax_L → Prop} (h : ∀ L, k L → k' L) : ax_inc L i v k → ax_inc L i v k' := by
  unfold ax_inc
  split
  · exact h _
  · exact id
theorem ax_getf_mono {S : List Value} {h : ax_H} {ci f : Nat} {k k' : List Value → Prop} (hk : ∀ S, k S → k' S) : ax_getf S h ci f k → ax_getf S h ci f k' := by
  unfold ax_getf
  split
  · split
    · refine ax_if_mono ?_
      split
      · exact hk _
      · exact id
    · exact id
  · exact id
theorem ax_fit_mono {ty : Int32} {v : Value} {k k' : Prop} (h : k → k') : ax_fit ty v k → ax_fit ty v k' := by
  unfold ax_fit
  split
  · exact fun q => ⟨q.1, h q.2⟩
  · exact fun q => ⟨q.1, h q.2⟩
  · exact fun q => ⟨q.1, h q.2⟩
  · exact id
theorem ax_putf_mono {S : List Value} {h : ax_H} {ci f : Nat} {ty : Int32} {k k' : List Value → ax_H → Prop} (hk : ∀ S h, k S h → k' S h) : ax_putf S h ci f ty k → ax_putf S h ci f ty k' := by
  unfold ax_putf
  split
  · split
    · exact ax_if_mono (ax_fit_mono (hk _ _))
    · exact id
  · exact id
theorem ax_ald_mono {z : Bool} {S : List Value} {h : ax_H} {k k' : List Value → Prop} (hk : ∀ S, k S → k' S) : ax_ald z S h k → ax_ald z S h k' := by
  unfold ax_ald
  split
  · split
    · exact ax_if_mono (fun ⟨a, h1, h2, h3⟩ => ⟨a, h1, h2, hk _ h3⟩)
    · exact id
  · exact id
theorem ax_ast_mono {z : Bool} {S : List Value} {h : ax_H} {k k' : List Value → ax_H → Prop} (hk : ∀ S h, k S h → k' S h) : ax_ast z S h k → ax_ast z S h k' := by
  unfold ax_ast
  split
  · split
    · exact ax_if_mono (fun ⟨a, h1, h2, h3⟩ => ⟨a, h1, h2, hk _ _ h3⟩)
    · exact id
  · exact id
theorem ax_alen_mono {S : List Value} {h : ax_H} {k k' : List Value → Prop} (hk : ∀ S, k S → k' S) : ax_alen S h k → ax_alen S h k' := by
  unfold ax_alen
  split
  · split
    · exact hk _
    · exact id
  · exact id
theorem ax_br_mono {P a b a' b' : Prop} (h1 : a → a') (h2 : b → b') : ax_br P a b → ax_br P a' b' := fun q => ⟨fun p => h1 (q.1 p), fun p => h2 (q.2 p)⟩
theorem ax_sw_mono {x lo : Int32} {ts : List Nat} {R R' : Nat → Prop} {d : Nat} (h : ∀ t, R t → R' t) : ax_sw x lo ts R d → ax_sw x lo ts R' d := fun q => ⟨fun k t h1 h2 => h _ (q.1 k t h1 h2), fun p => h _ (q.2 p)⟩
theorem ax_call_mono {M : List ax_M} {mc ms : Nat} {C : ax_O} {a b : Nat} {ts : List Nat} {L : ax_L} {S : List Value} {h : ax_H} {ce sl : Nat} {R R' : List Value → ax_H → Nat → Nat → Prop} (hk : ∀ S h ce sl, R S h ce sl → R' S h ce sl) : ax_call M mc ms C a b ts L S h ce sl R → ax_call M mc ms C a b ts L S h ce sl R' := by
  unfold ax_call
  split
  · split
    · exact ax_if_mono (hk _ _ _ _)
    · exact id
  · split
    · exact ax_if_mono (hk _ _ _ _)
    · exact id
  · split
    · exact ax_if_mono (hk _ _ _ _)
    · exact id
  · split
    · exact id
    · split
      · exact id
      · exact ax_if_mono (fun ⟨K, h1, h2⟩ => ⟨K, h1, fun z h' q => hk _ _ _ _ (h2 z h' q)⟩)
  · split
    · exact id
    · split
      · exact id
      · exact ax_if_mono (fun ⟨K, h1, h2⟩ => ⟨K, h1, fun h' q => hk _ _ _ _ (h2 h' q)⟩)
  · exact id
set_option maxHeartbeats 4000000 in
theorem ax_F_mono {M : List ax_M} {X : List (List Value)} {y : Nat} {C : ax_O} {K : ax_K} {R R' : ax_R} (hR : ∀ i L S h ce sl, R i L S h ce sl → R' i L S h ce sl) {i : Nat} {L : ax_L} {S : List Value} {h : ax_H} {ce sl : Nat} : ax_F M X y C K R i L S h ce sl → ax_F M X y C K R' i L S h ce sl := by
  unfold ax_F
  rcases ax_nth M y with _ | ⟨cd, nl, n, mc, ms⟩
  · exact id
  dsimp only
  rcases ax_nth cd i with _ | ⟨pc, ins, a, b, v, ts⟩
  · exact id
  dsimp only
  cases ins
  all_goals dsimp only
  all_goals first
    | exact id
    | exact hR _ _ _ _ _ _
    | exact ax_ldi_mono (fun _ => hR _ _ _ _ _ _)
    | exact ax_lda_mono (fun _ => hR _ _ _ _ _ _)
    | exact ax_sti_mono (fun _ _ => hR _ _ _ _ _ _)
    | exact ax_sta_mono (fun _ _ => hR _ _ _ _ _ _)
    | exact ax_inc_mono (fun _ => hR _ _ _ _ _ _)
    | exact ax_bin_mono (fun _ => hR _ _ _ _ _ _)
    | exact ax_getf_mono (fun _ => hR _ _ _ _ _ _)
    | exact ax_putf_mono (fun _ _ => hR _ _ _ _ _ _)
    | exact ax_ald_mono (fun _ => hR _ _ _ _ _ _)
    | exact ax_ast_mono (fun _ _ => hR _ _ _ _ _ _)
    | exact ax_alen_mono (fun _ => hR _ _ _ _ _ _)
    | exact ax_call_mono (fun _ _ _ _ => hR _ _ _ _ _ _)
    | (split <;> first
      | exact id
      | exact ax_if_mono (hR _ _ _ _ _ _)
      | exact ax_br_mono (hR _ _ _ _ _ _) (hR _ _ _ _ _ _)
      | exact ax_sw_mono (fun _ => hR _ _ _ _ _ _)
      | exact fun ⟨N, h1, h2⟩ => ⟨N, h1, ax_if_mono (hR _ _ _ _ _ _) h2⟩)
theorem ax_X.step {M : List ax_M} {X : List (List Value)} {y : Nat} {C : ax_O} {K : ax_K} {i : Nat} {L : ax_L} {S : List Value} {h : ax_H} {ce sl : Nat} (hF : ax_F M X y C K (ax_X M X y C K) i L S h ce sl) : ax_X M X y C K i L S h ce sl := by
  intro R hR
  exact hR _ _ _ _ _ _ (ax_F_mono (fun _ _ _ _ _ _ hx => hx R hR) hF)
/-- k instructions -/
def ax_Fk (M : List ax_M) (X : List (List Value)) (y : Nat) (C : ax_O) (K : ax_K) : Nat → ax_R → ax_R
  | 0, R => R
  | k + 1, R => ax_F M X y C K (ax_Fk M X y C K k R)
theorem ax_X.steps {M : List ax_M} {X : List (List Value)} {y : Nat} {C : ax_O} {K : ax_K} : ∀ (k : Nat) {i : Nat} {L : ax_L} {S : List Value} {h : ax_H} {ce sl : Nat} (_ : ax_Fk M X y C K k (ax_X M X y C K) i L S h ce sl), ax_X M X y C K i L S h ce sl
  | 0, _, _, _, _, _, _, h => h
  | k + 1, _, _, _, _, _, _, h => ax_X.step (ax_F_mono (fun _ _ _ _ _ _ q => ax_X.steps k q) h)
