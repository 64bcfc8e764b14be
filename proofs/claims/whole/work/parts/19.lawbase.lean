/-! worlds with a tail that is not looked at -/
theorem join_get {A0 : Nat → Prop} {D : va_G} {cl : List vw_C} {L Lc Lc' L2 : va_W} {H H1 : Heap} (hP : va_P D cl L H) (hD : va_D A0 L) (isC : List Nat) (hC : isC.map (fun i => L[i]?) = Lc.map some)
    (hget : ∀ (k : Nat) (q : Nat × va_E), L2[k]? = some q → (∃ j : Nat, isC[j]? = some k ∧ Lc'[j]? = some q) ∨ (k ∉ isC ∧ L[k]? = some q))
    (hk : ∀ q : Nat, q < H.size → ¬ va_A Lc H.size q → H1[q]? = H[q]?) (hF : ∀ q, va_A Lc H.size q → A0 q) (hP1 : va_P D cl Lc' H1) (hD1 : va_D (va_A Lc H.size) Lc') : va_P D cl L2 H1 ∧ va_D A0 L2 := by
  have at' : ∀ (k : Nat) (q : Nat × va_E), Lc[k]? = some q → ∃ i, isC[k]? = some i ∧ L[i]? = some q := by
    intro k q hq
    have h1 : (isC.map (fun i => L[i]?))[k]? = some (some q) := by rw [hC, List.getElem?_map, hq]; rfl
    rw [List.getElem?_map] at h1
    cases hi : isC[k]? with
    | none => rw [hi] at h1; cases h1
    | some i => rw [hi] at h1; exact ⟨i, rfl, Option.some.inj h1⟩
  have apart : ∀ (k : Nat) (q : Nat × va_E), k ∉ isC → L[k]? = some q → q.1 < H.size ∧ ¬ va_A Lc H.size q.1 := by
    intro k q hkn hq
    have hl := (hP k q hq).lt
    refine ⟨hl, fun h => ?_⟩
    rcases h with ⟨k2, e, h⟩ | h
    · obtain ⟨j, h3, h4⟩ := at' k2 (q.1, e) h
      have hij := hD.1 k j q (q.1, e) hq h4 rfl
      subst hij
      exact hkn (List.mem_of_getElem? h3)
    · omega
  refine ⟨fun k q hq => ?_, fun i j x y hi hj hxy => ?_, fun k q hq => ?_⟩
  · rcases hget k q hq with ⟨j, h1, h2⟩ | ⟨h1, h2⟩
    · exact hP1 j q h2
    · obtain ⟨g1, g2⟩ := apart k q h1 h2
      exact (hP k q h2).kept (hk q.1 g1 g2)
  · rcases hget i x hi with ⟨a, h1, h2⟩ | ⟨h1, h2⟩ <;> rcases hget j y hj with ⟨b, h3, h4⟩ | ⟨h3, h4⟩
    · have hab := hD1.1 a b x y h2 h4 hxy
      subst hab
      rw [h1] at h3
      exact Option.some.inj h3
    · exact absurd (by rw [← hxy]; exact hD1.2 a x h2) (apart j y h3 h4).2
    · exact absurd (by rw [hxy]; exact hD1.2 b y h4) (apart i x h1 h2).2
    · exact hD.1 i j x y h2 h4 hxy
  · rcases hget k q hq with ⟨j, h1, h2⟩ | ⟨h1, h2⟩
    · exact hF _ (hD1.2 j q h2)
    · exact hD.2 k q h2
def lk : List Nat → va_W → Nat → Option (Nat × va_E)
  | i :: is, z :: zs, k => match Nat.beq k i with
    | true => some z
    | false => lk is zs k
  | _, _, _ => none
theorem lk_some : ∀ (is : List Nat) (zs : va_W) (k : Nat) (z : Nat × va_E), lk is zs k = some z → ∃ j : Nat, is[j]? = some k ∧ zs[j]? = some z
  | [], zs, k, z, h => by cases zs <;> simp [lk] at h
  | i :: is, [], k, z, h => by simp [lk] at h
  | i :: is, y :: zs, k, z, h => by
    unfold lk at h
    cases hb : Nat.beq k i with
    | true =>
      rw [hb] at h
      exact ⟨0, by simp [Nat.eq_of_beq_eq_true hb], by simpa using h⟩
    | false =>
      rw [hb] at h
      obtain ⟨j, h1, h2⟩ := lk_some is zs k z h
      exact ⟨j + 1, by simpa using h1, by simpa using h2⟩
theorem lk_none : ∀ (is : List Nat) (zs : va_W) (k : Nat), is.length = zs.length → lk is zs k = none → k ∉ is
  | [], zs, k, _, _ => List.not_mem_nil
  | i :: is, [], k, hl, _ => by simp at hl
  | i :: is, y :: zs, k, hl, h => by
    unfold lk at h
    cases hb : Nat.beq k i with
    | true => rw [hb] at h; cases h
    | false =>
      rw [hb] at h
      have hne : k ≠ i := Nat.ne_of_beq_eq_false hb
      simp [hne, lk_none is zs k (by simpa using hl) h]
def mrg (is : List Nat) (zs : va_W) : Nat → va_W → va_W
  | _, [] => []
  | k, x :: L => (match lk is zs k with
    | some z => z
    | none => x) :: mrg is zs (k + 1) L
theorem mrg_get (is : List Nat) (zs : va_W) : ∀ (B : va_W) (n k : Nat) (q : Nat × va_E), (mrg is zs n B)[k]? = some q → lk is zs (n + k) = some q ∨ (lk is zs (n + k) = none ∧ B[k]? = some q)
  | [], n, k, q, h => by simp [mrg] at h
  | x :: B, n, 0, q, h => by
    unfold mrg at h
    simp only [List.getElem?_cons_zero, Option.some.injEq] at h
    cases hl : lk is zs n with
    | some z => rw [hl] at h; left; simpa [hl] using h
    | none => rw [hl] at h; right; exact ⟨by first | exact hl | rfl, by simpa using h⟩
  | x :: B, n, k + 1, q, h => by
    unfold mrg at h
    simp only [List.getElem?_cons_succ] at h
    have := mrg_get is zs B (n + 1) k q h
    rw [show n + 1 + k = n + (k + 1) by omega] at this
    simpa using this
theorem mrg_len (is : List Nat) (zs : va_W) : ∀ (B : va_W) (n : Nat), (mrg is zs n B).length = B.length
  | [], n => rfl
  | x :: B, n => by simp [mrg, mrg_len is zs B (n + 1)]
theorem va_P_mem {D : va_G} {cl : List vw_C} {L : va_W} {H : Heap} : va_P D cl L H ↔ ∀ q ∈ L, va_at D cl q H := by
  constructor
  · intro h q hq
    obtain ⟨k, hk⟩ := List.getElem?_of_mem hq
    exact h k q hk
  · intro h k q hk
    exact h q (List.mem_of_getElem? hk)
theorem va_D_iff {A : Nat → Prop} {L : va_W} : va_D A L ↔ (L.map Prod.fst).Nodup ∧ ∀ q ∈ L, A q.1 := by
  constructor
  · intro h
    refine ⟨?_, fun q hq => ?_⟩
    · show List.Pairwise (· ≠ ·) (L.map Prod.fst)
      rw [List.pairwise_iff_getElem]
      intro i j hi hj hij heq
      have hi' : i < L.length := by simpa using hi
      have hj' : j < L.length := by simpa using hj
      have := h.1 i j L[i] L[j] (List.getElem?_eq_getElem hi') (List.getElem?_eq_getElem hj') (by simpa using heq)
      omega
    · obtain ⟨k, hk⟩ := List.getElem?_of_mem hq
      exact h.2 k q hk
  · intro h
    refine ⟨fun i j x y hi hj hxy => ?_, fun k q hk => h.2 q (List.mem_of_getElem? hk)⟩
    have hil := (List.getElem?_eq_some_iff.mp hi).1
    refine (List.getElem?_inj (l := L.map Prod.fst) (by simpa using hil) h.1).mp ?_
    rw [List.getElem?_map, List.getElem?_map, hi, hj]
    simp [hxy]
def Wd (D : va_G) (A : Nat → Prop) (L : va_W) (H : Heap) : Prop := va_P D vwCl L H ∧ va_D A L
theorem Wd.perm {D : va_G} {A : Nat → Prop} {L L' : va_W} {H : Heap} (h : Wd D A L H) (hp : L.Perm L') : Wd D A L' H := by
  obtain ⟨h1, h2⟩ := h
  rw [va_P_mem] at h1
  rw [va_D_iff] at h2
  exact ⟨va_P_mem.mpr fun q hq => h1 q (hp.mem_iff.mpr hq), va_D_iff.mpr ⟨(hp.map Prod.fst).nodup_iff.mp h2.1, fun q hq => h2.2 q (hp.mem_iff.mpr hq)⟩⟩
section XL
variable {p : Program} {l : Launch} {e : Env} {R : Room} {s : State} {m : MethodId} {args : Array Value} {below : List Frame} {meth : Method} {c : Code} {H : Heap} {locs : List Loc} {cells slots : Nat} {Q : State → Prop}
variable {D : va_G} {ty : Nat → ClassId} {aK aV : Nat → Nat} {own : String} {cc bytes : ByteArray} {nL maxL n index mc ms pc sz : Nat} {rc ret : Option FieldType} {y : MethodName} {rm : Room} {As rest st0 st1 : List Value} {b : Nat} {o : Option Value} {ls : Array Slot} {a : Nat} {aa : Array Value}
variable {A : Nat → Prop} {H0 : Heap} {Pc : Array Value → State → Prop} {Pst : (Nat → Prop) → Heap → Prop}
/-- a call that changes its own cells, in any world that has them; what comes back is put in their places -/
theorem vX {B X Lc Lc' B' : va_W} (C0 : Cx p s m args meth c own cc nL rc) (hM : Met l y (Cond.code y bytes maxL ret :: lw_ok) rm Pc (QM D Lc' (va_A Lc H.size) o) mc ms (va_A Lc H.size)) (hbl : FrameBlind Pc) (k1 : Cond.methodLink own index y ∈ lw_ok) (h : CalV y bytes maxL ret n) (hw : Wd D A (B ++ X) H) (hS : va_S A H0 H locs) (hA : ∀ q, H0.size ≤ q → A q)
    (isC : List Nat) (hC : isC.map (fun i => B[i]?) = Lc.map some) (hnC : va_nd isC = true) (hlen : isC.length = Lc'.length) (hB : mrg isC Lc' 0 B = B')
    (hrec : va_P D vwCl Lc H → ∃ cellB : Cell, H[b]? = some cellB ∧ cellB.vm.isStatics = false ∧ s.vm.findClass y.cls = some cellB.cls)
    (hpre : va_P D vwCl Lc H → va_D (fun _ => True) Lc → (∀ q, va_A Lc H.size q → A q) → ∀ U : State, U.heap = H → s.WarmedH U.vm → Pc (Value.ref b :: As).toArray U)
    (hR : rm.frames + 1 ≤ R.frames ∧ 8 + (maxL + 11) + rm.locals ≤ R.locals) (hrc : rm.cells = mc) (hrs : rm.slots = ms) (hn : As.length = n) (hsize : ls.size = nL) (hst : st0 = As.reverse ++ .ref b :: rest) (hW : (rest.map fun v => v.category).sum ≤ 8) (hdg : decode cc pc = .ok (.invokevirtual index, 3)) (hf : cells + mc ≤ R.cells ∧ slots + ms ≤ R.slots) (ho : o.toList ++ rest = st1)
    (kk : ∀ (H1 : Heap) (locs1 : List Loc), Wd D A (B' ++ X) H1 → va_S A H0 H1 locs1 → W p l e R s m args below meth c H1 locs1 (cells + mc) (slots + ms) Q (F0 m (pc + 3) ls st1)) : W p l e R s m args below meth c H locs cells slots Q (F0 m pc ls st0) := by
  obtain ⟨hx, hb, -, -, hml, hown, htt⟩ := C0
  obtain ⟨hP, hD⟩ := hw
  subst hB
  have hlt : ∀ i ∈ isC, i < B.length := by
    intro i hi
    have h1 : B[i]? ∈ isC.map (fun i => B[i]?) := List.mem_map.mpr ⟨i, hi, rfl⟩
    rw [hC] at h1
    obtain ⟨z, -, hz⟩ := List.mem_map.mp h1
    exact (List.getElem?_eq_some_iff.mp hz.symm).1
  have hCL : isC.map (fun i => (B ++ X)[i]?) = Lc.map some := by
    rw [← hC]
    exact List.map_congr_left fun i hi => List.getElem?_append_left (hlt i hi)
  have hPc : va_P D vwCl Lc H := hP.sub isC (by
    have h1 : isC.filterMap (fun i => (B ++ X)[i]?) = (isC.map (fun i => (B ++ X)[i]?)).filterMap id := by rw [List.filterMap_map]; rfl
    rw [h1, hCL, List.filterMap_map]
    simp)
  have hDc : va_D (fun _ => True) Lc := (hD.sub isC hnC hCL).weaken (fun _ _ _ _ => trivial)
  have hF : ∀ q, va_A Lc H.size q → A q := va_free hD hS hA isC hCL
  have hget : ∀ (k : Nat) (q : Nat × va_E), (mrg isC Lc' 0 B ++ X)[k]? = some q → (∃ j : Nat, isC[j]? = some k ∧ Lc'[j]? = some q) ∨ (k ∉ isC ∧ (B ++ X)[k]? = some q) := by
    intro k q hk
    by_cases hkl : k < B.length
    · rw [List.getElem?_append_left (by rw [mrg_len]; exact hkl)] at hk
      rw [List.getElem?_append_left hkl]
      have hg := mrg_get isC Lc' B 0 k q hk
      rw [Nat.zero_add] at hg
      rcases hg with hg | ⟨hg, hb2⟩
      · exact Or.inl (lk_some isC Lc' k q hg)
      · exact Or.inr ⟨lk_none isC Lc' k hlen hg, hb2⟩
    · rw [List.getElem?_append_right (by rw [mrg_len]; omega), mrg_len] at hk
      rw [List.getElem?_append_right (by omega)]
      exact Or.inr ⟨fun hm => hkl (hlt k hm), hk⟩
  have hr := va_runV (e := e) (below := below) (meth := meth) (locs := locs) (cells := cells) (slots := slots) (g := F0 m pc ls st0) (As := As) (rest := rest) ⟨hx, hb, hml, hown, htt⟩ hM (cwV n htt (goodV k1 h) rfl hrc hrs ⟨rfl, h.2.2.2.2⟩ hR) ⟨hbl, hrec hPc, hpre hPc hDc hF⟩ rfl hn hsize hst (lv_room hW) hdg hf
  intro T hT X0
  obtain ⟨v, st₀, t, T', L2, h0, X', hL, e1, e2, ⟨hv, hP1, hD1, hz, hk⟩, st⟩ := hr T hT X0
  cases hv
  subst ho
  rw [h0] at hz hk
  have hj := join_get hP hD isC hCL hget hk hF hP1 hD1
  obtain ⟨t2, a1, b1⟩ := kk T'.heap (locs ++ L2) (by rw [e1]; exact hj)
    ⟨Nat.le_trans hS.1 (by rw [e1]; exact hz), fun q h1 h2 => by rw [e1, hk q (Nat.lt_of_lt_of_le h1 hS.1) (fun z => h2 (hF q z))]; exact hS.2.1 q h1 h2, fun q hq => by
      rcases List.mem_append.mp hq with h | h
      · exact hS.2.2 q h
      · exact hF _ (hL q h)⟩ T' rfl X'
  exact ⟨t2, st t2 a1, b1⟩
/-- a call that gives a world of its own words (it may make cells); the rest by its places -/
theorem vP {L Lc Lr : va_W} (C0 : Cx p s m args meth c own cc nL rc) (hM : Met l y (Cond.code y bytes maxL ret :: lw_ok) rm Pc (QP Pst (va_A Lc H.size) o) mc ms (va_A Lc H.size)) (hbl : FrameBlind Pc) (k1 : Cond.methodLink own index y ∈ lw_ok) (h : CalV y bytes maxL ret n) (hw : Wd D A L H) (hS : va_S A H0 H locs) (hA : ∀ q, H0.size ≤ q → A q) (hperm : L.Perm (Lc ++ Lr))
    (hrec : va_P D vwCl Lc H → ∃ cellB : Cell, H[b]? = some cellB ∧ cellB.vm.isStatics = false ∧ s.vm.findClass y.cls = some cellB.cls)
    (hpre : va_P D vwCl Lc H → va_D (fun _ => True) Lc → ∀ U : State, U.heap = H → s.WarmedH U.vm → Pc (Value.ref b :: As).toArray U)
    (hR : rm.frames + 1 ≤ R.frames ∧ 8 + (maxL + 11) + rm.locals ≤ R.locals) (hrc : rm.cells = mc) (hrs : rm.slots = ms) (hn : As.length = n) (hsize : ls.size = nL) (hst : st0 = As.reverse ++ .ref b :: rest) (hW : (rest.map fun v => v.category).sum ≤ 8) (hdg : decode cc pc = .ok (.invokevirtual index, 3)) (hf : cells + mc ≤ R.cells ∧ slots + ms ≤ R.slots) (ho : o.toList ++ rest = st1)
    (kk : ∀ (H1 : Heap) (locs1 : List Loc), Pst (va_A Lc H.size) H1 → (∀ w1 : va_W, va_P D vwCl w1 H1 → va_D (va_A Lc H.size) w1 → Wd D A (Lr ++ w1) H1) → va_S A H0 H1 locs1 → W p l e R s m args below meth c H1 locs1 (cells + mc) (slots + ms) Q (F0 m (pc + 3) ls st1)) : W p l e R s m args below meth c H locs cells slots Q (F0 m pc ls st0) := by
  obtain ⟨hx, hb, -, -, hml, hown, htt⟩ := C0
  obtain ⟨hP, hD⟩ := hw.perm hperm
  have mc1 : ∀ q ∈ Lc, q ∈ Lc ++ Lr := fun q hq => List.mem_append_left _ hq
  have hPc : va_P D vwCl Lc H := va_P_mem.mpr fun q hq => va_P_mem.mp hP q (mc1 q hq)
  have hDn := va_D_iff.mp hD
  have hDc : va_D (fun _ => True) Lc := va_D_iff.mpr ⟨by have := hDn.1; rw [List.map_append] at this; exact (List.nodup_append.mp this).1, fun _ _ => trivial⟩
  have hF : ∀ q, va_A Lc H.size q → A q := by
    intro q hq
    rcases hq with ⟨k, z, hk⟩ | hq
    · exact hDn.2 (q, z) (mc1 _ (List.mem_of_getElem? hk))
    · exact hA q (Nat.le_trans hS.1 hq)
  have hr := va_runV (e := e) (below := below) (meth := meth) (locs := locs) (cells := cells) (slots := slots) (g := F0 m pc ls st0) (As := As) (rest := rest) ⟨hx, hb, hml, hown, htt⟩ hM (cwV n htt (goodV k1 h) rfl hrc hrs ⟨rfl, h.2.2.2.2⟩ hR) ⟨hbl, hrec hPc, hpre hPc hDc⟩ rfl hn hsize hst (lv_room hW) hdg hf
  intro T hT X
  obtain ⟨v, st₀, t, T', L2, h0, X', hL, e1, e2, ⟨hv, hP1, hz, hk⟩, st⟩ := hr T hT X
  cases hv
  subst ho
  rw [h0] at hz hk
  have apart : ∀ q ∈ Lr, q.1 < H.size ∧ ¬ va_A Lc H.size q.1 := by
    intro q hq
    have hl := (va_P_mem.mp hP q (List.mem_append_right _ hq)).lt
    refine ⟨hl, fun hz => ?_⟩
    rcases hz with ⟨k, z, hk⟩ | hz
    · have hnd := hDn.1
      rw [List.map_append] at hnd
      exact (List.nodup_append.mp hnd).2.2 q.1 (List.mem_map.mpr ⟨(q.1, z), List.mem_of_getElem? hk, rfl⟩) q.1 (List.mem_map.mpr ⟨q, hq, rfl⟩) rfl
    · omega
  obtain ⟨t2, a1, b1⟩ := kk T'.heap (locs ++ L2) (by rw [e1]; exact hP1)
    (fun w1 hw1 hd1 => by
      rw [e1] at hw1 ⊢
      refine ⟨va_P_mem.mpr fun q hq => ?_, va_D_iff.mpr ⟨?_, fun q hq => ?_⟩⟩
      · rcases List.mem_append.mp hq with hq | hq
        · exact (va_P_mem.mp hP q (List.mem_append_right _ hq)).kept (hk q.1 (apart q hq).1 (apart q hq).2)
        · exact va_P_mem.mp hw1 q hq
      · rw [List.map_append, List.nodup_append]
        have hnd := hDn.1
        rw [List.map_append] at hnd
        refine ⟨(List.nodup_append.mp hnd).2.1, (va_D_iff.mp hd1).1, fun x hx y hy hxy => ?_⟩
        obtain ⟨q, hq, rfl⟩ := List.mem_map.mp hx
        obtain ⟨q2, hq2, rfl⟩ := List.mem_map.mp hy
        exact (apart q hq).2 (by rw [hxy]; exact (va_D_iff.mp hd1).2 q2 hq2)
      · rcases List.mem_append.mp hq with hq | hq
        · exact hDn.2 q (List.mem_append_right _ hq)
        · exact hF _ ((va_D_iff.mp hd1).2 q hq))
    ⟨Nat.le_trans hS.1 (by rw [e1]; exact hz), fun q h1 h2 => by rw [e1, hk q (Nat.lt_of_lt_of_le h1 hS.1) (fun z => h2 (hF q z))]; exact hS.2.1 q h1 h2, fun q hq => by
      rcases List.mem_append.mp hq with h | h
      · exact hS.2.2 q h
      · exact hF _ (hL q h)⟩ T' rfl X'
  exact ⟨t2, st t2 a1, b1⟩
end XL
theorem range_fm {α : Type} (B : List α) : (List.range B.length).filterMap (fun i => B[i]?) = B := by
  have h1 : (List.range B.length).map (fun i => B[i]?) = B.map some := by
    apply List.ext_getElem?
    intro k
    rw [List.getElem?_map, List.getElem?_map]
    by_cases hk : k < B.length
    · rw [List.getElem?_range hk, List.getElem?_eq_getElem hk]; simp [hk]
    · rw [List.getElem?_eq_none (by simpa using hk), List.getElem?_eq_none (by simpa using hk)]; rfl
  have h2 : (List.range B.length).filterMap (fun i => B[i]?) = ((List.range B.length).map (fun i => B[i]?)).filterMap id := by rw [List.filterMap_map]; rfl
  rw [h2, h1, List.filterMap_map]
  simp
theorem permP {B Lc Lr X : va_W} (n : Nat) (is js : List Nat) (hn : B.length = n) (hp : (is ++ js).isPerm (List.range n) = true) (h1 : is.filterMap (fun i => B[i]?) = Lc) (h2 : js.filterMap (fun i => B[i]?) = Lr) : (B ++ X).Perm (Lc ++ (Lr ++ X)) := by
  subst hn
  have h3 : B.Perm (Lc ++ Lr) := by
    have h4 := (List.isPerm_iff.mp hp).filterMap (fun i => B[i]?)
    rw [List.filterMap_append, h1, h2, range_fm] at h4
    exact h4.symm
  rw [← List.append_assoc]
  exact h3.append_right X
theorem pmA {B P O Z : va_W} : (B ++ (P ++ (O ++ Z))).Perm ((B ++ O) ++ (P ++ Z)) := by
  rw [List.append_assoc]
  exact List.Perm.append_left B (List.perm_append_comm_assoc P O Z)
theorem pmB {B P O Z : va_W} : (B ++ (P ++ (Z ++ O))).Perm ((B ++ O) ++ (P ++ Z)) := by
  rw [List.append_assoc, ← List.append_assoc P Z O]
  exact List.Perm.append_left B List.perm_append_comm
theorem permQ {D : va_G} {A : Nat → Prop} {H : Heap} {B Lc Lr X : va_W} (n : Nat) (is js : List Nat) (hn : B.length = n) (hp : (is ++ js).isPerm (List.range n) = true) (h1 : is.filterMap (fun i => B[i]?) = Lc) (h2 : js.filterMap (fun i => B[i]?) = Lr) (hw : Wd D A ((Lr ++ X) ++ Lc) H) : Wd D A (B ++ X) H :=
  hw.perm (List.perm_append_comm.trans (permP n is js hn hp h1 h2).symm)
