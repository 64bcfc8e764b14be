/-! the five words: String constants, read through the JDK's own methods -/
def lenS : List Nat := [5, 4, 3, 5, 3]
def bytS : List (List Int32) := [[104, 111, 117, 115, 101], [114, 97, 116, 101], [98, 97, 114], [100, 111, 105, 110, 103], [119, 97, 114]]
def TX (aK aV : Nat → Nat) (A : Nat → Prop) (U : State) (H : Heap) : Prop :=
  vk_S 5 lenS bytS aK aV A U H ∧ va_Z "java/lang/String" "COMPACT_STRINGS" "Z" (.int 1) A U H ∧ va_Zq "jdk/internal/util/Preconditions" "SIOOBE_FORMATTER" "Ljava/util/function/BiFunction;" A U H ∧
  vk_R "BedFrontier$Reader" 45 "house" (aK 0) U ∧ vk_R "BedFrontier$Reader" 55 "rate" (aK 1) U ∧ vk_R "BedFrontier$Reader" 60 "bar" (aK 2) U ∧ vk_R "BedFrontier$Reader" 65 "doing" (aK 3) U ∧ vk_R "BedFrontier$Reader" 70 "war" (aK 4) U
theorem TX.warm {aK aV : Nat → Nat} {A : Nat → Prop} {s U : State} {H : Heap} (hW : s.WarmedH U.vm) (h : TX aK aV A s H) : TX aK aV A U H := by
  obtain ⟨h1, h2, h3, r0, r1, r2, r3, r4⟩ := h
  exact ⟨h1.moved hW.alike, h2.moved hW.alike, h3.moved hW.alike, r0.warm hW, r1.warm hW, r2.warm hW, r3.warm hW, r4.warm hW⟩
theorem TX.same {aK aV : Nat → Nat} {A : Nat → Prop} {s U : State} {H : Heap} (hv : s.vm = U.vm) (h : TX aK aV A s H) : TX aK aV A U H := by
  have ha : s.vm.Alike U.vm := by rw [hv]; exact Vm.Alike.refl U.vm
  obtain ⟨h1, h2, h3, r0, r1, r2, r3, r4⟩ := h
  exact ⟨h1.moved ha, h2.moved ha, h3.moved ha, r0.same hv.symm, r1.same hv.symm, r2.same hv.symm, r3.same hv.symm, r4.same hv.symm⟩
theorem TX.kept {aK aV : Nat → Nat} {A : Nat → Prop} {U : State} {H H1 : Heap} (h : TX aK aV A U H) (hq : ∀ a : Nat, a < H.size → ¬ A a → H1[a]? = H[a]?) : TX aK aV A U H1 := by
  obtain ⟨h1, h2, h3, r⟩ := h
  exact ⟨h1.kept hq, h2.kept hq, h3.kept hq, r⟩
theorem TX.narrow {aK aV : Nat → Nat} {A B : Nat → Prop} {U : State} {H : Heap} (h : TX aK aV A U H) (hq : ∀ q, B q → A q) : TX aK aV B U H := by
  obtain ⟨h1, h2, h3, r⟩ := h
  exact ⟨h1.narrow hq, h2.narrow hq, h3.narrow hq, r⟩
def PcT (D : va_G) (ty : Nat → ClassId) (aK aV : Nat → Nat) (av : List Value) (L : va_W) : Array Value → State → Prop := fun v U => v = av.toArray ∧ va_P D vwCl L U.heap ∧ KK D ty U ∧ TX aK aV (fun _ => False) U U.heap
def PcMT (D : va_G) (ty : Nat → ClassId) (aK aV : Nat → Nat) (av : List Value) (sz : Nat) (L : va_W) : Array Value → State → Prop := fun v U => v = av.toArray ∧ U.heap.size = sz ∧ va_P D vwCl L U.heap ∧ KK D ty U ∧ va_D (fun _ => True) L ∧ TX aK aV (va_A L sz) U U.heap
theorem PcT.blind {D : va_G} {ty : Nat → ClassId} {aK aV : Nat → Nat} {av : List Value} {L : va_W} : FrameBlind (PcT D ty aK aV av L) := fun _ U g mk h => ⟨h.1, h.2.1, KK.same (s := U) rfl h.2.2.1, TX.same (s := U) rfl h.2.2.2⟩
theorem PcMT.blind {D : va_G} {ty : Nat → ClassId} {aK aV : Nat → Nat} {av : List Value} {sz : Nat} {L : va_W} : FrameBlind (PcMT D ty aK aV av sz L) := fun _ U g mk h => ⟨h.1, h.2.1, h.2.2.1, KK.same (s := U) rfl h.2.2.2.1, h.2.2.2.2.1, TX.same (s := U) rfl h.2.2.2.2.2⟩
theorem hdT {l : Launch} {y : MethodName} {rm : Room} {D : va_G} {ty : Nat → ClassId} {aK aV : Nat → Nat} {av : List Value} {L : va_W} {o : Option Value} {cc : ByteArray} {maxL : Nat} {ret : Option FieldType} (hy : plainName y.cls = true) (hlen : (lg_sl av).length ≤ maxL)
    (body : ∀ (p : Program) (e : Env) (s : State) (m : MethodId) (below : List Frame) (meth : Method) (c : Code) (ls : Array Slot) (R : Room) (args : Array Value) (Q : State → Prop), Cx p s m args meth c y.cls cc maxL ret → R = rm → Q = MQ below (QR o) args s 0 0 (fun _ => False) → va_P D vwCl L s.heap → KK D ty s → TX aK aV (fun _ => False) s s.heap → lv_has ls maxL (lv_args 0 av) →
      W p l e R s m args below meth c s.heap [] 0 0 Q (F0 m 0 ls [])) :
    Met l y (Cond.code y cc maxL ret :: lw_ok) rm (PcT D ty aK aV av L) (QR o) 0 0 (fun _ => False) := by
  refine Met.ofW (cc := cc) (maxL := maxL) (ret := ret) hy rfl ?_
  intro p e s m args below meth c s₁ B hml hv
  obtain ⟨rfl, hP, hK, hT⟩ := hv
  have hts := atoms_spec (ws := Cond.code y cc maxL ret :: lw_ok) B.pre
  rw [lg_entry_eq]
  exact body p e s m below meth c _ _ _ _ ⟨B.exec, B.bytes, B.returns, B.notSynchronized, hml, findClass_of_methodNamed B.named, fun w h => hts w (List.mem_cons_of_mem _ h)⟩ rfl rfl hP hK hT (lv_entry av hlen)
theorem hdMT {l : Launch} {y : MethodName} {rm : Room} {D : va_G} {ty : Nat → ClassId} {aK aV : Nat → Nat} {av : List Value} {sz mc ms : Nat} {L L' : va_W} {o : Option Value} {cc : ByteArray} {maxL : Nat} {ret : Option FieldType} (hy : plainName y.cls = true) (hlen : (lg_sl av).length ≤ maxL)
    (body : ∀ (p : Program) (e : Env) (s : State) (m : MethodId) (below : List Frame) (meth : Method) (c : Code) (ls : Array Slot) (R : Room) (args : Array Value) (Q : State → Prop) (A : Nat → Prop), Cx p s m args meth c y.cls cc maxL ret → R = rm → Q = MQ below (QM D L' A o) args s mc ms A → meth.name = y.name → (∀ q : Nat, s.heap.size ≤ q → A q) → va_P D vwCl L s.heap → KK D ty s → va_D A L → va_S A s.heap s.heap [] → TX aK aV A s s.heap → lv_has ls maxL (lv_args 0 av) →
      W p l e R s m args below meth c s.heap [] 0 0 Q (F0 m 0 ls [])) :
    Met l y (Cond.code y cc maxL ret :: lw_ok) rm (PcMT D ty aK aV av sz L) (QM D L' (va_A L sz) o) mc ms (va_A L sz) := by
  refine Met.ofW (cc := cc) (maxL := maxL) (ret := ret) hy rfl ?_
  intro p e s m args below meth c s₁ B hml hv
  obtain ⟨rfl, hsz, hP, hK, hD0, hT⟩ := hv
  subst hsz
  have hts := atoms_spec (ws := Cond.code y cc maxL ret :: lw_ok) B.pre
  rw [lg_entry_eq]
  exact body p e s m below meth c _ _ _ _ _ ⟨B.exec, B.bytes, B.returns, B.notSynchronized, hml, findClass_of_methodNamed B.named, fun w h => hts w (List.mem_cons_of_mem _ h)⟩ rfl rfl (name_of_methodNamed B.named B.method).1 (fun q h => Or.inr h) hP hK (hD0.self) va_S.rf hT (lv_entry av hlen)
section XT
variable {p : Program} {l : Launch} {e : Env} {R : Room} {s : State} {m : MethodId} {args : Array Value} {below : List Frame} {meth : Method} {c : Code} {H : Heap} {locs : List Loc} {cells slots : Nat} {Q : State → Prop}
variable {D : va_G} {ty : Nat → ClassId} {aK aV : Nat → Nat} {own : String} {cc bytes : ByteArray} {nL maxL n index mc ms pc sz : Nat} {rc ret : Option FieldType} {y : MethodName} {rm : Room} {As rest st0 st1 : List Value} {b : Nat} {o : Option Value} {ls : Array Slot} {a : Nat}
variable {A : Nat → Prop} {H0 : Heap} {Pc : Array Value → State → Prop}
theorem gvR (C0 : Cx p s m args meth c own cc nL rc) (hM : Met l y (Cond.code y bytes maxL ret :: lw_ok) rm Pc (QR o) 0 0 (fun _ => False)) (hbl : FrameBlind Pc) (k1 : Cond.methodLink own index y ∈ lw_ok) (h : CalV y bytes maxL ret n) (hrec : ∃ cellB : Cell, H[b]? = some cellB ∧ cellB.vm.isStatics = false ∧ s.vm.findClass y.cls = some cellB.cls) (hpre : ∀ U : State, U.heap = H → s.WarmedH U.vm → Pc (Value.ref b :: As).toArray U)
    (hR : rm.frames + 1 ≤ R.frames ∧ 8 + (maxL + 11) + rm.locals ≤ R.locals) (hrc : rm.cells = 0) (hrs : rm.slots = 0) (hn : As.length = n) (hsize : ls.size = nL) (hst : st0 = As.reverse ++ .ref b :: rest) (hW : (rest.map fun v => v.category).sum ≤ 8) (hdg : decode cc pc = .ok (.invokevirtual index, 3)) (hf : cells ≤ R.cells ∧ slots ≤ R.slots) (ho : o.toList ++ rest = st1)
    (kk : W p l e R s m args below meth c H locs cells slots Q (F0 m (pc + 3) ls st1)) : W p l e R s m args below meth c H locs cells slots Q (F0 m pc ls st0) := by
  obtain ⟨hx, hb, -, -, hml, hown, htt⟩ := C0
  exact backR (va_runV (As := As) (rest := rest) ⟨hx, hb, hml, hown, htt⟩ hM (cwV n htt (goodV k1 h) rfl hrc hrs ⟨rfl, h.2.2.2.2⟩ hR) ⟨hbl, hrec, hpre⟩ rfl hn hsize hst (lv_room hW) hdg hf) ho kk
theorem gsR (C0 : Cx p s m args meth c own cc nL rc) (hM : Met l y (Cond.code y bytes maxL ret :: lw_ok) rm Pc (QR o) 0 0 (fun _ => False)) (hbl : FrameBlind Pc) (k1 : Cond.methodLink own index y ∈ lw_ok) (h : CalS y bytes maxL ret n) (hpre : ∀ U : State, U.heap = H → s.WarmedH U.vm → Pc As.toArray U)
    (hR : rm.frames + 1 ≤ R.frames ∧ 8 + (maxL + 11) + rm.locals ≤ R.locals) (hrc : rm.cells = 0) (hrs : rm.slots = 0) (hn : As.length = n) (hsize : ls.size = nL) (hst : st0 = As.reverse ++ rest) (hW : (rest.map fun v => v.category).sum ≤ 8) (hdg : decode cc pc = .ok (.invokestatic index, 3)) (hf : cells ≤ R.cells ∧ slots ≤ R.slots) (ho : o.toList ++ rest = st1)
    (kk : W p l e R s m args below meth c H locs cells slots Q (F0 m (pc + 3) ls st1)) : W p l e R s m args below meth c H locs cells slots Q (F0 m pc ls st0) := by
  obtain ⟨hx, hb, -, -, hml, hown, htt⟩ := C0
  exact backR (va_runS (As := As) (rest := rest) ⟨hx, hb, hml, hown, htt⟩ hM (va_cwS n htt (goodS k1 h) rfl hrc hrs h.2.2.2 hR) ⟨hbl, hpre⟩ rfl hn hsize hst (lv_room hW) hdg hf) ho kk
theorem retRv (C0 : Cx p s m args meth c own cc nL none) (hQ : Q = MQ below (QR none) args s 0 0 (fun _ => False)) (hdg : decode cc pc = .ok (.return_, 1)) : W p l e R s m args below meth c s.heap [] 0 0 Q (F0 m pc ls []) := by
  obtain ⟨hx, hb, hr, hlk, -⟩ := C0
  subst hQ
  exact W.vret hx hb hr (fun t ht hW => ⟨rfl, ht⟩) (fun q hq => by cases hq) hdg
/-- a call that reads, on cells of ours, and the words -/
theorem tvR {Lc : va_W} {q0 ci : Nat} {q : vw_C} {fs : List Value} (C0 : Cx p s m args meth c own cc nL rc) (hM : Met l y (Cond.code y bytes maxL ret :: lw_ok) rm (PcT D ty aK aV (.ref b :: As) Lc) (QR o) 0 0 (fun _ => False)) (k1 : Cond.methodLink own index y ∈ lw_ok) (h : CalV y bytes maxL ret n) (hK : KK D ty s) (hT : TX aK aV A s H) (hP : va_P D vwCl Lc H) (hc : vwCl[ci]? = some q) (he : Lc[q0]? = some (b, .inr (ci, fs))) (hq : q.1 = y.cls)
    (hR : rm.frames + 1 ≤ R.frames ∧ 8 + (maxL + 11) + rm.locals ≤ R.locals) (hrc : rm.cells = 0) (hrs : rm.slots = 0) (hn : As.length = n) (hsize : ls.size = nL) (hst : st0 = As.reverse ++ .ref b :: rest) (hW : (rest.map fun v => v.category).sum ≤ 8) (hdg : decode cc pc = .ok (.invokevirtual index, 3)) (hf : cells ≤ R.cells ∧ slots ≤ R.slots) (ho : o.toList ++ rest = st1)
    (kk : W p l e R s m args below meth c H locs cells slots Q (F0 m (pc + 3) ls st1)) : W p l e R s m args below meth c H locs cells slots Q (F0 m pc ls st0) :=
  gvR C0 hM PcT.blind k1 h (by rw [← hq]; exact va_recv hK.1 hP hc he) (fun U hU hW => ⟨rfl, by rw [hU]; exact hP, hK.warm hW, by rw [hU]; exact (hT.narrow (fun _ h => h.elim)).warm hW⟩) hR hrc hrs hn hsize hst hW hdg hf ho kk
theorem tvM {L Lc Lc' L' : va_W} {q0 ci : Nat} {q : vw_C} {fs : List Value} (C0 : Cx p s m args meth c own cc nL rc) (hM : Met l y (Cond.code y bytes maxL ret :: lw_ok) rm (PcMT D ty aK aV (.ref b :: As) H.size Lc) (QM D Lc' (va_A Lc H.size) o) mc ms (va_A Lc H.size)) (k1 : Cond.methodLink own index y ∈ lw_ok) (h : CalV y bytes maxL ret n) (hK : KK D ty s) (hT : TX aK aV A s H) (hP : va_P D vwCl L H) (hD : va_D A L) (hS : va_S A H0 H locs) (hA : ∀ q, H0.size ≤ q → A q)
    (isC isR pm : List Nat) (Lr : va_W) (hC : isC.map (fun i => L[i]?) = Lc.map some) (hRr : isR.map (fun i => L[i]?) = Lr.map some) (hnC : va_nd isC = true) (hnR : va_nd isR = true) (hdis : isR.all (fun i => !(isC.contains i)) = true) (hpn : va_nd pm = true) (hpm : pm.map (fun i => (Lr ++ Lc')[i]?) = L'.map some)
    (hc : vwCl[ci]? = some q) (he : Lc[q0]? = some (b, .inr (ci, fs))) (hq : q.1 = y.cls)
    (hR : rm.frames + 1 ≤ R.frames ∧ 8 + (maxL + 11) + rm.locals ≤ R.locals) (hrc : rm.cells = mc) (hrs : rm.slots = ms) (hn : As.length = n) (hsize : ls.size = nL) (hst : st0 = As.reverse ++ .ref b :: rest) (hW : (rest.map fun v => v.category).sum ≤ 8) (hdg : decode cc pc = .ok (.invokevirtual index, 3)) (hf : cells + mc ≤ R.cells ∧ slots + ms ≤ R.slots) (ho : o.toList ++ rest = st1)
    (kk : ∀ (H1 : Heap) (locs1 : List Loc), va_P D vwCl L' H1 → va_D A L' → va_S A H0 H1 locs1 → W p l e R s m args below meth c H1 locs1 (cells + mc) (slots + ms) Q (F0 m (pc + 3) ls st1)) : W p l e R s m args below meth c H locs cells slots Q (F0 m pc ls st0) := by
  obtain ⟨hx, hb, -, -, hml, hown, htt⟩ := C0
  have hPc : va_P D vwCl Lc H := hP.sub isC (by
    have h1 : isC.filterMap (fun i => L[i]?) = (isC.map (fun i => L[i]?)).filterMap id := by rw [List.filterMap_map]; rfl
    rw [h1, hC, List.filterMap_map]
    simp)
  have hDc : va_D (fun _ => True) Lc := (hD.sub isC hnC hC).weaken (fun _ _ _ _ => trivial)
  exact backM (va_runV (As := As) (rest := rest) ⟨hx, hb, hml, hown, htt⟩ hM (cwV n htt (goodV k1 h) rfl hrc hrs ⟨rfl, h.2.2.2.2⟩ hR) ⟨PcMT.blind, by rw [← hq]; exact va_recv hK.1 hPc hc he, fun U hU hW => ⟨rfl, by rw [hU], by rw [hU]; exact hPc, hK.warm hW, hDc, by rw [hU]; exact (hT.narrow (va_free hD hS hA isC hC)).warm hW⟩⟩ rfl hn hsize hst (lv_room hW) hdg hf) hP hD hS hA isC isR pm Lr hC hRr hnR hdis hpn hpm ho kk
end XT
abbrev yj_coder : MethodName := ⟨"java/lang/String", "coder", "()B"⟩
theorem dj_coder_0 : decode prog_15_method_152_code 0 = .ok (.getstatic 38, 3) := by decide +kernel
theorem dj_coder_3 : decode prog_15_method_152_code 3 = .ok (.ifCond .eq 10, 3) := by decide +kernel
theorem dj_coder_6 : decode prog_15_method_152_code 6 = .ok (.aload_n 0, 1) := by decide +kernel
theorem dj_coder_7 : decode prog_15_method_152_code 7 = .ok (.getfield 15, 3) := by decide +kernel
theorem dj_coder_10 : decode prog_15_method_152_code 10 = .ok (.goto 4, 3) := by decide +kernel
theorem dj_coder_13 : decode prog_15_method_152_code 13 = .ok (.iconst 1, 1) := by decide +kernel
theorem dj_coder_14 : decode prog_15_method_152_code 14 = .ok (.ireturn, 1) := by decide +kernel
theorem calj_coder : CalV yj_coder prog_15_method_152_code 1 ((Option.some FieldType.byte)) 0 := ⟨k_312, k_313, k_12, k_314, by decide, by decide, by decide +kernel⟩
abbrev yj_isLatin1 : MethodName := ⟨"java/lang/String", "isLatin1", "()Z"⟩
theorem dj_isLatin1_0 : decode prog_15_method_154_code 0 = .ok (.getstatic 38, 3) := by decide +kernel
theorem dj_isLatin1_3 : decode prog_15_method_154_code 3 = .ok (.ifCond .eq 14, 3) := by decide +kernel
theorem dj_isLatin1_6 : decode prog_15_method_154_code 6 = .ok (.aload_n 0, 1) := by decide +kernel
theorem dj_isLatin1_7 : decode prog_15_method_154_code 7 = .ok (.getfield 15, 3) := by decide +kernel
theorem dj_isLatin1_10 : decode prog_15_method_154_code 10 = .ok (.ifCond .ne 7, 3) := by decide +kernel
theorem dj_isLatin1_13 : decode prog_15_method_154_code 13 = .ok (.iconst 1, 1) := by decide +kernel
theorem dj_isLatin1_14 : decode prog_15_method_154_code 14 = .ok (.goto 4, 3) := by decide +kernel
theorem dj_isLatin1_17 : decode prog_15_method_154_code 17 = .ok (.iconst 0, 1) := by decide +kernel
theorem dj_isLatin1_18 : decode prog_15_method_154_code 18 = .ok (.ireturn, 1) := by decide +kernel
theorem calj_isLatin1 : CalV yj_isLatin1 prog_15_method_154_code 1 ((Option.some FieldType.boolean)) 0 := ⟨k_322, k_323, k_12, k_324, by decide, by decide, by decide +kernel⟩
abbrev yj_length : MethodName := ⟨"java/lang/String", "length", "()I"⟩
theorem dj_length_0 : decode prog_15_method_54_code 0 = .ok (.aload_n 0, 1) := by decide +kernel
theorem dj_length_1 : decode prog_15_method_54_code 1 = .ok (.getfield 9, 3) := by decide +kernel
theorem dj_length_4 : decode prog_15_method_54_code 4 = .ok (.arraylength, 1) := by decide +kernel
theorem dj_length_5 : decode prog_15_method_54_code 5 = .ok (.aload_n 0, 1) := by decide +kernel
theorem dj_length_6 : decode prog_15_method_54_code 6 = .ok (.invokevirtual 335, 3) := by decide +kernel
theorem dj_length_9 : decode prog_15_method_54_code 9 = .ok (.ishr, 1) := by decide +kernel
theorem dj_length_10 : decode prog_15_method_54_code 10 = .ok (.ireturn, 1) := by decide +kernel
theorem calj_length : CalV yj_length prog_15_method_54_code 1 ((Option.some FieldType.int)) 0 := ⟨k_308, k_309, k_12, k_310, by decide, by decide, by decide +kernel⟩
abbrev yj_charAt : MethodName := ⟨"java/lang/String", "charAt", "(I)C"⟩
theorem dj_charAt_0 : decode prog_15_method_56_code 0 = .ok (.aload_n 0, 1) := by decide +kernel
theorem dj_charAt_1 : decode prog_15_method_56_code 1 = .ok (.invokevirtual 492, 3) := by decide +kernel
theorem dj_charAt_4 : decode prog_15_method_56_code 4 = .ok (.ifCond .eq 12, 3) := by decide +kernel
theorem dj_charAt_7 : decode prog_15_method_56_code 7 = .ok (.aload_n 0, 1) := by decide +kernel
theorem dj_charAt_8 : decode prog_15_method_56_code 8 = .ok (.getfield 9, 3) := by decide +kernel
theorem dj_charAt_11 : decode prog_15_method_56_code 11 = .ok (.iload_n 1, 1) := by decide +kernel
theorem dj_charAt_12 : decode prog_15_method_56_code 12 = .ok (.invokestatic 495, 3) := by decide +kernel
theorem dj_charAt_15 : decode prog_15_method_56_code 15 = .ok (.ireturn, 1) := by decide +kernel
theorem calj_charAt : CalV yj_charAt prog_15_method_56_code 2 ((Option.some FieldType.char)) 1 := ⟨k_318, k_319, k_12, k_320, by decide, by decide, by decide +kernel⟩
abbrev yj_lat : MethodName := ⟨"java/lang/StringLatin1", "charAt", "([BI)C"⟩
theorem dj_lat_0 : decode prog_16_method_2_code 0 = .ok (.iload_n 1, 1) := by decide +kernel
theorem dj_lat_1 : decode prog_16_method_2_code 1 = .ok (.aload_n 0, 1) := by decide +kernel
theorem dj_lat_2 : decode prog_16_method_2_code 2 = .ok (.arraylength, 1) := by decide +kernel
theorem dj_lat_3 : decode prog_16_method_2_code 3 = .ok (.invokestatic 9, 3) := by decide +kernel
theorem dj_lat_6 : decode prog_16_method_2_code 6 = .ok (.aload_n 0, 1) := by decide +kernel
theorem dj_lat_7 : decode prog_16_method_2_code 7 = .ok (.iload_n 1, 1) := by decide +kernel
theorem dj_lat_8 : decode prog_16_method_2_code 8 = .ok (.baload, 1) := by decide +kernel
theorem dj_lat_9 : decode prog_16_method_2_code 9 = .ok (.sipush 255, 3) := by decide +kernel
theorem dj_lat_12 : decode prog_16_method_2_code 12 = .ok (.iand, 1) := by decide +kernel
theorem dj_lat_13 : decode prog_16_method_2_code 13 = .ok (.i2c, 1) := by decide +kernel
theorem dj_lat_14 : decode prog_16_method_2_code 14 = .ok (.ireturn, 1) := by decide +kernel
theorem calj_lat : CalS yj_lat prog_16_method_2_code 2 ((Option.some FieldType.char)) 2 := ⟨k_326, k_13, k_327, by decide, by decide, by decide +kernel⟩
abbrev yj_check : MethodName := ⟨"java/lang/String", "checkIndex", "(II)V"⟩
theorem dj_check_0 : decode prog_15_method_155_code 0 = .ok (.iload_n 0, 1) := by decide +kernel
theorem dj_check_1 : decode prog_15_method_155_code 1 = .ok (.iload_n 1, 1) := by decide +kernel
theorem dj_check_2 : decode prog_15_method_155_code 2 = .ok (.getstatic 1053, 3) := by decide +kernel
theorem dj_check_5 : decode prog_15_method_155_code 5 = .ok (.invokestatic 1059, 3) := by decide +kernel
theorem dj_check_8 : decode prog_15_method_155_code 8 = .ok (.pop, 1) := by decide +kernel
theorem dj_check_9 : decode prog_15_method_155_code 9 = .ok (.return_, 1) := by decide +kernel
theorem calj_check : CalS yj_check prog_15_method_155_code 2 none 2 := ⟨k_329, k_12, k_330, by decide, by decide, by decide +kernel⟩
abbrev yj_pre : MethodName := ⟨"jdk/internal/util/Preconditions", "checkIndex", "(IILjava/util/function/BiFunction;)I"⟩
theorem dj_pre_0 : decode prog_19_method_11_code 0 = .ok (.iload_n 0, 1) := by decide +kernel
theorem dj_pre_1 : decode prog_19_method_11_code 1 = .ok (.ifCond .lt 8, 3) := by decide +kernel
theorem dj_pre_4 : decode prog_19_method_11_code 4 = .ok (.iload_n 0, 1) := by decide +kernel
theorem dj_pre_5 : decode prog_19_method_11_code 5 = .ok (.iload_n 1, 1) := by decide +kernel
theorem dj_pre_6 : decode prog_19_method_11_code 6 = .ok (.if_icmp .lt 10, 3) := by decide +kernel
theorem dj_pre_16 : decode prog_19_method_11_code 16 = .ok (.iload_n 0, 1) := by decide +kernel
theorem dj_pre_17 : decode prog_19_method_11_code 17 = .ok (.ireturn, 1) := by decide +kernel
theorem calj_pre : CalS yj_pre prog_19_method_11_code 3 ((Option.some FieldType.int)) 3 := ⟨k_334, k_14, k_335, by decide, by decide, by decide +kernel⟩
def strL (i : Nat) : Int32 := (Int32.ofNat (lenS.getD i 0)) >>> ((0 : Int32) &&& 31)
def strC (i : Nat) (k : Int32) : Int32 := ((((bytS.getD i []).getD k.toNatClampNeg 0) &&& (255 : Int32)).toUInt32 % 65536).toInt32
set_option maxHeartbeats 4000000 in
theorem cj_coder (l : Launch) (D : va_G) (ty : Nat → ClassId) (aK aV : Nat → Nat) (i : Nat) (hi : i < 5) : Met l yj_coder (Cond.code yj_coder prog_15_method_152_code 1 (some .byte) :: lw_ok) { frames := 0, cells := 0, slots := 0, locals := 0 } (PcT D ty aK aV [.ref (aK i)] ([] : va_W)) (QR (some (.int 0))) 0 0 (fun _ => False) := by
  refine hdT (by decide) (Nat.le_of_ble_eq_true rfl) ?_
  intro p e s m below meth c ls R args Q C0 hR hQ hP hK hT hl
  obtain ⟨hx, hb, hr, hlk, hml, hown, htt⟩ := id C0
  have hl : lv_has ls 1 [(0, .ref (aK i))] := hl
  refine va_gets hx hb hT.2.1 va_S.rf hown (htt _ k_315) (fun _ h9 => h9) dj_coder_0 ?_
  refine lv_if_eq (tgt := 13) hx hb dj_coder_3 (by decide) (fun q => absurd q (by decide)) (fun _ => ?_)
  refine lv_aload_n hx hb dj_coder_6 rfl (lv_at hl 0 rfl) ?_
  refine vk_getf hx hb (hT.1.1 i hi).2.1 va_S.rf hown (htt _ k_1135) (fun _ h9 => h9) dj_coder_7 ?_
  refine lv_goto (tgt := 14) hx hb dj_coder_10 (by decide) ?_
  exact retR C0 rfl hQ dj_coder_14
set_option maxHeartbeats 4000000 in
theorem cj_isLatin1 (l : Launch) (D : va_G) (ty : Nat → ClassId) (aK aV : Nat → Nat) (i : Nat) (hi : i < 5) : Met l yj_isLatin1 (Cond.code yj_isLatin1 prog_15_method_154_code 1 (some .boolean) :: lw_ok) { frames := 0, cells := 0, slots := 0, locals := 0 } (PcT D ty aK aV [.ref (aK i)] ([] : va_W)) (QR (some (.int 1))) 0 0 (fun _ => False) := by
  refine hdT (by decide) (Nat.le_of_ble_eq_true rfl) ?_
  intro p e s m below meth c ls R args Q C0 hR hQ hP hK hT hl
  obtain ⟨hx, hb, hr, hlk, hml, hown, htt⟩ := id C0
  have hl : lv_has ls 1 [(0, .ref (aK i))] := hl
  refine va_gets hx hb hT.2.1 va_S.rf hown (htt _ k_315) (fun _ h9 => h9) dj_isLatin1_0 ?_
  refine lv_if_eq (tgt := 17) hx hb dj_isLatin1_3 (by decide) (fun q => absurd q (by decide)) (fun _ => ?_)
  refine lv_aload_n hx hb dj_isLatin1_6 rfl (lv_at hl 0 rfl) ?_
  refine vk_getf hx hb (hT.1.1 i hi).2.1 va_S.rf hown (htt _ k_1135) (fun _ h9 => h9) dj_isLatin1_7 ?_
  refine lv_if_ne (tgt := 17) hx hb dj_isLatin1_10 (by decide) (fun q => absurd rfl q) (fun _ => ?_)
  refine lv_iconst (v := (1 : Int32)) hx hb dj_isLatin1_13 (by decide) ?_
  refine lv_goto (tgt := 18) hx hb dj_isLatin1_14 (by decide) ?_
  exact retR C0 rfl hQ dj_isLatin1_18
set_option maxHeartbeats 4000000 in
theorem cj_length (l : Launch) (D : va_G) (ty : Nat → ClassId) (aK aV : Nat → Nat) (i : Nat) (hi : i < 5) : Met l yj_length (Cond.code yj_length prog_15_method_54_code 1 (some .int) :: lw_ok) { frames := 1, cells := 0, slots := 0, locals := 20 } (PcT D ty aK aV [.ref (aK i)] ([] : va_W)) (QR (some (.int (strL i)))) 0 0 (fun _ => False) := by
  refine hdT (by decide) (Nat.le_of_ble_eq_true rfl) ?_
  intro p e s m below meth c ls R args Q C0 hR hQ hP hK hT hl
  obtain ⟨hx, hb, hr, hlk, hml, hown, htt⟩ := id C0
  have hl : lv_has ls 1 [(0, .ref (aK i))] := hl
  refine lv_aload_n hx hb dj_length_0 rfl (lv_at hl 0 rfl) ?_
  refine vk_getf hx hb (hT.1.1 i hi).2.2.1 va_S.rf hown (htt _ k_1134) (fun _ h9 => h9) dj_length_1 ?_
  refine va_tlen hx hb (hT.1.1 i hi).2.2.2 va_S.rf rfl dj_length_4 ?_
  refine lv_aload_n hx hb dj_length_5 rfl (lv_at hl 0 rfl) ?_
  refine gvR (rest := [.int (Int32.ofNat (lenS.getD i 0))]) C0 (cj_coder l D ty aK aV i hi) PcT.blind k_311 calj_coder (vk_recv hT.1 hi va_S.rf) (fun U hU hW => ⟨rfl, va_P_nil, hK.warm hW, by rw [hU]; exact hT.warm hW⟩) ⟨by rw [hR]; decide, by rw [hR]; decide⟩ rfl rfl rfl hl.1 rfl (Nat.le_of_ble_eq_true rfl) dj_length_6 ⟨Nat.zero_le _, Nat.zero_le _⟩ rfl ?_
  refine lv_ishr hx hb dj_length_9 ?_
  exact retR C0 (narI _) hQ dj_length_10
set_option maxHeartbeats 4000000 in
theorem cj_pre (l : Launch) (D : va_G) (ty : Nat → ClassId) (aK aV : Nat → Nat) (x n : Int32) (v : Option Nat) (h0 : ¬ x < 0) (h1 : x < n) : Met l yj_pre (Cond.code yj_pre prog_19_method_11_code 3 (some .int) :: lw_ok) { frames := 0, cells := 0, slots := 0, locals := 0 } (PcT D ty aK aV [.int x, .int n, va_rf v] ([] : va_W)) (QR (some (.int x))) 0 0 (fun _ => False) := by
  refine hdT (by decide) (by cases v <;> exact Nat.le_of_ble_eq_true rfl) ?_
  intro p e s m below meth c ls R args Q C0 hR hQ hP hK hT hl
  obtain ⟨hx, hb, hr, hlk, hml, hown, htt⟩ := id C0
  have hl : lv_has ls 3 [(0, .int x), (1, .int n)] := by cases v <;> exact lv_sub hl [0, 1] rfl
  refine lv_iload_n hx hb dj_pre_0 rfl (lv_at hl 0 rfl) ?_
  refine lv_if_lt (tgt := 9) hx hb dj_pre_1 (by decide) (fun q => absurd q h0) (fun _ => ?_)
  refine lv_iload_n hx hb dj_pre_4 rfl (lv_at hl 0 rfl) ?_
  refine lv_iload_n hx hb dj_pre_5 rfl (lv_at hl 1 rfl) ?_
  refine lv_icmp_lt (tgt := 16) hx hb dj_pre_6 (by decide) (fun _ => ?_) (fun q => absurd h1 q)
  refine lv_iload_n hx hb dj_pre_16 rfl (lv_at hl 0 rfl) ?_
  exact retR C0 (narI _) hQ dj_pre_17
set_option maxHeartbeats 4000000 in
theorem cj_check (l : Launch) (D : va_G) (ty : Nat → ClassId) (aK aV : Nat → Nat) (x n : Int32) (h0 : ¬ x < 0) (h1 : x < n) : Met l yj_check (Cond.code yj_check prog_15_method_155_code 2 none :: lw_ok) { frames := 1, cells := 0, slots := 0, locals := 22 } (PcT D ty aK aV [.int x, .int n] ([] : va_W)) (QR none) 0 0 (fun _ => False) := by
  refine hdT (by decide) (Nat.le_of_ble_eq_true rfl) ?_
  intro p e s m below meth c ls R args Q C0 hR hQ hP hK hT hl
  obtain ⟨hx, hb, hr, hlk, hml, hown, htt⟩ := id C0
  have hl : lv_has ls 2 [(0, .int x), (1, .int n)] := hl
  refine lv_iload_n hx hb dj_check_0 rfl (lv_at hl 0 rfl) ?_
  refine lv_iload_n hx hb dj_check_1 rfl (lv_at hl 1 rfl) ?_
  obtain ⟨v, hv⟩ : ∃ v : Option Nat, va_Z "jdk/internal/util/Preconditions" "SIOOBE_FORMATTER" "Ljava/util/function/BiFunction;" (va_rf v) (fun _ => False) s s.heap := by
    rcases hT.2.2.1 with h | ⟨t, h⟩
    · exact ⟨none, h⟩
    · exact ⟨some t, h⟩
  refine va_gets hx hb hv va_S.rf hown (htt _ k_331) (fun _ h9 => h9) dj_check_2 ?_
  refine gsR (rest := []) C0 (cj_pre l D ty aK aV x n v h0 h1) PcT.blind k_333 calj_pre (fun U hU hW => ⟨rfl, va_P_nil, hK.warm hW, by rw [hU]; exact hT.warm hW⟩) ⟨by rw [hR]; decide, by rw [hR]; decide⟩ rfl rfl rfl hl.1 rfl (Nat.le_of_ble_eq_true rfl) dj_check_5 ⟨Nat.zero_le _, Nat.zero_le _⟩ rfl ?_
  refine lv_pop hx hb dj_check_8 rfl ?_
  exact retRv C0 hQ dj_check_9
set_option maxHeartbeats 4000000 in
theorem cj_lat (l : Launch) (D : va_G) (ty : Nat → ClassId) (aK aV : Nat → Nat) (i : Nat) (hi : i < 5) (k : Int32) (hk : okI k (lenS.getD i 0) = true) : Met l yj_lat (Cond.code yj_lat prog_16_method_2_code 2 (some .char) :: lw_ok) { frames := 2, cells := 0, slots := 0, locals := 43 } (PcT D ty aK aV [.ref (aV i), .int k] ([] : va_W)) (QR (some (.int (strC i k)))) 0 0 (fun _ => False) := by
  refine hdT (by decide) (Nat.le_of_ble_eq_true rfl) ?_
  intro p e s m below meth c ls R args Q C0 hR hQ hP hK hT hl
  obtain ⟨hx, hb, hr, hlk, hml, hown, htt⟩ := id C0
  have hl : lv_has ls 2 [(0, .ref (aV i)), (1, .int k)] := hl
  have hN : lenS.getD i 0 < 2 ^ 31 := by
    rcases (show i = 0 ∨ i = 1 ∨ i = 2 ∨ i = 3 ∨ i = 4 by omega) with rfl | rfl | rfl | rfl | rfl <;> decide
  obtain ⟨j, hj, ej⟩ := vp_in_of (okI_in hk) hN
  refine lv_iload_n hx hb dj_lat_0 rfl (lv_at hl 1 rfl) ?_
  refine lv_aload_n hx hb dj_lat_1 rfl (lv_at hl 0 rfl) ?_
  refine va_tlen hx hb (hT.1.1 i hi).2.2.2 va_S.rf rfl dj_lat_2 ?_
  refine gsR (rest := []) C0 (cj_check l D ty aK aV k (Int32.ofNat (lenS.getD i 0)) (by rw [ej]; exact nI_pos (by omega)) (by rw [ej]; exact nI_lt hj hN)) PcT.blind k_328 calj_check (fun U hU hW => ⟨rfl, va_P_nil, hK.warm hW, by rw [hU]; exact hT.warm hW⟩) ⟨by rw [hR]; decide, by rw [hR]; decide⟩ rfl rfl rfl hl.1 rfl (Nat.le_of_ble_eq_true rfl) dj_lat_3 ⟨Nat.zero_le _, Nat.zero_le _⟩ rfl ?_
  refine lv_aload_n hx hb dj_lat_6 rfl (lv_at hl 0 rfl) ?_
  refine lv_iload_n hx hb dj_lat_7 rfl (lv_at hl 1 rfl) ?_
  refine va_tb hx hb (hT.1.1 i hi).2.2.2 va_S.rf (okI_in hk) rfl dj_lat_8 ?_
  refine lv_sipush (v := (255 : Int32)) hx hb dj_lat_9 (by decide) ?_
  refine lv_iand hx hb dj_lat_12 ?_
  refine lv_i2c hx hb dj_lat_13 rfl ?_
  exact retR C0 (pk_nc _) hQ dj_lat_14
set_option maxHeartbeats 4000000 in
theorem cj_charAt (l : Launch) (D : va_G) (ty : Nat → ClassId) (aK aV : Nat → Nat) (i : Nat) (hi : i < 5) (k : Int32) (hk : okI k (lenS.getD i 0) = true) : Met l yj_charAt (Cond.code yj_charAt prog_15_method_56_code 2 (some .char) :: lw_ok) { frames := 3, cells := 0, slots := 0, locals := 64 } (PcT D ty aK aV [.ref (aK i), .int k] ([] : va_W)) (QR (some (.int (strC i k)))) 0 0 (fun _ => False) := by
  refine hdT (by decide) (Nat.le_of_ble_eq_true rfl) ?_
  intro p e s m below meth c ls R args Q C0 hR hQ hP hK hT hl
  obtain ⟨hx, hb, hr, hlk, hml, hown, htt⟩ := id C0
  have hl : lv_has ls 2 [(0, .ref (aK i)), (1, .int k)] := hl
  refine lv_aload_n hx hb dj_charAt_0 rfl (lv_at hl 0 rfl) ?_
  refine gvR (rest := []) C0 (cj_isLatin1 l D ty aK aV i hi) PcT.blind k_321 calj_isLatin1 (vk_recv hT.1 hi va_S.rf) (fun U hU hW => ⟨rfl, va_P_nil, hK.warm hW, by rw [hU]; exact hT.warm hW⟩) ⟨by rw [hR]; decide, by rw [hR]; decide⟩ rfl rfl rfl hl.1 rfl (Nat.le_of_ble_eq_true rfl) dj_charAt_1 ⟨Nat.zero_le _, Nat.zero_le _⟩ rfl ?_
  refine lv_if_eq (tgt := 16) hx hb dj_charAt_4 (by decide) (fun q => absurd q (by decide)) (fun _ => ?_)
  refine lv_aload_n hx hb dj_charAt_7 rfl (lv_at hl 0 rfl) ?_
  refine vk_getf hx hb (hT.1.1 i hi).2.2.1 va_S.rf hown (htt _ k_1134) (fun _ h9 => h9) dj_charAt_8 ?_
  refine lv_iload_n hx hb dj_charAt_11 rfl (lv_at hl 1 rfl) ?_
  refine gsR (rest := []) C0 (cj_lat l D ty aK aV i hi k hk) PcT.blind k_325 calj_lat (fun U hU hW => ⟨rfl, va_P_nil, hK.warm hW, by rw [hU]; exact hT.warm hW⟩) ⟨by rw [hR]; decide, by rw [hR]; decide⟩ rfl rfl rfl hl.1 rfl (Nat.le_of_ble_eq_true rfl) dj_charAt_12 ⟨Nat.zero_le _, Nat.zero_le _⟩ rfl ?_
  exact retR C0 (pk_nc _) hQ dj_charAt_15
