theorem sj1 {α : Type} {a a' : α} (h : some a = some a') : a = a' := Option.some.inj h
theorem sj2 {α β : Type} {a a' : α} {b b' : β} (h : some (a, b) = some (a', b')) : a = a' ∧ b = b' := Prod.mk.inj (Option.some.inj h)
theorem sj3 {α β γ : Type} {a a' : α} {b b' : β} {c c' : γ} (h : some (a, b, c) = some (a', b', c')) : a = a' ∧ b = b' ∧ c = c' := by
  have h1 := Prod.mk.inj (Option.some.inj h)
  exact ⟨h1.1, Prod.mk.inj h1.2⟩
theorem sj4 {α β γ δ : Type} {a a' : α} {b b' : β} {c c' : γ} {d d' : δ} (h : some (a, b, c, d) = some (a', b', c', d')) : a = a' ∧ b = b' ∧ c = c' ∧ d = d' := by
  have h1 := Prod.mk.inj (Option.some.inj h)
  have h2 := Prod.mk.inj h1.2
  exact ⟨h1.1, h2.1, Prod.mk.inj h2.2⟩
theorem narI (v : Int32) : narrow .int (.int v) = .int v := rfl
theorem va_up_same {α : Type} (f : Nat → α) (k : Nat) (v : α) : va_up f k v k = v := by simp [va_up]
theorem va_P_nil {D : va_G} {H : Heap} : va_P D vwCl ([] : va_W) H := fun k q h => by simp at h
theorem sub1 {D : va_G} {cl : List vw_C} {L : va_W} {H : Heap} (hP : va_P D cl L H) {q : Nat} {z : Nat × va_E} (h : L[q]? = some z) : va_P D cl [z] H := fun k x hk => by
  match k, hk with
  | 0, hk => cases hk; exact hP q _ h
  | k + 1, hk => simp at hk
def CalB (y : MethodName) (bytes : ByteArray) (maxL : Nat) (ret : Option FieldType) (n : Nat) : Prop :=
  Cond.instanceMethod y ∈ lw_ok ∧ Cond.initialized y.cls ∈ lw_ok ∧ Cond.code y bytes maxL ret ∈ lw_ok ∧ y.cls ≠ "java/lang/invoke/MethodHandle" ∧ y.cls ≠ "java/lang/invoke/VarHandle" ∧ (parseMethodDescriptor y.desc).map (fun d => d.parameters.length) = some n
theorem goodSU {own : String} {index : Nat} {y : MethodName} {bytes : ByteArray} {maxL n : Nat} {ret : Option FieldType} (k1 : Cond.methodLink own index y ∈ lw_ok) (k2 : Cond.sameMethod y.cls y.cls y.name y.desc ∈ lw_ok) (k3 : Cond.superclass own y.cls ∈ lw_ok) (h : CalB y bytes maxL ret n) : GoodIn lw_ok (va_wsSU own index y (Cond.code y bytes maxL ret :: lw_ok)) := fun w hw => by
  obtain ⟨h1, h2, h3, -⟩ := h
  rcases List.mem_append.mp hw with hw | hw
  · simp only [List.mem_cons, List.not_mem_nil, or_false] at hw
    rcases hw with rfl | rfl | rfl | rfl | rfl
    · exact good_ok _ k1
    · exact good_ok _ k2
    · exact good_ok _ k3
    · exact good_ok _ h1
    · exact good_ok _ h2
  · exact good_c h3 w hw
theorem goodO {own C : String} {index : Nat} {x y : MethodName} {bytes : ByteArray} {maxL n : Nat} {ret : Option FieldType} (k1 : Cond.methodLink own index x ∈ lw_ok) (k2 : Cond.sameMethod x.cls x.cls x.name x.desc ∈ lw_ok) (k3 : Cond.instanceMethod x ∈ lw_ok) (k4 : Cond.selects C x y ∈ lw_ok) (h : CalB y bytes maxL ret n) : GoodIn lw_ok (va_wsO own index C x.cls x y (Cond.code y bytes maxL ret :: lw_ok)) := fun w hw => by
  obtain ⟨h1, h2, h3, -⟩ := h
  rcases List.mem_append.mp hw with hw | hw
  · simp only [List.mem_cons, List.not_mem_nil, or_false] at hw
    rcases hw with rfl | rfl | rfl | rfl | rfl | rfl
    · exact good_ok _ k1
    · exact good_ok _ k2
    · exact good_ok _ k3
    · exact good_ok _ k4
    · exact good_ok _ h1
    · exact good_ok _ h2
  · exact good_c h3 w hw
section X2
variable {p : Program} {l : Launch} {e : Env} {R : Room} {s : State} {m : MethodId} {args : Array Value} {below : List Frame} {meth : Method} {c : Code} {H : Heap} {locs : List Loc} {cells slots : Nat} {Q : State → Prop}
variable {D : va_G} {ty : Nat → ClassId} {own : String} {cc bytes : ByteArray} {nL maxL n index mc ms pc sz : Nat} {rc ret : Option FieldType} {y : MethodName} {rm : Room} {As rest st0 st1 : List Value} {b : Nat} {o : Option Value} {ls : Array Slot} {a : Nat}
variable {A : Nat → Prop} {H0 : Heap} {cl : List vw_C} {ts : List (ClassId × FieldType)} {ws : va_W}
theorem ld_iald {j : Nat} (hexec : p.tables.exec = Jvm.exec) (hb : c.code = cc) (hK : va_K D cl ts s) (hP : va_P D cl ws H) (q0 t0 : Nat) {cA : ClassId} {n : Nat} {f : Nat → Int32} (ha : ws[q0]? = some (a, .inl (cA, n, .inl f))) (ht : ts[t0]? = some (cA, .int)) {i : Int32} (hin : vp_in i n) (hj : i.toNatClampNeg = j) (hdg : decode cc pc = .ok (.iaload, 1))
    (kk : W p l e R s m args below meth c H locs cells slots Q (F0 m (pc + 1) ls (.int (f j) :: rest))) : W p l e R s m args below meth c H locs cells slots Q (F0 m pc ls (.int i :: .ref a :: rest)) := by
  subst hj; exact va_iald hexec hb hK hP q0 t0 ha ht hin hdg kk
theorem ld_bald {j : Nat} (hexec : p.tables.exec = Jvm.exec) (hb : c.code = cc) (hK : va_K D cl ts s) (hP : va_P D cl ws H) (q0 t0 : Nat) {cA : ClassId} {n : Nat} {f : Nat → Int32} (ha : ws[q0]? = some (a, .inl (cA, n, .inl f))) (ht : ts[t0]? = some (cA, .byte)) {i : Int32} (hin : vp_in i n) (hj : i.toNatClampNeg = j) (hdg : decode cc pc = .ok (.baload, 1))
    (kk : W p l e R s m args below meth c H locs cells slots Q (F0 m (pc + 1) ls (.int (f j) :: rest))) : W p l e R s m args below meth c H locs cells slots Q (F0 m pc ls (.int i :: .ref a :: rest)) := by
  subst hj; exact va_bald hexec hb hK hP q0 t0 ha ht hin hdg kk
theorem ld_zald {j : Nat} (hexec : p.tables.exec = Jvm.exec) (hb : c.code = cc) (hK : va_K D cl ts s) (hP : va_P D cl ws H) (q0 t0 : Nat) {cA : ClassId} {n : Nat} {f : Nat → Int32} (ha : ws[q0]? = some (a, .inl (cA, n, .inl f))) (ht : ts[t0]? = some (cA, .boolean)) {i : Int32} (hin : vp_in i n) (hj : i.toNatClampNeg = j) (hdg : decode cc pc = .ok (.baload, 1))
    (kk : W p l e R s m args below meth c H locs cells slots Q (F0 m (pc + 1) ls (.int (f j) :: rest))) : W p l e R s m args below meth c H locs cells slots Q (F0 m pc ls (.int i :: .ref a :: rest)) := by
  subst hj; exact va_zald hexec hb hK hP q0 t0 ha ht hin hdg kk
theorem st_iast {j : Nat} (hexec : p.tables.exec = Jvm.exec) (hb : c.code = cc) (hK : va_K D cl ts s) (hP : va_P D cl ws H) (hD : va_D A ws) (hS : va_S A H0 H locs) (q0 t0 : Nat) {cA : ClassId} {n : Nat} {f : Nat → Int32} (ha : ws[q0]? = some (a, .inl (cA, n, .inl f))) (ht : ts[t0]? = some (cA, .int)) {i : Int32} {x : Int32} (hin : vp_in i n) (hj : i.toNatClampNeg = j) (hdg : decode cc pc = .ok (.iastore, 1))
    (kk : ∀ (H1 : Heap) (locs1 : List Loc), va_P D cl (ws.set q0 (a, .inl (cA, n, .inl (upd f j x)))) H1 → va_D A (ws.set q0 (a, .inl (cA, n, .inl (upd f j x)))) → va_S A H0 H1 locs1 → W p l e R s m args below meth c H1 locs1 cells slots Q (F0 m (pc + 1) ls rest)) : W p l e R s m args below meth c H locs cells slots Q (F0 m pc ls (.int x :: .int i :: .ref a :: rest)) := by
  subst hj; exact va_iast hexec hb hK hP hD hS q0 t0 ha ht hin hdg kk
theorem aldK {kA : Nat → Nat} (hexec : p.tables.exec = Jvm.exec) (hb : c.code = cc) (hK : va_K D cl ts s) (hP : va_P D cl ws H) (q0 t0 : Nat) {cA : ClassId} {C : String} {n : Nat} (ha : ws[q0]? = some (a, .inl (cA, n, .inr (.inr (.inr (.inr (fun i => some (kA (i + 1))))))))) (ht : ts[t0]? = some (cA, .object C)) {i : Int32} (hin : vp_in i n) (hdg : decode cc pc = .ok (.aaload, 1))
    (kk : W p l e R s m args below meth c H locs cells slots Q (F0 m (pc + 1) ls (.ref (kA (i.toNatClampNeg + 1)) :: rest))) : W p l e R s m args below meth c H locs cells slots Q (F0 m pc ls (.int i :: .ref a :: rest)) :=
  va_aldq hexec hb hK hP q0 t0 ha ht hin hdg kk
theorem aldIs (hexec : p.tables.exec = Jvm.exec) (hb : c.code = cc) (hK : va_K D cl ts s) (hP : va_P D cl ws H) (q0 t0 : Nat) {cA : ClassId} {C : String} {n x : Nat} {f : Nat → Option Nat} (ha : ws[q0]? = some (a, .inl (cA, n, .inr (.inr (.inr (.inr f)))))) (ht : ts[t0]? = some (cA, .object C)) {i : Int32} (hin : vp_in i n) (hI : f i.toNatClampNeg = some x) (hdg : decode cc pc = .ok (.aaload, 1))
    (kk : W p l e R s m args below meth c H locs cells slots Q (F0 m (pc + 1) ls (.ref x :: rest))) : W p l e R s m args below meth c H locs cells slots Q (F0 m pc ls (.int i :: .ref a :: rest)) :=
  va_aldq hexec hb hK hP q0 t0 ha ht hin hdg (by rw [hI]; exact kk)
theorem aldIn (hexec : p.tables.exec = Jvm.exec) (hb : c.code = cc) (hK : va_K D cl ts s) (hP : va_P D cl ws H) (q0 t0 : Nat) {cA : ClassId} {C : String} {n : Nat} {f : Nat → Option Nat} (ha : ws[q0]? = some (a, .inl (cA, n, .inr (.inr (.inr (.inr f)))))) (ht : ts[t0]? = some (cA, .object C)) {i : Int32} (hin : vp_in i n) (hI : f i.toNatClampNeg = none) (hdg : decode cc pc = .ok (.aaload, 1))
    (kk : W p l e R s m args below meth c H locs cells slots Q (F0 m (pc + 1) ls (.null :: rest))) : W p l e R s m args below meth c H locs cells slots Q (F0 m pc ls (.int i :: .ref a :: rest)) :=
  va_aldq hexec hb hK hP q0 t0 ha ht hin hdg (by rw [hI]; exact kk)
theorem cpI {sp' dp' n' : Nat} (hexec : p.tables.exec = Jvm.exec) (hb : c.code = cc) (hml : c.maxLocals = ls.size) {own : String} {index : Nat} (hown : s.vm.findClass own = some m.cls) (hlink : (Cond.methodLink own index arraycopyName).before args s = true) (hnat : (Cond.native arraycopyName).before args s = true) (hstat : (Cond.static arraycopyName).before args s = true) (hini : (Cond.initialized "java/lang/System").before args s = true)
    (hK : va_K D cl ts s) (hP : va_P D cl ws H) (hD : va_D A ws) (hS : va_S A H0 H locs) (q0 q1 t0 t1 : Nat) {a0 : Nat} {c0 c1 : ClassId} {n0 n1 : Nat} {f g : Nat → Int32} (ha0 : ws[q0]? = some (a0, .inl (c0, n0, .inl f))) (ha1 : ws[q1]? = some (a, .inl (c1, n1, .inl g))) (ht0 : ts[t0]? = some (c0, .int)) (ht1 : ts[t1]? = some (c1, .int))
    {sp dp n : Int32} (h1 : ¬ sp < 0) (h2 : ¬ dp < 0) (h3 : ¬ n < 0) (es : sp.toNatClampNeg = sp') (ed : dp.toNatClampNeg = dp') (en : n.toNatClampNeg = n') (h4 : sp' + n' ≤ n0) (h5 : dp' + n' ≤ n1)
    (hframes : 1 ≤ R.frames) (hlocals : (rest.map fun v => v.category).sum + (nativeFrameWords "java/lang/System" "arraycopy" 5 + 11) ≤ R.locals) (hdg : decode cc pc = .ok (.invokestatic index, 3))
    (kk : ∀ (H1 : Heap) (locs1 : List Loc), va_P D cl (ws.set q1 (a, .inl (c1, n1, .inl (va_cpy f g sp' dp' n')))) H1 → va_D A (ws.set q1 (a, .inl (c1, n1, .inl (va_cpy f g sp' dp' n')))) → va_S A H0 H1 locs1 → W p l e R s m args below meth c H1 locs1 cells slots Q (F0 m (pc + 3) ls rest)) : W p l e R s m args below meth c H locs cells slots Q (F0 m pc ls (.int n :: .int dp :: .ref a :: .int sp :: .ref a0 :: rest)) := by
  subst es ed en
  exact va_copyi hexec hb hml hown hlink hnat hstat hini hK hP hD hS q0 q1 t0 t1 ha0 ha1 ht0 ht1 rfl h1 h2 h3 h4 h5 (fun _ _ => rfl) hframes hlocals hdg kk
theorem suR {Lc : va_W} {q0 ci : Nat} {q : vw_C} {fs : List Value} (C0 : Cx p s m args meth c own cc nL rc) (hM : Met l y (Cond.code y bytes maxL ret :: lw_ok) rm (PcR D ty (.ref b :: As) Lc) (QR o) 0 0 (fun _ => False)) (k1 : Cond.methodLink own index y ∈ lw_ok) (k2 : Cond.sameMethod y.cls y.cls y.name y.desc ∈ lw_ok) (k3 : Cond.superclass own y.cls ∈ lw_ok) (h : CalB y bytes maxL ret n) (hno : y.name ≠ "<init>") (hK : KK D ty s) (hP : va_P D vwCl Lc H) (hc : vwCl[ci]? = some q) (he : Lc[q0]? = some (b, .inr (ci, fs)))
    (hR : rm.frames + 1 ≤ R.frames ∧ 8 + (maxL + 11) + rm.locals ≤ R.locals) (hrc : rm.cells = 0) (hrs : rm.slots = 0) (hn : As.length = n) (hsize : ls.size = nL) (hst : st0 = As.reverse ++ .ref b :: rest) (hW : (rest.map fun v => v.category).sum ≤ 8) (hdg : decode cc pc = .ok (.invokespecial index, 3)) (hf : cells ≤ R.cells ∧ slots ≤ R.slots) (ho : o.toList ++ rest = st1)
    (kk : W p l e R s m args below meth c H locs cells slots Q (F0 m (pc + 3) ls st1)) : W p l e R s m args below meth c H locs cells slots Q (F0 m pc ls st0) := by
  obtain ⟨hx, hb, -, -, hml, hown, htt⟩ := C0
  exact backR (va_runSU (As := As) (rest := rest) (hK.1.1 ci q hc).2 ⟨hx, hb, hml, hown, htt⟩ hM (va_cwSU n htt (goodSU k1 k2 k3 h) rfl hrc hrs ⟨hno, h.2.2.2.2.2⟩ hR) ⟨PcR.blind, va_recv hK.1 hP hc he, fun U hU hW => ⟨rfl, by rw [hU]; exact hP, hK.warm hW⟩⟩ rfl hn hsize hst (lv_room hW) hdg hf) ho kk
theorem oR {Lc : va_W} {x : MethodName} {q0 ci : Nat} {q : vw_C} {fs : List Value} {b0 : ByteArray} {m0 : Nat} {r0 : Option FieldType} (C0 : Cx p s m args meth c own cc nL rc) (hM : Met l y (Cond.code y bytes maxL ret :: lw_ok) rm (PcR D ty (.ref b :: As) Lc) (QR o) 0 0 (fun _ => False)) (k1 : Cond.methodLink own index x ∈ lw_ok) (k2 : Cond.sameMethod x.cls x.cls x.name x.desc ∈ lw_ok) (k4 : Cond.selects q.1 x y ∈ lw_ok) (h : CalB y bytes maxL ret n) (hx0 : CalB x b0 m0 r0 n) (hK : KK D ty s) (hP : va_P D vwCl Lc H) (hc : vwCl[ci]? = some q) (he : Lc[q0]? = some (b, .inr (ci, fs)))
    (hR : rm.frames + 1 ≤ R.frames ∧ 8 + (maxL + 11) + rm.locals ≤ R.locals) (hrc : rm.cells = 0) (hrs : rm.slots = 0) (hn : As.length = n) (hsize : ls.size = nL) (hst : st0 = As.reverse ++ .ref b :: rest) (hW : (rest.map fun v => v.category).sum ≤ 8) (hdg : decode cc pc = .ok (.invokevirtual index, 3)) (hf : cells ≤ R.cells ∧ slots ≤ R.slots) (ho : o.toList ++ rest = st1)
    (kk : W p l e R s m args below meth c H locs cells slots Q (F0 m (pc + 3) ls st1)) : W p l e R s m args below meth c H locs cells slots Q (F0 m pc ls st0) := by
  obtain ⟨hx, hb, -, -, hml, hown, htt⟩ := C0
  exact backR (va_runU (As := As) (rest := rest) ⟨hx, hb, hml, hown, htt⟩ hM (va_cwO n htt (goodO k1 k2 hx0.1 k4 h) rfl hrc hrs hx0.2.2.1 ⟨hx0.2.2.2.1, hx0.2.2.2.2.1, hx0.2.2.2.2.2⟩ hR) ⟨PcR.blind, va_recv hK.1 hP hc he, fun U hU hW => ⟨rfl, by rw [hU]; exact hP, hK.warm hW⟩⟩ rfl hn hsize hst (lv_room hW) hdg hf) ho kk
end X2
