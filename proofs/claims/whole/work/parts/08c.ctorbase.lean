def adr (l : List Nat) (i : Nat) : Nat := l.getD i 0
def pz : PW := fun _ _ => 0
def pzL : PL := fun _ => 0
def QP (Pst : (Nat → Prop) → Heap → Prop) (A : Nat → Prop) (o : Option Value) : Array Value → State → Outcome → State → Prop := fun _ st oc t => oc = .returned o ∧ Pst A t.heap ∧ va_F A st t
theorem hdP {l : Launch} {y : MethodName} {rm : Room} {D : va_G} {ty : Nat → ClassId} {av : List Value} {sz mc ms : Nat} {L : va_W} {Pst : (Nat → Prop) → Heap → Prop} {o : Option Value} {cc : ByteArray} {maxL : Nat} {ret : Option FieldType} (hy : plainName y.cls = true) (hlen : (lg_sl av).length ≤ maxL)
    (body : ∀ (p : Program) (e : Env) (s : State) (m : MethodId) (below : List Frame) (meth : Method) (c : Code) (ls : Array Slot) (R : Room) (args : Array Value) (Q : State → Prop) (A : Nat → Prop), Cx p s m args meth c y.cls cc maxL ret → R = rm → Q = MQ below (QP Pst A o) args s mc ms A → meth.name = y.name → (∀ q : Nat, s.heap.size ≤ q → A q) → va_P D vwCl L s.heap → KK D ty s → va_D A L → va_S A s.heap s.heap [] → lv_has ls maxL (lv_args 0 av) →
      W p l e R s m args below meth c s.heap [] 0 0 Q (F0 m 0 ls [])) :
    Met l y (Cond.code y cc maxL ret :: lw_ok) rm (PcM D ty av sz L) (QP Pst (va_A L sz) o) mc ms (va_A L sz) := by
  refine Met.ofW (cc := cc) (maxL := maxL) (ret := ret) hy rfl ?_
  intro p e s m args below meth c s₁ B hml hv
  obtain ⟨rfl, hsz, hP, hK, hD0⟩ := hv
  subst hsz
  have hts := atoms_spec (ws := Cond.code y cc maxL ret :: lw_ok) B.pre
  rw [lg_entry_eq]
  exact body p e s m below meth c _ _ _ _ _ ⟨B.exec, B.bytes, B.returns, B.notSynchronized, hml, findClass_of_methodNamed B.named, fun w h => hts w (List.mem_cons_of_mem _ h)⟩ rfl rfl (name_of_methodNamed B.named B.method).1 (fun q h => Or.inr h) hP hK (hD0.self) va_S.rf (lv_entry av hlen)
section XP
variable {p : Program} {l : Launch} {e : Env} {R : Room} {s : State} {m : MethodId} {args : Array Value} {below : List Frame} {meth : Method} {c : Code} {H : Heap} {locs : List Loc} {cells slots : Nat} {Q : State → Prop}
variable {D : va_G} {ty : Nat → ClassId} {own : String} {cc bytes : ByteArray} {nL maxL n index mc ms pc sz : Nat} {rc ret : Option FieldType} {y : MethodName} {rm : Room} {As rest st0 st1 : List Value} {b : Nat} {o : Option Value} {ls : Array Slot} {a : Nat} {aa : Array Value}
variable {A : Nat → Prop} {H0 : Heap} {Pst : (Nat → Prop) → Heap → Prop} {ws : va_W}
theorem retPv (C0 : Cx p s m args meth c own cc nL none) (hQ : Q = MQ below (QP Pst A none) args s cells slots A) (hP : Pst A H) (hS : va_S A s.heap H locs) (hdg : decode cc pc = .ok (.return_, 1)) : W p l e R s m args below meth c H locs cells slots Q (F0 m pc ls []) := by
  obtain ⟨hx, hb, hr, hlk, -⟩ := C0
  subst hQ
  exact W.vret hx hb hr (fun t ht hW => ⟨rfl, by rw [ht]; exact hP, hS.F ht⟩) hS.2.2 hdg
theorem retPi {v : Int32} {fty : FieldType} (C0 : Cx p s m args meth c own cc nL (some fty)) (hn : narrow fty (.int v) = .int v) (hQ : Q = MQ below (QP Pst A (some (.int v))) args s cells slots A) (hP : Pst A H) (hS : va_S A s.heap H locs) (hdg : decode cc pc = .ok (.ireturn, 1)) : W p l e R s m args below meth c H locs cells slots Q (F0 m pc ls [.int v]) := by
  obtain ⟨hx, hb, hr, hlk, -⟩ := C0
  subst hQ
  exact W.zret hx hb hr hn (fun t ht hW => ⟨rfl, by rw [ht]; exact hP, hS.F ht⟩) hS.2.2 hdg
theorem objI (C0 : Cx p s m args meth c own cc nL rc) (hsize : ls.size = nL) (k1 : Cond.methodLink own index Lib.objectInit ∈ lw_ok) (hdg : decode cc pc = .ok (.invokespecial index, 3)) (hf : 1 ≤ R.frames) (hlo : (rest.map fun v => v.category).sum + 12 ≤ R.locals)
    (kk : W p l e R s m args below meth c H locs cells slots Q (F0 m (pc + 3) ls rest)) : W p l e R s m args below meth c H locs cells slots Q (F0 m pc ls (.ref a :: rest)) := by
  obtain ⟨hx, hb, -, -, hml, hown, htt⟩ := C0
  exact W.objInit hx hb hown (htt _ k1) (htt _ k_25) (htt _ k_26) rfl (by rw [hml]; exact hsize) rfl hdg hf (by simpa [JFrame.monitorRoom] using hlo) kk
theorem uniqT {s : State} {k : Nat} {cA : ClassId} {fty : FieldType} (hK : KK D ty s) (ht : (tys ty)[k]? = some (ty k, fty)) (h2 : va_K D vwCl (tys ty ++ [(cA, fty)]) s) : cA = ty k := by
  have h1 := (hK.1.2 k _ ht).2
  have h3 := (h2.2 5 (cA, fty) rfl).2
  cases fty with
  | object C =>
    obtain ⟨-, -, -, -, -, e1⟩ := h1
    obtain ⟨-, -, -, -, -, e2⟩ := h3
    exact Option.some.inj (e2.symm.trans e1)
  | _ => exact Option.some.inj (Eq.trans (Eq.symm h3) h1)
theorem newArr (k : Nat) (hx : p.tables.exec = Jvm.exec) (hb : c.code = cc) {atype : ArrayType} {fty : FieldType} (hty : newarray.typeOf atype = fty) (harr : (Cond.arrayClass (newarray.typeOf atype)).before args s = true) (hK : KK D ty s) (ht : (tys ty)[k]? = some (ty k, fty)) (hP : va_P D vwCl ws H) (hD : va_D A ws) (hS : va_S A H0 H locs) (hA : ∀ q, H0.size ≤ q → A q)
    {n : Int32} {N' : Nat} (hdef : defaultValue fty = .int 0) (hn : ¬ n < 0) (hN : n.toNatClampNeg = N') (hbytes : N' * componentBytes fty ≤ 536870912) (hcells : cells + 1 ≤ R.cells) (hslots : slots + N' ≤ R.slots) (hdg : decode cc pc = .ok (.newarray atype, 2))
    (kk : ∀ (q : Nat) (H1 : Heap), va_P D vwCl (ws ++ [(q, .inl (ty k, N', .inl (fun _ => 0)))]) H1 → va_D A (ws ++ [(q, .inl (ty k, N', .inl (fun _ => 0)))]) → va_S A H0 H1 locs →
      W p l e R s m args below meth c H1 locs (cells + 1) (slots + N') Q (F0 m (pc + 2) ls (.ref q :: rest))) : W p l e R s m args below meth c H locs cells slots Q (F0 m pc ls (.int n :: rest)) := by
  refine va_newa (a0 := (N', .inl (fun _ => 0))) hx hb harr hty hK.1 hP hD hS hA (fun cA => by rw [vp_cell_i, hdef]) hn hN hbytes hcells hslots hdg (fun q cA H1 hK1 hP1 hD1 hS1 => ?_)
  have e := uniqT hK ht hK1
  subst e
  exact kk q H1 hP1 hD1 hS1
theorem newQ (k : Nat) {C : String} (hx : p.tables.exec = Jvm.exec) (hb : c.code = cc) (hown : s.vm.findClass own = some m.cls) (hcl : (Cond.classLink own index C).before args s = true) (hover : va_AO C s) (hK : KK D ty s) (ht : (tys ty)[k]? = some (ty k, .object C)) (hP : va_P D vwCl ws H) (hD : va_D A ws) (hS : va_S A H0 H locs) (hA : ∀ q, H0.size ≤ q → A q)
    {n : Int32} {N' : Nat} (hn : ¬ n < 0) (hN : n.toNatClampNeg = N') (hbytes : N' * 4 ≤ 536870912) (hcells : cells + 1 ≤ R.cells) (hslots : slots + N' ≤ R.slots) (hdg : decode cc pc = .ok (.anewarray index, 3))
    (kk : ∀ (q : Nat) (H1 : Heap), va_P D vwCl (ws ++ [(q, .inl (ty k, N', .inr (.inr (.inr (.inr (fun _ => none))))))]) H1 → va_D A (ws ++ [(q, .inl (ty k, N', .inr (.inr (.inr (.inr (fun _ => none))))))]) → va_S A H0 H1 locs →
      W p l e R s m args below meth c H1 locs (cells + 1) (slots + N') Q (F0 m (pc + 3) ls (.ref q :: rest))) : W p l e R s m args below meth c H locs cells slots Q (F0 m pc ls (.int n :: rest)) := by
  refine va_newq hx hb hown hcl hover hK.1 hP hD hS hA hn hN hbytes hcells hslots hdg (fun q cA H1 hK1 hP1 hD1 hS1 => ?_)
  have e := uniqT hK ht hK1
  subst e
  exact kk q H1 hP1 hD1 hS1
/-- behind a call that gives a world of its own words -/
theorem backP {L Lc : va_W} (hr : va_Run p l e R s m args below meth c H locs cells slots mc ms (F0 m pc ls st0) rest (QP Pst (va_A Lc H.size) o aa) (va_A Lc H.size)) (hP : va_P D vwCl L H) (hD : va_D A L) (hS : va_S A H0 H locs) (hA : ∀ q, H0.size ≤ q → A q)
    (isC isR : List Nat) (Lr : va_W) (hC : isC.map (fun i => L[i]?) = Lc.map some) (hR : isR.map (fun i => L[i]?) = Lr.map some) (hn : va_nd isR = true) (hdis : isR.all (fun i => !(isC.contains i)) = true) (ho : o.toList ++ rest = st1)
    (kk : ∀ (H1 : Heap) (locs1 : List Loc), Pst (va_A Lc H.size) H1 → (∀ w1 : va_W, va_P D vwCl w1 H1 → va_D (va_A Lc H.size) w1 → va_P D vwCl (Lr ++ w1) H1 ∧ va_D A (Lr ++ w1)) → va_S A H0 H1 locs1 → W p l e R s m args below meth c H1 locs1 (cells + mc) (slots + ms) Q (F0 m (pc + 3) ls st1)) : W p l e R s m args below meth c H locs cells slots Q (F0 m pc ls st0) := by
  intro T hT X
  obtain ⟨v, st₀, t, T', L2, h0, X', hL, e1, e2, ⟨hv, hP1, hz, hk⟩, st⟩ := hr T hT X
  cases hv
  subst ho
  rw [h0] at hz hk
  have hF : ∀ q, va_A Lc H.size q → A q := va_free hD hS hA isC hC
  have hdis' : ∀ i ∈ isR, i ∉ isC := fun i hi hc => by
    have h1 := List.all_eq_true.mp hdis i hi
    simp [hc] at h1
  obtain ⟨t2, a1, b1⟩ := kk T'.heap (locs ++ L2) (by rw [e1]; exact hP1) (fun w1 hw hd => by rw [e1] at hw ⊢; exact va_join hP hD isC isR hC hR hn hdis' hk hF hw hd)
    ⟨Nat.le_trans hS.1 (by rw [e1]; exact hz), fun q h1 h2 => by rw [e1, hk q (Nat.lt_of_lt_of_le h1 hS.1) (fun z => h2 (hF q z))]; exact hS.2.1 q h1 h2, fun q hq => by
      rcases List.mem_append.mp hq with h | h
      · exact hS.2.2 q h
      · exact hF _ (hL q h)⟩ T' rfl X'
  exact ⟨t2, st t2 a1, b1⟩
theorem iP {L Lc : va_W} (C0 : Cx p s m args meth c own cc nL rc) (hM : Met l y (Cond.code y bytes maxL none :: lw_ok) rm (PcM D ty (.ref b :: As) H.size Lc) (QP Pst (va_A Lc H.size) none) mc ms (va_A Lc H.size)) (hy1 : y.name = "<init>") (k1 : Cond.methodLink own index y ∈ lw_ok) (h : CalI y bytes maxL n) (hK : KK D ty s) (hP : va_P D vwCl L H) (hD : va_D A L) (hS : va_S A H0 H locs) (hA : ∀ q, H0.size ≤ q → A q)
    (isC isR : List Nat) (Lr : va_W) (hC : isC.map (fun i => L[i]?) = Lc.map some) (hRr : isR.map (fun i => L[i]?) = Lr.map some) (hnC : va_nd isC = true) (hnR : va_nd isR = true) (hdis : isR.all (fun i => !(isC.contains i)) = true)
    (hR : rm.frames + 1 ≤ R.frames ∧ 8 + (maxL + 11) + rm.locals ≤ R.locals) (hrc : rm.cells = mc) (hrs : rm.slots = ms) (hn : As.length = n) (hsize : ls.size = nL) (hst : st0 = As.reverse ++ .ref b :: rest) (hW : (rest.map fun v => v.category).sum ≤ 8) (hdg : decode cc pc = .ok (.invokespecial index, 3)) (hf : cells + mc ≤ R.cells ∧ slots + ms ≤ R.slots)
    (kk : ∀ (H1 : Heap) (locs1 : List Loc), Pst (va_A Lc H.size) H1 → (∀ w1 : va_W, va_P D vwCl w1 H1 → va_D (va_A Lc H.size) w1 → va_P D vwCl (Lr ++ w1) H1 ∧ va_D A (Lr ++ w1)) → va_S A H0 H1 locs1 → W p l e R s m args below meth c H1 locs1 (cells + mc) (slots + ms) Q (F0 m (pc + 3) ls rest)) : W p l e R s m args below meth c H locs cells slots Q (F0 m pc ls st0) := by
  obtain ⟨hx, hb, -, -, hml, hown, htt⟩ := C0
  have hPc : va_P D vwCl Lc H := hP.sub isC (by
    have h1 : isC.filterMap (fun i => L[i]?) = (isC.map (fun i => L[i]?)).filterMap id := by rw [List.filterMap_map]; rfl
    rw [h1, hC, List.filterMap_map]
    simp)
  have hDc : va_D (fun _ => True) Lc := (hD.sub isC hnC hC).weaken (fun _ _ _ _ => trivial)
  exact backP (va_runI (As := As) (rest := rest) ⟨hx, hb, hml, hown, htt⟩ hM (cwI n htt (good_c h.2.2.1) rfl hrc hrs (htt _ h.2.1) (htt _ k1) (htt _ h.1) hy1 h.2.2.2 hR) ⟨PcM.blind, fun U hU hW => ⟨rfl, by rw [hU], by rw [hU]; exact hPc, hK.warm hW, hDc⟩⟩ rfl hn hsize hst (lv_room hW) hdg hf) hP hD hS hA isC isR Lr hC hRr hnR hdis rfl kk
theorem inR {host : String} (C0 : Cx p s m args meth c own cc nL rc) (hM : Met l y (Cond.code y bytes maxL none :: lw_ok) rm (PcR D ty (.ref b :: As) ([] : va_W)) (QR none) 0 0 (fun _ => False)) (hy1 : y.name = "<init>") (k1 : (own, index, y, host) ∈ nestL) (h : CalI y bytes maxL n) (hK : KK D ty s)
    (hR : rm.frames + 1 ≤ R.frames ∧ 8 + (maxL + 11) + rm.locals ≤ R.locals) (hrc : rm.cells = 0) (hrs : rm.slots = 0) (hn : As.length = n) (hsize : ls.size = nL) (hst : st0 = As.reverse ++ .ref b :: rest) (hW : (rest.map fun v => v.category).sum ≤ 8) (hdg : decode cc pc = .ok (.invokespecial index, 3)) (hf : cells ≤ R.cells ∧ slots ≤ R.slots)
    (kk : W p l e R s m args below meth c H locs cells slots Q (F0 m (pc + 3) ls rest)) : W p l e R s m args below meth c H locs cells slots Q (F0 m pc ls st0) := by
  obtain ⟨hx, hb, -, -, hml, hown, htt⟩ := C0
  exact backR (va_runIN (As := As) (rest := rest) ⟨hx, hb, hml, hown, htt⟩ hM ⟨va_cnB n htt (good_c h.2.2.1) rfl hrc hrs (hK.2.1 _ k1) (htt _ h.2.1) h.2.2.2 hR, hy1, htt _ h.1⟩ ⟨PcR.blind, fun U hU hW => ⟨rfl, va_P_nil, hK.warm hW⟩⟩ rfl hn hsize hst (lv_room hW) hdg hf) rfl kk
end XP
/-- an array of references is what it holds below its length -/
theorem cell_cong {D : va_G} {cl : List vw_C} {a : Nat} {cA : ClassId} {n : Nat} {f g : Nat → Option Nat} {H : Heap} (h : ∀ j, j < n → f j = g j) (hP : va_at D cl (a, .inl (cA, n, .inr (.inr (.inr (.inr f))))) H) : va_at D cl (a, .inl (cA, n, .inr (.inr (.inr (.inr g))))) H := by
  show H[a]? = some (vp_cell cA (n, .inr (.inr (.inr (.inr g)))))
  have h1 : H[a]? = some (vp_cell cA (n, .inr (.inr (.inr (.inr f))))) := hP
  rw [h1, vp_cell_q, vp_cell_q]
  unfold arrV
  congr 2
  congr 1
  funext j
  show va_rf (f j.1) = va_rf (g j.1)
  rw [h j.1 j.2]
