/-! the pure side: what an object holds, by field and place; programs as functions that may fail -/
abbrev PW : Type := Nat → Nat → Int32
abbrev PL : Type := Nat → Int64
def up (w : PW) (k : Nat) (g : Nat → Int32) : PW := fun j => match Nat.beq j k with
  | true => g
  | false => w j
def upL (w : PL) (k : Nat) (x : Int64) : PL := fun j => match Nat.beq j k with
  | true => x
  | false => w j
def okI (i : Int32) (n : Nat) : Bool := decide (0 ≤ i.toInt) && decide (i.toInt < n)
def isZ (x : Int32) : Bool := x == 0 || x == 1
def gd {α : Type} (b : Bool) (k : Option α) : Option α := match b with
  | true => k
  | false => none
def nm {α β : Type} (a : α) (k : α → β) : β := k a
def bd {α ρ : Type} (x : Option α) (k : α → Option ρ) : Option ρ := match x with
  | some a => k a
  | none => none
def bd2 {α β ρ : Type} (x : Option (α × β)) (k : α → β → Option ρ) : Option ρ := match x with
  | some a => k a.1 a.2
  | none => none
def bd3 {α β γ ρ : Type} (x : Option (α × β × γ)) (k : α → β → γ → Option ρ) : Option ρ := match x with
  | some a => k a.1 a.2.1 a.2.2
  | none => none
def bd4 {α β γ δ ρ : Type} (x : Option (α × β × γ × δ)) (k : α → β → γ → δ → Option ρ) : Option ρ := match x with
  | some a => k a.1 a.2.1 a.2.2.1 a.2.2.2
  | none => none
def loopF {σ ρ : Type} (body : (σ → Option ρ) → σ → Option ρ) : Nat → σ → Option ρ
  | 0, _ => none
  | n + 1, s => body (loopF body n) s
theorem gdE {α : Type} {b : Bool} {k : Option α} {r : α} (h : gd b k = some r) : b = true ∧ k = some r := by
  cases b with
  | true => exact ⟨rfl, h⟩
  | false => exact absurd h (by simp [gd])
theorem nmE {α β : Type} {a x : α} {k : α → Option β} {r : β} (h : nm a k = some r) (e : x = a) : k x = some r := by subst e; exact h
theorem bdE {α ρ : Type} {x : Option α} {k : α → Option ρ} {r : ρ} (h : bd x k = some r) : ∃ a, x = some a ∧ k a = some r := by
  cases x with
  | some a => exact ⟨a, rfl, h⟩
  | none => exact absurd h (by simp [bd])
theorem bd2E {α β ρ : Type} {x : Option (α × β)} {k : α → β → Option ρ} {r : ρ} (h : bd2 x k = some r) : ∃ a b, x = some (a, b) ∧ k a b = some r := by
  cases x with
  | some a => exact ⟨a.1, a.2, rfl, h⟩
  | none => exact absurd h (by simp [bd2])
theorem bd3E {α β γ ρ : Type} {x : Option (α × β × γ)} {k : α → β → γ → Option ρ} {r : ρ} (h : bd3 x k = some r) : ∃ a b c, x = some (a, b, c) ∧ k a b c = some r := by
  cases x with
  | some a => exact ⟨a.1, a.2.1, a.2.2, rfl, h⟩
  | none => exact absurd h (by simp [bd3])
theorem bd4E {α β γ δ ρ : Type} {x : Option (α × β × γ × δ)} {k : α → β → γ → δ → Option ρ} {r : ρ} (h : bd4 x k = some r) : ∃ a b c d, x = some (a, b, c, d) ∧ k a b c d = some r := by
  cases x with
  | some a => exact ⟨a.1, a.2.1, a.2.2.1, a.2.2.2, rfl, h⟩
  | none => exact absurd h (by simp [bd4])
theorem iteT {α : Type} {q : Prop} [Decidable q] {a b r : α} (h : q) (hf : (if q then a else b) = r) : a = r := (if_pos h).symm.trans hf
theorem iteF {α : Type} {q : Prop} [Decidable q] {a b r : α} (h : ¬ q) (hf : (if q then a else b) = r) : b = r := (if_neg h).symm.trans hf
theorem loopW {σ ρ : Type} {body : (σ → Option ρ) → σ → Option ρ} {r : ρ} (G : σ → Prop) (h : ∀ K : σ → Option ρ, (∀ s, K s = some r → G s) → ∀ s, body K s = some r → G s) : ∀ (n : Nat) (s : σ), loopF body n s = some r → G s
  | 0, _, e => absurd e (by simp [loopF])
  | n + 1, s, e => h (loopF body n) (loopW G h n) s e
theorem okI_in {i : Int32} {n : Nat} (h : okI i n = true) : vp_in i n := by
  unfold okI at h
  rw [Bool.and_eq_true, decide_eq_true_eq, decide_eq_true_eq] at h
  exact vp_in_iff.mpr h
theorem isZ_or {x : Int32} (h : isZ x = true) : x = 0 ∨ x = 1 := by
  unfold isZ at h
  rw [Bool.or_eq_true, beq_iff_eq, beq_iff_eq] at h
  exact h
theorem isZ_nar {x : Int32} (h : isZ x = true) : narrow .boolean (.int x) = .int x := by
  rcases isZ_or h with rfl | rfl <;> rfl
theorem isZ_fit {x : Int32} (h : isZ x = true) : fits .boolean (.int x) = true := by
  rcases isZ_or h with rfl | rfl <;> rfl
theorem ne0_of {x : Int32} (h : (x != 0) = true) : ¬ x = 0 := by
  intro e; subst e; exact absurd h (by decide)
theorem ne0_ofL {x : Int64} (h : (x != 0) = true) : ¬ x = 0 := by
  intro e; subst e; exact absurd h (by decide)
/-! the tables that every contract asks -/
abbrev tys (ty : Nat → ClassId) : List (ClassId × FieldType) := [(ty 0, .int), (ty 1, .byte), (ty 2, .boolean), (ty 3, .object "BedFrontier$Plain"), (ty 4, .object "BedFrontier$House")]
def nestL : List (String × Nat × MethodName × String) := [("BedFrontier", 9, ⟨"BedFrontier$Plain", "<init>", "()V"⟩, "BedFrontier"), ("BedFrontier", 12, ⟨"BedFrontier$Kiss", "<init>", "()V"⟩, "BedFrontier"), ("BedFrontier$Kiss", 1, ⟨"BedFrontier$Plain", "<init>", "()V"⟩, "BedFrontier"), ("BedFrontier", 15, ⟨"BedFrontier$Quarrel", "<init>", "()V"⟩, "BedFrontier"), ("BedFrontier$Quarrel", 1, ⟨"BedFrontier$Plain", "<init>", "()V"⟩, "BedFrontier"), ("BedFrontier", 18, ⟨"BedFrontier$Snoring", "<init>", "()V"⟩, "BedFrontier"), ("BedFrontier$Snoring", 1, ⟨"BedFrontier$Plain", "<init>", "()V"⟩, "BedFrontier"), ("BedFrontier", 21, ⟨"BedFrontier$Cat", "<init>", "()V"⟩, "BedFrontier"), ("BedFrontier$Cat", 1, ⟨"BedFrontier$Kiss", "<init>", "()V"⟩, "BedFrontier"), ("BedFrontier", 24, ⟨"BedFrontier$Lamp", "<init>", "()V"⟩, "BedFrontier"), ("BedFrontier$Lamp", 1, ⟨"BedFrontier$Snoring", "<init>", "()V"⟩, "BedFrontier"), ("BedFrontier$Reader", 89, ⟨"BedFrontier", "within", "(II)Z"⟩, "BedFrontier"), ("BedFrontier$House", 70, ⟨"BedFrontier", "ownHour", "(II)I"⟩, "BedFrontier"), ("BedFrontier$Clerk", 78, ⟨"BedFrontier", "ownHour", "(II)I"⟩, "BedFrontier")]
def castL : List (String × String) := [("BedFrontier$Kiss", "BedFrontier$Plain"), ("BedFrontier$Quarrel", "BedFrontier$Plain"), ("BedFrontier$Snoring", "BedFrontier$Plain"), ("BedFrontier$Cat", "BedFrontier$Plain"), ("BedFrontier$Lamp", "BedFrontier$Plain")]
def KK (D : va_G) (ty : Nat → ClassId) (U : State) : Prop := va_K D vwCl (tys ty) U ∧ (∀ q ∈ nestL, va_Nw (.methodLinkNest q.1 q.2.1 q.2.2.1 q.2.2.2) U) ∧ (∀ q ∈ castL, va_Nw (.castable q.1 q.2) U) ∧ va_AO "BedFrontier$Plain" U ∧ va_AO "BedFrontier$House" U
theorem KK.warm {D : va_G} {ty : Nat → ClassId} {s U : State} (hW : s.WarmedH U.vm) (h : KK D ty s) : KK D ty U := ⟨va_K.moved hW.alike h.1, fun q hq => va_Nw.warmM hW (h.2.1 q hq), fun q hq => va_Nw.warmC hW (h.2.2.1 q hq), h.2.2.2.1.moved hW.alike, h.2.2.2.2.moved hW.alike⟩
theorem KK.same {D : va_G} {ty : Nat → ClassId} {s U : State} (hv : s.vm = U.vm) (h : KK D ty s) : KK D ty U :=
  have ha : s.vm.Alike U.vm := by rw [hv]; exact Vm.Alike.refl U.vm
  ⟨va_K.moved ha h.1, fun q hq => va_Nw.same rfl hv (h.2.1 q hq), fun q hq => va_Nw.same rfl hv (h.2.2.1 q hq), h.2.2.2.1.moved ha, h.2.2.2.2.moved ha⟩
/-! the four contracts: reading (R), changing (M) -/
def PcR (D : va_G) (ty : Nat → ClassId) (av : List Value) (L : va_W) : Array Value → State → Prop := fun v U => v = av.toArray ∧ va_P D vwCl L U.heap ∧ KK D ty U
def PcM (D : va_G) (ty : Nat → ClassId) (av : List Value) (sz : Nat) (L : va_W) : Array Value → State → Prop := fun v U => v = av.toArray ∧ U.heap.size = sz ∧ va_P D vwCl L U.heap ∧ KK D ty U ∧ va_D (fun _ => True) L
def QR (o : Option Value) : Array Value → State → Outcome → State → Prop := fun _ st oc t => oc = .returned o ∧ t.heap = st.heap
def QM (D : va_G) (L' : va_W) (A : Nat → Prop) (o : Option Value) : Array Value → State → Outcome → State → Prop := fun _ st oc t => oc = .returned o ∧ va_P D vwCl L' t.heap ∧ va_D A L' ∧ va_F A st t
theorem PcR.blind {D : va_G} {ty : Nat → ClassId} {av : List Value} {L : va_W} : FrameBlind (PcR D ty av L) := fun _ U g mk h => ⟨h.1, h.2.1, KK.same (s := U) rfl h.2.2⟩
theorem PcM.blind {D : va_G} {ty : Nat → ClassId} {av : List Value} {sz : Nat} {L : va_W} : FrameBlind (PcM D ty av sz L) := fun _ U g mk h => ⟨h.1, h.2.1, h.2.2.1, KK.same (s := U) rfl h.2.2.2.1, h.2.2.2.2⟩
/-- what a body knows of itself -/
def Cx (p : Program) (s : State) (m : MethodId) (args : Array Value) (meth : Method) (c : Code) (own : String) (cc : ByteArray) (nL : Nat) (ret : Option FieldType) : Prop :=
  p.tables.exec = Jvm.exec ∧ c.code = cc ∧ meth.sig.returnType = ret ∧ meth.locks = false ∧ c.maxLocals = nL ∧ s.vm.findClass own = some m.cls ∧ ∀ w ∈ lw_ok, w.before args s = true
theorem hdR {l : Launch} {y : MethodName} {rm : Room} {D : va_G} {ty : Nat → ClassId} {av : List Value} {L : va_W} {o : Option Value} {cc : ByteArray} {maxL : Nat} {ret : Option FieldType} (hy : plainName y.cls = true) (hlen : (lg_sl av).length ≤ maxL)
    (body : ∀ (p : Program) (e : Env) (s : State) (m : MethodId) (below : List Frame) (meth : Method) (c : Code) (ls : Array Slot) (R : Room) (args : Array Value) (Q : State → Prop), Cx p s m args meth c y.cls cc maxL ret → R = rm → Q = MQ below (QR o) args s 0 0 (fun _ => False) → va_P D vwCl L s.heap → KK D ty s → lv_has ls maxL (lv_args 0 av) →
      W p l e R s m args below meth c s.heap [] 0 0 Q (F0 m 0 ls [])) :
    Met l y (Cond.code y cc maxL ret :: lw_ok) rm (PcR D ty av L) (QR o) 0 0 (fun _ => False) := by
  refine Met.ofW (cc := cc) (maxL := maxL) (ret := ret) hy rfl ?_
  intro p e s m args below meth c s₁ B hml hv
  obtain ⟨rfl, hP, hK⟩ := hv
  have hts := atoms_spec (ws := Cond.code y cc maxL ret :: lw_ok) B.pre
  rw [lg_entry_eq]
  exact body p e s m below meth c _ _ _ _ ⟨B.exec, B.bytes, B.returns, B.notSynchronized, hml, findClass_of_methodNamed B.named, fun w h => hts w (List.mem_cons_of_mem _ h)⟩ rfl rfl hP hK (lv_entry av hlen)
theorem hdM {l : Launch} {y : MethodName} {rm : Room} {D : va_G} {ty : Nat → ClassId} {av : List Value} {sz mc ms : Nat} {L L' : va_W} {o : Option Value} {cc : ByteArray} {maxL : Nat} {ret : Option FieldType} (hy : plainName y.cls = true) (hlen : (lg_sl av).length ≤ maxL)
    (body : ∀ (p : Program) (e : Env) (s : State) (m : MethodId) (below : List Frame) (meth : Method) (c : Code) (ls : Array Slot) (R : Room) (args : Array Value) (Q : State → Prop) (A : Nat → Prop), Cx p s m args meth c y.cls cc maxL ret → R = rm → Q = MQ below (QM D L' A o) args s mc ms A → meth.name = y.name → (∀ q : Nat, s.heap.size ≤ q → A q) → va_P D vwCl L s.heap → KK D ty s → va_D A L → va_S A s.heap s.heap [] → lv_has ls maxL (lv_args 0 av) →
      W p l e R s m args below meth c s.heap [] 0 0 Q (F0 m 0 ls [])) :
    Met l y (Cond.code y cc maxL ret :: lw_ok) rm (PcM D ty av sz L) (QM D L' (va_A L sz) o) mc ms (va_A L sz) := by
  refine Met.ofW (cc := cc) (maxL := maxL) (ret := ret) hy rfl ?_
  intro p e s m args below meth c s₁ B hml hv
  obtain ⟨rfl, hsz, hP, hK, hD0⟩ := hv
  subst hsz
  have hts := atoms_spec (ws := Cond.code y cc maxL ret :: lw_ok) B.pre
  rw [lg_entry_eq]
  exact body p e s m below meth c _ _ _ _ _ ⟨B.exec, B.bytes, B.returns, B.notSynchronized, hml, findClass_of_methodNamed B.named, fun w h => hts w (List.mem_cons_of_mem _ h)⟩ rfl rfl (name_of_methodNamed B.named B.method).1 (fun q h => Or.inr h) hP hK (hD0.self) va_S.rf (lv_entry av hlen)
/-! the calls -/
def CalV (y : MethodName) (bytes : ByteArray) (maxL : Nat) (ret : Option FieldType) (n : Nat) : Prop :=
  Cond.instanceMethod y ∈ lw_ok ∧ Cond.selects y.cls y y ∈ lw_ok ∧ Cond.initialized y.cls ∈ lw_ok ∧ Cond.code y bytes maxL ret ∈ lw_ok ∧ y.cls ≠ "java/lang/invoke/MethodHandle" ∧ y.cls ≠ "java/lang/invoke/VarHandle" ∧ (parseMethodDescriptor y.desc).map (fun d => d.parameters.length) = some n
def CalS (y : MethodName) (bytes : ByteArray) (maxL : Nat) (ret : Option FieldType) (n : Nat) : Prop :=
  Cond.static y ∈ lw_ok ∧ Cond.initialized y.cls ∈ lw_ok ∧ Cond.code y bytes maxL ret ∈ lw_ok ∧ y.cls ≠ "java/lang/invoke/MethodHandle" ∧ y.cls ≠ "java/lang/invoke/VarHandle" ∧ (parseMethodDescriptor y.desc).map (fun d => d.parameters.length) = some n
def CalI (y : MethodName) (bytes : ByteArray) (maxL : Nat) (n : Nat) : Prop :=
  Cond.instanceMethod y ∈ lw_ok ∧ Cond.initialized y.cls ∈ lw_ok ∧ Cond.code y bytes maxL none ∈ lw_ok ∧ y.cls ≠ "java/lang/invoke/MethodHandle" ∧ y.cls ≠ "java/lang/invoke/VarHandle" ∧ (parseMethodDescriptor y.desc).map (fun d => d.parameters.length) = some n
theorem good_c {y : MethodName} {bytes : ByteArray} {maxL : Nat} {ret : Option FieldType} (h : Cond.code y bytes maxL ret ∈ lw_ok) : GoodIn lw_ok (Cond.code y bytes maxL ret :: lw_ok) := fun w hw => by
  rcases List.mem_cons.mp hw with rfl | hw
  · exact good_ok _ h
  · exact good_ok _ hw
theorem goodV {own : String} {index : Nat} {y : MethodName} {bytes : ByteArray} {maxL n : Nat} {ret : Option FieldType} (k1 : Cond.methodLink own index y ∈ lw_ok) (h : CalV y bytes maxL ret n) : GoodIn lw_ok (wsV own index y.cls y (Cond.code y bytes maxL ret :: lw_ok)) := fun w hw => by
  obtain ⟨h1, h2, h3, h4, -⟩ := h
  rcases List.mem_append.mp hw with hw | hw
  · simp only [List.mem_cons, List.not_mem_nil, or_false] at hw
    rcases hw with rfl | rfl | rfl | rfl
    · exact good_ok _ k1
    · exact good_ok _ h1
    · exact good_ok _ h2
    · exact good_ok _ h3
  · exact good_c h4 w hw
theorem goodS {own : String} {index : Nat} {y : MethodName} {bytes : ByteArray} {maxL n : Nat} {ret : Option FieldType} (k1 : Cond.methodLink own index y ∈ lw_ok) (h : CalS y bytes maxL ret n) : GoodIn lw_ok (va_wsS own index y (Cond.code y bytes maxL ret :: lw_ok)) := fun w hw => by
  obtain ⟨h1, h2, h3, -⟩ := h
  rcases List.mem_append.mp hw with hw | hw
  · simp only [List.mem_cons, List.not_mem_nil, or_false] at hw
    rcases hw with rfl | rfl | rfl
    · exact good_ok _ k1
    · exact good_ok _ h1
    · exact good_ok _ h2
  · exact good_c h3 w hw
section XC
variable {p : Program} {l : Launch} {e : Env} {R : Room} {s : State} {m : MethodId} {args : Array Value} {below : List Frame} {meth : Method} {c : Code} {H : Heap} {locs : List Loc} {cells slots : Nat} {Q : State → Prop}
variable {D : va_G} {ty : Nat → ClassId} {own : String} {cc bytes : ByteArray} {nL maxL n index mc ms pc sz : Nat} {rc ret : Option FieldType} {y : MethodName} {rm : Room} {As rest st0 st1 : List Value} {b : Nat} {o : Option Value} {ls : Array Slot} {a : Array Value}
variable {A : Nat → Prop} {H0 : Heap}
/-- behind a call that only reads -/
theorem backR (hr : va_Run p l e R s m args below meth c H locs cells slots 0 0 (F0 m pc ls st0) rest (QR o a) (fun _ => False)) (ho : o.toList ++ rest = st1)
    (kk : W p l e R s m args below meth c H locs cells slots Q (F0 m (pc + 3) ls st1)) : W p l e R s m args below meth c H locs cells slots Q (F0 m pc ls st0) := by
  intro T hT X
  obtain ⟨v, st₀, t, T', L, h0, X', hL, e1, e2, ⟨hv, hh⟩, st⟩ := hr T hT X
  cases hv
  subst ho
  obtain ⟨t2, a1, b1⟩ := kk T' (by rw [e1, hh, h0]) (Stand.forget X' (fun q h => (hL q h).elim))
  exact ⟨t2, st t2 a1, b1⟩
/-- behind a call that changes its own cells -/
theorem backM {L Lc Lc' L' : va_W} (hr : va_Run p l e R s m args below meth c H locs cells slots mc ms (F0 m pc ls st0) rest (QM D Lc' (va_A Lc H.size) o a) (va_A Lc H.size)) (hP : va_P D vwCl L H) (hD : va_D A L) (hS : va_S A H0 H locs) (hA : ∀ q, H0.size ≤ q → A q)
    (isC isR pm : List Nat) (Lr : va_W) (hC : isC.map (fun i => L[i]?) = Lc.map some) (hR : isR.map (fun i => L[i]?) = Lr.map some) (hn : va_nd isR = true) (hdis : isR.all (fun i => !(isC.contains i)) = true) (hpn : va_nd pm = true) (hpm : pm.map (fun i => (Lr ++ Lc')[i]?) = L'.map some) (ho : o.toList ++ rest = st1)
    (kk : ∀ (H1 : Heap) (locs1 : List Loc), va_P D vwCl L' H1 → va_D A L' → va_S A H0 H1 locs1 → W p l e R s m args below meth c H1 locs1 (cells + mc) (slots + ms) Q (F0 m (pc + 3) ls st1)) : W p l e R s m args below meth c H locs cells slots Q (F0 m pc ls st0) := by
  intro T hT X
  obtain ⟨v, st₀, t, T', L2, h0, X', hL, e1, e2, ⟨hv, hP1, hD1, hz, hk⟩, st⟩ := hr T hT X
  cases hv
  subst ho
  rw [h0] at hz hk
  have hF : ∀ q, va_A Lc H.size q → A q := va_free hD hS hA isC hC
  have hdis' : ∀ i ∈ isR, i ∉ isC := fun i hi hc => by
    have h1 := List.all_eq_true.mp hdis i hi
    simp [hc] at h1
  obtain ⟨hP2, hD2⟩ := va_join hP hD isC isR hC hR hn hdis' hk hF hP1 hD1
  have hpf : pm.filterMap (fun i => (Lr ++ Lc')[i]?) = L' := by
    have h1 : pm.filterMap (fun i => (Lr ++ Lc')[i]?) = (pm.map (fun i => (Lr ++ Lc')[i]?)).filterMap id := by rw [List.filterMap_map]; rfl
    rw [h1, hpm, List.filterMap_map]
    simp
  obtain ⟨t2, a1, b1⟩ := kk T'.heap (locs ++ L2) (by rw [e1]; exact hP2.sub pm hpf) (hD2.sub pm hpn hpm)
    ⟨Nat.le_trans hS.1 (by rw [e1]; exact hz), fun q h1 h2 => by rw [e1, hk q (Nat.lt_of_lt_of_le h1 hS.1) (fun z => h2 (hF q z))]; exact hS.2.1 q h1 h2, fun q hq => by
      rcases List.mem_append.mp hq with h | h
      · exact hS.2.2 q h
      · exact hF _ (hL q h)⟩ T' rfl X'
  exact ⟨t2, st t2 a1, b1⟩
theorem vR {Lc : va_W} {q0 ci : Nat} {q : vw_C} {fs : List Value} (C0 : Cx p s m args meth c own cc nL rc) (hM : Met l y (Cond.code y bytes maxL ret :: lw_ok) rm (PcR D ty (.ref b :: As) Lc) (QR o) 0 0 (fun _ => False)) (k1 : Cond.methodLink own index y ∈ lw_ok) (h : CalV y bytes maxL ret n) (hK : KK D ty s) (hP : va_P D vwCl Lc H) (hc : vwCl[ci]? = some q) (he : Lc[q0]? = some (b, .inr (ci, fs))) (hq : q.1 = y.cls)
    (hR : rm.frames + 1 ≤ R.frames ∧ 8 + (maxL + 11) + rm.locals ≤ R.locals) (hrc : rm.cells = 0) (hrs : rm.slots = 0) (hn : As.length = n) (hsize : ls.size = nL) (hst : st0 = As.reverse ++ .ref b :: rest) (hW : (rest.map fun v => v.category).sum ≤ 8) (hdg : decode cc pc = .ok (.invokevirtual index, 3)) (hf : cells ≤ R.cells ∧ slots ≤ R.slots) (ho : o.toList ++ rest = st1)
    (kk : W p l e R s m args below meth c H locs cells slots Q (F0 m (pc + 3) ls st1)) : W p l e R s m args below meth c H locs cells slots Q (F0 m pc ls st0) := by
  obtain ⟨hx, hb, -, -, hml, hown, htt⟩ := C0
  exact backR (va_runV (As := As) (rest := rest) ⟨hx, hb, hml, hown, htt⟩ hM (cwV n htt (goodV k1 h) rfl hrc hrs ⟨rfl, h.2.2.2.2⟩ hR) ⟨PcR.blind, by rw [← hq]; exact va_recv hK.1 hP hc he, fun U hU hW => ⟨rfl, by rw [hU]; exact hP, hK.warm hW⟩⟩ rfl hn hsize hst (lv_room hW) hdg hf) ho kk
theorem scR {Lc : va_W} (C0 : Cx p s m args meth c own cc nL rc) (hM : Met l y (Cond.code y bytes maxL ret :: lw_ok) rm (PcR D ty As Lc) (QR o) 0 0 (fun _ => False)) (k1 : Cond.methodLink own index y ∈ lw_ok) (h : CalS y bytes maxL ret n) (hK : KK D ty s) (hP : va_P D vwCl Lc H)
    (hR : rm.frames + 1 ≤ R.frames ∧ 8 + (maxL + 11) + rm.locals ≤ R.locals) (hrc : rm.cells = 0) (hrs : rm.slots = 0) (hn : As.length = n) (hsize : ls.size = nL) (hst : st0 = As.reverse ++ rest) (hW : (rest.map fun v => v.category).sum ≤ 8) (hdg : decode cc pc = .ok (.invokestatic index, 3)) (hf : cells ≤ R.cells ∧ slots ≤ R.slots) (ho : o.toList ++ rest = st1)
    (kk : W p l e R s m args below meth c H locs cells slots Q (F0 m (pc + 3) ls st1)) : W p l e R s m args below meth c H locs cells slots Q (F0 m pc ls st0) := by
  obtain ⟨hx, hb, -, -, hml, hown, htt⟩ := C0
  exact backR (va_runS (As := As) (rest := rest) ⟨hx, hb, hml, hown, htt⟩ hM (va_cwS n htt (goodS k1 h) rfl hrc hrs h.2.2.2 hR) ⟨PcR.blind, fun U hU hW => ⟨rfl, by rw [hU]; exact hP, hK.warm hW⟩⟩ rfl hn hsize hst (lv_room hW) hdg hf) ho kk
theorem snR {Lc : va_W} {host : String} (C0 : Cx p s m args meth c own cc nL rc) (hM : Met l y (Cond.code y bytes maxL ret :: lw_ok) rm (PcR D ty As Lc) (QR o) 0 0 (fun _ => False)) (k1 : (own, index, y, host) ∈ nestL) (h : CalS y bytes maxL ret n) (hK : KK D ty s) (hP : va_P D vwCl Lc H)
    (hR : rm.frames + 1 ≤ R.frames ∧ 8 + (maxL + 11) + rm.locals ≤ R.locals) (hrc : rm.cells = 0) (hrs : rm.slots = 0) (hn : As.length = n) (hsize : ls.size = nL) (hst : st0 = As.reverse ++ rest) (hW : (rest.map fun v => v.category).sum ≤ 8) (hdg : decode cc pc = .ok (.invokestatic index, 3)) (hf : cells ≤ R.cells ∧ slots ≤ R.slots) (ho : o.toList ++ rest = st1)
    (kk : W p l e R s m args below meth c H locs cells slots Q (F0 m (pc + 3) ls st1)) : W p l e R s m args below meth c H locs cells slots Q (F0 m pc ls st0) := by
  obtain ⟨hx, hb, -, -, hml, hown, htt⟩ := C0
  exact backR (va_runSN (As := As) (rest := rest) ⟨hx, hb, hml, hown, htt⟩ hM ⟨va_cnB n htt (good_c h.2.2.1) rfl hrc hrs (hK.2.1 _ k1) (htt _ h.2.1) h.2.2.2 hR, htt _ h.1, trivial⟩ ⟨PcR.blind, fun U hU hW => ⟨rfl, by rw [hU]; exact hP, hK.warm hW⟩⟩ rfl hn hsize hst (lv_room hW) hdg hf) ho kk
theorem vM {L Lc Lc' L' : va_W} {q0 ci : Nat} {q : vw_C} {fs : List Value} (C0 : Cx p s m args meth c own cc nL rc) (hM : Met l y (Cond.code y bytes maxL ret :: lw_ok) rm (PcM D ty (.ref b :: As) H.size Lc) (QM D Lc' (va_A Lc H.size) o) mc ms (va_A Lc H.size)) (k1 : Cond.methodLink own index y ∈ lw_ok) (h : CalV y bytes maxL ret n) (hK : KK D ty s) (hP : va_P D vwCl L H) (hD : va_D A L) (hS : va_S A H0 H locs) (hA : ∀ q, H0.size ≤ q → A q)
    (isC isR pm : List Nat) (Lr : va_W) (hC : isC.map (fun i => L[i]?) = Lc.map some) (hRr : isR.map (fun i => L[i]?) = Lr.map some) (hnC : va_nd isC = true) (hnR : va_nd isR = true) (hdis : isR.all (fun i => !(isC.contains i)) = true) (hpn : va_nd pm = true) (hpm : pm.map (fun i => (Lr ++ Lc')[i]?) = L'.map some)
    (hc : vwCl[ci]? = some q) (he : Lc[q0]? = some (b, .inr (ci, fs))) (hq : q.1 = y.cls)
    (hR : rm.frames + 1 ≤ R.frames ∧ 8 + (maxL + 11) + rm.locals ≤ R.locals) (hrc : rm.cells = mc) (hrs : rm.slots = ms) (hn : As.length = n) (hsize : ls.size = nL) (hst : st0 = As.reverse ++ .ref b :: rest) (hW : (rest.map fun v => v.category).sum ≤ 8) (hdg : decode cc pc = .ok (.invokevirtual index, 3)) (hf : cells + mc ≤ R.cells ∧ slots + ms ≤ R.slots) (ho : o.toList ++ rest = st1)
    (kk : ∀ (H1 : Heap) (locs1 : List Loc), va_P D vwCl L' H1 → va_D A L' → va_S A H0 H1 locs1 → W p l e R s m args below meth c H1 locs1 (cells + mc) (slots + ms) Q (F0 m (pc + 3) ls st1)) : W p l e R s m args below meth c H locs cells slots Q (F0 m pc ls st0) := by
  obtain ⟨hx, hb, -, -, hml, hown, htt⟩ := C0
  have hPc : va_P D vwCl Lc H := hP.sub isC (by
    have h1 : isC.filterMap (fun i => L[i]?) = (isC.map (fun i => L[i]?)).filterMap id := by rw [List.filterMap_map]; rfl
    rw [h1, hC, List.filterMap_map]
    simp)
  have hDc : va_D (fun _ => True) Lc := (hD.sub isC hnC hC).weaken (fun _ _ _ _ => trivial)
  exact backM (va_runV (As := As) (rest := rest) ⟨hx, hb, hml, hown, htt⟩ hM (cwV n htt (goodV k1 h) rfl hrc hrs ⟨rfl, h.2.2.2.2⟩ hR) ⟨PcM.blind, by rw [← hq]; exact va_recv hK.1 hPc hc he, fun U hU hW => ⟨rfl, by rw [hU], by rw [hU]; exact hPc, hK.warm hW, hDc⟩⟩ rfl hn hsize hst (lv_room hW) hdg hf) hP hD hS hA isC isR pm Lr hC hRr hnR hdis hpn hpm ho kk
/-! the ends -/
theorem retR {v : Int32} {fty : FieldType} (C0 : Cx p s m args meth c own cc nL (some fty)) (hn : narrow fty (.int v) = .int v) (hQ : Q = MQ below (QR (some (.int v))) args s 0 0 (fun _ => False)) (hdg : decode cc pc = .ok (.ireturn, 1)) : W p l e R s m args below meth c s.heap [] 0 0 Q (F0 m pc ls [.int v]) := by
  obtain ⟨hx, hb, hr, hlk, -⟩ := C0
  subst hQ
  exact W.zret hx hb hr hn (fun t ht hW => ⟨rfl, ht⟩) (fun q hq => by cases hq) hdg
theorem retRl {v : Int64} (C0 : Cx p s m args meth c own cc nL (some .long)) (hQ : Q = MQ below (QR (some (.long v))) args s 0 0 (fun _ => False)) (hdg : decode cc pc = .ok (.lreturn, 1)) : W p l e R s m args below meth c s.heap [] 0 0 Q (F0 m pc ls [.long v]) := by
  obtain ⟨hx, hb, hr, hlk, -⟩ := C0
  subst hQ
  exact W.lret hx hb hr (fun t ht hW => ⟨rfl, ht⟩) (fun q hq => by cases hq) hdg
theorem retM {v : Int32} {fty : FieldType} {L' : va_W} (C0 : Cx p s m args meth c own cc nL (some fty)) (hn : narrow fty (.int v) = .int v) (hQ : Q = MQ below (QM D L' A (some (.int v))) args s cells slots A) (hP : va_P D vwCl L' H) (hD : va_D A L') (hS : va_S A s.heap H locs) (hdg : decode cc pc = .ok (.ireturn, 1)) : W p l e R s m args below meth c H locs cells slots Q (F0 m pc ls [.int v]) := by
  obtain ⟨hx, hb, hr, hlk, -⟩ := C0
  subst hQ
  exact W.zret hx hb hr hn (fun t ht hW => ⟨rfl, by rw [ht]; exact hP, hD, hS.F ht⟩) hS.2.2 hdg
theorem retMl {v : Int64} {L' : va_W} (C0 : Cx p s m args meth c own cc nL (some .long)) (hQ : Q = MQ below (QM D L' A (some (.long v))) args s cells slots A) (hP : va_P D vwCl L' H) (hD : va_D A L') (hS : va_S A s.heap H locs) (hdg : decode cc pc = .ok (.lreturn, 1)) : W p l e R s m args below meth c H locs cells slots Q (F0 m pc ls [.long v]) := by
  obtain ⟨hx, hb, hr, hlk, -⟩ := C0
  subst hQ
  exact W.lret hx hb hr (fun t ht hW => ⟨rfl, by rw [ht]; exact hP, hD, hS.F ht⟩) hS.2.2 hdg
theorem retMv {L' : va_W} (C0 : Cx p s m args meth c own cc nL none) (hQ : Q = MQ below (QM D L' A none) args s cells slots A) (hP : va_P D vwCl L' H) (hD : va_D A L') (hS : va_S A s.heap H locs) (hdg : decode cc pc = .ok (.return_, 1)) : W p l e R s m args below meth c H locs cells slots Q (F0 m pc ls []) := by
  obtain ⟨hx, hb, hr, hlk, -⟩ := C0
  subst hQ
  exact W.vret hx hb hr (fun t ht hW => ⟨rfl, by rw [ht]; exact hP, hD, hS.F ht⟩) hS.2.2 hdg
end XC
theorem pfI : parseFieldDescriptor "I" = some .int := by decide +kernel
theorem pfZ : parseFieldDescriptor "Z" = some .boolean := by decide +kernel
theorem pfJ : parseFieldDescriptor "J" = some .long := by decide +kernel
