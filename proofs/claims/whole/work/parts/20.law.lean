abbrev L_fimrgchk (ty : Nat → ClassId) (fA mA rA gA cA hA kA : Nat → Nat) (pv : Value) (sF : PW) (sI : Nat → Option Nat) (sM : PW) (sN : PL) (sR : PW) (sG : PW) (sC : PW) (sH : PW) : va_W := [(fA 0, .inr (10, [.ref (hA 0), .ref (rA 0), .ref (cA 0), .ref (fA 4), pv, .int (sF 5 0), .int (sF 6 0), .int (sF 7 0), .int (sF 8 0), .int (sF 9 0)])), (fA 4, .inl (ty 4, 2, .inr (.inr (.inr (.inr sI))))), (mA 0, .inr (11, [.ref (mA 1), .long (sN 1), .long (sN 2), .ref (mA 4), .ref (mA 5), .int (sM 5 0), .int (sM 6 0), .int (sM 7 0), .int (sM 8 0), .int (sM 9 0), .ref (mA 11), .int (sM 11 0), .int (sM 12 0), .ref (mA 14), .int (sM 14 0), .ref (mA 16), .ref (mA 17), .long (sN 17), .ref (mA 19), .ref (mA 20), .ref (mA 21), .ref (mA 22)])), (mA 1, .inl (ty 0, 53, .inl (sM 0))), (mA 4, .inl (ty 0, 3, .inl (sM 3))), (mA 5, .inl (ty 0, 150, .inl (sM 4))), (mA 11, .inl (ty 0, 2, .inl (sM 10))), (mA 14, .inl (ty 0, 32, .inl (sM 13))), (mA 16, .inl (ty 0, 3200, .inl (sM 15))), (mA 17, .inl (ty 0, 4, .inl (sM 16))), (mA 19, .inl (ty 2, 2, .inl (sM 18))), (mA 20, .inl (ty 0, 106, .inl (sM 19))), (mA 21, .inl (ty 0, 64, .inl (sM 20))), (mA 22, .inl (ty 0, 2, .inl (sM 21))), (rA 0, .inr (7, [.ref (gA 0), .ref (rA 2), .int (sR 2 0), .int (sR 3 0), .int (sR 4 0), .int (sR 5 0), .int (sR 6 0)])), (rA 2, .inl (ty 1, 150, .inl (sR 1))), (gA 0, .inr (6, [.ref (kA 0), .ref (gA 2), .ref (gA 3), .ref (gA 4), .ref (gA 5), .ref (gA 6), .ref (gA 7), .int (sG 7 0), .int (sG 8 0), .int (sG 9 0), .int (sG 10 0), .int (sG 11 0), .int (sG 12 0), .int (sG 13 0), .int (sG 14 0)])), (gA 2, .inl (ty 0, 2, .inl (sG 1))), (gA 3, .inl (ty 0, 2, .inl (sG 2))), (gA 4, .inl (ty 0, 6, .inl (sG 3))), (gA 5, .inl (ty 0, 6, .inl (sG 4))), (gA 6, .inl (ty 0, 30, .inl (sG 5))), (gA 7, .inl (ty 0, 32, .inl (sG 6))), (cA 0, .inr (8, [.ref (hA 0), .ref (cA 2)])), (cA 2, .inl (ty 0, 6, .inl (sC 1))), (hA 0, .inr (6, [.ref (kA 0), .ref (hA 2), .ref (hA 3), .ref (hA 4), .ref (hA 5), .ref (hA 6), .ref (hA 7), .int (sH 7 0), .int (sH 8 0), .int (sH 9 0), .int (sH 10 0), .int (sH 11 0), .int (sH 12 0), .int (sH 13 0), .int (sH 14 0)])), (hA 2, .inl (ty 0, 2, .inl (sH 1))), (hA 3, .inl (ty 0, 2, .inl (sH 2))), (hA 4, .inl (ty 0, 6, .inl (sH 3))), (hA 5, .inl (ty 0, 6, .inl (sH 4))), (hA 6, .inl (ty 0, 30, .inl (sH 5))), (hA 7, .inl (ty 0, 32, .inl (sH 6))), (kA 0, .inl (ty 3, 6, .inr (.inr (.inr (.inr (fun i => some (kA (i + 1)))))))), (kA 1, .inr (0, [])), (kA 2, .inr (1, [])), (kA 3, .inr (2, [])), (kA 4, .inr (3, [])), (kA 5, .inr (4, [])), (kA 6, .inr (5, []))]
/-! ===== the law ===== -/
abbrev PO : Type := Option ((Nat → Nat) × PW)
def pvO (po : PO) : Value := match po with
  | none => .null
  | some x => .ref (x.1 0)
def imO (o0 o1 : PO) : Nat → Option Nat := fun i => match i with
  | 0 => o0.map (fun x => x.1 0)
  | 1 => o1.map (fun x => x.1 0)
  | _ => none
def xP (ty : Nat → ClassId) (hA : Nat → Nat) (po : PO) : va_W := match po with
  | none => []
  | some x => L_p ty x.1 hA x.2
def xO (ty : Nat → ClassId) (kA : Nat → Nat) (o : PO) : va_W := match o with
  | none => []
  | some x => L_o ty x.1 kA x.2
abbrev Relt : Type := Option PW → Option PW → PW → PW → PW → PW → PL → Prop
abbrev LL (ty : Nat → ClassId) (fA mA rA gA cA hA kA : Nat → Nat) (po o0 o1 : PO) (sF sM : PW) (sN : PL) (sR sG sC sH : PW) : va_W := (L_fimrgchk ty fA mA rA gA cA hA kA (pvO po) sF (imO o0 o1) sM sN sR sG sC sH) ++ (xP ty hA po ++ (xO ty kA o0 ++ xO ty kA o1))
def LC (p : Program) (s : State) (m : MethodId) (meth : Method) (c : Code) (b L : Nat) (xs : Nat → Int32) (D : va_G) (ty : Nat → ClassId) (aK aV : Nat → Nat) : Prop :=
  Cx p s m #[Value.ref b] meth c "BedFrontierLaw" code 4 ret ∧ KK D ty s ∧ TX aK aV (fun q => s.heap.size ≤ q) s s.heap ∧ va_X b L xs s s.heap ∧ b < s.heap.size ∧ L ≤ 384
def Nx (p : Program) (l : Launch) (e : Env) (s : State) (m : MethodId) (below : List Frame) (meth : Method) (c : Code) (b : Nat) (D : va_G) (ty : Nat → ClassId) (fA mA rA gA cA hA kA : Nat → Nat) (Rel : Relt) (pc i bc bs : Nat) : Prop :=
  ∀ (po o0 o1 : PO) (sF sM : PW) (sN : PL) (sR sG sC sH : PW) (H : Heap) (locs : List Loc) (ls : Array Slot) (cells slots : Nat), Rel (o0.map Prod.snd) (o1.map Prod.snd) sF sR sH sM sN → Wd D (fun q => s.heap.size ≤ q) (LL ty fA mA rA gA cA hA kA po o0 o1 sF sM sN sR sG sC sH) H → va_S (fun q => s.heap.size ≤ q) s.heap H locs → lv_has ls 4 [(0, .ref b), (1, .ref (fA 0)), (2, .ref (mA 0)), (3, .int (nI i))] → cells ≤ bc → slots ≤ bs →
    W p l e room_1 s m #[Value.ref b] below meth c H locs cells slots (lw_Z below #[Value.ref b] s) (F0 m pc ls [])
theorem vp_j {i L : Nat} (j : Nat) {J : Int32} (hj : J = nI j) (h : i + j < L) (hL : L ≤ 384) : vp_in (nI i + J) L := by rw [hj, nI_add]; exact vp_in_nI h (by omega)
theorem lg_same (x : Int64) : lg_cmp x x = 0 := by simp [lg_cmp]
theorem im_up0 {o0 o1 : PO} {oA : Nat → Nat} {t : PW} : va_up (imO o0 o1) (0 : Int32).toNatClampNeg (some (oA 0)) = imO (some (oA, t)) o1 := by
  funext j
  match j with
  | 0 => rfl
  | 1 => rfl
  | j + 2 => rfl
theorem im_up1 {o0 o1 : PO} {oA : Nat → Nat} {t : PW} : va_up (imO o0 o1) (1 : Int32).toNatClampNeg (some (oA 0)) = imO o0 (some (oA, t)) := by
  funext j
  match j with
  | 0 => rfl
  | 1 => rfl
  | j + 2 => rfl
theorem im_none {o0 o1 : PO} {a : Int32} (g : okI a 2 = true) (h0 : a = 0 → o0.map Prod.snd = none) (h1 : a = 1 → o1.map Prod.snd = none) : imO o0 o1 a.toNatClampNeg = none := by
  obtain ⟨j, hj, rfl⟩ := vp_in_of (okI_in g) (by decide)
  rcases (show j = 0 ∨ j = 1 by omega) with rfl | rfl
  · have := h0 rfl
    cases o0 with
    | none => rfl
    | some x => cases this
  · have := h1 rfl
    cases o1 with
    | none => rfl
    | some x => cases this
theorem hAb {s : State} : ∀ q : Nat, s.heap.size ≤ q → (fun q => s.heap.size ≤ q) q := fun _ h => h

def Op_house (Rel : Relt) : Prop := ∀ (i0 i1 : Option PW) (sF sR sH sM : PW) (sN : PL), Rel i0 i1 sF sR sH sM sN → ∀ (a1 : Int32) , ∃ (rr : Int32) (tF : PW) (tH : PW) (tM : PW) (tN : PL), f_Face_house sF sH a1 = some (rr, tF, tH) ∧ f_Model_house sM sN a1 = some (rr, tM, tN) ∧ Rel i0 i1 tF sR tH tM tN
def Op_rate (Rel : Relt) : Prop := ∀ (i0 i1 : Option PW) (sF sR sH sM : PW) (sN : PL), Rel i0 i1 sF sR sH sM sN → ∀ (a1 a2 : Int32) , ∃ (rr : Int32) (tF : PW) (tH : PW) (tM : PW) (tN : PL), f_Face_rate sF sH a1 a2 = some (rr, tF, tH) ∧ f_Model_rate sM sN a1 a2 = some (rr, tM, tN) ∧ Rel i0 i1 tF sR tH tM tN
def Op_bar (Rel : Relt) : Prop := ∀ (i0 i1 : Option PW) (sF sR sH sM : PW) (sN : PL), Rel i0 i1 sF sR sH sM sN → ∀ (a1 a2 : Int32) , ∃ (rr : Int32) (tF : PW) (tH : PW) (tM : PW) (tN : PL), f_Face_bar sF sH a1 a2 = some (rr, tF, tH) ∧ f_Model_bar sM sN a1 a2 = some (rr, tM, tN) ∧ Rel i0 i1 tF sR tH tM tN
def Op_doing (Rel : Relt) : Prop := ∀ (i0 i1 : Option PW) (sF sR sH sM : PW) (sN : PL), Rel i0 i1 sF sR sH sM sN → ∀ (a1 a2 : Int32) , ∃ (rr : Int32) (tF : PW) (tH : PW) (tM : PW) (tN : PL), f_Face_doing sF sH a1 a2 = some (rr, tF, tH) ∧ f_Model_doing sM sN a1 a2 = some (rr, tM, tN) ∧ Rel i0 i1 tF sR tH tM tN
def Op_type (Rel : Relt) : Prop := ∀ (i0 i1 : Option PW) (sF sR sH sM : PW) (sN : PL), Rel i0 i1 sF sR sH sM sN → ∀ (a1 : Int32) , ∃ (rr : Int32) (tF : PW) (tR : PW) (tM : PW) (tN : PL), f_Face_type sF sR a1 = some (rr, tF, tR) ∧ f_Model_type sM sN a1 = some (rr, tM, tN) ∧ Rel i0 i1 tF tR sH tM tN
def Op_clear (Rel : Relt) : Prop := ∀ (i0 i1 : Option PW) (sF sR sH sM : PW) (sN : PL), Rel i0 i1 sF sR sH sM sN → ∀ (_ : Unit), ∃ (rr : Int32) (tR : PW) (tM : PW) (tN : PL), f_Face_clear sF sR = some (rr, tR) ∧ f_Model_clear sM sN = some (rr, tM, tN) ∧ Rel i0 i1 sF tR sH tM tN
def Op_read (Rel : Relt) : Prop := ∀ (i0 i1 : Option PW) (sF sR sH sM : PW) (sN : PL) (sG : PW), Rel i0 i1 sF sR sH sM sN → ∀ (_ : Unit), ∃ (rr : Int32) (tR : PW) (tG : PW) (tH : PW) (tM : PW) (tN : PL), f_Face_read sF sR sG sH = some (rr, tR, tG, tH) ∧ f_Model_read sM sN = some (rr, tM, tN) ∧ Rel i0 i1 sF tR tH tM tN
def Op_does (Rel : Relt) : Prop := ∀ (i0 i1 : Option PW) (sF sR sH sM : PW) (sN : PL), Rel i0 i1 sF sR sH sM sN → ∀ (a1 a2 : Int32) , ∃ (rr : Int32) (tF : PW) (tH : PW) (tM : PW) (tN : PL), f_Face_does sF sH a1 a2 = some (rr, tF, tH) ∧ f_Model_does sM sN a1 a2 = some (rr, tM, tN) ∧ Rel i0 i1 tF sR tH tM tN
def Op_waits (Rel : Relt) : Prop := ∀ (i0 i1 : Option PW) (sF sR sH sM : PW) (sN : PL), Rel i0 i1 sF sR sH sM sN → ∀ (a1 : Int32) , ∃ (rr : Int32) (tF : PW) (tH : PW) (tM : PW) (tN : PL), f_Face_waits sF sH a1 = some (rr, tF, tH) ∧ f_Model_waits sM sN a1 = some (rr, tM, tN) ∧ Rel i0 i1 tF sR tH tM tN
def Op_war (Rel : Relt) : Prop := ∀ (i0 i1 : Option PW) (sF sR sH sM : PW) (sN : PL), Rel i0 i1 sF sR sH sM sN → ∀ (a1 : Int32) , ∃ (rr : Int32) (tF : PW) (tH : PW) (tM : PW) (tN : PL), f_Face_war sF sH a1 = some (rr, tF, tH) ∧ f_Model_war sM sN a1 = some (rr, tM, tN) ∧ Rel i0 i1 tF sR tH tM tN
def Op_undo (Rel : Relt) : Prop := ∀ (i0 i1 : Option PW) (sF sR sH sM : PW) (sN : PL), Rel i0 i1 sF sR sH sM sN → ∀ (_ : Unit), ∃ (rr : Int32) (tF : PW) (tH : PW) (tM : PW) (tN : PL), f_Face_undo sF sH = some (rr, tF, tH) ∧ f_Model_undo sM sN = some (rr, tM, tN) ∧ Rel i0 i1 tF sR tH tM tN
def Op_of (Rel : Relt) : Prop := ∀ (i0 i1 : Option PW) (sF sR sH sM : PW) (sN : PL), Rel i0 i1 sF sR sH sM sN → ∀ (a1 a2 : Int32) , ∃ (rr : Int32) (tF : PW) (tM : PW) (tN : PL), f_Face_of sF sH a1 a2 = some (rr, tF) ∧ f_Model_of sM sN a1 a2 = some (rr, tM, tN) ∧ Rel i0 i1 tF sR sH tM tN
def Op_now (Rel : Relt) : Prop := ∀ (i0 i1 : Option PW) (sF sR sH sM : PW) (sN : PL), Rel i0 i1 sF sR sH sM sN → ∀ (a1 : Int32) , ∃ (rr : Int32) (tF : PW) (tM : PW) (tN : PL), f_Face_now sF sH a1 = some (rr, tF) ∧ f_Model_now sM sN a1 = some (rr, tM, tN) ∧ Rel i0 i1 tF sR sH tM tN
def Op_due (Rel : Relt) : Prop := ∀ (i0 i1 : Option PW) (sF sR sH sM : PW) (sN : PL), Rel i0 i1 sF sR sH sM sN → ∀ (a1 a2 a3 : Int32) , ∃ (rr : Int32) (tF : PW) (tM : PW) (tN : PL), f_Face_due sF sH a1 a2 a3 = some (rr, tF) ∧ f_Model_due sM sN a1 a2 a3 = some (rr, tM, tN) ∧ Rel i0 i1 tF sR sH tM tN
def Op_both (Rel : Relt) : Prop := ∀ (i0 i1 : Option PW) (sF sR sH sM : PW) (sN : PL) (sC : PW), Rel i0 i1 sF sR sH sM sN → ∀ (a1 a2 : Int32) , ∃ (rr : Int32) (tF : PW) (tM : PW) (tN : PL), f_Face_both sF sC sH a1 a2 = some (rr, tF) ∧ f_Model_both sM sN a1 a2 = some (rr, tM, tN) ∧ Rel i0 i1 tF sR sH tM tN
def Op_least (Rel : Relt) : Prop := ∀ (i0 i1 : Option PW) (sF sR sH sM : PW) (sN : PL), Rel i0 i1 sF sR sH sM sN → ∀ (a1 : Int32) , ∃ (rr : Int32) (tM : PW) (tN : PL), f_Model_least sM sN a1 = some (rr, tM, tN) ∧ (∀ sP : PW, ∃ tF tP : PW, f_Face_least_p sF sP sH a1 = some (rr, tF, tP) ∧ Rel i0 i1 tF sR sH tM tN) ∧ ((∃ tF : PW, f_Face_least_r sF sH a1 = some (rr, tF) ∧ Rel i0 i1 tF sR sH tM tN) ∨ ∃ tP : PW, f_Face_least_a sF sH a1 = some (rr, tP) ∧ Rel i0 i1 sF sR sH tM tN)
def Op_before (Rel : Relt) : Prop := ∀ (i0 i1 : Option PW) (sF sR sH sM : PW) (sN : PL), Rel i0 i1 sF sR sH sM sN → ∀ (a1 a2 a3 a4 : Int32) , ∃ (rr : Int32) (tF : PW) (tM : PW) (tN : PL), f_Face_before sF a1 a2 a3 a4 = some (rr, tF) ∧ f_Model_before sM sN a1 a2 a3 a4 = some (rr, tM, tN) ∧ Rel i0 i1 tF sR sH tM tN
def Op_child (Rel : Relt) : Prop := ∀ (i0 i1 : Option PW) (sF sR sH sM : PW) (sN : PL), Rel i0 i1 sF sR sH sM sN → ∀ (a1 : Int32) , ∃ (rr : Int32) (tF : PW) (tM : PW) (tN : PL), f_Face_child sF a1 = some (rr, tF) ∧ f_Model_child sM sN a1 = some (rr, tM, tN) ∧ Rel i0 i1 tF sR sH tM tN
def Op_where (Rel : Relt) : Prop := ∀ (i0 i1 : Option PW) (sF sR sH sM : PW) (sN : PL) (sC : PW), Rel i0 i1 sF sR sH sM sN → ∀ (a1 : Int32) , ∃ (rr : Int32) (tF : PW) (tM : PW) (tN : PL), f_Face_where sF sC sH a1 = some (rr, tF) ∧ f_Model_where sM sN a1 = some (rr, tM, tN) ∧ Rel i0 i1 tF sR sH tM tN
def Op_bars (Rel : Relt) : Prop := ∀ (i0 i1 : Option PW) (sF sR sH sM : PW) (sN : PL) (sC : PW), Rel i0 i1 sF sR sH sM sN → ∀ (a1 : Int32) , ∃ (rr : Int32) (tF : PW) (tM : PW) (tN : PL), f_Face_bars sF sC sH a1 = some (rr, tF) ∧ f_Model_bars sM sN a1 = some (rr, tM, tN) ∧ Rel i0 i1 tF sR sH tM tN
def Op_note (Rel : Relt) : Prop := ∀ (i0 i1 : Option PW) (sF sR sH sM : PW) (sN : PL), Rel i0 i1 sF sR sH sM sN → ∀ (a1 a2 a3 a4 a5 : Int32) , ∃ (rr : Int32) (tF : PW) (tH : PW) (tM : PW) (tN : PL), f_Face_note sF sH a1 a2 a3 a4 a5 = some (rr, tF, tH) ∧ f_Model_note sM sN a1 a2 a3 a4 a5 = some (rr, tM, tN) ∧ Rel i0 i1 tF sR tH tM tN
def Op_forget (Rel : Relt) : Prop := ∀ (i0 i1 : Option PW) (sF sR sH sM : PW) (sN : PL), Rel i0 i1 sF sR sH sM sN → ∀ (_ : Unit), ∃ (rr : Int32) (tH : PW) (tM : PW) (tN : PL), f_Face_forget sF sH = some (rr, tH) ∧ f_Model_forget sM sN = some (rr, tM, tN) ∧ Rel i0 i1 sF sR tH tM tN
def Op_is (Rel : Relt) : Prop := ∀ (i0 i1 : Option PW) (sF sR sH sM : PW) (sN : PL) (sC : PW), Rel i0 i1 sF sR sH sM sN → ∀ (a1 : Int32) , ∃ (rr : Int32) (tF : PW) (tM : PW) (tN : PL), f_Face_is sF sC sH a1 = some (rr, tF) ∧ f_Model_is sM sN a1 = some (rr, tM, tN) ∧ Rel i0 i1 tF sR sH tM tN
def Op_look (Rel : Relt) : Prop := ∀ (i0 i1 : Option PW) (sF sR sH sM : PW) (sN : PL) (sC : PW), Rel i0 i1 sF sR sH sM sN → ∀ (a1 a2 : Int32) , ∃ (rr : Int32) (tF : PW) (tC : PW) (tM : PW) (tN : PL), f_Face_look sF sC sH a1 a2 = some (rr, tF, tC) ∧ f_Model_look sM sN a1 a2 = some (rr, tM, tN) ∧ Rel i0 i1 tF sR sH tM tN
def Op_wars (Rel : Relt) : Prop := ∀ (i0 i1 : Option PW) (sF sR sH sM : PW) (sN : PL) (sC : PW), Rel i0 i1 sF sR sH sM sN → ∀ (a1 a2 : Int32) , ∃ (rr : Int32) (tF : PW) (tM : PW) (tN : PL), f_Face_wars sF sC sH a1 a2 = some (rr, tF) ∧ f_Model_wars sM sN a1 a2 = some (rr, tM, tN) ∧ Rel i0 i1 tF sR sH tM tN
def Op_sentry (Rel : Relt) : Prop := ∀ (i0 i1 : Option PW) (sF sR sH sM : PW) (sN : PL) (sC : PW), Rel i0 i1 sF sR sH sM sN → ∀ (a1 a2 : Int32) , ∃ (rr : Int32) (tF : PW) (tM : PW) (tN : PL), f_Face_sentry sF sC sH a1 a2 = some (rr, tF) ∧ f_Model_sentry sM sN a1 a2 = some (rr, tM, tN) ∧ Rel i0 i1 tF sR sH tM tN
def Op_days (Rel : Relt) : Prop := ∀ (i0 i1 : Option PW) (sF sR sH sM : PW) (sN : PL) (sC : PW), Rel i0 i1 sF sR sH sM sN → ∀ (a1 a2 : Int32) , ∃ (rr : Int32) (tF : PW) (tM : PW) (tN : PL), f_Face_days sF sC sH a1 a2 = some (rr, tF) ∧ f_Model_days sM sN a1 a2 = some (rr, tM, tN) ∧ Rel i0 i1 tF sR sH tM tN
def Op_part (Rel : Relt) : Prop := ∀ (i0 i1 : Option PW) (sF sR sH sM : PW) (sN : PL), Rel i0 i1 sF sR sH sM sN → ∀ (a1 : Int32) , ∃ (rr : Int64) (tF : PW) (tM : PW) (tN : PL), f_Face_part sF a1 = some (rr, tF) ∧ f_Model_part sM sN a1 = some (rr, tM, tN) ∧ Rel i0 i1 tF sR sH tM tN
def Op_image (Rel : Relt) : Prop := ∀ (i0 i1 : Option PW) (sF sR sH sM : PW) (sN : PL), Rel i0 i1 sF sR sH sM sN → ∀ (a1 : Int32) , ∃ (rr : Int32) (tM : PW) (tN : PL), f_Model_image sM sN a1 = some (rr, tM, tN) ∧ ((∃ tF : PW, f_Face_image_r sF a1 = some (rr, tF) ∧ Rel i0 i1 tF sR sH tM tN) ∨ (a1 = 0 ∧ ∀ sI : Nat → Option Nat, (∀ sO : PW, i0 = some sO → ∃ tF tO : PW, f_Face_image_p sF sI sH sO a1 = some (rr, tF, tO) ∧ Rel (some tO) i1 tF sR sH tM tN) ∧ (i0 = none → ∃ tO : PW, f_Face_image_a sF sI sH a1 = some (rr, tO) ∧ Rel (some tO) i1 sF sR sH tM tN)) ∨ (a1 = 1 ∧ ∀ sI : Nat → Option Nat, (∀ sO : PW, i1 = some sO → ∃ tF tO : PW, f_Face_image_p sF sI sH sO a1 = some (rr, tF, tO) ∧ Rel i0 (some tO) tF sR sH tM tN) ∧ (i1 = none → ∃ tO : PW, f_Face_image_a sF sI sH a1 = some (rr, tO) ∧ Rel i0 (some tO) sF sR sH tM tN)))
def Op_from (Rel : Relt) : Prop := ∀ (i0 i1 : Option PW) (sF sR sH sM : PW) (sN : PL), Rel i0 i1 sF sR sH sM sN → ∀ (a1 : Int32) , ∃ (rr : Int32) (tM : PW) (tN : PL), f_Model_from sM sN a1 = some (rr, tM, tN) ∧ ((a1 = 0 ∧ ∃ sO : PW, i0 = some sO ∧ ∀ sI : Nat → Option Nat, ∃ tF tH : PW, f_Face_from_p sF sI sH sO a1 = some (rr, tF, tH) ∧ Rel i0 i1 tF sR tH tM tN) ∨ (a1 = 1 ∧ ∃ sO : PW, i1 = some sO ∧ ∀ sI : Nat → Option Nat, ∃ tF tH : PW, f_Face_from_p sF sI sH sO a1 = some (rr, tF, tH) ∧ Rel i0 i1 tF sR tH tM tN) ∨ ((a1 = 0 → i0 = none) ∧ (a1 = 1 → i1 = none) ∧ ∀ sI : Nat → Option Nat, ∃ tF : PW, f_Face_from_n sF sI a1 = some (rr, tF) ∧ Rel i0 i1 tF sR sH tM tN))
def Op_status (Rel : Relt) : Prop := ∀ (i0 i1 : Option PW) (sF sR sH sM : PW) (sN : PL), Rel i0 i1 sF sR sH sM sN → ∀ (a1 : Int32) , ∃ (rr : Int32) (tF : PW) (tM : PW) (tN : PL), f_Face_status sF a1 = some (rr, tF) ∧ f_Model_status sM sN a1 = some (rr, tM, tN) ∧ Rel i0 i1 tF sR sH tM tN
def Op_count (Rel : Relt) : Prop := ∀ (i0 i1 : Option PW) (sF sR sH sM : PW) (sN : PL), Rel i0 i1 sF sR sH sM sN → ∀ (a1 : Int32) , ∃ (rr : Int32) (tF : PW) (tM : PW) (tN : PL), f_Face_count sF sR sH a1 = some (rr, tF) ∧ f_Model_count sM sN a1 = some (rr, tM, tN) ∧ Rel i0 i1 tF sR sH tM tN
def Op_digest (Rel : Relt) : Prop := ∀ (i0 i1 : Option PW) (sF sR sH sM : PW) (sN : PL), Rel i0 i1 sF sR sH sM sN → ∀ (_ : Unit), ∃ (rr : Int64), f_Face_digest sF sR sH = some rr ∧ f_Model_digest sM sN = some rr ∧ Rel i0 i1 sF sR sH sM sN
set_option maxHeartbeats 4000000 in
set_option maxRecDepth 100000 in
theorem lc_house {p : Program} {l : Launch} {e : Env} {s : State} {m : MethodId} {below : List Frame} {meth : Method} {c : Code} {b L : Nat} {xs : Nat → Int32} {D : va_G} {ty : Nat → ClassId} {fA mA rA gA cA hA kA aK aV : Nat → Nat} {Rel : Relt} {i : Nat} (hC : LC p s m meth c b L xs D ty aK aV) (hN : Nx p l e s m below meth c b D ty fA mA rA gA cA hA kA Rel 1081 i (1010 + 10 * i) (14000 + 4000 * i)) (hi : i + 6 ≤ L) (op : Op_house Rel) : Nx p l e s m below meth c b D ty fA mA rA gA cA hA kA Rel 180 i (1000 + 10 * i) (10000 + 4000 * i) := by
  intro po o0 o1 sF sM sN sR sG sC sH H locs ls cells slots hRel hw hS hl hcb hsb
  obtain ⟨C0, hK, hT, hX, hbl, hL⟩ := id hC
  obtain ⟨hx, hb, hr, hlk, hml, hown, htt⟩ := id C0
  have hbA : ¬ (fun q => s.heap.size ≤ q) b := Nat.not_le.mpr hbl
  obtain ⟨rr, tF, tH, tM, tN, e1, e2, hRel⟩ := op _ _ _ _ _ _ _ hRel (xs (nI i + (1 : Int32)).toNatClampNeg)
  refine lv_aload_n hx hb d_Law_law_180 rfl (lv_at hl 1 rfl) ?_
  refine lv_aload_n hx hb d_Law_law_181 rfl (lv_at hl 0 rfl) ?_
  refine lv_iload_n hx hb d_Law_law_182 rfl (lv_at hl 3 rfl) ?_
  refine lv_iconst (v := (1 : Int32)) hx hb d_Law_law_183 (by decide) ?_
  refine lv_iadd hx hb d_Law_law_184 ?_
  refine va_sld hx hb hX hbl hbA hS (vp_j 1 rfl (by omega) hL) d_Law_law_185 ?_
  refine vX (B := (L_fimrgchk ty fA mA rA gA cA hA kA (pvO po) sF (imO o0 o1) sM sN sR sG sC sH)) (B' := (L_fimrgchk ty fA mA rA gA cA hA kA (pvO po) tF (imO o0 o1) sM sN sR sG sC tH)) (Lc := (L_fh ty fA rA cA hA kA (pvO po) sF sH)) (Lc' := (L_fh ty fA rA cA hA kA (pvO po) tF tH)) (rest := []) C0 (c_Face_house l D ty fA rA cA hA kA (pvO po) H.size sF sH (xs (nI i + (1 : Int32)).toNatClampNeg) rr tF tH e1) PcM.blind k_230 cal_Face_house hw hS hAb [0, 25, 26, 27, 28, 29, 30, 31] rfl (by decide) rfl rfl (fun hPc => va_recv hK.1 hPc (ci := 10) (q0 := 0) rfl rfl) (fun hPc hDc hF U hU hW => ⟨rfl, by rw [hU], by rw [hU]; exact hPc, hK.warm hW, hDc⟩) ⟨by decide, by decide⟩ rfl rfl rfl hl.1 rfl (Nat.le_of_ble_eq_true rfl) d_Law_law_186 ⟨by show _ ≤ 600000; omega, by show _ ≤ 7302250; omega⟩ rfl (fun H locs hw hS => ?_)
  refine lv_aload_n hx hb d_Law_law_189 rfl (lv_at hl 2 rfl) ?_
  refine lv_aload_n hx hb d_Law_law_190 rfl (lv_at hl 0 rfl) ?_
  refine lv_iload_n hx hb d_Law_law_191 rfl (lv_at hl 3 rfl) ?_
  refine lv_iconst (v := (1 : Int32)) hx hb d_Law_law_192 (by decide) ?_
  refine lv_iadd hx hb d_Law_law_193 ?_
  refine va_sld hx hb hX hbl hbA hS (vp_j 1 rfl (by omega) hL) d_Law_law_194 ?_
  refine vX (B := (L_fimrgchk ty fA mA rA gA cA hA kA (pvO po) tF (imO o0 o1) sM sN sR sG sC tH)) (B' := (L_fimrgchk ty fA mA rA gA cA hA kA (pvO po) tF (imO o0 o1) tM tN sR sG sC tH)) (Lc := (L_m ty mA sM sN)) (Lc' := (L_m ty mA tM tN)) (rest := [.int rr]) C0 (c_Model_house l D ty mA H.size sM sN (xs (nI i + (1 : Int32)).toNatClampNeg) rr tM tN e2) PcM.blind k_840 cal_Model_house hw hS hAb [2, 3, 4, 5, 6, 7, 8, 9, 10, 11, 12, 13] rfl (by decide) rfl rfl (fun hPc => va_recv hK.1 hPc (ci := 11) (q0 := 0) rfl rfl) (fun hPc hDc hF U hU hW => ⟨rfl, by rw [hU], by rw [hU]; exact hPc, hK.warm hW, hDc⟩) ⟨by decide, by decide⟩ rfl rfl rfl hl.1 rfl (Nat.le_of_ble_eq_true rfl) d_Law_law_195 ⟨by show _ ≤ 600000; omega, by show _ ≤ 7302250; omega⟩ rfl (fun H locs hw hS => ?_)
  refine lv_icmp_eq (tgt := 1081) hx hb d_Law_law_198 (by decide) (fun _ => ?_) (fun q => absurd rfl q)
  exact hN _ _ _ _ _ _ _ _ _ _ _ _ ls _ _ hRel hw hS hl (by omega) (by omega)
set_option maxHeartbeats 4000000 in
set_option maxRecDepth 100000 in
theorem lc_rate {p : Program} {l : Launch} {e : Env} {s : State} {m : MethodId} {below : List Frame} {meth : Method} {c : Code} {b L : Nat} {xs : Nat → Int32} {D : va_G} {ty : Nat → ClassId} {fA mA rA gA cA hA kA aK aV : Nat → Nat} {Rel : Relt} {i : Nat} (hC : LC p s m meth c b L xs D ty aK aV) (hN : Nx p l e s m below meth c b D ty fA mA rA gA cA hA kA Rel 1081 i (1010 + 10 * i) (14000 + 4000 * i)) (hi : i + 6 ≤ L) (op : Op_rate Rel) : Nx p l e s m below meth c b D ty fA mA rA gA cA hA kA Rel 203 i (1000 + 10 * i) (10000 + 4000 * i) := by
  intro po o0 o1 sF sM sN sR sG sC sH H locs ls cells slots hRel hw hS hl hcb hsb
  obtain ⟨C0, hK, hT, hX, hbl, hL⟩ := id hC
  obtain ⟨hx, hb, hr, hlk, hml, hown, htt⟩ := id C0
  have hbA : ¬ (fun q => s.heap.size ≤ q) b := Nat.not_le.mpr hbl
  obtain ⟨rr, tF, tH, tM, tN, e1, e2, hRel⟩ := op _ _ _ _ _ _ _ hRel (xs (nI i + (1 : Int32)).toNatClampNeg) (xs (nI i + (2 : Int32)).toNatClampNeg)
  refine lv_aload_n hx hb d_Law_law_203 rfl (lv_at hl 1 rfl) ?_
  refine lv_aload_n hx hb d_Law_law_204 rfl (lv_at hl 0 rfl) ?_
  refine lv_iload_n hx hb d_Law_law_205 rfl (lv_at hl 3 rfl) ?_
  refine lv_iconst (v := (1 : Int32)) hx hb d_Law_law_206 (by decide) ?_
  refine lv_iadd hx hb d_Law_law_207 ?_
  refine va_sld hx hb hX hbl hbA hS (vp_j 1 rfl (by omega) hL) d_Law_law_208 ?_
  refine lv_aload_n hx hb d_Law_law_209 rfl (lv_at hl 0 rfl) ?_
  refine lv_iload_n hx hb d_Law_law_210 rfl (lv_at hl 3 rfl) ?_
  refine lv_iconst (v := (2 : Int32)) hx hb d_Law_law_211 (by decide) ?_
  refine lv_iadd hx hb d_Law_law_212 ?_
  refine va_sld hx hb hX hbl hbA hS (vp_j 2 rfl (by omega) hL) d_Law_law_213 ?_
  refine vX (B := (L_fimrgchk ty fA mA rA gA cA hA kA (pvO po) sF (imO o0 o1) sM sN sR sG sC sH)) (B' := (L_fimrgchk ty fA mA rA gA cA hA kA (pvO po) tF (imO o0 o1) sM sN sR sG sC tH)) (Lc := (L_fh ty fA rA cA hA kA (pvO po) sF sH)) (Lc' := (L_fh ty fA rA cA hA kA (pvO po) tF tH)) (rest := []) C0 (c_Face_rate l D ty fA rA cA hA kA (pvO po) H.size sF sH (xs (nI i + (1 : Int32)).toNatClampNeg) (xs (nI i + (2 : Int32)).toNatClampNeg) rr tF tH e1) PcM.blind k_242 cal_Face_rate hw hS hAb [0, 25, 26, 27, 28, 29, 30, 31] rfl (by decide) rfl rfl (fun hPc => va_recv hK.1 hPc (ci := 10) (q0 := 0) rfl rfl) (fun hPc hDc hF U hU hW => ⟨rfl, by rw [hU], by rw [hU]; exact hPc, hK.warm hW, hDc⟩) ⟨by decide, by decide⟩ rfl rfl rfl hl.1 rfl (Nat.le_of_ble_eq_true rfl) d_Law_law_214 ⟨by show _ ≤ 600000; omega, by show _ ≤ 7302250; omega⟩ rfl (fun H locs hw hS => ?_)
  refine lv_aload_n hx hb d_Law_law_217 rfl (lv_at hl 2 rfl) ?_
  refine lv_aload_n hx hb d_Law_law_218 rfl (lv_at hl 0 rfl) ?_
  refine lv_iload_n hx hb d_Law_law_219 rfl (lv_at hl 3 rfl) ?_
  refine lv_iconst (v := (1 : Int32)) hx hb d_Law_law_220 (by decide) ?_
  refine lv_iadd hx hb d_Law_law_221 ?_
  refine va_sld hx hb hX hbl hbA hS (vp_j 1 rfl (by omega) hL) d_Law_law_222 ?_
  refine lv_aload_n hx hb d_Law_law_223 rfl (lv_at hl 0 rfl) ?_
  refine lv_iload_n hx hb d_Law_law_224 rfl (lv_at hl 3 rfl) ?_
  refine lv_iconst (v := (2 : Int32)) hx hb d_Law_law_225 (by decide) ?_
  refine lv_iadd hx hb d_Law_law_226 ?_
  refine va_sld hx hb hX hbl hbA hS (vp_j 2 rfl (by omega) hL) d_Law_law_227 ?_
  refine vX (B := (L_fimrgchk ty fA mA rA gA cA hA kA (pvO po) tF (imO o0 o1) sM sN sR sG sC tH)) (B' := (L_fimrgchk ty fA mA rA gA cA hA kA (pvO po) tF (imO o0 o1) tM tN sR sG sC tH)) (Lc := (L_m ty mA sM sN)) (Lc' := (L_m ty mA tM tN)) (rest := [.int rr]) C0 (c_Model_rate l D ty mA H.size sM sN (xs (nI i + (1 : Int32)).toNatClampNeg) (xs (nI i + (2 : Int32)).toNatClampNeg) rr tM tN e2) PcM.blind k_852 cal_Model_rate hw hS hAb [2, 3, 4, 5, 6, 7, 8, 9, 10, 11, 12, 13] rfl (by decide) rfl rfl (fun hPc => va_recv hK.1 hPc (ci := 11) (q0 := 0) rfl rfl) (fun hPc hDc hF U hU hW => ⟨rfl, by rw [hU], by rw [hU]; exact hPc, hK.warm hW, hDc⟩) ⟨by decide, by decide⟩ rfl rfl rfl hl.1 rfl (Nat.le_of_ble_eq_true rfl) d_Law_law_228 ⟨by show _ ≤ 600000; omega, by show _ ≤ 7302250; omega⟩ rfl (fun H locs hw hS => ?_)
  refine lv_icmp_eq (tgt := 1081) hx hb d_Law_law_231 (by decide) (fun _ => ?_) (fun q => absurd rfl q)
  exact hN _ _ _ _ _ _ _ _ _ _ _ _ ls _ _ hRel hw hS hl (by omega) (by omega)
set_option maxHeartbeats 4000000 in
set_option maxRecDepth 100000 in
theorem lc_bar {p : Program} {l : Launch} {e : Env} {s : State} {m : MethodId} {below : List Frame} {meth : Method} {c : Code} {b L : Nat} {xs : Nat → Int32} {D : va_G} {ty : Nat → ClassId} {fA mA rA gA cA hA kA aK aV : Nat → Nat} {Rel : Relt} {i : Nat} (hC : LC p s m meth c b L xs D ty aK aV) (hN : Nx p l e s m below meth c b D ty fA mA rA gA cA hA kA Rel 1081 i (1010 + 10 * i) (14000 + 4000 * i)) (hi : i + 6 ≤ L) (op : Op_bar Rel) : Nx p l e s m below meth c b D ty fA mA rA gA cA hA kA Rel 236 i (1000 + 10 * i) (10000 + 4000 * i) := by
  intro po o0 o1 sF sM sN sR sG sC sH H locs ls cells slots hRel hw hS hl hcb hsb
  obtain ⟨C0, hK, hT, hX, hbl, hL⟩ := id hC
  obtain ⟨hx, hb, hr, hlk, hml, hown, htt⟩ := id C0
  have hbA : ¬ (fun q => s.heap.size ≤ q) b := Nat.not_le.mpr hbl
  obtain ⟨rr, tF, tH, tM, tN, e1, e2, hRel⟩ := op _ _ _ _ _ _ _ hRel (xs (nI i + (1 : Int32)).toNatClampNeg) (xs (nI i + (2 : Int32)).toNatClampNeg)
  refine lv_aload_n hx hb d_Law_law_236 rfl (lv_at hl 1 rfl) ?_
  refine lv_aload_n hx hb d_Law_law_237 rfl (lv_at hl 0 rfl) ?_
  refine lv_iload_n hx hb d_Law_law_238 rfl (lv_at hl 3 rfl) ?_
  refine lv_iconst (v := (1 : Int32)) hx hb d_Law_law_239 (by decide) ?_
  refine lv_iadd hx hb d_Law_law_240 ?_
  refine va_sld hx hb hX hbl hbA hS (vp_j 1 rfl (by omega) hL) d_Law_law_241 ?_
  refine lv_aload_n hx hb d_Law_law_242 rfl (lv_at hl 0 rfl) ?_
  refine lv_iload_n hx hb d_Law_law_243 rfl (lv_at hl 3 rfl) ?_
  refine lv_iconst (v := (2 : Int32)) hx hb d_Law_law_244 (by decide) ?_
  refine lv_iadd hx hb d_Law_law_245 ?_
  refine va_sld hx hb hX hbl hbA hS (vp_j 2 rfl (by omega) hL) d_Law_law_246 ?_
  refine vX (B := (L_fimrgchk ty fA mA rA gA cA hA kA (pvO po) sF (imO o0 o1) sM sN sR sG sC sH)) (B' := (L_fimrgchk ty fA mA rA gA cA hA kA (pvO po) tF (imO o0 o1) sM sN sR sG sC tH)) (Lc := (L_fh ty fA rA cA hA kA (pvO po) sF sH)) (Lc' := (L_fh ty fA rA cA hA kA (pvO po) tF tH)) (rest := []) C0 (c_Face_bar l D ty fA rA cA hA kA (pvO po) H.size sF sH (xs (nI i + (1 : Int32)).toNatClampNeg) (xs (nI i + (2 : Int32)).toNatClampNeg) rr tF tH e1) PcM.blind k_249 cal_Face_bar hw hS hAb [0, 25, 26, 27, 28, 29, 30, 31] rfl (by decide) rfl rfl (fun hPc => va_recv hK.1 hPc (ci := 10) (q0 := 0) rfl rfl) (fun hPc hDc hF U hU hW => ⟨rfl, by rw [hU], by rw [hU]; exact hPc, hK.warm hW, hDc⟩) ⟨by decide, by decide⟩ rfl rfl rfl hl.1 rfl (Nat.le_of_ble_eq_true rfl) d_Law_law_247 ⟨by show _ ≤ 600000; omega, by show _ ≤ 7302250; omega⟩ rfl (fun H locs hw hS => ?_)
  refine lv_aload_n hx hb d_Law_law_250 rfl (lv_at hl 2 rfl) ?_
  refine lv_aload_n hx hb d_Law_law_251 rfl (lv_at hl 0 rfl) ?_
  refine lv_iload_n hx hb d_Law_law_252 rfl (lv_at hl 3 rfl) ?_
  refine lv_iconst (v := (1 : Int32)) hx hb d_Law_law_253 (by decide) ?_
  refine lv_iadd hx hb d_Law_law_254 ?_
  refine va_sld hx hb hX hbl hbA hS (vp_j 1 rfl (by omega) hL) d_Law_law_255 ?_
  refine lv_aload_n hx hb d_Law_law_256 rfl (lv_at hl 0 rfl) ?_
  refine lv_iload_n hx hb d_Law_law_257 rfl (lv_at hl 3 rfl) ?_
  refine lv_iconst (v := (2 : Int32)) hx hb d_Law_law_258 (by decide) ?_
  refine lv_iadd hx hb d_Law_law_259 ?_
  refine va_sld hx hb hX hbl hbA hS (vp_j 2 rfl (by omega) hL) d_Law_law_260 ?_
  refine vX (B := (L_fimrgchk ty fA mA rA gA cA hA kA (pvO po) tF (imO o0 o1) sM sN sR sG sC tH)) (B' := (L_fimrgchk ty fA mA rA gA cA hA kA (pvO po) tF (imO o0 o1) tM tN sR sG sC tH)) (Lc := (L_m ty mA sM sN)) (Lc' := (L_m ty mA tM tN)) (rest := [.int rr]) C0 (c_Model_bar l D ty mA H.size sM sN (xs (nI i + (1 : Int32)).toNatClampNeg) (xs (nI i + (2 : Int32)).toNatClampNeg) rr tM tN e2) PcM.blind k_859 cal_Model_bar hw hS hAb [2, 3, 4, 5, 6, 7, 8, 9, 10, 11, 12, 13] rfl (by decide) rfl rfl (fun hPc => va_recv hK.1 hPc (ci := 11) (q0 := 0) rfl rfl) (fun hPc hDc hF U hU hW => ⟨rfl, by rw [hU], by rw [hU]; exact hPc, hK.warm hW, hDc⟩) ⟨by decide, by decide⟩ rfl rfl rfl hl.1 rfl (Nat.le_of_ble_eq_true rfl) d_Law_law_261 ⟨by show _ ≤ 600000; omega, by show _ ≤ 7302250; omega⟩ rfl (fun H locs hw hS => ?_)
  refine lv_icmp_eq (tgt := 1081) hx hb d_Law_law_264 (by decide) (fun _ => ?_) (fun q => absurd rfl q)
  exact hN _ _ _ _ _ _ _ _ _ _ _ _ ls _ _ hRel hw hS hl (by omega) (by omega)
set_option maxHeartbeats 4000000 in
set_option maxRecDepth 100000 in
theorem lc_doing {p : Program} {l : Launch} {e : Env} {s : State} {m : MethodId} {below : List Frame} {meth : Method} {c : Code} {b L : Nat} {xs : Nat → Int32} {D : va_G} {ty : Nat → ClassId} {fA mA rA gA cA hA kA aK aV : Nat → Nat} {Rel : Relt} {i : Nat} (hC : LC p s m meth c b L xs D ty aK aV) (hN : Nx p l e s m below meth c b D ty fA mA rA gA cA hA kA Rel 1081 i (1010 + 10 * i) (14000 + 4000 * i)) (hi : i + 6 ≤ L) (op : Op_doing Rel) : Nx p l e s m below meth c b D ty fA mA rA gA cA hA kA Rel 269 i (1000 + 10 * i) (10000 + 4000 * i) := by
  intro po o0 o1 sF sM sN sR sG sC sH H locs ls cells slots hRel hw hS hl hcb hsb
  obtain ⟨C0, hK, hT, hX, hbl, hL⟩ := id hC
  obtain ⟨hx, hb, hr, hlk, hml, hown, htt⟩ := id C0
  have hbA : ¬ (fun q => s.heap.size ≤ q) b := Nat.not_le.mpr hbl
  obtain ⟨rr, tF, tH, tM, tN, e1, e2, hRel⟩ := op _ _ _ _ _ _ _ hRel (xs (nI i + (1 : Int32)).toNatClampNeg) (xs (nI i + (2 : Int32)).toNatClampNeg)
  refine lv_aload_n hx hb d_Law_law_269 rfl (lv_at hl 1 rfl) ?_
  refine lv_aload_n hx hb d_Law_law_270 rfl (lv_at hl 0 rfl) ?_
  refine lv_iload_n hx hb d_Law_law_271 rfl (lv_at hl 3 rfl) ?_
  refine lv_iconst (v := (1 : Int32)) hx hb d_Law_law_272 (by decide) ?_
  refine lv_iadd hx hb d_Law_law_273 ?_
  refine va_sld hx hb hX hbl hbA hS (vp_j 1 rfl (by omega) hL) d_Law_law_274 ?_
  refine lv_aload_n hx hb d_Law_law_275 rfl (lv_at hl 0 rfl) ?_
  refine lv_iload_n hx hb d_Law_law_276 rfl (lv_at hl 3 rfl) ?_
  refine lv_iconst (v := (2 : Int32)) hx hb d_Law_law_277 (by decide) ?_
  refine lv_iadd hx hb d_Law_law_278 ?_
  refine va_sld hx hb hX hbl hbA hS (vp_j 2 rfl (by omega) hL) d_Law_law_279 ?_
  refine vX (B := (L_fimrgchk ty fA mA rA gA cA hA kA (pvO po) sF (imO o0 o1) sM sN sR sG sC sH)) (B' := (L_fimrgchk ty fA mA rA gA cA hA kA (pvO po) tF (imO o0 o1) sM sN sR sG sC tH)) (Lc := (L_fh ty fA rA cA hA kA (pvO po) sF sH)) (Lc' := (L_fh ty fA rA cA hA kA (pvO po) tF tH)) (rest := []) C0 (c_Face_doing l D ty fA rA cA hA kA (pvO po) H.size sF sH (xs (nI i + (1 : Int32)).toNatClampNeg) (xs (nI i + (2 : Int32)).toNatClampNeg) rr tF tH e1) PcM.blind k_254 cal_Face_doing hw hS hAb [0, 25, 26, 27, 28, 29, 30, 31] rfl (by decide) rfl rfl (fun hPc => va_recv hK.1 hPc (ci := 10) (q0 := 0) rfl rfl) (fun hPc hDc hF U hU hW => ⟨rfl, by rw [hU], by rw [hU]; exact hPc, hK.warm hW, hDc⟩) ⟨by decide, by decide⟩ rfl rfl rfl hl.1 rfl (Nat.le_of_ble_eq_true rfl) d_Law_law_280 ⟨by show _ ≤ 600000; omega, by show _ ≤ 7302250; omega⟩ rfl (fun H locs hw hS => ?_)
  refine lv_aload_n hx hb d_Law_law_283 rfl (lv_at hl 2 rfl) ?_
  refine lv_aload_n hx hb d_Law_law_284 rfl (lv_at hl 0 rfl) ?_
  refine lv_iload_n hx hb d_Law_law_285 rfl (lv_at hl 3 rfl) ?_
  refine lv_iconst (v := (1 : Int32)) hx hb d_Law_law_286 (by decide) ?_
  refine lv_iadd hx hb d_Law_law_287 ?_
  refine va_sld hx hb hX hbl hbA hS (vp_j 1 rfl (by omega) hL) d_Law_law_288 ?_
  refine lv_aload_n hx hb d_Law_law_289 rfl (lv_at hl 0 rfl) ?_
  refine lv_iload_n hx hb d_Law_law_290 rfl (lv_at hl 3 rfl) ?_
  refine lv_iconst (v := (2 : Int32)) hx hb d_Law_law_291 (by decide) ?_
  refine lv_iadd hx hb d_Law_law_292 ?_
  refine va_sld hx hb hX hbl hbA hS (vp_j 2 rfl (by omega) hL) d_Law_law_293 ?_
  refine vX (B := (L_fimrgchk ty fA mA rA gA cA hA kA (pvO po) tF (imO o0 o1) sM sN sR sG sC tH)) (B' := (L_fimrgchk ty fA mA rA gA cA hA kA (pvO po) tF (imO o0 o1) tM tN sR sG sC tH)) (Lc := (L_m ty mA sM sN)) (Lc' := (L_m ty mA tM tN)) (rest := [.int rr]) C0 (c_Model_doing l D ty mA H.size sM sN (xs (nI i + (1 : Int32)).toNatClampNeg) (xs (nI i + (2 : Int32)).toNatClampNeg) rr tM tN e2) PcM.blind k_864 cal_Model_doing hw hS hAb [2, 3, 4, 5, 6, 7, 8, 9, 10, 11, 12, 13] rfl (by decide) rfl rfl (fun hPc => va_recv hK.1 hPc (ci := 11) (q0 := 0) rfl rfl) (fun hPc hDc hF U hU hW => ⟨rfl, by rw [hU], by rw [hU]; exact hPc, hK.warm hW, hDc⟩) ⟨by decide, by decide⟩ rfl rfl rfl hl.1 rfl (Nat.le_of_ble_eq_true rfl) d_Law_law_294 ⟨by show _ ≤ 600000; omega, by show _ ≤ 7302250; omega⟩ rfl (fun H locs hw hS => ?_)
  refine lv_icmp_eq (tgt := 1081) hx hb d_Law_law_297 (by decide) (fun _ => ?_) (fun q => absurd rfl q)
  exact hN _ _ _ _ _ _ _ _ _ _ _ _ ls _ _ hRel hw hS hl (by omega) (by omega)
set_option maxHeartbeats 4000000 in
set_option maxRecDepth 100000 in
theorem lc_type {p : Program} {l : Launch} {e : Env} {s : State} {m : MethodId} {below : List Frame} {meth : Method} {c : Code} {b L : Nat} {xs : Nat → Int32} {D : va_G} {ty : Nat → ClassId} {fA mA rA gA cA hA kA aK aV : Nat → Nat} {Rel : Relt} {i : Nat} (hC : LC p s m meth c b L xs D ty aK aV) (hN : Nx p l e s m below meth c b D ty fA mA rA gA cA hA kA Rel 1081 i (1010 + 10 * i) (14000 + 4000 * i)) (hi : i + 6 ≤ L) (op : Op_type Rel) : Nx p l e s m below meth c b D ty fA mA rA gA cA hA kA Rel 302 i (1000 + 10 * i) (10000 + 4000 * i) := by
  intro po o0 o1 sF sM sN sR sG sC sH H locs ls cells slots hRel hw hS hl hcb hsb
  obtain ⟨C0, hK, hT, hX, hbl, hL⟩ := id hC
  obtain ⟨hx, hb, hr, hlk, hml, hown, htt⟩ := id C0
  have hbA : ¬ (fun q => s.heap.size ≤ q) b := Nat.not_le.mpr hbl
  obtain ⟨rr, tF, tR, tM, tN, e1, e2, hRel⟩ := op _ _ _ _ _ _ _ hRel (xs (nI i + (1 : Int32)).toNatClampNeg)
  refine lv_aload_n hx hb d_Law_law_302 rfl (lv_at hl 1 rfl) ?_
  refine lv_aload_n hx hb d_Law_law_303 rfl (lv_at hl 0 rfl) ?_
  refine lv_iload_n hx hb d_Law_law_304 rfl (lv_at hl 3 rfl) ?_
  refine lv_iconst (v := (1 : Int32)) hx hb d_Law_law_305 (by decide) ?_
  refine lv_iadd hx hb d_Law_law_306 ?_
  refine va_sld hx hb hX hbl hbA hS (vp_j 1 rfl (by omega) hL) d_Law_law_307 ?_
  refine vX (B := (L_fimrgchk ty fA mA rA gA cA hA kA (pvO po) sF (imO o0 o1) sM sN sR sG sC sH)) (B' := (L_fimrgchk ty fA mA rA gA cA hA kA (pvO po) tF (imO o0 o1) sM sN tR sG sC sH)) (Lc := (L_fr ty fA rA gA cA hA (pvO po) sF sR)) (Lc' := (L_fr ty fA rA gA cA hA (pvO po) tF tR)) (rest := []) C0 (c_Face_type l D ty fA rA gA cA hA (pvO po) H.size sF sR (xs (nI i + (1 : Int32)).toNatClampNeg) rr tF tR e1) PcM.blind k_266 cal_Face_type hw hS hAb [0, 14, 15] rfl (by decide) rfl rfl (fun hPc => va_recv hK.1 hPc (ci := 10) (q0 := 0) rfl rfl) (fun hPc hDc hF U hU hW => ⟨rfl, by rw [hU], by rw [hU]; exact hPc, hK.warm hW, hDc⟩) ⟨by decide, by decide⟩ rfl rfl rfl hl.1 rfl (Nat.le_of_ble_eq_true rfl) d_Law_law_308 ⟨by show _ ≤ 600000; omega, by show _ ≤ 7302250; omega⟩ rfl (fun H locs hw hS => ?_)
  refine lv_aload_n hx hb d_Law_law_311 rfl (lv_at hl 2 rfl) ?_
  refine lv_aload_n hx hb d_Law_law_312 rfl (lv_at hl 0 rfl) ?_
  refine lv_iload_n hx hb d_Law_law_313 rfl (lv_at hl 3 rfl) ?_
  refine lv_iconst (v := (1 : Int32)) hx hb d_Law_law_314 (by decide) ?_
  refine lv_iadd hx hb d_Law_law_315 ?_
  refine va_sld hx hb hX hbl hbA hS (vp_j 1 rfl (by omega) hL) d_Law_law_316 ?_
  refine vX (B := (L_fimrgchk ty fA mA rA gA cA hA kA (pvO po) tF (imO o0 o1) sM sN tR sG sC sH)) (B' := (L_fimrgchk ty fA mA rA gA cA hA kA (pvO po) tF (imO o0 o1) tM tN tR sG sC sH)) (Lc := (L_m ty mA sM sN)) (Lc' := (L_m ty mA tM tN)) (rest := [.int rr]) C0 (c_Model_type l D ty mA H.size sM sN (xs (nI i + (1 : Int32)).toNatClampNeg) rr tM tN e2) PcM.blind k_878 cal_Model_type hw hS hAb [2, 3, 4, 5, 6, 7, 8, 9, 10, 11, 12, 13] rfl (by decide) rfl rfl (fun hPc => va_recv hK.1 hPc (ci := 11) (q0 := 0) rfl rfl) (fun hPc hDc hF U hU hW => ⟨rfl, by rw [hU], by rw [hU]; exact hPc, hK.warm hW, hDc⟩) ⟨by decide, by decide⟩ rfl rfl rfl hl.1 rfl (Nat.le_of_ble_eq_true rfl) d_Law_law_317 ⟨by show _ ≤ 600000; omega, by show _ ≤ 7302250; omega⟩ rfl (fun H locs hw hS => ?_)
  refine lv_icmp_eq (tgt := 1081) hx hb d_Law_law_320 (by decide) (fun _ => ?_) (fun q => absurd rfl q)
  exact hN _ _ _ _ _ _ _ _ _ _ _ _ ls _ _ hRel hw hS hl (by omega) (by omega)
set_option maxHeartbeats 4000000 in
set_option maxRecDepth 100000 in
theorem lc_clear {p : Program} {l : Launch} {e : Env} {s : State} {m : MethodId} {below : List Frame} {meth : Method} {c : Code} {b L : Nat} {xs : Nat → Int32} {D : va_G} {ty : Nat → ClassId} {fA mA rA gA cA hA kA aK aV : Nat → Nat} {Rel : Relt} {i : Nat} (hC : LC p s m meth c b L xs D ty aK aV) (hN : Nx p l e s m below meth c b D ty fA mA rA gA cA hA kA Rel 1081 i (1010 + 10 * i) (14000 + 4000 * i)) (hi : i + 6 ≤ L) (op : Op_clear Rel) : Nx p l e s m below meth c b D ty fA mA rA gA cA hA kA Rel 325 i (1000 + 10 * i) (10000 + 4000 * i) := by
  intro po o0 o1 sF sM sN sR sG sC sH H locs ls cells slots hRel hw hS hl hcb hsb
  obtain ⟨C0, hK, hT, hX, hbl, hL⟩ := id hC
  obtain ⟨hx, hb, hr, hlk, hml, hown, htt⟩ := id C0
  have hbA : ¬ (fun q => s.heap.size ≤ q) b := Nat.not_le.mpr hbl
  obtain ⟨rr, tR, tM, tN, e1, e2, hRel⟩ := op _ _ _ _ _ _ _ hRel ()
  refine lv_aload_n hx hb d_Law_law_325 rfl (lv_at hl 1 rfl) ?_
  refine vX (B := (L_fimrgchk ty fA mA rA gA cA hA kA (pvO po) sF (imO o0 o1) sM sN sR sG sC sH)) (B' := (L_fimrgchk ty fA mA rA gA cA hA kA (pvO po) sF (imO o0 o1) sM sN tR sG sC sH)) (Lc := (L_fr ty fA rA gA cA hA (pvO po) sF sR)) (Lc' := (L_fr ty fA rA gA cA hA (pvO po) sF tR)) (rest := []) C0 (c_Face_clear l D ty fA rA gA cA hA (pvO po) H.size sF sR rr tR e1) PcM.blind k_274 cal_Face_clear hw hS hAb [0, 14, 15] rfl (by decide) rfl rfl (fun hPc => va_recv hK.1 hPc (ci := 10) (q0 := 0) rfl rfl) (fun hPc hDc hF U hU hW => ⟨rfl, by rw [hU], by rw [hU]; exact hPc, hK.warm hW, hDc⟩) ⟨by decide, by decide⟩ rfl rfl rfl hl.1 rfl (Nat.le_of_ble_eq_true rfl) d_Law_law_326 ⟨by show _ ≤ 600000; omega, by show _ ≤ 7302250; omega⟩ rfl (fun H locs hw hS => ?_)
  refine lv_aload_n hx hb d_Law_law_329 rfl (lv_at hl 2 rfl) ?_
  refine vX (B := (L_fimrgchk ty fA mA rA gA cA hA kA (pvO po) sF (imO o0 o1) sM sN tR sG sC sH)) (B' := (L_fimrgchk ty fA mA rA gA cA hA kA (pvO po) sF (imO o0 o1) tM tN tR sG sC sH)) (Lc := (L_m ty mA sM sN)) (Lc' := (L_m ty mA tM tN)) (rest := [.int rr]) C0 (c_Model_clear l D ty mA H.size sM sN rr tM tN e2) PcM.blind k_883 cal_Model_clear hw hS hAb [2, 3, 4, 5, 6, 7, 8, 9, 10, 11, 12, 13] rfl (by decide) rfl rfl (fun hPc => va_recv hK.1 hPc (ci := 11) (q0 := 0) rfl rfl) (fun hPc hDc hF U hU hW => ⟨rfl, by rw [hU], by rw [hU]; exact hPc, hK.warm hW, hDc⟩) ⟨by decide, by decide⟩ rfl rfl rfl hl.1 rfl (Nat.le_of_ble_eq_true rfl) d_Law_law_330 ⟨by show _ ≤ 600000; omega, by show _ ≤ 7302250; omega⟩ rfl (fun H locs hw hS => ?_)
  refine lv_icmp_eq (tgt := 1081) hx hb d_Law_law_333 (by decide) (fun _ => ?_) (fun q => absurd rfl q)
  exact hN _ _ _ _ _ _ _ _ _ _ _ _ ls _ _ hRel hw hS hl (by omega) (by omega)
set_option maxHeartbeats 4000000 in
set_option maxRecDepth 100000 in
theorem lc_read {p : Program} {l : Launch} {e : Env} {s : State} {m : MethodId} {below : List Frame} {meth : Method} {c : Code} {b L : Nat} {xs : Nat → Int32} {D : va_G} {ty : Nat → ClassId} {fA mA rA gA cA hA kA aK aV : Nat → Nat} {Rel : Relt} {i : Nat} (hC : LC p s m meth c b L xs D ty aK aV) (hN : Nx p l e s m below meth c b D ty fA mA rA gA cA hA kA Rel 1081 i (1010 + 10 * i) (14000 + 4000 * i)) (hi : i + 6 ≤ L) (op : Op_read Rel) : Nx p l e s m below meth c b D ty fA mA rA gA cA hA kA Rel 338 i (1000 + 10 * i) (10000 + 4000 * i) := by
  intro po o0 o1 sF sM sN sR sG sC sH H locs ls cells slots hRel hw hS hl hcb hsb
  obtain ⟨C0, hK, hT, hX, hbl, hL⟩ := id hC
  obtain ⟨hx, hb, hr, hlk, hml, hown, htt⟩ := id C0
  have hbA : ¬ (fun q => s.heap.size ≤ q) b := Nat.not_le.mpr hbl
  obtain ⟨rr, tR, tG, tH, tM, tN, e1, e2, hRel⟩ := op _ _ _ _ _ _ _ sG hRel ()
  refine lv_aload_n hx hb d_Law_law_338 rfl (lv_at hl 1 rfl) ?_
  refine vX (B := (L_fimrgchk ty fA mA rA gA cA hA kA (pvO po) sF (imO o0 o1) sM sN sR sG sC sH)) (B' := (L_fimrgchk ty fA mA rA gA cA hA kA (pvO po) sF (imO o0 o1) sM sN tR tG sC tH)) (Lc := (L_frgh ty fA rA gA cA hA kA (pvO po) sF sR sG sH)) (Lc' := (L_frgh ty fA rA gA cA hA kA (pvO po) sF tR tG tH)) (rest := []) C0 (c_Face_read l D ty fA rA gA cA hA kA (pvO po) aK aV H.size sF sR sG sH rr tR tG tH e1) PcMT.blind k_278 cal_Face_read hw hS hAb [0, 14, 15, 16, 17, 18, 19, 20, 21, 22, 25, 26, 27, 28, 29, 30, 31] rfl (by decide) rfl rfl (fun hPc => va_recv hK.1 hPc (ci := 10) (q0 := 0) rfl rfl) (fun hPc hDc hF U hU hW => ⟨rfl, by rw [hU], by rw [hU]; exact hPc, hK.warm hW, hDc, by rw [hU]; exact ((hT.kept hS.2.1).narrow hF).warm hW⟩) ⟨by decide, by decide⟩ rfl rfl rfl hl.1 rfl (Nat.le_of_ble_eq_true rfl) d_Law_law_339 ⟨by show _ ≤ 600000; omega, by show _ ≤ 7302250; omega⟩ rfl (fun H locs hw hS => ?_)
  refine lv_aload_n hx hb d_Law_law_342 rfl (lv_at hl 2 rfl) ?_
  refine vX (B := (L_fimrgchk ty fA mA rA gA cA hA kA (pvO po) sF (imO o0 o1) sM sN tR tG sC tH)) (B' := (L_fimrgchk ty fA mA rA gA cA hA kA (pvO po) sF (imO o0 o1) tM tN tR tG sC tH)) (Lc := (L_m ty mA sM sN)) (Lc' := (L_m ty mA tM tN)) (rest := [.int rr]) C0 (c_Model_read l D ty mA H.size sM sN rr tM tN e2) PcM.blind k_887 cal_Model_read hw hS hAb [2, 3, 4, 5, 6, 7, 8, 9, 10, 11, 12, 13] rfl (by decide) rfl rfl (fun hPc => va_recv hK.1 hPc (ci := 11) (q0 := 0) rfl rfl) (fun hPc hDc hF U hU hW => ⟨rfl, by rw [hU], by rw [hU]; exact hPc, hK.warm hW, hDc⟩) ⟨by decide, by decide⟩ rfl rfl rfl hl.1 rfl (Nat.le_of_ble_eq_true rfl) d_Law_law_343 ⟨by show _ ≤ 600000; omega, by show _ ≤ 7302250; omega⟩ rfl (fun H locs hw hS => ?_)
  refine lv_icmp_eq (tgt := 1081) hx hb d_Law_law_346 (by decide) (fun _ => ?_) (fun q => absurd rfl q)
  exact hN _ _ _ _ _ _ _ _ _ _ _ _ ls _ _ hRel hw hS hl (by omega) (by omega)
set_option maxHeartbeats 4000000 in
set_option maxRecDepth 100000 in
theorem lc_does {p : Program} {l : Launch} {e : Env} {s : State} {m : MethodId} {below : List Frame} {meth : Method} {c : Code} {b L : Nat} {xs : Nat → Int32} {D : va_G} {ty : Nat → ClassId} {fA mA rA gA cA hA kA aK aV : Nat → Nat} {Rel : Relt} {i : Nat} (hC : LC p s m meth c b L xs D ty aK aV) (hN : Nx p l e s m below meth c b D ty fA mA rA gA cA hA kA Rel 1081 i (1010 + 10 * i) (14000 + 4000 * i)) (hi : i + 6 ≤ L) (op : Op_does Rel) : Nx p l e s m below meth c b D ty fA mA rA gA cA hA kA Rel 351 i (1000 + 10 * i) (10000 + 4000 * i) := by
  intro po o0 o1 sF sM sN sR sG sC sH H locs ls cells slots hRel hw hS hl hcb hsb
  obtain ⟨C0, hK, hT, hX, hbl, hL⟩ := id hC
  obtain ⟨hx, hb, hr, hlk, hml, hown, htt⟩ := id C0
  have hbA : ¬ (fun q => s.heap.size ≤ q) b := Nat.not_le.mpr hbl
  obtain ⟨rr, tF, tH, tM, tN, e1, e2, hRel⟩ := op _ _ _ _ _ _ _ hRel (xs (nI i + (1 : Int32)).toNatClampNeg) (xs (nI i + (2 : Int32)).toNatClampNeg)
  refine lv_aload_n hx hb d_Law_law_351 rfl (lv_at hl 1 rfl) ?_
  refine lv_aload_n hx hb d_Law_law_352 rfl (lv_at hl 0 rfl) ?_
  refine lv_iload_n hx hb d_Law_law_353 rfl (lv_at hl 3 rfl) ?_
  refine lv_iconst (v := (1 : Int32)) hx hb d_Law_law_354 (by decide) ?_
  refine lv_iadd hx hb d_Law_law_355 ?_
  refine va_sld hx hb hX hbl hbA hS (vp_j 1 rfl (by omega) hL) d_Law_law_356 ?_
  refine lv_aload_n hx hb d_Law_law_357 rfl (lv_at hl 0 rfl) ?_
  refine lv_iload_n hx hb d_Law_law_358 rfl (lv_at hl 3 rfl) ?_
  refine lv_iconst (v := (2 : Int32)) hx hb d_Law_law_359 (by decide) ?_
  refine lv_iadd hx hb d_Law_law_360 ?_
  refine va_sld hx hb hX hbl hbA hS (vp_j 2 rfl (by omega) hL) d_Law_law_361 ?_
  refine vX (B := (L_fimrgchk ty fA mA rA gA cA hA kA (pvO po) sF (imO o0 o1) sM sN sR sG sC sH)) (B' := (L_fimrgchk ty fA mA rA gA cA hA kA (pvO po) tF (imO o0 o1) sM sN sR sG sC tH)) (Lc := (L_fhk ty fA rA cA hA kA (pvO po) sF sH)) (Lc' := (L_fhk ty fA rA cA hA kA (pvO po) tF tH)) (rest := []) C0 (c_Face_does l D ty fA rA cA hA kA (pvO po) H.size sF sH (xs (nI i + (1 : Int32)).toNatClampNeg) (xs (nI i + (2 : Int32)).toNatClampNeg) rr tF tH e1) PcM.blind k_388 cal_Face_does hw hS hAb [0, 25, 26, 27, 28, 29, 30, 31, 32, 33, 34, 35, 36, 37, 38] rfl (by decide) rfl rfl (fun hPc => va_recv hK.1 hPc (ci := 10) (q0 := 0) rfl rfl) (fun hPc hDc hF U hU hW => ⟨rfl, by rw [hU], by rw [hU]; exact hPc, hK.warm hW, hDc⟩) ⟨by decide, by decide⟩ rfl rfl rfl hl.1 rfl (Nat.le_of_ble_eq_true rfl) d_Law_law_362 ⟨by show _ ≤ 600000; omega, by show _ ≤ 7302250; omega⟩ rfl (fun H locs hw hS => ?_)
  refine lv_aload_n hx hb d_Law_law_365 rfl (lv_at hl 2 rfl) ?_
  refine lv_aload_n hx hb d_Law_law_366 rfl (lv_at hl 0 rfl) ?_
  refine lv_iload_n hx hb d_Law_law_367 rfl (lv_at hl 3 rfl) ?_
  refine lv_iconst (v := (1 : Int32)) hx hb d_Law_law_368 (by decide) ?_
  refine lv_iadd hx hb d_Law_law_369 ?_
  refine va_sld hx hb hX hbl hbA hS (vp_j 1 rfl (by omega) hL) d_Law_law_370 ?_
  refine lv_aload_n hx hb d_Law_law_371 rfl (lv_at hl 0 rfl) ?_
  refine lv_iload_n hx hb d_Law_law_372 rfl (lv_at hl 3 rfl) ?_
  refine lv_iconst (v := (2 : Int32)) hx hb d_Law_law_373 (by decide) ?_
  refine lv_iadd hx hb d_Law_law_374 ?_
  refine va_sld hx hb hX hbl hbA hS (vp_j 2 rfl (by omega) hL) d_Law_law_375 ?_
  refine vX (B := (L_fimrgchk ty fA mA rA gA cA hA kA (pvO po) tF (imO o0 o1) sM sN sR sG sC tH)) (B' := (L_fimrgchk ty fA mA rA gA cA hA kA (pvO po) tF (imO o0 o1) tM tN sR sG sC tH)) (Lc := (L_m ty mA sM sN)) (Lc' := (L_m ty mA tM tN)) (rest := [.int rr]) C0 (c_Model_does l D ty mA H.size sM sN (xs (nI i + (1 : Int32)).toNatClampNeg) (xs (nI i + (2 : Int32)).toNatClampNeg) rr tM tN e2) PcM.blind k_927 cal_Model_does hw hS hAb [2, 3, 4, 5, 6, 7, 8, 9, 10, 11, 12, 13] rfl (by decide) rfl rfl (fun hPc => va_recv hK.1 hPc (ci := 11) (q0 := 0) rfl rfl) (fun hPc hDc hF U hU hW => ⟨rfl, by rw [hU], by rw [hU]; exact hPc, hK.warm hW, hDc⟩) ⟨by decide, by decide⟩ rfl rfl rfl hl.1 rfl (Nat.le_of_ble_eq_true rfl) d_Law_law_376 ⟨by show _ ≤ 600000; omega, by show _ ≤ 7302250; omega⟩ rfl (fun H locs hw hS => ?_)
  refine lv_icmp_eq (tgt := 1081) hx hb d_Law_law_379 (by decide) (fun _ => ?_) (fun q => absurd rfl q)
  exact hN _ _ _ _ _ _ _ _ _ _ _ _ ls _ _ hRel hw hS hl (by omega) (by omega)
set_option maxHeartbeats 4000000 in
set_option maxRecDepth 100000 in
theorem lc_waits {p : Program} {l : Launch} {e : Env} {s : State} {m : MethodId} {below : List Frame} {meth : Method} {c : Code} {b L : Nat} {xs : Nat → Int32} {D : va_G} {ty : Nat → ClassId} {fA mA rA gA cA hA kA aK aV : Nat → Nat} {Rel : Relt} {i : Nat} (hC : LC p s m meth c b L xs D ty aK aV) (hN : Nx p l e s m below meth c b D ty fA mA rA gA cA hA kA Rel 1081 i (1010 + 10 * i) (14000 + 4000 * i)) (hi : i + 6 ≤ L) (op : Op_waits Rel) : Nx p l e s m below meth c b D ty fA mA rA gA cA hA kA Rel 384 i (1000 + 10 * i) (10000 + 4000 * i) := by
  intro po o0 o1 sF sM sN sR sG sC sH H locs ls cells slots hRel hw hS hl hcb hsb
  obtain ⟨C0, hK, hT, hX, hbl, hL⟩ := id hC
  obtain ⟨hx, hb, hr, hlk, hml, hown, htt⟩ := id C0
  have hbA : ¬ (fun q => s.heap.size ≤ q) b := Nat.not_le.mpr hbl
  obtain ⟨rr, tF, tH, tM, tN, e1, e2, hRel⟩ := op _ _ _ _ _ _ _ hRel (xs (nI i + (1 : Int32)).toNatClampNeg)
  refine lv_aload_n hx hb d_Law_law_384 rfl (lv_at hl 1 rfl) ?_
  refine lv_aload_n hx hb d_Law_law_385 rfl (lv_at hl 0 rfl) ?_
  refine lv_iload_n hx hb d_Law_law_386 rfl (lv_at hl 3 rfl) ?_
  refine lv_iconst (v := (1 : Int32)) hx hb d_Law_law_387 (by decide) ?_
  refine lv_iadd hx hb d_Law_law_388 ?_
  refine va_sld hx hb hX hbl hbA hS (vp_j 1 rfl (by omega) hL) d_Law_law_389 ?_
  refine vX (B := (L_fimrgchk ty fA mA rA gA cA hA kA (pvO po) sF (imO o0 o1) sM sN sR sG sC sH)) (B' := (L_fimrgchk ty fA mA rA gA cA hA kA (pvO po) tF (imO o0 o1) sM sN sR sG sC tH)) (Lc := (L_fh ty fA rA cA hA kA (pvO po) sF sH)) (Lc' := (L_fh ty fA rA cA hA kA (pvO po) tF tH)) (rest := []) C0 (c_Face_waits l D ty fA rA cA hA kA (pvO po) H.size sF sH (xs (nI i + (1 : Int32)).toNatClampNeg) rr tF tH e1) PcM.blind k_476 cal_Face_waits hw hS hAb [0, 25, 26, 27, 28, 29, 30, 31] rfl (by decide) rfl rfl (fun hPc => va_recv hK.1 hPc (ci := 10) (q0 := 0) rfl rfl) (fun hPc hDc hF U hU hW => ⟨rfl, by rw [hU], by rw [hU]; exact hPc, hK.warm hW, hDc⟩) ⟨by decide, by decide⟩ rfl rfl rfl hl.1 rfl (Nat.le_of_ble_eq_true rfl) d_Law_law_390 ⟨by show _ ≤ 600000; omega, by show _ ≤ 7302250; omega⟩ rfl (fun H locs hw hS => ?_)
  refine lv_aload_n hx hb d_Law_law_393 rfl (lv_at hl 2 rfl) ?_
  refine lv_aload_n hx hb d_Law_law_394 rfl (lv_at hl 0 rfl) ?_
  refine lv_iload_n hx hb d_Law_law_395 rfl (lv_at hl 3 rfl) ?_
  refine lv_iconst (v := (1 : Int32)) hx hb d_Law_law_396 (by decide) ?_
  refine lv_iadd hx hb d_Law_law_397 ?_
  refine va_sld hx hb hX hbl hbA hS (vp_j 1 rfl (by omega) hL) d_Law_law_398 ?_
  refine vX (B := (L_fimrgchk ty fA mA rA gA cA hA kA (pvO po) tF (imO o0 o1) sM sN sR sG sC tH)) (B' := (L_fimrgchk ty fA mA rA gA cA hA kA (pvO po) tF (imO o0 o1) tM tN sR sG sC tH)) (Lc := (L_m ty mA sM sN)) (Lc' := (L_m ty mA tM tN)) (rest := [.int rr]) C0 (c_Model_waits l D ty mA H.size sM sN (xs (nI i + (1 : Int32)).toNatClampNeg) rr tM tN e2) PcM.blind k_969 cal_Model_waits hw hS hAb [2, 3, 4, 5, 6, 7, 8, 9, 10, 11, 12, 13] rfl (by decide) rfl rfl (fun hPc => va_recv hK.1 hPc (ci := 11) (q0 := 0) rfl rfl) (fun hPc hDc hF U hU hW => ⟨rfl, by rw [hU], by rw [hU]; exact hPc, hK.warm hW, hDc⟩) ⟨by decide, by decide⟩ rfl rfl rfl hl.1 rfl (Nat.le_of_ble_eq_true rfl) d_Law_law_399 ⟨by show _ ≤ 600000; omega, by show _ ≤ 7302250; omega⟩ rfl (fun H locs hw hS => ?_)
  refine lv_icmp_eq (tgt := 1081) hx hb d_Law_law_402 (by decide) (fun _ => ?_) (fun q => absurd rfl q)
  exact hN _ _ _ _ _ _ _ _ _ _ _ _ ls _ _ hRel hw hS hl (by omega) (by omega)
set_option maxHeartbeats 4000000 in
set_option maxRecDepth 100000 in
theorem lc_war {p : Program} {l : Launch} {e : Env} {s : State} {m : MethodId} {below : List Frame} {meth : Method} {c : Code} {b L : Nat} {xs : Nat → Int32} {D : va_G} {ty : Nat → ClassId} {fA mA rA gA cA hA kA aK aV : Nat → Nat} {Rel : Relt} {i : Nat} (hC : LC p s m meth c b L xs D ty aK aV) (hN : Nx p l e s m below meth c b D ty fA mA rA gA cA hA kA Rel 1081 i (1010 + 10 * i) (14000 + 4000 * i)) (hi : i + 6 ≤ L) (op : Op_war Rel) : Nx p l e s m below meth c b D ty fA mA rA gA cA hA kA Rel 407 i (1000 + 10 * i) (10000 + 4000 * i) := by
  intro po o0 o1 sF sM sN sR sG sC sH H locs ls cells slots hRel hw hS hl hcb hsb
  obtain ⟨C0, hK, hT, hX, hbl, hL⟩ := id hC
  obtain ⟨hx, hb, hr, hlk, hml, hown, htt⟩ := id C0
  have hbA : ¬ (fun q => s.heap.size ≤ q) b := Nat.not_le.mpr hbl
  obtain ⟨rr, tF, tH, tM, tN, e1, e2, hRel⟩ := op _ _ _ _ _ _ _ hRel (xs (nI i + (1 : Int32)).toNatClampNeg)
  refine lv_aload_n hx hb d_Law_law_407 rfl (lv_at hl 1 rfl) ?_
  refine lv_aload_n hx hb d_Law_law_408 rfl (lv_at hl 0 rfl) ?_
  refine lv_iload_n hx hb d_Law_law_409 rfl (lv_at hl 3 rfl) ?_
  refine lv_iconst (v := (1 : Int32)) hx hb d_Law_law_410 (by decide) ?_
  refine lv_iadd hx hb d_Law_law_411 ?_
  refine va_sld hx hb hX hbl hbA hS (vp_j 1 rfl (by omega) hL) d_Law_law_412 ?_
  refine vX (B := (L_fimrgchk ty fA mA rA gA cA hA kA (pvO po) sF (imO o0 o1) sM sN sR sG sC sH)) (B' := (L_fimrgchk ty fA mA rA gA cA hA kA (pvO po) tF (imO o0 o1) sM sN sR sG sC tH)) (Lc := (L_fh ty fA rA cA hA kA (pvO po) sF sH)) (Lc' := (L_fh ty fA rA cA hA kA (pvO po) tF tH)) (rest := []) C0 (c_Face_war l D ty fA rA cA hA kA (pvO po) H.size sF sH (xs (nI i + (1 : Int32)).toNatClampNeg) rr tF tH e1) PcM.blind k_481 cal_Face_war hw hS hAb [0, 25, 26, 27, 28, 29, 30, 31] rfl (by decide) rfl rfl (fun hPc => va_recv hK.1 hPc (ci := 10) (q0 := 0) rfl rfl) (fun hPc hDc hF U hU hW => ⟨rfl, by rw [hU], by rw [hU]; exact hPc, hK.warm hW, hDc⟩) ⟨by decide, by decide⟩ rfl rfl rfl hl.1 rfl (Nat.le_of_ble_eq_true rfl) d_Law_law_413 ⟨by show _ ≤ 600000; omega, by show _ ≤ 7302250; omega⟩ rfl (fun H locs hw hS => ?_)
  refine lv_aload_n hx hb d_Law_law_416 rfl (lv_at hl 2 rfl) ?_
  refine lv_aload_n hx hb d_Law_law_417 rfl (lv_at hl 0 rfl) ?_
  refine lv_iload_n hx hb d_Law_law_418 rfl (lv_at hl 3 rfl) ?_
  refine lv_iconst (v := (1 : Int32)) hx hb d_Law_law_419 (by decide) ?_
  refine lv_iadd hx hb d_Law_law_420 ?_
  refine va_sld hx hb hX hbl hbA hS (vp_j 1 rfl (by omega) hL) d_Law_law_421 ?_
  refine vX (B := (L_fimrgchk ty fA mA rA gA cA hA kA (pvO po) tF (imO o0 o1) sM sN sR sG sC tH)) (B' := (L_fimrgchk ty fA mA rA gA cA hA kA (pvO po) tF (imO o0 o1) tM tN sR sG sC tH)) (Lc := (L_m ty mA sM sN)) (Lc' := (L_m ty mA tM tN)) (rest := [.int rr]) C0 (c_Model_war l D ty mA H.size sM sN (xs (nI i + (1 : Int32)).toNatClampNeg) rr tM tN e2) PcM.blind k_974 cal_Model_war hw hS hAb [2, 3, 4, 5, 6, 7, 8, 9, 10, 11, 12, 13] rfl (by decide) rfl rfl (fun hPc => va_recv hK.1 hPc (ci := 11) (q0 := 0) rfl rfl) (fun hPc hDc hF U hU hW => ⟨rfl, by rw [hU], by rw [hU]; exact hPc, hK.warm hW, hDc⟩) ⟨by decide, by decide⟩ rfl rfl rfl hl.1 rfl (Nat.le_of_ble_eq_true rfl) d_Law_law_422 ⟨by show _ ≤ 600000; omega, by show _ ≤ 7302250; omega⟩ rfl (fun H locs hw hS => ?_)
  refine lv_icmp_eq (tgt := 1081) hx hb d_Law_law_425 (by decide) (fun _ => ?_) (fun q => absurd rfl q)
  exact hN _ _ _ _ _ _ _ _ _ _ _ _ ls _ _ hRel hw hS hl (by omega) (by omega)
set_option maxHeartbeats 4000000 in
set_option maxRecDepth 100000 in
theorem lc_undo {p : Program} {l : Launch} {e : Env} {s : State} {m : MethodId} {below : List Frame} {meth : Method} {c : Code} {b L : Nat} {xs : Nat → Int32} {D : va_G} {ty : Nat → ClassId} {fA mA rA gA cA hA kA aK aV : Nat → Nat} {Rel : Relt} {i : Nat} (hC : LC p s m meth c b L xs D ty aK aV) (hN : Nx p l e s m below meth c b D ty fA mA rA gA cA hA kA Rel 1081 i (1010 + 10 * i) (14000 + 4000 * i)) (hi : i + 6 ≤ L) (op : Op_undo Rel) : Nx p l e s m below meth c b D ty fA mA rA gA cA hA kA Rel 430 i (1000 + 10 * i) (10000 + 4000 * i) := by
  intro po o0 o1 sF sM sN sR sG sC sH H locs ls cells slots hRel hw hS hl hcb hsb
  obtain ⟨C0, hK, hT, hX, hbl, hL⟩ := id hC
  obtain ⟨hx, hb, hr, hlk, hml, hown, htt⟩ := id C0
  have hbA : ¬ (fun q => s.heap.size ≤ q) b := Nat.not_le.mpr hbl
  obtain ⟨rr, tF, tH, tM, tN, e1, e2, hRel⟩ := op _ _ _ _ _ _ _ hRel ()
  refine lv_aload_n hx hb d_Law_law_430 rfl (lv_at hl 1 rfl) ?_
  refine vX (B := (L_fimrgchk ty fA mA rA gA cA hA kA (pvO po) sF (imO o0 o1) sM sN sR sG sC sH)) (B' := (L_fimrgchk ty fA mA rA gA cA hA kA (pvO po) tF (imO o0 o1) sM sN sR sG sC tH)) (Lc := (L_fh ty fA rA cA hA kA (pvO po) sF sH)) (Lc' := (L_fh ty fA rA cA hA kA (pvO po) tF tH)) (rest := []) C0 (c_Face_undo l D ty fA rA cA hA kA (pvO po) H.size sF sH rr tF tH e1) PcM.blind k_486 cal_Face_undo hw hS hAb [0, 25, 26, 27, 28, 29, 30, 31] rfl (by decide) rfl rfl (fun hPc => va_recv hK.1 hPc (ci := 10) (q0 := 0) rfl rfl) (fun hPc hDc hF U hU hW => ⟨rfl, by rw [hU], by rw [hU]; exact hPc, hK.warm hW, hDc⟩) ⟨by decide, by decide⟩ rfl rfl rfl hl.1 rfl (Nat.le_of_ble_eq_true rfl) d_Law_law_431 ⟨by show _ ≤ 600000; omega, by show _ ≤ 7302250; omega⟩ rfl (fun H locs hw hS => ?_)
  refine lv_aload_n hx hb d_Law_law_434 rfl (lv_at hl 2 rfl) ?_
  refine vX (B := (L_fimrgchk ty fA mA rA gA cA hA kA (pvO po) tF (imO o0 o1) sM sN sR sG sC tH)) (B' := (L_fimrgchk ty fA mA rA gA cA hA kA (pvO po) tF (imO o0 o1) tM tN sR sG sC tH)) (Lc := (L_m ty mA sM sN)) (Lc' := (L_m ty mA tM tN)) (rest := [.int rr]) C0 (c_Model_undo l D ty mA H.size sM sN rr tM tN e2) PcM.blind k_978 cal_Model_undo hw hS hAb [2, 3, 4, 5, 6, 7, 8, 9, 10, 11, 12, 13] rfl (by decide) rfl rfl (fun hPc => va_recv hK.1 hPc (ci := 11) (q0 := 0) rfl rfl) (fun hPc hDc hF U hU hW => ⟨rfl, by rw [hU], by rw [hU]; exact hPc, hK.warm hW, hDc⟩) ⟨by decide, by decide⟩ rfl rfl rfl hl.1 rfl (Nat.le_of_ble_eq_true rfl) d_Law_law_435 ⟨by show _ ≤ 600000; omega, by show _ ≤ 7302250; omega⟩ rfl (fun H locs hw hS => ?_)
  refine lv_icmp_eq (tgt := 1081) hx hb d_Law_law_438 (by decide) (fun _ => ?_) (fun q => absurd rfl q)
  exact hN _ _ _ _ _ _ _ _ _ _ _ _ ls _ _ hRel hw hS hl (by omega) (by omega)
set_option maxHeartbeats 4000000 in
set_option maxRecDepth 100000 in
theorem lc_of {p : Program} {l : Launch} {e : Env} {s : State} {m : MethodId} {below : List Frame} {meth : Method} {c : Code} {b L : Nat} {xs : Nat → Int32} {D : va_G} {ty : Nat → ClassId} {fA mA rA gA cA hA kA aK aV : Nat → Nat} {Rel : Relt} {i : Nat} (hC : LC p s m meth c b L xs D ty aK aV) (hN : Nx p l e s m below meth c b D ty fA mA rA gA cA hA kA Rel 1081 i (1010 + 10 * i) (14000 + 4000 * i)) (hi : i + 6 ≤ L) (op : Op_of Rel) : Nx p l e s m below meth c b D ty fA mA rA gA cA hA kA Rel 443 i (1000 + 10 * i) (10000 + 4000 * i) := by
  intro po o0 o1 sF sM sN sR sG sC sH H locs ls cells slots hRel hw hS hl hcb hsb
  obtain ⟨C0, hK, hT, hX, hbl, hL⟩ := id hC
  obtain ⟨hx, hb, hr, hlk, hml, hown, htt⟩ := id C0
  have hbA : ¬ (fun q => s.heap.size ≤ q) b := Nat.not_le.mpr hbl
  obtain ⟨rr, tF, tM, tN, e1, e2, hRel⟩ := op _ _ _ _ _ _ _ hRel (xs (nI i + (1 : Int32)).toNatClampNeg) (xs (nI i + (2 : Int32)).toNatClampNeg)
  refine lv_aload_n hx hb d_Law_law_443 rfl (lv_at hl 1 rfl) ?_
  refine lv_aload_n hx hb d_Law_law_444 rfl (lv_at hl 0 rfl) ?_
  refine lv_iload_n hx hb d_Law_law_445 rfl (lv_at hl 3 rfl) ?_
  refine lv_iconst (v := (1 : Int32)) hx hb d_Law_law_446 (by decide) ?_
  refine lv_iadd hx hb d_Law_law_447 ?_
  refine va_sld hx hb hX hbl hbA hS (vp_j 1 rfl (by omega) hL) d_Law_law_448 ?_
  refine lv_aload_n hx hb d_Law_law_449 rfl (lv_at hl 0 rfl) ?_
  refine lv_iload_n hx hb d_Law_law_450 rfl (lv_at hl 3 rfl) ?_
  refine lv_iconst (v := (2 : Int32)) hx hb d_Law_law_451 (by decide) ?_
  refine lv_iadd hx hb d_Law_law_452 ?_
  refine va_sld hx hb hX hbl hbA hS (vp_j 2 rfl (by omega) hL) d_Law_law_453 ?_
  refine vX (B := (L_fimrgchk ty fA mA rA gA cA hA kA (pvO po) sF (imO o0 o1) sM sN sR sG sC sH)) (B' := (L_fimrgchk ty fA mA rA gA cA hA kA (pvO po) tF (imO o0 o1) sM sN sR sG sC sH)) (Lc := (L_fh ty fA rA cA hA kA (pvO po) sF sH)) (Lc' := (L_fh ty fA rA cA hA kA (pvO po) tF sH)) (rest := []) C0 (c_Face_of l D ty fA rA cA hA kA (pvO po) H.size sF sH (xs (nI i + (1 : Int32)).toNatClampNeg) (xs (nI i + (2 : Int32)).toNatClampNeg) rr tF e1) PcM.blind k_494 cal_Face_of hw hS hAb [0, 25, 26, 27, 28, 29, 30, 31] rfl (by decide) rfl rfl (fun hPc => va_recv hK.1 hPc (ci := 10) (q0 := 0) rfl rfl) (fun hPc hDc hF U hU hW => ⟨rfl, by rw [hU], by rw [hU]; exact hPc, hK.warm hW, hDc⟩) ⟨by decide, by decide⟩ rfl rfl rfl hl.1 rfl (Nat.le_of_ble_eq_true rfl) d_Law_law_454 ⟨by show _ ≤ 600000; omega, by show _ ≤ 7302250; omega⟩ rfl (fun H locs hw hS => ?_)
  refine lv_aload_n hx hb d_Law_law_457 rfl (lv_at hl 2 rfl) ?_
  refine lv_aload_n hx hb d_Law_law_458 rfl (lv_at hl 0 rfl) ?_
  refine lv_iload_n hx hb d_Law_law_459 rfl (lv_at hl 3 rfl) ?_
  refine lv_iconst (v := (1 : Int32)) hx hb d_Law_law_460 (by decide) ?_
  refine lv_iadd hx hb d_Law_law_461 ?_
  refine va_sld hx hb hX hbl hbA hS (vp_j 1 rfl (by omega) hL) d_Law_law_462 ?_
  refine lv_aload_n hx hb d_Law_law_463 rfl (lv_at hl 0 rfl) ?_
  refine lv_iload_n hx hb d_Law_law_464 rfl (lv_at hl 3 rfl) ?_
  refine lv_iconst (v := (2 : Int32)) hx hb d_Law_law_465 (by decide) ?_
  refine lv_iadd hx hb d_Law_law_466 ?_
  refine va_sld hx hb hX hbl hbA hS (vp_j 2 rfl (by omega) hL) d_Law_law_467 ?_
  refine vX (B := (L_fimrgchk ty fA mA rA gA cA hA kA (pvO po) tF (imO o0 o1) sM sN sR sG sC sH)) (B' := (L_fimrgchk ty fA mA rA gA cA hA kA (pvO po) tF (imO o0 o1) tM tN sR sG sC sH)) (Lc := (L_m ty mA sM sN)) (Lc' := (L_m ty mA tM tN)) (rest := [.int rr]) C0 (c_Model_of l D ty mA H.size sM sN (xs (nI i + (1 : Int32)).toNatClampNeg) (xs (nI i + (2 : Int32)).toNatClampNeg) rr tM tN e2) PcM.blind k_982 cal_Model_of hw hS hAb [2, 3, 4, 5, 6, 7, 8, 9, 10, 11, 12, 13] rfl (by decide) rfl rfl (fun hPc => va_recv hK.1 hPc (ci := 11) (q0 := 0) rfl rfl) (fun hPc hDc hF U hU hW => ⟨rfl, by rw [hU], by rw [hU]; exact hPc, hK.warm hW, hDc⟩) ⟨by decide, by decide⟩ rfl rfl rfl hl.1 rfl (Nat.le_of_ble_eq_true rfl) d_Law_law_468 ⟨by show _ ≤ 600000; omega, by show _ ≤ 7302250; omega⟩ rfl (fun H locs hw hS => ?_)
  refine lv_icmp_eq (tgt := 1081) hx hb d_Law_law_471 (by decide) (fun _ => ?_) (fun q => absurd rfl q)
  exact hN _ _ _ _ _ _ _ _ _ _ _ _ ls _ _ hRel hw hS hl (by omega) (by omega)
set_option maxHeartbeats 4000000 in
set_option maxRecDepth 100000 in
theorem lc_now {p : Program} {l : Launch} {e : Env} {s : State} {m : MethodId} {below : List Frame} {meth : Method} {c : Code} {b L : Nat} {xs : Nat → Int32} {D : va_G} {ty : Nat → ClassId} {fA mA rA gA cA hA kA aK aV : Nat → Nat} {Rel : Relt} {i : Nat} (hC : LC p s m meth c b L xs D ty aK aV) (hN : Nx p l e s m below meth c b D ty fA mA rA gA cA hA kA Rel 1081 i (1010 + 10 * i) (14000 + 4000 * i)) (hi : i + 6 ≤ L) (op : Op_now Rel) : Nx p l e s m below meth c b D ty fA mA rA gA cA hA kA Rel 476 i (1000 + 10 * i) (10000 + 4000 * i) := by
  intro po o0 o1 sF sM sN sR sG sC sH H locs ls cells slots hRel hw hS hl hcb hsb
  obtain ⟨C0, hK, hT, hX, hbl, hL⟩ := id hC
  obtain ⟨hx, hb, hr, hlk, hml, hown, htt⟩ := id C0
  have hbA : ¬ (fun q => s.heap.size ≤ q) b := Nat.not_le.mpr hbl
  obtain ⟨rr, tF, tM, tN, e1, e2, hRel⟩ := op _ _ _ _ _ _ _ hRel (xs (nI i + (1 : Int32)).toNatClampNeg)
  refine lv_aload_n hx hb d_Law_law_476 rfl (lv_at hl 1 rfl) ?_
  refine lv_aload_n hx hb d_Law_law_477 rfl (lv_at hl 0 rfl) ?_
  refine lv_iload_n hx hb d_Law_law_478 rfl (lv_at hl 3 rfl) ?_
  refine lv_iconst (v := (1 : Int32)) hx hb d_Law_law_479 (by decide) ?_
  refine lv_iadd hx hb d_Law_law_480 ?_
  refine va_sld hx hb hX hbl hbA hS (vp_j 1 rfl (by omega) hL) d_Law_law_481 ?_
  refine vX (B := (L_fimrgchk ty fA mA rA gA cA hA kA (pvO po) sF (imO o0 o1) sM sN sR sG sC sH)) (B' := (L_fimrgchk ty fA mA rA gA cA hA kA (pvO po) tF (imO o0 o1) sM sN sR sG sC sH)) (Lc := (L_fh ty fA rA cA hA kA (pvO po) sF sH)) (Lc' := (L_fh ty fA rA cA hA kA (pvO po) tF sH)) (rest := []) C0 (c_Face_now l D ty fA rA cA hA kA (pvO po) H.size sF sH (xs (nI i + (1 : Int32)).toNatClampNeg) rr tF e1) PcM.blind k_498 cal_Face_now hw hS hAb [0, 25, 26, 27, 28, 29, 30, 31] rfl (by decide) rfl rfl (fun hPc => va_recv hK.1 hPc (ci := 10) (q0 := 0) rfl rfl) (fun hPc hDc hF U hU hW => ⟨rfl, by rw [hU], by rw [hU]; exact hPc, hK.warm hW, hDc⟩) ⟨by decide, by decide⟩ rfl rfl rfl hl.1 rfl (Nat.le_of_ble_eq_true rfl) d_Law_law_482 ⟨by show _ ≤ 600000; omega, by show _ ≤ 7302250; omega⟩ rfl (fun H locs hw hS => ?_)
  refine lv_aload_n hx hb d_Law_law_485 rfl (lv_at hl 2 rfl) ?_
  refine lv_aload_n hx hb d_Law_law_486 rfl (lv_at hl 0 rfl) ?_
  refine lv_iload_n hx hb d_Law_law_487 rfl (lv_at hl 3 rfl) ?_
  refine lv_iconst (v := (1 : Int32)) hx hb d_Law_law_488 (by decide) ?_
  refine lv_iadd hx hb d_Law_law_489 ?_
  refine va_sld hx hb hX hbl hbA hS (vp_j 1 rfl (by omega) hL) d_Law_law_490 ?_
  refine vX (B := (L_fimrgchk ty fA mA rA gA cA hA kA (pvO po) tF (imO o0 o1) sM sN sR sG sC sH)) (B' := (L_fimrgchk ty fA mA rA gA cA hA kA (pvO po) tF (imO o0 o1) tM tN sR sG sC sH)) (Lc := (L_m ty mA sM sN)) (Lc' := (L_m ty mA tM tN)) (rest := [.int rr]) C0 (c_Model_now l D ty mA H.size sM sN (xs (nI i + (1 : Int32)).toNatClampNeg) rr tM tN e2) PcM.blind k_986 cal_Model_now hw hS hAb [2, 3, 4, 5, 6, 7, 8, 9, 10, 11, 12, 13] rfl (by decide) rfl rfl (fun hPc => va_recv hK.1 hPc (ci := 11) (q0 := 0) rfl rfl) (fun hPc hDc hF U hU hW => ⟨rfl, by rw [hU], by rw [hU]; exact hPc, hK.warm hW, hDc⟩) ⟨by decide, by decide⟩ rfl rfl rfl hl.1 rfl (Nat.le_of_ble_eq_true rfl) d_Law_law_491 ⟨by show _ ≤ 600000; omega, by show _ ≤ 7302250; omega⟩ rfl (fun H locs hw hS => ?_)
  refine lv_icmp_eq (tgt := 1081) hx hb d_Law_law_494 (by decide) (fun _ => ?_) (fun q => absurd rfl q)
  exact hN _ _ _ _ _ _ _ _ _ _ _ _ ls _ _ hRel hw hS hl (by omega) (by omega)
set_option maxHeartbeats 4000000 in
set_option maxRecDepth 100000 in
theorem lc_due {p : Program} {l : Launch} {e : Env} {s : State} {m : MethodId} {below : List Frame} {meth : Method} {c : Code} {b L : Nat} {xs : Nat → Int32} {D : va_G} {ty : Nat → ClassId} {fA mA rA gA cA hA kA aK aV : Nat → Nat} {Rel : Relt} {i : Nat} (hC : LC p s m meth c b L xs D ty aK aV) (hN : Nx p l e s m below meth c b D ty fA mA rA gA cA hA kA Rel 1081 i (1010 + 10 * i) (14000 + 4000 * i)) (hi : i + 6 ≤ L) (op : Op_due Rel) : Nx p l e s m below meth c b D ty fA mA rA gA cA hA kA Rel 499 i (1000 + 10 * i) (10000 + 4000 * i) := by
  intro po o0 o1 sF sM sN sR sG sC sH H locs ls cells slots hRel hw hS hl hcb hsb
  obtain ⟨C0, hK, hT, hX, hbl, hL⟩ := id hC
  obtain ⟨hx, hb, hr, hlk, hml, hown, htt⟩ := id C0
  have hbA : ¬ (fun q => s.heap.size ≤ q) b := Nat.not_le.mpr hbl
  obtain ⟨rr, tF, tM, tN, e1, e2, hRel⟩ := op _ _ _ _ _ _ _ hRel (xs (nI i + (1 : Int32)).toNatClampNeg) (xs (nI i + (2 : Int32)).toNatClampNeg) (xs (nI i + (3 : Int32)).toNatClampNeg)
  refine lv_aload_n hx hb d_Law_law_499 rfl (lv_at hl 1 rfl) ?_
  refine lv_aload_n hx hb d_Law_law_500 rfl (lv_at hl 0 rfl) ?_
  refine lv_iload_n hx hb d_Law_law_501 rfl (lv_at hl 3 rfl) ?_
  refine lv_iconst (v := (1 : Int32)) hx hb d_Law_law_502 (by decide) ?_
  refine lv_iadd hx hb d_Law_law_503 ?_
  refine va_sld hx hb hX hbl hbA hS (vp_j 1 rfl (by omega) hL) d_Law_law_504 ?_
  refine lv_aload_n hx hb d_Law_law_505 rfl (lv_at hl 0 rfl) ?_
  refine lv_iload_n hx hb d_Law_law_506 rfl (lv_at hl 3 rfl) ?_
  refine lv_iconst (v := (2 : Int32)) hx hb d_Law_law_507 (by decide) ?_
  refine lv_iadd hx hb d_Law_law_508 ?_
  refine va_sld hx hb hX hbl hbA hS (vp_j 2 rfl (by omega) hL) d_Law_law_509 ?_
  refine lv_aload_n hx hb d_Law_law_510 rfl (lv_at hl 0 rfl) ?_
  refine lv_iload_n hx hb d_Law_law_511 rfl (lv_at hl 3 rfl) ?_
  refine lv_iconst (v := (3 : Int32)) hx hb d_Law_law_512 (by decide) ?_
  refine lv_iadd hx hb d_Law_law_513 ?_
  refine va_sld hx hb hX hbl hbA hS (vp_j 3 rfl (by omega) hL) d_Law_law_514 ?_
  refine vX (B := (L_fimrgchk ty fA mA rA gA cA hA kA (pvO po) sF (imO o0 o1) sM sN sR sG sC sH)) (B' := (L_fimrgchk ty fA mA rA gA cA hA kA (pvO po) tF (imO o0 o1) sM sN sR sG sC sH)) (Lc := (L_fhk ty fA rA cA hA kA (pvO po) sF sH)) (Lc' := (L_fhk ty fA rA cA hA kA (pvO po) tF sH)) (rest := []) C0 (c_Face_due l D ty fA rA cA hA kA (pvO po) H.size sF sH (xs (nI i + (1 : Int32)).toNatClampNeg) (xs (nI i + (2 : Int32)).toNatClampNeg) (xs (nI i + (3 : Int32)).toNatClampNeg) rr tF e1) PcM.blind k_502 cal_Face_due hw hS hAb [0, 25, 26, 27, 28, 29, 30, 31, 32, 33, 34, 35, 36, 37, 38] rfl (by decide) rfl rfl (fun hPc => va_recv hK.1 hPc (ci := 10) (q0 := 0) rfl rfl) (fun hPc hDc hF U hU hW => ⟨rfl, by rw [hU], by rw [hU]; exact hPc, hK.warm hW, hDc⟩) ⟨by decide, by decide⟩ rfl rfl rfl hl.1 rfl (Nat.le_of_ble_eq_true rfl) d_Law_law_515 ⟨by show _ ≤ 600000; omega, by show _ ≤ 7302250; omega⟩ rfl (fun H locs hw hS => ?_)
  refine lv_aload_n hx hb d_Law_law_518 rfl (lv_at hl 2 rfl) ?_
  refine lv_aload_n hx hb d_Law_law_519 rfl (lv_at hl 0 rfl) ?_
  refine lv_iload_n hx hb d_Law_law_520 rfl (lv_at hl 3 rfl) ?_
  refine lv_iconst (v := (1 : Int32)) hx hb d_Law_law_521 (by decide) ?_
  refine lv_iadd hx hb d_Law_law_522 ?_
  refine va_sld hx hb hX hbl hbA hS (vp_j 1 rfl (by omega) hL) d_Law_law_523 ?_
  refine lv_aload_n hx hb d_Law_law_524 rfl (lv_at hl 0 rfl) ?_
  refine lv_iload_n hx hb d_Law_law_525 rfl (lv_at hl 3 rfl) ?_
  refine lv_iconst (v := (2 : Int32)) hx hb d_Law_law_526 (by decide) ?_
  refine lv_iadd hx hb d_Law_law_527 ?_
  refine va_sld hx hb hX hbl hbA hS (vp_j 2 rfl (by omega) hL) d_Law_law_528 ?_
  refine lv_aload_n hx hb d_Law_law_529 rfl (lv_at hl 0 rfl) ?_
  refine lv_iload_n hx hb d_Law_law_530 rfl (lv_at hl 3 rfl) ?_
  refine lv_iconst (v := (3 : Int32)) hx hb d_Law_law_531 (by decide) ?_
  refine lv_iadd hx hb d_Law_law_532 ?_
  refine va_sld hx hb hX hbl hbA hS (vp_j 3 rfl (by omega) hL) d_Law_law_533 ?_
  refine vX (B := (L_fimrgchk ty fA mA rA gA cA hA kA (pvO po) tF (imO o0 o1) sM sN sR sG sC sH)) (B' := (L_fimrgchk ty fA mA rA gA cA hA kA (pvO po) tF (imO o0 o1) tM tN sR sG sC sH)) (Lc := (L_m ty mA sM sN)) (Lc' := (L_m ty mA tM tN)) (rest := [.int rr]) C0 (c_Model_due l D ty mA H.size sM sN (xs (nI i + (1 : Int32)).toNatClampNeg) (xs (nI i + (2 : Int32)).toNatClampNeg) (xs (nI i + (3 : Int32)).toNatClampNeg) rr tM tN e2) PcM.blind k_991 cal_Model_due hw hS hAb [2, 3, 4, 5, 6, 7, 8, 9, 10, 11, 12, 13] rfl (by decide) rfl rfl (fun hPc => va_recv hK.1 hPc (ci := 11) (q0 := 0) rfl rfl) (fun hPc hDc hF U hU hW => ⟨rfl, by rw [hU], by rw [hU]; exact hPc, hK.warm hW, hDc⟩) ⟨by decide, by decide⟩ rfl rfl rfl hl.1 rfl (Nat.le_of_ble_eq_true rfl) d_Law_law_534 ⟨by show _ ≤ 600000; omega, by show _ ≤ 7302250; omega⟩ rfl (fun H locs hw hS => ?_)
  refine lv_icmp_eq (tgt := 1081) hx hb d_Law_law_537 (by decide) (fun _ => ?_) (fun q => absurd rfl q)
  exact hN _ _ _ _ _ _ _ _ _ _ _ _ ls _ _ hRel hw hS hl (by omega) (by omega)
set_option maxHeartbeats 4000000 in
set_option maxRecDepth 100000 in
theorem lc_both {p : Program} {l : Launch} {e : Env} {s : State} {m : MethodId} {below : List Frame} {meth : Method} {c : Code} {b L : Nat} {xs : Nat → Int32} {D : va_G} {ty : Nat → ClassId} {fA mA rA gA cA hA kA aK aV : Nat → Nat} {Rel : Relt} {i : Nat} (hC : LC p s m meth c b L xs D ty aK aV) (hN : Nx p l e s m below meth c b D ty fA mA rA gA cA hA kA Rel 1081 i (1010 + 10 * i) (14000 + 4000 * i)) (hi : i + 6 ≤ L) (op : Op_both Rel) : Nx p l e s m below meth c b D ty fA mA rA gA cA hA kA Rel 542 i (1000 + 10 * i) (10000 + 4000 * i) := by
  intro po o0 o1 sF sM sN sR sG sC sH H locs ls cells slots hRel hw hS hl hcb hsb
  obtain ⟨C0, hK, hT, hX, hbl, hL⟩ := id hC
  obtain ⟨hx, hb, hr, hlk, hml, hown, htt⟩ := id C0
  have hbA : ¬ (fun q => s.heap.size ≤ q) b := Nat.not_le.mpr hbl
  obtain ⟨rr, tF, tM, tN, e1, e2, hRel⟩ := op _ _ _ _ _ _ _ sC hRel (xs (nI i + (1 : Int32)).toNatClampNeg) (xs (nI i + (2 : Int32)).toNatClampNeg)
  refine lv_aload_n hx hb d_Law_law_542 rfl (lv_at hl 1 rfl) ?_
  refine lv_aload_n hx hb d_Law_law_543 rfl (lv_at hl 0 rfl) ?_
  refine lv_iload_n hx hb d_Law_law_544 rfl (lv_at hl 3 rfl) ?_
  refine lv_iconst (v := (1 : Int32)) hx hb d_Law_law_545 (by decide) ?_
  refine lv_iadd hx hb d_Law_law_546 ?_
  refine va_sld hx hb hX hbl hbA hS (vp_j 1 rfl (by omega) hL) d_Law_law_547 ?_
  refine lv_aload_n hx hb d_Law_law_548 rfl (lv_at hl 0 rfl) ?_
  refine lv_iload_n hx hb d_Law_law_549 rfl (lv_at hl 3 rfl) ?_
  refine lv_iconst (v := (2 : Int32)) hx hb d_Law_law_550 (by decide) ?_
  refine lv_iadd hx hb d_Law_law_551 ?_
  refine va_sld hx hb hX hbl hbA hS (vp_j 2 rfl (by omega) hL) d_Law_law_552 ?_
  refine vX (B := (L_fimrgchk ty fA mA rA gA cA hA kA (pvO po) sF (imO o0 o1) sM sN sR sG sC sH)) (B' := (L_fimrgchk ty fA mA rA gA cA hA kA (pvO po) tF (imO o0 o1) sM sN sR sG sC sH)) (Lc := (L_fchk ty fA rA cA hA kA (pvO po) sF sC sH)) (Lc' := (L_fchk ty fA rA cA hA kA (pvO po) tF sC sH)) (rest := []) C0 (c_Face_both l D ty fA rA cA hA kA (pvO po) H.size sF sC sH (xs (nI i + (1 : Int32)).toNatClampNeg) (xs (nI i + (2 : Int32)).toNatClampNeg) rr tF e1) PcM.blind k_510 cal_Face_both hw hS hAb [0, 23, 24, 25, 26, 27, 28, 29, 30, 31, 32, 33, 34, 35, 36, 37, 38] rfl (by decide) rfl rfl (fun hPc => va_recv hK.1 hPc (ci := 10) (q0 := 0) rfl rfl) (fun hPc hDc hF U hU hW => ⟨rfl, by rw [hU], by rw [hU]; exact hPc, hK.warm hW, hDc⟩) ⟨by decide, by decide⟩ rfl rfl rfl hl.1 rfl (Nat.le_of_ble_eq_true rfl) d_Law_law_553 ⟨by show _ ≤ 600000; omega, by show _ ≤ 7302250; omega⟩ rfl (fun H locs hw hS => ?_)
  refine lv_aload_n hx hb d_Law_law_556 rfl (lv_at hl 2 rfl) ?_
  refine lv_aload_n hx hb d_Law_law_557 rfl (lv_at hl 0 rfl) ?_
  refine lv_iload_n hx hb d_Law_law_558 rfl (lv_at hl 3 rfl) ?_
  refine lv_iconst (v := (1 : Int32)) hx hb d_Law_law_559 (by decide) ?_
  refine lv_iadd hx hb d_Law_law_560 ?_
  refine va_sld hx hb hX hbl hbA hS (vp_j 1 rfl (by omega) hL) d_Law_law_561 ?_
  refine lv_aload_n hx hb d_Law_law_562 rfl (lv_at hl 0 rfl) ?_
  refine lv_iload_n hx hb d_Law_law_563 rfl (lv_at hl 3 rfl) ?_
  refine lv_iconst (v := (2 : Int32)) hx hb d_Law_law_564 (by decide) ?_
  refine lv_iadd hx hb d_Law_law_565 ?_
  refine va_sld hx hb hX hbl hbA hS (vp_j 2 rfl (by omega) hL) d_Law_law_566 ?_
  refine vX (B := (L_fimrgchk ty fA mA rA gA cA hA kA (pvO po) tF (imO o0 o1) sM sN sR sG sC sH)) (B' := (L_fimrgchk ty fA mA rA gA cA hA kA (pvO po) tF (imO o0 o1) tM tN sR sG sC sH)) (Lc := (L_m ty mA sM sN)) (Lc' := (L_m ty mA tM tN)) (rest := [.int rr]) C0 (c_Model_both l D ty mA H.size sM sN (xs (nI i + (1 : Int32)).toNatClampNeg) (xs (nI i + (2 : Int32)).toNatClampNeg) rr tM tN e2) PcM.blind k_999 cal_Model_both hw hS hAb [2, 3, 4, 5, 6, 7, 8, 9, 10, 11, 12, 13] rfl (by decide) rfl rfl (fun hPc => va_recv hK.1 hPc (ci := 11) (q0 := 0) rfl rfl) (fun hPc hDc hF U hU hW => ⟨rfl, by rw [hU], by rw [hU]; exact hPc, hK.warm hW, hDc⟩) ⟨by decide, by decide⟩ rfl rfl rfl hl.1 rfl (Nat.le_of_ble_eq_true rfl) d_Law_law_567 ⟨by show _ ≤ 600000; omega, by show _ ≤ 7302250; omega⟩ rfl (fun H locs hw hS => ?_)
  refine lv_icmp_eq (tgt := 1081) hx hb d_Law_law_570 (by decide) (fun _ => ?_) (fun q => absurd rfl q)
  exact hN _ _ _ _ _ _ _ _ _ _ _ _ ls _ _ hRel hw hS hl (by omega) (by omega)
set_option maxHeartbeats 4000000 in
set_option maxRecDepth 100000 in
theorem lc_least {p : Program} {l : Launch} {e : Env} {s : State} {m : MethodId} {below : List Frame} {meth : Method} {c : Code} {b L : Nat} {xs : Nat → Int32} {D : va_G} {ty : Nat → ClassId} {fA mA rA gA cA hA kA aK aV : Nat → Nat} {Rel : Relt} {i : Nat} (hC : LC p s m meth c b L xs D ty aK aV) (hN : Nx p l e s m below meth c b D ty fA mA rA gA cA hA kA Rel 1081 i (1010 + 10 * i) (14000 + 4000 * i)) (hi : i + 6 ≤ L) (op : Op_least Rel) : Nx p l e s m below meth c b D ty fA mA rA gA cA hA kA Rel 575 i (1000 + 10 * i) (10000 + 4000 * i) := by
  intro po o0 o1 sF sM sN sR sG sC sH H locs ls cells slots hRel hw hS hl hcb hsb
  obtain ⟨C0, hK, hT, hX, hbl, hL⟩ := id hC
  obtain ⟨hx, hb, hr, hlk, hml, hown, htt⟩ := id C0
  have hbA : ¬ (fun q => s.heap.size ≤ q) b := Nat.not_le.mpr hbl
  obtain ⟨rr, tM, tN, e2, hp, hq⟩ := op _ _ _ _ _ _ _ hRel (xs (nI i + (1 : Int32)).toNatClampNeg)
  refine lv_aload_n hx hb d_Law_law_575 rfl (lv_at hl 1 rfl) ?_
  refine lv_aload_n hx hb d_Law_law_576 rfl (lv_at hl 0 rfl) ?_
  refine lv_iload_n hx hb d_Law_law_577 rfl (lv_at hl 3 rfl) ?_
  refine lv_iconst (v := (1 : Int32)) hx hb d_Law_law_578 (by decide) ?_
  refine lv_iadd hx hb d_Law_law_579 ?_
  refine va_sld hx hb hX hbl hbA hS (vp_j 1 rfl (by omega) hL) d_Law_law_580 ?_
  rcases po with _ | ⟨pA, sP⟩
  · have hw : Wd D (fun q => s.heap.size ≤ q) ((L_fimrgchk ty fA mA rA gA cA hA kA .null sF (imO o0 o1) sM sN sR sG sC sH) ++ (xO ty kA o0 ++ xO ty kA o1)) H := hw
    rcases hq with ⟨tF, e1, hRel⟩ | ⟨tP, e1, hRel⟩
    · refine vX (B := (L_fimrgchk ty fA mA rA gA cA hA kA .null sF (imO o0 o1) sM sN sR sG sC sH)) (B' := (L_fimrgchk ty fA mA rA gA cA hA kA .null tF (imO o0 o1) sM sN sR sG sC sH)) (Lc := (L_fh ty fA rA cA hA kA .null sF sH)) (Lc' := (L_fh ty fA rA cA hA kA .null tF sH)) (rest := []) C0 (c_Face_least_r l D ty fA rA cA hA kA .null H.size sF sH (xs (nI i + (1 : Int32)).toNatClampNeg) rr tF e1) PcM.blind k_523 cal_Face_least hw hS hAb [0, 25, 26, 27, 28, 29, 30, 31] rfl (by decide) rfl rfl (fun hPc => va_recv hK.1 hPc (ci := 10) (q0 := 0) rfl rfl) (fun hPc hDc hF U hU hW => ⟨rfl, by rw [hU], by rw [hU]; exact hPc, hK.warm hW, hDc⟩) ⟨by decide, by decide⟩ rfl rfl rfl hl.1 rfl (Nat.le_of_ble_eq_true rfl) d_Law_law_581 ⟨by show _ ≤ 600000; omega, by show _ ≤ 7302250; omega⟩ rfl (fun H locs hw hS => ?_)
      have hw : Wd D (fun q => s.heap.size ≤ q) (LL ty fA mA rA gA cA hA kA none o0 o1 tF sM sN sR sG sC sH) H := hw
      refine lv_aload_n hx hb d_Law_law_584 rfl (lv_at hl 2 rfl) ?_
      refine lv_aload_n hx hb d_Law_law_585 rfl (lv_at hl 0 rfl) ?_
      refine lv_iload_n hx hb d_Law_law_586 rfl (lv_at hl 3 rfl) ?_
      refine lv_iconst (v := (1 : Int32)) hx hb d_Law_law_587 (by decide) ?_
      refine lv_iadd hx hb d_Law_law_588 ?_
      refine va_sld hx hb hX hbl hbA hS (vp_j 1 rfl (by omega) hL) d_Law_law_589 ?_
      refine vX (B := (L_fimrgchk ty fA mA rA gA cA hA kA (pvO none) tF (imO o0 o1) sM sN sR sG sC sH)) (B' := (L_fimrgchk ty fA mA rA gA cA hA kA (pvO none) tF (imO o0 o1) tM tN sR sG sC sH)) (Lc := (L_m ty mA sM sN)) (Lc' := (L_m ty mA tM tN)) (rest := [.int rr]) C0 (c_Model_least l D ty mA H.size sM sN (xs (nI i + (1 : Int32)).toNatClampNeg) rr tM tN e2) PcM.blind k_1003 cal_Model_least hw hS hAb [2, 3, 4, 5, 6, 7, 8, 9, 10, 11, 12, 13] rfl (by decide) rfl rfl (fun hPc => va_recv hK.1 hPc (ci := 11) (q0 := 0) rfl rfl) (fun hPc hDc hF U hU hW => ⟨rfl, by rw [hU], by rw [hU]; exact hPc, hK.warm hW, hDc⟩) ⟨by decide, by decide⟩ rfl rfl rfl hl.1 rfl (Nat.le_of_ble_eq_true rfl) d_Law_law_590 ⟨by show _ ≤ 600000; omega, by show _ ≤ 7302250; omega⟩ rfl (fun H locs hw hS => ?_)
      refine lv_icmp_eq (tgt := 1081) hx hb d_Law_law_593 (by decide) (fun _ => ?_) (fun q => absurd rfl q)
      exact hN none o0 o1 _ _ _ _ _ _ _ _ _ ls _ _ hRel hw hS hl (by omega) (by omega)
    · refine vP (Lc := (L_fhk ty fA rA cA hA kA .null sF sH)) (Lr := [(fA 4, .inl (ty 4, 2, .inr (.inr (.inr (.inr (imO o0 o1)))))), (mA 0, .inr (11, [.ref (mA 1), .long (sN 1), .long (sN 2), .ref (mA 4), .ref (mA 5), .int (sM 5 0), .int (sM 6 0), .int (sM 7 0), .int (sM 8 0), .int (sM 9 0), .ref (mA 11), .int (sM 11 0), .int (sM 12 0), .ref (mA 14), .int (sM 14 0), .ref (mA 16), .ref (mA 17), .long (sN 17), .ref (mA 19), .ref (mA 20), .ref (mA 21), .ref (mA 22)])), (mA 1, .inl (ty 0, 53, .inl (sM 0))), (mA 4, .inl (ty 0, 3, .inl (sM 3))), (mA 5, .inl (ty 0, 150, .inl (sM 4))), (mA 11, .inl (ty 0, 2, .inl (sM 10))), (mA 14, .inl (ty 0, 32, .inl (sM 13))), (mA 16, .inl (ty 0, 3200, .inl (sM 15))), (mA 17, .inl (ty 0, 4, .inl (sM 16))), (mA 19, .inl (ty 2, 2, .inl (sM 18))), (mA 20, .inl (ty 0, 106, .inl (sM 19))), (mA 21, .inl (ty 0, 64, .inl (sM 20))), (mA 22, .inl (ty 0, 2, .inl (sM 21))), (rA 0, .inr (7, [.ref (gA 0), .ref (rA 2), .int (sR 2 0), .int (sR 3 0), .int (sR 4 0), .int (sR 5 0), .int (sR 6 0)])), (rA 2, .inl (ty 1, 150, .inl (sR 1))), (gA 0, .inr (6, [.ref (kA 0), .ref (gA 2), .ref (gA 3), .ref (gA 4), .ref (gA 5), .ref (gA 6), .ref (gA 7), .int (sG 7 0), .int (sG 8 0), .int (sG 9 0), .int (sG 10 0), .int (sG 11 0), .int (sG 12 0), .int (sG 13 0), .int (sG 14 0)])), (gA 2, .inl (ty 0, 2, .inl (sG 1))), (gA 3, .inl (ty 0, 2, .inl (sG 2))), (gA 4, .inl (ty 0, 6, .inl (sG 3))), (gA 5, .inl (ty 0, 6, .inl (sG 4))), (gA 6, .inl (ty 0, 30, .inl (sG 5))), (gA 7, .inl (ty 0, 32, .inl (sG 6))), (cA 0, .inr (8, [.ref (hA 0), .ref (cA 2)])), (cA 2, .inl (ty 0, 6, .inl (sC 1)))] ++ (xO ty kA o0 ++ xO ty kA o1)) (rest := []) C0 (c_Face_least_a l D ty fA rA cA hA kA H.size sF sH (xs (nI i + (1 : Int32)).toNatClampNeg) rr tP e1) PcM.blind k_523 cal_Face_least hw hS hAb (permP 39 [0, 25, 26, 27, 28, 29, 30, 31, 32, 33, 34, 35, 36, 37, 38] [1, 2, 3, 4, 5, 6, 7, 8, 9, 10, 11, 12, 13, 14, 15, 16, 17, 18, 19, 20, 21, 22, 23, 24] rfl (by decide) rfl rfl) (fun hPc => va_recv hK.1 hPc (ci := 10) (q0 := 0) rfl rfl) (fun hPc hDc U hU hW => ⟨rfl, by rw [hU], by rw [hU]; exact hPc, hK.warm hW, hDc⟩) ⟨by decide, by decide⟩ rfl rfl rfl hl.1 rfl (Nat.le_of_ble_eq_true rfl) d_Law_law_581 ⟨by show _ ≤ 600000; omega, by show _ ≤ 7302250; omega⟩ rfl (fun H locs hN2 hJ hS => ?_)
      obtain ⟨pA, hP1, hD1⟩ := hN2
      have hw := hJ _ hP1 hD1
      have hw : Wd D (fun q => s.heap.size ≤ q) (((L_fimrgchk ty fA mA rA gA cA hA kA (.ref (pA 0)) sF (imO o0 o1) sM sN sR sG sC sH) ++ L_p ty pA hA tP) ++ (xO ty kA o0 ++ xO ty kA o1)) H := permQ (B := ((L_fimrgchk ty fA mA rA gA cA hA kA (.ref (pA 0)) sF (imO o0 o1) sM sN sR sG sC sH) ++ L_p ty pA hA tP)) (Lc := _) (Lr := [(fA 4, .inl (ty 4, 2, .inr (.inr (.inr (.inr (imO o0 o1)))))), (mA 0, .inr (11, [.ref (mA 1), .long (sN 1), .long (sN 2), .ref (mA 4), .ref (mA 5), .int (sM 5 0), .int (sM 6 0), .int (sM 7 0), .int (sM 8 0), .int (sM 9 0), .ref (mA 11), .int (sM 11 0), .int (sM 12 0), .ref (mA 14), .int (sM 14 0), .ref (mA 16), .ref (mA 17), .long (sN 17), .ref (mA 19), .ref (mA 20), .ref (mA 21), .ref (mA 22)])), (mA 1, .inl (ty 0, 53, .inl (sM 0))), (mA 4, .inl (ty 0, 3, .inl (sM 3))), (mA 5, .inl (ty 0, 150, .inl (sM 4))), (mA 11, .inl (ty 0, 2, .inl (sM 10))), (mA 14, .inl (ty 0, 32, .inl (sM 13))), (mA 16, .inl (ty 0, 3200, .inl (sM 15))), (mA 17, .inl (ty 0, 4, .inl (sM 16))), (mA 19, .inl (ty 2, 2, .inl (sM 18))), (mA 20, .inl (ty 0, 106, .inl (sM 19))), (mA 21, .inl (ty 0, 64, .inl (sM 20))), (mA 22, .inl (ty 0, 2, .inl (sM 21))), (rA 0, .inr (7, [.ref (gA 0), .ref (rA 2), .int (sR 2 0), .int (sR 3 0), .int (sR 4 0), .int (sR 5 0), .int (sR 6 0)])), (rA 2, .inl (ty 1, 150, .inl (sR 1))), (gA 0, .inr (6, [.ref (kA 0), .ref (gA 2), .ref (gA 3), .ref (gA 4), .ref (gA 5), .ref (gA 6), .ref (gA 7), .int (sG 7 0), .int (sG 8 0), .int (sG 9 0), .int (sG 10 0), .int (sG 11 0), .int (sG 12 0), .int (sG 13 0), .int (sG 14 0)])), (gA 2, .inl (ty 0, 2, .inl (sG 1))), (gA 3, .inl (ty 0, 2, .inl (sG 2))), (gA 4, .inl (ty 0, 6, .inl (sG 3))), (gA 5, .inl (ty 0, 6, .inl (sG 4))), (gA 6, .inl (ty 0, 30, .inl (sG 5))), (gA 7, .inl (ty 0, 32, .inl (sG 6))), (cA 0, .inr (8, [.ref (hA 0), .ref (cA 2)])), (cA 2, .inl (ty 0, 6, .inl (sC 1)))]) (X := (xO ty kA o0 ++ xO ty kA o1)) 42 [0, 39, 40, 41, 25, 26, 27, 28, 29, 30, 31, 32, 33, 34, 35, 36, 37, 38] [1, 2, 3, 4, 5, 6, 7, 8, 9, 10, 11, 12, 13, 14, 15, 16, 17, 18, 19, 20, 21, 22, 23, 24] rfl (by decide) rfl rfl hw
      have hw : Wd D (fun q => s.heap.size ≤ q) (LL ty fA mA rA gA cA hA kA (some (pA, tP)) o0 o1 sF sM sN sR sG sC sH) H := by rw [List.append_assoc] at hw; exact hw
      refine lv_aload_n hx hb d_Law_law_584 rfl (lv_at hl 2 rfl) ?_
      refine lv_aload_n hx hb d_Law_law_585 rfl (lv_at hl 0 rfl) ?_
      refine lv_iload_n hx hb d_Law_law_586 rfl (lv_at hl 3 rfl) ?_
      refine lv_iconst (v := (1 : Int32)) hx hb d_Law_law_587 (by decide) ?_
      refine lv_iadd hx hb d_Law_law_588 ?_
      refine va_sld hx hb hX hbl hbA hS (vp_j 1 rfl (by omega) hL) d_Law_law_589 ?_
      refine vX (B := (L_fimrgchk ty fA mA rA gA cA hA kA (pvO (some (pA, tP))) sF (imO o0 o1) sM sN sR sG sC sH)) (B' := (L_fimrgchk ty fA mA rA gA cA hA kA (pvO (some (pA, tP))) sF (imO o0 o1) tM tN sR sG sC sH)) (Lc := (L_m ty mA sM sN)) (Lc' := (L_m ty mA tM tN)) (rest := [.int rr]) C0 (c_Model_least l D ty mA H.size sM sN (xs (nI i + (1 : Int32)).toNatClampNeg) rr tM tN e2) PcM.blind k_1003 cal_Model_least hw hS hAb [2, 3, 4, 5, 6, 7, 8, 9, 10, 11, 12, 13] rfl (by decide) rfl rfl (fun hPc => va_recv hK.1 hPc (ci := 11) (q0 := 0) rfl rfl) (fun hPc hDc hF U hU hW => ⟨rfl, by rw [hU], by rw [hU]; exact hPc, hK.warm hW, hDc⟩) ⟨by decide, by decide⟩ rfl rfl rfl hl.1 rfl (Nat.le_of_ble_eq_true rfl) d_Law_law_590 ⟨by show _ ≤ 600000; omega, by show _ ≤ 7302250; omega⟩ rfl (fun H locs hw hS => ?_)
      refine lv_icmp_eq (tgt := 1081) hx hb d_Law_law_593 (by decide) (fun _ => ?_) (fun q => absurd rfl q)
      exact hN (some (pA, tP)) o0 o1 _ _ _ _ _ _ _ _ _ ls _ _ hRel hw hS hl (by omega) (by omega)
  · obtain ⟨tF, tP, e1, hRel⟩ := hp sP
    have hw : Wd D (fun q => s.heap.size ≤ q) (((L_fimrgchk ty fA mA rA gA cA hA kA (.ref (pA 0)) sF (imO o0 o1) sM sN sR sG sC sH) ++ L_p ty pA hA sP) ++ (xO ty kA o0 ++ xO ty kA o1)) H := by rw [List.append_assoc]; exact hw
    refine vX (B := ((L_fimrgchk ty fA mA rA gA cA hA kA (.ref (pA 0)) sF (imO o0 o1) sM sN sR sG sC sH) ++ L_p ty pA hA sP)) (B' := ((L_fimrgchk ty fA mA rA gA cA hA kA (.ref (pA 0)) tF (imO o0 o1) sM sN sR sG sC sH) ++ L_p ty pA hA tP)) (Lc := (L_fphk ty fA rA cA pA hA kA (.ref (pA 0)) sF sP sH)) (Lc' := (L_fphk ty fA rA cA pA hA kA (.ref (pA 0)) tF tP sH)) (rest := []) C0 (c_Face_least_p l D ty fA rA cA pA hA kA H.size sF sP sH (xs (nI i + (1 : Int32)).toNatClampNeg) rr tF tP e1) PcM.blind k_523 cal_Face_least hw hS hAb [0, 39, 40, 41, 25, 26, 27, 28, 29, 30, 31, 32, 33, 34, 35, 36, 37, 38] rfl (by decide) rfl rfl (fun hPc => va_recv hK.1 hPc (ci := 10) (q0 := 0) rfl rfl) (fun hPc hDc hF U hU hW => ⟨rfl, by rw [hU], by rw [hU]; exact hPc, hK.warm hW, hDc⟩) ⟨by decide, by decide⟩ rfl rfl rfl hl.1 rfl (Nat.le_of_ble_eq_true rfl) d_Law_law_581 ⟨by show _ ≤ 600000; omega, by show _ ≤ 7302250; omega⟩ rfl (fun H locs hw hS => ?_)
    have hw : Wd D (fun q => s.heap.size ≤ q) (LL ty fA mA rA gA cA hA kA (some (pA, tP)) o0 o1 tF sM sN sR sG sC sH) H := by rw [List.append_assoc] at hw; exact hw
    refine lv_aload_n hx hb d_Law_law_584 rfl (lv_at hl 2 rfl) ?_
    refine lv_aload_n hx hb d_Law_law_585 rfl (lv_at hl 0 rfl) ?_
    refine lv_iload_n hx hb d_Law_law_586 rfl (lv_at hl 3 rfl) ?_
    refine lv_iconst (v := (1 : Int32)) hx hb d_Law_law_587 (by decide) ?_
    refine lv_iadd hx hb d_Law_law_588 ?_
    refine va_sld hx hb hX hbl hbA hS (vp_j 1 rfl (by omega) hL) d_Law_law_589 ?_
    refine vX (B := (L_fimrgchk ty fA mA rA gA cA hA kA (pvO (some (pA, tP))) tF (imO o0 o1) sM sN sR sG sC sH)) (B' := (L_fimrgchk ty fA mA rA gA cA hA kA (pvO (some (pA, tP))) tF (imO o0 o1) tM tN sR sG sC sH)) (Lc := (L_m ty mA sM sN)) (Lc' := (L_m ty mA tM tN)) (rest := [.int rr]) C0 (c_Model_least l D ty mA H.size sM sN (xs (nI i + (1 : Int32)).toNatClampNeg) rr tM tN e2) PcM.blind k_1003 cal_Model_least hw hS hAb [2, 3, 4, 5, 6, 7, 8, 9, 10, 11, 12, 13] rfl (by decide) rfl rfl (fun hPc => va_recv hK.1 hPc (ci := 11) (q0 := 0) rfl rfl) (fun hPc hDc hF U hU hW => ⟨rfl, by rw [hU], by rw [hU]; exact hPc, hK.warm hW, hDc⟩) ⟨by decide, by decide⟩ rfl rfl rfl hl.1 rfl (Nat.le_of_ble_eq_true rfl) d_Law_law_590 ⟨by show _ ≤ 600000; omega, by show _ ≤ 7302250; omega⟩ rfl (fun H locs hw hS => ?_)
    refine lv_icmp_eq (tgt := 1081) hx hb d_Law_law_593 (by decide) (fun _ => ?_) (fun q => absurd rfl q)
    exact hN (some (pA, tP)) o0 o1 _ _ _ _ _ _ _ _ _ ls _ _ hRel hw hS hl (by omega) (by omega)
set_option maxHeartbeats 4000000 in
set_option maxRecDepth 100000 in
theorem lc_before {p : Program} {l : Launch} {e : Env} {s : State} {m : MethodId} {below : List Frame} {meth : Method} {c : Code} {b L : Nat} {xs : Nat → Int32} {D : va_G} {ty : Nat → ClassId} {fA mA rA gA cA hA kA aK aV : Nat → Nat} {Rel : Relt} {i : Nat} (hC : LC p s m meth c b L xs D ty aK aV) (hN : Nx p l e s m below meth c b D ty fA mA rA gA cA hA kA Rel 1081 i (1010 + 10 * i) (14000 + 4000 * i)) (hi : i + 6 ≤ L) (op : Op_before Rel) : Nx p l e s m below meth c b D ty fA mA rA gA cA hA kA Rel 598 i (1000 + 10 * i) (10000 + 4000 * i) := by
  intro po o0 o1 sF sM sN sR sG sC sH H locs ls cells slots hRel hw hS hl hcb hsb
  obtain ⟨C0, hK, hT, hX, hbl, hL⟩ := id hC
  obtain ⟨hx, hb, hr, hlk, hml, hown, htt⟩ := id C0
  have hbA : ¬ (fun q => s.heap.size ≤ q) b := Nat.not_le.mpr hbl
  obtain ⟨rr, tF, tM, tN, e1, e2, hRel⟩ := op _ _ _ _ _ _ _ hRel (xs (nI i + (1 : Int32)).toNatClampNeg) (xs (nI i + (2 : Int32)).toNatClampNeg) (xs (nI i + (3 : Int32)).toNatClampNeg) (xs (nI i + (4 : Int32)).toNatClampNeg)
  refine lv_aload_n hx hb d_Law_law_598 rfl (lv_at hl 1 rfl) ?_
  refine lv_aload_n hx hb d_Law_law_599 rfl (lv_at hl 0 rfl) ?_
  refine lv_iload_n hx hb d_Law_law_600 rfl (lv_at hl 3 rfl) ?_
  refine lv_iconst (v := (1 : Int32)) hx hb d_Law_law_601 (by decide) ?_
  refine lv_iadd hx hb d_Law_law_602 ?_
  refine va_sld hx hb hX hbl hbA hS (vp_j 1 rfl (by omega) hL) d_Law_law_603 ?_
  refine lv_aload_n hx hb d_Law_law_604 rfl (lv_at hl 0 rfl) ?_
  refine lv_iload_n hx hb d_Law_law_605 rfl (lv_at hl 3 rfl) ?_
  refine lv_iconst (v := (2 : Int32)) hx hb d_Law_law_606 (by decide) ?_
  refine lv_iadd hx hb d_Law_law_607 ?_
  refine va_sld hx hb hX hbl hbA hS (vp_j 2 rfl (by omega) hL) d_Law_law_608 ?_
  refine lv_aload_n hx hb d_Law_law_609 rfl (lv_at hl 0 rfl) ?_
  refine lv_iload_n hx hb d_Law_law_610 rfl (lv_at hl 3 rfl) ?_
  refine lv_iconst (v := (3 : Int32)) hx hb d_Law_law_611 (by decide) ?_
  refine lv_iadd hx hb d_Law_law_612 ?_
  refine va_sld hx hb hX hbl hbA hS (vp_j 3 rfl (by omega) hL) d_Law_law_613 ?_
  refine lv_aload_n hx hb d_Law_law_614 rfl (lv_at hl 0 rfl) ?_
  refine lv_iload_n hx hb d_Law_law_615 rfl (lv_at hl 3 rfl) ?_
  refine lv_iconst (v := (4 : Int32)) hx hb d_Law_law_616 (by decide) ?_
  refine lv_iadd hx hb d_Law_law_617 ?_
  refine va_sld hx hb hX hbl hbA hS (vp_j 4 rfl (by omega) hL) d_Law_law_618 ?_
  refine vX (B := (L_fimrgchk ty fA mA rA gA cA hA kA (pvO po) sF (imO o0 o1) sM sN sR sG sC sH)) (B' := (L_fimrgchk ty fA mA rA gA cA hA kA (pvO po) tF (imO o0 o1) sM sN sR sG sC sH)) (Lc := (L_f ty fA rA cA hA (pvO po) sF)) (Lc' := (L_f ty fA rA cA hA (pvO po) tF)) (rest := []) C0 (c_Face_before l D ty fA rA cA hA (pvO po) H.size sF (xs (nI i + (1 : Int32)).toNatClampNeg) (xs (nI i + (2 : Int32)).toNatClampNeg) (xs (nI i + (3 : Int32)).toNatClampNeg) (xs (nI i + (4 : Int32)).toNatClampNeg) rr tF e1) PcM.blind k_588 cal_Face_before hw hS hAb [0] rfl (by decide) rfl rfl (fun hPc => va_recv hK.1 hPc (ci := 10) (q0 := 0) rfl rfl) (fun hPc hDc hF U hU hW => ⟨rfl, by rw [hU], by rw [hU]; exact hPc, hK.warm hW, hDc⟩) ⟨by decide, by decide⟩ rfl rfl rfl hl.1 rfl (Nat.le_of_ble_eq_true rfl) d_Law_law_619 ⟨by show _ ≤ 600000; omega, by show _ ≤ 7302250; omega⟩ rfl (fun H locs hw hS => ?_)
  refine lv_aload_n hx hb d_Law_law_622 rfl (lv_at hl 2 rfl) ?_
  refine lv_aload_n hx hb d_Law_law_623 rfl (lv_at hl 0 rfl) ?_
  refine lv_iload_n hx hb d_Law_law_624 rfl (lv_at hl 3 rfl) ?_
  refine lv_iconst (v := (1 : Int32)) hx hb d_Law_law_625 (by decide) ?_
  refine lv_iadd hx hb d_Law_law_626 ?_
  refine va_sld hx hb hX hbl hbA hS (vp_j 1 rfl (by omega) hL) d_Law_law_627 ?_
  refine lv_aload_n hx hb d_Law_law_628 rfl (lv_at hl 0 rfl) ?_
  refine lv_iload_n hx hb d_Law_law_629 rfl (lv_at hl 3 rfl) ?_
  refine lv_iconst (v := (2 : Int32)) hx hb d_Law_law_630 (by decide) ?_
  refine lv_iadd hx hb d_Law_law_631 ?_
  refine va_sld hx hb hX hbl hbA hS (vp_j 2 rfl (by omega) hL) d_Law_law_632 ?_
  refine lv_aload_n hx hb d_Law_law_633 rfl (lv_at hl 0 rfl) ?_
  refine lv_iload_n hx hb d_Law_law_634 rfl (lv_at hl 3 rfl) ?_
  refine lv_iconst (v := (3 : Int32)) hx hb d_Law_law_635 (by decide) ?_
  refine lv_iadd hx hb d_Law_law_636 ?_
  refine va_sld hx hb hX hbl hbA hS (vp_j 3 rfl (by omega) hL) d_Law_law_637 ?_
  refine lv_aload_n hx hb d_Law_law_638 rfl (lv_at hl 0 rfl) ?_
  refine lv_iload_n hx hb d_Law_law_639 rfl (lv_at hl 3 rfl) ?_
  refine lv_iconst (v := (4 : Int32)) hx hb d_Law_law_640 (by decide) ?_
  refine lv_iadd hx hb d_Law_law_641 ?_
  refine va_sld hx hb hX hbl hbA hS (vp_j 4 rfl (by omega) hL) d_Law_law_642 ?_
  refine vX (B := (L_fimrgchk ty fA mA rA gA cA hA kA (pvO po) tF (imO o0 o1) sM sN sR sG sC sH)) (B' := (L_fimrgchk ty fA mA rA gA cA hA kA (pvO po) tF (imO o0 o1) tM tN sR sG sC sH)) (Lc := (L_m ty mA sM sN)) (Lc' := (L_m ty mA tM tN)) (rest := [.int rr]) C0 (c_Model_before l D ty mA H.size sM sN (xs (nI i + (1 : Int32)).toNatClampNeg) (xs (nI i + (2 : Int32)).toNatClampNeg) (xs (nI i + (3 : Int32)).toNatClampNeg) (xs (nI i + (4 : Int32)).toNatClampNeg) rr tM tN e2) PcM.blind k_1019 cal_Model_before hw hS hAb [2, 3, 4, 5, 6, 7, 8, 9, 10, 11, 12, 13] rfl (by decide) rfl rfl (fun hPc => va_recv hK.1 hPc (ci := 11) (q0 := 0) rfl rfl) (fun hPc hDc hF U hU hW => ⟨rfl, by rw [hU], by rw [hU]; exact hPc, hK.warm hW, hDc⟩) ⟨by decide, by decide⟩ rfl rfl rfl hl.1 rfl (Nat.le_of_ble_eq_true rfl) d_Law_law_643 ⟨by show _ ≤ 600000; omega, by show _ ≤ 7302250; omega⟩ rfl (fun H locs hw hS => ?_)
  refine lv_icmp_eq (tgt := 1081) hx hb d_Law_law_646 (by decide) (fun _ => ?_) (fun q => absurd rfl q)
  exact hN _ _ _ _ _ _ _ _ _ _ _ _ ls _ _ hRel hw hS hl (by omega) (by omega)
set_option maxHeartbeats 4000000 in
set_option maxRecDepth 100000 in
theorem lc_child {p : Program} {l : Launch} {e : Env} {s : State} {m : MethodId} {below : List Frame} {meth : Method} {c : Code} {b L : Nat} {xs : Nat → Int32} {D : va_G} {ty : Nat → ClassId} {fA mA rA gA cA hA kA aK aV : Nat → Nat} {Rel : Relt} {i : Nat} (hC : LC p s m meth c b L xs D ty aK aV) (hN : Nx p l e s m below meth c b D ty fA mA rA gA cA hA kA Rel 1081 i (1010 + 10 * i) (14000 + 4000 * i)) (hi : i + 6 ≤ L) (op : Op_child Rel) : Nx p l e s m below meth c b D ty fA mA rA gA cA hA kA Rel 651 i (1000 + 10 * i) (10000 + 4000 * i) := by
  intro po o0 o1 sF sM sN sR sG sC sH H locs ls cells slots hRel hw hS hl hcb hsb
  obtain ⟨C0, hK, hT, hX, hbl, hL⟩ := id hC
  obtain ⟨hx, hb, hr, hlk, hml, hown, htt⟩ := id C0
  have hbA : ¬ (fun q => s.heap.size ≤ q) b := Nat.not_le.mpr hbl
  obtain ⟨rr, tF, tM, tN, e1, e2, hRel⟩ := op _ _ _ _ _ _ _ hRel (xs (nI i + (1 : Int32)).toNatClampNeg)
  refine lv_aload_n hx hb d_Law_law_651 rfl (lv_at hl 1 rfl) ?_
  refine lv_aload_n hx hb d_Law_law_652 rfl (lv_at hl 0 rfl) ?_
  refine lv_iload_n hx hb d_Law_law_653 rfl (lv_at hl 3 rfl) ?_
  refine lv_iconst (v := (1 : Int32)) hx hb d_Law_law_654 (by decide) ?_
  refine lv_iadd hx hb d_Law_law_655 ?_
  refine va_sld hx hb hX hbl hbA hS (vp_j 1 rfl (by omega) hL) d_Law_law_656 ?_
  refine vX (B := (L_fimrgchk ty fA mA rA gA cA hA kA (pvO po) sF (imO o0 o1) sM sN sR sG sC sH)) (B' := (L_fimrgchk ty fA mA rA gA cA hA kA (pvO po) tF (imO o0 o1) sM sN sR sG sC sH)) (Lc := (L_f ty fA rA cA hA (pvO po) sF)) (Lc' := (L_f ty fA rA cA hA (pvO po) tF)) (rest := []) C0 (c_Face_child l D ty fA rA cA hA (pvO po) H.size sF (xs (nI i + (1 : Int32)).toNatClampNeg) rr tF e1) PcM.blind k_595 cal_Face_child hw hS hAb [0] rfl (by decide) rfl rfl (fun hPc => va_recv hK.1 hPc (ci := 10) (q0 := 0) rfl rfl) (fun hPc hDc hF U hU hW => ⟨rfl, by rw [hU], by rw [hU]; exact hPc, hK.warm hW, hDc⟩) ⟨by decide, by decide⟩ rfl rfl rfl hl.1 rfl (Nat.le_of_ble_eq_true rfl) d_Law_law_657 ⟨by show _ ≤ 600000; omega, by show _ ≤ 7302250; omega⟩ rfl (fun H locs hw hS => ?_)
  refine lv_aload_n hx hb d_Law_law_660 rfl (lv_at hl 2 rfl) ?_
  refine lv_aload_n hx hb d_Law_law_661 rfl (lv_at hl 0 rfl) ?_
  refine lv_iload_n hx hb d_Law_law_662 rfl (lv_at hl 3 rfl) ?_
  refine lv_iconst (v := (1 : Int32)) hx hb d_Law_law_663 (by decide) ?_
  refine lv_iadd hx hb d_Law_law_664 ?_
  refine va_sld hx hb hX hbl hbA hS (vp_j 1 rfl (by omega) hL) d_Law_law_665 ?_
  refine vX (B := (L_fimrgchk ty fA mA rA gA cA hA kA (pvO po) tF (imO o0 o1) sM sN sR sG sC sH)) (B' := (L_fimrgchk ty fA mA rA gA cA hA kA (pvO po) tF (imO o0 o1) tM tN sR sG sC sH)) (Lc := (L_m ty mA sM sN)) (Lc' := (L_m ty mA tM tN)) (rest := [.int rr]) C0 (c_Model_child l D ty mA H.size sM sN (xs (nI i + (1 : Int32)).toNatClampNeg) rr tM tN e2) PcM.blind k_1023 cal_Model_child hw hS hAb [2, 3, 4, 5, 6, 7, 8, 9, 10, 11, 12, 13] rfl (by decide) rfl rfl (fun hPc => va_recv hK.1 hPc (ci := 11) (q0 := 0) rfl rfl) (fun hPc hDc hF U hU hW => ⟨rfl, by rw [hU], by rw [hU]; exact hPc, hK.warm hW, hDc⟩) ⟨by decide, by decide⟩ rfl rfl rfl hl.1 rfl (Nat.le_of_ble_eq_true rfl) d_Law_law_666 ⟨by show _ ≤ 600000; omega, by show _ ≤ 7302250; omega⟩ rfl (fun H locs hw hS => ?_)
  refine lv_icmp_eq (tgt := 1081) hx hb d_Law_law_669 (by decide) (fun _ => ?_) (fun q => absurd rfl q)
  exact hN _ _ _ _ _ _ _ _ _ _ _ _ ls _ _ hRel hw hS hl (by omega) (by omega)
set_option maxHeartbeats 4000000 in
set_option maxRecDepth 100000 in
theorem lc_where {p : Program} {l : Launch} {e : Env} {s : State} {m : MethodId} {below : List Frame} {meth : Method} {c : Code} {b L : Nat} {xs : Nat → Int32} {D : va_G} {ty : Nat → ClassId} {fA mA rA gA cA hA kA aK aV : Nat → Nat} {Rel : Relt} {i : Nat} (hC : LC p s m meth c b L xs D ty aK aV) (hN : Nx p l e s m below meth c b D ty fA mA rA gA cA hA kA Rel 1081 i (1010 + 10 * i) (14000 + 4000 * i)) (hi : i + 6 ≤ L) (op : Op_where Rel) : Nx p l e s m below meth c b D ty fA mA rA gA cA hA kA Rel 674 i (1000 + 10 * i) (10000 + 4000 * i) := by
  intro po o0 o1 sF sM sN sR sG sC sH H locs ls cells slots hRel hw hS hl hcb hsb
  obtain ⟨C0, hK, hT, hX, hbl, hL⟩ := id hC
  obtain ⟨hx, hb, hr, hlk, hml, hown, htt⟩ := id C0
  have hbA : ¬ (fun q => s.heap.size ≤ q) b := Nat.not_le.mpr hbl
  obtain ⟨rr, tF, tM, tN, e1, e2, hRel⟩ := op _ _ _ _ _ _ _ sC hRel (xs (nI i + (1 : Int32)).toNatClampNeg)
  refine lv_aload_n hx hb d_Law_law_674 rfl (lv_at hl 1 rfl) ?_
  refine lv_aload_n hx hb d_Law_law_675 rfl (lv_at hl 0 rfl) ?_
  refine lv_iload_n hx hb d_Law_law_676 rfl (lv_at hl 3 rfl) ?_
  refine lv_iconst (v := (1 : Int32)) hx hb d_Law_law_677 (by decide) ?_
  refine lv_iadd hx hb d_Law_law_678 ?_
  refine va_sld hx hb hX hbl hbA hS (vp_j 1 rfl (by omega) hL) d_Law_law_679 ?_
  refine vX (B := (L_fimrgchk ty fA mA rA gA cA hA kA (pvO po) sF (imO o0 o1) sM sN sR sG sC sH)) (B' := (L_fimrgchk ty fA mA rA gA cA hA kA (pvO po) tF (imO o0 o1) sM sN sR sG sC sH)) (Lc := (L_fchk ty fA rA cA hA kA (pvO po) sF sC sH)) (Lc' := (L_fchk ty fA rA cA hA kA (pvO po) tF sC sH)) (rest := []) C0 (c_Face_where l D ty fA rA cA hA kA (pvO po) H.size sF sC sH (xs (nI i + (1 : Int32)).toNatClampNeg) rr tF e1) PcM.blind k_612 cal_Face_where hw hS hAb [0, 23, 24, 25, 26, 27, 28, 29, 30, 31, 32, 33, 34, 35, 36, 37, 38] rfl (by decide) rfl rfl (fun hPc => va_recv hK.1 hPc (ci := 10) (q0 := 0) rfl rfl) (fun hPc hDc hF U hU hW => ⟨rfl, by rw [hU], by rw [hU]; exact hPc, hK.warm hW, hDc⟩) ⟨by decide, by decide⟩ rfl rfl rfl hl.1 rfl (Nat.le_of_ble_eq_true rfl) d_Law_law_680 ⟨by show _ ≤ 600000; omega, by show _ ≤ 7302250; omega⟩ rfl (fun H locs hw hS => ?_)
  refine lv_aload_n hx hb d_Law_law_683 rfl (lv_at hl 2 rfl) ?_
  refine lv_aload_n hx hb d_Law_law_684 rfl (lv_at hl 0 rfl) ?_
  refine lv_iload_n hx hb d_Law_law_685 rfl (lv_at hl 3 rfl) ?_
  refine lv_iconst (v := (1 : Int32)) hx hb d_Law_law_686 (by decide) ?_
  refine lv_iadd hx hb d_Law_law_687 ?_
  refine va_sld hx hb hX hbl hbA hS (vp_j 1 rfl (by omega) hL) d_Law_law_688 ?_
  refine vX (B := (L_fimrgchk ty fA mA rA gA cA hA kA (pvO po) tF (imO o0 o1) sM sN sR sG sC sH)) (B' := (L_fimrgchk ty fA mA rA gA cA hA kA (pvO po) tF (imO o0 o1) tM tN sR sG sC sH)) (Lc := (L_m ty mA sM sN)) (Lc' := (L_m ty mA tM tN)) (rest := [.int rr]) C0 (c_Model_where l D ty mA H.size sM sN (xs (nI i + (1 : Int32)).toNatClampNeg) rr tM tN e2) PcM.blind k_1035 cal_Model_where hw hS hAb [2, 3, 4, 5, 6, 7, 8, 9, 10, 11, 12, 13] rfl (by decide) rfl rfl (fun hPc => va_recv hK.1 hPc (ci := 11) (q0 := 0) rfl rfl) (fun hPc hDc hF U hU hW => ⟨rfl, by rw [hU], by rw [hU]; exact hPc, hK.warm hW, hDc⟩) ⟨by decide, by decide⟩ rfl rfl rfl hl.1 rfl (Nat.le_of_ble_eq_true rfl) d_Law_law_689 ⟨by show _ ≤ 600000; omega, by show _ ≤ 7302250; omega⟩ rfl (fun H locs hw hS => ?_)
  refine lv_icmp_eq (tgt := 1081) hx hb d_Law_law_692 (by decide) (fun _ => ?_) (fun q => absurd rfl q)
  exact hN _ _ _ _ _ _ _ _ _ _ _ _ ls _ _ hRel hw hS hl (by omega) (by omega)
set_option maxHeartbeats 4000000 in
set_option maxRecDepth 100000 in
theorem lc_bars {p : Program} {l : Launch} {e : Env} {s : State} {m : MethodId} {below : List Frame} {meth : Method} {c : Code} {b L : Nat} {xs : Nat → Int32} {D : va_G} {ty : Nat → ClassId} {fA mA rA gA cA hA kA aK aV : Nat → Nat} {Rel : Relt} {i : Nat} (hC : LC p s m meth c b L xs D ty aK aV) (hN : Nx p l e s m below meth c b D ty fA mA rA gA cA hA kA Rel 1081 i (1010 + 10 * i) (14000 + 4000 * i)) (hi : i + 6 ≤ L) (op : Op_bars Rel) : Nx p l e s m below meth c b D ty fA mA rA gA cA hA kA Rel 697 i (1000 + 10 * i) (10000 + 4000 * i) := by
  intro po o0 o1 sF sM sN sR sG sC sH H locs ls cells slots hRel hw hS hl hcb hsb
  obtain ⟨C0, hK, hT, hX, hbl, hL⟩ := id hC
  obtain ⟨hx, hb, hr, hlk, hml, hown, htt⟩ := id C0
  have hbA : ¬ (fun q => s.heap.size ≤ q) b := Nat.not_le.mpr hbl
  obtain ⟨rr, tF, tM, tN, e1, e2, hRel⟩ := op _ _ _ _ _ _ _ sC hRel (xs (nI i + (1 : Int32)).toNatClampNeg)
  refine lv_aload_n hx hb d_Law_law_697 rfl (lv_at hl 1 rfl) ?_
  refine lv_aload_n hx hb d_Law_law_698 rfl (lv_at hl 0 rfl) ?_
  refine lv_iload_n hx hb d_Law_law_699 rfl (lv_at hl 3 rfl) ?_
  refine lv_iconst (v := (1 : Int32)) hx hb d_Law_law_700 (by decide) ?_
  refine lv_iadd hx hb d_Law_law_701 ?_
  refine va_sld hx hb hX hbl hbA hS (vp_j 1 rfl (by omega) hL) d_Law_law_702 ?_
  refine vX (B := (L_fimrgchk ty fA mA rA gA cA hA kA (pvO po) sF (imO o0 o1) sM sN sR sG sC sH)) (B' := (L_fimrgchk ty fA mA rA gA cA hA kA (pvO po) tF (imO o0 o1) sM sN sR sG sC sH)) (Lc := (L_fchk ty fA rA cA hA kA (pvO po) sF sC sH)) (Lc' := (L_fchk ty fA rA cA hA kA (pvO po) tF sC sH)) (rest := []) C0 (c_Face_bars l D ty fA rA cA hA kA (pvO po) H.size sF sC sH (xs (nI i + (1 : Int32)).toNatClampNeg) rr tF e1) PcM.blind k_626 cal_Face_bars hw hS hAb [0, 23, 24, 25, 26, 27, 28, 29, 30, 31, 32, 33, 34, 35, 36, 37, 38] rfl (by decide) rfl rfl (fun hPc => va_recv hK.1 hPc (ci := 10) (q0 := 0) rfl rfl) (fun hPc hDc hF U hU hW => ⟨rfl, by rw [hU], by rw [hU]; exact hPc, hK.warm hW, hDc⟩) ⟨by decide, by decide⟩ rfl rfl rfl hl.1 rfl (Nat.le_of_ble_eq_true rfl) d_Law_law_703 ⟨by show _ ≤ 600000; omega, by show _ ≤ 7302250; omega⟩ rfl (fun H locs hw hS => ?_)
  refine lv_aload_n hx hb d_Law_law_706 rfl (lv_at hl 2 rfl) ?_
  refine lv_aload_n hx hb d_Law_law_707 rfl (lv_at hl 0 rfl) ?_
  refine lv_iload_n hx hb d_Law_law_708 rfl (lv_at hl 3 rfl) ?_
  refine lv_iconst (v := (1 : Int32)) hx hb d_Law_law_709 (by decide) ?_
  refine lv_iadd hx hb d_Law_law_710 ?_
  refine va_sld hx hb hX hbl hbA hS (vp_j 1 rfl (by omega) hL) d_Law_law_711 ?_
  refine vX (B := (L_fimrgchk ty fA mA rA gA cA hA kA (pvO po) tF (imO o0 o1) sM sN sR sG sC sH)) (B' := (L_fimrgchk ty fA mA rA gA cA hA kA (pvO po) tF (imO o0 o1) tM tN sR sG sC sH)) (Lc := (L_m ty mA sM sN)) (Lc' := (L_m ty mA tM tN)) (rest := [.int rr]) C0 (c_Model_bars l D ty mA H.size sM sN (xs (nI i + (1 : Int32)).toNatClampNeg) rr tM tN e2) PcM.blind k_1039 cal_Model_bars hw hS hAb [2, 3, 4, 5, 6, 7, 8, 9, 10, 11, 12, 13] rfl (by decide) rfl rfl (fun hPc => va_recv hK.1 hPc (ci := 11) (q0 := 0) rfl rfl) (fun hPc hDc hF U hU hW => ⟨rfl, by rw [hU], by rw [hU]; exact hPc, hK.warm hW, hDc⟩) ⟨by decide, by decide⟩ rfl rfl rfl hl.1 rfl (Nat.le_of_ble_eq_true rfl) d_Law_law_712 ⟨by show _ ≤ 600000; omega, by show _ ≤ 7302250; omega⟩ rfl (fun H locs hw hS => ?_)
  refine lv_icmp_eq (tgt := 1081) hx hb d_Law_law_715 (by decide) (fun _ => ?_) (fun q => absurd rfl q)
  exact hN _ _ _ _ _ _ _ _ _ _ _ _ ls _ _ hRel hw hS hl (by omega) (by omega)
set_option maxHeartbeats 4000000 in
set_option maxRecDepth 100000 in
theorem lc_note {p : Program} {l : Launch} {e : Env} {s : State} {m : MethodId} {below : List Frame} {meth : Method} {c : Code} {b L : Nat} {xs : Nat → Int32} {D : va_G} {ty : Nat → ClassId} {fA mA rA gA cA hA kA aK aV : Nat → Nat} {Rel : Relt} {i : Nat} (hC : LC p s m meth c b L xs D ty aK aV) (hN : Nx p l e s m below meth c b D ty fA mA rA gA cA hA kA Rel 1081 i (1010 + 10 * i) (14000 + 4000 * i)) (hi : i + 6 ≤ L) (op : Op_note Rel) : Nx p l e s m below meth c b D ty fA mA rA gA cA hA kA Rel 720 i (1000 + 10 * i) (10000 + 4000 * i) := by
  intro po o0 o1 sF sM sN sR sG sC sH H locs ls cells slots hRel hw hS hl hcb hsb
  obtain ⟨C0, hK, hT, hX, hbl, hL⟩ := id hC
  obtain ⟨hx, hb, hr, hlk, hml, hown, htt⟩ := id C0
  have hbA : ¬ (fun q => s.heap.size ≤ q) b := Nat.not_le.mpr hbl
  obtain ⟨rr, tF, tH, tM, tN, e1, e2, hRel⟩ := op _ _ _ _ _ _ _ hRel (xs (nI i + (1 : Int32)).toNatClampNeg) (xs (nI i + (2 : Int32)).toNatClampNeg) (xs (nI i + (3 : Int32)).toNatClampNeg) (xs (nI i + (4 : Int32)).toNatClampNeg) (xs (nI i + (5 : Int32)).toNatClampNeg)
  refine lv_aload_n hx hb d_Law_law_720 rfl (lv_at hl 1 rfl) ?_
  refine lv_aload_n hx hb d_Law_law_721 rfl (lv_at hl 0 rfl) ?_
  refine lv_iload_n hx hb d_Law_law_722 rfl (lv_at hl 3 rfl) ?_
  refine lv_iconst (v := (1 : Int32)) hx hb d_Law_law_723 (by decide) ?_
  refine lv_iadd hx hb d_Law_law_724 ?_
  refine va_sld hx hb hX hbl hbA hS (vp_j 1 rfl (by omega) hL) d_Law_law_725 ?_
  refine lv_aload_n hx hb d_Law_law_726 rfl (lv_at hl 0 rfl) ?_
  refine lv_iload_n hx hb d_Law_law_727 rfl (lv_at hl 3 rfl) ?_
  refine lv_iconst (v := (2 : Int32)) hx hb d_Law_law_728 (by decide) ?_
  refine lv_iadd hx hb d_Law_law_729 ?_
  refine va_sld hx hb hX hbl hbA hS (vp_j 2 rfl (by omega) hL) d_Law_law_730 ?_
  refine lv_aload_n hx hb d_Law_law_731 rfl (lv_at hl 0 rfl) ?_
  refine lv_iload_n hx hb d_Law_law_732 rfl (lv_at hl 3 rfl) ?_
  refine lv_iconst (v := (3 : Int32)) hx hb d_Law_law_733 (by decide) ?_
  refine lv_iadd hx hb d_Law_law_734 ?_
  refine va_sld hx hb hX hbl hbA hS (vp_j 3 rfl (by omega) hL) d_Law_law_735 ?_
  refine lv_aload_n hx hb d_Law_law_736 rfl (lv_at hl 0 rfl) ?_
  refine lv_iload_n hx hb d_Law_law_737 rfl (lv_at hl 3 rfl) ?_
  refine lv_iconst (v := (4 : Int32)) hx hb d_Law_law_738 (by decide) ?_
  refine lv_iadd hx hb d_Law_law_739 ?_
  refine va_sld hx hb hX hbl hbA hS (vp_j 4 rfl (by omega) hL) d_Law_law_740 ?_
  refine lv_aload_n hx hb d_Law_law_741 rfl (lv_at hl 0 rfl) ?_
  refine lv_iload_n hx hb d_Law_law_742 rfl (lv_at hl 3 rfl) ?_
  refine lv_iconst (v := (5 : Int32)) hx hb d_Law_law_743 (by decide) ?_
  refine lv_iadd hx hb d_Law_law_744 ?_
  refine va_sld hx hb hX hbl hbA hS (vp_j 5 rfl (by omega) hL) d_Law_law_745 ?_
  refine vX (B := (L_fimrgchk ty fA mA rA gA cA hA kA (pvO po) sF (imO o0 o1) sM sN sR sG sC sH)) (B' := (L_fimrgchk ty fA mA rA gA cA hA kA (pvO po) tF (imO o0 o1) sM sN sR sG sC tH)) (Lc := (L_fh ty fA rA cA hA kA (pvO po) sF sH)) (Lc' := (L_fh ty fA rA cA hA kA (pvO po) tF tH)) (rest := []) C0 (c_Face_note l D ty fA rA cA hA kA (pvO po) H.size sF sH (xs (nI i + (1 : Int32)).toNatClampNeg) (xs (nI i + (2 : Int32)).toNatClampNeg) (xs (nI i + (3 : Int32)).toNatClampNeg) (xs (nI i + (4 : Int32)).toNatClampNeg) (xs (nI i + (5 : Int32)).toNatClampNeg) rr tF tH e1) PcM.blind k_647 cal_Face_note hw hS hAb [0, 25, 26, 27, 28, 29, 30, 31] rfl (by decide) rfl rfl (fun hPc => va_recv hK.1 hPc (ci := 10) (q0 := 0) rfl rfl) (fun hPc hDc hF U hU hW => ⟨rfl, by rw [hU], by rw [hU]; exact hPc, hK.warm hW, hDc⟩) ⟨by decide, by decide⟩ rfl rfl rfl hl.1 rfl (Nat.le_of_ble_eq_true rfl) d_Law_law_746 ⟨by show _ ≤ 600000; omega, by show _ ≤ 7302250; omega⟩ rfl (fun H locs hw hS => ?_)
  refine lv_aload_n hx hb d_Law_law_749 rfl (lv_at hl 2 rfl) ?_
  refine lv_aload_n hx hb d_Law_law_750 rfl (lv_at hl 0 rfl) ?_
  refine lv_iload_n hx hb d_Law_law_751 rfl (lv_at hl 3 rfl) ?_
  refine lv_iconst (v := (1 : Int32)) hx hb d_Law_law_752 (by decide) ?_
  refine lv_iadd hx hb d_Law_law_753 ?_
  refine va_sld hx hb hX hbl hbA hS (vp_j 1 rfl (by omega) hL) d_Law_law_754 ?_
  refine lv_aload_n hx hb d_Law_law_755 rfl (lv_at hl 0 rfl) ?_
  refine lv_iload_n hx hb d_Law_law_756 rfl (lv_at hl 3 rfl) ?_
  refine lv_iconst (v := (2 : Int32)) hx hb d_Law_law_757 (by decide) ?_
  refine lv_iadd hx hb d_Law_law_758 ?_
  refine va_sld hx hb hX hbl hbA hS (vp_j 2 rfl (by omega) hL) d_Law_law_759 ?_
  refine lv_aload_n hx hb d_Law_law_760 rfl (lv_at hl 0 rfl) ?_
  refine lv_iload_n hx hb d_Law_law_761 rfl (lv_at hl 3 rfl) ?_
  refine lv_iconst (v := (3 : Int32)) hx hb d_Law_law_762 (by decide) ?_
  refine lv_iadd hx hb d_Law_law_763 ?_
  refine va_sld hx hb hX hbl hbA hS (vp_j 3 rfl (by omega) hL) d_Law_law_764 ?_
  refine lv_aload_n hx hb d_Law_law_765 rfl (lv_at hl 0 rfl) ?_
  refine lv_iload_n hx hb d_Law_law_766 rfl (lv_at hl 3 rfl) ?_
  refine lv_iconst (v := (4 : Int32)) hx hb d_Law_law_767 (by decide) ?_
  refine lv_iadd hx hb d_Law_law_768 ?_
  refine va_sld hx hb hX hbl hbA hS (vp_j 4 rfl (by omega) hL) d_Law_law_769 ?_
  refine lv_aload_n hx hb d_Law_law_770 rfl (lv_at hl 0 rfl) ?_
  refine lv_iload_n hx hb d_Law_law_771 rfl (lv_at hl 3 rfl) ?_
  refine lv_iconst (v := (5 : Int32)) hx hb d_Law_law_772 (by decide) ?_
  refine lv_iadd hx hb d_Law_law_773 ?_
  refine va_sld hx hb hX hbl hbA hS (vp_j 5 rfl (by omega) hL) d_Law_law_774 ?_
  refine vX (B := (L_fimrgchk ty fA mA rA gA cA hA kA (pvO po) tF (imO o0 o1) sM sN sR sG sC tH)) (B' := (L_fimrgchk ty fA mA rA gA cA hA kA (pvO po) tF (imO o0 o1) tM tN sR sG sC tH)) (Lc := (L_m ty mA sM sN)) (Lc' := (L_m ty mA tM tN)) (rest := [.int rr]) C0 (c_Model_note l D ty mA H.size sM sN (xs (nI i + (1 : Int32)).toNatClampNeg) (xs (nI i + (2 : Int32)).toNatClampNeg) (xs (nI i + (3 : Int32)).toNatClampNeg) (xs (nI i + (4 : Int32)).toNatClampNeg) (xs (nI i + (5 : Int32)).toNatClampNeg) rr tM tN e2) PcM.blind k_1047 cal_Model_note hw hS hAb [2, 3, 4, 5, 6, 7, 8, 9, 10, 11, 12, 13] rfl (by decide) rfl rfl (fun hPc => va_recv hK.1 hPc (ci := 11) (q0 := 0) rfl rfl) (fun hPc hDc hF U hU hW => ⟨rfl, by rw [hU], by rw [hU]; exact hPc, hK.warm hW, hDc⟩) ⟨by decide, by decide⟩ rfl rfl rfl hl.1 rfl (Nat.le_of_ble_eq_true rfl) d_Law_law_775 ⟨by show _ ≤ 600000; omega, by show _ ≤ 7302250; omega⟩ rfl (fun H locs hw hS => ?_)
  refine lv_icmp_eq (tgt := 1081) hx hb d_Law_law_778 (by decide) (fun _ => ?_) (fun q => absurd rfl q)
  exact hN _ _ _ _ _ _ _ _ _ _ _ _ ls _ _ hRel hw hS hl (by omega) (by omega)
set_option maxHeartbeats 4000000 in
set_option maxRecDepth 100000 in
theorem lc_forget {p : Program} {l : Launch} {e : Env} {s : State} {m : MethodId} {below : List Frame} {meth : Method} {c : Code} {b L : Nat} {xs : Nat → Int32} {D : va_G} {ty : Nat → ClassId} {fA mA rA gA cA hA kA aK aV : Nat → Nat} {Rel : Relt} {i : Nat} (hC : LC p s m meth c b L xs D ty aK aV) (hN : Nx p l e s m below meth c b D ty fA mA rA gA cA hA kA Rel 1081 i (1010 + 10 * i) (14000 + 4000 * i)) (hi : i + 6 ≤ L) (op : Op_forget Rel) : Nx p l e s m below meth c b D ty fA mA rA gA cA hA kA Rel 783 i (1000 + 10 * i) (10000 + 4000 * i) := by
  intro po o0 o1 sF sM sN sR sG sC sH H locs ls cells slots hRel hw hS hl hcb hsb
  obtain ⟨C0, hK, hT, hX, hbl, hL⟩ := id hC
  obtain ⟨hx, hb, hr, hlk, hml, hown, htt⟩ := id C0
  have hbA : ¬ (fun q => s.heap.size ≤ q) b := Nat.not_le.mpr hbl
  obtain ⟨rr, tH, tM, tN, e1, e2, hRel⟩ := op _ _ _ _ _ _ _ hRel ()
  refine lv_aload_n hx hb d_Law_law_783 rfl (lv_at hl 1 rfl) ?_
  refine vX (B := (L_fimrgchk ty fA mA rA gA cA hA kA (pvO po) sF (imO o0 o1) sM sN sR sG sC sH)) (B' := (L_fimrgchk ty fA mA rA gA cA hA kA (pvO po) sF (imO o0 o1) sM sN sR sG sC tH)) (Lc := (L_fh ty fA rA cA hA kA (pvO po) sF sH)) (Lc' := (L_fh ty fA rA cA hA kA (pvO po) sF tH)) (rest := []) C0 (c_Face_forget l D ty fA rA cA hA kA (pvO po) H.size sF sH rr tH e1) PcM.blind k_655 cal_Face_forget hw hS hAb [0, 25, 26, 27, 28, 29, 30, 31] rfl (by decide) rfl rfl (fun hPc => va_recv hK.1 hPc (ci := 10) (q0 := 0) rfl rfl) (fun hPc hDc hF U hU hW => ⟨rfl, by rw [hU], by rw [hU]; exact hPc, hK.warm hW, hDc⟩) ⟨by decide, by decide⟩ rfl rfl rfl hl.1 rfl (Nat.le_of_ble_eq_true rfl) d_Law_law_784 ⟨by show _ ≤ 600000; omega, by show _ ≤ 7302250; omega⟩ rfl (fun H locs hw hS => ?_)
  refine lv_aload_n hx hb d_Law_law_787 rfl (lv_at hl 2 rfl) ?_
  refine vX (B := (L_fimrgchk ty fA mA rA gA cA hA kA (pvO po) sF (imO o0 o1) sM sN sR sG sC tH)) (B' := (L_fimrgchk ty fA mA rA gA cA hA kA (pvO po) sF (imO o0 o1) tM tN sR sG sC tH)) (Lc := (L_m ty mA sM sN)) (Lc' := (L_m ty mA tM tN)) (rest := [.int rr]) C0 (c_Model_forget l D ty mA H.size sM sN rr tM tN e2) PcM.blind k_1052 cal_Model_forget hw hS hAb [2, 3, 4, 5, 6, 7, 8, 9, 10, 11, 12, 13] rfl (by decide) rfl rfl (fun hPc => va_recv hK.1 hPc (ci := 11) (q0 := 0) rfl rfl) (fun hPc hDc hF U hU hW => ⟨rfl, by rw [hU], by rw [hU]; exact hPc, hK.warm hW, hDc⟩) ⟨by decide, by decide⟩ rfl rfl rfl hl.1 rfl (Nat.le_of_ble_eq_true rfl) d_Law_law_788 ⟨by show _ ≤ 600000; omega, by show _ ≤ 7302250; omega⟩ rfl (fun H locs hw hS => ?_)
  refine lv_icmp_eq (tgt := 1081) hx hb d_Law_law_791 (by decide) (fun _ => ?_) (fun q => absurd rfl q)
  exact hN _ _ _ _ _ _ _ _ _ _ _ _ ls _ _ hRel hw hS hl (by omega) (by omega)
set_option maxHeartbeats 4000000 in
set_option maxRecDepth 100000 in
theorem lc_is {p : Program} {l : Launch} {e : Env} {s : State} {m : MethodId} {below : List Frame} {meth : Method} {c : Code} {b L : Nat} {xs : Nat → Int32} {D : va_G} {ty : Nat → ClassId} {fA mA rA gA cA hA kA aK aV : Nat → Nat} {Rel : Relt} {i : Nat} (hC : LC p s m meth c b L xs D ty aK aV) (hN : Nx p l e s m below meth c b D ty fA mA rA gA cA hA kA Rel 1081 i (1010 + 10 * i) (14000 + 4000 * i)) (hi : i + 6 ≤ L) (op : Op_is Rel) : Nx p l e s m below meth c b D ty fA mA rA gA cA hA kA Rel 796 i (1000 + 10 * i) (10000 + 4000 * i) := by
  intro po o0 o1 sF sM sN sR sG sC sH H locs ls cells slots hRel hw hS hl hcb hsb
  obtain ⟨C0, hK, hT, hX, hbl, hL⟩ := id hC
  obtain ⟨hx, hb, hr, hlk, hml, hown, htt⟩ := id C0
  have hbA : ¬ (fun q => s.heap.size ≤ q) b := Nat.not_le.mpr hbl
  obtain ⟨rr, tF, tM, tN, e1, e2, hRel⟩ := op _ _ _ _ _ _ _ sC hRel (xs (nI i + (1 : Int32)).toNatClampNeg)
  refine lv_aload_n hx hb d_Law_law_796 rfl (lv_at hl 1 rfl) ?_
  refine lv_aload_n hx hb d_Law_law_797 rfl (lv_at hl 0 rfl) ?_
  refine lv_iload_n hx hb d_Law_law_798 rfl (lv_at hl 3 rfl) ?_
  refine lv_iconst (v := (1 : Int32)) hx hb d_Law_law_799 (by decide) ?_
  refine lv_iadd hx hb d_Law_law_800 ?_
  refine va_sld hx hb hX hbl hbA hS (vp_j 1 rfl (by omega) hL) d_Law_law_801 ?_
  refine vX (B := (L_fimrgchk ty fA mA rA gA cA hA kA (pvO po) sF (imO o0 o1) sM sN sR sG sC sH)) (B' := (L_fimrgchk ty fA mA rA gA cA hA kA (pvO po) tF (imO o0 o1) sM sN sR sG sC sH)) (Lc := (L_fchk ty fA rA cA hA kA (pvO po) sF sC sH)) (Lc' := (L_fchk ty fA rA cA hA kA (pvO po) tF sC sH)) (rest := []) C0 (c_Face_is l D ty fA rA cA hA kA (pvO po) H.size sF sC sH (xs (nI i + (1 : Int32)).toNatClampNeg) rr tF e1) PcM.blind k_659 cal_Face_is hw hS hAb [0, 23, 24, 25, 26, 27, 28, 29, 30, 31, 32, 33, 34, 35, 36, 37, 38] rfl (by decide) rfl rfl (fun hPc => va_recv hK.1 hPc (ci := 10) (q0 := 0) rfl rfl) (fun hPc hDc hF U hU hW => ⟨rfl, by rw [hU], by rw [hU]; exact hPc, hK.warm hW, hDc⟩) ⟨by decide, by decide⟩ rfl rfl rfl hl.1 rfl (Nat.le_of_ble_eq_true rfl) d_Law_law_802 ⟨by show _ ≤ 600000; omega, by show _ ≤ 7302250; omega⟩ rfl (fun H locs hw hS => ?_)
  refine lv_aload_n hx hb d_Law_law_805 rfl (lv_at hl 2 rfl) ?_
  refine lv_aload_n hx hb d_Law_law_806 rfl (lv_at hl 0 rfl) ?_
  refine lv_iload_n hx hb d_Law_law_807 rfl (lv_at hl 3 rfl) ?_
  refine lv_iconst (v := (1 : Int32)) hx hb d_Law_law_808 (by decide) ?_
  refine lv_iadd hx hb d_Law_law_809 ?_
  refine va_sld hx hb hX hbl hbA hS (vp_j 1 rfl (by omega) hL) d_Law_law_810 ?_
  refine vX (B := (L_fimrgchk ty fA mA rA gA cA hA kA (pvO po) tF (imO o0 o1) sM sN sR sG sC sH)) (B' := (L_fimrgchk ty fA mA rA gA cA hA kA (pvO po) tF (imO o0 o1) tM tN sR sG sC sH)) (Lc := (L_m ty mA sM sN)) (Lc' := (L_m ty mA tM tN)) (rest := [.int rr]) C0 (c_Model_is l D ty mA H.size sM sN (xs (nI i + (1 : Int32)).toNatClampNeg) rr tM tN e2) PcM.blind k_1056 cal_Model_is hw hS hAb [2, 3, 4, 5, 6, 7, 8, 9, 10, 11, 12, 13] rfl (by decide) rfl rfl (fun hPc => va_recv hK.1 hPc (ci := 11) (q0 := 0) rfl rfl) (fun hPc hDc hF U hU hW => ⟨rfl, by rw [hU], by rw [hU]; exact hPc, hK.warm hW, hDc⟩) ⟨by decide, by decide⟩ rfl rfl rfl hl.1 rfl (Nat.le_of_ble_eq_true rfl) d_Law_law_811 ⟨by show _ ≤ 600000; omega, by show _ ≤ 7302250; omega⟩ rfl (fun H locs hw hS => ?_)
  refine lv_icmp_eq (tgt := 1081) hx hb d_Law_law_814 (by decide) (fun _ => ?_) (fun q => absurd rfl q)
  exact hN _ _ _ _ _ _ _ _ _ _ _ _ ls _ _ hRel hw hS hl (by omega) (by omega)
set_option maxHeartbeats 4000000 in
set_option maxRecDepth 100000 in
theorem lc_look {p : Program} {l : Launch} {e : Env} {s : State} {m : MethodId} {below : List Frame} {meth : Method} {c : Code} {b L : Nat} {xs : Nat → Int32} {D : va_G} {ty : Nat → ClassId} {fA mA rA gA cA hA kA aK aV : Nat → Nat} {Rel : Relt} {i : Nat} (hC : LC p s m meth c b L xs D ty aK aV) (hN : Nx p l e s m below meth c b D ty fA mA rA gA cA hA kA Rel 1081 i (1010 + 10 * i) (14000 + 4000 * i)) (hi : i + 6 ≤ L) (op : Op_look Rel) : Nx p l e s m below meth c b D ty fA mA rA gA cA hA kA Rel 819 i (1000 + 10 * i) (10000 + 4000 * i) := by
  intro po o0 o1 sF sM sN sR sG sC sH H locs ls cells slots hRel hw hS hl hcb hsb
  obtain ⟨C0, hK, hT, hX, hbl, hL⟩ := id hC
  obtain ⟨hx, hb, hr, hlk, hml, hown, htt⟩ := id C0
  have hbA : ¬ (fun q => s.heap.size ≤ q) b := Nat.not_le.mpr hbl
  obtain ⟨rr, tF, tC, tM, tN, e1, e2, hRel⟩ := op _ _ _ _ _ _ _ sC hRel (xs (nI i + (1 : Int32)).toNatClampNeg) (xs (nI i + (2 : Int32)).toNatClampNeg)
  refine lv_aload_n hx hb d_Law_law_819 rfl (lv_at hl 1 rfl) ?_
  refine lv_aload_n hx hb d_Law_law_820 rfl (lv_at hl 0 rfl) ?_
  refine lv_iload_n hx hb d_Law_law_821 rfl (lv_at hl 3 rfl) ?_
  refine lv_iconst (v := (1 : Int32)) hx hb d_Law_law_822 (by decide) ?_
  refine lv_iadd hx hb d_Law_law_823 ?_
  refine va_sld hx hb hX hbl hbA hS (vp_j 1 rfl (by omega) hL) d_Law_law_824 ?_
  refine lv_aload_n hx hb d_Law_law_825 rfl (lv_at hl 0 rfl) ?_
  refine lv_iload_n hx hb d_Law_law_826 rfl (lv_at hl 3 rfl) ?_
  refine lv_iconst (v := (2 : Int32)) hx hb d_Law_law_827 (by decide) ?_
  refine lv_iadd hx hb d_Law_law_828 ?_
  refine va_sld hx hb hX hbl hbA hS (vp_j 2 rfl (by omega) hL) d_Law_law_829 ?_
  refine vX (B := (L_fimrgchk ty fA mA rA gA cA hA kA (pvO po) sF (imO o0 o1) sM sN sR sG sC sH)) (B' := (L_fimrgchk ty fA mA rA gA cA hA kA (pvO po) tF (imO o0 o1) sM sN sR sG tC sH)) (Lc := (L_fchk ty fA rA cA hA kA (pvO po) sF sC sH)) (Lc' := (L_fchk ty fA rA cA hA kA (pvO po) tF tC sH)) (rest := []) C0 (c_Face_look l D ty fA rA cA hA kA (pvO po) H.size sF sC sH (xs (nI i + (1 : Int32)).toNatClampNeg) (xs (nI i + (2 : Int32)).toNatClampNeg) rr tF tC e1) PcM.blind k_675 cal_Face_look hw hS hAb [0, 23, 24, 25, 26, 27, 28, 29, 30, 31, 32, 33, 34, 35, 36, 37, 38] rfl (by decide) rfl rfl (fun hPc => va_recv hK.1 hPc (ci := 10) (q0 := 0) rfl rfl) (fun hPc hDc hF U hU hW => ⟨rfl, by rw [hU], by rw [hU]; exact hPc, hK.warm hW, hDc⟩) ⟨by decide, by decide⟩ rfl rfl rfl hl.1 rfl (Nat.le_of_ble_eq_true rfl) d_Law_law_830 ⟨by show _ ≤ 600000; omega, by show _ ≤ 7302250; omega⟩ rfl (fun H locs hw hS => ?_)
  refine lv_aload_n hx hb d_Law_law_833 rfl (lv_at hl 2 rfl) ?_
  refine lv_aload_n hx hb d_Law_law_834 rfl (lv_at hl 0 rfl) ?_
  refine lv_iload_n hx hb d_Law_law_835 rfl (lv_at hl 3 rfl) ?_
  refine lv_iconst (v := (1 : Int32)) hx hb d_Law_law_836 (by decide) ?_
  refine lv_iadd hx hb d_Law_law_837 ?_
  refine va_sld hx hb hX hbl hbA hS (vp_j 1 rfl (by omega) hL) d_Law_law_838 ?_
  refine lv_aload_n hx hb d_Law_law_839 rfl (lv_at hl 0 rfl) ?_
  refine lv_iload_n hx hb d_Law_law_840 rfl (lv_at hl 3 rfl) ?_
  refine lv_iconst (v := (2 : Int32)) hx hb d_Law_law_841 (by decide) ?_
  refine lv_iadd hx hb d_Law_law_842 ?_
  refine va_sld hx hb hX hbl hbA hS (vp_j 2 rfl (by omega) hL) d_Law_law_843 ?_
  refine vX (B := (L_fimrgchk ty fA mA rA gA cA hA kA (pvO po) tF (imO o0 o1) sM sN sR sG tC sH)) (B' := (L_fimrgchk ty fA mA rA gA cA hA kA (pvO po) tF (imO o0 o1) tM tN sR sG tC sH)) (Lc := (L_m ty mA sM sN)) (Lc' := (L_m ty mA tM tN)) (rest := [.int rr]) C0 (c_Model_look l D ty mA H.size sM sN (xs (nI i + (1 : Int32)).toNatClampNeg) (xs (nI i + (2 : Int32)).toNatClampNeg) rr tM tN e2) PcM.blind k_1064 cal_Model_look hw hS hAb [2, 3, 4, 5, 6, 7, 8, 9, 10, 11, 12, 13] rfl (by decide) rfl rfl (fun hPc => va_recv hK.1 hPc (ci := 11) (q0 := 0) rfl rfl) (fun hPc hDc hF U hU hW => ⟨rfl, by rw [hU], by rw [hU]; exact hPc, hK.warm hW, hDc⟩) ⟨by decide, by decide⟩ rfl rfl rfl hl.1 rfl (Nat.le_of_ble_eq_true rfl) d_Law_law_844 ⟨by show _ ≤ 600000; omega, by show _ ≤ 7302250; omega⟩ rfl (fun H locs hw hS => ?_)
  refine lv_icmp_eq (tgt := 1081) hx hb d_Law_law_847 (by decide) (fun _ => ?_) (fun q => absurd rfl q)
  exact hN _ _ _ _ _ _ _ _ _ _ _ _ ls _ _ hRel hw hS hl (by omega) (by omega)
set_option maxHeartbeats 4000000 in
set_option maxRecDepth 100000 in
theorem lc_wars {p : Program} {l : Launch} {e : Env} {s : State} {m : MethodId} {below : List Frame} {meth : Method} {c : Code} {b L : Nat} {xs : Nat → Int32} {D : va_G} {ty : Nat → ClassId} {fA mA rA gA cA hA kA aK aV : Nat → Nat} {Rel : Relt} {i : Nat} (hC : LC p s m meth c b L xs D ty aK aV) (hN : Nx p l e s m below meth c b D ty fA mA rA gA cA hA kA Rel 1081 i (1010 + 10 * i) (14000 + 4000 * i)) (hi : i + 6 ≤ L) (op : Op_wars Rel) : Nx p l e s m below meth c b D ty fA mA rA gA cA hA kA Rel 852 i (1000 + 10 * i) (10000 + 4000 * i) := by
  intro po o0 o1 sF sM sN sR sG sC sH H locs ls cells slots hRel hw hS hl hcb hsb
  obtain ⟨C0, hK, hT, hX, hbl, hL⟩ := id hC
  obtain ⟨hx, hb, hr, hlk, hml, hown, htt⟩ := id C0
  have hbA : ¬ (fun q => s.heap.size ≤ q) b := Nat.not_le.mpr hbl
  obtain ⟨rr, tF, tM, tN, e1, e2, hRel⟩ := op _ _ _ _ _ _ _ sC hRel (xs (nI i + (1 : Int32)).toNatClampNeg) (xs (nI i + (2 : Int32)).toNatClampNeg)
  refine lv_aload_n hx hb d_Law_law_852 rfl (lv_at hl 1 rfl) ?_
  refine lv_aload_n hx hb d_Law_law_853 rfl (lv_at hl 0 rfl) ?_
  refine lv_iload_n hx hb d_Law_law_854 rfl (lv_at hl 3 rfl) ?_
  refine lv_iconst (v := (1 : Int32)) hx hb d_Law_law_855 (by decide) ?_
  refine lv_iadd hx hb d_Law_law_856 ?_
  refine va_sld hx hb hX hbl hbA hS (vp_j 1 rfl (by omega) hL) d_Law_law_857 ?_
  refine lv_aload_n hx hb d_Law_law_858 rfl (lv_at hl 0 rfl) ?_
  refine lv_iload_n hx hb d_Law_law_859 rfl (lv_at hl 3 rfl) ?_
  refine lv_iconst (v := (2 : Int32)) hx hb d_Law_law_860 (by decide) ?_
  refine lv_iadd hx hb d_Law_law_861 ?_
  refine va_sld hx hb hX hbl hbA hS (vp_j 2 rfl (by omega) hL) d_Law_law_862 ?_
  refine vX (B := (L_fimrgchk ty fA mA rA gA cA hA kA (pvO po) sF (imO o0 o1) sM sN sR sG sC sH)) (B' := (L_fimrgchk ty fA mA rA gA cA hA kA (pvO po) tF (imO o0 o1) sM sN sR sG sC sH)) (Lc := (L_fchk ty fA rA cA hA kA (pvO po) sF sC sH)) (Lc' := (L_fchk ty fA rA cA hA kA (pvO po) tF sC sH)) (rest := []) C0 (c_Face_wars l D ty fA rA cA hA kA (pvO po) H.size sF sC sH (xs (nI i + (1 : Int32)).toNatClampNeg) (xs (nI i + (2 : Int32)).toNatClampNeg) rr tF e1) PcM.blind k_687 cal_Face_wars hw hS hAb [0, 23, 24, 25, 26, 27, 28, 29, 30, 31, 32, 33, 34, 35, 36, 37, 38] rfl (by decide) rfl rfl (fun hPc => va_recv hK.1 hPc (ci := 10) (q0 := 0) rfl rfl) (fun hPc hDc hF U hU hW => ⟨rfl, by rw [hU], by rw [hU]; exact hPc, hK.warm hW, hDc⟩) ⟨by decide, by decide⟩ rfl rfl rfl hl.1 rfl (Nat.le_of_ble_eq_true rfl) d_Law_law_863 ⟨by show _ ≤ 600000; omega, by show _ ≤ 7302250; omega⟩ rfl (fun H locs hw hS => ?_)
  refine lv_aload_n hx hb d_Law_law_866 rfl (lv_at hl 2 rfl) ?_
  refine lv_aload_n hx hb d_Law_law_867 rfl (lv_at hl 0 rfl) ?_
  refine lv_iload_n hx hb d_Law_law_868 rfl (lv_at hl 3 rfl) ?_
  refine lv_iconst (v := (1 : Int32)) hx hb d_Law_law_869 (by decide) ?_
  refine lv_iadd hx hb d_Law_law_870 ?_
  refine va_sld hx hb hX hbl hbA hS (vp_j 1 rfl (by omega) hL) d_Law_law_871 ?_
  refine lv_aload_n hx hb d_Law_law_872 rfl (lv_at hl 0 rfl) ?_
  refine lv_iload_n hx hb d_Law_law_873 rfl (lv_at hl 3 rfl) ?_
  refine lv_iconst (v := (2 : Int32)) hx hb d_Law_law_874 (by decide) ?_
  refine lv_iadd hx hb d_Law_law_875 ?_
  refine va_sld hx hb hX hbl hbA hS (vp_j 2 rfl (by omega) hL) d_Law_law_876 ?_
  refine vX (B := (L_fimrgchk ty fA mA rA gA cA hA kA (pvO po) tF (imO o0 o1) sM sN sR sG sC sH)) (B' := (L_fimrgchk ty fA mA rA gA cA hA kA (pvO po) tF (imO o0 o1) tM tN sR sG sC sH)) (Lc := (L_m ty mA sM sN)) (Lc' := (L_m ty mA tM tN)) (rest := [.int rr]) C0 (c_Model_wars l D ty mA H.size sM sN (xs (nI i + (1 : Int32)).toNatClampNeg) (xs (nI i + (2 : Int32)).toNatClampNeg) rr tM tN e2) PcM.blind k_1072 cal_Model_wars hw hS hAb [2, 3, 4, 5, 6, 7, 8, 9, 10, 11, 12, 13] rfl (by decide) rfl rfl (fun hPc => va_recv hK.1 hPc (ci := 11) (q0 := 0) rfl rfl) (fun hPc hDc hF U hU hW => ⟨rfl, by rw [hU], by rw [hU]; exact hPc, hK.warm hW, hDc⟩) ⟨by decide, by decide⟩ rfl rfl rfl hl.1 rfl (Nat.le_of_ble_eq_true rfl) d_Law_law_877 ⟨by show _ ≤ 600000; omega, by show _ ≤ 7302250; omega⟩ rfl (fun H locs hw hS => ?_)
  refine lv_icmp_eq (tgt := 1081) hx hb d_Law_law_880 (by decide) (fun _ => ?_) (fun q => absurd rfl q)
  exact hN _ _ _ _ _ _ _ _ _ _ _ _ ls _ _ hRel hw hS hl (by omega) (by omega)
set_option maxHeartbeats 4000000 in
set_option maxRecDepth 100000 in
theorem lc_sentry {p : Program} {l : Launch} {e : Env} {s : State} {m : MethodId} {below : List Frame} {meth : Method} {c : Code} {b L : Nat} {xs : Nat → Int32} {D : va_G} {ty : Nat → ClassId} {fA mA rA gA cA hA kA aK aV : Nat → Nat} {Rel : Relt} {i : Nat} (hC : LC p s m meth c b L xs D ty aK aV) (hN : Nx p l e s m below meth c b D ty fA mA rA gA cA hA kA Rel 1081 i (1010 + 10 * i) (14000 + 4000 * i)) (hi : i + 6 ≤ L) (op : Op_sentry Rel) : Nx p l e s m below meth c b D ty fA mA rA gA cA hA kA Rel 885 i (1000 + 10 * i) (10000 + 4000 * i) := by
  intro po o0 o1 sF sM sN sR sG sC sH H locs ls cells slots hRel hw hS hl hcb hsb
  obtain ⟨C0, hK, hT, hX, hbl, hL⟩ := id hC
  obtain ⟨hx, hb, hr, hlk, hml, hown, htt⟩ := id C0
  have hbA : ¬ (fun q => s.heap.size ≤ q) b := Nat.not_le.mpr hbl
  obtain ⟨rr, tF, tM, tN, e1, e2, hRel⟩ := op _ _ _ _ _ _ _ sC hRel (xs (nI i + (1 : Int32)).toNatClampNeg) (xs (nI i + (2 : Int32)).toNatClampNeg)
  refine lv_aload_n hx hb d_Law_law_885 rfl (lv_at hl 1 rfl) ?_
  refine lv_aload_n hx hb d_Law_law_886 rfl (lv_at hl 0 rfl) ?_
  refine lv_iload_n hx hb d_Law_law_887 rfl (lv_at hl 3 rfl) ?_
  refine lv_iconst (v := (1 : Int32)) hx hb d_Law_law_888 (by decide) ?_
  refine lv_iadd hx hb d_Law_law_889 ?_
  refine va_sld hx hb hX hbl hbA hS (vp_j 1 rfl (by omega) hL) d_Law_law_890 ?_
  refine lv_aload_n hx hb d_Law_law_891 rfl (lv_at hl 0 rfl) ?_
  refine lv_iload_n hx hb d_Law_law_892 rfl (lv_at hl 3 rfl) ?_
  refine lv_iconst (v := (2 : Int32)) hx hb d_Law_law_893 (by decide) ?_
  refine lv_iadd hx hb d_Law_law_894 ?_
  refine va_sld hx hb hX hbl hbA hS (vp_j 2 rfl (by omega) hL) d_Law_law_895 ?_
  refine vX (B := (L_fimrgchk ty fA mA rA gA cA hA kA (pvO po) sF (imO o0 o1) sM sN sR sG sC sH)) (B' := (L_fimrgchk ty fA mA rA gA cA hA kA (pvO po) tF (imO o0 o1) sM sN sR sG sC sH)) (Lc := (L_fchk ty fA rA cA hA kA (pvO po) sF sC sH)) (Lc' := (L_fchk ty fA rA cA hA kA (pvO po) tF sC sH)) (rest := []) C0 (c_Face_sentry l D ty fA rA cA hA kA (pvO po) H.size sF sC sH (xs (nI i + (1 : Int32)).toNatClampNeg) (xs (nI i + (2 : Int32)).toNatClampNeg) rr tF e1) PcM.blind k_696 cal_Face_sentry hw hS hAb [0, 23, 24, 25, 26, 27, 28, 29, 30, 31, 32, 33, 34, 35, 36, 37, 38] rfl (by decide) rfl rfl (fun hPc => va_recv hK.1 hPc (ci := 10) (q0 := 0) rfl rfl) (fun hPc hDc hF U hU hW => ⟨rfl, by rw [hU], by rw [hU]; exact hPc, hK.warm hW, hDc⟩) ⟨by decide, by decide⟩ rfl rfl rfl hl.1 rfl (Nat.le_of_ble_eq_true rfl) d_Law_law_896 ⟨by show _ ≤ 600000; omega, by show _ ≤ 7302250; omega⟩ rfl (fun H locs hw hS => ?_)
  refine lv_aload_n hx hb d_Law_law_899 rfl (lv_at hl 2 rfl) ?_
  refine lv_aload_n hx hb d_Law_law_900 rfl (lv_at hl 0 rfl) ?_
  refine lv_iload_n hx hb d_Law_law_901 rfl (lv_at hl 3 rfl) ?_
  refine lv_iconst (v := (1 : Int32)) hx hb d_Law_law_902 (by decide) ?_
  refine lv_iadd hx hb d_Law_law_903 ?_
  refine va_sld hx hb hX hbl hbA hS (vp_j 1 rfl (by omega) hL) d_Law_law_904 ?_
  refine lv_aload_n hx hb d_Law_law_905 rfl (lv_at hl 0 rfl) ?_
  refine lv_iload_n hx hb d_Law_law_906 rfl (lv_at hl 3 rfl) ?_
  refine lv_iconst (v := (2 : Int32)) hx hb d_Law_law_907 (by decide) ?_
  refine lv_iadd hx hb d_Law_law_908 ?_
  refine va_sld hx hb hX hbl hbA hS (vp_j 2 rfl (by omega) hL) d_Law_law_909 ?_
  refine vX (B := (L_fimrgchk ty fA mA rA gA cA hA kA (pvO po) tF (imO o0 o1) sM sN sR sG sC sH)) (B' := (L_fimrgchk ty fA mA rA gA cA hA kA (pvO po) tF (imO o0 o1) tM tN sR sG sC sH)) (Lc := (L_m ty mA sM sN)) (Lc' := (L_m ty mA tM tN)) (rest := [.int rr]) C0 (c_Model_sentry l D ty mA H.size sM sN (xs (nI i + (1 : Int32)).toNatClampNeg) (xs (nI i + (2 : Int32)).toNatClampNeg) rr tM tN e2) PcM.blind k_1076 cal_Model_sentry hw hS hAb [2, 3, 4, 5, 6, 7, 8, 9, 10, 11, 12, 13] rfl (by decide) rfl rfl (fun hPc => va_recv hK.1 hPc (ci := 11) (q0 := 0) rfl rfl) (fun hPc hDc hF U hU hW => ⟨rfl, by rw [hU], by rw [hU]; exact hPc, hK.warm hW, hDc⟩) ⟨by decide, by decide⟩ rfl rfl rfl hl.1 rfl (Nat.le_of_ble_eq_true rfl) d_Law_law_910 ⟨by show _ ≤ 600000; omega, by show _ ≤ 7302250; omega⟩ rfl (fun H locs hw hS => ?_)
  refine lv_icmp_eq (tgt := 1081) hx hb d_Law_law_913 (by decide) (fun _ => ?_) (fun q => absurd rfl q)
  exact hN _ _ _ _ _ _ _ _ _ _ _ _ ls _ _ hRel hw hS hl (by omega) (by omega)
set_option maxHeartbeats 4000000 in
set_option maxRecDepth 100000 in
theorem lc_days {p : Program} {l : Launch} {e : Env} {s : State} {m : MethodId} {below : List Frame} {meth : Method} {c : Code} {b L : Nat} {xs : Nat → Int32} {D : va_G} {ty : Nat → ClassId} {fA mA rA gA cA hA kA aK aV : Nat → Nat} {Rel : Relt} {i : Nat} (hC : LC p s m meth c b L xs D ty aK aV) (hN : Nx p l e s m below meth c b D ty fA mA rA gA cA hA kA Rel 1081 i (1010 + 10 * i) (14000 + 4000 * i)) (hi : i + 6 ≤ L) (op : Op_days Rel) : Nx p l e s m below meth c b D ty fA mA rA gA cA hA kA Rel 918 i (1000 + 10 * i) (10000 + 4000 * i) := by
  intro po o0 o1 sF sM sN sR sG sC sH H locs ls cells slots hRel hw hS hl hcb hsb
  obtain ⟨C0, hK, hT, hX, hbl, hL⟩ := id hC
  obtain ⟨hx, hb, hr, hlk, hml, hown, htt⟩ := id C0
  have hbA : ¬ (fun q => s.heap.size ≤ q) b := Nat.not_le.mpr hbl
  obtain ⟨rr, tF, tM, tN, e1, e2, hRel⟩ := op _ _ _ _ _ _ _ sC hRel (xs (nI i + (1 : Int32)).toNatClampNeg) (xs (nI i + (2 : Int32)).toNatClampNeg)
  refine lv_aload_n hx hb d_Law_law_918 rfl (lv_at hl 1 rfl) ?_
  refine lv_aload_n hx hb d_Law_law_919 rfl (lv_at hl 0 rfl) ?_
  refine lv_iload_n hx hb d_Law_law_920 rfl (lv_at hl 3 rfl) ?_
  refine lv_iconst (v := (1 : Int32)) hx hb d_Law_law_921 (by decide) ?_
  refine lv_iadd hx hb d_Law_law_922 ?_
  refine va_sld hx hb hX hbl hbA hS (vp_j 1 rfl (by omega) hL) d_Law_law_923 ?_
  refine lv_aload_n hx hb d_Law_law_924 rfl (lv_at hl 0 rfl) ?_
  refine lv_iload_n hx hb d_Law_law_925 rfl (lv_at hl 3 rfl) ?_
  refine lv_iconst (v := (2 : Int32)) hx hb d_Law_law_926 (by decide) ?_
  refine lv_iadd hx hb d_Law_law_927 ?_
  refine va_sld hx hb hX hbl hbA hS (vp_j 2 rfl (by omega) hL) d_Law_law_928 ?_
  refine vX (B := (L_fimrgchk ty fA mA rA gA cA hA kA (pvO po) sF (imO o0 o1) sM sN sR sG sC sH)) (B' := (L_fimrgchk ty fA mA rA gA cA hA kA (pvO po) tF (imO o0 o1) sM sN sR sG sC sH)) (Lc := (L_fchk ty fA rA cA hA kA (pvO po) sF sC sH)) (Lc' := (L_fchk ty fA rA cA hA kA (pvO po) tF sC sH)) (rest := []) C0 (c_Face_days l D ty fA rA cA hA kA (pvO po) H.size sF sC sH (xs (nI i + (1 : Int32)).toNatClampNeg) (xs (nI i + (2 : Int32)).toNatClampNeg) rr tF e1) PcM.blind k_709 cal_Face_days hw hS hAb [0, 23, 24, 25, 26, 27, 28, 29, 30, 31, 32, 33, 34, 35, 36, 37, 38] rfl (by decide) rfl rfl (fun hPc => va_recv hK.1 hPc (ci := 10) (q0 := 0) rfl rfl) (fun hPc hDc hF U hU hW => ⟨rfl, by rw [hU], by rw [hU]; exact hPc, hK.warm hW, hDc⟩) ⟨by decide, by decide⟩ rfl rfl rfl hl.1 rfl (Nat.le_of_ble_eq_true rfl) d_Law_law_929 ⟨by show _ ≤ 600000; omega, by show _ ≤ 7302250; omega⟩ rfl (fun H locs hw hS => ?_)
  refine lv_aload_n hx hb d_Law_law_932 rfl (lv_at hl 2 rfl) ?_
  refine lv_aload_n hx hb d_Law_law_933 rfl (lv_at hl 0 rfl) ?_
  refine lv_iload_n hx hb d_Law_law_934 rfl (lv_at hl 3 rfl) ?_
  refine lv_iconst (v := (1 : Int32)) hx hb d_Law_law_935 (by decide) ?_
  refine lv_iadd hx hb d_Law_law_936 ?_
  refine va_sld hx hb hX hbl hbA hS (vp_j 1 rfl (by omega) hL) d_Law_law_937 ?_
  refine lv_aload_n hx hb d_Law_law_938 rfl (lv_at hl 0 rfl) ?_
  refine lv_iload_n hx hb d_Law_law_939 rfl (lv_at hl 3 rfl) ?_
  refine lv_iconst (v := (2 : Int32)) hx hb d_Law_law_940 (by decide) ?_
  refine lv_iadd hx hb d_Law_law_941 ?_
  refine va_sld hx hb hX hbl hbA hS (vp_j 2 rfl (by omega) hL) d_Law_law_942 ?_
  refine vX (B := (L_fimrgchk ty fA mA rA gA cA hA kA (pvO po) tF (imO o0 o1) sM sN sR sG sC sH)) (B' := (L_fimrgchk ty fA mA rA gA cA hA kA (pvO po) tF (imO o0 o1) tM tN sR sG sC sH)) (Lc := (L_m ty mA sM sN)) (Lc' := (L_m ty mA tM tN)) (rest := [.int rr]) C0 (c_Model_days l D ty mA H.size sM sN (xs (nI i + (1 : Int32)).toNatClampNeg) (xs (nI i + (2 : Int32)).toNatClampNeg) rr tM tN e2) PcM.blind k_1082 cal_Model_days hw hS hAb [2, 3, 4, 5, 6, 7, 8, 9, 10, 11, 12, 13] rfl (by decide) rfl rfl (fun hPc => va_recv hK.1 hPc (ci := 11) (q0 := 0) rfl rfl) (fun hPc hDc hF U hU hW => ⟨rfl, by rw [hU], by rw [hU]; exact hPc, hK.warm hW, hDc⟩) ⟨by decide, by decide⟩ rfl rfl rfl hl.1 rfl (Nat.le_of_ble_eq_true rfl) d_Law_law_943 ⟨by show _ ≤ 600000; omega, by show _ ≤ 7302250; omega⟩ rfl (fun H locs hw hS => ?_)
  refine lv_icmp_eq (tgt := 1081) hx hb d_Law_law_946 (by decide) (fun _ => ?_) (fun q => absurd rfl q)
  exact hN _ _ _ _ _ _ _ _ _ _ _ _ ls _ _ hRel hw hS hl (by omega) (by omega)
set_option maxHeartbeats 4000000 in
set_option maxRecDepth 100000 in
theorem lc_part {p : Program} {l : Launch} {e : Env} {s : State} {m : MethodId} {below : List Frame} {meth : Method} {c : Code} {b L : Nat} {xs : Nat → Int32} {D : va_G} {ty : Nat → ClassId} {fA mA rA gA cA hA kA aK aV : Nat → Nat} {Rel : Relt} {i : Nat} (hC : LC p s m meth c b L xs D ty aK aV) (hN : Nx p l e s m below meth c b D ty fA mA rA gA cA hA kA Rel 1081 i (1010 + 10 * i) (14000 + 4000 * i)) (hi : i + 6 ≤ L) (op : Op_part Rel) : Nx p l e s m below meth c b D ty fA mA rA gA cA hA kA Rel 951 i (1000 + 10 * i) (10000 + 4000 * i) := by
  intro po o0 o1 sF sM sN sR sG sC sH H locs ls cells slots hRel hw hS hl hcb hsb
  obtain ⟨C0, hK, hT, hX, hbl, hL⟩ := id hC
  obtain ⟨hx, hb, hr, hlk, hml, hown, htt⟩ := id C0
  have hbA : ¬ (fun q => s.heap.size ≤ q) b := Nat.not_le.mpr hbl
  obtain ⟨rr, tF, tM, tN, e1, e2, hRel⟩ := op _ _ _ _ _ _ _ hRel (xs (nI i + (1 : Int32)).toNatClampNeg)
  refine lv_aload_n hx hb d_Law_law_951 rfl (lv_at hl 1 rfl) ?_
  refine lv_aload_n hx hb d_Law_law_952 rfl (lv_at hl 0 rfl) ?_
  refine lv_iload_n hx hb d_Law_law_953 rfl (lv_at hl 3 rfl) ?_
  refine lv_iconst (v := (1 : Int32)) hx hb d_Law_law_954 (by decide) ?_
  refine lv_iadd hx hb d_Law_law_955 ?_
  refine va_sld hx hb hX hbl hbA hS (vp_j 1 rfl (by omega) hL) d_Law_law_956 ?_
  refine vX (B := (L_fimrgchk ty fA mA rA gA cA hA kA (pvO po) sF (imO o0 o1) sM sN sR sG sC sH)) (B' := (L_fimrgchk ty fA mA rA gA cA hA kA (pvO po) tF (imO o0 o1) sM sN sR sG sC sH)) (Lc := (L_f ty fA rA cA hA (pvO po) sF)) (Lc' := (L_f ty fA rA cA hA (pvO po) tF)) (rest := []) C0 (c_Face_part l D ty fA rA cA hA (pvO po) H.size sF (xs (nI i + (1 : Int32)).toNatClampNeg) rr tF e1) PcM.blind k_727 cal_Face_part hw hS hAb [0] rfl (by decide) rfl rfl (fun hPc => va_recv hK.1 hPc (ci := 10) (q0 := 0) rfl rfl) (fun hPc hDc hF U hU hW => ⟨rfl, by rw [hU], by rw [hU]; exact hPc, hK.warm hW, hDc⟩) ⟨by decide, by decide⟩ rfl rfl rfl hl.1 rfl (Nat.le_of_ble_eq_true rfl) d_Law_law_957 ⟨by show _ ≤ 600000; omega, by show _ ≤ 7302250; omega⟩ rfl (fun H locs hw hS => ?_)
  refine lv_aload_n hx hb d_Law_law_960 rfl (lv_at hl 2 rfl) ?_
  refine lv_aload_n hx hb d_Law_law_961 rfl (lv_at hl 0 rfl) ?_
  refine lv_iload_n hx hb d_Law_law_962 rfl (lv_at hl 3 rfl) ?_
  refine lv_iconst (v := (1 : Int32)) hx hb d_Law_law_963 (by decide) ?_
  refine lv_iadd hx hb d_Law_law_964 ?_
  refine va_sld hx hb hX hbl hbA hS (vp_j 1 rfl (by omega) hL) d_Law_law_965 ?_
  refine vX (B := (L_fimrgchk ty fA mA rA gA cA hA kA (pvO po) tF (imO o0 o1) sM sN sR sG sC sH)) (B' := (L_fimrgchk ty fA mA rA gA cA hA kA (pvO po) tF (imO o0 o1) tM tN sR sG sC sH)) (Lc := (L_m ty mA sM sN)) (Lc' := (L_m ty mA tM tN)) (rest := [.long rr]) C0 (c_Model_part l D ty mA H.size sM sN (xs (nI i + (1 : Int32)).toNatClampNeg) rr tM tN e2) PcM.blind k_1095 cal_Model_part hw hS hAb [2, 3, 4, 5, 6, 7, 8, 9, 10, 11, 12, 13] rfl (by decide) rfl rfl (fun hPc => va_recv hK.1 hPc (ci := 11) (q0 := 0) rfl rfl) (fun hPc hDc hF U hU hW => ⟨rfl, by rw [hU], by rw [hU]; exact hPc, hK.warm hW, hDc⟩) ⟨by decide, by decide⟩ rfl rfl rfl hl.1 rfl (Nat.le_of_ble_eq_true rfl) d_Law_law_966 ⟨by show _ ≤ 600000; omega, by show _ ≤ 7302250; omega⟩ rfl (fun H locs hw hS => ?_)
  refine W.lcmp hx hb d_Law_law_969 ?_
  refine lv_if_eq (tgt := 1081) hx hb d_Law_law_970 (by decide) (fun _ => ?_) (fun q => absurd (lg_same rr) q)
  exact hN _ _ _ _ _ _ _ _ _ _ _ _ ls _ _ hRel hw hS hl (by omega) (by omega)
set_option maxHeartbeats 4000000 in
set_option maxRecDepth 100000 in
theorem lc_image {p : Program} {l : Launch} {e : Env} {s : State} {m : MethodId} {below : List Frame} {meth : Method} {c : Code} {b L : Nat} {xs : Nat → Int32} {D : va_G} {ty : Nat → ClassId} {fA mA rA gA cA hA kA aK aV : Nat → Nat} {Rel : Relt} {i : Nat} (hC : LC p s m meth c b L xs D ty aK aV) (hN : Nx p l e s m below meth c b D ty fA mA rA gA cA hA kA Rel 1081 i (1010 + 10 * i) (14000 + 4000 * i)) (hi : i + 6 ≤ L) (op : Op_image Rel) : Nx p l e s m below meth c b D ty fA mA rA gA cA hA kA Rel 975 i (1000 + 10 * i) (10000 + 4000 * i) := by
  intro po o0 o1 sF sM sN sR sG sC sH H locs ls cells slots hRel hw hS hl hcb hsb
  obtain ⟨C0, hK, hT, hX, hbl, hL⟩ := id hC
  obtain ⟨hx, hb, hr, hlk, hml, hown, htt⟩ := id C0
  have hbA : ¬ (fun q => s.heap.size ≤ q) b := Nat.not_le.mpr hbl
  obtain ⟨rr, tM, tN, e2, hq⟩ := op _ _ _ _ _ _ _ hRel (xs (nI i + (1 : Int32)).toNatClampNeg)
  refine lv_aload_n hx hb d_Law_law_975 rfl (lv_at hl 1 rfl) ?_
  refine lv_aload_n hx hb d_Law_law_976 rfl (lv_at hl 0 rfl) ?_
  refine lv_iload_n hx hb d_Law_law_977 rfl (lv_at hl 3 rfl) ?_
  refine lv_iconst (v := (1 : Int32)) hx hb d_Law_law_978 (by decide) ?_
  refine lv_iadd hx hb d_Law_law_979 ?_
  refine va_sld hx hb hX hbl hbA hS (vp_j 1 rfl (by omega) hL) d_Law_law_980 ?_
  rcases hq with ⟨tF, e1, hRel⟩ | ⟨h0, hq⟩ | ⟨h0, hq⟩
  · refine vX (B := (L_fimrgchk ty fA mA rA gA cA hA kA (pvO po) sF (imO o0 o1) sM sN sR sG sC sH)) (B' := (L_fimrgchk ty fA mA rA gA cA hA kA (pvO po) tF (imO o0 o1) sM sN sR sG sC sH)) (Lc := (L_f ty fA rA cA hA (pvO po) sF)) (Lc' := (L_f ty fA rA cA hA (pvO po) tF)) (rest := []) C0 (c_Face_image_r l D ty fA rA cA hA (pvO po) H.size sF (xs (nI i + (1 : Int32)).toNatClampNeg) rr tF e1) PcM.blind k_731 cal_Face_image hw hS hAb [0] rfl (by decide) rfl rfl (fun hPc => va_recv hK.1 hPc (ci := 10) (q0 := 0) rfl rfl) (fun hPc hDc hF U hU hW => ⟨rfl, by rw [hU], by rw [hU]; exact hPc, hK.warm hW, hDc⟩) ⟨by decide, by decide⟩ rfl rfl rfl hl.1 rfl (Nat.le_of_ble_eq_true rfl) d_Law_law_981 ⟨by show _ ≤ 600000; omega, by show _ ≤ 7302250; omega⟩ rfl (fun H locs hw hS => ?_)
    refine lv_aload_n hx hb d_Law_law_984 rfl (lv_at hl 2 rfl) ?_
    refine lv_aload_n hx hb d_Law_law_985 rfl (lv_at hl 0 rfl) ?_
    refine lv_iload_n hx hb d_Law_law_986 rfl (lv_at hl 3 rfl) ?_
    refine lv_iconst (v := (1 : Int32)) hx hb d_Law_law_987 (by decide) ?_
    refine lv_iadd hx hb d_Law_law_988 ?_
    refine va_sld hx hb hX hbl hbA hS (vp_j 1 rfl (by omega) hL) d_Law_law_989 ?_
    refine vX (B := (L_fimrgchk ty fA mA rA gA cA hA kA (pvO po) tF (imO o0 o1) sM sN sR sG sC sH)) (B' := (L_fimrgchk ty fA mA rA gA cA hA kA (pvO po) tF (imO o0 o1) tM tN sR sG sC sH)) (Lc := (L_m ty mA sM sN)) (Lc' := (L_m ty mA tM tN)) (rest := [.int rr]) C0 (c_Model_image l D ty mA H.size sM sN (xs (nI i + (1 : Int32)).toNatClampNeg) rr tM tN e2) PcM.blind k_1099 cal_Model_image hw hS hAb [2, 3, 4, 5, 6, 7, 8, 9, 10, 11, 12, 13] rfl (by decide) rfl rfl (fun hPc => va_recv hK.1 hPc (ci := 11) (q0 := 0) rfl rfl) (fun hPc hDc hF U hU hW => ⟨rfl, by rw [hU], by rw [hU]; exact hPc, hK.warm hW, hDc⟩) ⟨by decide, by decide⟩ rfl rfl rfl hl.1 rfl (Nat.le_of_ble_eq_true rfl) d_Law_law_990 ⟨by show _ ≤ 600000; omega, by show _ ≤ 7302250; omega⟩ rfl (fun H locs hw hS => ?_)
    refine lv_icmp_eq (tgt := 1081) hx hb d_Law_law_993 (by decide) (fun _ => ?_) (fun q => absurd rfl q)
    exact hN po o0 o1 _ _ _ _ _ _ _ _ _ ls _ _ hRel hw hS hl (by omega) (by omega)
  · rcases o0 with _ | ⟨oA, sO⟩
    · obtain ⟨tO, e1, hRel⟩ := (hq (imO none o1)).2 rfl
      have hw : Wd D (fun q => s.heap.size ≤ q) ((L_fimrgchk ty fA mA rA gA cA hA kA (pvO po) sF (imO none o1) sM sN sR sG sC sH) ++ (xP ty hA po ++ xO ty kA o1)) H := hw
      refine vP (Lc := (L_fih ty fA rA cA hA kA (pvO po) sF (imO none o1) sH)) (Lr := [(mA 0, .inr (11, [.ref (mA 1), .long (sN 1), .long (sN 2), .ref (mA 4), .ref (mA 5), .int (sM 5 0), .int (sM 6 0), .int (sM 7 0), .int (sM 8 0), .int (sM 9 0), .ref (mA 11), .int (sM 11 0), .int (sM 12 0), .ref (mA 14), .int (sM 14 0), .ref (mA 16), .ref (mA 17), .long (sN 17), .ref (mA 19), .ref (mA 20), .ref (mA 21), .ref (mA 22)])), (mA 1, .inl (ty 0, 53, .inl (sM 0))), (mA 4, .inl (ty 0, 3, .inl (sM 3))), (mA 5, .inl (ty 0, 150, .inl (sM 4))), (mA 11, .inl (ty 0, 2, .inl (sM 10))), (mA 14, .inl (ty 0, 32, .inl (sM 13))), (mA 16, .inl (ty 0, 3200, .inl (sM 15))), (mA 17, .inl (ty 0, 4, .inl (sM 16))), (mA 19, .inl (ty 2, 2, .inl (sM 18))), (mA 20, .inl (ty 0, 106, .inl (sM 19))), (mA 21, .inl (ty 0, 64, .inl (sM 20))), (mA 22, .inl (ty 0, 2, .inl (sM 21))), (rA 0, .inr (7, [.ref (gA 0), .ref (rA 2), .int (sR 2 0), .int (sR 3 0), .int (sR 4 0), .int (sR 5 0), .int (sR 6 0)])), (rA 2, .inl (ty 1, 150, .inl (sR 1))), (gA 0, .inr (6, [.ref (kA 0), .ref (gA 2), .ref (gA 3), .ref (gA 4), .ref (gA 5), .ref (gA 6), .ref (gA 7), .int (sG 7 0), .int (sG 8 0), .int (sG 9 0), .int (sG 10 0), .int (sG 11 0), .int (sG 12 0), .int (sG 13 0), .int (sG 14 0)])), (gA 2, .inl (ty 0, 2, .inl (sG 1))), (gA 3, .inl (ty 0, 2, .inl (sG 2))), (gA 4, .inl (ty 0, 6, .inl (sG 3))), (gA 5, .inl (ty 0, 6, .inl (sG 4))), (gA 6, .inl (ty 0, 30, .inl (sG 5))), (gA 7, .inl (ty 0, 32, .inl (sG 6))), (cA 0, .inr (8, [.ref (hA 0), .ref (cA 2)])), (cA 2, .inl (ty 0, 6, .inl (sC 1))), (kA 0, .inl (ty 3, 6, .inr (.inr (.inr (.inr (fun i => some (kA (i + 1)))))))), (kA 1, .inr (0, [])), (kA 2, .inr (1, [])), (kA 3, .inr (2, [])), (kA 4, .inr (3, [])), (kA 5, .inr (4, [])), (kA 6, .inr (5, []))] ++ (xP ty hA po ++ xO ty kA o1)) (rest := []) C0 (c_Face_image_a l D ty fA rA cA hA kA (pvO po) H.size sF (imO none o1) sH (xs (nI i + (1 : Int32)).toNatClampNeg) rr tO (fun _ => by rw [h0]; rfl) e1) PcM.blind k_731 cal_Face_image hw hS hAb (permP 39 [0, 1, 25, 26, 27, 28, 29, 30, 31] [2, 3, 4, 5, 6, 7, 8, 9, 10, 11, 12, 13, 14, 15, 16, 17, 18, 19, 20, 21, 22, 23, 24, 32, 33, 34, 35, 36, 37, 38] rfl (by decide) rfl rfl) (fun hPc => va_recv hK.1 hPc (ci := 10) (q0 := 0) rfl rfl) (fun hPc hDc U hU hW => ⟨rfl, by rw [hU], by rw [hU]; exact hPc, hK.warm hW, hDc⟩) ⟨by decide, by decide⟩ rfl rfl rfl hl.1 rfl (Nat.le_of_ble_eq_true rfl) d_Law_law_981 ⟨by show _ ≤ 600000; omega, by show _ ≤ 7302250; omega⟩ rfl (fun H locs hN2 hJ hS => ?_)
      obtain ⟨oA, hP1, hD1⟩ := hN2
      have hw := hJ _ hP1 hD1
      rw [show va_up (imO none o1) ((xs (nI i + (1 : Int32)).toNatClampNeg)).toNatClampNeg (some (oA 0)) = imO (some (oA, tO)) o1 from by rw [h0]; exact im_up0] at hw
      have hw : Wd D (fun q => s.heap.size ≤ q) (((L_fimrgchk ty fA mA rA gA cA hA kA (pvO po) sF (imO (some (oA, tO)) o1) sM sN sR sG sC sH) ++ L_o ty oA kA tO) ++ (xP ty hA po ++ xO ty kA o1)) H := permQ (B := ((L_fimrgchk ty fA mA rA gA cA hA kA (pvO po) sF (imO (some (oA, tO)) o1) sM sN sR sG sC sH) ++ L_o ty oA kA tO)) (Lc := _) (Lr := [(mA 0, .inr (11, [.ref (mA 1), .long (sN 1), .long (sN 2), .ref (mA 4), .ref (mA 5), .int (sM 5 0), .int (sM 6 0), .int (sM 7 0), .int (sM 8 0), .int (sM 9 0), .ref (mA 11), .int (sM 11 0), .int (sM 12 0), .ref (mA 14), .int (sM 14 0), .ref (mA 16), .ref (mA 17), .long (sN 17), .ref (mA 19), .ref (mA 20), .ref (mA 21), .ref (mA 22)])), (mA 1, .inl (ty 0, 53, .inl (sM 0))), (mA 4, .inl (ty 0, 3, .inl (sM 3))), (mA 5, .inl (ty 0, 150, .inl (sM 4))), (mA 11, .inl (ty 0, 2, .inl (sM 10))), (mA 14, .inl (ty 0, 32, .inl (sM 13))), (mA 16, .inl (ty 0, 3200, .inl (sM 15))), (mA 17, .inl (ty 0, 4, .inl (sM 16))), (mA 19, .inl (ty 2, 2, .inl (sM 18))), (mA 20, .inl (ty 0, 106, .inl (sM 19))), (mA 21, .inl (ty 0, 64, .inl (sM 20))), (mA 22, .inl (ty 0, 2, .inl (sM 21))), (rA 0, .inr (7, [.ref (gA 0), .ref (rA 2), .int (sR 2 0), .int (sR 3 0), .int (sR 4 0), .int (sR 5 0), .int (sR 6 0)])), (rA 2, .inl (ty 1, 150, .inl (sR 1))), (gA 0, .inr (6, [.ref (kA 0), .ref (gA 2), .ref (gA 3), .ref (gA 4), .ref (gA 5), .ref (gA 6), .ref (gA 7), .int (sG 7 0), .int (sG 8 0), .int (sG 9 0), .int (sG 10 0), .int (sG 11 0), .int (sG 12 0), .int (sG 13 0), .int (sG 14 0)])), (gA 2, .inl (ty 0, 2, .inl (sG 1))), (gA 3, .inl (ty 0, 2, .inl (sG 2))), (gA 4, .inl (ty 0, 6, .inl (sG 3))), (gA 5, .inl (ty 0, 6, .inl (sG 4))), (gA 6, .inl (ty 0, 30, .inl (sG 5))), (gA 7, .inl (ty 0, 32, .inl (sG 6))), (cA 0, .inr (8, [.ref (hA 0), .ref (cA 2)])), (cA 2, .inl (ty 0, 6, .inl (sC 1))), (kA 0, .inl (ty 3, 6, .inr (.inr (.inr (.inr (fun i => some (kA (i + 1)))))))), (kA 1, .inr (0, [])), (kA 2, .inr (1, [])), (kA 3, .inr (2, [])), (kA 4, .inr (3, [])), (kA 5, .inr (4, [])), (kA 6, .inr (5, []))]) (X := (xP ty hA po ++ xO ty kA o1)) 46 [0, 1, 25, 26, 27, 28, 29, 30, 31, 39, 40, 41, 42, 43, 44, 45] [2, 3, 4, 5, 6, 7, 8, 9, 10, 11, 12, 13, 14, 15, 16, 17, 18, 19, 20, 21, 22, 23, 24, 32, 33, 34, 35, 36, 37, 38] rfl (by decide) rfl rfl hw
      have hw : Wd D (fun q => s.heap.size ≤ q) (LL ty fA mA rA gA cA hA kA po (some (oA, tO)) o1 sF sM sN sR sG sC sH) H := Wd.perm (hw : Wd D (fun q => s.heap.size ≤ q) (((L_fimrgchk ty fA mA rA gA cA hA kA (pvO po) sF (imO (some (oA, tO)) o1) sM sN sR sG sC sH) ++ L_o ty oA kA tO) ++ (xP ty hA po ++ xO ty kA o1)) H) pmA.symm
      refine lv_aload_n hx hb d_Law_law_984 rfl (lv_at hl 2 rfl) ?_
      refine lv_aload_n hx hb d_Law_law_985 rfl (lv_at hl 0 rfl) ?_
      refine lv_iload_n hx hb d_Law_law_986 rfl (lv_at hl 3 rfl) ?_
      refine lv_iconst (v := (1 : Int32)) hx hb d_Law_law_987 (by decide) ?_
      refine lv_iadd hx hb d_Law_law_988 ?_
      refine va_sld hx hb hX hbl hbA hS (vp_j 1 rfl (by omega) hL) d_Law_law_989 ?_
      refine vX (B := (L_fimrgchk ty fA mA rA gA cA hA kA (pvO po) sF (imO (some (oA, tO)) o1) sM sN sR sG sC sH)) (B' := (L_fimrgchk ty fA mA rA gA cA hA kA (pvO po) sF (imO (some (oA, tO)) o1) tM tN sR sG sC sH)) (Lc := (L_m ty mA sM sN)) (Lc' := (L_m ty mA tM tN)) (rest := [.int rr]) C0 (c_Model_image l D ty mA H.size sM sN (xs (nI i + (1 : Int32)).toNatClampNeg) rr tM tN e2) PcM.blind k_1099 cal_Model_image hw hS hAb [2, 3, 4, 5, 6, 7, 8, 9, 10, 11, 12, 13] rfl (by decide) rfl rfl (fun hPc => va_recv hK.1 hPc (ci := 11) (q0 := 0) rfl rfl) (fun hPc hDc hF U hU hW => ⟨rfl, by rw [hU], by rw [hU]; exact hPc, hK.warm hW, hDc⟩) ⟨by decide, by decide⟩ rfl rfl rfl hl.1 rfl (Nat.le_of_ble_eq_true rfl) d_Law_law_990 ⟨by show _ ≤ 600000; omega, by show _ ≤ 7302250; omega⟩ rfl (fun H locs hw hS => ?_)
      refine lv_icmp_eq (tgt := 1081) hx hb d_Law_law_993 (by decide) (fun _ => ?_) (fun q => absurd rfl q)
      exact hN po (some (oA, tO)) o1 _ _ _ _ _ _ _ _ _ ls _ _ hRel hw hS hl (by omega) (by omega)
    · obtain ⟨tF, tO, e1, hRel⟩ := (hq (imO (some (oA, sO)) o1)).1 sO rfl
      have hw : Wd D (fun q => s.heap.size ≤ q) (((L_fimrgchk ty fA mA rA gA cA hA kA (pvO po) sF (imO (some (oA, sO)) o1) sM sN sR sG sC sH) ++ L_o ty oA kA sO) ++ (xP ty hA po ++ xO ty kA o1)) H := hw.perm pmA
      refine vX (B := ((L_fimrgchk ty fA mA rA gA cA hA kA (pvO po) sF (imO (some (oA, sO)) o1) sM sN sR sG sC sH) ++ L_o ty oA kA sO)) (B' := ((L_fimrgchk ty fA mA rA gA cA hA kA (pvO po) tF (imO (some (oA, sO)) o1) sM sN sR sG sC sH) ++ L_o ty oA kA tO)) (Lc := (L_fiho ty fA rA cA hA oA kA (pvO po) sF (imO (some (oA, sO)) o1) sH sO)) (Lc' := (L_fiho ty fA rA cA hA oA kA (pvO po) tF (imO (some (oA, sO)) o1) sH tO)) (rest := []) C0 (c_Face_image_p l D ty fA rA cA hA oA kA (pvO po) H.size sF (imO (some (oA, sO)) o1) sH sO (xs (nI i + (1 : Int32)).toNatClampNeg) rr tF tO (fun _ => by rw [h0]; rfl) e1) PcM.blind k_731 cal_Face_image hw hS hAb [0, 1, 25, 26, 27, 28, 29, 30, 31, 39, 40, 41, 42, 43, 44, 45] rfl (by decide) rfl rfl (fun hPc => va_recv hK.1 hPc (ci := 10) (q0 := 0) rfl rfl) (fun hPc hDc hF U hU hW => ⟨rfl, by rw [hU], by rw [hU]; exact hPc, hK.warm hW, hDc⟩) ⟨by decide, by decide⟩ rfl rfl rfl hl.1 rfl (Nat.le_of_ble_eq_true rfl) d_Law_law_981 ⟨by show _ ≤ 600000; omega, by show _ ≤ 7302250; omega⟩ rfl (fun H locs hw hS => ?_)
      have hw : Wd D (fun q => s.heap.size ≤ q) (LL ty fA mA rA gA cA hA kA po (some (oA, tO)) o1 tF sM sN sR sG sC sH) H := Wd.perm (hw : Wd D (fun q => s.heap.size ≤ q) (((L_fimrgchk ty fA mA rA gA cA hA kA (pvO po) tF (imO (some (oA, tO)) o1) sM sN sR sG sC sH) ++ L_o ty oA kA tO) ++ (xP ty hA po ++ xO ty kA o1)) H) pmA.symm
      refine lv_aload_n hx hb d_Law_law_984 rfl (lv_at hl 2 rfl) ?_
      refine lv_aload_n hx hb d_Law_law_985 rfl (lv_at hl 0 rfl) ?_
      refine lv_iload_n hx hb d_Law_law_986 rfl (lv_at hl 3 rfl) ?_
      refine lv_iconst (v := (1 : Int32)) hx hb d_Law_law_987 (by decide) ?_
      refine lv_iadd hx hb d_Law_law_988 ?_
      refine va_sld hx hb hX hbl hbA hS (vp_j 1 rfl (by omega) hL) d_Law_law_989 ?_
      refine vX (B := (L_fimrgchk ty fA mA rA gA cA hA kA (pvO po) tF (imO (some (oA, tO)) o1) sM sN sR sG sC sH)) (B' := (L_fimrgchk ty fA mA rA gA cA hA kA (pvO po) tF (imO (some (oA, tO)) o1) tM tN sR sG sC sH)) (Lc := (L_m ty mA sM sN)) (Lc' := (L_m ty mA tM tN)) (rest := [.int rr]) C0 (c_Model_image l D ty mA H.size sM sN (xs (nI i + (1 : Int32)).toNatClampNeg) rr tM tN e2) PcM.blind k_1099 cal_Model_image hw hS hAb [2, 3, 4, 5, 6, 7, 8, 9, 10, 11, 12, 13] rfl (by decide) rfl rfl (fun hPc => va_recv hK.1 hPc (ci := 11) (q0 := 0) rfl rfl) (fun hPc hDc hF U hU hW => ⟨rfl, by rw [hU], by rw [hU]; exact hPc, hK.warm hW, hDc⟩) ⟨by decide, by decide⟩ rfl rfl rfl hl.1 rfl (Nat.le_of_ble_eq_true rfl) d_Law_law_990 ⟨by show _ ≤ 600000; omega, by show _ ≤ 7302250; omega⟩ rfl (fun H locs hw hS => ?_)
      refine lv_icmp_eq (tgt := 1081) hx hb d_Law_law_993 (by decide) (fun _ => ?_) (fun q => absurd rfl q)
      exact hN po (some (oA, tO)) o1 _ _ _ _ _ _ _ _ _ ls _ _ hRel hw hS hl (by omega) (by omega)
  · rcases o1 with _ | ⟨oA, sO⟩
    · obtain ⟨tO, e1, hRel⟩ := (hq (imO o0 none)).2 rfl
      have hw : Wd D (fun q => s.heap.size ≤ q) ((L_fimrgchk ty fA mA rA gA cA hA kA (pvO po) sF (imO o0 none) sM sN sR sG sC sH) ++ (xP ty hA po ++ xO ty kA o0)) H := by have h7 : Wd D (fun q => s.heap.size ≤ q) ((L_fimrgchk ty fA mA rA gA cA hA kA (pvO po) sF (imO o0 none) sM sN sR sG sC sH) ++ (xP ty hA po ++ (xO ty kA o0 ++ []))) H := hw; rw [List.append_nil] at h7; exact h7
      refine vP (Lc := (L_fih ty fA rA cA hA kA (pvO po) sF (imO o0 none) sH)) (Lr := [(mA 0, .inr (11, [.ref (mA 1), .long (sN 1), .long (sN 2), .ref (mA 4), .ref (mA 5), .int (sM 5 0), .int (sM 6 0), .int (sM 7 0), .int (sM 8 0), .int (sM 9 0), .ref (mA 11), .int (sM 11 0), .int (sM 12 0), .ref (mA 14), .int (sM 14 0), .ref (mA 16), .ref (mA 17), .long (sN 17), .ref (mA 19), .ref (mA 20), .ref (mA 21), .ref (mA 22)])), (mA 1, .inl (ty 0, 53, .inl (sM 0))), (mA 4, .inl (ty 0, 3, .inl (sM 3))), (mA 5, .inl (ty 0, 150, .inl (sM 4))), (mA 11, .inl (ty 0, 2, .inl (sM 10))), (mA 14, .inl (ty 0, 32, .inl (sM 13))), (mA 16, .inl (ty 0, 3200, .inl (sM 15))), (mA 17, .inl (ty 0, 4, .inl (sM 16))), (mA 19, .inl (ty 2, 2, .inl (sM 18))), (mA 20, .inl (ty 0, 106, .inl (sM 19))), (mA 21, .inl (ty 0, 64, .inl (sM 20))), (mA 22, .inl (ty 0, 2, .inl (sM 21))), (rA 0, .inr (7, [.ref (gA 0), .ref (rA 2), .int (sR 2 0), .int (sR 3 0), .int (sR 4 0), .int (sR 5 0), .int (sR 6 0)])), (rA 2, .inl (ty 1, 150, .inl (sR 1))), (gA 0, .inr (6, [.ref (kA 0), .ref (gA 2), .ref (gA 3), .ref (gA 4), .ref (gA 5), .ref (gA 6), .ref (gA 7), .int (sG 7 0), .int (sG 8 0), .int (sG 9 0), .int (sG 10 0), .int (sG 11 0), .int (sG 12 0), .int (sG 13 0), .int (sG 14 0)])), (gA 2, .inl (ty 0, 2, .inl (sG 1))), (gA 3, .inl (ty 0, 2, .inl (sG 2))), (gA 4, .inl (ty 0, 6, .inl (sG 3))), (gA 5, .inl (ty 0, 6, .inl (sG 4))), (gA 6, .inl (ty 0, 30, .inl (sG 5))), (gA 7, .inl (ty 0, 32, .inl (sG 6))), (cA 0, .inr (8, [.ref (hA 0), .ref (cA 2)])), (cA 2, .inl (ty 0, 6, .inl (sC 1))), (kA 0, .inl (ty 3, 6, .inr (.inr (.inr (.inr (fun i => some (kA (i + 1)))))))), (kA 1, .inr (0, [])), (kA 2, .inr (1, [])), (kA 3, .inr (2, [])), (kA 4, .inr (3, [])), (kA 5, .inr (4, [])), (kA 6, .inr (5, []))] ++ (xP ty hA po ++ xO ty kA o0)) (rest := []) C0 (c_Face_image_a l D ty fA rA cA hA kA (pvO po) H.size sF (imO o0 none) sH (xs (nI i + (1 : Int32)).toNatClampNeg) rr tO (fun _ => by rw [h0]; rfl) e1) PcM.blind k_731 cal_Face_image hw hS hAb (permP 39 [0, 1, 25, 26, 27, 28, 29, 30, 31] [2, 3, 4, 5, 6, 7, 8, 9, 10, 11, 12, 13, 14, 15, 16, 17, 18, 19, 20, 21, 22, 23, 24, 32, 33, 34, 35, 36, 37, 38] rfl (by decide) rfl rfl) (fun hPc => va_recv hK.1 hPc (ci := 10) (q0 := 0) rfl rfl) (fun hPc hDc U hU hW => ⟨rfl, by rw [hU], by rw [hU]; exact hPc, hK.warm hW, hDc⟩) ⟨by decide, by decide⟩ rfl rfl rfl hl.1 rfl (Nat.le_of_ble_eq_true rfl) d_Law_law_981 ⟨by show _ ≤ 600000; omega, by show _ ≤ 7302250; omega⟩ rfl (fun H locs hN2 hJ hS => ?_)
      obtain ⟨oA, hP1, hD1⟩ := hN2
      have hw := hJ _ hP1 hD1
      rw [show va_up (imO o0 none) ((xs (nI i + (1 : Int32)).toNatClampNeg)).toNatClampNeg (some (oA 0)) = imO o0 (some (oA, tO)) from by rw [h0]; exact im_up1] at hw
      have hw : Wd D (fun q => s.heap.size ≤ q) (((L_fimrgchk ty fA mA rA gA cA hA kA (pvO po) sF (imO o0 (some (oA, tO))) sM sN sR sG sC sH) ++ L_o ty oA kA tO) ++ (xP ty hA po ++ xO ty kA o0)) H := permQ (B := ((L_fimrgchk ty fA mA rA gA cA hA kA (pvO po) sF (imO o0 (some (oA, tO))) sM sN sR sG sC sH) ++ L_o ty oA kA tO)) (Lc := _) (Lr := [(mA 0, .inr (11, [.ref (mA 1), .long (sN 1), .long (sN 2), .ref (mA 4), .ref (mA 5), .int (sM 5 0), .int (sM 6 0), .int (sM 7 0), .int (sM 8 0), .int (sM 9 0), .ref (mA 11), .int (sM 11 0), .int (sM 12 0), .ref (mA 14), .int (sM 14 0), .ref (mA 16), .ref (mA 17), .long (sN 17), .ref (mA 19), .ref (mA 20), .ref (mA 21), .ref (mA 22)])), (mA 1, .inl (ty 0, 53, .inl (sM 0))), (mA 4, .inl (ty 0, 3, .inl (sM 3))), (mA 5, .inl (ty 0, 150, .inl (sM 4))), (mA 11, .inl (ty 0, 2, .inl (sM 10))), (mA 14, .inl (ty 0, 32, .inl (sM 13))), (mA 16, .inl (ty 0, 3200, .inl (sM 15))), (mA 17, .inl (ty 0, 4, .inl (sM 16))), (mA 19, .inl (ty 2, 2, .inl (sM 18))), (mA 20, .inl (ty 0, 106, .inl (sM 19))), (mA 21, .inl (ty 0, 64, .inl (sM 20))), (mA 22, .inl (ty 0, 2, .inl (sM 21))), (rA 0, .inr (7, [.ref (gA 0), .ref (rA 2), .int (sR 2 0), .int (sR 3 0), .int (sR 4 0), .int (sR 5 0), .int (sR 6 0)])), (rA 2, .inl (ty 1, 150, .inl (sR 1))), (gA 0, .inr (6, [.ref (kA 0), .ref (gA 2), .ref (gA 3), .ref (gA 4), .ref (gA 5), .ref (gA 6), .ref (gA 7), .int (sG 7 0), .int (sG 8 0), .int (sG 9 0), .int (sG 10 0), .int (sG 11 0), .int (sG 12 0), .int (sG 13 0), .int (sG 14 0)])), (gA 2, .inl (ty 0, 2, .inl (sG 1))), (gA 3, .inl (ty 0, 2, .inl (sG 2))), (gA 4, .inl (ty 0, 6, .inl (sG 3))), (gA 5, .inl (ty 0, 6, .inl (sG 4))), (gA 6, .inl (ty 0, 30, .inl (sG 5))), (gA 7, .inl (ty 0, 32, .inl (sG 6))), (cA 0, .inr (8, [.ref (hA 0), .ref (cA 2)])), (cA 2, .inl (ty 0, 6, .inl (sC 1))), (kA 0, .inl (ty 3, 6, .inr (.inr (.inr (.inr (fun i => some (kA (i + 1)))))))), (kA 1, .inr (0, [])), (kA 2, .inr (1, [])), (kA 3, .inr (2, [])), (kA 4, .inr (3, [])), (kA 5, .inr (4, [])), (kA 6, .inr (5, []))]) (X := (xP ty hA po ++ xO ty kA o0)) 46 [0, 1, 25, 26, 27, 28, 29, 30, 31, 39, 40, 41, 42, 43, 44, 45] [2, 3, 4, 5, 6, 7, 8, 9, 10, 11, 12, 13, 14, 15, 16, 17, 18, 19, 20, 21, 22, 23, 24, 32, 33, 34, 35, 36, 37, 38] rfl (by decide) rfl rfl hw
      have hw : Wd D (fun q => s.heap.size ≤ q) (LL ty fA mA rA gA cA hA kA po o0 (some (oA, tO)) sF sM sN sR sG sC sH) H := Wd.perm (hw : Wd D (fun q => s.heap.size ≤ q) (((L_fimrgchk ty fA mA rA gA cA hA kA (pvO po) sF (imO o0 (some (oA, tO))) sM sN sR sG sC sH) ++ L_o ty oA kA tO) ++ (xP ty hA po ++ xO ty kA o0)) H) pmB.symm
      refine lv_aload_n hx hb d_Law_law_984 rfl (lv_at hl 2 rfl) ?_
      refine lv_aload_n hx hb d_Law_law_985 rfl (lv_at hl 0 rfl) ?_
      refine lv_iload_n hx hb d_Law_law_986 rfl (lv_at hl 3 rfl) ?_
      refine lv_iconst (v := (1 : Int32)) hx hb d_Law_law_987 (by decide) ?_
      refine lv_iadd hx hb d_Law_law_988 ?_
      refine va_sld hx hb hX hbl hbA hS (vp_j 1 rfl (by omega) hL) d_Law_law_989 ?_
      refine vX (B := (L_fimrgchk ty fA mA rA gA cA hA kA (pvO po) sF (imO o0 (some (oA, tO))) sM sN sR sG sC sH)) (B' := (L_fimrgchk ty fA mA rA gA cA hA kA (pvO po) sF (imO o0 (some (oA, tO))) tM tN sR sG sC sH)) (Lc := (L_m ty mA sM sN)) (Lc' := (L_m ty mA tM tN)) (rest := [.int rr]) C0 (c_Model_image l D ty mA H.size sM sN (xs (nI i + (1 : Int32)).toNatClampNeg) rr tM tN e2) PcM.blind k_1099 cal_Model_image hw hS hAb [2, 3, 4, 5, 6, 7, 8, 9, 10, 11, 12, 13] rfl (by decide) rfl rfl (fun hPc => va_recv hK.1 hPc (ci := 11) (q0 := 0) rfl rfl) (fun hPc hDc hF U hU hW => ⟨rfl, by rw [hU], by rw [hU]; exact hPc, hK.warm hW, hDc⟩) ⟨by decide, by decide⟩ rfl rfl rfl hl.1 rfl (Nat.le_of_ble_eq_true rfl) d_Law_law_990 ⟨by show _ ≤ 600000; omega, by show _ ≤ 7302250; omega⟩ rfl (fun H locs hw hS => ?_)
      refine lv_icmp_eq (tgt := 1081) hx hb d_Law_law_993 (by decide) (fun _ => ?_) (fun q => absurd rfl q)
      exact hN po o0 (some (oA, tO)) _ _ _ _ _ _ _ _ _ ls _ _ hRel hw hS hl (by omega) (by omega)
    · obtain ⟨tF, tO, e1, hRel⟩ := (hq (imO o0 (some (oA, sO)))).1 sO rfl
      have hw : Wd D (fun q => s.heap.size ≤ q) (((L_fimrgchk ty fA mA rA gA cA hA kA (pvO po) sF (imO o0 (some (oA, sO))) sM sN sR sG sC sH) ++ L_o ty oA kA sO) ++ (xP ty hA po ++ xO ty kA o0)) H := hw.perm pmB
      refine vX (B := ((L_fimrgchk ty fA mA rA gA cA hA kA (pvO po) sF (imO o0 (some (oA, sO))) sM sN sR sG sC sH) ++ L_o ty oA kA sO)) (B' := ((L_fimrgchk ty fA mA rA gA cA hA kA (pvO po) tF (imO o0 (some (oA, sO))) sM sN sR sG sC sH) ++ L_o ty oA kA tO)) (Lc := (L_fiho ty fA rA cA hA oA kA (pvO po) sF (imO o0 (some (oA, sO))) sH sO)) (Lc' := (L_fiho ty fA rA cA hA oA kA (pvO po) tF (imO o0 (some (oA, sO))) sH tO)) (rest := []) C0 (c_Face_image_p l D ty fA rA cA hA oA kA (pvO po) H.size sF (imO o0 (some (oA, sO))) sH sO (xs (nI i + (1 : Int32)).toNatClampNeg) rr tF tO (fun _ => by rw [h0]; rfl) e1) PcM.blind k_731 cal_Face_image hw hS hAb [0, 1, 25, 26, 27, 28, 29, 30, 31, 39, 40, 41, 42, 43, 44, 45] rfl (by decide) rfl rfl (fun hPc => va_recv hK.1 hPc (ci := 10) (q0 := 0) rfl rfl) (fun hPc hDc hF U hU hW => ⟨rfl, by rw [hU], by rw [hU]; exact hPc, hK.warm hW, hDc⟩) ⟨by decide, by decide⟩ rfl rfl rfl hl.1 rfl (Nat.le_of_ble_eq_true rfl) d_Law_law_981 ⟨by show _ ≤ 600000; omega, by show _ ≤ 7302250; omega⟩ rfl (fun H locs hw hS => ?_)
      have hw : Wd D (fun q => s.heap.size ≤ q) (LL ty fA mA rA gA cA hA kA po o0 (some (oA, tO)) tF sM sN sR sG sC sH) H := Wd.perm (hw : Wd D (fun q => s.heap.size ≤ q) (((L_fimrgchk ty fA mA rA gA cA hA kA (pvO po) tF (imO o0 (some (oA, tO))) sM sN sR sG sC sH) ++ L_o ty oA kA tO) ++ (xP ty hA po ++ xO ty kA o0)) H) pmB.symm
      refine lv_aload_n hx hb d_Law_law_984 rfl (lv_at hl 2 rfl) ?_
      refine lv_aload_n hx hb d_Law_law_985 rfl (lv_at hl 0 rfl) ?_
      refine lv_iload_n hx hb d_Law_law_986 rfl (lv_at hl 3 rfl) ?_
      refine lv_iconst (v := (1 : Int32)) hx hb d_Law_law_987 (by decide) ?_
      refine lv_iadd hx hb d_Law_law_988 ?_
      refine va_sld hx hb hX hbl hbA hS (vp_j 1 rfl (by omega) hL) d_Law_law_989 ?_
      refine vX (B := (L_fimrgchk ty fA mA rA gA cA hA kA (pvO po) tF (imO o0 (some (oA, tO))) sM sN sR sG sC sH)) (B' := (L_fimrgchk ty fA mA rA gA cA hA kA (pvO po) tF (imO o0 (some (oA, tO))) tM tN sR sG sC sH)) (Lc := (L_m ty mA sM sN)) (Lc' := (L_m ty mA tM tN)) (rest := [.int rr]) C0 (c_Model_image l D ty mA H.size sM sN (xs (nI i + (1 : Int32)).toNatClampNeg) rr tM tN e2) PcM.blind k_1099 cal_Model_image hw hS hAb [2, 3, 4, 5, 6, 7, 8, 9, 10, 11, 12, 13] rfl (by decide) rfl rfl (fun hPc => va_recv hK.1 hPc (ci := 11) (q0 := 0) rfl rfl) (fun hPc hDc hF U hU hW => ⟨rfl, by rw [hU], by rw [hU]; exact hPc, hK.warm hW, hDc⟩) ⟨by decide, by decide⟩ rfl rfl rfl hl.1 rfl (Nat.le_of_ble_eq_true rfl) d_Law_law_990 ⟨by show _ ≤ 600000; omega, by show _ ≤ 7302250; omega⟩ rfl (fun H locs hw hS => ?_)
      refine lv_icmp_eq (tgt := 1081) hx hb d_Law_law_993 (by decide) (fun _ => ?_) (fun q => absurd rfl q)
      exact hN po o0 (some (oA, tO)) _ _ _ _ _ _ _ _ _ ls _ _ hRel hw hS hl (by omega) (by omega)
set_option maxHeartbeats 4000000 in
set_option maxRecDepth 100000 in
theorem lc_from {p : Program} {l : Launch} {e : Env} {s : State} {m : MethodId} {below : List Frame} {meth : Method} {c : Code} {b L : Nat} {xs : Nat → Int32} {D : va_G} {ty : Nat → ClassId} {fA mA rA gA cA hA kA aK aV : Nat → Nat} {Rel : Relt} {i : Nat} (hC : LC p s m meth c b L xs D ty aK aV) (hN : Nx p l e s m below meth c b D ty fA mA rA gA cA hA kA Rel 1081 i (1010 + 10 * i) (14000 + 4000 * i)) (hi : i + 6 ≤ L) (op : Op_from Rel) : Nx p l e s m below meth c b D ty fA mA rA gA cA hA kA Rel 998 i (1000 + 10 * i) (10000 + 4000 * i) := by
  intro po o0 o1 sF sM sN sR sG sC sH H locs ls cells slots hRel hw hS hl hcb hsb
  obtain ⟨C0, hK, hT, hX, hbl, hL⟩ := id hC
  obtain ⟨hx, hb, hr, hlk, hml, hown, htt⟩ := id C0
  have hbA : ¬ (fun q => s.heap.size ≤ q) b := Nat.not_le.mpr hbl
  obtain ⟨rr, tM, tN, e2, hq⟩ := op _ _ _ _ _ _ _ hRel (xs (nI i + (1 : Int32)).toNatClampNeg)
  refine lv_aload_n hx hb d_Law_law_998 rfl (lv_at hl 1 rfl) ?_
  refine lv_aload_n hx hb d_Law_law_999 rfl (lv_at hl 0 rfl) ?_
  refine lv_iload_n hx hb d_Law_law_1000 rfl (lv_at hl 3 rfl) ?_
  refine lv_iconst (v := (1 : Int32)) hx hb d_Law_law_1001 (by decide) ?_
  refine lv_iadd hx hb d_Law_law_1002 ?_
  refine va_sld hx hb hX hbl hbA hS (vp_j 1 rfl (by omega) hL) d_Law_law_1003 ?_
  rcases hq with ⟨h0, sO, hi0, hq⟩ | ⟨h0, sO, hi0, hq⟩ | ⟨hi0, hi1, hq⟩
  · rcases o0 with _ | ⟨oA, sO2⟩
    · cases hi0
    · obtain rfl : sO2 = sO := Option.some.inj hi0
      obtain ⟨tF, tH, e1, hRel⟩ := hq (imO (some (oA, sO2)) o1)
      have hw : Wd D (fun q => s.heap.size ≤ q) (((L_fimrgchk ty fA mA rA gA cA hA kA (pvO po) sF (imO (some (oA, sO2)) o1) sM sN sR sG sC sH) ++ L_o ty oA kA sO2) ++ (xP ty hA po ++ xO ty kA o1)) H := hw.perm pmA
      refine vX (B := ((L_fimrgchk ty fA mA rA gA cA hA kA (pvO po) sF (imO (some (oA, sO2)) o1) sM sN sR sG sC sH) ++ L_o ty oA kA sO2)) (B' := ((L_fimrgchk ty fA mA rA gA cA hA kA (pvO po) tF (imO (some (oA, sO2)) o1) sM sN sR sG sC tH) ++ L_o ty oA kA sO2)) (Lc := (L_fiho ty fA rA cA hA oA kA (pvO po) sF (imO (some (oA, sO2)) o1) sH sO2)) (Lc' := (L_fiho ty fA rA cA hA oA kA (pvO po) tF (imO (some (oA, sO2)) o1) tH sO2)) (rest := []) C0 (c_Face_from_p l D ty fA rA cA hA oA kA (pvO po) H.size sF (imO (some (oA, sO2)) o1) sH sO2 (xs (nI i + (1 : Int32)).toNatClampNeg) rr tF tH (fun _ => by rw [h0]; rfl) e1) PcM.blind k_735 cal_Face_from hw hS hAb [0, 1, 25, 26, 27, 28, 29, 30, 31, 39, 40, 41, 42, 43, 44, 45] rfl (by decide) rfl rfl (fun hPc => va_recv hK.1 hPc (ci := 10) (q0 := 0) rfl rfl) (fun hPc hDc hF U hU hW => ⟨rfl, by rw [hU], by rw [hU]; exact hPc, hK.warm hW, hDc⟩) ⟨by decide, by decide⟩ rfl rfl rfl hl.1 rfl (Nat.le_of_ble_eq_true rfl) d_Law_law_1004 ⟨by show _ ≤ 600000; omega, by show _ ≤ 7302250; omega⟩ rfl (fun H locs hw hS => ?_)
      have hw : Wd D (fun q => s.heap.size ≤ q) (LL ty fA mA rA gA cA hA kA po (some (oA, sO2)) o1 tF sM sN sR sG sC tH) H := Wd.perm (hw : Wd D (fun q => s.heap.size ≤ q) (((L_fimrgchk ty fA mA rA gA cA hA kA (pvO po) tF (imO (some (oA, sO2)) o1) sM sN sR sG sC tH) ++ L_o ty oA kA sO2) ++ (xP ty hA po ++ xO ty kA o1)) H) pmA.symm
      refine lv_aload_n hx hb d_Law_law_1007 rfl (lv_at hl 2 rfl) ?_
      refine lv_aload_n hx hb d_Law_law_1008 rfl (lv_at hl 0 rfl) ?_
      refine lv_iload_n hx hb d_Law_law_1009 rfl (lv_at hl 3 rfl) ?_
      refine lv_iconst (v := (1 : Int32)) hx hb d_Law_law_1010 (by decide) ?_
      refine lv_iadd hx hb d_Law_law_1011 ?_
      refine va_sld hx hb hX hbl hbA hS (vp_j 1 rfl (by omega) hL) d_Law_law_1012 ?_
      refine vX (B := (L_fimrgchk ty fA mA rA gA cA hA kA (pvO po) tF (imO (some (oA, sO2)) o1) sM sN sR sG sC tH)) (B' := (L_fimrgchk ty fA mA rA gA cA hA kA (pvO po) tF (imO (some (oA, sO2)) o1) tM tN sR sG sC tH)) (Lc := (L_m ty mA sM sN)) (Lc' := (L_m ty mA tM tN)) (rest := [.int rr]) C0 (c_Model_from l D ty mA H.size sM sN (xs (nI i + (1 : Int32)).toNatClampNeg) rr tM tN e2) PcM.blind k_1103 cal_Model_from hw hS hAb [2, 3, 4, 5, 6, 7, 8, 9, 10, 11, 12, 13] rfl (by decide) rfl rfl (fun hPc => va_recv hK.1 hPc (ci := 11) (q0 := 0) rfl rfl) (fun hPc hDc hF U hU hW => ⟨rfl, by rw [hU], by rw [hU]; exact hPc, hK.warm hW, hDc⟩) ⟨by decide, by decide⟩ rfl rfl rfl hl.1 rfl (Nat.le_of_ble_eq_true rfl) d_Law_law_1013 ⟨by show _ ≤ 600000; omega, by show _ ≤ 7302250; omega⟩ rfl (fun H locs hw hS => ?_)
      refine lv_icmp_eq (tgt := 1081) hx hb d_Law_law_1016 (by decide) (fun _ => ?_) (fun q => absurd rfl q)
      exact hN po (some (oA, sO2)) o1 _ _ _ _ _ _ _ _ _ ls _ _ hRel hw hS hl (by omega) (by omega)
  · rcases o1 with _ | ⟨oA, sO2⟩
    · cases hi0
    · obtain rfl : sO2 = sO := Option.some.inj hi0
      obtain ⟨tF, tH, e1, hRel⟩ := hq (imO o0 (some (oA, sO2)))
      have hw : Wd D (fun q => s.heap.size ≤ q) (((L_fimrgchk ty fA mA rA gA cA hA kA (pvO po) sF (imO o0 (some (oA, sO2))) sM sN sR sG sC sH) ++ L_o ty oA kA sO2) ++ (xP ty hA po ++ xO ty kA o0)) H := hw.perm pmB
      refine vX (B := ((L_fimrgchk ty fA mA rA gA cA hA kA (pvO po) sF (imO o0 (some (oA, sO2))) sM sN sR sG sC sH) ++ L_o ty oA kA sO2)) (B' := ((L_fimrgchk ty fA mA rA gA cA hA kA (pvO po) tF (imO o0 (some (oA, sO2))) sM sN sR sG sC tH) ++ L_o ty oA kA sO2)) (Lc := (L_fiho ty fA rA cA hA oA kA (pvO po) sF (imO o0 (some (oA, sO2))) sH sO2)) (Lc' := (L_fiho ty fA rA cA hA oA kA (pvO po) tF (imO o0 (some (oA, sO2))) tH sO2)) (rest := []) C0 (c_Face_from_p l D ty fA rA cA hA oA kA (pvO po) H.size sF (imO o0 (some (oA, sO2))) sH sO2 (xs (nI i + (1 : Int32)).toNatClampNeg) rr tF tH (fun _ => by rw [h0]; rfl) e1) PcM.blind k_735 cal_Face_from hw hS hAb [0, 1, 25, 26, 27, 28, 29, 30, 31, 39, 40, 41, 42, 43, 44, 45] rfl (by decide) rfl rfl (fun hPc => va_recv hK.1 hPc (ci := 10) (q0 := 0) rfl rfl) (fun hPc hDc hF U hU hW => ⟨rfl, by rw [hU], by rw [hU]; exact hPc, hK.warm hW, hDc⟩) ⟨by decide, by decide⟩ rfl rfl rfl hl.1 rfl (Nat.le_of_ble_eq_true rfl) d_Law_law_1004 ⟨by show _ ≤ 600000; omega, by show _ ≤ 7302250; omega⟩ rfl (fun H locs hw hS => ?_)
      have hw : Wd D (fun q => s.heap.size ≤ q) (LL ty fA mA rA gA cA hA kA po o0 (some (oA, sO2)) tF sM sN sR sG sC tH) H := Wd.perm (hw : Wd D (fun q => s.heap.size ≤ q) (((L_fimrgchk ty fA mA rA gA cA hA kA (pvO po) tF (imO o0 (some (oA, sO2))) sM sN sR sG sC tH) ++ L_o ty oA kA sO2) ++ (xP ty hA po ++ xO ty kA o0)) H) pmB.symm
      refine lv_aload_n hx hb d_Law_law_1007 rfl (lv_at hl 2 rfl) ?_
      refine lv_aload_n hx hb d_Law_law_1008 rfl (lv_at hl 0 rfl) ?_
      refine lv_iload_n hx hb d_Law_law_1009 rfl (lv_at hl 3 rfl) ?_
      refine lv_iconst (v := (1 : Int32)) hx hb d_Law_law_1010 (by decide) ?_
      refine lv_iadd hx hb d_Law_law_1011 ?_
      refine va_sld hx hb hX hbl hbA hS (vp_j 1 rfl (by omega) hL) d_Law_law_1012 ?_
      refine vX (B := (L_fimrgchk ty fA mA rA gA cA hA kA (pvO po) tF (imO o0 (some (oA, sO2))) sM sN sR sG sC tH)) (B' := (L_fimrgchk ty fA mA rA gA cA hA kA (pvO po) tF (imO o0 (some (oA, sO2))) tM tN sR sG sC tH)) (Lc := (L_m ty mA sM sN)) (Lc' := (L_m ty mA tM tN)) (rest := [.int rr]) C0 (c_Model_from l D ty mA H.size sM sN (xs (nI i + (1 : Int32)).toNatClampNeg) rr tM tN e2) PcM.blind k_1103 cal_Model_from hw hS hAb [2, 3, 4, 5, 6, 7, 8, 9, 10, 11, 12, 13] rfl (by decide) rfl rfl (fun hPc => va_recv hK.1 hPc (ci := 11) (q0 := 0) rfl rfl) (fun hPc hDc hF U hU hW => ⟨rfl, by rw [hU], by rw [hU]; exact hPc, hK.warm hW, hDc⟩) ⟨by decide, by decide⟩ rfl rfl rfl hl.1 rfl (Nat.le_of_ble_eq_true rfl) d_Law_law_1013 ⟨by show _ ≤ 600000; omega, by show _ ≤ 7302250; omega⟩ rfl (fun H locs hw hS => ?_)
      refine lv_icmp_eq (tgt := 1081) hx hb d_Law_law_1016 (by decide) (fun _ => ?_) (fun q => absurd rfl q)
      exact hN po o0 (some (oA, sO2)) _ _ _ _ _ _ _ _ _ ls _ _ hRel hw hS hl (by omega) (by omega)
  · obtain ⟨tF, e1, hRel⟩ := hq (imO o0 o1)
    refine vX (B := (L_fimrgchk ty fA mA rA gA cA hA kA (pvO po) sF (imO o0 o1) sM sN sR sG sC sH)) (B' := (L_fimrgchk ty fA mA rA gA cA hA kA (pvO po) tF (imO o0 o1) sM sN sR sG sC sH)) (Lc := (L_fi ty fA rA cA hA (pvO po) sF (imO o0 o1))) (Lc' := (L_fi ty fA rA cA hA (pvO po) tF (imO o0 o1))) (rest := []) C0 (c_Face_from_n l D ty fA rA cA hA (pvO po) H.size sF (imO o0 o1) (xs (nI i + (1 : Int32)).toNatClampNeg) rr tF (fun g => im_none g hi0 hi1) e1) PcM.blind k_735 cal_Face_from hw hS hAb [0, 1] rfl (by decide) rfl rfl (fun hPc => va_recv hK.1 hPc (ci := 10) (q0 := 0) rfl rfl) (fun hPc hDc hF U hU hW => ⟨rfl, by rw [hU], by rw [hU]; exact hPc, hK.warm hW, hDc⟩) ⟨by decide, by decide⟩ rfl rfl rfl hl.1 rfl (Nat.le_of_ble_eq_true rfl) d_Law_law_1004 ⟨by show _ ≤ 600000; omega, by show _ ≤ 7302250; omega⟩ rfl (fun H locs hw hS => ?_)
    refine lv_aload_n hx hb d_Law_law_1007 rfl (lv_at hl 2 rfl) ?_
    refine lv_aload_n hx hb d_Law_law_1008 rfl (lv_at hl 0 rfl) ?_
    refine lv_iload_n hx hb d_Law_law_1009 rfl (lv_at hl 3 rfl) ?_
    refine lv_iconst (v := (1 : Int32)) hx hb d_Law_law_1010 (by decide) ?_
    refine lv_iadd hx hb d_Law_law_1011 ?_
    refine va_sld hx hb hX hbl hbA hS (vp_j 1 rfl (by omega) hL) d_Law_law_1012 ?_
    refine vX (B := (L_fimrgchk ty fA mA rA gA cA hA kA (pvO po) tF (imO o0 o1) sM sN sR sG sC sH)) (B' := (L_fimrgchk ty fA mA rA gA cA hA kA (pvO po) tF (imO o0 o1) tM tN sR sG sC sH)) (Lc := (L_m ty mA sM sN)) (Lc' := (L_m ty mA tM tN)) (rest := [.int rr]) C0 (c_Model_from l D ty mA H.size sM sN (xs (nI i + (1 : Int32)).toNatClampNeg) rr tM tN e2) PcM.blind k_1103 cal_Model_from hw hS hAb [2, 3, 4, 5, 6, 7, 8, 9, 10, 11, 12, 13] rfl (by decide) rfl rfl (fun hPc => va_recv hK.1 hPc (ci := 11) (q0 := 0) rfl rfl) (fun hPc hDc hF U hU hW => ⟨rfl, by rw [hU], by rw [hU]; exact hPc, hK.warm hW, hDc⟩) ⟨by decide, by decide⟩ rfl rfl rfl hl.1 rfl (Nat.le_of_ble_eq_true rfl) d_Law_law_1013 ⟨by show _ ≤ 600000; omega, by show _ ≤ 7302250; omega⟩ rfl (fun H locs hw hS => ?_)
    refine lv_icmp_eq (tgt := 1081) hx hb d_Law_law_1016 (by decide) (fun _ => ?_) (fun q => absurd rfl q)
    exact hN po o0 o1 _ _ _ _ _ _ _ _ _ ls _ _ hRel hw hS hl (by omega) (by omega)
set_option maxHeartbeats 4000000 in
set_option maxRecDepth 100000 in
theorem lc_status {p : Program} {l : Launch} {e : Env} {s : State} {m : MethodId} {below : List Frame} {meth : Method} {c : Code} {b L : Nat} {xs : Nat → Int32} {D : va_G} {ty : Nat → ClassId} {fA mA rA gA cA hA kA aK aV : Nat → Nat} {Rel : Relt} {i : Nat} (hC : LC p s m meth c b L xs D ty aK aV) (hN : Nx p l e s m below meth c b D ty fA mA rA gA cA hA kA Rel 1081 i (1010 + 10 * i) (14000 + 4000 * i)) (hi : i + 6 ≤ L) (op : Op_status Rel) : Nx p l e s m below meth c b D ty fA mA rA gA cA hA kA Rel 1021 i (1000 + 10 * i) (10000 + 4000 * i) := by
  intro po o0 o1 sF sM sN sR sG sC sH H locs ls cells slots hRel hw hS hl hcb hsb
  obtain ⟨C0, hK, hT, hX, hbl, hL⟩ := id hC
  obtain ⟨hx, hb, hr, hlk, hml, hown, htt⟩ := id C0
  have hbA : ¬ (fun q => s.heap.size ≤ q) b := Nat.not_le.mpr hbl
  obtain ⟨rr, tF, tM, tN, e1, e2, hRel⟩ := op _ _ _ _ _ _ _ hRel (xs (nI i + (1 : Int32)).toNatClampNeg)
  refine lv_aload_n hx hb d_Law_law_1021 rfl (lv_at hl 1 rfl) ?_
  refine lv_aload_n hx hb d_Law_law_1022 rfl (lv_at hl 0 rfl) ?_
  refine lv_iload_n hx hb d_Law_law_1023 rfl (lv_at hl 3 rfl) ?_
  refine lv_iconst (v := (1 : Int32)) hx hb d_Law_law_1024 (by decide) ?_
  refine lv_iadd hx hb d_Law_law_1025 ?_
  refine va_sld hx hb hX hbl hbA hS (vp_j 1 rfl (by omega) hL) d_Law_law_1026 ?_
  refine vX (B := (L_fimrgchk ty fA mA rA gA cA hA kA (pvO po) sF (imO o0 o1) sM sN sR sG sC sH)) (B' := (L_fimrgchk ty fA mA rA gA cA hA kA (pvO po) tF (imO o0 o1) sM sN sR sG sC sH)) (Lc := (L_f ty fA rA cA hA (pvO po) sF)) (Lc' := (L_f ty fA rA cA hA (pvO po) tF)) (rest := []) C0 (c_Face_status l D ty fA rA cA hA (pvO po) H.size sF (xs (nI i + (1 : Int32)).toNatClampNeg) rr tF e1) PcM.blind k_739 cal_Face_status hw hS hAb [0] rfl (by decide) rfl rfl (fun hPc => va_recv hK.1 hPc (ci := 10) (q0 := 0) rfl rfl) (fun hPc hDc hF U hU hW => ⟨rfl, by rw [hU], by rw [hU]; exact hPc, hK.warm hW, hDc⟩) ⟨by decide, by decide⟩ rfl rfl rfl hl.1 rfl (Nat.le_of_ble_eq_true rfl) d_Law_law_1027 ⟨by show _ ≤ 600000; omega, by show _ ≤ 7302250; omega⟩ rfl (fun H locs hw hS => ?_)
  refine lv_aload_n hx hb d_Law_law_1030 rfl (lv_at hl 2 rfl) ?_
  refine lv_aload_n hx hb d_Law_law_1031 rfl (lv_at hl 0 rfl) ?_
  refine lv_iload_n hx hb d_Law_law_1032 rfl (lv_at hl 3 rfl) ?_
  refine lv_iconst (v := (1 : Int32)) hx hb d_Law_law_1033 (by decide) ?_
  refine lv_iadd hx hb d_Law_law_1034 ?_
  refine va_sld hx hb hX hbl hbA hS (vp_j 1 rfl (by omega) hL) d_Law_law_1035 ?_
  refine vX (B := (L_fimrgchk ty fA mA rA gA cA hA kA (pvO po) tF (imO o0 o1) sM sN sR sG sC sH)) (B' := (L_fimrgchk ty fA mA rA gA cA hA kA (pvO po) tF (imO o0 o1) tM tN sR sG sC sH)) (Lc := (L_m ty mA sM sN)) (Lc' := (L_m ty mA tM tN)) (rest := [.int rr]) C0 (c_Model_status l D ty mA H.size sM sN (xs (nI i + (1 : Int32)).toNatClampNeg) rr tM tN e2) PcM.blind k_1107 cal_Model_status hw hS hAb [2, 3, 4, 5, 6, 7, 8, 9, 10, 11, 12, 13] rfl (by decide) rfl rfl (fun hPc => va_recv hK.1 hPc (ci := 11) (q0 := 0) rfl rfl) (fun hPc hDc hF U hU hW => ⟨rfl, by rw [hU], by rw [hU]; exact hPc, hK.warm hW, hDc⟩) ⟨by decide, by decide⟩ rfl rfl rfl hl.1 rfl (Nat.le_of_ble_eq_true rfl) d_Law_law_1036 ⟨by show _ ≤ 600000; omega, by show _ ≤ 7302250; omega⟩ rfl (fun H locs hw hS => ?_)
  refine lv_icmp_eq (tgt := 1081) hx hb d_Law_law_1039 (by decide) (fun _ => ?_) (fun q => absurd rfl q)
  exact hN _ _ _ _ _ _ _ _ _ _ _ _ ls _ _ hRel hw hS hl (by omega) (by omega)
set_option maxHeartbeats 4000000 in
set_option maxRecDepth 100000 in
theorem lc_count {p : Program} {l : Launch} {e : Env} {s : State} {m : MethodId} {below : List Frame} {meth : Method} {c : Code} {b L : Nat} {xs : Nat → Int32} {D : va_G} {ty : Nat → ClassId} {fA mA rA gA cA hA kA aK aV : Nat → Nat} {Rel : Relt} {i : Nat} (hC : LC p s m meth c b L xs D ty aK aV) (hN : Nx p l e s m below meth c b D ty fA mA rA gA cA hA kA Rel 1081 i (1010 + 10 * i) (14000 + 4000 * i)) (hi : i + 6 ≤ L) (op : Op_count Rel) : Nx p l e s m below meth c b D ty fA mA rA gA cA hA kA Rel 1044 i (1000 + 10 * i) (10000 + 4000 * i) := by
  intro po o0 o1 sF sM sN sR sG sC sH H locs ls cells slots hRel hw hS hl hcb hsb
  obtain ⟨C0, hK, hT, hX, hbl, hL⟩ := id hC
  obtain ⟨hx, hb, hr, hlk, hml, hown, htt⟩ := id C0
  have hbA : ¬ (fun q => s.heap.size ≤ q) b := Nat.not_le.mpr hbl
  obtain ⟨rr, tF, tM, tN, e1, e2, hRel⟩ := op _ _ _ _ _ _ _ hRel (xs (nI i + (1 : Int32)).toNatClampNeg)
  refine lv_aload_n hx hb d_Law_law_1044 rfl (lv_at hl 1 rfl) ?_
  refine lv_aload_n hx hb d_Law_law_1045 rfl (lv_at hl 0 rfl) ?_
  refine lv_iload_n hx hb d_Law_law_1046 rfl (lv_at hl 3 rfl) ?_
  refine lv_iconst (v := (1 : Int32)) hx hb d_Law_law_1047 (by decide) ?_
  refine lv_iadd hx hb d_Law_law_1048 ?_
  refine va_sld hx hb hX hbl hbA hS (vp_j 1 rfl (by omega) hL) d_Law_law_1049 ?_
  refine vX (B := (L_fimrgchk ty fA mA rA gA cA hA kA (pvO po) sF (imO o0 o1) sM sN sR sG sC sH)) (B' := (L_fimrgchk ty fA mA rA gA cA hA kA (pvO po) tF (imO o0 o1) sM sN sR sG sC sH)) (Lc := (L_frh ty fA rA gA cA hA kA (pvO po) sF sR sH)) (Lc' := (L_frh ty fA rA gA cA hA kA (pvO po) tF sR sH)) (rest := []) C0 (c_Face_count l D ty fA rA gA cA hA kA (pvO po) H.size sF sR sH (xs (nI i + (1 : Int32)).toNatClampNeg) rr tF e1) PcM.blind k_743 cal_Face_count hw hS hAb [0, 14, 15, 25, 26, 27, 28, 29, 30, 31] rfl (by decide) rfl rfl (fun hPc => va_recv hK.1 hPc (ci := 10) (q0 := 0) rfl rfl) (fun hPc hDc hF U hU hW => ⟨rfl, by rw [hU], by rw [hU]; exact hPc, hK.warm hW, hDc⟩) ⟨by decide, by decide⟩ rfl rfl rfl hl.1 rfl (Nat.le_of_ble_eq_true rfl) d_Law_law_1050 ⟨by show _ ≤ 600000; omega, by show _ ≤ 7302250; omega⟩ rfl (fun H locs hw hS => ?_)
  refine lv_aload_n hx hb d_Law_law_1053 rfl (lv_at hl 2 rfl) ?_
  refine lv_aload_n hx hb d_Law_law_1054 rfl (lv_at hl 0 rfl) ?_
  refine lv_iload_n hx hb d_Law_law_1055 rfl (lv_at hl 3 rfl) ?_
  refine lv_iconst (v := (1 : Int32)) hx hb d_Law_law_1056 (by decide) ?_
  refine lv_iadd hx hb d_Law_law_1057 ?_
  refine va_sld hx hb hX hbl hbA hS (vp_j 1 rfl (by omega) hL) d_Law_law_1058 ?_
  refine vX (B := (L_fimrgchk ty fA mA rA gA cA hA kA (pvO po) tF (imO o0 o1) sM sN sR sG sC sH)) (B' := (L_fimrgchk ty fA mA rA gA cA hA kA (pvO po) tF (imO o0 o1) tM tN sR sG sC sH)) (Lc := (L_m ty mA sM sN)) (Lc' := (L_m ty mA tM tN)) (rest := [.int rr]) C0 (c_Model_count l D ty mA H.size sM sN (xs (nI i + (1 : Int32)).toNatClampNeg) rr tM tN e2) PcM.blind k_1112 cal_Model_count hw hS hAb [2, 3, 4, 5, 6, 7, 8, 9, 10, 11, 12, 13] rfl (by decide) rfl rfl (fun hPc => va_recv hK.1 hPc (ci := 11) (q0 := 0) rfl rfl) (fun hPc hDc hF U hU hW => ⟨rfl, by rw [hU], by rw [hU]; exact hPc, hK.warm hW, hDc⟩) ⟨by decide, by decide⟩ rfl rfl rfl hl.1 rfl (Nat.le_of_ble_eq_true rfl) d_Law_law_1059 ⟨by show _ ≤ 600000; omega, by show _ ≤ 7302250; omega⟩ rfl (fun H locs hw hS => ?_)
  refine lv_icmp_eq (tgt := 1081) hx hb d_Law_law_1062 (by decide) (fun _ => ?_) (fun q => absurd rfl q)
  exact hN _ _ _ _ _ _ _ _ _ _ _ _ ls _ _ hRel hw hS hl (by omega) (by omega)
set_option maxHeartbeats 4000000 in
set_option maxRecDepth 100000 in
theorem lc_digest {p : Program} {l : Launch} {e : Env} {s : State} {m : MethodId} {below : List Frame} {meth : Method} {c : Code} {b L : Nat} {xs : Nat → Int32} {D : va_G} {ty : Nat → ClassId} {fA mA rA gA cA hA kA aK aV : Nat → Nat} {Rel : Relt} {i : Nat} (hC : LC p s m meth c b L xs D ty aK aV) (hN : Nx p l e s m below meth c b D ty fA mA rA gA cA hA kA Rel 1081 i (1010 + 10 * i) (14000 + 4000 * i)) (hi : i + 6 ≤ L) (op : Op_digest Rel) : Nx p l e s m below meth c b D ty fA mA rA gA cA hA kA Rel 1067 i (1000 + 10 * i) (10000 + 4000 * i) := by
  intro po o0 o1 sF sM sN sR sG sC sH H locs ls cells slots hRel hw hS hl hcb hsb
  obtain ⟨C0, hK, hT, hX, hbl, hL⟩ := id hC
  obtain ⟨hx, hb, hr, hlk, hml, hown, htt⟩ := id C0
  have hbA : ¬ (fun q => s.heap.size ≤ q) b := Nat.not_le.mpr hbl
  obtain ⟨rr, e1, e2, hRel⟩ := op _ _ _ _ _ _ _ hRel ()
  refine lv_aload_n hx hb d_Law_law_1067 rfl (lv_at hl 1 rfl) ?_
  refine vR (q0 := 0) (ci := 10) (rest := []) C0 (c_Face_digest l D ty fA rA gA cA hA kA (pvO po) sF sR sH rr e1) k_751 cal_Face_digest hK (hw.1.sub (ws' := (L_frh ty fA rA gA cA hA kA (pvO po) sF sR sH)) [0, 14, 15, 25, 26, 27, 28, 29, 30, 31] rfl) rfl rfl rfl ⟨by decide, by decide⟩ rfl rfl rfl hl.1 rfl (Nat.le_of_ble_eq_true rfl) d_Law_law_1068 ⟨by show _ ≤ 600000; omega, by show _ ≤ 7302250; omega⟩ rfl ?_
  refine lv_aload_n hx hb d_Law_law_1071 rfl (lv_at hl 2 rfl) ?_
  refine vR (q0 := 0) (ci := 11) (rest := [.long rr]) C0 (c_Model_digest l D ty mA sM sN rr e2) k_1121 cal_Model_digest hK (hw.1.sub (ws' := (L_m ty mA sM sN)) [2, 3, 4, 5, 6, 7, 8, 9, 10, 11, 12, 13] rfl) rfl rfl rfl ⟨by decide, by decide⟩ rfl rfl rfl hl.1 rfl (Nat.le_of_ble_eq_true rfl) d_Law_law_1072 ⟨by show _ ≤ 600000; omega, by show _ ≤ 7302250; omega⟩ rfl ?_
  refine W.lcmp hx hb d_Law_law_1075 ?_
  refine lv_if_eq (tgt := 1081) hx hb d_Law_law_1076 (by decide) (fun _ => ?_) (fun q => absurd (lg_same rr) q)
  exact hN _ _ _ _ _ _ _ _ _ _ _ _ ls _ _ hRel hw hS hl (by omega) (by omega)
