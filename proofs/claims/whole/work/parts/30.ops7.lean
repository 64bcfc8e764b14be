/-! ===== bars, is, both ===== -/
def accB (f : Nat → Bool) : Nat → Int32
  | 0 => 0
  | n + 1 => if f n = true then accB f n ||| ((1 : Int32) <<< (nI n &&& 31)) else accB f n
def bitB (x : Int32) (k : Nat) : Bool := decide ((x >>> (nI k &&& 31)) &&& (1 : Int32) = 1)
def opB (w : PW) (d s p : Nat) : Bool := !bitB (nI p) s || pasB w d s (vn w 10 0)
def gH (a b : Nat) (o0 o1 : Bool) : Nat := if (o0 && !(o1 && decide (b < a))) = true then a else 0
def gS (a b : Nat) (o0 o1 : Bool) : Nat := if (o1 && !(o0 && decide (a ≤ b))) = true then b else 0
theorem bit0_eq : ∀ p, p < 4 → ∀ s, s < 2 → (((nI p >>> (nI s &&& 31)) &&& (1 : Int32)) = 0 ↔ bitB (nI p) s = false) := by decide +kernel
theorem open_C {sC w : PW} (ho : Ok w) {d s p : Nat} (hd : d < vn w 12 0) (hs : s < 2) (hp : p < 4) : f_Clerk_isOpen sC w (nI d) (nI s) (nI p) = some (b2 (opB w d s p)) := by
  obtain ⟨hh, eh⟩ := okV ho.hour
  unfold f_Clerk_isOpen opB
  rw [eh, pas_C ho hd hs hh]
  by_cases c : ((nI p >>> (nI s &&& 31)) &&& (1 : Int32)) = 0
  · rw [if_pos c, (bit0_eq p hp s hs).mp c]; rfl
  · rw [if_neg c]
    have : bitB (nI p) s = true := by
      cases hb : bitB (nI p) s with
      | true => rfl
      | false => exact absurd ((bit0_eq p hp s hs).mpr hb) c
    rw [this]
    cases pasB w d s (vn w 10 0) <;> rfl
theorem gHis_C {sC w : PW} (ho : Ok w) {d p : Nat} (hd : d < vn w 12 0) (hp : p < 4) : f_Clerk_gainOfHis sC w (nI d) (nI p) = some (nI (gH (dueN w d 0 (vn w 10 0)) (dueN w d 1 (vn w 10 0)) (opB w d 0 p) (opB w d 1 p))) := by
  obtain ⟨hh, eh⟩ := okV ho.hour
  have ha := dueN_le ho (h := vn w 10 0) hd (show 0 < 2 by decide)
  have hb := dueN_le ho (h := vn w 10 0) hd (show 1 < 2 by decide)
  unfold f_Clerk_gainOfHis f_Clerk_gainOfHis_J51 f_Clerk_gainOfHis_J52
  rw [eh, show f_House_owed w (nI d) (0 : Int32) (nI (vn w 10 0)) = _ from due_C ho hd (show 0 < 2 by decide) hh, show f_House_owed w (nI d) (1 : Int32) (nI (vn w 10 0)) = _ from due_C ho hd (show 1 < 2 by decide) hh, show f_Clerk_isOpen sC w (nI d) (0 : Int32) (nI p) = _ from open_C ho hd (show 0 < 2 by decide) hp, show f_Clerk_isOpen sC w (nI d) (1 : Int32) (nI p) = _ from open_C ho hd (show 1 < 2 by decide) hp]
  generalize dueN w d 0 (vn w 10 0) = a at ha ⊢
  generalize dueN w d 1 (vn w 10 0) = b at hb ⊢
  generalize opB w d 0 p = o0
  generalize opB w d 1 p = o1
  unfold gH
  simp only [bd_s]
  by_cases c : b < a
  · rw [if_neg (show ¬ nI a ≤ nI b from nI_ge c (by omega)), decide_eq_true c]
    cases o0 <;> cases o1 <;> rfl
  · rw [if_pos (show nI a ≤ nI b from nI_le (by omega) (by omega)), decide_eq_false c]
    cases o0 <;> cases o1 <;> rfl
theorem gHer_C {sC w : PW} (ho : Ok w) {d p : Nat} (hd : d < vn w 12 0) (hp : p < 4) : f_Clerk_gainOfHers sC w (nI d) (nI p) = some (nI (gS (dueN w d 0 (vn w 10 0)) (dueN w d 1 (vn w 10 0)) (opB w d 0 p) (opB w d 1 p))) := by
  obtain ⟨hh, eh⟩ := okV ho.hour
  have ha := dueN_le ho (h := vn w 10 0) hd (show 0 < 2 by decide)
  have hb := dueN_le ho (h := vn w 10 0) hd (show 1 < 2 by decide)
  unfold f_Clerk_gainOfHers f_Clerk_gainOfHers_J51 f_Clerk_gainOfHers_J52
  rw [eh, show f_House_owed w (nI d) (0 : Int32) (nI (vn w 10 0)) = _ from due_C ho hd (show 0 < 2 by decide) hh, show f_House_owed w (nI d) (1 : Int32) (nI (vn w 10 0)) = _ from due_C ho hd (show 1 < 2 by decide) hh, show f_Clerk_isOpen sC w (nI d) (0 : Int32) (nI p) = _ from open_C ho hd (show 0 < 2 by decide) hp, show f_Clerk_isOpen sC w (nI d) (1 : Int32) (nI p) = _ from open_C ho hd (show 1 < 2 by decide) hp]
  generalize dueN w d 0 (vn w 10 0) = a at ha ⊢
  generalize dueN w d 1 (vn w 10 0) = b at hb ⊢
  generalize opB w d 0 p = o0
  generalize opB w d 1 p = o1
  unfold gS
  simp only [bd_s]
  by_cases c : a ≤ b
  · rw [if_neg (show ¬ nI b < nI a from nI_nlt c (by omega)), decide_eq_true c]
    cases o0 <;> cases o1 <;> rfl
  · rw [if_pos (show nI b < nI a from nI_lt (by omega) (by omega)), decide_eq_false c]
    cases o0 <;> cases o1 <;> rfl
theorem if_b2t {α : Type} (x y : α) : (if b2 true = 0 then x else y) = y := if_neg (by decide)
theorem if_b2f {α : Type} (x y : α) : (if b2 false = 0 then x else y) = x := if_pos rfl
theorem J86_M {a b : Nat} (ha : a < 2 ^ 30) (hb : b < 2 ^ 30) (o0 o1 : Bool) : f_Model_hasBy_J86 0 (if o0 = true then nI a else -1) (if o1 = true then nI b else -1) = some (nI (gH a b o0 o1)) ∧ f_Model_hasBy_J86 1 (if o0 = true then nI a else -1) (if o1 = true then nI b else -1) = some (nI (gS a b o0 o1)) := by
  have na : ¬ nI a < 0 := nI_pos (by omega)
  have nb : ¬ nI b < 0 := nI_pos (by omega)
  unfold f_Model_hasBy_J86 f_Model_hasBy_J105 f_Model_hasBy_J109 f_Model_hasBy_J119 gH gS
  have n1 : (-1 : Int32) < 0 := by decide
  by_cases c : a ≤ b
  · have c1 : ¬ nI b < nI a := nI_nlt c (by omega)
    cases o0 <;> cases o1 <;> simp [na, nb, n1, c, c1, Nat.not_lt.mpr c] <;> rfl
  · have c1 : nI b < nI a := nI_lt (by omega) (by omega)
    cases o0 <;> cases o1 <;> simp [na, nb, n1, c, c1, Nat.lt_of_not_le c] <;> rfl
theorem hasBy_M {w sM : PW} {sN : PL} {ah : Nat → Int32} {um : Int32} (ho : Ok w) (hr : HR w (sM 0) ah um) {d p : Nat} (hd : d < vn w 12 0) (hp : p < 4) (x : Int32) : f_Model_hasBy sM sN (nI d) x (nI p) = f_Model_hasBy_J86 x (if opB w d 0 p = true then nI (dueN w d 0 (vn w 10 0)) else -1) (if opB w d 1 p = true then nI (dueN w d 1 (vn w 10 0)) else -1) := by
  obtain ⟨hh, eh⟩ := okV ho.hour
  unfold f_Model_hasBy f_Model_hasBy_J26 f_Model_hasBy_J42 f_Model_hasBy_J70
  rw [hr.hour, eh, show f_Model_has (nI p) (0 : Int32) = _ from has_M (x := nI p) (k := 0) (b := bitB (nI p) 0) rfl, show f_Model_has (nI p) (1 : Int32) = _ from has_M (x := nI p) (k := 1) (b := bitB (nI p) 1) rfl, show f_Model_clockOf (0 : Int32) (nI (vn w 10 0)) = _ from clk_M (show 0 < 2 by decide) hh, show f_Model_clockOf (1 : Int32) (nI (vn w 10 0)) = _ from clk_M (show 1 < 2 by decide) hh, show f_Model_dueIn sM sN (nI d) (0 : Int32) (nI (vn w 10 0)) = _ from due_M ho hr hd (show 0 < 2 by decide) hh, show f_Model_dueIn sM sN (nI d) (1 : Int32) (nI (vn w 10 0)) = _ from due_M ho hr hd (show 1 < 2 by decide) hh]
  simp only [bd_s, pas_M ho hr hd hh]
  unfold opB
  cases bitB (nI p) 0 <;> cases bitB (nI p) 1 <;> cases pasB w d 0 (vn w 10 0) <;> cases pasB w d 1 (vn w 10 0) <;> simp only [if_b2t, if_b2f, Bool.not_true, Bool.not_false, Bool.false_or, Bool.true_or, ↓reduceIte, Bool.false_eq_true]
def rest (w : PW) (d p : Nat) : Bool :=
  decide (gH (dueN w d 0 (vn w 10 0)) (dueN w d 1 (vn w 10 0)) (opB w d 0 (p ^^^ 1)) (opB w d 1 (p ^^^ 1)) ≤ gH (dueN w d 0 (vn w 10 0)) (dueN w d 1 (vn w 10 0)) (opB w d 0 p) (opB w d 1 p)) && decide (gS (dueN w d 0 (vn w 10 0)) (dueN w d 1 (vn w 10 0)) (opB w d 0 (p ^^^ 2)) (opB w d 1 (p ^^^ 2)) ≤ gS (dueN w d 0 (vn w 10 0)) (dueN w d 1 (vn w 10 0)) (opB w d 0 p) (opB w d 1 p))
theorem gH_le {a b : Nat} {o0 o1 : Bool} : gH a b o0 o1 ≤ a := by unfold gH; split <;> omega
theorem gS_le {a b : Nat} {o0 o1 : Bool} : gS a b o0 o1 ≤ b := by unfold gS; split <;> omega
theorem xor_p : ∀ p, p < 4 → (nI p ^^^ (1 : Int32) = nI (p ^^^ 1) ∧ p ^^^ 1 < 4) ∧ (nI p ^^^ (2 : Int32) = nI (p ^^^ 2) ∧ p ^^^ 2 < 4) := by decide +kernel
theorem op_bars : Op_bars Rel0 := by
  intro i0 i1 sF sR sH sM sN sC hR a1
  have hR' := hR
  obtain ⟨h1, h2, -⟩ := hR'
  obtain ⟨hh, eh⟩ := okV h1.hour
  unfold f_Face_bars f_Model_bars
  rw [doing_C h1, doing_M h1 h2]
  by_cases c1 : okI a1 (vn sH 12 0) = true
  · rw [if_pos c1]
    obtain ⟨d, hd, -, rfl⟩ := okI_nat c1
    have ha := dueN_le h1 (h := vn sH 10 0) hd (show 0 < 2 by decide)
    have hb := dueN_le h1 (h := vn sH 10 0) hd (show 1 < 2 by decide)
    have eC : f_Clerk_restingPairs sC sH (nI d) = some (accB (rest sH d) 4) := by
      unfold f_Clerk_restingPairs
      refine loop_seq (fun i => (accB (rest sH d) i, nI i)) 4 4000 (by decide) ?_ ?_
      · intro i hi K
        obtain ⟨⟨x1, y1⟩, x2, y2⟩ := xor_p i hi
        simp only [f_Clerk_restingPairs_L4, f_Clerk_restingPairs_J31, f_Clerk_restingPairs_J55]
        rw [if_neg (by rw [show (4 : Int32) = nI 4 from rfl]; exact nI_ge hi (by decide)), x1, x2, gHis_C h1 hd hi, gHis_C h1 hd y1, gHer_C h1 hd hi, gHer_C h1 hd y2]
        simp only [bd_s, nm_s]
        rw [show nI i + (1 : Int32) = nI (i + 1) from nI_add i 1]
        show _ = K ((if rest sH d i = true then accB (rest sH d) i ||| ((1 : Int32) <<< (nI i &&& 31)) else accB (rest sH d) i), nI (i + 1))
        generalize accB (rest sH d) i = acc
        unfold rest
        have l1 := gH_le (a := dueN sH d 0 (vn sH 10 0)) (b := dueN sH d 1 (vn sH 10 0)) (o0 := opB sH d 0 i) (o1 := opB sH d 1 i)
        have l2 := gH_le (a := dueN sH d 0 (vn sH 10 0)) (b := dueN sH d 1 (vn sH 10 0)) (o0 := opB sH d 0 (i ^^^ 1)) (o1 := opB sH d 1 (i ^^^ 1))
        have l3 := gS_le (a := dueN sH d 0 (vn sH 10 0)) (b := dueN sH d 1 (vn sH 10 0)) (o0 := opB sH d 0 i) (o1 := opB sH d 1 i)
        have l4 := gS_le (a := dueN sH d 0 (vn sH 10 0)) (b := dueN sH d 1 (vn sH 10 0)) (o0 := opB sH d 0 (i ^^^ 2)) (o1 := opB sH d 1 (i ^^^ 2))
        generalize gH (dueN sH d 0 (vn sH 10 0)) (dueN sH d 1 (vn sH 10 0)) (opB sH d 0 i) (opB sH d 1 i) = p1 at l1 ⊢
        generalize gH (dueN sH d 0 (vn sH 10 0)) (dueN sH d 1 (vn sH 10 0)) (opB sH d 0 (i ^^^ 1)) (opB sH d 1 (i ^^^ 1)) = p2 at l2 ⊢
        generalize gS (dueN sH d 0 (vn sH 10 0)) (dueN sH d 1 (vn sH 10 0)) (opB sH d 0 i) (opB sH d 1 i) = p3 at l3 ⊢
        generalize gS (dueN sH d 0 (vn sH 10 0)) (dueN sH d 1 (vn sH 10 0)) (opB sH d 0 (i ^^^ 2)) (opB sH d 1 (i ^^^ 2)) = p4 at l4 ⊢
        by_cases c : p1 < p2
        · rw [if_pos (nI_lt c (by omega)), decide_eq_false (show ¬ p2 ≤ p1 by omega)]
          by_cases c' : p3 < p4
          · rw [if_pos (nI_lt c' (by omega))]; rfl
          · rw [if_neg (nI_nlt (show p4 ≤ p3 by omega) (by omega))]; rfl
        · rw [if_neg (nI_nlt (show p2 ≤ p1 by omega) (by omega)), decide_eq_true (show p2 ≤ p1 by omega)]
          by_cases c' : p3 < p4
          · rw [if_pos (nI_lt c' (by omega)), decide_eq_false (show ¬ p4 ≤ p3 by omega)]; rfl
          · rw [if_neg (nI_nlt (show p4 ≤ p3 by omega) (by omega)), decide_eq_true (show p4 ≤ p3 by omega)]; rfl
      · intro K
        simp only [f_Clerk_restingPairs_L4]
        rw [if_pos (show (4 : Int32) ≤ nI 4 by decide)]
    have eM : loopF (f_Model_bars_L17 (nI d) sM sN) 4000 ((0 : Int32), (0 : Int32)) = some (accB (rest sH d) 4, sM, sN) := by
      refine loop_seq (fun i => (accB (rest sH d) i, nI i)) 4 4000 (by decide) ?_ ?_
      · intro i hi K
        obtain ⟨⟨x1, y1⟩, x2, y2⟩ := xor_p i hi
        have q : ∀ p, p < 4 → f_Model_hasBy sM sN (nI d) 0 (nI p) = _ := fun p hp => (hasBy_M h1 h2 hd hp 0).trans (J86_M (by omega) (by omega) _ _).1
        have r : ∀ p, p < 4 → f_Model_hasBy sM sN (nI d) 1 (nI p) = _ := fun p hp => (hasBy_M h1 h2 hd hp 1).trans (J86_M (by omega) (by omega) _ _).2
        simp only [f_Model_bars_L17, f_Model_bars_J64, f_Model_bars_J65]
        rw [if_neg (by rw [show (4 : Int32) = nI 4 from rfl]; exact nI_ge hi (by decide)), x1, x2, q i hi, q _ y1, r i hi, r _ y2]
        simp only [bd_s, nm_s]
        rw [show nI i + (1 : Int32) = nI (i + 1) from nI_add i 1, Int32.or_zero]
        show _ = K ((if rest sH d i = true then accB (rest sH d) i ||| ((1 : Int32) <<< (nI i &&& 31)) else accB (rest sH d) i), nI (i + 1))
        generalize accB (rest sH d) i = acc
        unfold rest
        have l1 := gH_le (a := dueN sH d 0 (vn sH 10 0)) (b := dueN sH d 1 (vn sH 10 0)) (o0 := opB sH d 0 i) (o1 := opB sH d 1 i)
        have l2 := gH_le (a := dueN sH d 0 (vn sH 10 0)) (b := dueN sH d 1 (vn sH 10 0)) (o0 := opB sH d 0 (i ^^^ 1)) (o1 := opB sH d 1 (i ^^^ 1))
        have l3 := gS_le (a := dueN sH d 0 (vn sH 10 0)) (b := dueN sH d 1 (vn sH 10 0)) (o0 := opB sH d 0 i) (o1 := opB sH d 1 i)
        have l4 := gS_le (a := dueN sH d 0 (vn sH 10 0)) (b := dueN sH d 1 (vn sH 10 0)) (o0 := opB sH d 0 (i ^^^ 2)) (o1 := opB sH d 1 (i ^^^ 2))
        generalize gH (dueN sH d 0 (vn sH 10 0)) (dueN sH d 1 (vn sH 10 0)) (opB sH d 0 i) (opB sH d 1 i) = p1 at l1 ⊢
        generalize gH (dueN sH d 0 (vn sH 10 0)) (dueN sH d 1 (vn sH 10 0)) (opB sH d 0 (i ^^^ 1)) (opB sH d 1 (i ^^^ 1)) = p2 at l2 ⊢
        generalize gS (dueN sH d 0 (vn sH 10 0)) (dueN sH d 1 (vn sH 10 0)) (opB sH d 0 i) (opB sH d 1 i) = p3 at l3 ⊢
        generalize gS (dueN sH d 0 (vn sH 10 0)) (dueN sH d 1 (vn sH 10 0)) (opB sH d 0 (i ^^^ 2)) (opB sH d 1 (i ^^^ 2)) = p4 at l4 ⊢
        by_cases c : p1 < p2
        · rw [if_pos (nI_lt c (by omega)), decide_eq_false (show ¬ p2 ≤ p1 by omega)]; rfl
        · rw [if_neg (nI_nlt (show p2 ≤ p1 by omega) (by omega)), decide_eq_true (show p2 ≤ p1 by omega)]
          by_cases c' : p3 < p4
          · rw [if_pos (nI_lt c' (by omega)), decide_eq_false (show ¬ p4 ≤ p3 by omega)]; rfl
          · rw [if_neg (nI_nlt (show p4 ≤ p3 by omega) (by omega)), decide_eq_true (show p4 ≤ p3 by omega)]; rfl
      · intro K
        simp only [f_Model_bars_L17]
        rw [if_pos (show (4 : Int32) ≤ nI 4 by decide)]
    rw [eC, eM]
    exact ⟨_, _, _, _, rfl, rfl, hR⟩
  · rw [if_neg c1]
    exact ⟨_, _, _, _, rfl, rfl, rel_bad hR⟩
