/-! ===== the relation, and the calls without loops ===== -/
def ImR (o : Option PW) (sM : PW) (i : Nat) : Prop := match o with
  | none => sM 18 i = 0
  | some w => sM 18 i = 1 ∧ Ok w ∧ HR w (fun k => sM 19 (53 * i + k)) (fun k => sM 20 (32 * i + k)) (sM 21 i)
def TxR (sR sM : PW) : Prop := sR 2 0 = sM 5 0 ∧ okI (sR 2 0) 151 = true ∧ ∀ k, k < vn sR 2 0 → sR 1 k = sM 4 k ∧ okI (sR 1 k) 128 = true
def Rel0 : Relt := fun i0 i1 sF sR sH sM sN => Ok sH ∧ HR sH (sM 0) (sM 13) (sM 14 0) ∧ TxR sR sM ∧ (sF 7 0 = sM 3 0 ∧ sF 8 0 = sM 3 1 ∧ sF 9 0 = sM 3 2) ∧ ((sF 5 0).toInt64 = sN 1 ∧ (sF 6 0).toInt64 = sN 2) ∧ ImR i0 sM 0 ∧ ImR i1 sM 1
theorem up_eq (w : PW) (k : Nat) (g : Nat → Int32) : up w k g k = g := by unfold up; rw [Nat.beq_refl]
theorem up_ne {w : PW} {j k : Nat} {g : Nat → Int32} (h : j ≠ k) : up w k g j = w j := by
  unfold up
  have e : Nat.beq j k = false := Bool.eq_false_iff.mpr fun q => h (Nat.eq_of_beq_eq_true q)
  rw [e]
theorem upd_eq (f : Nat → Int32) (k : Nat) (x : Int32) : upd f k x k = x := if_pos rfl
theorem upd_ne {f : Nat → Int32} {j k : Nat} {x : Int32} (h : j ≠ k) : upd f k x j = f j := if_neg h
theorem up_up (w : PW) (k : Nat) (g h : Nat → Int32) : up (up w k g) k h = up w k h := by
  funext j
  by_cases e : j = k
  · subst e; rw [up_eq, up_eq]
  · rw [up_ne e, up_ne e, up_ne e]
theorem up_self (w : PW) (k : Nat) : up w k (w k) = w := by
  funext j
  by_cases e : j = k
  · subst e; rw [up_eq]
  · rw [up_ne e]
def fill (f g : Nat → Int32) (i : Nat) : Nat → Int32 := fun k => if k < i then f k else g k
theorem fill_in {f g : Nat → Int32} {i k : Nat} (h : k < i) : fill f g i k = f k := if_pos h
theorem fill_out {f g : Nat → Int32} {i k : Nat} (h : ¬ k < i) : fill f g i k = g k := if_neg h
theorem fill_0 (f g : Nat → Int32) : fill f g 0 = g := by funext k; exact fill_out (by omega)
theorem fill_upd (f g : Nat → Int32) (i : Nat) : upd (fill f g i) i (f i) = fill f g (i + 1) := by
  funext k
  by_cases e : k = i
  · subst e; rw [upd_eq, fill_in (by omega)]
  · rw [upd_ne e]
    by_cases h : k < i
    · rw [fill_in h, fill_in (by omega)]
    · rw [fill_out h, fill_out (by omega)]
theorem rel_bad {i0 i1 : Option PW} {sF sR sH sM : PW} {sN : PL} (h : Rel0 i0 i1 sF sR sH sM sN) : Rel0 i0 i1 (up sF 7 (fun _ => ((sF 7 0) + (1 : Int32)))) sR sH (up sM 3 (upd (sM 3) 0 ((sM 3 0) + (1 : Int32)))) sN := by
  obtain ⟨h1, h2, h3, ⟨h4, h5, h6⟩, h7, h8, h9⟩ := h
  refine ⟨h1, h2, h3, ⟨?_, h5, h6⟩, h7, h8, h9⟩
  show sF 7 0 + 1 = sM 3 0 + 1
  rw [h4]
theorem rel_no {i0 i1 : Option PW} {sF sR sH sM : PW} {sN : PL} (h : Rel0 i0 i1 sF sR sH sM sN) : Rel0 i0 i1 (up sF 8 (fun _ => ((sF 8 0) + (1 : Int32)))) sR sH (up sM 3 (upd (sM 3) 1 ((sM 3 1) + (1 : Int32)))) sN := by
  obtain ⟨h1, h2, h3, ⟨h4, h5, h6⟩, h7, h8, h9⟩ := h
  refine ⟨h1, h2, h3, ⟨h4, ?_, h6⟩, h7, h8, h9⟩
  show sF 8 0 + 1 = sM 3 1 + 1
  rw [h5]
theorem rel_full {i0 i1 : Option PW} {sF sR sH sM : PW} {sN : PL} (h : Rel0 i0 i1 sF sR sH sM sN) : Rel0 i0 i1 (up sF 9 (fun _ => ((sF 9 0) + (1 : Int32)))) sR sH (up sM 3 (upd (sM 3) 2 ((sM 3 2) + (1 : Int32)))) sN := by
  obtain ⟨h1, h2, h3, ⟨h4, h5, h6⟩, h7, h8, h9⟩ := h
  refine ⟨h1, h2, h3, ⟨h4, h5, ?_⟩, h7, h8, h9⟩
  show sF 9 0 + 1 = sM 3 2 + 1
  rw [h6]
theorem bd_s {α ρ : Type} (a : α) (k : α → Option ρ) : bd (some a) k = k a := rfl
theorem bd2_s {α β ρ : Type} (a : α) (b : β) (k : α → β → Option ρ) : bd2 (some (a, b)) k = k a b := rfl
theorem bd3_s {α β γ ρ : Type} (a : α) (b : β) (c : γ) (k : α → β → γ → Option ρ) : bd3 (some (a, b, c)) k = k a b c := rfl
theorem gd_t {α : Type} (k : Option α) : gd true k = k := rfl
theorem nm_s {α β : Type} (a : α) (k : α → β) : nm a k = k a := rfl
theorem if_00 {α : Type} (x y : α) : (if (0 : Int32) = 0 then x else y) = x := if_pos rfl
theorem if_10 {α : Type} (x y : α) : (if (1 : Int32) = 0 then x else y) = y := if_neg (by decide)
theorem side_C (a : Int32) : f_Face_isSide a = some (if okI a 2 = true then 1 else 0) := by
  unfold f_Face_isSide
  rw [show (1 : Int32) = nI 1 from rfl, within_eq a (by decide)]
  by_cases h : okI a (1 + 1) = true
  · rw [if_pos h]; first | rfl | (rw [if_pos h]; rfl)
  · rw [if_neg h]; first | rfl | (rw [if_neg h]; rfl)
theorem hour_C (a : Int32) : f_Face_isHour a = some (if okI a 24 = true then 1 else 0) := by
  unfold f_Face_isHour
  rw [show (23 : Int32) = nI 23 from rfl, within_eq a (by decide)]
  by_cases h : okI a (23 + 1) = true
  · rw [if_pos h]; first | rfl | (rw [if_pos h]; rfl)
  · rw [if_neg h]; first | rfl | (rw [if_neg h]; rfl)
theorem side_M (a : Int32) : f_Model_isSide a = some (if okI a 2 = true then 1 else 0) := by
  unfold f_Model_isSide
  rw [in0_eq a (m := 1) rfl]
  by_cases h : okI a (1 + 1) = true
  · rw [if_pos h]; first | rfl | (rw [if_pos h]; rfl)
  · rw [if_neg h]; first | rfl | (rw [if_neg h]; rfl)
theorem hour_M (a : Int32) : f_Model_isHour a = some (if okI a 24 = true then 1 else 0) := by
  unfold f_Model_isHour
  rw [in0_eq a (m := 23) rfl]
  by_cases h : okI a (23 + 1) = true
  · rw [if_pos h]; first | rfl | (rw [if_pos h]; rfl)
  · rw [if_neg h]; first | rfl | (rw [if_neg h]; rfl)
theorem doing_C {sF w : PW} (ho : Ok w) (a : Int32) : f_Face_isDoing sF w a = some (if okI a (vn w 12 0) = true then 1 else 0) := by
  obtain ⟨h7, e⟩ := okV ho.many
  unfold f_Face_isDoing
  rw [e]
  have e0 : (0 : Int32).toInt = 0 := rfl
  have em : (nI (vn w 12 0)).toInt = vn w 12 0 := nI_toInt (by omega)
  by_cases h1 : a < 0
  · rw [if_pos h1, if_neg]
    rw [i_lt, e0] at h1
    rw [okI_iff]
    omega
  · rw [if_neg h1]
    rw [i_lt, e0] at h1
    by_cases h2 : nI (vn w 12 0) ≤ a
    · rw [if_pos h2, if_neg]
      rw [i_le, em] at h2
      rw [okI_iff]
      omega
    · rw [if_neg h2, if_pos]
      rw [i_le, em] at h2
      rw [okI_iff]
      omega
theorem in_eqI (a : Int32) {lo hi : Int64} : f_Model_in a.toInt64 lo hi = some (if lo.toInt ≤ a.toInt ∧ a.toInt ≤ hi.toInt then 1 else 0) := by
  unfold f_Model_in
  by_cases h1 : lg_cmp a.toInt64 lo < 0
  · rw [if_pos h1]
    rw [lg_lt, Int32.toInt_toInt64] at h1
    rw [if_neg (by omega)]
  · rw [if_neg h1]
    rw [lg_lt, Int32.toInt_toInt64] at h1
    by_cases h2 : 0 < lg_cmp a.toInt64 hi
    · rw [if_pos h2]
      rw [lg_gt, Int32.toInt_toInt64] at h2
      rw [if_neg (by omega)]
    · rw [if_neg h2]
      rw [lg_gt, Int32.toInt_toInt64] at h2
      rw [if_pos (by omega)]
theorem HR.many {w : PW} {st ah : Nat → Int32} {um : Int32} (h : HR w st ah um) : st 9 = w 12 0 := h.2.2.2.2.2.2.2.2.2.1
theorem HR.notes {w : PW} {st ah : Nat → Int32} {um : Int32} (h : HR w st ah um) : st 22 = w 13 0 := h.2.2.2.2.2.2.2.2.2.2.1
theorem HR.steps {w : PW} {st ah : Nat → Int32} {um : Int32} (h : HR w st ah um) : um = w 14 0 := h.2.2.2.2.2.2.2.2.2.2.2.1
theorem HR.side {w : PW} {st ah : Nat → Int32} {um : Int32} (h : HR w st ah um) : st 0 = w 9 0 := h.1
theorem HR.hour {w : PW} {st ah : Nat → Int32} {um : Int32} (h : HR w st ah um) : st 1 = w 10 0 := h.2.1
theorem HR.paid {w : PW} {st ah : Nat → Int32} {um : Int32} (h : HR w st ah um) : st 2 = w 11 0 := h.2.2.1
theorem HR.toll {w : PW} {st ah : Nat → Int32} {um : Int32} (h : HR w st ah um) : st 4 = w 7 0 := h.2.2.2.2.1
theorem doing_M {w sM : PW} {sN : PL} {ah : Nat → Int32} {um : Int32} (ho : Ok w) (hr : HR w (sM 0) ah um) (a : Int32) : f_Model_isDoing sM sN a = some (if okI a (vn w 12 0) = true then 1 else 0) := by
  obtain ⟨h7, e⟩ := okV ho.many
  unfold f_Model_isDoing
  rw [in_eqI, hr.many, e, Int32.toInt_toInt64, sb_toInt, nI_toInt (by omega)]
  · have e1 : (1 : Int32).toInt = 1 := rfl
    have e0 : (0 : Int64).toInt = 0 := rfl
    rw [e1, e0]
    by_cases h : okI a (vn w 12 0) = true
    · rw [if_pos h, if_pos]
      · rfl
      · rw [okI_iff] at h
        omega
    · rw [if_neg h, if_neg]
      · rfl
      · rw [okI_iff] at h
        omega
  · rw [nI_toInt (by omega)]
    show -2147483648 ≤ (vn w 12 0 : Int) - 1
    omega
  · rw [nI_toInt (by omega)]
    show (vn w 12 0 : Int) - 1 < 2147483648
    omega
/-! counts, status, part, now, of -/
theorem op_status : Op_status Rel0 := by
  intro i0 i1 sF sR sH sM sN hR a1
  have hR' := hR
  obtain ⟨-, -, -, ⟨h4, h5, h6⟩, -⟩ := hR'
  unfold f_Face_status f_Model_status
  rw [in0_eq a1 (m := 2) rfl]
  by_cases h : okI a1 (2 + 1) = true
  · obtain ⟨j, hj, -, rfl⟩ := okI_nat h
    rw [if_pos h]
    rcases (show j = 0 ∨ j = 1 ∨ j = 2 by omega) with rfl | rfl | rfl
    · exact ⟨_, _, _, _, rfl, by rw [h4]; rfl, hR⟩
    · exact ⟨_, _, _, _, rfl, by rw [h5]; rfl, hR⟩
    · exact ⟨_, _, _, _, rfl, by rw [h6]; rfl, hR⟩
  · rw [if_neg h, if_neg, if_neg, if_neg]
    · exact ⟨_, _, _, _, rfl, rfl, rel_bad hR⟩
    · intro e; subst e; exact h (by decide)
    · intro e; subst e; exact h (by decide)
    · intro e; subst e; exact h (by decide)
theorem howMany_eq {i0 i1 : Option PW} {sF sR sH sM : PW} {sN : PL} (hR : Rel0 i0 i1 sF sR sH sM sN) (a : Int32) : ∃ x, f_Face_howMany sF sR sH a = some x ∧ f_Model_countOf sM sN a = some x := by
  obtain ⟨h1, h2, h3, -⟩ := hR
  unfold f_Face_howMany f_Model_countOf
  rw [h2.many, h2.hour, h2.side, h2.paid, h2.notes, h2.steps, h3.1]
  have main : ∀ p q r s t u v : Int32, ∃ x, (if a = (0 : Int32) then some p else (if a = (1 : Int32) then some q else (if a = (2 : Int32) then some r else (if a = (3 : Int32) then some s else (if a = (4 : Int32) then some t else (if a = (5 : Int32) then some u else some v)))))) = some x := by
    intro p q r s t u v
    repeat' split
    all_goals exact ⟨_, rfl⟩
  obtain ⟨x, hx⟩ := main (sH 12 0) (sH 10 0) (sH 9 0) (sH 11 0) (sH 13 0) (sH 14 0) (sM 5 0)
  exact ⟨x, hx, hx⟩
theorem op_count : Op_count Rel0 := by
  intro i0 i1 sF sR sH sM sN hR a1
  obtain ⟨x, e1, e2⟩ := howMany_eq hR a1
  unfold f_Face_count f_Model_count
  rw [show (6 : Int32) = nI 6 from rfl, within_eq a1 (by decide), in0_eq a1 (m := 6) rfl, e1, e2]
  by_cases h : okI a1 (6 + 1) = true
  · rw [if_pos h]
    exact ⟨_, _, _, _, rfl, rfl, hR⟩
  · rw [if_neg h]
    exact ⟨_, _, _, _, rfl, rfl, rel_bad hR⟩
theorem op_part : Op_part Rel0 := by
  intro i0 i1 sF sR sH sM sN hR a1
  have hR' := hR
  obtain ⟨-, -, -, -, ⟨h4, h5⟩, -⟩ := hR'
  unfold f_Face_part f_Model_part
  rw [show (1 : Int32) = nI 1 from rfl, within_eq a1 (by decide)]
  by_cases h : okI a1 (1 + 1) = true
  · obtain ⟨j, hj, -, rfl⟩ := okI_nat h
    rw [if_pos h, ← h4, ← h5]
    rcases (show j = 0 ∨ j = 1 by omega) with rfl | rfl
    · exact ⟨_, _, _, _, rfl, rfl, hR⟩
    · exact ⟨_, _, _, _, rfl, rfl, hR⟩
  · rw [if_neg h]
    by_cases e : a1 = 0
    · subst e; exact absurd (by decide) h
    · by_cases e1 : a1 = nI 1
      · subst e1; exact absurd (by decide) h
      · simp only [if_neg e, if_neg e1]
        exact ⟨_, _, _, _, rfl, rfl, rel_bad hR⟩
theorem warBit_eq {w : PW} (ho : Ok w) : f_House_warBit w = some (w 8 0) := by
  obtain ⟨h, e⟩ := okV ho.war
  unfold f_House_warBit
  rw [e]
  rcases (show vn w 8 0 = 0 ∨ vn w 8 0 = 1 by omega) with e | e <;> rw [e] <;> rfl
theorem op_now : Op_now Rel0 := by
  intro i0 i1 sF sR sH sM sN hR a1
  have hR' := hR
  obtain ⟨h1, h2, -⟩ := hR'
  unfold f_Face_now f_Model_now
  rw [in0_eq a1 (m := 3) rfl, warBit_eq h1]
  by_cases h : okI a1 (3 + 1) = true
  · obtain ⟨j, hj, -, rfl⟩ := okI_nat h
    rw [if_pos h]
    rcases (show j = 0 ∨ j = 1 ∨ j = 2 ∨ j = 3 by omega) with rfl | rfl | rfl | rfl
    · exact ⟨_, _, _, _, rfl, by rw [← h2.side]; rfl, hR⟩
    · exact ⟨_, _, _, _, rfl, by rw [← h2.hour]; rfl, hR⟩
    · exact ⟨_, _, _, _, rfl, by rw [← h2.paid]; rfl, hR⟩
    · exact ⟨_, _, _, _, rfl, by rw [← h2.war]; rfl, hR⟩
  · rw [if_neg h, if_neg, if_neg, if_neg, if_neg]
    · exact ⟨_, _, _, _, rfl, rfl, rel_bad hR⟩
    · intro e; subst e; exact h (by decide)
    · intro e; subst e; exact h (by decide)
    · intro e; subst e; exact h (by decide)
    · intro e; subst e; exact h (by decide)
theorem op_of : Op_of Rel0 := by
  intro i0 i1 sF sR sH sM sN hR a1 a2
  have hR' := hR
  obtain ⟨h1, h2, -⟩ := hR'
  have h6 := h1.m6
  unfold f_Face_of f_Model_of
  rw [doing_C h1, doing_M h1 h2, show (1 : Int32) = nI 1 from rfl, within_eq a2 (by decide), in0_eq a2 (m := 1) rfl]
  by_cases hdo : okI a1 (vn sH 12 0) = true
  · rw [if_pos hdo]
    by_cases h : okI a2 (1 + 1) = true
    · rw [if_pos h]
      obtain ⟨d, hd, hd2, rfl⟩ := okI_nat hdo
      rw [okI_nI (show d < 6 by omega) hd2, nI_clamp hd2, show (10 : Int32) + nI d = nI (10 + d) from nI_add 10 d, show (16 : Int32) + nI d = nI (16 + d) from nI_add 16 d, okI_nI (show 10 + d < 53 by omega) (by omega), okI_nI (show 16 + d < 53 by omega) (by omega), nI_clamp (by omega), nI_clamp (by omega), h2.kind hd, h2.worth hd]
      obtain ⟨j, hj, -, rfl⟩ := okI_nat h
      rcases (show j = 0 ∨ j = 1 by omega) with rfl | rfl
      · exact ⟨_, _, _, _, rfl, rfl, hR⟩
      · exact ⟨_, _, _, _, rfl, rfl, hR⟩
    · rw [if_neg h]
      exact ⟨_, _, _, _, rfl, rfl, rel_bad hR⟩
  · rw [if_neg hdo]
    exact ⟨_, _, _, _, rfl, rfl, rel_bad hR⟩
theorem op_due : Op_due Rel0 := by
  intro i0 i1 sF sR sH sM sN hR a1 a2 a3
  have hR' := hR
  obtain ⟨h1, h2, -⟩ := hR'
  have h6 := h1.m6
  unfold f_Face_due f_Model_due
  rw [doing_C h1, doing_M h1 h2, side_C, side_M, hour_C, hour_M]
  by_cases hdo : okI a1 (vn sH 12 0) = true
  · rw [if_pos hdo]
    by_cases hso : okI a2 2 = true
    · rw [if_pos hso]
      by_cases hho : okI a3 24 = true
      · rw [if_pos hho]
        obtain ⟨d, hd, hd2, rfl⟩ := okI_nat hdo
        obtain ⟨s, hs, hs2, rfl⟩ := okI_nat hso
        obtain ⟨h, hh, hh2, rfl⟩ := okI_nat hho
        rw [let_C h1 hd hs hh, due_C h1 hd hs hh, let_M h1 h2 hd hs hh, due_M h1 h2 hd hs hh]
        cases letB sH d s h
        · exact ⟨_, _, _, _, rfl, rfl, hR⟩
        · exact ⟨_, _, _, _, rfl, rfl, hR⟩
      · rw [if_neg hho]
        exact ⟨_, _, _, _, rfl, rfl, rel_bad hR⟩
    · rw [if_neg hso]
      exact ⟨_, _, _, _, rfl, rfl, rel_bad hR⟩
  · rw [if_neg hdo]
    exact ⟨_, _, _, _, rfl, rfl, rel_bad hR⟩
theorem his_eq : ∀ s, s < 2 → ∀ x, x < 24 → ∃ n, n < 24 ∧ f_Face_hisHour (nI s) (nI x) = some (nI n) ∧ ((nI x + (24 : Int32)) - nI s) - ((nI x + (24 : Int32)) - nI s) / (24 : Int32) * (24 : Int32) = nI n := by
  have h : ∀ s, s < 2 → ∀ x, x < 24 → f_Face_hisHour (nI s) (nI x) = some (nI ((x + 24 - s) % 24)) ∧ ((nI x + (24 : Int32)) - nI s) - ((nI x + (24 : Int32)) - nI s) / (24 : Int32) * (24 : Int32) = nI ((x + 24 - s) % 24) := by decide +kernel
  intro s hs x hx
  exact ⟨_, Nat.mod_lt _ (by decide), h s hs x hx⟩
theorem op_before : Op_before Rel0 := by
  intro i0 i1 sF sR sH sM sN hR a1 a2 a3 a4
  unfold f_Face_before f_Model_before
  rw [side_C, side_M, hour_C, hour_M, side_C, side_M, hour_C, hour_M]
  by_cases ha1 : okI a1 2 = true
  · rw [if_pos ha1]
    by_cases ha2 : okI a2 24 = true
    · rw [if_pos ha2]
      by_cases ha3 : okI a3 2 = true
      · rw [if_pos ha3]
        by_cases ha4 : okI a4 24 = true
        · rw [if_pos ha4]
          obtain ⟨s, hs, hs2, rfl⟩ := okI_nat ha1
          obtain ⟨x, hx, hx2, rfl⟩ := okI_nat ha2
          obtain ⟨t, ht, ht2, rfl⟩ := okI_nat ha3
          obtain ⟨y, hy, hy2, rfl⟩ := okI_nat ha4
          obtain ⟨n, hn, e1, e2⟩ := his_eq s hs x hx
          obtain ⟨k, hk, e3, e4⟩ := his_eq t ht y hy
          rw [e1, e2, e3, e4]
          simp only [bd_s, if_10, nm_s, nI_eq (show n < 2 ^ 31 by omega) (show k < 2 ^ 31 by omega), nI_leI (show k < 2 ^ 31 by omega) (show n < 2 ^ 31 by omega)]
          rcases Nat.lt_trichotomy n k with h | h | h
          · rw [if_neg (by omega), if_neg (by omega), if_neg (by omega)]
            exact ⟨_, _, _, _, rfl, rfl, hR⟩
          · rw [if_pos h, if_pos (by omega), if_pos h]
            exact ⟨_, _, _, _, rfl, rfl, hR⟩
          · rw [if_neg (by omega), if_pos (by omega), if_pos (by omega), if_neg (by omega)]
            exact ⟨_, _, _, _, rfl, rfl, hR⟩
        · rw [if_neg ha4]
          exact ⟨_, _, _, _, rfl, rfl, rel_bad hR⟩
      · rw [if_neg ha3]
        exact ⟨_, _, _, _, rfl, rfl, rel_bad hR⟩
    · rw [if_neg ha2]
      exact ⟨_, _, _, _, rfl, rfl, rel_bad hR⟩
  · rw [if_neg ha1]
    exact ⟨_, _, _, _, rfl, rfl, rel_bad hR⟩
