/-! ===== both, child, sentry ===== -/
theorem gb_acc {f : Nat → Bool} : ∀ {n k : Nat}, n ≤ 32 → k < 32 → gb (accB f n) k = (decide (k < n) && f k)
  | 0, k, _, _ => by rw [show accB f 0 = 0 from rfl, gb_0, decide_eq_false (by omega)]; rfl
  | n + 1, k, hn, hk => by
    have ih := gb_acc (f := f) (n := n) (k := k) (by omega) hk
    by_cases c : f n = true
    · rw [show accB f (n + 1) = accB f n ||| ((1 : Int32) <<< (nI n &&& 31)) from if_pos c, gb_or (by omega) hk, ih]
      by_cases e : k = n
      · subst e; rw [c, decide_eq_false (show ¬ k < k by omega), decide_eq_true rfl, decide_eq_true (show k < k + 1 by omega)]; rfl
      · rw [decide_eq_false e, Bool.or_false]
        congr 1
        rw [decide_eq_decide]
        omega
    · rw [show accB f (n + 1) = accB f n from if_neg c, ih]
      by_cases e : k = n
      · subst e
        have : f k = false := by cases h : f k with
          | true => exact absurd h c
          | false => rfl
        rw [this, Bool.and_false, Bool.and_false]
      · congr 1
        rw [decide_eq_decide]
        omega
def cB (w : PW) (d h : Nat) : Bool := !letB w d 0 h && !letB w d 1 h
def rot (H t : Nat) : Nat := (H + (23 - t)) % 24
def stM (c : Nat → Bool) (H : Nat) : Nat → Int32 × Int32
  | 0 => (0, -1)
  | t + 1 => if c (rot H t) = true then ((stM c H t).1 ||| ((1 : Int32) <<< (nI (rot H t) &&& 31)), nI (rot H t)) else stM c H t
theorem stM_bits {c : Nat → Bool} {H : Nat} (hH : H < 24) : ∀ {t k : Nat}, t ≤ 24 → k < 32 → gb (stM c H t).1 k = (decide (k < 24) && decide (24 ≤ (k + 24 - H) % 24 + t) && c k)
  | 0, k, _, hk => by
    rw [show (stM c H 0).1 = 0 from rfl, gb_0, decide_eq_false (show ¬ 24 ≤ (k + 24 - H) % 24 + 0 by omega), Bool.and_false]; rfl
  | t + 1, k, ht, hk => by
    have ih := stM_bits (c := c) hH (t := t) (k := k) (by omega) hk
    have hr : rot H t < 24 := Nat.mod_lt _ (by decide)
    have key : ∀ j, j < 24 → (j = rot H t ↔ (j + 24 - H) % 24 = 23 - t) := by
      intro j hj
      unfold rot
      omega
    by_cases cc : c (rot H t) = true
    · rw [show stM c H (t + 1) = ((stM c H t).1 ||| ((1 : Int32) <<< (nI (rot H t) &&& 31)), nI (rot H t)) from if_pos cc]
      show gb ((stM c H t).1 ||| ((1 : Int32) <<< (nI (rot H t) &&& 31))) k = _
      rw [gb_or (by omega) hk, ih]
      by_cases e : k = rot H t
      · have h2 := (key k (by omega)).mp e
        rw [decide_eq_true e, Bool.or_true, decide_eq_true (show k < 24 by omega), decide_eq_true (show 24 ≤ (k + 24 - H) % 24 + (t + 1) by omega), e, cc]; rfl
      · rw [decide_eq_false e, Bool.or_false]
        by_cases h24 : k < 24
        · have h2 : ¬ (k + 24 - H) % 24 = 23 - t := fun q => e ((key k h24).mpr q)
          rw [show decide (24 ≤ (k + 24 - H) % 24 + t) = decide (24 ≤ (k + 24 - H) % 24 + (t + 1)) by rw [decide_eq_decide]; omega]
        · rw [decide_eq_false h24]; rfl
    · rw [show stM c H (t + 1) = stM c H t from if_neg cc, ih]
      by_cases e : k = rot H t
      · have : c k = false := by
          rw [e]
          cases h : c (rot H t) with
          | true => exact absurd h cc
          | false => rfl
        rw [this, Bool.and_false, Bool.and_false]
      · by_cases h24 : k < 24
        · have h2 : ¬ (k + 24 - H) % 24 = 23 - t := fun q => e ((key k h24).mpr q)
          rw [show decide (24 ≤ (k + 24 - H) % 24 + t) = decide (24 ≤ (k + 24 - H) % 24 + (t + 1)) by rw [decide_eq_decide]; omega]
        · rw [decide_eq_false h24]; rfl
theorem stM_set {c : Nat → Bool} {H : Nat} (hH : H < 24) : (stM c H 24).1 = accB c 24 := by
  apply gb_ext
  intro k hk
  rw [stM_bits hH (by decide) hk, gb_acc (by decide) hk, decide_eq_true (show 24 ≤ (k + 24 - H) % 24 + 24 by omega), Bool.and_true]
def ff (c : Nat → Bool) (H : Nat) : Nat → Nat → Int32
  | 0, _ => -1
  | m + 1, i => if c ((H + i) % 24) = true then nI ((H + i) % 24) else ff c H m (i + 1)
theorem stM_first {c : Nat → Bool} {H : Nat} : ∀ {t : Nat}, t ≤ 24 → (stM c H t).2 = ff c H t (24 - t)
  | 0, _ => rfl
  | t + 1, ht => by
    have ih := stM_first (c := c) (H := H) (t := t) (by omega)
    show _ = (if c ((H + (24 - (t + 1))) % 24) = true then nI ((H + (24 - (t + 1))) % 24) else ff c H t (24 - (t + 1) + 1))
    rw [show 24 - (t + 1) + 1 = 24 - t by omega, show (H + (24 - (t + 1))) % 24 = rot H t by unfold rot; congr 1; omega, ← ih]
    by_cases cc : c (rot H t) = true
    · rw [if_pos cc, show stM c H (t + 1) = ((stM c H t).1 ||| ((1 : Int32) <<< (nI (rot H t) &&& 31)), nI (rot H t)) from if_pos cc]
    · rw [if_neg cc, show stM c H (t + 1) = stM c H t from if_neg cc]
theorem dn_eq : ∀ t, t < 24 → ((23 : Int32) - nI t) + (-1 : Int32) = (23 : Int32) - nI (t + 1) := by decide +kernel
theorem hours_C {sC w : PW} (ho : Ok w) {d : Nat} (hd : d < vn w 12 0) : f_Clerk_hoursBothBar sC w (nI d) = some (accB (cB w d) 24) := by
  unfold f_Clerk_hoursBothBar
  refine loop_seq (fun i => (accB (cB w d) i, nI i)) 24 4000 (by decide) ?_ ?_
  · intro i hi K
    simp only [f_Clerk_hoursBothBar_L4]
    rw [if_neg (by rw [show (24 : Int32) = nI 24 from rfl]; exact nI_ge hi (by decide)), show f_House_lets w (nI d) (0 : Int32) (nI i) = _ from let_C ho hd (show 0 < 2 by decide) hi, show f_House_lets w (nI d) (1 : Int32) (nI i) = _ from let_C ho hd (show 1 < 2 by decide) hi, show nI i + (1 : Int32) = nI (i + 1) from nI_add i 1]
    simp only [bd_s, nm_s]
    show _ = K ((if cB w d i = true then accB (cB w d) i ||| ((1 : Int32) <<< (nI i &&& 31)) else accB (cB w d) i), nI (i + 1))
    generalize accB (cB w d) i = acc
    unfold cB
    cases letB w d 0 i <;> cases letB w d 1 i <;> rfl
  · intro K
    simp only [f_Clerk_hoursBothBar_L4]
    rw [if_pos (show (24 : Int32) ≤ nI 24 by decide)]
theorem first_C {sC w : PW} (ho : Ok w) (c : Nat → Bool) : f_Clerk_firstFromNow sC w (accB c 24) = some (ff c (vn w 10 0) 24 0) := by
  obtain ⟨hh, eh⟩ := okV ho.hour
  unfold f_Clerk_firstFromNow
  refine loop_dn (fun i => nI i) (fun i => some (ff c (vn w 10 0) (24 - i) i)) 24 4000 (by decide) ?_ ?_
  · intro i hi K hK
    have hr : (vn w 10 0 + i) % 24 < 24 := Nat.mod_lt _ (by decide)
    simp only [f_Clerk_firstFromNow_L2]
    rw [if_neg (by rw [show (24 : Int32) = nI 24 from rfl]; exact nI_ge hi (by decide)), eh, hour_add hh (by omega), nm_s, show nI i + (1 : Int32) = nI (i + 1) from nI_add i 1, nm_s, hK]
    show _ = some (ff c (vn w 10 0) (24 - i) i)
    rw [show 24 - i = (24 - (i + 1)) + 1 by omega]
    show _ = some (if c ((vn w 10 0 + i) % 24) = true then nI ((vn w 10 0 + i) % 24) else ff c (vn w 10 0) (24 - (i + 1)) (i + 1))
    have hb : bitB (accB c 24) ((vn w 10 0 + i) % 24) = c ((vn w 10 0 + i) % 24) := by
      rw [bitB_gb (by omega), gb_acc (by decide) (by omega), decide_eq_true hr, Bool.true_and]
    unfold bitB at hb
    by_cases q : (accB c 24 >>> (nI ((vn w 10 0 + i) % 24) &&& 31)) &&& (1 : Int32) = 1
    · rw [if_pos q, if_pos (by rw [← hb]; exact decide_eq_true q)]
    · rw [if_neg q, if_neg (by rw [← hb, decide_eq_false q]; decide)]
  · intro K
    simp only [f_Clerk_firstFromNow_L2]
    rw [if_pos (show (24 : Int32) ≤ nI 24 by decide)]
    rfl
theorem op_both : Op_both Rel0 := by
  intro i0 i1 sF sR sH sM sN sC hR a1 a2
  have hR' := hR
  obtain ⟨h1, h2, -⟩ := hR'
  obtain ⟨hh, eh⟩ := okV h1.hour
  unfold f_Face_both f_Model_both
  rw [doing_C h1, doing_M h1 h2, show f_Face_within a2 (1 : Int32) = some (if okI a2 2 = true then 1 else 0) from within_eq a2 (m := 1) (by decide), in0_eq a2 (m := 1) rfl]
  by_cases c1 : okI a1 (vn sH 12 0) = true
  · rw [if_pos c1]
    by_cases c2 : okI a2 2 = true
    · rw [if_pos c2]
      obtain ⟨d, hd, -, rfl⟩ := okI_nat c1
      have eM : loopF (f_Model_both_L32 (nI d) a2 sM sN) 4000 ((0 : Int32), (-1 : Int32), (23 : Int32)) = if a2 = 0 then some ((stM (cB sH d) (vn sH 10 0) 24).1, sM, sN) else some ((stM (cB sH d) (vn sH 10 0) 24).2, sM, sN) := by
        generalize hc : cB sH d = c
        have h0 : ((0 : Int32), (-1 : Int32), (23 : Int32)) = (fun t => ((stM c (vn sH 10 0) t).1, (stM c (vn sH 10 0) t).2, (23 : Int32) - nI t)) 0 := rfl
        rw [h0]
        refine loop_seq (fun t => ((stM c (vn sH 10 0) t).1, (stM c (vn sH 10 0) t).2, (23 : Int32) - nI t)) 24 4000 (by decide) ?_ ?_
        · intro t ht K
          simp only [f_Model_both_L32]
          rw [dn_eq t ht, show (23 : Int32) - nI t = nI (23 - t) from nI_sub (a := 23) (by omega) (by decide), if_neg (nI_pos (by omega)), h2.hour, eh, hour_add hh (by omega), nm_s]
          have hr : rot (vn sH 10 0) t < 24 := Nat.mod_lt _ (by decide)
          show bd (f_Model_isThrough sM sN (nI d) (0 : Int32) (nI (rot (vn sH 10 0) t))) _ = _
          rw [show f_Model_isThrough sM sN (nI d) (0 : Int32) (nI (rot (vn sH 10 0) t)) = _ from let_M h1 h2 hd (show 0 < 2 by decide) hr, show (vn sH 10 0 + (23 - t)) % 24 = rot (vn sH 10 0) t from rfl, show f_Model_isThrough sM sN (nI d) (1 : Int32) (nI (rot (vn sH 10 0) t)) = _ from let_M h1 h2 hd (show 1 < 2 by decide) hr]
          simp only [bd_s, nm_s]
          have hq : c (rot (vn sH 10 0) t) = (!letB sH d 0 (rot (vn sH 10 0) t) && !letB sH d 1 (rot (vn sH 10 0) t)) := by rw [← hc]; rfl
          have hst : stM c (vn sH 10 0) (t + 1) = if c (rot (vn sH 10 0) t) = true then ((stM c (vn sH 10 0) t).1 ||| ((1 : Int32) <<< (nI (rot (vn sH 10 0) t) &&& 31)), nI (rot (vn sH 10 0) t)) else stM c (vn sH 10 0) t := rfl
          rw [hst, hq]
          generalize stM c (vn sH 10 0) t = z
          cases letB sH d 0 (rot (vn sH 10 0) t) <;> cases letB sH d 1 (rot (vn sH 10 0) t) <;> rfl
        · intro K
          simp only [f_Model_both_L32]
          rw [if_pos (show (23 : Int32) - nI 24 < 0 by decide)]
      rw [eM, hours_C h1 hd, stM_set hh, stM_first (by decide)]
      simp only [bd_s, if_10]
      rw [first_C h1]
      obtain ⟨j, hj, -, rfl⟩ := okI_nat c2
      rcases (show j = 0 ∨ j = 1 by omega) with rfl | rfl
      · exact ⟨_, _, _, _, rfl, rfl, hR⟩
      · exact ⟨_, _, _, _, rfl, rfl, hR⟩
    · rw [if_neg c2]
      exact ⟨_, _, _, _, rfl, rfl, rel_bad hR⟩
  · rw [if_neg c1]
    exact ⟨_, _, _, _, rfl, rfl, rel_bad hR⟩
/-! fractions -/
def gG (K : Int64 × Int64 → Option Int64) : Int64 × Int64 → Option Int64
  | (x1, x2) => if lg_cmp x2 (0 : Int64) = 0 then some x1 else gd (x2 != 0) (nm (x1 - x1 / x2 * x2) (fun x9 => K (x2, x9)))
theorem frac_fold {sM : PW} {sN : PL} {a b : Int64} : ∀ (n : Nat) (s : Int64 × Int64), loopF (f_Model_setFraction_L6 a b sM sN) n s = bd (loopF gG n s) (fun x1 => gd (x1 != 0) (some (sM, upL (upL sN 1 (a / x1)) 2 (b / x1))))
  | 0, s => rfl
  | n + 1, (x1, x2) => by
    show f_Model_setFraction_L6 a b sM sN (loopF (f_Model_setFraction_L6 a b sM sN) n) (x1, x2) = bd (gG (loopF gG n) (x1, x2)) _
    simp only [f_Model_setFraction_L6, gG]
    by_cases c : lg_cmp x2 (0 : Int64) = 0
    · rw [if_pos c, if_pos c, bd_s]
      cases x1 != 0 <;> rfl
    · rw [if_neg c, if_neg c]
      cases h : x2 != 0
      · rfl
      · rw [gd_t, gd_t, nm_s, nm_s]
        exact frac_fold n (x2, x1 - x1 / x2 * x2)
def fracOk (t n : Nat) : Bool := match f_Face_greatestDivisor (nI t) (nI n), loopF gG 4000 ((nI t).toInt64, (nI n).toInt64) with
  | some g, some h => g != 0 && h != 0 && (nI t / g).toInt64 == (nI t).toInt64 / h && (nI n / g).toInt64 == (nI n).toInt64 / h
  | _, _ => false
theorem frac3 : ∀ t, t < 4 → fracOk t 3 = true := by decide +kernel
set_option maxRecDepth 100000 in
theorem frac100 : ∀ t, t < 101 → fracOk t 100 = true := by decide +kernel
theorem frac_rel {i0 i1 : Option PW} {sF sR sH sM : PW} {sN : PL} (h : Rel0 i0 i1 sF sR sH sM sN) {t n : Nat} (hf : fracOk t n = true) {a b : Int64} (ha : a = (nI t).toInt64) (hb : b = (nI n).toInt64) : ∃ (tF tM : PW) (tN : PL), f_Face_setFraction sF (nI t) (nI n) = some tF ∧ f_Model_setFraction sM sN a b = some (tM, tN) ∧ Rel0 i0 i1 tF sR sH tM tN := by
  unfold fracOk at hf
  unfold f_Face_setFraction f_Model_setFraction
  rw [frac_fold, ha, hb]
  cases e1 : f_Face_greatestDivisor (nI t) (nI n) with
  | none => rw [e1] at hf; simp at hf
  | some g =>
    cases e2 : loopF gG 4000 ((nI t).toInt64, (nI n).toInt64) with
    | none => rw [e1, e2] at hf; simp at hf
    | some q =>
      rw [e1, e2] at hf
      have hf : (g != 0 && q != 0 && (nI t / g).toInt64 == (nI t).toInt64 / q && (nI n / g).toInt64 == (nI n).toInt64 / q) = true := hf
      rw [Bool.and_eq_true, Bool.and_eq_true, Bool.and_eq_true, beq_iff_eq, beq_iff_eq] at hf
      obtain ⟨⟨⟨g1, g2⟩, g3⟩, g4⟩ := hf
      rw [bd_s, bd_s, g1, g2]
      refine ⟨_, _, _, rfl, rfl, ?_⟩
      obtain ⟨h1, h2, h3, h4, -, h6, h7⟩ := h
      exact ⟨h1, h2, h3, h4, ⟨g3, g4⟩, h6, h7⟩
theorem op_child : Op_child Rel0 := by
  intro i0 i1 sF sR sH sM sN hR a1
  unfold f_Face_child f_Model_child
  rw [show (7 : Int32) = nI 7 from rfl, within_eq a1 (by decide), in0_eq a1 (m := 7) rfl]
  by_cases c : okI a1 (7 + 1) = true
  · rw [if_pos c]
    obtain ⟨j, hj, -, rfl⟩ := okI_nat c
    have hov : ovN j < 4 := by unfold ovN; split <;> (try split) <;> omega
    obtain ⟨tF, tM, tN, e1, e2, hr⟩ := frac_rel hR (frac3 (ovN j) hov) (a := (nI (ovN j)).toInt64) (b := 3) rfl rfl
    rw [ov_C j hj, ov_M j hj]
    simp only [bd_s, if_10]
    rw [show (3 : Int32) = nI 3 from rfl, e1, e2]
    exact ⟨_, _, _, _, rfl, rfl, hr⟩
  · rw [if_neg c]
    exact ⟨_, _, _, _, rfl, rfl, rel_bad hR⟩
def tenN (w : PW) (d c s : Nat) : Nat := if pasB w d s (vn w 10 0) = true then 0 else if barB w s (vn w 10 0) = true then 10 else c
theorem mulL : ∀ x, x < 11 → ∀ y, y < 11 → (100 : Int64) - (1 : Int64) * (nI x).toInt64 * (nI y).toInt64 = (nI (100 - x * y)).toInt64 := by decide +kernel
theorem op_sentry : Op_sentry Rel0 := by
  intro i0 i1 sF sR sH sM sN sC hR a1 a2
  have hR' := hR
  obtain ⟨h1, h2, -⟩ := hR'
  obtain ⟨hh, eh⟩ := okV h1.hour
  unfold f_Face_sentry f_Model_sentry
  rw [doing_C h1, doing_M h1 h2, show (10 : Int32) = nI 10 from rfl, within_eq a2 (by decide), in0_eq a2 (m := 10) rfl]
  by_cases c1 : okI a1 (vn sH 12 0) = true
  · rw [if_pos c1]
    by_cases c2 : okI a2 (10 + 1) = true
    · rw [if_pos c2]
      obtain ⟨d, hd, -, rfl⟩ := okI_nat c1
      obtain ⟨c, hc, -, rfl⟩ := okI_nat c2
      have ht : ∀ s, tenN sH d c s < 11 := fun s => by unfold tenN; split <;> (try split) <;> omega
      have eT : ∀ s, s < 2 → f_Clerk_tenthsShut sC sH (nI d) (nI s) (nI c) = some (nI (tenN sH d c s)) := by
        intro s hs
        unfold f_Clerk_tenthsShut tenN
        rw [eh, pas_C h1 hd hs hh, bar_C hs hh]
        cases pasB sH d s (vn sH 10 0) <;> cases barB sH s (vn sH 10 0) <;> rfl
      have eC : f_Clerk_hundredthsShut sC sH (nI d) (nI c) = some (nI (tenN sH d c 0 * tenN sH d c 1)) := by
        unfold f_Clerk_hundredthsShut
        rw [show f_Clerk_tenthsShut sC sH (nI d) (0 : Int32) (nI c) = _ from eT 0 (by decide), show f_Clerk_tenthsShut sC sH (nI d) (1 : Int32) (nI c) = _ from eT 1 (by decide), bd_s, bd_s, nI_mul]
      have hp : tenN sH d c 0 * tenN sH d c 1 ≤ 100 := by
        have := Nat.mul_le_mul (show tenN sH d c 0 ≤ 10 by have := ht 0; omega) (show tenN sH d c 1 ≤ 10 by have := ht 1; omega)
        omega
      obtain ⟨tF, tM, tN, e1, e2, hr⟩ := frac_rel hR (frac100 (100 - tenN sH d c 0 * tenN sH d c 1) (by omega)) (a := (100 : Int64) - (1 : Int64) * (nI (tenN sH d c 0)).toInt64 * (nI (tenN sH d c 1)).toInt64) (b := 100) (mulL _ (ht 0) _ (ht 1)) rfl
      have eM : loopF (f_Model_sentry_L30 (nI d) (nI c) sM sN) 4000 ((1 : Int64), (0 : Int32)) = some (1, tM, tN) := by
        have st : ∀ (x : Int64) (s : Nat), s < 2 → ∀ K, f_Model_sentry_L30 (nI d) (nI c) sM sN K (x, nI s) = K (x * (nI (tenN sH d c s)).toInt64, nI (s + 1)) := by
          intro x s hs K
          simp only [f_Model_sentry_L30]
          rw [if_neg (by rw [show (2 : Int32) = nI 2 from rfl]; exact nI_ge hs (by decide)), h2.hour, eh, clk_M hs hh, bd_s, pas_M h1 h2 hd hh, let_M h1 h2 hd hs hh, show nI s + (1 : Int32) = nI (s + 1) from nI_add s 1]
          simp only [bd_s, nm_s]
          unfold tenN letB
          cases pasB sH d s (vn sH 10 0) <;> cases barB sH s (vn sH 10 0) <;> rfl
        refine loop_seq (fun i => match i with
          | 0 => ((1 : Int64), nI 0)
          | 1 => ((1 : Int64) * (nI (tenN sH d c 0)).toInt64, nI 1)
          | _ => ((1 : Int64) * (nI (tenN sH d c 0)).toInt64 * (nI (tenN sH d c 1)).toInt64, nI 2)) 2 4000 (by decide) ?_ ?_
        · intro i hi K
          rcases (show i = 0 ∨ i = 1 by omega) with rfl | rfl
          · exact st _ 0 (by decide) K
          · exact st _ 1 (by decide) K
        · intro K
          show f_Model_sentry_L30 (nI d) (nI c) sM sN K ((1 : Int64) * (nI (tenN sH d c 0)).toInt64 * (nI (tenN sH d c 1)).toInt64, nI 2) = _
          simp only [f_Model_sentry_L30]
          rw [if_pos (show (2 : Int32) ≤ nI 2 by decide), e2, bd2_s]
      rw [eC, eM]
      simp only [bd_s, if_10]
      rw [show (100 : Int32) - nI (tenN sH d c 0 * tenN sH d c 1) = nI (100 - tenN sH d c 0 * tenN sH d c 1) from nI_sub (a := 100) hp (by decide), show (100 : Int32) = nI 100 from rfl, e1]
      exact ⟨_, _, _, _, rfl, rfl, hr⟩
    · rw [if_neg c2]
      exact ⟨_, _, _, _, rfl, rfl, rel_bad hR⟩
  · rw [if_neg c1]
    exact ⟨_, _, _, _, rfl, rfl, rel_bad hR⟩
