/-! ===== digest, wars, where, bars ===== -/
def DG (f : Nat → Int32) (h : Int64) : Nat → Int64
  | 0 => h
  | n + 1 => (31 : Int64) * DG f h n + (f n).toInt64
def DP (f g : Nat → Int32) (h : Int64) : Nat → Int64
  | 0 => h
  | n + 1 => (31 : Int64) * ((31 : Int64) * DP f g h n + (f n).toInt64) + (g n).toInt64
theorem DG_cong {f g : Nat → Int32} {h : Int64} : ∀ {n : Nat}, (∀ k, k < n → f k = g k) → DG f h n = DG g h n
  | 0, _ => rfl
  | n + 1, hk => by
    show (31 : Int64) * DG f h n + _ = (31 : Int64) * DG g h n + _
    rw [DG_cong (n := n) (fun k hk' => hk k (by omega)), hk n (by omega)]
theorem DP_cong {f g f' g' : Nat → Int32} {h : Int64} : ∀ {n : Nat}, (∀ k, k < n → f k = f' k ∧ g k = g' k) → DP f g h n = DP f' g' h n
  | 0, _ => rfl
  | n + 1, hk => by
    show (31 : Int64) * ((31 : Int64) * DP f g h n + _) + _ = (31 : Int64) * ((31 : Int64) * DP f' g' h n + _) + _
    rw [DP_cong (n := n) (fun k hk' => hk k (by omega)), (hk n (by omega)).1, (hk n (by omega)).2]
theorem added_C {w : PW} (ho : Ok w) (a : Int64) : f_House_addedTo w a = some (DG (w 5) (DP (w 3) (w 4) (DP (w 1) (w 2) ((31 : Int64) * ((31 : Int64) * a + (w 7 0).toInt64) + (w 8 0).toInt64) 2) (vn w 12 0)) (5 * vn w 13 0)) := by
  obtain ⟨h7, em⟩ := okV ho.many
  obtain ⟨h8, en⟩ := okV ho.notes
  unfold f_House_addedTo
  rw [nm_s, warBit_eq ho, bd_s, nm_s]
  generalize (31 : Int64) * ((31 : Int64) * a + (w 7 0).toInt64) + (w 8 0).toInt64 = x
  refine loop_seq (fun i => (DP (w 1) (w 2) x i, nI i)) 2 4000 (by decide) ?_ ?_
  · intro i hi K
    simp only [f_House_addedTo_L27]
    rw [if_neg (by rw [show (2 : Int32) = nI 2 from rfl]; exact nI_ge hi (by decide)), okI_nI hi (by omega), nI_clamp (by omega), gd_t, nm_s, gd_t, nm_s, nm_s, show nI i + (1 : Int32) = nI (i + 1) from nI_add i 1]
    rfl
  · intro K
    simp only [f_House_addedTo_L27]
    rw [if_pos (show (2 : Int32) ≤ nI 2 by decide)]
    generalize DP (w 1) (w 2) x 2 = y
    refine loop_seq (fun i => (DP (w 3) (w 4) y i, nI i)) (vn w 12 0) 4000 (by omega) ?_ ?_
    · intro i hi K
      simp only [f_House_addedTo_L72]
      rw [if_neg (by rw [em]; exact nI_ge hi (by omega)), okI_nI (show i < 6 by omega) (by omega), nI_clamp (by omega), gd_t, nm_s, gd_t, nm_s, nm_s, show nI i + (1 : Int32) = nI (i + 1) from nI_add i 1]
      rfl
    · intro K
      simp only [f_House_addedTo_L72]
      rw [if_pos (by rw [em]; exact nI_le (Nat.le_refl _) (by omega))]
      generalize DP (w 3) (w 4) y (vn w 12 0) = z
      have e5 : w 13 0 * (5 : Int32) = nI (5 * vn w 13 0) := by rw [en, show (5 : Int32) = nI 5 from rfl, nI_mul, Nat.mul_comm]
      refine loop_seq (fun i => (DG (w 5) z i, nI i)) (5 * vn w 13 0) 4000 (by omega) ?_ ?_
      · intro i hi K
        simp only [f_House_addedTo_L120]
        rw [if_neg (by rw [e5]; exact nI_ge hi (by omega)), okI_nI (show i < 30 by omega) (by omega), nI_clamp (by omega), gd_t, nm_s, nm_s, show nI i + (1 : Int32) = nI (i + 1) from nI_add i 1]
        rfl
      · intro K
        simp only [f_House_addedTo_L120]
        rw [if_pos (by rw [e5]; exact nI_le (Nat.le_refl _) (by omega))]
theorem op_digest : Op_digest Rel0 := by
  intro i0 i1 sF sR sH sM sN hR _
  have hR' := hR
  obtain ⟨h1, h2, -, -, ⟨f1, f2⟩, -⟩ := hR'
  obtain ⟨h7, em⟩ := okV h1.many
  obtain ⟨h8, en⟩ := okV h1.notes
  have hm : ∀ a, ∃ x, f_Face_howMany sF sR sH a = some x ∧ f_Model_countOf sM sN a = some x := howMany_eq hR
  have hc : ∃ cnt : Nat → Int32, ∀ i, f_Face_howMany sF sR sH (nI i) = some (cnt i) ∧ f_Model_countOf sM sN (nI i) = some (cnt i) := ⟨fun i => (hm (nI i)).choose, fun i => (hm (nI i)).choose_spec⟩
  obtain ⟨cnt, hc⟩ := hc
  have eC : f_Face_digest sF sR sH = some ((31 : Int64) * ((31 : Int64) * DG (sH 5) (DP (sH 3) (sH 4) (DP (sH 1) (sH 2) ((31 : Int64) * ((31 : Int64) * DG cnt 1217 7 + (sH 7 0).toInt64) + (sH 8 0).toInt64) 2) (vn sH 12 0)) (5 * vn sH 13 0) + (sF 5 0).toInt64) + (sF 6 0).toInt64) := by
    unfold f_Face_digest
    refine loop_seq (fun i => (DG cnt 1217 i, nI i)) 7 4000 (by decide) ?_ ?_
    · intro i hi K
      simp only [f_Face_digest_L6]
      rw [if_neg (by rw [show (6 : Int32) = nI 6 from rfl]; exact nI_nlt (by omega) (by decide)), (hc i).1, bd_s, nm_s, nm_s, show nI i + (1 : Int32) = nI (i + 1) from nI_add i 1]
      rfl
    · intro K
      simp only [f_Face_digest_L6]
      rw [if_pos (show (6 : Int32) < nI 7 by decide), added_C h1, bd_s, nm_s]
  have eM : f_Model_digest sM sN = some ((31 : Int64) * ((31 : Int64) * DG (sH 5) (DP (sH 3) (sH 4) (DP (sH 1) (sH 2) ((31 : Int64) * ((31 : Int64) * DG cnt 1217 7 + (sH 7 0).toInt64) + (sH 8 0).toInt64) 2) (vn sH 12 0)) (5 * vn sH 13 0) + (sF 5 0).toInt64) + (sF 6 0).toInt64) := by
    unfold f_Model_digest
    refine loop_seq (fun i => (DG cnt 1217 i, nI i)) 7 4000 (by decide) ?_ ?_
    · intro i hi K
      simp only [f_Model_digest_L6]
      rw [if_neg (by rw [show (7 : Int32) = nI 7 from rfl]; exact nI_ge hi (by decide)), (hc i).2, bd_s, nm_s, nm_s, show nI i + (1 : Int32) = nI (i + 1) from nI_add i 1]
      rfl
    · intro K
      simp only [f_Model_digest_L6]
      rw [if_pos (show (7 : Int32) ≤ nI 7 by decide), nm_s, nm_s, h2.toll, h2.war]
      generalize (31 : Int64) * ((31 : Int64) * DG cnt 1217 7 + (sH 7 0).toInt64) + (sH 8 0).toInt64 = x
      rw [← DP_cong (f := fun k => sM 0 (5 + k)) (g := fun k => sM 0 (7 + k)) (h := x) (n := 2) (fun k hk => ⟨h2.rate hk, h2.barred hk⟩)]
      refine loop_seq (fun i => (DP (fun k => sM 0 (5 + k)) (fun k => sM 0 (7 + k)) x i, nI i)) 2 4000 (by decide) ?_ ?_
      · intro i hi K
        simp only [f_Model_digest_L61]
        rw [if_neg (by rw [show (2 : Int32) = nI 2 from rfl]; exact nI_ge hi (by decide)), show (5 : Int32) + nI i = nI (5 + i) from nI_add 5 i, show (7 : Int32) + nI i = nI (7 + i) from nI_add 7 i, okI_nI (show 5 + i < 53 by omega) (by omega), okI_nI (show 7 + i < 53 by omega) (by omega), nI_clamp (by omega), nI_clamp (by omega), gd_t, nm_s, gd_t, nm_s, nm_s, show nI i + (1 : Int32) = nI (i + 1) from nI_add i 1]
        rfl
      · intro K
        simp only [f_Model_digest_L61]
        rw [if_pos (show (2 : Int32) ≤ nI 2 by decide)]
        generalize DP (fun k => sM 0 (5 + k)) (fun k => sM 0 (7 + k)) x 2 = y
        rw [← DP_cong (f := fun k => sM 0 (10 + k)) (g := fun k => sM 0 (16 + k)) (h := y) (n := vn sH 12 0) (fun k hk => ⟨h2.kind hk, h2.worth hk⟩)]
        refine loop_seq (fun i => (DP (fun k => sM 0 (10 + k)) (fun k => sM 0 (16 + k)) y i, nI i)) (vn sH 12 0) 4000 (by omega) ?_ ?_
        · intro i hi K
          simp only [f_Model_digest_L107]
          rw [if_neg (by rw [h2.many, em]; exact nI_ge hi (by omega)), show (10 : Int32) + nI i = nI (10 + i) from nI_add 10 i, show (16 : Int32) + nI i = nI (16 + i) from nI_add 16 i, okI_nI (show 10 + i < 53 by omega) (by omega), okI_nI (show 16 + i < 53 by omega) (by omega), nI_clamp (by omega), nI_clamp (by omega), gd_t, nm_s, gd_t, nm_s, nm_s, show nI i + (1 : Int32) = nI (i + 1) from nI_add i 1]
          rfl
        · intro K
          simp only [f_Model_digest_L107]
          rw [if_pos (by rw [h2.many, em]; exact nI_le (Nat.le_refl _) (by omega))]
          generalize DP (fun k => sM 0 (10 + k)) (fun k => sM 0 (16 + k)) y (vn sH 12 0) = z
          have e5 : (5 : Int32) * sM 0 22 = nI (5 * vn sH 13 0) := by rw [h2.notes, en]; exact nI_mul 5 _
          rw [← DG_cong (f := fun k => sM 0 (23 + k)) (h := z) (n := 5 * vn sH 13 0) (fun k hk => h2.note hk), f1, f2]
          refine loop_seq (fun i => (DG (fun k => sM 0 (23 + k)) z i, nI i)) (5 * vn sH 13 0) 4000 (by omega) ?_ ?_
          · intro i hi K
            simp only [f_Model_digest_L160]
            rw [if_neg (by rw [e5]; exact nI_ge hi (by omega)), show (23 : Int32) + nI i = nI (23 + i) from nI_add 23 i, okI_nI (show 23 + i < 53 by omega) (by omega), nI_clamp (by omega), gd_t, nm_s, nm_s, show nI i + (1 : Int32) = nI (i + 1) from nI_add i 1]
            rfl
          · intro K
            simp only [f_Model_digest_L160]
            rw [if_pos (by rw [e5]; exact nI_le (Nat.le_refl _) (by omega)), nm_s]
  exact ⟨_, eC, eM, hR⟩
/-! more in war -/
def wrS (f : Nat → Int32) : Nat → Int32
  | 0 => 0
  | n + 1 => wrS f n + f n
def wrF (w : PW) (s h : Nat) (d : Nat) : Int32 := nI (prN (vn w 3 d) (vn w 4 d) s (vn w 1 s) h 1) - nI (prN (vn w 3 d) (vn w 4 d) s (vn w 1 s) h 0)
theorem op_wars : Op_wars Rel0 := by
  intro i0 i1 sF sR sH sM sN sC hR a1 a2
  have hR' := hR
  obtain ⟨h1, h2, -⟩ := hR'
  obtain ⟨h7, em⟩ := okV h1.many
  unfold f_Face_wars f_Model_wars
  rw [side_C, side_M, hour_C, hour_M]
  by_cases c1 : okI a1 2 = true
  · rw [if_pos c1]
    by_cases c2 : okI a2 24 = true
    · rw [if_pos c2]
      obtain ⟨s, hs, -, rfl⟩ := okI_nat c1
      obtain ⟨h, hh, -, rfl⟩ := okI_nat c2
      have hO := ownN_lt (s := s) hh
      have eC : f_Clerk_moreInWar sC sH (nI s) (nI h) = some (wrS (wrF sH s (ownN s h)) (vn sH 12 0)) := by
        unfold f_Clerk_moreInWar
        rw [own_C hs hh, bd_s]
        refine loop_seq (fun i => (wrS (wrF sH s (ownN s h)) i, nI i)) (vn sH 12 0) 4000 (by omega) ?_ ?_
        · intro i hi K
          obtain ⟨hk, ek⟩ := okV (h1.kind hi)
          simp only [f_Clerk_moreInWar_L12]
          rw [if_neg (by rw [em]; exact nI_ge hi (by omega)), okI_nI (show i < 6 by omega) (by omega), nI_clamp (by omega), gd_t, nm_s, ek, show (1 : Int32) = nI 1 from rfl, show (0 : Int32) = nI 0 from rfl, pas_as_C h1 hk hi hs hO (by decide), pas_as_C h1 hk hi hs hO (by decide), bd_s, bd_s, nm_s, nm_s, nI_add]
          rfl
        · intro K
          simp only [f_Clerk_moreInWar_L12]
          rw [if_pos (by rw [em]; exact nI_le (Nat.le_refl _) (by omega))]
      have eM : loopF (f_Model_wars_L28 (nI s) (nI h) sM sN) 4000 ((0 : Int32), (0 : Int32)) = some (wrS (wrF sH s (ownN s h)) (vn sH 12 0), sM, sN) := by
        refine loop_seq (fun i => (wrS (wrF sH s (ownN s h)) i, nI i)) (vn sH 12 0) 4000 (by omega) ?_ ?_
        · intro i hi K
          obtain ⟨hk, ek⟩ := okV (h1.kind hi)
          obtain ⟨hw, ew⟩ := okV (h1.worth hi)
          simp only [f_Model_wars_L28]
          rw [if_neg (by rw [h2.many, em]; exact nI_ge hi (by omega)), clk_M hs hh, bd_s, show (10 : Int32) + nI i = nI (10 + i) from nI_add 10 i, show (16 : Int32) + nI i = nI (16 + i) from nI_add 16 i, okI_nI (show 10 + i < 53 by omega) (by omega), okI_nI (show 16 + i < 53 by omega) (by omega), nI_clamp (by omega), nI_clamp (by omega), gd_t, gd_t, h2.kind hi, h2.worth hi, ek, ew, show (1 : Int32) = nI 1 from rfl, show (0 : Int32) = nI 0 from rfl, dueBy_M h1 h2 hk hw hs hO (by decide), dueBy_M h1 h2 hk hw hs hO (by decide), bd_s, gd_t, gd_t, bd_s, nm_s, nm_s, nI_add]
          rfl
        · intro K
          simp only [f_Model_wars_L28]
          rw [if_pos (by rw [h2.many, em]; exact nI_le (Nat.le_refl _) (by omega))]
      rw [eC, eM]
      exact ⟨_, _, _, _, rfl, rfl, hR⟩
    · rw [if_neg c2]
      exact ⟨_, _, _, _, rfl, rfl, rel_bad hR⟩
  · rw [if_neg c1]
    exact ⟨_, _, _, _, rfl, rfl, rel_bad hR⟩
/-! where -/
def ovN (c : Nat) : Nat := if 5 ≤ c then 3 else if c < 3 then 0 else c - 2
theorem ov_C : ∀ c, c < 8 → f_Clerk_cellsOfHers (nI c) = some (nI (ovN c)) := by decide +kernel
theorem ov_M : ∀ c, c < 8 → f_Model_hersOf (nI c) = some (nI (ovN c)) := by decide +kernel
def whV (x y : Int32) (c : Nat) : Int32 := ((3 : Int32) - nI (ovN c)) * x + nI (ovN c) * y
def whB (x y : Int32) : Nat → Int32 × Int32
  | 0 => (0, (3 : Int32) * x)
  | n + 1 => if (whB x y n).2 ≤ whV x y (n + 1) then whB x y n else (nI (n + 1), whV x y (n + 1))
def cellP (w : PW) (d s : Nat) : Int32 := if letB w d s (vn w 10 0) = true then nI (dueN w d s (vn w 10 0)) else 99
theorem op_where : Op_where Rel0 := by
  intro i0 i1 sF sR sH sM sN sC hR a1
  have hR' := hR
  obtain ⟨h1, h2, -⟩ := hR'
  obtain ⟨hh, eh⟩ := okV h1.hour
  unfold f_Face_where f_Model_where
  rw [doing_C h1, doing_M h1 h2]
  by_cases c1 : okI a1 (vn sH 12 0) = true
  · rw [if_pos c1]
    obtain ⟨d, hd, -, rfl⟩ := okI_nat c1
    have ep : ∀ s, s < 2 → f_Clerk_priceOfCell sC sH (nI d) (nI s) = some (cellP sH d s) := by
      intro s hs
      unfold f_Clerk_priceOfCell cellP
      rw [eh, let_C h1 hd hs hh, due_C h1 hd hs hh]
      cases letB sH d s (vn sH 10 0) <;> rfl
    have eC : f_Clerk_bestCell sC sH (nI d) = some (whB (cellP sH d 0) (cellP sH d 1) 7).1 := by
      unfold f_Clerk_bestCell
      rw [show f_Clerk_priceOfCell sC sH (nI d) (0 : Int32) = some (cellP sH d 0) from ep 0 (by decide), show f_Clerk_priceOfCell sC sH (nI d) (1 : Int32) = some (cellP sH d 1) from ep 1 (by decide), bd_s, bd_s, nm_s]
      generalize cellP sH d 0 = x
      generalize cellP sH d 1 = y
      refine loop_seq (fun i => ((whB x y i).1, (whB x y i).2, nI (i + 1))) 7 4000 (by decide) ?_ ?_
      · intro i hi K
        simp only [f_Clerk_bestCell_L25]
        rw [if_neg (by rw [show (7 : Int32) = nI 7 from rfl]; exact nI_nlt (by omega) (by decide)), ov_C (i + 1) (by omega), bd_s, nm_s]
        show (if (whB x y i).2 ≤ whV x y (i + 1) then _ else _) = _
        rw [show nI (i + 1) + (1 : Int32) = nI (i + 1 + 1) from nI_add (i + 1) 1, nm_s, nm_s]
        by_cases c : (whB x y i).2 ≤ whV x y (i + 1)
        · rw [if_pos c, show whB x y (i + 1) = whB x y i from if_pos c]
        · rw [if_neg c, show whB x y (i + 1) = (nI (i + 1), whV x y (i + 1)) from if_neg c]
          rfl
      · intro K
        simp only [f_Clerk_bestCell_L25]
        rw [if_pos (show (7 : Int32) < nI (7 + 1) by decide)]
    have eJ : ∀ x y : Int32, f_Model_where_J78 sM sN x y = some ((whB x y 7).1, sM, sN) := by
      intro x y
      unfold f_Model_where_J78
      rw [nm_s]
      refine loop_seq (fun i => ((whB x y i).1, (whB x y i).2, nI (i + 1))) 7 4000 (by decide) ?_ ?_
      · intro i hi K
        simp only [f_Model_where_L90, f_Model_where_J130]
        rw [if_neg (by rw [show (8 : Int32) = nI 8 from rfl]; exact nI_ge (by omega) (by decide)), ov_M (i + 1) (by omega), bd_s, bd_s, nm_s]
        show (if (whB x y i).2 ≤ whV x y (i + 1) then (if (whB x y i).2 ≤ whV x y (i + 1) then _ else _) else (if (whB x y i).2 ≤ whV x y (i + 1) then _ else _)) = _
        rw [show nI (i + 1) + (1 : Int32) = nI (i + 1 + 1) from nI_add (i + 1) 1]
        simp only [nm_s]
        by_cases c : (whB x y i).2 ≤ whV x y (i + 1)
        · rw [if_pos c, if_pos c, show whB x y (i + 1) = whB x y i from if_pos c]
        · rw [if_neg c, if_neg c, show whB x y (i + 1) = (nI (i + 1), whV x y (i + 1)) from if_neg c]
          rfl
      · intro K
        simp only [f_Model_where_L90]
        rw [if_pos (show (8 : Int32) ≤ nI (7 + 1) by decide)]
    rw [eC]
    unfold f_Model_where_J45
    rw [h2.hour, eh, show (0 : Int32) = nI 0 from rfl, show (1 : Int32) = nI 1 from rfl, let_M h1 h2 hd (by decide) hh, let_M h1 h2 hd (by decide) hh, due_M h1 h2 hd (by decide) hh, due_M h1 h2 hd (by decide) hh]
    simp only [bd_s, eJ]
    unfold cellP
    cases letB sH d 0 (vn sH 10 0) <;> cases letB sH d 1 (vn sH 10 0)
    · exact ⟨_, _, _, _, rfl, rfl, hR⟩
    · exact ⟨_, _, _, _, rfl, rfl, hR⟩
    · exact ⟨_, _, _, _, rfl, rfl, hR⟩
    · exact ⟨_, _, _, _, rfl, rfl, hR⟩
  · rw [if_neg c1]
    exact ⟨_, _, _, _, rfl, rfl, rel_bad hR⟩
