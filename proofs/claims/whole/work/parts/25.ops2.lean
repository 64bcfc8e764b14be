/-! ===== calls that change the house ===== -/
theorem rel_house {i0 i1 : Option PW} {sF sR sH sM : PW} {sN : PL} (h : Rel0 i0 i1 sF sR sH sM sN) {tH tM : PW} (ho : Ok tH) (hr : HR tH (tM 0) (tM 13) (tM 14 0)) (e3 : tM 3 = sM 3) (e4 : tM 4 = sM 4) (e5 : tM 5 = sM 5) (e18 : tM 18 = sM 18) (e19 : tM 19 = sM 19) (e20 : tM 20 = sM 20) (e21 : tM 21 = sM 21) : Rel0 i0 i1 sF sR tH tM sN := by
  obtain ⟨-, -, h3, h4, h7, h8, h9⟩ := h
  refine ⟨ho, hr, ?_, ?_, h7, ?_, ?_⟩
  · unfold TxR; rw [e4, e5]; exact h3
  · rw [e3]; exact h4
  · unfold ImR at *; rw [e18, e19, e20, e21]; exact h8
  · unfold ImR at *; rw [e18, e19, e20, e21]; exact h9
theorem cl0 {x : Int32} (h : x = 0) : x.toNatClampNeg = 0 := by subst h; rfl
theorem start_C (w : PW) (t : Int32) : ∃ tH : PW, f_House_start w t = some tH ∧ tH 7 0 = t ∧ tH 8 0 = 0 ∧ tH 9 0 = 0 ∧ tH 10 0 = 0 ∧ tH 11 0 = 0 ∧ tH 12 0 = 0 ∧ tH 13 0 = 0 ∧ tH 14 0 = 0 ∧ tH 1 0 = 1 ∧ tH 1 1 = 1 ∧ tH 2 0 = 0 ∧ tH 2 1 = 0 := ⟨_, rfl, rfl, rfl, rfl, rfl, rfl, rfl, rfl, rfl, rfl, rfl, rfl, rfl⟩
def anewS (st : Nat → Int32) (t : Int32) : Nat → Int32 := upd (upd (upd (fill (fun _ => 0) st 53) 4 t) 5 1) 6 1
def anewW (sM : PW) (t : Int32) : PW := up (up sM 0 (anewS (sM 0) t)) 14 (fun _ => 0)
theorem up0_fold (sM : PW) (g h : Nat → Int32) : up (up sM 0 g) 0 h = up sM 0 h := up_up sM 0 g h
theorem anew_M (sM : PW) (sN : PL) (t : Int32) : f_Model_anew sM sN t = some (anewW sM t, sN) := by
  unfold f_Model_anew
  have h0 : ((0 : Int32), sM, sN) = (fun i => (nI i, up sM 0 (fill (fun _ => 0) (sM 0) i), sN)) 0 := by
    show _ = (nI 0, up sM 0 (fill _ _ 0), sN)
    rw [fill_0, up_self]; rfl
  rw [h0]
  refine loop_seq (fun i => (nI i, up sM 0 (fill (fun _ => 0) (sM 0) i), sN)) 53 4000 (by decide) ?_ ?_
  · intro i hi K
    show (if (53 : Int32) ≤ nI i then _ else _) = _
    rw [if_neg (by rw [show (53 : Int32) = nI 53 from rfl]; exact nI_ge hi (by decide)), okI_nI (show i < 53 by omega) (by omega), nI_clamp (by omega)]
    show K (nI i + 1, up (up sM 0 _) 0 (upd (up sM 0 _ 0) i 0), sN) = _
    rw [up_up, up_eq, fill_upd (fun _ => 0), show nI i + (1 : Int32) = nI (i + 1) from nI_add i 1]
  · intro K
    show some (up (up (up (up (up sM 0 _) 0 (upd (up sM 0 _ 0) 4 t)) 0 (upd (up (up sM 0 _) 0 _ 0) 5 1)) 0 (upd (up (up (up sM 0 _) 0 _) 0 _ 0) 6 1)) 14 _, sN) = _
    simp only [up_up, up_eq]
    rfl
theorem ok_start {tH : PW} {t : Int32} (ht : okI t 10 = true) (h7 : tH 7 0 = t) (h8 : tH 8 0 = 0) (h9 : tH 9 0 = 0) (h10 : tH 10 0 = 0) (h12 : tH 12 0 = 0) (h13 : tH 13 0 = 0) (h14 : tH 14 0 = 0) (h1 : tH 1 0 = 1) (h11 : tH 1 1 = 1) : Ok tH := by
  refine ⟨by rw [h9]; rfl, by rw [h10]; rfl, by rw [h8]; rfl, by rw [h7]; exact ht, by rw [h1]; rfl, by rw [h11]; rfl, by rw [h12]; rfl, by rw [h13]; rfl, by rw [h14]; rfl, ?_, ?_, ?_⟩
  · intro k hk; rw [vn, cl0 h12] at hk; omega
  · intro k hk; rw [vn, cl0 h13] at hk; omega
  · intro k hk; rw [vn, cl0 h14] at hk; omega
theorem hr_start {tH : PW} {t : Int32} {st ah : Nat → Int32} {um : Int32} (h7 : tH 7 0 = t) (h8 : tH 8 0 = 0) (h9 : tH 9 0 = 0) (h10 : tH 10 0 = 0) (hp : tH 11 0 = 0) (h12 : tH 12 0 = 0) (h13 : tH 13 0 = 0) (h14 : tH 14 0 = 0) (h1 : tH 1 0 = 1) (h11 : tH 1 1 = 1) (h2 : tH 2 0 = 0) (h21 : tH 2 1 = 0) (hu : um = 0) : HR tH (anewS st t) ah um := by
  refine ⟨?_, ?_, ?_, ?_, ?_, ?_, ?_, ?_, ?_, ?_, ?_, ?_, ?_, ?_, ?_⟩
  · rw [h9]; rfl
  · rw [h10]; rfl
  · rw [hp]; rfl
  · rw [h8]; rfl
  · rw [h7]; rfl
  · rw [h1]; rfl
  · rw [h11]; rfl
  · rw [h2]; rfl
  · rw [h21]; rfl
  · rw [h12]; rfl
  · rw [h13]; rfl
  · rw [h14]; exact hu
  · intro k hk; rw [vn, cl0 h12] at hk; omega
  · intro k hk; rw [vn, cl0 h13] at hk; omega
  · intro k hk; rw [vn, cl0 h14] at hk; omega
theorem op_house : Op_house Rel0 := by
  intro i0 i1 sF sR sH sM sN hR a1
  have hR' := hR
  obtain ⟨h1, h2, -⟩ := hR'
  unfold f_Face_house f_Model_house
  rw [show (9 : Int32) = nI 9 from rfl, within_eq a1 (by decide), in0_eq a1 (m := 9) rfl]
  by_cases h : okI a1 (9 + 1) = true
  · rw [if_pos h]
    obtain ⟨tH, e, h7, h8, h9, h10, hp, h12, h13, h14, h1', h11, h2', h21⟩ := start_C sH a1
    rw [e, anew_M, h2.many]
    exact ⟨_, _, _, _, _, rfl, rfl, rel_house hR (ok_start h h7 h8 h9 h10 h12 h13 h14 h1' h11) (hr_start h7 h8 h9 h10 hp h12 h13 h14 h1' h11 h2' h21 rfl) rfl rfl rfl rfl rfl rfl rfl⟩
  · rw [if_neg h]
    exact ⟨_, _, _, _, _, rfl, rfl, rel_bad hR⟩
theorem start_rel : ∃ (tH tM : PW) (tN : PL), f_House_start pz 1 = some tH ∧ f_Model_anew pz (upL pzL 2 1) 1 = some (tM, tN) ∧ Rel0 none none (up pz 6 (fun _ => 1)) pz tH tM tN := by
  obtain ⟨tH, e, h7, h8, h9, h10, hp, h12, h13, h14, h1', h11, h2', h21⟩ := start_C pz 1
  refine ⟨tH, _, _, e, anew_M _ _ _, ok_start (by decide) h7 h8 h9 h10 h12 h13 h14 h1' h11, hr_start h7 h8 h9 h10 hp h12 h13 h14 h1' h11 h2' h21 rfl, ⟨rfl, by decide, fun k hk => ?_⟩, ⟨rfl, rfl, rfl⟩, ⟨rfl, rfl⟩, rfl, rfl⟩
  have : vn pz 2 0 = 0 := rfl
  omega
/-! rates and bars -/
theorem ok_rate {w : PW} (ho : Ok w) {s : Nat} (hs : s < 2) {x : Int32} (hx : okI x 10 = true) : Ok (up w 1 (upd (w 1) s x)) := by
  obtain ⟨h1, h2, h3, h4, h5, h6, h7⟩ := ho
  refine ⟨h1, h2, h3, h4, ?_, ?_, h7⟩
  · show okI (upd (w 1) s x 0) 10 = true
    by_cases e : 0 = s
    · subst e; rw [upd_eq]; exact hx
    · rw [upd_ne e]; exact h5
  · show okI (upd (w 1) s x 1) 10 = true
    by_cases e : 1 = s
    · subst e; rw [upd_eq]; exact hx
    · rw [upd_ne e]; exact h6
theorem hr_rate {w : PW} {st ah : Nat → Int32} {um : Int32} (hr : HR w st ah um) (ho : Ok w) {s : Nat} (hs : s < 2) (x : Int32) : HR (up w 1 (upd (w 1) s x)) (upd st (5 + s) x) ah um := by
  have h6 := ho.m6
  obtain ⟨h0, h1, h2, h3, h4, h5, h6', h7, h8, h9, h22, hu, hk, hn, hp⟩ := hr
  have ne : ∀ j, j ≠ 5 + s → upd st (5 + s) x j = st j := fun j hj => upd_ne hj
  refine ⟨?_, ?_, ?_, ?_, ?_, ?_, ?_, ?_, ?_, ?_, ?_, hu, ?_, ?_, hp⟩
  · rw [ne 0 (by omega)]; exact h0
  · rw [ne 1 (by omega)]; exact h1
  · rw [ne 2 (by omega)]; exact h2
  · rw [ne 3 (by omega)]; exact h3
  · rw [ne 4 (by omega)]; exact h4
  · show upd st (5 + s) x 5 = upd (w 1) s x 0
    rcases (show s = 0 ∨ s = 1 by omega) with rfl | rfl
    · rfl
    · exact h5
  · show upd st (5 + s) x 6 = upd (w 1) s x 1
    rcases (show s = 0 ∨ s = 1 by omega) with rfl | rfl
    · exact h6'
    · rfl
  · rw [ne 7 (by omega)]; exact h7
  · rw [ne 8 (by omega)]; exact h8
  · rw [ne 9 (by omega)]; exact h9
  · rw [ne 22 (by omega)]; exact h22
  · intro k hk'
    rw [ne _ (by omega), ne _ (by omega)]; exact hk k hk'
  · intro k hk'
    rw [ne _ (by omega)]; exact hn k hk'
theorem hr_bar {w : PW} {st ah : Nat → Int32} {um : Int32} (hr : HR w st ah um) (ho : Ok w) {s : Nat} (hs : s < 2) (x : Int32) : HR (up w 2 (upd (w 2) s x)) (upd st (7 + s) x) ah um := by
  have h6 := ho.m6
  obtain ⟨h0, h1, h2, h3, h4, h5, h6', h7, h8, h9, h22, hu, hk, hn, hp⟩ := hr
  have ne : ∀ j, j ≠ 7 + s → upd st (7 + s) x j = st j := fun j hj => upd_ne hj
  refine ⟨?_, ?_, ?_, ?_, ?_, ?_, ?_, ?_, ?_, ?_, ?_, hu, ?_, ?_, hp⟩
  · rw [ne 0 (by omega)]; exact h0
  · rw [ne 1 (by omega)]; exact h1
  · rw [ne 2 (by omega)]; exact h2
  · rw [ne 3 (by omega)]; exact h3
  · rw [ne 4 (by omega)]; exact h4
  · rw [ne 5 (by omega)]; exact h5
  · rw [ne 6 (by omega)]; exact h6'
  · show upd st (7 + s) x 7 = upd (w 2) s x 0
    rcases (show s = 0 ∨ s = 1 by omega) with rfl | rfl
    · rfl
    · exact h7
  · show upd st (7 + s) x 8 = upd (w 2) s x 1
    rcases (show s = 0 ∨ s = 1 by omega) with rfl | rfl
    · exact h8
    · rfl
  · rw [ne 9 (by omega)]; exact h9
  · rw [ne 22 (by omega)]; exact h22
  · intro k hk'
    rw [ne _ (by omega), ne _ (by omega)]; exact hk k hk'
  · intro k hk'
    rw [ne _ (by omega)]; exact hn k hk'
theorem op_rate : Op_rate Rel0 := by
  intro i0 i1 sF sR sH sM sN hR a1 a2
  have hR' := hR
  obtain ⟨h1, h2, -⟩ := hR'
  unfold f_Face_rate f_Model_rate
  rw [side_C, side_M, show (9 : Int32) = nI 9 from rfl, within_eq a2 (by decide), in0_eq a2 (m := 9) rfl]
  by_cases hso : okI a1 2 = true
  · rw [if_pos hso]
    by_cases h : okI a2 (9 + 1) = true
    · rw [if_pos h]
      obtain ⟨s, hs, hs2, rfl⟩ := okI_nat hso
      rw [hso, show (5 : Int32) + nI s = nI (5 + s) from nI_add 5 s, okI_nI (show 5 + s < 53 by omega) (by omega), nI_clamp hs2, nI_clamp (by omega), h2.rate hs]
      exact ⟨_, _, _, _, _, rfl, rfl, rel_house hR (ok_rate h1 hs h) (hr_rate h2 h1 hs a2) rfl rfl rfl rfl rfl rfl rfl⟩
    · rw [if_neg h]
      exact ⟨_, _, _, _, _, rfl, rfl, rel_bad hR⟩
  · rw [if_neg hso]
    exact ⟨_, _, _, _, _, rfl, rfl, rel_bad hR⟩
theorem op_bar : Op_bar Rel0 := by
  intro i0 i1 sF sR sH sM sN hR a1 a2
  have hR' := hR
  obtain ⟨h1, h2, -⟩ := hR'
  unfold f_Face_bar f_Model_bar
  rw [side_C, side_M, show (16777215 : Int32) = nI 16777215 from rfl, within_eq a2 (by decide), in0_eq a2 (m := 16777215) rfl]
  by_cases hso : okI a1 2 = true
  · rw [if_pos hso]
    by_cases h : okI a2 (16777215 + 1) = true
    · rw [if_pos h]
      obtain ⟨s, hs, hs2, rfl⟩ := okI_nat hso
      rw [hso, show (7 : Int32) + nI s = nI (7 + s) from nI_add 7 s, okI_nI (show 7 + s < 53 by omega) (by omega), nI_clamp hs2, nI_clamp (by omega), h2.barred hs]
      exact ⟨_, _, _, _, _, rfl, rfl, rel_house hR h1 (hr_bar h2 h1 hs a2) rfl rfl rfl rfl rfl rfl rfl⟩
    · rw [if_neg h]
      exact ⟨_, _, _, _, _, rfl, rfl, rel_bad hR⟩
  · rw [if_neg hso]
    exact ⟨_, _, _, _, _, rfl, rfl, rel_bad hR⟩
/-! doings and notes -/
theorem vn_up {w : PW} {k i j : Nat} {g : Nat → Int32} (h : i ≠ k) : vn (up w k g) i j = vn w i j := by unfold vn; rw [up_ne h]
theorem add_C {w : PW} (ho : Ok w) {k x : Int32} (hk : okI k 6 = true) (hx : okI x 21 = true) (hm : vn w 12 0 < 6) : ∃ tH : PW, f_House_addDoing w k x = some (nI (vn w 12 0), tH) ∧ Ok tH ∧ tH 14 0 = 0 ∧ ∀ (st ah : Nat → Int32) (um : Int32), HR w st ah um → HR tH (upd (upd (upd st (10 + vn w 12 0) k) (16 + vn w 12 0) x) 9 (nI (vn w 12 0 + 1))) ah 0 := by
  obtain ⟨h7, e⟩ := okV ho.many
  have hv1 : (nI (vn w 12 0 + 1)).toNatClampNeg = vn w 12 0 + 1 := nI_clamp (by omega)
  unfold f_House_addDoing
  rw [e, okI_nI (show vn w 12 0 < 6 by omega) (by omega), nI_clamp (by omega)]
  show ∃ tH : PW, gd (okI (w 12 0) 6) (some ((w 12 0 + 1) - 1, up (up (up (up w 3 (upd (w 3) (vn w 12 0) k)) 4 (upd (w 4) (w 12 0).toNatClampNeg x)) 12 (fun _ => w 12 0 + 1)) 14 (fun _ => 0))) = some (nI (vn w 12 0), tH) ∧ _
  rw [e, okI_nI (show vn w 12 0 < 6 by omega) (by omega), nI_clamp (by omega), show nI (vn w 12 0) + (1 : Int32) = nI (vn w 12 0 + 1) from nI_add _ 1, show nI (vn w 12 0 + 1) - (1 : Int32) = nI (vn w 12 0 + 1 - 1) from nI_sub (b := 1) (by omega) (by omega)]
  refine ⟨_, rfl, ?_, rfl, ?_⟩
  · obtain ⟨h1, h2, h3, h4, h5, h6, -, h8, -, hkw, hn, -⟩ := ho
    refine ⟨h1, h2, h3, h4, h5, h6, okI_nI (show vn w 12 0 + 1 < 7 by omega) (by omega), h8, rfl, ?_, hn, ?_⟩
    · intro j hj
      have hj : j < vn w 12 0 + 1 := by
        have : j < (nI (vn w 12 0 + 1)).toNatClampNeg := hj
        rw [hv1] at this
        exact this
      show okI (upd (w 3) (vn w 12 0) k j) 6 = true ∧ okI (upd (w 4) (vn w 12 0) x j) 21 = true
      by_cases ej : j = vn w 12 0
      · subst ej; rw [upd_eq, upd_eq]; exact ⟨hk, hx⟩
      · rw [upd_ne ej, upd_ne ej]; exact hkw j (by omega)
    · intro j hj
      have hj : j < (0 : Int32).toNatClampNeg := hj
      exact absurd hj (by rw [cl0 rfl]; omega)
  · intro st ah um hr
    obtain ⟨h0, h1, h2, h3, h4, h5, h6', h7', h8, h9, h22, hu, hk', hn, hp⟩ := hr
    have ne : ∀ j, j ≠ 10 + vn w 12 0 → j ≠ 16 + vn w 12 0 → j ≠ 9 → upd (upd (upd st (10 + vn w 12 0) k) (16 + vn w 12 0) x) 9 (nI (vn w 12 0 + 1)) j = st j := fun j a b c => by rw [upd_ne c, upd_ne b, upd_ne a]
    refine ⟨?_, ?_, ?_, ?_, ?_, ?_, ?_, ?_, ?_, ?_, ?_, rfl, ?_, ?_, ?_⟩
    · rw [ne 0 (by omega) (by omega) (by omega)]; exact h0
    · rw [ne 1 (by omega) (by omega) (by omega)]; exact h1
    · rw [ne 2 (by omega) (by omega) (by omega)]; exact h2
    · rw [ne 3 (by omega) (by omega) (by omega)]; exact h3
    · rw [ne 4 (by omega) (by omega) (by omega)]; exact h4
    · rw [ne 5 (by omega) (by omega) (by omega)]; exact h5
    · rw [ne 6 (by omega) (by omega) (by omega)]; exact h6'
    · rw [ne 7 (by omega) (by omega) (by omega)]; exact h7'
    · rw [ne 8 (by omega) (by omega) (by omega)]; exact h8
    · rw [upd_eq]; rfl
    · rw [ne 22 (by omega) (by omega) (by omega)]; exact h22
    · intro j hj
      have hj : j < vn w 12 0 + 1 := by
        have : j < (nI (vn w 12 0 + 1)).toNatClampNeg := hj
        rw [hv1] at this
        exact this
      show _ = upd (w 3) (vn w 12 0) k j ∧ _ = upd (w 4) (vn w 12 0) x j
      by_cases ej : j = vn w 12 0
      · rw [ej, upd_eq, upd_eq, upd_ne (by omega), upd_ne (by omega), upd_eq, upd_ne (by omega), upd_eq]
        exact ⟨rfl, rfl⟩
      · rw [upd_ne ej, upd_ne ej, ne _ (by omega) (by omega) (by omega), ne _ (by omega) (by omega) (by omega)]
        exact hk' j (by omega)
    · intro j hj
      rw [ne _ (by omega) (by omega) (by omega)]
      exact hn j hj
    · intro j hj
      have hj : j < 4 * (0 : Int32).toNatClampNeg := hj
      exact absurd hj (by rw [cl0 rfl]; omega)
theorem addM_eq {w sM : PW} {sN : PL} {ah : Nat → Int32} {um : Int32} (ho : Ok w) (hr : HR w (sM 0) ah um) (hm : vn w 12 0 < 6) (k x : Int32) : f_Model_add sM sN k x = some (up sM 0 (upd (upd (upd (sM 0) (10 + vn w 12 0) k) (16 + vn w 12 0) x) 9 (nI (vn w 12 0 + 1))), sN) := by
  obtain ⟨h7, e⟩ := okV ho.many
  have e9 : sM 0 9 = nI (vn w 12 0) := hr.many.trans e
  unfold f_Model_add
  rw [e9, show (10 : Int32) + nI (vn w 12 0) = nI (10 + vn w 12 0) from nI_add 10 _, okI_nI (show 10 + vn w 12 0 < 53 by omega) (by omega), nI_clamp (by omega)]
  have e92 : up sM 0 (upd (sM 0) (10 + vn w 12 0) k) 0 9 = nI (vn w 12 0) := by rw [up_eq, upd_ne (by omega)]; exact e9
  show gd (okI ((16 : Int32) + up sM 0 (upd (sM 0) (10 + vn w 12 0) k) 0 9) 53) (nm (up (up sM 0 (upd (sM 0) (10 + vn w 12 0) k)) 0 (upd (up sM 0 (upd (sM 0) (10 + vn w 12 0) k) 0) ((16 : Int32) + up sM 0 (upd (sM 0) (10 + vn w 12 0) k) 0 9).toNatClampNeg x)) (fun sM4 => nm (up sM4 0 (upd (sM4 0) 9 ((sM4 0 9) + (1 : Int32)))) (fun sM5 => some (sM5, sN)))) = _
  rw [e92, show (16 : Int32) + nI (vn w 12 0) = nI (16 + vn w 12 0) from nI_add 16 _, okI_nI (show 16 + vn w 12 0 < 53 by omega) (by omega), nI_clamp (by omega), up_up, up_eq, gd_t, nm_s, nm_s, up_eq, up_up]
  rw [show upd (upd (sM 0) (10 + vn w 12 0) k) (16 + vn w 12 0) x 9 = nI (vn w 12 0) by rw [upd_ne (by omega), upd_ne (by omega)]; exact e9, show nI (vn w 12 0) + (1 : Int32) = nI (vn w 12 0 + 1) from nI_add _ 1]
theorem op_doing : Op_doing Rel0 := by
  intro i0 i1 sF sR sH sM sN hR a1 a2
  have hR' := hR
  obtain ⟨h1, h2, -⟩ := hR'
  obtain ⟨h7, e⟩ := okV h1.many
  unfold f_Face_doing f_Model_doing
  rw [show (5 : Int32) = nI 5 from rfl, within_eq a1 (by decide), in0_eq a1 (m := 5) rfl, show (20 : Int32) = nI 20 from rfl, within_eq a2 (by decide), in0_eq a2 (m := 20) rfl]
  by_cases hko : okI a1 (5 + 1) = true
  · rw [if_pos hko]
    by_cases hwo : okI a2 (20 + 1) = true
    · rw [if_pos hwo, h2.many, e, show (6 : Int32) = nI 6 from rfl]
      by_cases hm : vn sH 12 0 < 6
      · obtain ⟨tH, e1, o1, -, hr1⟩ := add_C h1 hko hwo hm
        rw [e1, addM_eq h1 h2 hm]
        rw [bd_s, if_10, bd_s, if_10, if_pos (nI_lt hm (by decide)), bd_s, if_10, bd_s, if_10, if_neg (by rw [nI_eq (by omega) (by decide)]; omega), bd2_s, bd2_s, nm_s]
        refine ⟨_, _, _, up (up sM 0 (upd (upd (upd (sM 0) (10 + vn sH 12 0) a1) (16 + vn sH 12 0) a2) 9 (nI (vn sH 12 0 + 1)))) 14 (fun _ => (0 : Int32)), sN, rfl, ?_, rel_house hR o1 (hr1 _ _ _ h2) rfl rfl rfl rfl rfl rfl rfl⟩
        rw [show up (up sM 0 (upd (upd (upd (sM 0) (10 + vn sH 12 0) a1) (16 + vn sH 12 0) a2) 9 (nI (vn sH 12 0 + 1)))) 14 (fun _ => (0 : Int32)) 0 9 = nI (vn sH 12 0 + 1) from rfl, show nI (vn sH 12 0 + 1) - (1 : Int32) = nI (vn sH 12 0 + 1 - 1) from nI_sub (b := 1) (by omega) (by omega)]
        rfl
      · have hm6 : vn sH 12 0 = 6 := by omega
        rw [hm6]
        exact ⟨_, _, _, _, _, rfl, rfl, rel_full hR⟩
    · rw [if_neg hwo]
      exact ⟨_, _, _, _, _, rfl, rfl, rel_bad hR⟩
  · rw [if_neg hko]
    exact ⟨_, _, _, _, _, rfl, rfl, rel_bad hR⟩
