/-! ===== notes, text, steps ===== -/
theorem op_forget : Op_forget Rel0 := by
  intro i0 i1 sF sR sH sM sN hR _
  have hR' := hR
  obtain ⟨h1, h2, -⟩ := hR'
  refine ⟨_, _, _, _, rfl, by unfold f_Model_forget; rw [h2.notes]; rfl, rel_house (tM := up sM 0 (upd (sM 0) 22 (0 : Int32))) hR ?_ ?_ rfl rfl rfl rfl rfl rfl rfl⟩
  · obtain ⟨g1, g2, g3, g4, g5, g6, g7, -, g9, hkw, -, hp⟩ := h1
    refine ⟨g1, g2, g3, g4, g5, g6, g7, rfl, g9, hkw, ?_, hp⟩
    intro k hk
    have hk : k < (0 : Int32).toNatClampNeg := hk
    exact absurd hk (by rw [cl0 rfl]; omega)
  · have h6 := h1.m6
    obtain ⟨g0, g1, g2, g3, g4, g5, g6', g7, g8, g9, g22, hu, hk, hn, hp⟩ := h2
    refine ⟨g0, g1, g2, g3, g4, g5, g6', g7, g8, g9, rfl, hu, ?_, ?_, hp⟩
    · intro k hk'
      show upd (sM 0) 22 0 (10 + k) = _ ∧ upd (sM 0) 22 0 (16 + k) = _
      have hk6 : k < vn sH 12 0 := hk'
      rw [upd_ne (by omega), upd_ne (by omega)]
      exact hk k hk'
    · intro k hk
      have hk : k < 5 * (0 : Int32).toNatClampNeg := hk
      exact absurd hk (by rw [cl0 rfl]; omega)
theorem note_C {w : PW} (ho : Ok w) {d s h wr n : Int32} (hs : okI s 2 = true) (hh : okI h 24 = true) (hw : okI wr 2 = true) (hm : vn w 13 0 < 6) : ∃ tH : PW, f_House_addNote w d s h wr n = some (nI (vn w 13 0 + 1), tH) ∧ Ok tH ∧ ∀ (st ah : Nat → Int32) (um : Int32), HR w st ah um → HR tH (upd (upd (upd (upd (upd (upd st (23 + 5 * vn w 13 0) d) (23 + 5 * vn w 13 0 + 1) s) (23 + 5 * vn w 13 0 + 2) h) (23 + 5 * vn w 13 0 + 3) wr) (23 + 5 * vn w 13 0 + 4) n) 22 (nI (vn w 13 0 + 1))) ah um := by
  obtain ⟨h7, e⟩ := okV ho.notes
  have hv1 : (nI (vn w 13 0 + 1)).toNatClampNeg = vn w 13 0 + 1 := nI_clamp (by omega)
  unfold f_House_addNote
  rw [e, show nI (vn w 13 0) * (5 : Int32) = nI (5 * vn w 13 0) by rw [show (5 : Int32) = nI 5 from rfl, nI_mul, Nat.mul_comm]]
  generalize hq : 5 * vn w 13 0 = q
  rw [nm_s, show nI q + (1 : Int32) = nI (q + 1) from nI_add q 1, show nI q + (2 : Int32) = nI (q + 2) from nI_add q 2, show nI q + (3 : Int32) = nI (q + 3) from nI_add q 3, show nI q + (4 : Int32) = nI (q + 4) from nI_add q 4, okI_nI (show q < 30 by omega) (by omega), okI_nI (show q + 1 < 30 by omega) (by omega), okI_nI (show q + 2 < 30 by omega) (by omega), okI_nI (show q + 3 < 30 by omega) (by omega), okI_nI (show q + 4 < 30 by omega) (by omega), nI_clamp (by omega), nI_clamp (by omega), nI_clamp (by omega), nI_clamp (by omega), nI_clamp (by omega)]
  simp only [gd_t, nm_s, up_up, up_eq]
  show ∃ tH : PW, some (w 13 0 + 1, up (up w 5 (upd (upd (upd (upd (upd (w 5) q d) (q + 1) s) (q + 2) h) (q + 3) wr) (q + 4) n)) 13 (fun _ => w 13 0 + 1)) = some (nI (vn w 13 0 + 1), tH) ∧ _
  rw [e, show nI (vn w 13 0) + (1 : Int32) = nI (vn w 13 0 + 1) from nI_add _ 1]
  refine ⟨_, rfl, ?_, ?_⟩
  · obtain ⟨g1, g2, g3, g4, g5, g6, g7, -, g9, hkw, hn, hp⟩ := ho
    refine ⟨g1, g2, g3, g4, g5, g6, g7, okI_nI (show vn w 13 0 + 1 < 7 by omega) (by omega), g9, hkw, ?_, hp⟩
    intro k hk
    have hk : k < vn w 13 0 + 1 := by
      have : k < (nI (vn w 13 0 + 1)).toNatClampNeg := hk
      rw [hv1] at this
      exact this
    show okI (upd (upd (upd (upd (upd (w 5) q d) (q + 1) s) (q + 2) h) (q + 3) wr) (q + 4) n (5 * k + 1)) 2 = true ∧ okI (upd (upd (upd (upd (upd (w 5) q d) (q + 1) s) (q + 2) h) (q + 3) wr) (q + 4) n (5 * k + 2)) 24 = true ∧ okI (upd (upd (upd (upd (upd (w 5) q d) (q + 1) s) (q + 2) h) (q + 3) wr) (q + 4) n (5 * k + 3)) 2 = true
    by_cases ek : k = vn w 13 0
    · rw [ek, hq]
      refine ⟨?_, ?_, ?_⟩
      · rw [upd_ne (by omega), upd_ne (by omega), upd_ne (by omega), upd_eq]; exact hs
      · rw [upd_ne (by omega), upd_ne (by omega), upd_eq]; exact hh
      · rw [upd_ne (by omega), upd_eq]; exact hw
    · have ne : ∀ j, j < q → upd (upd (upd (upd (upd (w 5) q d) (q + 1) s) (q + 2) h) (q + 3) wr) (q + 4) n j = w 5 j := fun j hj => by rw [upd_ne (by omega), upd_ne (by omega), upd_ne (by omega), upd_ne (by omega), upd_ne (by omega)]
      rw [ne _ (by omega), ne _ (by omega), ne _ (by omega)]
      exact hn k (by omega)
  · intro st ah um hr
    have h6 := ho.m6
    obtain ⟨g0, g1, g2, g3, g4, g5, g6', g7, g8, g9, g22, hu, hk, hn, hp⟩ := hr
    have ne : ∀ j, j < 23 + q → j ≠ 22 → upd (upd (upd (upd (upd (upd st (23 + q) d) (23 + q + 1) s) (23 + q + 2) h) (23 + q + 3) wr) (23 + q + 4) n) 22 (nI (vn w 13 0 + 1)) j = st j := fun j a b => by rw [upd_ne b, upd_ne (by omega), upd_ne (by omega), upd_ne (by omega), upd_ne (by omega), upd_ne (by omega)]
    refine ⟨?_, ?_, ?_, ?_, ?_, ?_, ?_, ?_, ?_, ?_, ?_, hu, ?_, ?_, hp⟩
    · rw [ne 0 (by omega) (by omega)]; exact g0
    · rw [ne 1 (by omega) (by omega)]; exact g1
    · rw [ne 2 (by omega) (by omega)]; exact g2
    · rw [ne 3 (by omega) (by omega)]; exact g3
    · rw [ne 4 (by omega) (by omega)]; exact g4
    · rw [ne 5 (by omega) (by omega)]; exact g5
    · rw [ne 6 (by omega) (by omega)]; exact g6'
    · rw [ne 7 (by omega) (by omega)]; exact g7
    · rw [ne 8 (by omega) (by omega)]; exact g8
    · rw [ne 9 (by omega) (by omega)]; exact g9
    · rw [upd_eq]; rfl
    · intro k hk'
      have hk6 : k < vn w 12 0 := hk'
      rw [ne _ (by omega) (by omega), ne _ (by omega) (by omega)]
      exact hk k hk6
    · intro k hk'
      have hk' : k < 5 * (vn w 13 0 + 1) := by
        have : k < 5 * (nI (vn w 13 0 + 1)).toNatClampNeg := hk'
        rw [hv1] at this
        exact this
      show _ = upd (upd (upd (upd (upd (w 5) q d) (q + 1) s) (q + 2) h) (q + 3) wr) (q + 4) n k
      by_cases e0 : k < q
      · rw [ne _ (by omega) (by omega), upd_ne (by omega), upd_ne (by omega), upd_ne (by omega), upd_ne (by omega), upd_ne (by omega)]
        exact hn k (by omega)
      · rcases (show k = q ∨ k = q + 1 ∨ k = q + 2 ∨ k = q + 3 ∨ k = q + 4 by omega) with rfl | rfl | rfl | rfl | rfl
        · rw [upd_ne (by omega), upd_ne (by omega), upd_ne (by omega), upd_ne (by omega), upd_ne (by omega), upd_eq, upd_ne (by omega), upd_ne (by omega), upd_ne (by omega), upd_ne (by omega), upd_eq]
        · rw [upd_ne (by omega), upd_ne (by omega), upd_ne (by omega), upd_ne (by omega), ← Nat.add_assoc, upd_eq, upd_ne (by omega), upd_ne (by omega), upd_ne (by omega), upd_eq]
        · rw [upd_ne (by omega), upd_ne (by omega), upd_ne (by omega), ← Nat.add_assoc, upd_eq, upd_ne (by omega), upd_ne (by omega), upd_eq]
        · rw [upd_ne (by omega), upd_ne (by omega), ← Nat.add_assoc, upd_eq, upd_ne (by omega), upd_eq]
        · rw [upd_ne (by omega), ← Nat.add_assoc, upd_eq, upd_eq]
theorem op_note : Op_note Rel0 := by
  intro i0 i1 sF sR sH sM sN hR a1 a2 a3 a4 a5
  have hR' := hR
  obtain ⟨h1, h2, -⟩ := hR'
  obtain ⟨h7, e⟩ := okV h1.notes
  have e22 : sM 0 22 = nI (vn sH 13 0) := h2.notes.trans e
  unfold f_Face_note f_Model_note
  rw [doing_C h1, doing_M h1 h2, side_C, side_M, hour_C, hour_M, show f_Face_within a4 (1 : Int32) = some (if okI a4 2 = true then 1 else 0) from within_eq a4 (m := 1) (by decide), in0_eq a4 (m := 1) rfl, show f_Face_within a5 (60 : Int32) = some (if okI a5 61 = true then 1 else 0) from within_eq a5 (m := 60) (by decide), in0_eq a5 (m := 60) rfl]
  by_cases c1 : okI a1 (vn sH 12 0) = true
  · rw [if_pos c1]
    by_cases c2 : okI a2 2 = true
    · rw [if_pos c2]
      by_cases c3 : okI a3 24 = true
      · rw [if_pos c3]
        by_cases c4 : okI a4 2 = true
        · rw [if_pos c4]
          by_cases c5 : okI a5 61 = true
          · rw [if_pos c5]
            try rw [if_pos (show okI a5 (60 + 1) = true from c5)]
            rw [e, e22, show (6 : Int32) = nI 6 from rfl]
            by_cases hm : vn sH 13 0 < 6
            · obtain ⟨tH, e1, o1, hr1⟩ := note_C (d := a1) (n := a5) h1 c2 c3 c4 hm
              rw [e1]
              simp only [bd_s, if_10]
              rw [if_pos (nI_lt hm (by decide)), if_neg (by rw [nI_eq (by omega) (by decide)]; omega), show (5 : Int32) * nI (vn sH 13 0) = nI (5 * vn sH 13 0) from nI_mul 5 _, show (23 : Int32) + nI (5 * vn sH 13 0) = nI (23 + 5 * vn sH 13 0) from nI_add 23 _]
              have hq : 23 + 5 * vn sH 13 0 + 4 < 53 := by omega
              have hq2 : 23 ≤ 23 + 5 * vn sH 13 0 := by omega
              have hr2 := hr1 _ _ _ h2
              generalize 23 + 5 * vn sH 13 0 = q at hq hq2 hr2 ⊢
              rw [nm_s, show nI q + (1 : Int32) = nI (q + 1) from nI_add q 1, show nI q + (2 : Int32) = nI (q + 2) from nI_add q 2, show nI q + (3 : Int32) = nI (q + 3) from nI_add q 3, show nI q + (4 : Int32) = nI (q + 4) from nI_add q 4, okI_nI (show q < 53 by omega) (by omega), okI_nI (show q + 1 < 53 by omega) (by omega), okI_nI (show q + 2 < 53 by omega) (by omega), okI_nI (show q + 3 < 53 by omega) (by omega), okI_nI (show q + 4 < 53 by omega) (by omega), nI_clamp (by omega), nI_clamp (by omega), nI_clamp (by omega), nI_clamp (by omega), nI_clamp (by omega)]
              simp only [gd_t, nm_s, up_up, up_eq, bd2_s]
              have e9 : upd (upd (upd (upd (upd (sM 0) q a1) (q + 1) a2) (q + 2) a3) (q + 3) a4) (q + 4) a5 22 + 1 = nI (vn sH 13 0 + 1) := by
                rw [upd_ne (by omega), upd_ne (by omega), upd_ne (by omega), upd_ne (by omega), upd_ne (by omega), e22]; exact nI_add _ 1
              rw [e9, upd_eq]
              exact ⟨_, _, _, _, _, rfl, rfl, rel_house (tM := up sM 0 _) hR o1 hr2 rfl rfl rfl rfl rfl rfl rfl⟩
            · have hm6 : vn sH 13 0 = 6 := by omega
              rw [hm6]
              exact ⟨_, _, _, _, _, rfl, rfl, rel_full hR⟩
          · rw [if_neg c5]
            try rw [if_neg (show ¬ okI a5 (60 + 1) = true from c5)]
            exact ⟨_, _, _, _, _, rfl, rfl, rel_bad hR⟩
        · rw [if_neg c4]
          exact ⟨_, _, _, _, _, rfl, rfl, rel_bad hR⟩
      · rw [if_neg c3]
        exact ⟨_, _, _, _, _, rfl, rfl, rel_bad hR⟩
    · rw [if_neg c2]
      exact ⟨_, _, _, _, _, rfl, rfl, rel_bad hR⟩
  · rw [if_neg c1]
    exact ⟨_, _, _, _, _, rfl, rfl, rel_bad hR⟩
/-! the text -/
theorem op_clear : Op_clear Rel0 := by
  intro i0 i1 sF sR sH sM sN hR _
  have hR' := hR
  obtain ⟨h1, h2, h3, h4, h5, h6, h7⟩ := hR'
  refine ⟨_, _, up sM 5 (fun _ => (0 : Int32)), sN, rfl, by unfold f_Model_clear; rw [← h3.1]; rfl, h1, h2, ⟨rfl, okI_nI (j := 0) (n := 151) (by decide) (by decide), ?_⟩, h4, h5, h6, h7⟩
  intro k hk
  have hk : k < (0 : Int32).toNatClampNeg := hk
  exact absurd hk (by rw [cl0 rfl]; omega)
set_option maxRecDepth 100000 in
theorem byte_eq : ∀ c, c < 128 → vp_nar .byte (nI c).toInt8.toInt32 = nI c := by decide +kernel
theorem op_type : Op_type Rel0 := by
  intro i0 i1 sF sR sH sM sN hR a1
  have hR' := hR
  obtain ⟨h1, h2, ⟨t1, t2, t3⟩, h4, h5, h6, h7⟩ := hR'
  obtain ⟨hl, el⟩ := okV t2
  unfold f_Face_type f_Model_type
  rw [show (127 : Int32) = nI 127 from rfl, within_eq a1 (by decide), in0_eq a1 (m := 127) rfl]
  by_cases hc : okI a1 (127 + 1) = true
  · rw [if_pos hc, ← t1, el, show (150 : Int32) = nI 150 from rfl]
    by_cases hm : vn sR 2 0 < 150
    · obtain ⟨c, hc1, hc2, rfl⟩ := okI_nat hc
      unfold f_Reader_append
      rw [el, okI_nI hm (by omega), nI_clamp (by omega), byte_eq c hc1]
      simp only [bd_s, if_10, gd_t, nm_s]
      rw [if_pos (nI_lt hm (by decide)), if_neg (by rw [nI_eq (by omega) (by decide)]; omega), bd2_s]
      have e1 : up sR 1 (upd (sR 1) (vn sR 2 0) (nI c)) 2 0 + 1 = nI (vn sR 2 0 + 1) := by
        show sR 2 0 + 1 = _
        rw [el]; exact nI_add _ 1
      have e2 : up sM 4 (upd (sM 4) (vn sR 2 0) (nI c)) 5 0 + 1 = nI (vn sR 2 0 + 1) := by
        show sM 5 0 + 1 = _
        rw [← t1, el]; exact nI_add _ 1
      rw [e1, e2]
      refine ⟨_, _, _, _, _, rfl, rfl, h1, h2, ⟨rfl, okI_nI (show vn sR 2 0 + 1 < 151 by omega) (by omega), ?_⟩, h4, h5, h6, h7⟩
      intro k hk
      have hk : k < vn sR 2 0 + 1 := by
        have : k < (nI (vn sR 2 0 + 1)).toNatClampNeg := hk
        rw [nI_clamp (by omega)] at this
        exact this
      show upd (sR 1) (vn sR 2 0) (nI c) k = upd (sM 4) (vn sR 2 0) (nI c) k ∧ okI (upd (sR 1) (vn sR 2 0) (nI c) k) 128 = true
      by_cases ek : k = vn sR 2 0
      · rw [ek, upd_eq, upd_eq]; exact ⟨rfl, okI_nI hc1 hc2⟩
      · rw [upd_ne ek, upd_ne ek]; exact t3 k (by omega)
    · have hm6 : vn sR 2 0 = 150 := by omega
      rw [hm6]
      exact ⟨_, _, _, _, _, rfl, rfl, rel_full hR⟩
  · rw [if_neg hc]
    exact ⟨_, _, _, _, _, rfl, rfl, rel_bad hR⟩
