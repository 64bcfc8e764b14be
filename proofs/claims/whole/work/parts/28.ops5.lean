/-! ===== undo, images, digest ===== -/
theorem back_C {w : PW} (ho : Ok w) {q : Nat} (hq : vn w 14 0 = q + 1) : f_House_takeBack w = some (up (up (up (up (up w 14 (fun _ => nI q)) 9 (fun _ => w 6 (4 * q))) 10 (fun _ => w 6 (4 * q + 1))) 11 (fun _ => w 6 (4 * q + 2))) 8 (fun _ => w 6 (4 * q + 3))) := by
  obtain ⟨h9, e⟩ := okV ho.steps
  obtain ⟨-, -, hw⟩ := ho.past (k := q) (by omega)
  have e1 : w 14 0 - (1 : Int32) = nI q := by rw [e, hq]; exact nI_sub (b := 1) (by omega) (by omega)
  unfold f_House_takeBack
  simp only [nm_s]
  rw [e1, show up w 14 (fun _ => nI q) 14 0 = nI q from rfl, show nI q * (4 : Int32) = nI (4 * q) by rw [show (4 : Int32) = nI 4 from rfl, nI_mul, Nat.mul_comm]]
  generalize hr : 4 * q = r at hw ⊢
  rw [show nI r + (1 : Int32) = nI (r + 1) from nI_add r 1, show nI r + (2 : Int32) = nI (r + 2) from nI_add r 2, show nI r + (3 : Int32) = nI (r + 3) from nI_add r 3, okI_nI (show r < 32 by omega) (by omega), okI_nI (show r + 1 < 32 by omega) (by omega), okI_nI (show r + 2 < 32 by omega) (by omega), okI_nI (show r + 3 < 32 by omega) (by omega), nI_clamp (by omega), nI_clamp (by omega), nI_clamp (by omega), nI_clamp (by omega)]
  simp only [gd_t]
  obtain ⟨j, hj, -, ej⟩ := okI_nat hw
  rw [show up (up (up (up w 14 fun _ => nI q) 9 fun _ => up w 14 (fun _ => nI q) 6 r) 10 fun _ => up (up w 14 fun _ => nI q) 9 (fun _ => up w 14 (fun _ => nI q) 6 r) 6 (r + 1)) 11 (fun _ => up (up (up w 14 fun _ => nI q) 9 fun _ => up w 14 (fun _ => nI q) 6 r) 10 (fun _ => up (up w 14 fun _ => nI q) 9 (fun _ => up w 14 (fun _ => nI q) 6 r) 6 (r + 1)) 6 (r + 2)) 6 (r + 3) = w 6 (r + 3) from rfl, ej]
  rcases (show j = 0 ∨ j = 1 by omega) with rfl | rfl
  · rfl
  · rfl
theorem undo_M {sM : PW} {sN : PL} {q : Nat} (hq : q < 8) (e : sM 14 0 = nI (q + 1)) : f_Model_undo sM sN = some (sM 13 (4 * q + 2), up (up sM 14 (fun _ => nI q)) 0 (fill (fun k => sM 13 (4 * q + k)) (sM 0) 4), sN) := by
  unfold f_Model_undo
  rw [e, if_neg (by rw [show (0 : Int32) = nI 0 from rfl, nI_eq (by omega) (by decide)]; omega), nm_s, show nI (q + 1) - (1 : Int32) = nI q from nI_sub (b := 1) (by omega) (by omega)]
  have h0 : ((0 : Int32), up sM 14 (fun _ => nI q), sN) = (fun i => (nI i, up (up sM 14 (fun _ => nI q)) 0 (fill (fun k => sM 13 (4 * q + k)) (sM 0) i), sN)) 0 := by
    show _ = (nI 0, up (up sM 14 (fun _ => nI q)) 0 (fill _ _ 0), sN)
    rw [fill_0, show sM 0 = up sM 14 (fun _ => nI q) 0 from rfl, up_self]; rfl
  rw [h0]
  refine loop_seq (fun i => (nI i, up (up sM 14 (fun _ => nI q)) 0 (fill (fun k => sM 13 (4 * q + k)) (sM 0) i), sN)) 4 4000 (by decide) ?_ ?_
  · intro i hi K
    simp only [f_Model_undo_L24]
    rw [if_neg (by rw [show (4 : Int32) = nI 4 from rfl]; exact nI_ge hi (by decide)), show up (up sM 14 fun _ => nI q) 0 (fill (fun k => sM 13 (4 * q + k)) (sM 0) i) 14 0 = nI q from rfl, show (4 : Int32) * nI q = nI (4 * q) from nI_mul 4 q, nI_add, okI_nI (show 4 * q + i < 32 by omega) (by omega), okI_nI (show i < 53 by omega) (by omega), nI_clamp (by omega), nI_clamp (by omega), gd_t, gd_t, nm_s, nm_s, up_up, up_eq, show up (up sM 14 fun _ => nI q) 0 (fill (fun k => sM 13 (4 * q + k)) (sM 0) i) 13 (4 * q + i) = (fun k => sM 13 (4 * q + k)) i from rfl, fill_upd, show nI i + (1 : Int32) = nI (i + 1) from nI_add i 1]
  · intro K
    simp only [f_Model_undo_L24]
    rw [if_pos (show (4 : Int32) ≤ nI 4 by decide), up_eq, fill_in (show 2 < 4 by decide)]
theorem op_undo : Op_undo Rel0 := by
  intro i0 i1 sF sR sH sM sN hR _
  have hR' := hR
  obtain ⟨h1, h2, -⟩ := hR'
  obtain ⟨h9, e⟩ := okV h1.steps
  have hm : sM 14 0 = nI (vn sH 14 0) := h2.steps.trans e
  by_cases h0 : vn sH 14 0 = 0
  · unfold f_Face_undo f_Model_undo
    rw [hm, e, h0]
    exact ⟨_, _, _, _, _, rfl, rfl, rel_no hR⟩
  · obtain ⟨q, hq⟩ : ∃ q, vn sH 14 0 = q + 1 := ⟨vn sH 14 0 - 1, by omega⟩
    rw [hq] at hm e
    unfold f_Face_undo
    rw [undo_M (by omega) hm, e, if_neg (by rw [show (0 : Int32) = nI 0 from rfl, nI_eq (by omega) (by decide)]; omega), back_C h1 hq, bd_s]
    have hp : ∀ k, k < 4 * (q + 1) → sM 13 k = sH 6 k := fun k hk => h2.past (by rw [hq]; exact hk)
    obtain ⟨p1, p2, p3⟩ := h1.past (k := q) (by omega)
    have p0 := h1.2.2.2.2.2.2.2.2.2.2.2
    rw [hp (4 * q + 2) (by omega)]
    refine ⟨_, _, _, _, _, rfl, rfl, rel_house (tM := up (up sM 14 (fun _ => nI q)) 0 (fill (fun k => sM 13 (4 * q + k)) (sM 0) 4)) hR ?_ ?_ rfl rfl rfl rfl rfl rfl rfl⟩
    · refine ⟨p1, p2, p3, h1.toll, h1.rate (s := 0) (by decide), h1.rate (s := 1) (by decide), h1.many, h1.notes, okI_nI (show q < 9 by omega) (by omega), h1.2.2.2.2.2.2.2.2.2.1, h1.2.2.2.2.2.2.2.2.2.2.1, ?_⟩
      intro k hk
      have hk : k < q := by
        have : k < (nI q).toNatClampNeg := hk
        rw [nI_clamp (by omega)] at this
        exact this
      exact p0 k (by omega)
    · obtain ⟨g0, g1, g2, g3, g4, g5, g6', g7, g8, g9, g22, hu, hk, hn, -⟩ := h2
      have fo : ∀ k, 4 ≤ k → fill (fun k => sM 13 (4 * q + k)) (sM 0) 4 k = sM 0 k := fun k hk => fill_out (by omega)
      refine ⟨?_, ?_, ?_, ?_, ?_, ?_, ?_, ?_, ?_, ?_, ?_, rfl, ?_, ?_, ?_⟩
      · exact hp (4 * q + 0) (by omega)
      · exact hp (4 * q + 1) (by omega)
      · exact hp (4 * q + 2) (by omega)
      · exact hp (4 * q + 3) (by omega)
      · rw [up_eq, fo 4 (by decide)]; exact g4
      · rw [up_eq, fo 5 (by decide)]; exact g5
      · rw [up_eq, fo 6 (by decide)]; exact g6'
      · rw [up_eq, fo 7 (by decide)]; exact g7
      · rw [up_eq, fo 8 (by decide)]; exact g8
      · rw [up_eq, fo 9 (by decide)]; exact g9
      · rw [up_eq, fo 22 (by decide)]; exact g22
      · intro k hk'
        rw [up_eq, fo _ (by omega), fo _ (by omega)]
        exact hk k hk'
      · intro k hk'
        rw [up_eq, fo _ (by omega)]
        exact hn k hk'
      · intro k hk
        have hk : k < 4 * q := by
          have : k < 4 * (nI q).toNatClampNeg := hk
          rw [nI_clamp (by omega)] at this
          exact this
        exact hp k (by omega)
/-! one house taken from another -/
def Eqv (t o : PW) : Prop := (t 7 0 = o 7 0 ∧ t 8 0 = o 8 0 ∧ t 9 0 = o 9 0 ∧ t 10 0 = o 10 0 ∧ t 11 0 = o 11 0 ∧ t 12 0 = o 12 0 ∧ t 13 0 = o 13 0 ∧ t 14 0 = o 14 0) ∧ (∀ j, j < 2 → t 1 j = o 1 j ∧ t 2 j = o 2 j) ∧ (∀ j, j < 6 → t 3 j = o 3 j ∧ t 4 j = o 4 j) ∧ (∀ j, j < 30 → t 5 j = o 5 j) ∧ ∀ j, j < 32 → t 6 j = o 6 j
theorem ok_eqv {t o : PW} (he : Eqv t o) (ho : Ok o) : Ok t := by
  have m6 := ho.m6
  have n6 := ho.n6
  have s8 := ho.s8
  obtain ⟨⟨e7, e8, e9, e10, e11, e12, e13, e14⟩, a1, a3, a5, a6⟩ := he
  have v12 : vn t 12 0 = vn o 12 0 := by unfold vn; rw [e12]
  have v13 : vn t 13 0 = vn o 13 0 := by unfold vn; rw [e13]
  have v14 : vn t 14 0 = vn o 14 0 := by unfold vn; rw [e14]
  refine ⟨by rw [e9]; exact ho.side, by rw [e10]; exact ho.hour, by rw [e8]; exact ho.war, by rw [e7]; exact ho.toll, by rw [(a1 0 (by decide)).1]; exact ho.rate (by decide), by rw [(a1 1 (by decide)).1]; exact ho.rate (by decide), by rw [e12]; exact ho.many, by rw [e13]; exact ho.notes, by rw [e14]; exact ho.steps, ?_, ?_, ?_⟩
  · rw [v12]
    intro k hk
    rw [(a3 k (by omega)).1, (a3 k (by omega)).2]
    exact ⟨ho.kind hk, ho.worth hk⟩
  · rw [v13]
    intro k hk
    rw [a5 _ (by omega), a5 _ (by omega), a5 _ (by omega)]
    exact ho.note hk
  · rw [v14]
    intro k hk
    rw [a6 _ (by omega), a6 _ (by omega), a6 _ (by omega)]
    exact ho.past hk
theorem hr_eqv {t o : PW} {st ah : Nat → Int32} {um : Int32} (he : Eqv t o) (ho : Ok o) (hr : HR o st ah um) : HR t st ah um := by
  have m6 := ho.m6
  have n6 := ho.n6
  have s8 := ho.s8
  obtain ⟨⟨e7, e8, e9, e10, e11, e12, e13, e14⟩, a1, a3, a5, a6⟩ := he
  have v12 : vn t 12 0 = vn o 12 0 := by unfold vn; rw [e12]
  have v13 : vn t 13 0 = vn o 13 0 := by unfold vn; rw [e13]
  have v14 : vn t 14 0 = vn o 14 0 := by unfold vn; rw [e14]
  obtain ⟨g0, g1, g2, g3, g4, g5, g6', g7, g8, g9, g22, hu, hk, hn, hp⟩ := hr
  refine ⟨by rw [e9]; exact g0, by rw [e10]; exact g1, by rw [e11]; exact g2, by rw [e8]; exact g3, by rw [e7]; exact g4, by rw [(a1 0 (by decide)).1]; exact g5, by rw [(a1 1 (by decide)).1]; exact g6', by rw [(a1 0 (by decide)).2]; exact g7, by rw [(a1 1 (by decide)).2]; exact g8, by rw [e12]; exact g9, by rw [e13]; exact g22, by rw [e14]; exact hu, ?_, ?_, ?_⟩
  · rw [v12]
    intro k hk'
    rw [(a3 k (by omega)).1, (a3 k (by omega)).2]
    exact hk k hk'
  · rw [v13]
    intro k hk'
    rw [a5 _ (by omega)]
    exact hn k hk'
  · rw [v14]
    intro k hk'
    rw [a6 _ (by omega)]
    exact hp k hk'
theorem cpy_in {f g : Nat → Int32} {n j : Nat} (h : j < n) : va_cpy f g 0 0 n j = f j := by
  unfold va_cpy
  rw [if_pos (by omega)]
  congr 1
  omega
theorem take_C (t o : PW) (ho : isZ (o 8 0) = true) : ∃ tH : PW, f_House_takeFrom t o = some tH ∧ Eqv tH o := by
  unfold f_House_takeFrom
  rw [ho]
  refine ⟨_, rfl, ⟨rfl, rfl, rfl, rfl, rfl, rfl, rfl, rfl⟩, ?_, ?_, ?_, ?_⟩
  · intro j hj; exact ⟨cpy_in hj, cpy_in hj⟩
  · intro j hj; exact ⟨cpy_in hj, cpy_in hj⟩
  · intro j hj; exact cpy_in hj
  · intro j hj; exact cpy_in hj
theorem hr_cong {w : PW} {st ah st' ah' : Nat → Int32} {um um' : Int32} (ho : Ok w) (h1 : ∀ k, k < 53 → st' k = st k) (h2 : ∀ k, k < 32 → ah' k = ah k) (h3 : um' = um) (hr : HR w st ah um) : HR w st' ah' um' := by
  have m6 := ho.m6
  have n6 := ho.n6
  have s8 := ho.s8
  obtain ⟨g0, g1, g2, g3, g4, g5, g6', g7, g8, g9, g22, hu, hk, hn, hp⟩ := hr
  refine ⟨by rw [h1 _ (by decide)]; exact g0, by rw [h1 _ (by decide)]; exact g1, by rw [h1 _ (by decide)]; exact g2, by rw [h1 _ (by decide)]; exact g3, by rw [h1 _ (by decide)]; exact g4, by rw [h1 _ (by decide)]; exact g5, by rw [h1 _ (by decide)]; exact g6', by rw [h1 _ (by decide)]; exact g7, by rw [h1 _ (by decide)]; exact g8, by rw [h1 _ (by decide)]; exact g9, by rw [h1 _ (by decide)]; exact g22, h3.trans hu, ?_, ?_, ?_⟩
  · intro k hk'
    rw [h1 _ (by omega), h1 _ (by omega)]
    exact hk k hk'
  · intro k hk'
    rw [h1 _ (by omega)]
    exact hn k hk'
  · intro k hk'
    rw [h2 _ (by omega)]
    exact hp k hk'
def imgW (sM : PW) (i : Nat) : PW := up (up (up (up sM 19 (put (sM 19) (sM 0) (53 * i) 53)) 20 (put (sM 20) (sM 13) (32 * i) 32)) 21 (upd (sM 21) i (sM 14 0))) 18 (upd (sM 18) i 1)
theorem img_M {sM : PW} {sN : PL} {i : Nat} (hi : i < 2) : loopF (f_Model_image_L17 (nI i)) 4000 ((0 : Int32), sM, sN) = some (1, imgW sM i, sN) := by
  have h0 : ((0 : Int32), sM, sN) = (fun k => (nI k, up sM 19 (put (sM 19) (sM 0) (53 * i) k), sN)) 0 := by
    show _ = (nI 0, up sM 19 (put _ _ _ 0), sN)
    rw [put_0, up_self]; rfl
  rw [h0]
  refine loop_seq (fun k => (nI k, up sM 19 (put (sM 19) (sM 0) (53 * i) k), sN)) 53 4000 (by decide) ?_ ?_
  · intro k hk K
    simp only [f_Model_image_L17]
    rw [if_neg (by rw [show (53 : Int32) = nI 53 from rfl]; exact nI_ge hk (by decide)), okI_nI hk (by omega), show (53 : Int32) * nI i = nI (53 * i) from nI_mul 53 i, nI_add, okI_nI (show 53 * i + k < 106 by omega) (by omega), nI_clamp (by omega), nI_clamp (by omega), gd_t, gd_t, nm_s, nm_s, up_up, up_eq, show up sM 19 (put (sM 19) (sM 0) (53 * i) k) 0 k = sM 0 k from rfl, put_upd, show nI k + (1 : Int32) = nI (k + 1) from nI_add k 1]
  · intro K
    simp only [f_Model_image_L17]
    rw [if_pos (show (53 : Int32) ≤ nI 53 by decide)]
    generalize hA : up sM 19 (put (sM 19) (sM 0) (53 * i) 53) = A
    have a20 : A 20 = sM 20 := by rw [← hA]; rfl
    have a13 : A 13 = sM 13 := by rw [← hA]; rfl
    have h1 : ((0 : Int32), A, sN) = (fun k => (nI k, up A 20 (put (A 20) (A 13) (32 * i) k), sN)) 0 := by
      show _ = (nI 0, up A 20 (put _ _ _ 0), sN)
      rw [put_0, up_self]; rfl
    rw [h1]
    refine loop_seq (fun k => (nI k, up A 20 (put (A 20) (A 13) (32 * i) k), sN)) 32 4000 (by decide) ?_ ?_
    · intro k hk K
      simp only [f_Model_image_L48]
      rw [if_neg (by rw [show (32 : Int32) = nI 32 from rfl]; exact nI_ge hk (by decide)), okI_nI hk (by omega), show (32 : Int32) * nI i = nI (32 * i) from nI_mul 32 i, nI_add, okI_nI (show 32 * i + k < 64 by omega) (by omega), nI_clamp (by omega), nI_clamp (by omega), gd_t, gd_t, nm_s, nm_s, up_up, up_eq, show up A 20 (put (A 20) (A 13) (32 * i) k) 13 k = A 13 k from rfl, put_upd, show nI k + (1 : Int32) = nI (k + 1) from nI_add k 1]
    · intro K
      simp only [f_Model_image_L48]
      rw [if_pos (show (32 : Int32) ≤ nI 32 by decide), okI_nI hi (by omega), nI_clamp (by omega), gd_t, nm_s, gd_t, nm_s, a20, a13, ← hA]
      rfl
theorem img_at {sM : PW} {w : PW} {i : Nat} (ho : Ok w) (hr : HR w (sM 0) (sM 13) (sM 14 0)) : ImR (some w) (imgW sM i) i := by
  refine ⟨?_, ho, hr_cong ho ?_ ?_ ?_ hr⟩
  · show upd (sM 18) i 1 i = 1
    rw [upd_eq]
  · intro k hk
    show put (sM 19) (sM 0) (53 * i) 53 (53 * i + k) = _
    rw [put_in (by omega)]; congr 1; omega
  · intro k hk
    show put (sM 20) (sM 13) (32 * i) 32 (32 * i + k) = _
    rw [put_in (by omega)]; congr 1; omega
  · show upd (sM 21) i (sM 14 0) i = _
    rw [upd_eq]
theorem img_other {sM : PW} {o : Option PW} {i j : Nat} (hij : i ≠ j) (h : ImR o sM j) : ImR o (imgW sM i) j := by
  cases o with
  | none =>
    show upd (sM 18) i 1 j = 0
    rw [upd_ne (fun q => hij q.symm)]
    exact h
  | some w =>
    obtain ⟨h1, h2, h3⟩ := h
    refine ⟨?_, h2, hr_cong h2 ?_ ?_ ?_ h3⟩
    · show upd (sM 18) i 1 j = 1
      rw [upd_ne (fun q => hij q.symm)]
      exact h1
    · intro k hk
      show put (sM 19) (sM 0) (53 * i) 53 (53 * j + k) = _
      rw [put_out (by omega)]
    · intro k hk
      show put (sM 20) (sM 13) (32 * i) 32 (32 * j + k) = _
      rw [put_out (by omega)]
    · show upd (sM 21) i (sM 14 0) j = _
      rw [upd_ne (fun q => hij q.symm)]
theorem rel_img {i0 i1 j0 j1 : Option PW} {sF sR sH sM : PW} {sN : PL} {i : Nat} (h : Rel0 i0 i1 sF sR sH sM sN) (h0 : ImR j0 (imgW sM i) 0) (h1 : ImR j1 (imgW sM i) 1) : Rel0 j0 j1 sF sR sH (imgW sM i) sN := by
  obtain ⟨a, b, c, d, e, -, -⟩ := h
  exact ⟨a, b, c, d, e, h0, h1⟩
theorem op_image : Op_image Rel0 := by
  intro i0 i1 sF sR sH sM sN hR a1
  have hR' := hR
  obtain ⟨h1, h2, -, -, -, m0, m1⟩ := hR'
  have hz := isZ_nI h1.war
  have hw : f_Face_within a1 (1 : Int32) = some (if okI a1 2 = true then 1 else 0) := within_eq a1 (m := 1) (by decide)
  unfold f_Model_image
  rw [in0_eq a1 (m := 1) rfl]
  by_cases c : okI a1 2 = true
  · rw [if_pos c] at hw
    rw [if_pos (show okI a1 (1 + 1) = true from c)]
    obtain ⟨j, hj, -, rfl⟩ := okI_nat c
    rw [bd_s, if_10, img_M hj]
    refine ⟨_, _, _, rfl, Or.inr ?_⟩
    have P : ∀ t : PW, ∃ tH : PW, f_House_takeFrom t sH = some tH ∧ ImR (some tH) (imgW sM j) j := by
      intro t
      obtain ⟨tH, e, he⟩ := take_C t sH hz
      exact ⟨tH, e, img_at (ok_eqv he h1) (hr_eqv he h1 h2)⟩
    have pr : ∀ (sI : Nat → Option Nat) (t tH : PW), f_House_takeFrom t sH = some tH → f_Face_image_p sF sI sH t (nI j) = some (1, sF, tH) := by
      intro sI t tH e
      unfold f_Face_image_p
      rw [hw, c, e]; rfl
    obtain ⟨t0, e0, -⟩ := start_C pz 1
    have ab : ∀ (sI : Nat → Option Nat) (tH : PW), f_House_takeFrom t0 sH = some tH → f_Face_image_a sF sI sH (nI j) = some (1, tH) := by
      intro sI tH e
      unfold f_Face_image_a
      rw [hw, c, e0, bd_s, if_10, gd_t, bd_s, gd_t, e]; rfl
    rcases (show j = 0 ∨ j = 1 by omega) with rfl | rfl
    · refine Or.inl ⟨rfl, fun sI => ⟨fun sO _ => ?_, fun _ => ?_⟩⟩
      · obtain ⟨tH, e, hi⟩ := P sO
        exact ⟨_, _, pr sI sO tH e, rel_img hR hi (img_other (by decide) m1)⟩
      · obtain ⟨tH, e, hi⟩ := P t0
        exact ⟨_, ab sI tH e, rel_img hR hi (img_other (by decide) m1)⟩
    · refine Or.inr ⟨rfl, fun sI => ⟨fun sO _ => ?_, fun _ => ?_⟩⟩
      · obtain ⟨tH, e, hi⟩ := P sO
        exact ⟨_, _, pr sI sO tH e, rel_img hR (img_other (by decide) m0) hi⟩
      · obtain ⟨tH, e, hi⟩ := P t0
        exact ⟨_, ab sI tH e, rel_img hR (img_other (by decide) m0) hi⟩
  · rw [if_neg c] at hw
    rw [if_neg (show ¬ okI a1 (1 + 1) = true from c)]
    refine ⟨_, _, _, rfl, Or.inl ⟨up sF 7 (fun _ => ((sF 7 0) + (1 : Int32))), ?_, rel_bad hR⟩⟩
    unfold f_Face_image_r
    rw [hw]; rfl
def frmW (sM : PW) (i : Nat) : PW := up (up (up sM 0 (fill (fun k => sM 19 (53 * i + k)) (sM 0) 53)) 13 (fill (fun k => sM 20 (32 * i + k)) (sM 13) 32)) 14 (fun _ => sM 21 i)
theorem frm_M {sM : PW} {sN : PL} {i : Nat} (hi : i < 2) : loopF (f_Model_from_L31 (nI i)) 4000 ((0 : Int32), sM, sN) = some (1, frmW sM i, sN) := by
  have h0 : ((0 : Int32), sM, sN) = (fun k => (nI k, up sM 0 (fill (fun k => sM 19 (53 * i + k)) (sM 0) k), sN)) 0 := by
    show _ = (nI 0, up sM 0 (fill _ _ 0), sN)
    rw [fill_0, up_self]; rfl
  rw [h0]
  refine loop_seq (fun k => (nI k, up sM 0 (fill (fun k => sM 19 (53 * i + k)) (sM 0) k), sN)) 53 4000 (by decide) ?_ ?_
  · intro k hk K
    simp only [f_Model_from_L31]
    rw [if_neg (by rw [show (53 : Int32) = nI 53 from rfl]; exact nI_ge hk (by decide)), okI_nI hk (by omega), show (53 : Int32) * nI i = nI (53 * i) from nI_mul 53 i, nI_add, okI_nI (show 53 * i + k < 106 by omega) (by omega), nI_clamp (by omega), nI_clamp (by omega), gd_t, gd_t, nm_s, nm_s, up_up, up_eq, show up sM 0 (fill (fun k => sM 19 (53 * i + k)) (sM 0) k) 19 (53 * i + k) = (fun k => sM 19 (53 * i + k)) k from rfl, fill_upd, show nI k + (1 : Int32) = nI (k + 1) from nI_add k 1]
  · intro K
    simp only [f_Model_from_L31]
    rw [if_pos (show (53 : Int32) ≤ nI 53 by decide)]
    generalize hA : up sM 0 (fill (fun k => sM 19 (53 * i + k)) (sM 0) 53) = A
    have a20 : A 20 = sM 20 := by rw [← hA]; rfl
    have a13 : A 13 = sM 13 := by rw [← hA]; rfl
    have h1 : ((0 : Int32), A, sN) = (fun k => (nI k, up A 13 (fill (fun k => A 20 (32 * i + k)) (A 13) k), sN)) 0 := by
      show _ = (nI 0, up A 13 (fill _ _ 0), sN)
      rw [fill_0, up_self]; rfl
    rw [h1]
    refine loop_seq (fun k => (nI k, up A 13 (fill (fun k => A 20 (32 * i + k)) (A 13) k), sN)) 32 4000 (by decide) ?_ ?_
    · intro k hk K
      simp only [f_Model_from_L62]
      rw [if_neg (by rw [show (32 : Int32) = nI 32 from rfl]; exact nI_ge hk (by decide)), okI_nI hk (by omega), show (32 : Int32) * nI i = nI (32 * i) from nI_mul 32 i, nI_add, okI_nI (show 32 * i + k < 64 by omega) (by omega), nI_clamp (by omega), nI_clamp (by omega), gd_t, gd_t, nm_s, nm_s, up_up, up_eq, show up A 13 (fill (fun k => A 20 (32 * i + k)) (A 13) k) 20 (32 * i + k) = (fun k => A 20 (32 * i + k)) k from rfl, fill_upd, show nI k + (1 : Int32) = nI (k + 1) from nI_add k 1]
    · intro K
      simp only [f_Model_from_L62]
      rw [if_pos (show (32 : Int32) ≤ nI 32 by decide), okI_nI hi (by omega), nI_clamp (by omega), gd_t, nm_s, a20, a13, ← hA]
      rfl
theorem rel_frm {i0 i1 : Option PW} {sF sR sH sM tH o : PW} {sN : PL} {i : Nat} (h : Rel0 i0 i1 sF sR sH sM sN) (hi : ImR (some o) sM i) (he : Eqv tH o) : Rel0 i0 i1 sF sR tH (frmW sM i) sN := by
  obtain ⟨-, h2, h3⟩ := hi
  refine rel_house (tM := frmW sM i) h (ok_eqv he h2) (hr_eqv he h2 (hr_cong h2 ?_ ?_ rfl h3)) rfl rfl rfl rfl rfl rfl rfl
  · intro k hk
    show fill (fun k => sM 19 (53 * i + k)) (sM 0) 53 k = _
    rw [fill_in hk]
  · intro k hk
    show fill (fun k => sM 20 (32 * i + k)) (sM 13) 32 k = _
    rw [fill_in hk]
theorem from_none {sF sM : PW} {sN : PL} {j : Nat} (hj : j < 2) (hm : ImR none sM j) : f_Model_from sM sN (nI j) = some (-3, up sM 3 (upd (sM 3) 1 ((sM 3 1) + (1 : Int32))), sN) := by
  unfold f_Model_from
  rw [in0_eq (nI j) (m := 1) rfl, if_pos (okI_nI (show j < 1 + 1 by omega) (by omega)), bd_s, if_10, okI_nI hj (by omega), nI_clamp (by omega), gd_t, show sM 18 j = 0 from hm]
  rfl
theorem from_some {sM w : PW} {sN : PL} {j : Nat} (hj : j < 2) (hm : ImR (some w) sM j) : f_Model_from sM sN (nI j) = some (1, frmW sM j, sN) := by
  unfold f_Model_from
  rw [in0_eq (nI j) (m := 1) rfl, if_pos (okI_nI (show j < 1 + 1 by omega) (by omega)), bd_s, if_10, okI_nI hj (by omega), nI_clamp (by omega), gd_t, show sM 18 j = 1 from hm.1, if_10, frm_M hj]
theorem op_from : Op_from Rel0 := by
  intro i0 i1 sF sR sH sM sN hR a1
  have hR' := hR
  obtain ⟨h1, h2, -, -, -, m0, m1⟩ := hR'
  have hw : f_Face_within a1 (1 : Int32) = some (if okI a1 2 = true then 1 else 0) := within_eq a1 (m := 1) (by decide)
  by_cases c : okI a1 2 = true
  · rw [if_pos c] at hw
    obtain ⟨j, hj, -, rfl⟩ := okI_nat c
    have P : ∀ o : PW, ImR (some o) sM j → ∀ sI : Nat → Option Nat, ∃ tF tH : PW, f_Face_from_p sF sI sH o (nI j) = some (1, tF, tH) ∧ Rel0 i0 i1 tF sR tH (frmW sM j) sN := by
      intro o hi sI
      obtain ⟨tH, e, he⟩ := take_C sH o (isZ_nI hi.2.1.war)
      refine ⟨sF, tH, ?_, rel_frm hR hi he⟩
      unfold f_Face_from_p
      rw [hw, c, e]; rfl
    have N : ∀ sI : Nat → Option Nat, f_Face_from_n sF sI (nI j) = some (-3, up sF 8 (fun _ => ((sF 8 0) + (1 : Int32)))) := by
      intro sI
      unfold f_Face_from_n
      rw [hw, c]; rfl
    rcases (show j = 0 ∨ j = 1 by omega) with rfl | rfl
    · cases i0 with
      | none => exact ⟨_, _, _, from_none (sF := sF) (by decide) m0, Or.inr (Or.inr ⟨fun _ => rfl, fun q => absurd q (by decide), fun sI => ⟨_, N sI, rel_no hR⟩⟩)⟩
      | some o => exact ⟨_, _, _, from_some (by decide) m0, Or.inl ⟨rfl, o, rfl, P o m0⟩⟩
    · cases i1 with
      | none => exact ⟨_, _, _, from_none (sF := sF) (by decide) m1, Or.inr (Or.inr ⟨fun q => absurd q (by decide), fun _ => rfl, fun sI => ⟨_, N sI, rel_no hR⟩⟩)⟩
      | some o => exact ⟨_, _, _, from_some (by decide) m1, Or.inr (Or.inl ⟨rfl, o, rfl, P o m1⟩)⟩
  · rw [if_neg c] at hw
    have e : f_Model_from sM sN a1 = some (-2, up sM 3 (upd (sM 3) 0 ((sM 3 0) + (1 : Int32))), sN) := by
      unfold f_Model_from
      rw [in0_eq a1 (m := 1) rfl, if_neg (show ¬ okI a1 (1 + 1) = true from c)]
      rfl
    refine ⟨_, _, _, e, Or.inr (Or.inr ⟨fun q => absurd (by rw [q]; rfl) c, fun q => absurd (by rw [q]; rfl) c, fun sI => ⟨up sF 7 (fun _ => ((sF 7 0) + (1 : Int32))), ?_, rel_bad hR⟩⟩)⟩
    unfold f_Face_from_n
    rw [hw]; rfl
