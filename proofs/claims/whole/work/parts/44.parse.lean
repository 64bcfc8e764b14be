/-! ===== bars, all items, the whole text, and the call read ===== -/
theorem hours_both {sG : PW} (sN : PL) {n s : Nat} {tb : Nat → Nat} (hs : s < 2) : ∀ (m b e c : Nat) (x8 : Int32) (sR sM : PW), n - b ≤ m → LX sR sM n tb → TK n sR sM b e → c ≤ b → sM 11 0 = x8 → ∃ (rC : Int32) (tR tG : PW) (rM : Int32) (tM : PW) (b' e' : Nat), (∀ fuel, m < fuel → loopF (f_Reader_barItem_L23 sG (nI s)) fuel (x8, nI c, sR) = some (rC, tR, tG)) ∧ (∀ fuel, m < fuel → loopF f_Model_readHours_L9 fuel (sM, sN) = some (rM, tM, sN)) ∧ b ≤ b' ∧ TK n tR tM b' e' ∧ LX tR tM n tb ∧ (∀ k, k < 6 ∨ k = 10 ∨ 11 < k → tM k = sM k) ∧ tR 1 = sR 1 ∧ tR 2 = sR 2 ∧ ((rM = 1 ∧ rC = 1 ∧ tR 3 0 = 2 ∧ b' < e' ∧ tG = up sG 2 (upd (sG 2) s (tM 11 0))) ∨ (rM = 0 ∧ (rC = 0 ∨ rC = 1 ∧ tR 3 0 ≠ 2))) := by
  intro m
  induction m with
  | zero =>
    intro b e c x8 sR sM hm hL hK hc h11
    have hK2 := hK
    obtain ⟨hbe, hen, r4, r5, m9, m6, hk⟩ := hK2
    have hC : ∀ fuel, 0 < fuel → sR 3 0 ≠ 1 → loopF (f_Reader_barItem_L23 sG (nI s)) fuel (x8, nI c, sR) = some (1, sR, up sG 2 (upd (sG 2) s x8)) := by
      intro fuel hf h3
      obtain ⟨f, rfl⟩ : ∃ f, fuel = f + 1 := ⟨fuel - 1, by omega⟩
      show f_Reader_barItem_L23 sG (nI s) (loopF (f_Reader_barItem_L23 sG (nI s)) f) (x8, nI c, sR) = _
      simp only [f_Reader_barItem_L23]
      rw [if_neg h3, okI_nI hs (by omega), nI_clamp (by omega), gd_t, nm_s, ite_self]
    rcases hk with ⟨hb, -⟩ | ⟨hb, -⟩ | ⟨hb, -⟩ | ⟨hb, -⟩ | ⟨-, k1, k2⟩ | ⟨hb, -⟩
    · omega
    · omega
    · omega
    · omega
    · refine ⟨_, _, _, 0, sM, b, e, fun fuel hf => hC fuel hf (by rw [k1]; decide), ?_, Nat.le_refl _, hK, hL, fun _ _ => rfl, rfl, rfl, Or.inr ⟨rfl, Or.inr ⟨rfl, by rw [k1]; decide⟩⟩⟩
      intro fuel hf
      obtain ⟨f, rfl⟩ : ∃ f, fuel = f + 1 := ⟨fuel - 1, by omega⟩
      show f_Model_readHours_L9 (loopF f_Model_readHours_L9 f) (sM, sN) = _
      simp only [f_Model_readHours_L9]
      rw [k2, if_neg (by decide), if_neg (by decide)]
    · omega
  | succ m ih =>
    intro b e c x8 sR sM hm hL hK hc h11
    have hL' := hL
    obtain ⟨hn, -⟩ := hL'
    have hK2 := hK
    obtain ⟨hbe, hen, r4, r5, m9, m6, hk⟩ := hK2
    have hC : ∀ fuel, m + 1 < fuel → sR 3 0 ≠ 1 → loopF (f_Reader_barItem_L23 sG (nI s)) fuel (x8, nI c, sR) = some (1, sR, up sG 2 (upd (sG 2) s x8)) := by
      intro fuel hf h3
      obtain ⟨f, rfl⟩ : ∃ f, fuel = f + 1 := ⟨fuel - 1, by omega⟩
      show f_Reader_barItem_L23 sG (nI s) (loopF (f_Reader_barItem_L23 sG (nI s)) f) (x8, nI c, sR) = _
      simp only [f_Reader_barItem_L23]
      rw [if_neg h3, okI_nI hs (by omega), nI_clamp (by omega), gd_t, nm_s, ite_self]
    have hM0 : ∀ fuel, m + 1 < fuel → sM 7 0 ≠ 2 → sM 7 0 ≠ 4 → loopF f_Model_readHours_L9 fuel (sM, sN) = some (0, sM, sN) := by
      intro fuel hf h2 h4
      obtain ⟨f, rfl⟩ : ∃ f, fuel = f + 1 := ⟨fuel - 1, by omega⟩
      show f_Model_readHours_L9 (loopF f_Model_readHours_L9 f) (sM, sN) = _
      simp only [f_Model_readHours_L9]
      rw [if_neg h2, if_neg h4]
    have hCn : ∀ fuel, m + 1 < fuel → sR 3 0 = 1 → b < e → okI (sR 6 0) 24 = false → loopF (f_Reader_barItem_L23 sG (nI s)) fuel (x8, nI c, sR) = some (0, sR, sG) := by
      intro fuel hf h3 hb hno
      obtain ⟨f, rfl⟩ : ∃ f, fuel = f + 1 := ⟨fuel - 1, by omega⟩
      show f_Reader_barItem_L23 sG (nI s) (loopF (f_Reader_barItem_L23 sG (nI s)) f) (x8, nI c, sR) = _
      simp only [f_Reader_barItem_L23]
      rw [if_neg (show ¬ (150 : Int32) ≤ nI c from nI_ge (b := 150) (by omega) (by decide)), if_pos h3, show (23 : Int32) = nI 23 from rfl, within_eq _ (by decide), bd_s, if_neg (show ¬ okI (sR 6 0) (23 + 1) = true by rw [show 23 + 1 = 24 from rfl, hno]; decide), if_00]
    rcases hk with ⟨hb, k1, k2⟩ | ⟨hb, k1, k2, v, hv, k3, k4⟩ | ⟨hb, k1, k2, k3⟩ | ⟨hb, k1, k2⟩ | ⟨-, k1, k2⟩ | ⟨hb, k1, k2⟩
    · exact ⟨_, _, _, _, _, b, e, fun fuel hf => hC fuel hf (by rw [k1]; decide), fun fuel hf => hM0 fuel hf (by rw [k2]; decide) (by rw [k2]; decide), Nat.le_refl _, hK, hL, fun _ _ => rfl, rfl, rfl, Or.inr ⟨rfl, Or.inr ⟨rfl, by rw [k1]; decide⟩⟩⟩
    · by_cases cv : v < 24
      · have hLu : LX sR (up sM 11 (fun _ => x8 ||| ((1 : Int32) <<< (nI v &&& 31)))) n tb := LX_keep hL rfl rfl rfl rfl
        obtain ⟨aR, aM, b1, e1, f1, f2, hpb, hK1, hL1, hf1, g1, g2⟩ := tok_both sN hLu r5 m6 hen
        obtain ⟨rC, tR, tG, rM, tM, b2, e2, z1, z2, z3, z4, z5, z6, z7, z8, z9⟩ := ih b1 e1 (c + 1) (x8 ||| ((1 : Int32) <<< (nI v &&& 31))) aR aM (by omega) hL1 hK1 (by omega) (by rw [hf1 11 (by omega), up_eq])
        refine ⟨rC, tR, tG, rM, tM, b2, e2, ?_, ?_, by omega, z4, z5, ?_, z7.trans g1, z8.trans g2, z9⟩
        · intro fuel hf
          obtain ⟨f, rfl⟩ : ∃ f, fuel = f + 1 := ⟨fuel - 1, by omega⟩
          show f_Reader_barItem_L23 sG (nI s) (loopF (f_Reader_barItem_L23 sG (nI s)) f) (x8, nI c, sR) = _
          simp only [f_Reader_barItem_L23]
          rw [if_neg (show ¬ (150 : Int32) ≤ nI c from nI_ge (b := 150) (by omega) (by decide)), if_pos k1, show (23 : Int32) = nI 23 from rfl, within_eq _ (by decide), bd_s, k3, if_pos (show okI (nI v) (23 + 1) = true from okI_nI (by omega) (by omega)), if_10, nm_s, f1, bd_s, nm_s, show nI c + (1 : Int32) = nI (c + 1) from nI_add c 1]
          exact z1 f (by omega)
        · intro fuel hf
          obtain ⟨f, rfl⟩ : ∃ f, fuel = f + 1 := ⟨fuel - 1, by omega⟩
          show f_Model_readHours_L9 (loopF f_Model_readHours_L9 f) (sM, sN) = _
          simp only [f_Model_readHours_L9]
          rw [k2, if_pos rfl, k4, if_neg (show ¬ (24 : Int32) ≤ nI v from nI_ge (b := 24) cv (by decide)), h11, nm_s, f2, bd2_s]
          exact z2 f (by omega)
        · intro k hk
          rw [z6 k hk, hf1 k (by omega), up_ne (by omega)]
      · refine ⟨_, _, _, 0, sM, b, e, fun fuel hf => hCn fuel hf k1 hb ?_, ?_, Nat.le_refl _, hK, hL, fun _ _ => rfl, rfl, rfl, Or.inr ⟨rfl, Or.inl rfl⟩⟩
        · rw [k3]
          exact Bool.eq_false_iff.mpr fun z => by
            rw [okI_iff, nI_toInt (by omega)] at z
            omega
        · intro fuel hf
          obtain ⟨f, rfl⟩ : ∃ f, fuel = f + 1 := ⟨fuel - 1, by omega⟩
          show f_Model_readHours_L9 (loopF f_Model_readHours_L9 f) (sM, sN) = _
          simp only [f_Model_readHours_L9]
          rw [k2, if_pos rfl, k4, if_pos (show (24 : Int32) ≤ nI v from nI_le (a := 24) (by omega) (by omega)), if_neg (by decide)]
    · refine ⟨_, _, _, _, _, b, e, fun fuel hf => hCn fuel hf k1 hb ?_, fun fuel hf => hM0 fuel hf (by rw [k2]; decide) (by rw [k2]; decide), Nat.le_refl _, hK, hL, fun _ _ => rfl, rfl, rfl, Or.inr ⟨rfl, Or.inl rfl⟩⟩
      rw [k3]
      rfl
    · refine ⟨_, _, _, 1, sM, b, e, fun fuel hf => hC fuel hf (by rw [k1]; decide), ?_, Nat.le_refl _, hK, hL, fun _ _ => rfl, rfl, rfl, Or.inl ⟨rfl, rfl, k1, hb, by rw [h11]⟩⟩
      intro fuel hf
      obtain ⟨f, rfl⟩ : ∃ f, fuel = f + 1 := ⟨fuel - 1, by omega⟩
      show f_Model_readHours_L9 (loopF f_Model_readHours_L9 f) (sM, sN) = _
      simp only [f_Model_readHours_L9]
      rw [k2, if_neg (by decide), if_pos rfl]
    · exact ⟨_, _, _, _, _, b, e, fun fuel hf => hC fuel hf (by rw [k1]; decide), fun fuel hf => hM0 fuel hf (by rw [k2]; decide) (by rw [k2]; decide), Nat.le_refl _, hK, hL, fun _ _ => rfl, rfl, rfl, Or.inr ⟨rfl, Or.inr ⟨rfl, by rw [k1]; decide⟩⟩⟩
    · exact ⟨_, _, _, _, _, b, e, fun fuel hf => hC fuel hf (by rw [k1]; decide), fun fuel hf => hM0 fuel hf (by rw [k2]; decide) (by rw [k2]; decide), Nat.le_refl _, hK, hL, fun _ _ => rfl, rfl, rfl, Or.inr ⟨rfl, Or.inr ⟨rfl, by rw [k1]; decide⟩⟩⟩
theorem bar_item {sR sM sG : PW} (sN : PL) {n p : Nat} {tb : Nat → Nat} {a2 : Int32} (ha : a2 = 0 ∨ a2 = 1) (hL : LX sR sM n tb) (h5 : sR 5 0 = nI p) (h6 : sM 6 0 = nI p) (hp : p ≤ n) (hD : DrG sG) (h12 : sM 12 0 = sG 12 0) (hH : a2 = 1 → HR sG (sM 0) (sM 13) (sM 14 0)) : ∃ (rC : Int32) (tR tG : PW) (rM : Int32) (tM : PW), f_Reader_barItem sR sG = some (rC, tR, tG) ∧ (bd3 (f_Model_reads sM sN (0 : Int32) (1 : Int32)) (fun x57 sM58 sN59 => (if x57 = 0 then f_Model_readItem_J192 a2 sM58 sN59 else bd3 (f_Model_readHours sM58 sN59) (fun x74 sM75 sN76 => (if x74 = 0 then f_Model_readItem_J192 a2 sM75 sN76 else f_Model_readItem_J193 a2 (1 : Int32) sM75 sN76))))) = some (rM, tM, sN) ∧ IT n tb sR sM p a2 rC tR tG rM tM := by
  obtain ⟨aR, aM, b, e, r, f1', f2', hpb, hK, hL2, hf, -, hr, g1, g2⟩ := num_both sN (row := 0) (mx := 1) hL h5 h6 hp (by decide) (by decide)
  have f1 : f_Reader_number sR (1 : Int32) = some (r, aR) := f1'
  have f2 : f_Model_reads sM sN (0 : Int32) (1 : Int32) = some (r, aM, sN) := f2'
  have hF : FrM sM aM a2 := FrM_of fun k hk => hf k (by omega)
  have fail : ∀ M : PW, f_Model_readItem_J192 a2 M sN = some (0, M, sN) := by
    intro M
    unfold f_Model_readItem_J192 f_Model_readItem_J193
    rw [if_00]
    rfl
  unfold f_Reader_barItem
  rw [f1, f2, bd2_s, bd3_s]
  rcases hr with hr | ⟨hr, hbe, s, hs, v1, v2⟩
  · subst hr
    rw [if_00, if_00, fail]
    exact ⟨_, _, _, _, _, rfl, rfl, ⟨b, e, hK, Or.inr ⟨rfl, Or.inl rfl⟩⟩, hL2, hF, g1, g2⟩
  · subst hr
    have hK5 := hK
    obtain ⟨hbe', hen, -, r5, -, m6, -⟩ := hK5
    rw [if_10, if_10, nm_s, v1]
    have hLu : LX aR (up aM 11 (fun _ => (0 : Int32))) n tb := LX_keep hL2 rfl rfl rfl rfl
    obtain ⟨cR, cM, b1, e1, k1, k2, hpb1, hK1, hL1, hf1, q1, q2⟩ := tok_both sN hLu r5 m6 hen
    obtain ⟨rC, tR, tG, rM, tM, b2, e2, z1, z2, z3, z4, z5, z6, z7, z8, z9⟩ := hours_both (sG := sG) sN (s := s) (by omega) (n - b1) b1 e1 0 0 cR cM (Nat.le_refl _) hL1 hK1 (Nat.zero_le _) (by rw [hf1 11 (by omega), up_eq])
    have hn := hL.1
    have hF2 : FrM sM tM a2 := hF.trans (FrM_of fun k hk => by rw [z6 k (by omega), hf1 k (by omega), up_ne (by omega)])
    have y0 : tM 10 0 = nI s := by rw [z6 10 (by omega), hf1 10 (by omega), up_ne (by decide)]; exact v2
    have y12 : tM 12 0 = sG 12 0 := by rw [z6 12 (by omega), hf1 12 (by omega), up_ne (by decide), hf 12 (by omega)]; exact h12
    unfold f_Model_readHours
    have z1' : loopF (f_Reader_barItem_L23 sG (nI s)) 4000 ((0 : Int32), (0 : Int32), cR) = some (rC, tR, tG) := z1 4000 (by omega)
    rw [nm_s, k1, k2, bd_s, bd2_s, z1', z2 4000 (by omega), bd3_s]
    have t1 : tR 1 = sR 1 := z7.trans (q1.trans g1)
    have t2 : tR 2 = sR 2 := z8.trans (q2.trans g2)
    rcases z9 with ⟨w1, w2, w3, w4, w5⟩ | ⟨w1, w2⟩
    · subst w1
      subst w2
      have hG : DrG tG := by
        rw [w5]
        exact ⟨hD.1, hD.2⟩
      have yG : tM 12 0 = tG 12 0 := by rw [w5]; exact y12
      rw [if_10]
      unfold f_Model_readItem_J193
      rw [if_10]
      rcases ha with ha | ha
      · subst ha
        rw [if_00]
        exact ⟨_, _, _, _, _, rfl, rfl, ⟨b2, e2, z4, Or.inl ⟨rfl, rfl, w3, by omega, w4, hG, yG, fun h => absurd h (by decide)⟩⟩, z5, hF2, t1, t2⟩
      · subst ha
        have hH' : HR sG (tM 0) (tM 13) (tM 14 0) := by
          rw [z6 0 (by omega), z6 13 (by omega), z6 14 (by omega), hf1 0 (by omega), hf1 13 (by omega), hf1 14 (by omega), up_ne (by decide), up_ne (by decide), up_ne (by decide), hf 0 (by omega), hf 13 (by omega), hf 14 (by omega)]
          exact hH rfl
        have hHG : HR tG (upd (tM 0) (7 + s) (tM 11 0)) (tM 13) (tM 14 0) := by
          rw [w5]
          exact hr_bar hH' hD.1 (by omega) _
        rw [if_10, y0, show (7 : Int32) + nI s = nI (7 + s) from nI_add 7 s, okI_nI (show 7 + s < 53 by omega) (by omega), nI_clamp (by omega), gd_t, nm_s]
        refine ⟨1, tR, tG, 1, up tM 0 (upd (tM 0) (7 + s) (tM 11 0)), rfl, rfl, ⟨b2, e2, z4, Or.inl ⟨rfl, rfl, w3, by omega, w4, hG, yG, fun _ => hHG⟩⟩, LX_keep z5 rfl rfl rfl rfl, ⟨fun k hk => by rw [up_ne (by omega)]; exact hF2.1 k hk, fun h => absurd h (by decide)⟩, t1, t2⟩
    · subst w1
      rw [if_00, fail]
      exact ⟨_, _, _, _, _, rfl, rfl, ⟨b2, e2, z4, Or.inr ⟨rfl, w2⟩⟩, z5, hF2, t1, t2⟩
/-- an item that is not the first -/
theorem item_both {sR sM sG : PW} (sN : PL) {n b e : Nat} {tb : Nat → Nat} {a2 x6 : Int32} (ha : a2 = 0 ∨ a2 = 1) (hx6 : x6 ≠ 0) (hL : LX sR sM n tb) (hK : TK n sR sM b e) (hD : DrG sG) (h12 : sM 12 0 = sG 12 0) (hH : a2 = 1 → HR sG (sM 0) (sM 13) (sM 14 0)) : ∃ (rC : Int32) (tR tG : PW) (rM : Int32) (tM : PW), f_Reader_item sR sG 0 = some (rC, tR, tG) ∧ f_Model_readItem sM sN x6 a2 = some (rM, tM, sN) ∧ IT n tb sR sM e a2 rC tR tG rM tM := by
  have hK2 := hK
  obtain ⟨-, hen, -, r5, -, m6, -⟩ := hK2
  have W := fun i (hi : i < 5) => word_both sN hi hL hK
  have fail : f_Model_readItem_J311 a2 sM sN = some (0, up sM 12 (fun _ => sM 12 0 + 1), sN) := by
    unfold f_Model_readItem_J311 f_Model_readItem_J312 f_Model_readItem_J347
    rw [nm_s, if_00, if_00]
  have hIf : IT n tb sR sM e a2 0 sR sG 0 (up sM 12 (fun _ => sM 12 0 + 1)) := ⟨⟨b, e, TK_up12 hK, Or.inr ⟨rfl, Or.inl rfl⟩⟩, LX_keep hL rfl rfl rfl rfl, FrM_of fun k hk => up_ne (by omega), rfl, rfl⟩
  have no : ∀ i (hi : i < 5), ¬ isW tb b e i (sR 3 0) → f_Reader_isWord sR i = some 0 ∧ mW i sM sN = some 0 := fun i hi h => (W i hi).2 h
  unfold f_Reader_item f_Model_readItem
  rw [if_neg hx6]
  by_cases w0 : isW tb b e 0 (sR 3 0)
  · have n1 : f_Model_isWord sM sN 114 97 116 101 0 = some 0 := (no 1 (by decide) (isW_ne (by decide) (by decide) (by decide) w0)).2
    have n2 : f_Model_isWord sM sN 98 97 114 0 0 = some 0 := (no 2 (by decide) (isW_ne (by decide) (by decide) (by decide) w0)).2
    have n3 : f_Model_isWord sM sN 100 111 105 110 103 = some 0 := (no 3 (by decide) (isW_ne (by decide) (by decide) (by decide) w0)).2
    have n4 : f_Model_isWord sM sN 119 97 114 0 0 = some 0 := (no 4 (by decide) (isW_ne (by decide) (by decide) (by decide) w0)).2
    rw [((W 0 (by decide)).1 w0).1, bd_s, if_neg (by decide), n1, bd_s, if_00, n2, bd_s, if_00, n4, bd_s, if_00, n3, bd_s, if_00, fail]
    exact ⟨_, _, _, _, _, rfl, rfl, hIf⟩
  · rw [(no 0 (by decide) w0).1, bd_s, if_pos rfl, if_00]
    by_cases w1 : isW tb b e 1 (sR 3 0)
    · have y1 : f_Model_isWord sM sN 114 97 116 101 0 = some 1 := ((W 1 (by decide)).1 w1).2
      rw [((W 1 (by decide)).1 w1).1, y1, bd_s, bd_s, if_10, if_10]
      obtain ⟨rC, tR, tG, rM, tM, c1, c2, hI⟩ := rate_item sN ha hL r5 m6 hen hD h12 hH
      rw [c1, c2, bd3_s, IT_z hI, gd_t]
      exact ⟨_, _, _, _, _, rfl, rfl, hI⟩
    · have n1 : f_Model_isWord sM sN 114 97 116 101 0 = some 0 := (no 1 (by decide) w1).2
      rw [(no 1 (by decide) w1).1, n1, bd_s, bd_s, if_00, if_00]
      by_cases w2 : isW tb b e 2 (sR 3 0)
      · have y2 : f_Model_isWord sM sN 98 97 114 0 0 = some 1 := ((W 2 (by decide)).1 w2).2
        rw [((W 2 (by decide)).1 w2).1, y2, bd_s, bd_s, if_10, if_10]
        obtain ⟨rC, tR, tG, rM, tM, c1, c2, hI⟩ := bar_item sN ha hL r5 m6 hen hD h12 hH
        rw [c1, c2, bd3_s, IT_z hI, gd_t]
        exact ⟨_, _, _, _, _, rfl, rfl, hI⟩
      · have n2 : f_Model_isWord sM sN 98 97 114 0 0 = some 0 := (no 2 (by decide) w2).2
        rw [(no 2 (by decide) w2).1, n2, bd_s, bd_s, if_00, if_00]
        by_cases w3 : isW tb b e 3 (sR 3 0)
        · have y3 : f_Model_isWord sM sN 100 111 105 110 103 = some 1 := ((W 3 (by decide)).1 w3).2
          have n4 : f_Model_isWord sM sN 119 97 114 0 0 = some 0 := (no 4 (by decide) (isW_ne (by decide) (by decide) (by decide) w3)).2
          rw [((W 3 (by decide)).1 w3).1, n4, y3, bd_s, bd_s, bd_s, if_10, if_00, if_10]
          obtain ⟨rC, tR, tG, rM, tM, c1, c2, hI⟩ := doing_item sN ha hL hK hD h12 hH
          rw [c1, c2, bd3_s, IT_z hI, gd_t]
          exact ⟨_, _, _, _, _, rfl, rfl, hI⟩
        · have n3 : f_Model_isWord sM sN 100 111 105 110 103 = some 0 := (no 3 (by decide) w3).2
          rw [(no 3 (by decide) w3).1, n3, bd_s, bd_s, if_00]
          by_cases w4 : isW tb b e 4 (sR 3 0)
          · have y4 : f_Model_isWord sM sN 119 97 114 0 0 = some 1 := ((W 4 (by decide)).1 w4).2
            rw [((W 4 (by decide)).1 w4).1, y4, bd_s, bd_s, if_10, if_10]
            exact war_item sN ha hL r5 m6 hen hD h12 hH
          · have n4 : f_Model_isWord sM sN 119 97 114 0 0 = some 0 := (no 4 (by decide) w4).2
            rw [(no 4 (by decide) w4).1, n4, bd_s, bd_s, if_00, if_00, if_00, fail]
            exact ⟨_, _, _, _, _, rfl, rfl, hIf⟩
theorem first_both {sR sM sG : PW} (sN : PL) {n b e : Nat} {tb : Nat → Nat} {a2 : Int32} (ha : a2 = 0 ∨ a2 = 1) (hL : LX sR sM n tb) (hK : TK n sR sM b e) (hS : SG0 sG) (h12 : sM 12 0 = 0) : ∃ (rC : Int32) (tR tG : PW) (rM : Int32) (tM : PW), f_Reader_item sR sG 1 = some (rC, tR, tG) ∧ f_Model_readItem sM sN 0 a2 = some (rM, tM, sN) ∧ IT n tb sR sM e a2 rC tR tG rM tM := by
  have hK2 := hK
  obtain ⟨-, hen, -, r5, -, m6, -⟩ := hK2
  have W := word_both sN (i := 0) (by decide) hL hK
  unfold f_Reader_item f_Model_readItem
  rw [if_00]
  by_cases w0 : isW tb b e 0 (sR 3 0)
  · have y0 : f_Model_isWord sM sN 104 111 117 115 101 = some 1 := (W.1 w0).2
    rw [(W.1 w0).1, y0, bd_s, bd_s, if_pos rfl, if_10, if_10]
    obtain ⟨rC, tR, tG, rM, tM, c1, c2, hI⟩ := toll_item sN ha hL r5 m6 hen hS h12
    rw [c1, c2, bd3_s, IT_z hI, gd_t]
    exact ⟨_, _, _, _, _, rfl, rfl, hI⟩
  · have y0 : f_Model_isWord sM sN 104 111 117 115 101 = some 0 := (W.2 w0).2
    rw [(W.2 w0).1, y0, bd_s, bd_s, if_neg (by decide), if_00]
    unfold f_Model_readItem_J35 f_Model_readItem_J36 f_Model_readItem_J55
    rw [if_00, if_00]
    exact ⟨_, _, _, _, _, rfl, rfl, ⟨b, e, hK, Or.inr ⟨rfl, Or.inl rfl⟩⟩, hL, FrM_refl _ _, rfl, rfl⟩
def PR (a2 : Int32) (x : Int32) (tG : PW) (y : Int32) (tM : PW) : Prop := (∃ i, 0 < i ∧ i ≤ 150 ∧ x = nI i ∧ y = nI i ∧ DrG tG ∧ (a2 = 1 → HR tG (tM 0) (tM 13) (tM 14 0))) ∨ ∃ b, b ≤ 150 ∧ y = -1 ∧ tM 9 0 = nI b ∧ x = (-10 : Int32) - nI b
theorem TK_stop {n b e : Nat} {sR sM : PW} (h : TK n sR sM b e) (hbe : b < e) : sR 3 0 ≠ 3 ∨ b = n := by
  obtain ⟨-, -, -, -, -, -, hk⟩ := h
  rcases hk with ⟨-, k1, -⟩ | ⟨-, k1, -⟩ | ⟨-, k1, -⟩ | ⟨-, k1, -⟩ | ⟨hb, -⟩ | ⟨-, k1, -⟩
  · exact Or.inl (by rw [k1]; decide)
  · exact Or.inl (by rw [k1]; decide)
  · exact Or.inl (by rw [k1]; decide)
  · exact Or.inl (by rw [k1]; decide)
  · exact Or.inr hb
  · exact Or.inl (by rw [k1]; decide)
theorem text_both (sN : PL) {n : Nat} {tb : Nat → Nat} {a2 : Int32} (ha : a2 = 0 ∨ a2 = 1) : ∀ (m b e j : Nat) (sR sM sG : PW), n - b ≤ m → LX sR sM n tb → TK n sR sM b e → 0 < j → j ≤ b → DrG sG → sM 12 0 = sG 12 0 → (a2 = 1 → HR sG (sM 0) (sM 13) (sM 14 0)) → ∃ (x : Int32) (tR tG : PW) (y : Int32) (tM : PW), (∀ fuel, m < fuel → loopF f_Reader_parse_L19 fuel (nI j, sR, sG) = some (x, tR, tG)) ∧ (∀ fuel, m < fuel → loopF (f_Model_readText_L16 a2) fuel (nI j, sM, sN) = some (y, tM, sN)) ∧ PR a2 x tG y tM ∧ FrM sM tM a2 ∧ tR 1 = sR 1 ∧ tR 2 = sR 2 := by
  intro m
  induction m with
  | zero =>
    intro b e j sR sM sG hm hL hK hj hjb hD h12 hH
    have hn := hL.1
    obtain ⟨hbe, hen, r4, r5, m9, m6, hk⟩ := hK
    rcases hk with ⟨hb, -⟩ | ⟨hb, -⟩ | ⟨hb, -⟩ | ⟨hb, -⟩ | ⟨hb, k1, k2⟩ | ⟨hb, -⟩
    · omega
    · omega
    · omega
    · omega
    · refine ⟨nI j, sR, sG, nI j, sM, ?_, ?_, Or.inl ⟨j, hj, by omega, rfl, rfl, hD, hH⟩, FrM_refl _ _, rfl, rfl⟩
      · intro fuel hf
        obtain ⟨f, rfl⟩ : ∃ f, fuel = f + 1 := ⟨fuel - 1, by omega⟩
        show f_Reader_parse_L19 (loopF f_Reader_parse_L19 f) (nI j, sR, sG) = _
        simp only [f_Reader_parse_L19]
        rw [if_neg (show ¬ nI j = 0 from fun z => by have := nI_inj (b := 0) (by omega) (by decide) z; omega), if_pos k1, ite_self]
      · intro fuel hf
        obtain ⟨f, rfl⟩ : ∃ f, fuel = f + 1 := ⟨fuel - 1, by omega⟩
        show f_Model_readText_L16 a2 (loopF (f_Model_readText_L16 a2) f) (nI j, sM, sN) = _
        simp only [f_Model_readText_L16]
        rw [if_neg (show ¬ nI j = 0 from fun z => by have := nI_inj (b := 0) (by omega) (by decide) z; omega), if_pos k2]
    · omega
  | succ m ih =>
    intro b e j sR sM sG hm hL hK hj hjb hD h12 hH
    have hn := hL.1
    have hK0 := hK
    obtain ⟨hbe, hen, r4, r5, m9, m6, hk⟩ := hK0
    have hj0 : j ≤ 150 → ¬ nI j = 0 := fun hj2 z => by have := nI_inj (b := 0) (by omega) (by decide) z; omega
    by_cases h3 : sR 3 0 = 3
    · have k2 : sM 7 0 = 3 := by
        rcases hk with ⟨-, k1, -⟩ | ⟨-, k1, -⟩ | ⟨-, k1, -⟩ | ⟨-, k1, -⟩ | ⟨-, -, k2⟩ | ⟨-, k1, -⟩
        · rw [k1] at h3; exact absurd h3 (by decide)
        · rw [k1] at h3; exact absurd h3 (by decide)
        · rw [k1] at h3; exact absurd h3 (by decide)
        · rw [k1] at h3; exact absurd h3 (by decide)
        · exact k2
        · rw [k1] at h3; exact absurd h3 (by decide)
      refine ⟨nI j, sR, sG, nI j, sM, ?_, ?_, Or.inl ⟨j, hj, by omega, rfl, rfl, hD, hH⟩, FrM_refl _ _, rfl, rfl⟩
      · intro fuel hf
        obtain ⟨f, rfl⟩ : ∃ f, fuel = f + 1 := ⟨fuel - 1, by omega⟩
        show f_Reader_parse_L19 (loopF f_Reader_parse_L19 f) (nI j, sR, sG) = _
        simp only [f_Reader_parse_L19]
        rw [if_neg (hj0 (by omega)), if_pos h3, ite_self]
      · intro fuel hf
        obtain ⟨f, rfl⟩ : ∃ f, fuel = f + 1 := ⟨fuel - 1, by omega⟩
        show f_Model_readText_L16 a2 (loopF (f_Model_readText_L16 a2) f) (nI j, sM, sN) = _
        simp only [f_Model_readText_L16]
        rw [if_neg (hj0 (by omega)), if_pos k2]
    · have hlt : b < e := by
        rcases hk with ⟨h, -⟩ | ⟨h, -⟩ | ⟨h, -⟩ | ⟨h, -⟩ | ⟨-, k1, -⟩ | ⟨h, -⟩
        · exact h
        · exact h
        · exact h
        · exact h
        · exact absurd k1 h3
        · exact h
      have k2 : sM 7 0 ≠ 3 := by
        rcases hk with ⟨-, -, k2⟩ | ⟨-, -, k2, -⟩ | ⟨-, -, k2, -⟩ | ⟨-, -, k2⟩ | ⟨-, k1, -⟩ | ⟨-, -, k2⟩
        · rw [k2]; decide
        · rw [k2]; decide
        · rw [k2]; decide
        · rw [k2]; decide
        · exact absurd k1 h3
        · rw [k2]; decide
      obtain ⟨rC, aR, aG, rM, aM, c1, c2, hI⟩ := item_both sN ha (hj0 (by omega)) hL hK hD h12 hH
      obtain ⟨⟨b1, e1, hK1, hI1⟩, hL1, hF1, g1, g2⟩ := hI
      have hK1' := hK1
      obtain ⟨hbe1, hen1, r41, r51, m91, m61, -⟩ := hK1'
      have eC : ∀ K, f_Reader_parse_L19 K (nI j, sR, sG) = (if rC = 0 then some (((-10 : Int32) - (aR 4 0)), aR, aG) else (if (aR 3 0) = (2 : Int32) then nm (nI j + (1 : Int32)) (fun x17 => bd (f_Reader_step aR) (fun sR18 => K (x17, sR18, aG))) else some (((-10 : Int32) - (aR 4 0)), aR, aG))) := by
        intro K
        simp only [f_Reader_parse_L19]
        rw [if_neg (show ¬ (150 : Int32) ≤ nI j from nI_ge (b := 150) (by omega) (by decide)), if_neg (hj0 (by omega)), if_neg h3]
        unfold f_Reader_parse_J38 f_Reader_parse_J48
        rw [if_neg (hj0 (by omega)), c1, bd3_s]
      have eM : ∀ K, f_Model_readText_L16 a2 K (nI j, sM, sN) = (if rM = 0 then some ((-1 : Int32), aM, sN) else nm (nI j + (1 : Int32)) (fun x14 => bd2 (f_Model_nextToken aM sN) (fun sM15 sN16 => K (x14, sM15, sN16)))) := by
        intro K
        simp only [f_Model_readText_L16]
        rw [if_neg (hj0 (by omega)), if_neg k2]
        unfold f_Model_readText_J28
        rw [c2, bd3_s]
      rcases hI1 with ⟨q1, q2, q3, q4, q5, q6, q7, q8⟩ | ⟨q1, q2⟩
      · obtain ⟨bR, bM, b2, e2, d1, d2, d3, d4, d5, d6, d7, d8⟩ := tok_both sN hL1 r51 m61 hen1
        obtain ⟨x, tR, tG, y, tM, z1, z2, z3, z4, z5, z6⟩ := ih b2 e2 (j + 1) bR bM aG (by omega) d5 d4 (by omega) (by omega) q6 (by rw [d6 12 (by omega)]; exact q7) (fun h => by rw [d6 0 (by omega), d6 13 (by omega), d6 14 (by omega)]; exact q8 h)
        refine ⟨x, tR, tG, y, tM, ?_, ?_, z3, (hF1.trans (FrM_of fun k hk => d6 k (by omega))).trans z4, z5.trans (d7.trans g1), z6.trans (d8.trans g2)⟩
        · intro fuel hf
          obtain ⟨f, rfl⟩ : ∃ f, fuel = f + 1 := ⟨fuel - 1, by omega⟩
          show f_Reader_parse_L19 (loopF f_Reader_parse_L19 f) (nI j, sR, sG) = _
          rw [eC, q2, if_10, if_pos q3, nm_s, d1, bd_s, show nI j + (1 : Int32) = nI (j + 1) from nI_add j 1]
          exact z1 f (by omega)
        · intro fuel hf
          obtain ⟨f, rfl⟩ : ∃ f, fuel = f + 1 := ⟨fuel - 1, by omega⟩
          show f_Model_readText_L16 a2 (loopF (f_Model_readText_L16 a2) f) (nI j, sM, sN) = _
          rw [eM, q1, if_10, nm_s, d2, bd2_s, show nI j + (1 : Int32) = nI (j + 1) from nI_add j 1]
          exact z2 f (by omega)
      · refine ⟨(-10 : Int32) - nI b1, aR, aG, -1, aM, ?_, ?_, Or.inr ⟨b1, by omega, rfl, m91, rfl⟩, hF1, g1, g2⟩
        · intro fuel hf
          obtain ⟨f, rfl⟩ : ∃ f, fuel = f + 1 := ⟨fuel - 1, by omega⟩
          show f_Reader_parse_L19 (loopF f_Reader_parse_L19 f) (nI j, sR, sG) = _
          rw [eC, r41]
          rcases q2 with q2 | ⟨q2, q3⟩
          · rw [q2, if_00]
          · rw [q2, if_10, if_neg q3]
        · intro fuel hf
          obtain ⟨f, rfl⟩ : ∃ f, fuel = f + 1 := ⟨fuel - 1, by omega⟩
          show f_Model_readText_L16 a2 (loopF (f_Model_readText_L16 a2) f) (nI j, sM, sN) = _
          rw [eM, q1, if_00]
theorem pass_both {sR sM : PW} (sN : PL) (sG : PW) {n : Nat} {tb : Nat → Nat} {a2 : Int32} (ha : a2 = 0 ∨ a2 = 1) (hL : LX sR sM n tb) : ∃ (x : Int32) (tR tG : PW) (y : Int32) (tM : PW), f_Reader_parse sR sG = some (x, tR, tG) ∧ f_Model_readText sM sN a2 = some (y, tM, sN) ∧ PR a2 x tG y tM ∧ FrM sM tM a2 ∧ tR 1 = sR 1 ∧ tR 2 = sR 2 := by
  have hn := hL.1
  obtain ⟨sH1, e0, h7, h8, h9, h10, hp, h12, h13, h14, h1', h11, h2', h21⟩ := start_C sG 1
  have hS : SG0 sH1 := ⟨h8, h9, h10, hp, h12, h13, h14, h1', h11, h2', h21⟩
  unfold f_Reader_parse f_Model_readText
  rw [e0, bd_s, nm_s, nm_s, nm_s]
  have hL0 : LX (up sR 5 (fun _ => (0 : Int32))) (up (up sM 6 (fun _ => (0 : Int32))) 12 (fun _ => (0 : Int32))) n tb := LX_keep hL rfl rfl rfl rfl
  obtain ⟨aR, aM, b, e, f1, f2, -, hK, hL1, hf1, g1, g2⟩ := tok_both sN (p := 0) hL0 rfl rfl (Nat.zero_le _)
  rw [f1, f2, bd_s, bd2_s]
  have hF0 : FrM sM aM a2 := FrM.trans (FrM_of fun k hk => by rw [up_ne (by omega), up_ne (by omega)]) (FrM_of fun k hk => hf1 k (by omega))
  have a12 : aM 12 0 = 0 := by rw [hf1 12 (by omega), up_eq]
  obtain ⟨rC, cR, cG, rM, cM, c1, c2, hI⟩ := first_both sN ha hL1 hK hS a12
  obtain ⟨⟨b1, e1, hK1, hI1⟩, hL2, hF1, k1, k2⟩ := hI
  have hK1' := hK1
  obtain ⟨hbe1, hen1, r41, r51, m91, m61, -⟩ := hK1'
  have eC : ∀ K, f_Reader_parse_L19 K (0, aR, sH1) = (if rC = 0 then some (((-10 : Int32) - (cR 4 0)), cR, cG) else (if (cR 3 0) = (2 : Int32) then nm ((0 : Int32) + (1 : Int32)) (fun x17 => bd (f_Reader_step cR) (fun sR18 => K (x17, sR18, cG))) else some (((-10 : Int32) - (cR 4 0)), cR, cG))) := by
    intro K
    simp only [f_Reader_parse_L19]
    unfold f_Reader_parse_J38 f_Reader_parse_J48
    rw [if_neg (show ¬ (150 : Int32) ≤ 0 by decide), if_00, if_pos trivial, c1, bd3_s]
  have eM : ∀ K, f_Model_readText_L16 a2 K (0, aM, sN) = (if rM = 0 then some ((-1 : Int32), cM, sN) else nm ((0 : Int32) + (1 : Int32)) (fun x14 => bd2 (f_Model_nextToken cM sN) (fun sM15 sN16 => K (x14, sM15, sN16)))) := by
    intro K
    simp only [f_Model_readText_L16]
    unfold f_Model_readText_J28
    rw [if_pos trivial, c2, bd3_s]
  have lC : loopF f_Reader_parse_L19 4000 ((0 : Int32), aR, sH1) = f_Reader_parse_L19 (loopF f_Reader_parse_L19 3999) (0, aR, sH1) := rfl
  have lM : loopF (f_Model_readText_L16 a2) 4000 ((0 : Int32), aM, sN) = f_Model_readText_L16 a2 (loopF (f_Model_readText_L16 a2) 3999) (0, aM, sN) := rfl
  rw [lC, lM, eC, eM]
  rcases hI1 with ⟨q1, q2, q3, q4, q5, q6, q7, q8⟩ | ⟨q1, q2⟩
  · obtain ⟨bR, bM, b2, e2, d1, d2, d3, d4, d5, d6, d7, d8⟩ := tok_both sN hL2 r51 m61 hen1
    obtain ⟨x, tR, tG, y, tM, z1, z2, z3, z4, z5, z6⟩ := text_both sN ha (n - b2) b2 e2 1 bR bM cG (Nat.le_refl _) d5 d4 (by omega) (by omega) q6 (by rw [d6 12 (by omega)]; exact q7) (fun h => by rw [d6 0 (by omega), d6 13 (by omega), d6 14 (by omega)]; exact q8 h)
    refine ⟨x, tR, tG, y, tM, ?_, ?_, z3, ((hF0.trans hF1).trans (FrM_of fun k hk => d6 k (by omega))).trans z4, z5.trans (d7.trans (k1.trans g1)), z6.trans (d8.trans (k2.trans g2))⟩
    · rw [q2, if_10, if_pos q3, nm_s, d1, bd_s]
      exact z1 3999 (by omega)
    · rw [q1, if_10, nm_s, d2, bd2_s]
      exact z2 3999 (by omega)
  · refine ⟨(-10 : Int32) - nI b1, cR, cG, -1, cM, ?_, ?_, Or.inr ⟨b1, by omega, rfl, m91, rfl⟩, hF0.trans hF1, k1.trans g1, k2.trans g2⟩
    · rw [r41]
      rcases q2 with q2 | ⟨q2, q3⟩
      · rw [q2, if_00]
      · rw [q2, if_10, if_neg q3]
    · rw [q1, if_00]
theorem neg_b : ∀ b, b < 151 → (-10 : Int32) - nI b ≤ 0 := by decide +kernel
theorem op_read : Op_read Rel0 := by
  intro i0 i1 sF sR sH sM sN sG hR _
  have hR' := hR
  obtain ⟨h1, h2, ⟨t1, t2, t3⟩, h4, h5, h6, h7⟩ := hR'
  obtain ⟨hl, el⟩ := okV t2
  have hL : LX sR sM (vn sR 2 0) (fun k => vn sR 1 k) := by
    refine ⟨by omega, el, t1.symm.trans el, ?_⟩
    intro k hk
    obtain ⟨x1, x2⟩ := t3 k hk
    obtain ⟨y1, y2⟩ := okV x2
    exact ⟨y1, y2, x1.symm.trans y2⟩
  obtain ⟨x, tR, tG, y, tM, f1, f2, hP, hF, g1, g2⟩ := pass_both sN sG (a2 := 0) (Or.inl rfl) hL
  obtain ⟨hF1, hF2⟩ := hF
  obtain ⟨hF3, hF4⟩ := hF2 rfl
  have hT : ∀ M : PW, M 4 = sM 4 → M 5 = sM 5 → TxR tR M := by
    intro M m4 m5
    unfold TxR vn
    rw [g1, g2, m4, m5]
    exact ⟨t1, t2, t3⟩
  have hIm : ∀ M : PW, M 18 = sM 18 → M 19 = sM 19 → M 20 = sM 20 → M 21 = sM 21 → ImR i0 M 0 ∧ ImR i1 M 1 := by
    intro M m18 m19 m20 m21
    unfold ImR
    rw [m18, m19, m20, m21]
    exact ⟨h6, h7⟩
  unfold f_Face_read f_Model_read
  rw [f1, f2, bd3_s, bd3_s]
  rcases hP with ⟨i, hi, hi2, ex, ey, hD, -⟩ | ⟨b, hb, ey, m9, ex⟩
  · have hL2 : LX sR tM (vn sR 2 0) (fun k => vn sR 1 k) := LX_keep hL rfl rfl (hF1 4 (by omega)) (hF1 5 (by omega))
    obtain ⟨x', tR', tG', y', tM', f1', f2', hP', hF', -, -⟩ := pass_both sN sG (a2 := 1) (Or.inr rfl) hL2
    have same := f1'.symm.trans f1
    have s1 : x' = x := congrArg Prod.fst (Option.some.inj same)
    have s2 : tG' = tG := congrArg (fun z => z.2.2) (Option.some.inj same)
    subst s1
    subst s2
    obtain ⟨i', hi', hi2', ex', ey', hD', hH'⟩ : ∃ i, 0 < i ∧ i ≤ 150 ∧ x' = nI i ∧ y' = nI i ∧ DrG tG' ∧ ((1 : Int32) = 1 → HR tG' (tM' 0) (tM' 13) (tM' 14 0)) := by
      rcases hP' with h | ⟨b, hb, -, -, ex2⟩
      · exact h
      · exfalso
        have := neg_b b (by omega)
        rw [← ex2, ex] at this
        exact nI_ge (a := 0) (b := i) hi (by omega) this
    have hx : ¬ x' ≤ 0 := by
      rw [ex]
      exact nI_ge (a := 0) (b := i) hi (by omega)
    obtain ⟨tH, et, hE⟩ := take_C sH tG' (isZ_nI hD'.1.war)
    rw [if_neg hx, et, bd_s, ey, if_pos (nI_pos' (by omega)), f2', bd3_s, ey', ← ex']
    have hFF := hF'.1
    obtain ⟨j0, j1⟩ := hIm tM' ((hFF 18 (by omega)).trans (hF1 18 (by omega))) ((hFF 19 (by omega)).trans (hF1 19 (by omega))) ((hFF 20 (by omega)).trans (hF1 20 (by omega))) ((hFF 21 (by omega)).trans (hF1 21 (by omega)))
    have e3 : tM' 3 = sM 3 := (hFF 3 (by omega)).trans (hF1 3 (by omega))
    exact ⟨_, _, _, _, _, _, rfl, rfl, ok_eqv hE hD'.1, hr_eqv hE hD'.1 (hH' rfl), hT tM' ((hFF 4 (by omega)).trans (hF1 4 (by omega))) ((hFF 5 (by omega)).trans (hF1 5 (by omega))), by rw [e3]; exact h4, h5, j0, j1⟩
  · have hx : x ≤ 0 := by
      rw [ex]
      exact neg_b b (by omega)
    rw [if_pos hx, ey, if_neg (by decide), m9, ← ex]
    obtain ⟨j0, j1⟩ := hIm tM (hF1 18 (by omega)) (hF1 19 (by omega)) (hF1 20 (by omega)) (hF1 21 (by omega))
    refine ⟨_, _, _, _, _, _, rfl, rfl, h1, ?_, hT tM (hF1 4 (by omega)) (hF1 5 (by omega)), ?_, h5, j0, j1⟩
    · rw [hF3, hF4, hF1 13 (by omega)]
      exact h2
    · rw [hF1 3 (by omega)]
      exact h4
