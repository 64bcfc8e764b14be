/-! ===== both readers side by side ===== -/
def TK (n : Nat) (sR sM : PW) (b e : Nat) : Prop := b ≤ e ∧ e ≤ n ∧ sR 4 0 = nI b ∧ sR 5 0 = nI e ∧ sM 9 0 = nI b ∧ sM 6 0 = nI e ∧ ((b < e ∧ sR 3 0 = 0 ∧ sM 7 0 = 1) ∨ (b < e ∧ sR 3 0 = 1 ∧ sM 7 0 = 2 ∧ ∃ v, v < 100 ∧ sR 6 0 = nI v ∧ sM 8 0 = nI v) ∨ (b < e ∧ sR 3 0 = 1 ∧ sM 7 0 = 0 ∧ sR 6 0 = -1) ∨ (b < e ∧ sR 3 0 = 2 ∧ sM 7 0 = 4) ∨ (b = n ∧ sR 3 0 = 3 ∧ sM 7 0 = 3) ∨ (b < e ∧ sR 3 0 = 4 ∧ sM 7 0 = 0))
theorem LX_keep {sR sM tR tM : PW} {n : Nat} {tb : Nat → Nat} (h : LX sR sM n tb) (h1 : tR 1 = sR 1) (h2 : tR 2 = sR 2) (h4 : tM 4 = sM 4) (h5 : tM 5 = sM 5) : LX tR tM n tb := by
  unfold LX
  rw [h1, h2, h4, h5]
  exact h
theorem tok_both {sR sM : PW} (sN : PL) {n p : Nat} {tb : Nat → Nat} (hL : LX sR sM n tb) (h5 : sR 5 0 = nI p) (h6 : sM 6 0 = nI p) (hp : p ≤ n) : ∃ (tR tM : PW) (b e : Nat), f_Reader_step sR = some tR ∧ f_Model_nextToken sM sN = some (tM, sN) ∧ p ≤ b ∧ TK n tR tM b e ∧ LX tR tM n tb ∧ (∀ k, k < 6 ∨ 9 < k → tM k = sM k) ∧ tR 1 = sR 1 ∧ tR 2 = sR 2 := by
  have hL' := hL
  obtain ⟨hn, r2, m5, hx⟩ := hL'
  obtain ⟨b, e, hT⟩ := TB_ex tb hp
  obtain ⟨tR, c1, c2, c3, c4, c5, c6⟩ := step_C hn (fun k hk => ⟨(hx k hk).1, (hx k hk).2.1⟩) r2 h5 hT
  obtain ⟨tM, d1, d2, d3, d4, d5, d6⟩ := next_M (sN := sN) hn (fun k hk => ⟨(hx k hk).1, (hx k hk).2.2⟩) m5 h6 hT
  obtain ⟨hpb, hbe, hen, -, hT', hTn⟩ := hT
  refine ⟨tR, tM, b, e, c1, d1, hpb, ⟨hbe, hen, c3, c4, d3, d4, ?_⟩, LX_keep hL (c2 1 (by decide) (by decide) (by decide) (by decide)) (c2 2 (by decide) (by decide) (by decide) (by decide)) (d2 4 (by decide) (by decide) (by decide) (by decide)) (d2 5 (by decide) (by decide) (by decide) (by decide)), fun k hk => d2 k (by omega) (by omega) (by omega) (by omega), c2 1 (by decide) (by decide) (by decide) (by decide), c2 2 (by decide) (by decide) (by decide) (by decide)⟩
  by_cases c : b < n
  · obtain ⟨t1, t2⟩ := c5 c
    obtain ⟨u0, u1, u2, u4⟩ := d5 c
    obtain ⟨-, hbe', hrun, -⟩ := hT' c
    rcases ck_cases (tb b) with hc | hc | hc | hc
    · rw [hc] at t1
      exact Or.inl ⟨hbe', t1, u0 hc⟩
    · rw [hc] at t1
      obtain ⟨v1, v2⟩ := u1 hc
      have f0 := ck_fig hc
      by_cases c2 : e - b ≤ 2
      · obtain ⟨w1, w2⟩ := v1 c2
        refine Or.inr (Or.inl ⟨hbe', t1, w1, ?_⟩)
        rw [t2 hc, w2]
        unfold figV
        by_cases ce : e - b = 1
        · rw [if_pos ce]
          exact ⟨_, by omega, rfl, rfl⟩
        · have f1 := ck_fig (((hrun (by omega)).1 (b + 1) (by omega) (by omega)).trans hc)
          rw [if_neg ce, if_pos (by omega)]
          exact ⟨_, by omega, rfl, rfl⟩
      · refine Or.inr (Or.inr (Or.inl ⟨hbe', t1, v2 c2, ?_⟩))
        rw [t2 hc]
        unfold figV
        rw [if_neg (by omega), if_neg (by omega)]
    · rw [hc] at t1
      exact Or.inr (Or.inr (Or.inr (Or.inl ⟨hbe', t1, u2 hc⟩)))
    · rw [hc] at t1
      exact Or.inr (Or.inr (Or.inr (Or.inr (Or.inr ⟨hbe', t1, u4 hc⟩))))
  · exact Or.inr (Or.inr (Or.inr (Or.inr (Or.inl ⟨by omega, c6 c, d6 c⟩))))
/-- a number up to mx, on both sides -/
theorem num_both {sR sM : PW} (sN : PL) {n p row mx : Nat} {tb : Nat → Nat} (hL : LX sR sM n tb) (h5 : sR 5 0 = nI p) (h6 : sM 6 0 = nI p) (hp : p ≤ n) (hrow : row < 2) (hmx : mx < 99) : ∃ (tR tM : PW) (b e : Nat) (r : Int32), f_Reader_number sR (nI mx) = some (r, tR) ∧ f_Model_reads sM sN (nI row) (nI mx) = some (r, tM, sN) ∧ p ≤ b ∧ TK n tR tM b e ∧ LX tR tM n tb ∧ (∀ k, k < 6 ∨ 10 < k → tM k = sM k) ∧ (∀ j, j ≠ row → tM 10 j = sM 10 j) ∧ (r = 0 ∨ r = 1 ∧ b < e ∧ ∃ v, v ≤ mx ∧ tR 6 0 = nI v ∧ tM 10 row = nI v) ∧ tR 1 = sR 1 ∧ tR 2 = sR 2 := by
  obtain ⟨tR, tM, b, e, f1, f2, hpb, hK, hL2, hf, g1, g2⟩ := tok_both sN hL h5 h6 hp
  have hL3 : LX tR (up tM 10 (upd (tM 10) row (tM 8 0))) n tb := LX_keep hL2 rfl rfl (up_ne (by decide)) (up_ne (by decide))
  have hff : ∀ k, k < 6 ∨ 10 < k → up tM 10 (upd (tM 10) row (tM 8 0)) k = sM k := fun k hk => by rw [up_ne (by omega)]; exact hf k (by omega)
  have hfr : ∀ j, j ≠ row → up tM 10 (upd (tM 10) row (tM 8 0)) 10 j = sM 10 j := fun j hj => by rw [up_eq, upd_ne hj, hf 10 (by omega)]
  unfold f_Reader_number f_Model_reads
  rw [f1, f2, bd_s, bd2_s, okI_nI hrow (by omega), nI_clamp (by omega), gd_t, nm_s, within_eq _ (by omega)]
  have a7 : up tM 10 (upd (tM 10) row (tM 8 0)) 7 0 = tM 7 0 := by rw [up_ne (by decide)]
  have a8 : up tM 10 (upd (tM 10) row (tM 8 0)) 8 0 = tM 8 0 := by rw [up_ne (by decide)]
  have a6 : up tM 10 (upd (tM 10) row (tM 8 0)) 6 0 = tM 6 0 := by rw [up_ne (by decide)]
  have a9 : up tM 10 (upd (tM 10) row (tM 8 0)) 9 0 = tM 9 0 := by rw [up_ne (by decide)]
  have a10 : up tM 10 (upd (tM 10) row (tM 8 0)) 10 row = tM 8 0 := by rw [up_eq, upd_eq]
  generalize up tM 10 (upd (tM 10) row (tM 8 0)) = U at hL3 hff hfr a7 a8 a6 a9 a10
  have hK2 : TK n tR U b e := by
    unfold TK
    rw [a6, a7, a8, a9]
    exact hK
  rw [a7, a8]
  obtain ⟨-, -, -, -, -, -, hk⟩ := hK
  rcases hk with ⟨-, k1, k2⟩ | ⟨hbe, k1, k2, v, hv, k3, k4⟩ | ⟨-, k1, k2, k3⟩ | ⟨-, k1, k2⟩ | ⟨-, k1, k2⟩ | ⟨-, k1, k2⟩
  · rw [k1, k2, if_neg (by decide), if_neg (by decide)]
    exact ⟨tR, U, b, e, 0, rfl, rfl, hpb, hK2, hL3, hff, hfr, Or.inl rfl, g1, g2⟩
  · rw [k1, k2, k3, k4, if_pos rfl, if_pos rfl, bd_s]
    by_cases c : v ≤ mx
    · rw [if_pos (okI_nI (by omega) (by omega)), if_10, if_neg (nI_nlt c (by omega))]
      exact ⟨tR, U, b, e, 1, rfl, rfl, hpb, hK2, hL3, hff, hfr, Or.inr ⟨rfl, hbe, v, c, k3, a10.trans k4⟩, g1, g2⟩
    · rw [if_neg (show ¬ okI (nI v) (mx + 1) = true by rw [okI_iff, nI_toInt (by omega)]; omega), if_00, if_pos (nI_lt (by omega) (by omega))]
      exact ⟨tR, U, b, e, 0, rfl, rfl, hpb, hK2, hL3, hff, hfr, Or.inl rfl, g1, g2⟩
  · rw [k1, k2, k3, if_pos rfl, bd_s, if_neg (show ¬ okI (-1) (mx + 1) = true by rw [okI_iff]; intro h; exact absurd h.1 (by decide)), if_00, if_neg (show ¬ (0 : Int32) = 2 by decide)]
    exact ⟨tR, U, b, e, 0, rfl, rfl, hpb, hK2, hL3, hff, hfr, Or.inl rfl, g1, g2⟩
  · rw [k1, k2, if_neg (by decide), if_neg (by decide)]
    exact ⟨tR, U, b, e, 0, rfl, rfl, hpb, hK2, hL3, hff, hfr, Or.inl rfl, g1, g2⟩
  · rw [k1, k2, if_neg (by decide), if_neg (by decide)]
    exact ⟨tR, U, b, e, 0, rfl, rfl, hpb, hK2, hL3, hff, hfr, Or.inl rfl, g1, g2⟩
  · rw [k1, k2, if_neg (by decide), if_neg (by decide)]
    exact ⟨tR, U, b, e, 0, rfl, rfl, hpb, hK2, hL3, hff, hfr, Or.inl rfl, g1, g2⟩
/-- the stop at the end of an item -/
theorem end_both {sR sM : PW} (sN : PL) {n p : Nat} {tb : Nat → Nat} (hL : LX sR sM n tb) (h5 : sR 5 0 = nI p) (h6 : sM 6 0 = nI p) (hp : p ≤ n) : ∃ (tR tM : PW) (b e : Nat) (r : Int32), f_Reader_step sR = some tR ∧ f_Model_ends sM sN = some (r, tM, sN) ∧ p ≤ b ∧ TK n tR tM b e ∧ LX tR tM n tb ∧ (∀ k, k < 6 ∨ 9 < k → tM k = sM k) ∧ (r = 0 ∧ tR 3 0 ≠ 2 ∨ r = 1 ∧ b < e ∧ tR 3 0 = 2) ∧ tR 1 = sR 1 ∧ tR 2 = sR 2 := by
  obtain ⟨tR, tM, b, e, f1, f2, hpb, hK, hL2, hf, g1, g2⟩ := tok_both sN hL h5 h6 hp
  unfold f_Model_ends
  rw [f1, f2, bd2_s]
  have hK' := hK
  obtain ⟨-, -, -, -, -, -, hk⟩ := hK'
  rcases hk with ⟨-, k1, k2⟩ | ⟨-, k1, k2, -⟩ | ⟨-, k1, k2, k3⟩ | ⟨hbe, k1, k2⟩ | ⟨-, k1, k2⟩ | ⟨-, k1, k2⟩
  · rw [k2, if_neg (by decide)]
    exact ⟨tR, tM, b, e, 0, rfl, rfl, hpb, hK, hL2, hf, Or.inl ⟨rfl, by rw [k1]; decide⟩, g1, g2⟩
  · rw [k2, if_neg (by decide)]
    exact ⟨tR, tM, b, e, 0, rfl, rfl, hpb, hK, hL2, hf, Or.inl ⟨rfl, by rw [k1]; decide⟩, g1, g2⟩
  · rw [k2, if_neg (by decide)]
    exact ⟨tR, tM, b, e, 0, rfl, rfl, hpb, hK, hL2, hf, Or.inl ⟨rfl, by rw [k1]; decide⟩, g1, g2⟩
  · rw [k2, if_pos rfl]
    exact ⟨tR, tM, b, e, 1, rfl, rfl, hpb, hK, hL2, hf, Or.inr ⟨rfl, hbe, k1⟩, g1, g2⟩
  · rw [k2, if_neg (by decide)]
    exact ⟨tR, tM, b, e, 0, rfl, rfl, hpb, hK, hL2, hf, Or.inl ⟨rfl, by rw [k1]; decide⟩, g1, g2⟩
  · rw [k2, if_neg (by decide)]
    exact ⟨tR, tM, b, e, 0, rfl, rfl, hpb, hK, hL2, hf, Or.inl ⟨rfl, by rw [k1]; decide⟩, g1, g2⟩
/-! words -/
def wrd (i : Nat) : List Nat := match i with
  | 0 => [104, 111, 117, 115, 101]
  | 1 => [114, 97, 116, 101]
  | 2 => [98, 97, 114]
  | 3 => [100, 111, 105, 110, 103]
  | _ => [119, 97, 114]
theorem strL_eq : ∀ i, i < 5 → strL i = nI (wrd i).length ∧ lenS.getD i 0 = (wrd i).length := by decide
theorem strC_eq : ∀ i, i < 5 → ∀ k, k < (wrd i).length → strC i (nI k) = nI ((wrd i).getD k 0) := by decide +kernel
theorem wrd_le : ∀ i, i < 5 → (wrd i).length ≤ 5 ∧ 3 ≤ (wrd i).length := by decide
theorem wrd_lt : ∀ i, i < 5 → ∀ k, k < (wrd i).length → (wrd i).getD k 0 < 128 := by decide
def isW (tb : Nat → Nat) (b e i : Nat) (t : Int32) : Prop := t = 0 ∧ e - b = (wrd i).length ∧ ∀ k, k < (wrd i).length → tb (b + k) = (wrd i).getD k 0
theorem word_C {sR : PW} {n b e i : Nat} {tb : Nat → Nat} (hi : i < 5) (hn : n ≤ 150) (hx : ∀ k, k < n → tb k < 128 ∧ sR 1 k = nI (tb k)) (hbe : b ≤ e) (hen : e ≤ n) (h4 : sR 4 0 = nI b) (h5 : sR 5 0 = nI e) : (isW tb b e i (sR 3 0) → f_Reader_isWord sR i = some 1) ∧ (¬ isW tb b e i (sR 3 0) → f_Reader_isWord sR i = some 0) := by
  obtain ⟨eL, eS⟩ := strL_eq i hi
  obtain ⟨l5, l3⟩ := wrd_le i hi
  unfold f_Reader_isWord
  rw [h4, h5, nI_sub hbe (by omega), eL]
  by_cases c3 : sR 3 0 = 0
  · rw [if_pos c3]
    by_cases cl : e - b = (wrd i).length
    · rw [if_pos (by rw [cl])]
      have body : ∀ k, k < (wrd i).length → ∀ K, f_Reader_isWord_L27 i sR K (nI k) = if tb (b + k) = (wrd i).getD k 0 then K (nI (k + 1)) else some 0 := by
        intro k hk K
        have hb := hx (b + k) (by omega)
        have hw := wrd_lt i hi k hk
        simp only [f_Reader_isWord_L27]
        rw [eL, eS, if_neg (nI_ge hk (by omega)), h4, nI_add, okI_nI (by omega) (by omega), nI_clamp (by omega), okI_nI hk (by omega), gd_t, gd_t, strC_eq i hi k hk, hb.2, nm_s, show nI k + (1 : Int32) = nI (k + 1) from nI_add k 1]
        by_cases c : tb (b + k) = (wrd i).getD k 0
        · rw [if_pos c, if_pos (by rw [c])]
        · rw [if_neg c, if_neg (fun z => c (nI_inj (by omega) (by omega) z))]
      constructor
      · rintro ⟨-, -, hall⟩
        refine loop_seq (fun k => nI k) (wrd i).length 4000 (by omega) ?_ ?_
        · intro k hk K
          rw [body k hk, if_pos (hall k hk)]
        · intro K
          simp only [f_Reader_isWord_L27]
          rw [eL, if_pos (nI_le (Nat.le_refl _) (by omega))]
      · intro hnot
        have hex : ∃ k, k < (wrd i).length ∧ ¬ tb (b + k) = (wrd i).getD k 0 := by
          by_cases h : ∃ k, k < (wrd i).length ∧ ¬ tb (b + k) = (wrd i).getD k 0
          · exact h
          · refine absurd ⟨c3, cl, fun k hk => ?_⟩ hnot
            by_cases hk2 : tb (b + k) = (wrd i).getD k 0
            · exact hk2
            · exact absurd ⟨k, hk, hk2⟩ h
        obtain ⟨k0, hk0, g1, g2⟩ := first_ex _ hex
        refine loop_seq (fun k => nI k) k0 4000 (by omega) ?_ ?_
        · intro k hk K
          rw [body k (by omega), if_pos (Classical.not_not.mp (g2 k hk))]
        · intro K
          rw [body k0 hk0, if_neg g1]
    · rw [if_neg (fun z => cl (nI_inj (by omega) (by omega) z))]
      exact ⟨fun h => absurd h.2.1 cl, fun _ => rfl⟩
  · rw [if_neg c3]
    exact ⟨fun h => absurd h.1 c3, fun _ => rfl⟩
