/-! ===== the model's words ===== -/
theorem wM3 {sM : PW} {sN : PL} {n b e c1 c2 c3 : Nat} {tb : Nat → Nat} (hn : n ≤ 150) (hx : ∀ k, k < n → tb k < 128 ∧ sM 4 k = nI (tb k)) (hbe : b ≤ e) (hen : e ≤ n) (h9 : sM 9 0 = nI b) (h6 : sM 6 0 = nI e) (l1 : c1 < 128) (l2 : c2 < 128) (l3 : c3 < 128) : ((sM 7 0 = 1 ∧ e - b = 3 ∧ tb b = c1 ∧ tb (b + 1) = c2 ∧ tb (b + 2) = c3) → f_Model_isWord sM sN (nI c1) (nI c2) (nI c3) 0 0 = some 1) ∧ (¬ (sM 7 0 = 1 ∧ e - b = 3 ∧ tb b = c1 ∧ tb (b + 1) = c2 ∧ tb (b + 2) = c3) → f_Model_isWord sM sN (nI c1) (nI c2) (nI c3) 0 0 = some 0) := by
  unfold f_Model_isWord f_Model_isWord_J19 f_Model_isWord_J90 f_Model_isWord_J91 f_Model_isWord_J120
  rw [if_pos (show (0 : Int32) = 0 from rfl), if_00, if_10, h9, h6, nI_sub hbe (by omega), if_pos (show (3 : Int32) < 4 by decide), if_pos (show (3 : Int32) < 5 by decide)]
  by_cases c7 : sM 7 0 = 1
  · rw [if_pos c7]
    by_cases cl : e - b = 3
    · have x0 := hx b (by omega)
      have x1 := hx (b + 1) (by omega)
      have x2 := hx (b + 2) (by omega)
      rw [if_pos (show nI (e - b) = (3 : Int32) by rw [cl]; rfl), show nI b + (1 : Int32) = nI (b + 1) from nI_add b 1, show nI b + (2 : Int32) = nI (b + 2) from nI_add b 2, okI_nI (show b < 150 by omega) (by omega), okI_nI (show b + 1 < 150 by omega) (by omega), okI_nI (show b + 2 < 150 by omega) (by omega), nI_clamp (show b < 2 ^ 31 by omega), nI_clamp (show b + 1 < 2 ^ 31 by omega), nI_clamp (show b + 2 < 2 ^ 31 by omega), x0.2, x1.2, x2.2, gd_t, gd_t, gd_t]
      by_cases d0 : tb b = c1
      · rw [if_pos (by rw [d0])]
        by_cases d1 : tb (b + 1) = c2
        · rw [if_pos (by rw [d1])]
          by_cases d2 : tb (b + 2) = c3
          · rw [if_pos (by rw [d2])]
            exact ⟨fun _ => rfl, fun h => absurd ⟨c7, cl, d0, d1, d2⟩ h⟩
          · rw [if_neg (fun z => d2 (nI_inj (by omega) (by omega) z))]
            exact ⟨fun h => absurd h.2.2.2.2 d2, fun _ => rfl⟩
        · rw [if_neg (fun z => d1 (nI_inj (by omega) (by omega) z))]
          exact ⟨fun h => absurd h.2.2.2.1 d1, fun _ => rfl⟩
      · rw [if_neg (fun z => d0 (nI_inj (by omega) (by omega) z))]
        exact ⟨fun h => absurd h.2.2.1 d0, fun _ => rfl⟩
    · rw [if_neg (show ¬ nI (e - b) = (3 : Int32) from fun z => cl (nI_inj (b := 3) (by omega) (by decide) z))]
      exact ⟨fun h => absurd h.2.1 cl, fun _ => rfl⟩
  · rw [if_neg c7]
    exact ⟨fun h => absurd h.1 c7, fun _ => rfl⟩
theorem nI_n0 {c : Nat} (h : c < 128) (h0 : c ≠ 0) : ¬ nI c = 0 := fun z => h0 (nI_inj (b := 0) (by omega) (by decide) z)
theorem wM4 {sM : PW} {sN : PL} {n b e c1 c2 c3 c4 : Nat} {tb : Nat → Nat} (hn : n ≤ 150) (hx : ∀ k, k < n → tb k < 128 ∧ sM 4 k = nI (tb k)) (hbe : b ≤ e) (hen : e ≤ n) (h9 : sM 9 0 = nI b) (h6 : sM 6 0 = nI e) (l1 : c1 < 128) (l2 : c2 < 128) (l3 : c3 < 128) (l4 : c4 < 128) (z4 : c4 ≠ 0) : ((sM 7 0 = 1 ∧ e - b = 4 ∧ tb b = c1 ∧ tb (b + 1) = c2 ∧ tb (b + 2) = c3 ∧ tb (b + 3) = c4) → f_Model_isWord sM sN (nI c1) (nI c2) (nI c3) (nI c4) 0 = some 1) ∧ (¬ (sM 7 0 = 1 ∧ e - b = 4 ∧ tb b = c1 ∧ tb (b + 1) = c2 ∧ tb (b + 2) = c3 ∧ tb (b + 3) = c4) → f_Model_isWord sM sN (nI c1) (nI c2) (nI c3) (nI c4) 0 = some 0) := by
  unfold f_Model_isWord f_Model_isWord_J19 f_Model_isWord_J90 f_Model_isWord_J91 f_Model_isWord_J120
  rw [if_neg (nI_n0 l4 z4), if_pos (show (0 : Int32) = 0 from rfl), if_00, if_10, h9, h6, nI_sub hbe (by omega), if_neg (show ¬ (4 : Int32) < 4 by decide), if_pos (show (4 : Int32) < 5 by decide)]
  by_cases c7 : sM 7 0 = 1
  · rw [if_pos c7]
    by_cases cl : e - b = 4
    · have x0 := hx b (by omega)
      have x1 := hx (b + 1) (by omega)
      have x2 := hx (b + 2) (by omega)
      have x3 := hx (b + 3) (by omega)
      rw [if_pos (show nI (e - b) = (4 : Int32) by rw [cl]; rfl), show nI b + (1 : Int32) = nI (b + 1) from nI_add b 1, show nI b + (2 : Int32) = nI (b + 2) from nI_add b 2, show nI b + (3 : Int32) = nI (b + 3) from nI_add b 3, okI_nI (show b < 150 by omega) (by omega), okI_nI (show b + 1 < 150 by omega) (by omega), okI_nI (show b + 2 < 150 by omega) (by omega), okI_nI (show b + 3 < 150 by omega) (by omega), nI_clamp (show b < 2 ^ 31 by omega), nI_clamp (show b + 1 < 2 ^ 31 by omega), nI_clamp (show b + 2 < 2 ^ 31 by omega), nI_clamp (show b + 3 < 2 ^ 31 by omega), x0.2, x1.2, x2.2, x3.2, gd_t, gd_t, gd_t, gd_t]
      by_cases d0 : tb b = c1
      · rw [if_pos (by rw [d0])]
        by_cases d1 : tb (b + 1) = c2
        · rw [if_pos (by rw [d1])]
          by_cases d2 : tb (b + 2) = c3
          · rw [if_pos (by rw [d2])]
            by_cases d3 : tb (b + 3) = c4
            · rw [if_pos (by rw [d3])]
              exact ⟨fun _ => rfl, fun h => absurd ⟨c7, cl, d0, d1, d2, d3⟩ h⟩
            · rw [if_neg (fun z => d3 (nI_inj (by omega) (by omega) z))]
              exact ⟨fun h => absurd h.2.2.2.2.2 d3, fun _ => rfl⟩
          · rw [if_neg (fun z => d2 (nI_inj (by omega) (by omega) z))]
            exact ⟨fun h => absurd h.2.2.2.2.1 d2, fun _ => rfl⟩
        · rw [if_neg (fun z => d1 (nI_inj (by omega) (by omega) z))]
          exact ⟨fun h => absurd h.2.2.2.1 d1, fun _ => rfl⟩
      · rw [if_neg (fun z => d0 (nI_inj (by omega) (by omega) z))]
        exact ⟨fun h => absurd h.2.2.1 d0, fun _ => rfl⟩
    · rw [if_neg (show ¬ nI (e - b) = (4 : Int32) from fun z => cl (nI_inj (b := 4) (by omega) (by decide) z))]
      exact ⟨fun h => absurd h.2.1 cl, fun _ => rfl⟩
  · rw [if_neg c7]
    exact ⟨fun h => absurd h.1 c7, fun _ => rfl⟩
theorem wM5 {sM : PW} {sN : PL} {n b e c1 c2 c3 c4 c5 : Nat} {tb : Nat → Nat} (hn : n ≤ 150) (hx : ∀ k, k < n → tb k < 128 ∧ sM 4 k = nI (tb k)) (hbe : b ≤ e) (hen : e ≤ n) (h9 : sM 9 0 = nI b) (h6 : sM 6 0 = nI e) (l1 : c1 < 128) (l2 : c2 < 128) (l3 : c3 < 128) (l4 : c4 < 128) (z4 : c4 ≠ 0) (l5 : c5 < 128) (z5 : c5 ≠ 0) : ((sM 7 0 = 1 ∧ e - b = 5 ∧ tb b = c1 ∧ tb (b + 1) = c2 ∧ tb (b + 2) = c3 ∧ tb (b + 3) = c4 ∧ tb (b + 4) = c5) → f_Model_isWord sM sN (nI c1) (nI c2) (nI c3) (nI c4) (nI c5) = some 1) ∧ (¬ (sM 7 0 = 1 ∧ e - b = 5 ∧ tb b = c1 ∧ tb (b + 1) = c2 ∧ tb (b + 2) = c3 ∧ tb (b + 3) = c4 ∧ tb (b + 4) = c5) → f_Model_isWord sM sN (nI c1) (nI c2) (nI c3) (nI c4) (nI c5) = some 0) := by
  unfold f_Model_isWord f_Model_isWord_J19 f_Model_isWord_J90 f_Model_isWord_J91 f_Model_isWord_J120
  rw [if_neg (nI_n0 l4 z4), if_neg (nI_n0 l5 z5), if_00, if_10, h9, h6, nI_sub hbe (by omega), if_neg (show ¬ (5 : Int32) < 4 by decide), if_neg (show ¬ (5 : Int32) < 5 by decide)]
  by_cases c7 : sM 7 0 = 1
  · rw [if_pos c7]
    by_cases cl : e - b = 5
    · have x0 := hx b (by omega)
      have x1 := hx (b + 1) (by omega)
      have x2 := hx (b + 2) (by omega)
      have x3 := hx (b + 3) (by omega)
      have x4 := hx (b + 4) (by omega)
      rw [if_pos (show nI (e - b) = (5 : Int32) by rw [cl]; rfl), show nI b + (1 : Int32) = nI (b + 1) from nI_add b 1, show nI b + (2 : Int32) = nI (b + 2) from nI_add b 2, show nI b + (3 : Int32) = nI (b + 3) from nI_add b 3, show nI b + (4 : Int32) = nI (b + 4) from nI_add b 4, okI_nI (show b < 150 by omega) (by omega), okI_nI (show b + 1 < 150 by omega) (by omega), okI_nI (show b + 2 < 150 by omega) (by omega), okI_nI (show b + 3 < 150 by omega) (by omega), okI_nI (show b + 4 < 150 by omega) (by omega), nI_clamp (show b < 2 ^ 31 by omega), nI_clamp (show b + 1 < 2 ^ 31 by omega), nI_clamp (show b + 2 < 2 ^ 31 by omega), nI_clamp (show b + 3 < 2 ^ 31 by omega), nI_clamp (show b + 4 < 2 ^ 31 by omega), x0.2, x1.2, x2.2, x3.2, x4.2, gd_t, gd_t, gd_t, gd_t, gd_t]
      by_cases d0 : tb b = c1
      · rw [if_pos (by rw [d0])]
        by_cases d1 : tb (b + 1) = c2
        · rw [if_pos (by rw [d1])]
          by_cases d2 : tb (b + 2) = c3
          · rw [if_pos (by rw [d2])]
            by_cases d3 : tb (b + 3) = c4
            · rw [if_pos (by rw [d3])]
              by_cases d4 : tb (b + 4) = c5
              · rw [if_pos (by rw [d4])]
                exact ⟨fun _ => rfl, fun h => absurd ⟨c7, cl, d0, d1, d2, d3, d4⟩ h⟩
              · rw [if_neg (fun z => d4 (nI_inj (by omega) (by omega) z))]
                exact ⟨fun h => absurd h.2.2.2.2.2.2 d4, fun _ => rfl⟩
            · rw [if_neg (fun z => d3 (nI_inj (by omega) (by omega) z))]
              exact ⟨fun h => absurd h.2.2.2.2.2.1 d3, fun _ => rfl⟩
          · rw [if_neg (fun z => d2 (nI_inj (by omega) (by omega) z))]
            exact ⟨fun h => absurd h.2.2.2.2.1 d2, fun _ => rfl⟩
        · rw [if_neg (fun z => d1 (nI_inj (by omega) (by omega) z))]
          exact ⟨fun h => absurd h.2.2.2.1 d1, fun _ => rfl⟩
      · rw [if_neg (fun z => d0 (nI_inj (by omega) (by omega) z))]
        exact ⟨fun h => absurd h.2.2.1 d0, fun _ => rfl⟩
    · rw [if_neg (show ¬ nI (e - b) = (5 : Int32) from fun z => cl (nI_inj (b := 5) (by omega) (by decide) z))]
      exact ⟨fun h => absurd h.2.1 cl, fun _ => rfl⟩
  · rw [if_neg c7]
    exact ⟨fun h => absurd h.1 c7, fun _ => rfl⟩
theorem TK_word {n b e : Nat} {sR sM : PW} (h : TK n sR sM b e) : sR 3 0 = 0 ↔ sM 7 0 = 1 := by
  obtain ⟨-, -, -, -, -, -, hk⟩ := h
  rcases hk with ⟨-, k1, k2⟩ | ⟨-, k1, k2, -⟩ | ⟨-, k1, k2, k3⟩ | ⟨-, k1, k2⟩ | ⟨-, k1, k2⟩ | ⟨-, k1, k2⟩ <;> rw [k1, k2] <;> decide
def mW (i : Nat) (sM : PW) (sN : PL) : Option Int32 := match i with
  | 0 => f_Model_isWord sM sN 104 111 117 115 101
  | 1 => f_Model_isWord sM sN 114 97 116 101 0
  | 2 => f_Model_isWord sM sN 98 97 114 0 0
  | 3 => f_Model_isWord sM sN 100 111 105 110 103
  | _ => f_Model_isWord sM sN 119 97 114 0 0
theorem fa3 {f : Nat → Nat} {x y z : Nat} : (∀ k, k < 3 → f k = [x, y, z].getD k 0) ↔ (f 0 = x ∧ f 1 = y ∧ f 2 = z) := by
  constructor
  · intro h
    exact ⟨h 0 (by decide), h 1 (by decide), h 2 (by decide)⟩
  · rintro ⟨h0, h1, h2⟩ k hk
    rcases (show k = 0 ∨ k = 1 ∨ k = 2 by omega) with rfl | rfl | rfl
    · exact h0
    · exact h1
    · exact h2
theorem fa4 {f : Nat → Nat} {x y z u : Nat} : (∀ k, k < 4 → f k = [x, y, z, u].getD k 0) ↔ (f 0 = x ∧ f 1 = y ∧ f 2 = z ∧ f 3 = u) := by
  constructor
  · intro h
    exact ⟨h 0 (by decide), h 1 (by decide), h 2 (by decide), h 3 (by decide)⟩
  · rintro ⟨h0, h1, h2, h3⟩ k hk
    rcases (show k = 0 ∨ k = 1 ∨ k = 2 ∨ k = 3 by omega) with rfl | rfl | rfl | rfl
    · exact h0
    · exact h1
    · exact h2
    · exact h3
theorem fa5 {f : Nat → Nat} {x y z u v : Nat} : (∀ k, k < 5 → f k = [x, y, z, u, v].getD k 0) ↔ (f 0 = x ∧ f 1 = y ∧ f 2 = z ∧ f 3 = u ∧ f 4 = v) := by
  constructor
  · intro h
    exact ⟨h 0 (by decide), h 1 (by decide), h 2 (by decide), h 3 (by decide), h 4 (by decide)⟩
  · rintro ⟨h0, h1, h2, h3, h4⟩ k hk
    rcases (show k = 0 ∨ k = 1 ∨ k = 2 ∨ k = 3 ∨ k = 4 by omega) with rfl | rfl | rfl | rfl | rfl
    · exact h0
    · exact h1
    · exact h2
    · exact h3
    · exact h4
theorem word_both {sR sM : PW} (sN : PL) {n b e i : Nat} {tb : Nat → Nat} (hi : i < 5) (hL : LX sR sM n tb) (hK : TK n sR sM b e) : (isW tb b e i (sR 3 0) → f_Reader_isWord sR i = some 1 ∧ mW i sM sN = some 1) ∧ (¬ isW tb b e i (sR 3 0) → f_Reader_isWord sR i = some 0 ∧ mW i sM sN = some 0) := by
  obtain ⟨hn, -, -, hx⟩ := hL
  have hw := TK_word hK
  obtain ⟨hbe, hen, r4, r5, m9, m6, -⟩ := hK
  obtain ⟨c1, c0⟩ := word_C (i := i) hi hn (fun k hk => ⟨(hx k hk).1, (hx k hk).2.1⟩) hbe hen r4 r5
  have hxm : ∀ k, k < n → tb k < 128 ∧ sM 4 k = nI (tb k) := fun k hk => ⟨(hx k hk).1, (hx k hk).2.2⟩
  have hm : (isW tb b e i (sR 3 0) → mW i sM sN = some 1) ∧ (¬ isW tb b e i (sR 3 0) → mW i sM sN = some 0) := by
    unfold isW
    rw [hw]
    rcases (show i = 0 ∨ i = 1 ∨ i = 2 ∨ i = 3 ∨ i = 4 by omega) with rfl | rfl | rfl | rfl | rfl
    · have := wM5 (sN := sN) (c1 := 104) (c2 := 111) (c3 := 117) (c4 := 115) (c5 := 101) hn hxm hbe hen m9 m6 (by decide) (by decide) (by decide) (by decide) (by decide) (by decide) (by decide)
      show ((sM 7 0 = 1 ∧ e - b = 5 ∧ ∀ k, k < 5 → tb (b + k) = [104, 111, 117, 115, 101].getD k 0) → _) ∧ (¬ (sM 7 0 = 1 ∧ e - b = 5 ∧ ∀ k, k < 5 → tb (b + k) = [104, 111, 117, 115, 101].getD k 0) → _)
      rw [fa5 (f := fun k => tb (b + k))]
      exact this
    · have := wM4 (sN := sN) (c1 := 114) (c2 := 97) (c3 := 116) (c4 := 101) hn hxm hbe hen m9 m6 (by decide) (by decide) (by decide) (by decide) (by decide)
      show ((sM 7 0 = 1 ∧ e - b = 4 ∧ ∀ k, k < 4 → tb (b + k) = [114, 97, 116, 101].getD k 0) → _) ∧ (¬ (sM 7 0 = 1 ∧ e - b = 4 ∧ ∀ k, k < 4 → tb (b + k) = [114, 97, 116, 101].getD k 0) → _)
      rw [fa4 (f := fun k => tb (b + k))]
      exact this
    · have := wM3 (sN := sN) (c1 := 98) (c2 := 97) (c3 := 114) hn hxm hbe hen m9 m6 (by decide) (by decide) (by decide)
      show ((sM 7 0 = 1 ∧ e - b = 3 ∧ ∀ k, k < 3 → tb (b + k) = [98, 97, 114].getD k 0) → _) ∧ (¬ (sM 7 0 = 1 ∧ e - b = 3 ∧ ∀ k, k < 3 → tb (b + k) = [98, 97, 114].getD k 0) → _)
      rw [fa3 (f := fun k => tb (b + k))]
      exact this
    · have := wM5 (sN := sN) (c1 := 100) (c2 := 111) (c3 := 105) (c4 := 110) (c5 := 103) hn hxm hbe hen m9 m6 (by decide) (by decide) (by decide) (by decide) (by decide) (by decide) (by decide)
      show ((sM 7 0 = 1 ∧ e - b = 5 ∧ ∀ k, k < 5 → tb (b + k) = [100, 111, 105, 110, 103].getD k 0) → _) ∧ (¬ (sM 7 0 = 1 ∧ e - b = 5 ∧ ∀ k, k < 5 → tb (b + k) = [100, 111, 105, 110, 103].getD k 0) → _)
      rw [fa5 (f := fun k => tb (b + k))]
      exact this
    · have := wM3 (sN := sN) (c1 := 119) (c2 := 97) (c3 := 114) hn hxm hbe hen m9 m6 (by decide) (by decide) (by decide)
      show ((sM 7 0 = 1 ∧ e - b = 3 ∧ ∀ k, k < 3 → tb (b + k) = [119, 97, 114].getD k 0) → _) ∧ (¬ (sM 7 0 = 1 ∧ e - b = 3 ∧ ∀ k, k < 3 → tb (b + k) = [119, 97, 114].getD k 0) → _)
      rw [fa3 (f := fun k => tb (b + k))]
      exact this
  exact ⟨fun h => ⟨c1 h, hm.1 h⟩, fun h => ⟨c0 h, hm.2 h⟩⟩
theorem isW_ne {tb : Nat → Nat} {b e i j : Nat} {t : Int32} (hij : i ≠ j) (hi : i < 5) (hj : j < 5) (h : isW tb b e i t) : ¬ isW tb b e j t := by
  rintro ⟨-, l2, a2⟩
  obtain ⟨-, l1, a1⟩ := h
  have hd : ∀ i, i < 5 → ∀ j, j < 5 → i ≠ j → (wrd i).length ≠ (wrd j).length ∨ (wrd i).getD 0 0 ≠ (wrd j).getD 0 0 := by decide
  obtain ⟨-, li⟩ := wrd_le i hi
  obtain ⟨-, lj⟩ := wrd_le j hj
  rcases hd i hi j hj hij with h1 | h1
  · omega
  · exact h1 ((a1 0 (by omega)).symm.trans (a2 0 (by omega)))
