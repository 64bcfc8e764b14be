/-! ===== the model's next token ===== -/
theorem byte_M {sM : PW} {sN : PL} {n q : Nat} {tb : Nat → Nat} (hn : n ≤ 150) (h5 : sM 5 0 = nI n) (hx : ∀ k, k < n → sM 4 k = nI (tb k)) (hq : q ≤ n) : f_Model_byteAt sM sN (nI q) = some (if q < n then nI (tb q) else -1) := by
  unfold f_Model_byteAt
  rw [h5]
  by_cases c : q < n
  · rw [if_neg (nI_ge c (by omega)), if_pos c, okI_nI (by omega) (by omega), nI_clamp (by omega), hx q c, gd_t]
  · rw [if_pos (nI_le (by omega) (by omega)), if_neg c]
theorem in_letM : f_Model_in ((-1 : Int32).toInt64) 97 122 = some 0 := by decide
theorem in_figM : f_Model_in ((-1 : Int32).toInt64) 48 57 = some 0 := by decide
theorem J193_t {T : PW} {sN : PL} {t : Int32} (h : T 7 0 = t) (h0 : t ≠ 0) (h2 : t ≠ 2) : f_Model_nextToken_J193 T sN = some (T, sN) := by
  unfold f_Model_nextToken_J193 f_Model_nextToken_J222
  rw [h, if_neg h2, if_neg h0]
theorem L106_now {T : PW} {sN : PL} {n q : Nat} {tb : Nat → Nat} (hn : n ≤ 150) (h5 : T 5 0 = nI n) (hx : ∀ k, k < n → tb k < 128 ∧ T 4 k = nI (tb k)) (h6 : T 6 0 = nI q) (hq : q ≤ n) (hc : (q < n → ck (tb q) ≠ 1) ∨ T 7 0 = 1) : f_Model_nextToken_J106 T sN = f_Model_nextToken_J193 T sN := by
  unfold f_Model_nextToken_J106
  refine loop_seq (fun _ => (T, sN)) 0 4000 (by decide) (fun i hi => absurd hi (by omega)) ?_
  intro K
  simp only [f_Model_nextToken_L106]
  rw [h6, byte_M hn h5 (fun k hk => (hx k hk).2) hq, bd_s]
  by_cases c : q < n
  · rw [if_pos c, in_fig _ (hx q c).1, bd_s]
    by_cases c1 : ck (tb q) = 1
    · rw [if_pos c1, if_10, if_pos (hc.resolve_left (fun z => z c c1))]
    · rw [if_neg c1, if_00]
  · rw [if_neg c, in_figM, bd_s, if_00]
theorem fig_M {S : PW} {sN : PL} {n p b e : Nat} {tb : Nat → Nat} (hn : n ≤ 150) (h5 : S 5 0 = nI n) (hx : ∀ k, k < n → tb k < 128 ∧ S 4 k = nI (tb k)) (hb : b < n) (hT : TB n tb p b e) (hc : ck (tb b) = 1) (h6 : S 6 0 = nI b) (h7 : S 7 0 = 0) (h8 : S 8 0 = 0) (h9 : S 9 0 = nI b) : ∃ tM : PW, f_Model_nextToken_J106 S sN = some (tM, sN) ∧ (∀ k, k ≠ 6 → k ≠ 7 → k ≠ 8 → tM k = S k) ∧ tM 6 0 = nI e ∧ (e - b ≤ 2 → tM 7 0 = 2 ∧ tM 8 0 = figV tb b e) ∧ (¬ e - b ≤ 2 → tM 7 0 = 0) := by
  obtain ⟨-, -, hen, -, hT', -⟩ := hT
  obtain ⟨-, hbe, hrun, -⟩ := hT' hb
  obtain ⟨hr1, hr2⟩ := hrun (by omega)
  have hck : ∀ j, b ≤ j → j < e → ck (tb j) = 1 := by
    intro j h1 h2
    by_cases ej : j = b
    · subst ej; exact hc
    · exact (hr1 j (by omega) h2).trans hc
  unfold f_Model_nextToken_J106
  have main : ∃ r, (∃ tM : PW, r = some (tM, sN) ∧ (∀ k, k ≠ 6 → k ≠ 7 → k ≠ 8 → tM k = S k) ∧ tM 6 0 = nI e ∧ (e - b ≤ 2 → tM 7 0 = 2 ∧ tM 8 0 = figV tb b e) ∧ (¬ e - b ≤ 2 → tM 7 0 = 0)) ∧ loopF f_Model_nextToken_L106 4000 (S, sN) = r := by
    refine loop_inv (fun i (z : PW × PL) => z.2 = sN ∧ (∀ k, k ≠ 6 → k ≠ 7 → k ≠ 8 → z.1 k = S k) ∧ z.1 6 0 = nI (b + i) ∧ (i = 0 → z.1 7 0 = 0 ∧ z.1 8 0 = 0) ∧ (0 < i → z.1 7 0 = 2) ∧ (i = 1 → z.1 8 0 = nI (tb b - 48)) ∧ (i = 2 → z.1 8 0 = nI (10 * (tb b - 48) + (tb (b + 1) - 48)))) _ (e - b) ?_ ?_ 4000 _ (by omega) ⟨rfl, fun _ _ _ _ => rfl, h6, fun _ => ⟨h7, h8⟩, fun h => absurd h (by omega), fun h => absurd h (by omega), fun h => absurd h (by omega)⟩
    · rintro i ⟨T, N⟩ hi ⟨q1', q2', q3', q4', q5', q6', q7'⟩
      have q1 : N = sN := q1'
      have q2 : ∀ k, k ≠ 6 → k ≠ 7 → k ≠ 8 → T k = S k := q2'
      have q3 : T 6 0 = nI (b + i) := q3'
      have q4 : i = 0 → T 7 0 = 0 ∧ T 8 0 = 0 := q4'
      have q5 : 0 < i → T 7 0 = 2 := q5'
      have q6 : i = 1 → T 8 0 = nI (tb b - 48) := q6'
      clear q1' q2' q3' q4' q5' q6' q7'
      subst q1
      have hf0 := ck_fig hc
      have hfi := ck_fig (hck (b + i) (by omega) (by omega))
      have hbi := hx (b + i) (by omega)
      have e4 : T 4 (b + i) = nI (tb (b + i)) := by rw [q2 4 (by decide) (by decide) (by decide)]; exact hbi.2
      have eb : f_Model_byteAt T N (nI (b + i)) = some (nI (tb (b + i))) := by
        rw [byte_M (tb := tb) hn (by rw [q2 5 (by decide) (by decide) (by decide)]; exact h5) (fun k hk => by rw [q2 4 (by decide) (by decide) (by decide)]; exact (hx k hk).2) (by omega), if_pos (by omega)]
      have n1 : T 7 0 ≠ 1 := by
        by_cases h0 : i = 0
        · rw [(q4 h0).1]; decide
        · rw [q5 (by omega)]; decide
      have a4 : up T 7 (fun _ => (2 : Int32)) 4 (b + i) = nI (tb (b + i)) := by rw [up_ne (by decide)]; exact e4
      have a6 : up T 7 (fun _ => (2 : Int32)) 6 0 = nI (b + i) := by rw [up_ne (by decide)]; exact q3
      have a8 : up T 7 (fun _ => (2 : Int32)) 8 0 = T 8 0 := by rw [up_ne (by decide)]
      have a7 : up T 7 (fun _ => (2 : Int32)) 7 0 = 2 := by rw [up_eq]
      have ao : ∀ k, k ≠ 6 → k ≠ 7 → k ≠ 8 → up T 7 (fun _ => (2 : Int32)) k = S k := fun k k6 k7 k8 => by rw [up_ne k7, q2 k k6 k7 k8]
      have pre : ∀ K, f_Model_nextToken_L106 K (T, N) = nm (up T 7 (fun _ => (2 : Int32))) (fun sM35 => (if (sM35 8 0) ≤ (99 : Int32) then gd (okI (sM35 6 0) 150) (nm (up sM35 8 (fun _ => ((((10 : Int32) * (sM35 8 0)) + (sM35 4 ((sM35 6 0)).toNatClampNeg)) - (48 : Int32)))) (fun sM38 => nm (up sM38 6 (fun _ => ((sM38 6 0) + (1 : Int32)))) (fun sM39 => K (sM39, N)))) else nm (up sM35 8 (fun _ => (sM35 8 0))) (fun sM40 => nm (up sM40 6 (fun _ => ((sM40 6 0) + (1 : Int32)))) (fun sM41 => K (sM41, N))))) := by
        intro K
        simp only [f_Model_nextToken_L106]
        rw [q3, eb, bd_s, in_fig _ hbi.1, if_pos (hck (b + i) (by omega) (by omega)), bd_s, if_10, if_neg n1]
      generalize up T 7 (fun _ => (2 : Int32)) = U at a4 a6 a8 a7 ao pre
      by_cases c : T 8 0 ≤ (99 : Int32)
      · refine ⟨(up (up U 8 (fun _ => ((10 : Int32) * T 8 0 + nI (tb (b + i))) - (48 : Int32))) 6 (fun _ => nI (b + (i + 1))), N), ⟨rfl, ?_, ?_, ?_, ?_, ?_, ?_⟩, ?_⟩
        · intro k k6 k7 k8
          dsimp only
          rw [up_ne k6, up_ne k8, ao k k6 k7 k8]
        · dsimp only
          rw [up_eq]
        · intro h; omega
        · intro _
          dsimp only
          rw [up_ne (by decide), up_ne (by decide), a7]
        · intro h
          have h0 : i = 0 := by omega
          dsimp only
          rw [up_ne (by decide), up_eq, (q4 h0).2, h0, show (10 : Int32) * 0 = nI 0 from rfl, nI_add, show (48 : Int32) = nI 48 from rfl, show b + 0 = b from rfl, nI_sub (by omega) (by omega), show 0 + tb b - 48 = tb b - 48 by omega]
        · intro h
          have h0 : i = 1 := by omega
          subst h0
          dsimp only
          rw [up_ne (by decide), up_eq, q6 rfl, show (10 : Int32) = nI 10 from rfl, nI_mul, nI_add, show (48 : Int32) = nI 48 from rfl, nI_sub (by omega) (by omega), show 10 * (tb b - 48) + tb (b + 1) - 48 = 10 * (tb b - 48) + (tb (b + 1) - 48) by omega]
        · intro K
          rw [pre]
          simp only [nm_s]
          rw [a8, if_pos c, a6, okI_nI (by omega) (by omega), nI_clamp (by omega), a4, gd_t]
          rw [show up U 8 (fun _ => ((10 : Int32) * T 8 0 + nI (tb (b + i))) - (48 : Int32)) 6 0 = nI (b + i) by rw [up_ne (by decide)]; exact a6, show nI (b + i) + (1 : Int32) = nI (b + i + 1) from nI_add _ 1]
          rfl
      · have hi2 : 2 ≤ i := by
          by_cases h0 : i = 0
          · exact absurd (by rw [(q4 h0).2]; decide) c
          · by_cases h1 : i = 1
            · exact absurd (by rw [q6 h1, show (99 : Int32) = nI 99 from rfl]; exact nI_le (by omega) (by decide)) c
            · omega
        refine ⟨(up (up U 8 (fun _ => T 8 0)) 6 (fun _ => nI (b + (i + 1))), N), ⟨rfl, ?_, ?_, fun h => absurd h (by omega), ?_, fun h => absurd h (by omega), fun h => absurd h (by omega)⟩, ?_⟩
        · intro k k6 k7 k8
          dsimp only
          rw [up_ne k6, up_ne k8, ao k k6 k7 k8]
        · dsimp only
          rw [up_eq]
        · intro _
          dsimp only
          rw [up_ne (by decide), up_ne (by decide), a7]
        · intro K
          rw [pre]
          simp only [nm_s]
          rw [a8, if_neg c]
          rw [show up U 8 (fun _ => T 8 0) 6 0 = nI (b + i) by rw [up_ne (by decide)]; exact a6, show nI (b + i) + (1 : Int32) = nI (b + i + 1) from nI_add _ 1]
          rfl
    · rintro ⟨T, N⟩ ⟨q1', q2', q3', q4', q5', q6', q7'⟩
      have q1 : N = sN := q1'
      have q2 : ∀ k, k ≠ 6 → k ≠ 7 → k ≠ 8 → T k = S k := q2'
      have q3 : T 6 0 = nI (b + (e - b)) := q3'
      have q5 : T 7 0 = 2 := q5' (by omega)
      have q6 : e - b = 1 → T 8 0 = nI (tb b - 48) := q6'
      have q7 : e - b = 2 → T 8 0 = nI (10 * (tb b - 48) + (tb (b + 1) - 48)) := q7'
      clear q1' q2' q3' q4' q5' q6' q7'
      subst q1
      rw [show b + (e - b) = e by omega] at q3
      have eb : ∀ K, f_Model_nextToken_L106 K (T, N) = f_Model_nextToken_J193 T N := by
        intro K
        simp only [f_Model_nextToken_L106]
        rw [q3, byte_M (tb := tb) hn (by rw [q2 5 (by decide) (by decide) (by decide)]; exact h5) (fun k hk => by rw [q2 4 (by decide) (by decide) (by decide)]; exact (hx k hk).2) hen, bd_s]
        by_cases c : e < n
        · rw [if_pos c, in_fig _ (hx e c).1, if_neg (by rw [← hc]; exact hr2 c), bd_s, if_00]
        · rw [if_neg c, in_figM, bd_s, if_00]
      have ed : nI e - nI b = nI (e - b) := nI_sub (by omega) (by omega)
      have q9 : T 9 0 = nI b := by rw [q2 9 (by decide) (by decide) (by decide)]; exact h9
      by_cases c : e - b ≤ 2
      · refine ⟨some (T, N), ⟨T, rfl, q2, q3, fun _ => ⟨q5, ?_⟩, fun h => absurd c h⟩, ?_⟩
        · unfold figV
          by_cases c1 : e - b = 1
          · rw [if_pos c1]; exact q6 c1
          · rw [if_neg c1, if_pos (by omega)]; exact q7 (by omega)
        · intro K
          rw [eb]
          unfold f_Model_nextToken_J193 f_Model_nextToken_J222
          rw [q5, if_pos rfl, q3, q9, ed, if_pos (by rw [show (2 : Int32) = nI 2 from rfl]; exact nI_le c (by decide)), if_neg (by decide)]
      · refine ⟨some (up T 7 (fun _ => (0 : Int32)), N), ⟨_, rfl, ?_, ?_, fun h => absurd h c, fun _ => ?_⟩, ?_⟩
        · intro k k6 k7 k8
          rw [up_ne k7, q2 k k6 k7 k8]
        · rw [up_ne (by decide)]; exact q3
        · rw [up_eq]
        · intro K
          rw [eb]
          unfold f_Model_nextToken_J193
          rw [q5, if_pos rfl, q3, q9, ed, if_neg (by rw [show (2 : Int32) = nI 2 from rfl]; exact nI_ge (by omega) (by omega)), nm_s]
  obtain ⟨r, ⟨tM, rfl, h⟩, e⟩ := main
  exact ⟨tM, e, h⟩
theorem let_exit {S : PW} {sN : PL} {n q : Nat} {tb : Nat → Nat} (hn : n ≤ 150) (h5 : S 5 0 = nI n) (hx : ∀ k, k < n → tb k < 128 ∧ S 4 k = nI (tb k)) (h6 : S 6 0 = nI q) (hq : q ≤ n) (hc : q < n → ck (tb q) ≠ 0) (K : PW × PL → Option (PW × PL)) : f_Model_nextToken_L59 K (S, sN) = f_Model_nextToken_J106 S sN := by
  simp only [f_Model_nextToken_L59]
  rw [h6, byte_M (tb := tb) hn h5 (fun k hk => (hx k hk).2) hq, bd_s]
  by_cases c : q < n
  · rw [if_pos c, in_let _ (hx q c).1, if_neg (hc c), bd_s, if_00]
  · rw [if_neg c, in_letM, bd_s, if_00]
theorem word_M {S : PW} {sN : PL} {n p b e : Nat} {tb : Nat → Nat} (hn : n ≤ 150) (h5 : S 5 0 = nI n) (hx : ∀ k, k < n → tb k < 128 ∧ S 4 k = nI (tb k)) (hb : b < n) (hT : TB n tb p b e) (hc : ck (tb b) = 0) (h6 : S 6 0 = nI b) (h7 : S 7 0 = 0) : ∃ tM : PW, loopF f_Model_nextToken_L59 4000 (S, sN) = some (tM, sN) ∧ (∀ k, k ≠ 6 → k ≠ 7 → tM k = S k) ∧ tM 6 0 = nI e ∧ tM 7 0 = 1 := by
  obtain ⟨-, -, hen, -, hT', -⟩ := hT
  obtain ⟨-, hbe, hrun, -⟩ := hT' hb
  obtain ⟨hr1, hr2⟩ := hrun (by omega)
  have hck : ∀ j, b ≤ j → j < e → ck (tb j) = 0 := by
    intro j h1 h2
    by_cases ej : j = b
    · subst ej; exact hc
    · exact (hr1 j (by omega) h2).trans hc
  have main : ∃ r, (∃ tM : PW, r = some (tM, sN) ∧ (∀ k, k ≠ 6 → k ≠ 7 → tM k = S k) ∧ tM 6 0 = nI e ∧ tM 7 0 = 1) ∧ loopF f_Model_nextToken_L59 4000 (S, sN) = r := by
    refine loop_inv (fun i (z : PW × PL) => z.2 = sN ∧ (∀ k, k ≠ 6 → k ≠ 7 → z.1 k = S k) ∧ z.1 6 0 = nI (b + i) ∧ (i = 0 → z.1 7 0 = 0) ∧ (0 < i → z.1 7 0 = 1)) _ (e - b) ?_ ?_ 4000 _ (by omega) ⟨rfl, fun _ _ _ => rfl, h6, fun _ => h7, fun h => absurd h (by omega)⟩
    · rintro i ⟨T, N⟩ hi ⟨q1', q2', q3', q4', q5'⟩
      have q1 : N = sN := q1'
      have q2 : ∀ k, k ≠ 6 → k ≠ 7 → T k = S k := q2'
      have q3 : T 6 0 = nI (b + i) := q3'
      have q4 : i = 0 → T 7 0 = 0 := q4'
      have q5 : 0 < i → T 7 0 = 1 := q5'
      clear q1' q2' q3' q4' q5'
      subst q1
      have hbi := hx (b + i) (by omega)
      have eb : f_Model_byteAt T N (nI (b + i)) = some (nI (tb (b + i))) := by
        rw [byte_M (tb := tb) hn (by rw [q2 5 (by decide) (by decide)]; exact h5) (fun k hk => by rw [q2 4 (by decide) (by decide)]; exact (hx k hk).2) (by omega), if_pos (by omega)]
      have n1 : ¬ (2 : Int32) ≤ T 7 0 := by
        by_cases h0 : i = 0
        · rw [q4 h0]; decide
        · rw [q5 (by omega)]; decide
      refine ⟨(up (up T 7 (fun _ => (1 : Int32))) 6 (fun _ => nI (b + (i + 1))), N), ⟨rfl, ?_, ?_, fun h => absurd h (by omega), ?_⟩, ?_⟩
      · intro k k6 k7
        dsimp only
        rw [up_ne k6, up_ne k7, q2 k k6 k7]
      · dsimp only
        rw [up_eq]
      · intro _
        dsimp only
        rw [up_ne (by decide), up_eq]
      · intro K
        simp only [f_Model_nextToken_L59]
        rw [q3, eb, bd_s, in_let _ hbi.1, if_pos (hck (b + i) (by omega) (by omega)), bd_s, if_10, if_neg n1, nm_s, nm_s, show up T 7 (fun _ => (1 : Int32)) 6 0 = nI (b + i) by rw [up_ne (by decide)]; exact q3, show nI (b + i) + (1 : Int32) = nI (b + i + 1) from nI_add _ 1]
        rfl
    · rintro ⟨T, N⟩ ⟨q1', q2', q3', q4', q5'⟩
      have q1 : N = sN := q1'
      have q2 : ∀ k, k ≠ 6 → k ≠ 7 → T k = S k := q2'
      have q3 : T 6 0 = nI (b + (e - b)) := q3'
      have q5 : T 7 0 = 1 := q5' (by omega)
      clear q1' q2' q3' q4' q5'
      subst q1
      rw [show b + (e - b) = e by omega] at q3
      have h5' : T 5 0 = nI n := by rw [q2 5 (by decide) (by decide)]; exact h5
      have hx' : ∀ k, k < n → tb k < 128 ∧ T 4 k = nI (tb k) := fun k hk => by rw [q2 4 (by decide) (by decide)]; exact hx k hk
      refine ⟨some (T, N), ⟨T, rfl, q2, q3, q5⟩, ?_⟩
      intro K
      rw [let_exit hn h5' hx' q3 hen (fun c => by rw [← hc]; exact hr2 c), L106_now hn h5' hx' q3 hen (Or.inr q5), J193_t q5 (by decide) (by decide)]
  obtain ⟨r, ⟨tM, rfl, h⟩, e⟩ := main
  exact ⟨tM, e, h⟩
def MkM (tb : Nat → Nat) (n b e : Nat) (t v : Int32) : Prop := (b < n → (ck (tb b) = 0 → t = 1) ∧ (ck (tb b) = 1 → (e - b ≤ 2 → t = 2 ∧ v = figV tb b e) ∧ (¬ e - b ≤ 2 → t = 0)) ∧ (ck (tb b) = 2 → t = 4) ∧ (ck (tb b) = 4 → t = 0)) ∧ (¬ b < n → t = 3)
theorem ck_cases (c : Nat) : ck c = 0 ∨ ck c = 1 ∨ ck c = 2 ∨ ck c = 4 := by
  unfold ck
  repeat' split
  all_goals omega
theorem next_M {sM : PW} {sN : PL} {n p b e : Nat} {tb : Nat → Nat} (hn : n ≤ 150) (hx : ∀ k, k < n → tb k < 128 ∧ sM 4 k = nI (tb k)) (h5 : sM 5 0 = nI n) (h6 : sM 6 0 = nI p) (hT : TB n tb p b e) : ∃ tM : PW, f_Model_nextToken sM sN = some (tM, sN) ∧ (∀ k, k ≠ 6 → k ≠ 7 → k ≠ 8 → k ≠ 9 → tM k = sM k) ∧ tM 9 0 = nI b ∧ tM 6 0 = nI e ∧ MkM tb n b e (tM 7 0) (tM 8 0) := by
  have hT2 := hT
  obtain ⟨hpb, hbe, hen, hsk, hT', hTn⟩ := hT
  have fin : ∀ T : PW, (∀ k, k ≠ 6 → T k = sM k) → T 6 0 = nI b → ∃ tM : PW, (if (up (up T 9 (fun _ => T 6 0)) 8 (fun _ => (0 : Int32)) 6 0) = (up (up T 9 (fun _ => T 6 0)) 8 (fun _ => (0 : Int32)) 5 0) then f_Model_nextToken_J56 sN (up (up T 9 (fun _ => T 6 0)) 8 (fun _ => (0 : Int32))) (3 : Int32) else f_Model_nextToken_J56 sN (up (up T 9 (fun _ => T 6 0)) 8 (fun _ => (0 : Int32))) (0 : Int32)) = some (tM, sN) ∧ (∀ k, k ≠ 6 → k ≠ 7 → k ≠ 8 → k ≠ 9 → tM k = sM k) ∧ tM 9 0 = nI b ∧ tM 6 0 = nI e ∧ MkM tb n b e (tM 7 0) (tM 8 0) := by
    intro T q1 q2
    have r6 : up (up T 9 (fun _ => T 6 0)) 8 (fun _ => (0 : Int32)) 6 0 = nI b := by rw [up_ne (by decide), up_ne (by decide)]; exact q2
    have r5 : up (up T 9 (fun _ => T 6 0)) 8 (fun _ => (0 : Int32)) 5 0 = nI n := by rw [up_ne (by decide), up_ne (by decide), q1 5 (by decide)]; exact h5
    have r9 : up (up T 9 (fun _ => T 6 0)) 8 (fun _ => (0 : Int32)) 9 0 = nI b := by rw [up_ne (by decide), up_eq]; exact q2
    have r8 : up (up T 9 (fun _ => T 6 0)) 8 (fun _ => (0 : Int32)) 8 0 = 0 := by rw [up_eq]
    have ro : ∀ k, k ≠ 6 → k ≠ 8 → k ≠ 9 → up (up T 9 (fun _ => T 6 0)) 8 (fun _ => (0 : Int32)) k = sM k := fun k k6 k8 k9 => by rw [up_ne k8, up_ne k9, q1 k k6]
    generalize up (up T 9 (fun _ => T 6 0)) 8 (fun _ => (0 : Int32)) = U at r6 r5 r9 r8 ro
    rw [r6, r5]
    unfold f_Model_nextToken_J56
    rw [nm_s, nm_s]
    by_cases c : b < n
    · rw [if_neg (fun z => by have := nI_inj (by omega) (by omega) z; omega)]
      have s6 : up U 7 (fun _ => (0 : Int32)) 6 0 = nI b := by rw [up_ne (by decide)]; exact r6
      have s5 : up U 7 (fun _ => (0 : Int32)) 5 0 = nI n := by rw [up_ne (by decide)]; exact r5
      have s9 : up U 7 (fun _ => (0 : Int32)) 9 0 = nI b := by rw [up_ne (by decide)]; exact r9
      have s8 : up U 7 (fun _ => (0 : Int32)) 8 0 = 0 := by rw [up_ne (by decide)]; exact r8
      have s7 : up U 7 (fun _ => (0 : Int32)) 7 0 = 0 := by rw [up_eq]
      have so : ∀ k, k ≠ 6 → k ≠ 7 → k ≠ 8 → k ≠ 9 → up U 7 (fun _ => (0 : Int32)) k = sM k := fun k k6 k7 k8 k9 => by rw [up_ne k7, ro k k6 k8 k9]
      generalize up U 7 (fun _ => (0 : Int32)) = S at s6 s5 s9 s8 s7 so
      have sx : ∀ k, k < n → tb k < 128 ∧ S 4 k = nI (tb k) := fun k hk => by rw [so 4 (by decide) (by decide) (by decide) (by decide)]; exact hx k hk
      rcases ck_cases (tb b) with hc | hc | hc | hc
      · obtain ⟨tM, g1, g2, g3, g4⟩ := word_M (sN := sN) hn s5 sx c hT2 hc s6 s7
        refine ⟨tM, g1, fun k k6 k7 k8 k9 => by rw [g2 k k6 k7, so k k6 k7 k8 k9], by rw [g2 9 (by decide) (by decide)]; exact s9, g3, fun _ => ⟨fun _ => g4, fun h => ?_, fun h => ?_, fun h => ?_⟩, fun h => absurd c h⟩ <;> omega
      · have e0 : loopF f_Model_nextToken_L59 4000 (S, sN) = f_Model_nextToken_J106 S sN := by
          refine loop_seq (fun _ => (S, sN)) 0 4000 (by decide) (fun i hi => absurd hi (by omega)) ?_
          intro K
          exact let_exit hn s5 sx s6 (by omega) (fun _ => by omega) K
        obtain ⟨tM, g1, g2, g3, g4, g5⟩ := fig_M (sN := sN) hn s5 sx c hT2 hc s6 s7 s8 s9
        refine ⟨tM, e0.trans g1, fun k k6 k7 k8 k9 => by rw [g2 k k6 k7 k8, so k k6 k7 k8 k9], by rw [g2 9 (by decide) (by decide) (by decide)]; exact s9, g3, fun _ => ⟨fun h => ?_, fun _ => ⟨g4, g5⟩, fun h => ?_, fun h => ?_⟩, fun h => absurd c h⟩ <;> omega
      all_goals
        have e0 : loopF f_Model_nextToken_L59 4000 (S, sN) = f_Model_nextToken_J193 S sN := by
          refine loop_seq (fun _ => (S, sN)) 0 4000 (by decide) (fun i hi => absurd hi (by omega)) ?_
          intro K
          rw [let_exit hn s5 sx s6 (by omega) (fun _ => by omega) K, L106_now hn s5 sx s6 (by omega) (Or.inl (fun _ => by omega))]
        have ee := (hT' c).2.2.2 (by omega)
        have eb : f_Model_byteAt S sN (nI b) = some (nI (tb b)) := by
          rw [byte_M (tb := tb) hn s5 (fun k hk => (sx k hk).2) (by omega), if_pos c]
        rw [e0]
        unfold f_Model_nextToken_J193 f_Model_nextToken_J222
        rw [s7, if_neg (by decide), if_pos rfl, s6, eb, bd_s]
      · rw [if_pos ((ck_59 _ (hx b c).1).mp hc), nm_s, nm_s, show up S 7 (fun _ => (4 : Int32)) 6 0 = nI b by rw [up_ne (by decide)]; exact s6, show nI b + (1 : Int32) = nI (b + 1) from nI_add b 1]
        refine ⟨_, rfl, fun k k6 k7 k8 k9 => by rw [up_ne k6, up_ne k7, so k k6 k7 k8 k9], by rw [up_ne (by decide), up_ne (by decide)]; exact s9, by rw [up_eq, ee], fun _ => ⟨fun h => ?_, fun h => ?_, fun h => ?_, fun h => ?_⟩, fun h => absurd c h⟩
        · omega
        · omega
        · rw [up_ne (by decide), up_eq]
        · omega
      · rw [if_neg (fun z => by have := (ck_59 _ (hx b c).1).mpr z; omega), nm_s, nm_s, show up S 7 (fun _ => (0 : Int32)) 6 0 = nI b by rw [up_ne (by decide)]; exact s6, show nI b + (1 : Int32) = nI (b + 1) from nI_add b 1]
        refine ⟨_, rfl, fun k k6 k7 k8 k9 => by rw [up_ne k6, up_ne k7, so k k6 k7 k8 k9], by rw [up_ne (by decide), up_ne (by decide)]; exact s9, by rw [up_eq, ee], fun _ => ⟨fun h => ?_, fun h => ?_, fun h => ?_, fun h => ?_⟩, fun h => absurd c h⟩
        · omega
        · omega
        · omega
        · rw [up_ne (by decide), up_eq]
    · have hbn : b = n := by omega
      rw [if_pos (by rw [hbn])]
      have s6 : up U 7 (fun _ => (3 : Int32)) 6 0 = nI b := by rw [up_ne (by decide)]; exact r6
      have s5 : up U 7 (fun _ => (3 : Int32)) 5 0 = nI n := by rw [up_ne (by decide)]; exact r5
      have s9 : up U 7 (fun _ => (3 : Int32)) 9 0 = nI b := by rw [up_ne (by decide)]; exact r9
      have s7 : up U 7 (fun _ => (3 : Int32)) 7 0 = 3 := by rw [up_eq]
      have so : ∀ k, k ≠ 6 → k ≠ 7 → k ≠ 8 → k ≠ 9 → up U 7 (fun _ => (3 : Int32)) k = sM k := fun k k6 k7 k8 k9 => by rw [up_ne k7, ro k k6 k8 k9]
      generalize up U 7 (fun _ => (3 : Int32)) = S at s6 s5 s9 s7 so
      have sx : ∀ k, k < n → tb k < 128 ∧ S 4 k = nI (tb k) := fun k hk => by rw [so 4 (by decide) (by decide) (by decide) (by decide)]; exact hx k hk
      have e0 : loopF f_Model_nextToken_L59 4000 (S, sN) = some (S, sN) := by
        refine loop_seq (fun _ => (S, sN)) 0 4000 (by decide) (fun i hi => absurd hi (by omega)) ?_
        intro K
        rw [let_exit hn s5 sx s6 (by omega) (fun h => absurd h c) K, L106_now hn s5 sx s6 (by omega) (Or.inl (fun h => absurd h c)), J193_t s7 (by decide) (by decide)]
      exact ⟨S, e0, so, s9, by rw [hTn c]; exact s6, fun h => absurd h c, fun _ => s7⟩
  have main : ∃ r, (∃ tM : PW, r = some (tM, sN) ∧ (∀ k, k ≠ 6 → k ≠ 7 → k ≠ 8 → k ≠ 9 → tM k = sM k) ∧ tM 9 0 = nI b ∧ tM 6 0 = nI e ∧ MkM tb n b e (tM 7 0) (tM 8 0)) ∧ loopF f_Model_nextToken_L0 4000 (sM, sN) = r := by
    refine loop_inv (fun i (z : PW × PL) => z.2 = sN ∧ (∀ k, k ≠ 6 → z.1 k = sM k) ∧ z.1 6 0 = nI (p + i)) _ (b - p) ?_ ?_ 4000 _ (by omega) ⟨rfl, fun _ _ => rfl, h6⟩
    · rintro i ⟨T, N⟩ hi ⟨q1', q2', q3'⟩
      have q1 : N = sN := q1'
      have q2 : ∀ k, k ≠ 6 → T k = sM k := q2'
      have q3 : T 6 0 = nI (p + i) := q3'
      clear q1' q2' q3'
      subst q1
      refine ⟨(up T 6 (fun _ => nI (p + (i + 1))), N), ⟨rfl, fun k hk => by dsimp only; rw [up_ne hk, q2 k hk], by dsimp only; rw [up_eq]⟩, ?_⟩
      intro K
      simp only [f_Model_nextToken_L0]
      rw [q3, byte_M (tb := tb) hn (by rw [q2 5 (by decide)]; exact h5) (fun k hk => by rw [q2 4 (by decide)]; exact (hx k hk).2) (by omega), bd_s, if_pos (show p + i < n by omega), hsk (p + i) (by omega) (by omega), if_pos (show nI 32 = (32 : Int32) from rfl), nm_s, show nI (p + i) + (1 : Int32) = nI (p + i + 1) from nI_add _ 1]
      rfl
    · rintro ⟨T, N⟩ ⟨q1', q2', q3'⟩
      have q1 : N = sN := q1'
      have q2 : ∀ k, k ≠ 6 → T k = sM k := q2'
      have q3 : T 6 0 = nI (p + (b - p)) := q3'
      clear q1' q2' q3'
      subst q1
      rw [show p + (b - p) = b by omega] at q3
      obtain ⟨tM, f1, f2⟩ := fin T q2 q3
      refine ⟨some (tM, N), ⟨tM, rfl, f2⟩, ?_⟩
      intro K
      simp only [f_Model_nextToken_L0, nm_s]
      rw [← f1]
      have eb : f_Model_byteAt T N (T 6 0) = some (if b < n then nI (tb b) else -1) := by
        rw [q3]
        exact byte_M (tb := tb) hn (by rw [q2 5 (by decide)]; exact h5) (fun k hk => by rw [q2 4 (by decide)]; exact (hx k hk).2) (by omega)
      rw [eb, bd_s]
      by_cases c : b < n
      · have hb := (hT' c).1
        have h128 := (hx b c).1
        rw [if_pos c, if_neg (show ¬ nI (tb b) = (32 : Int32) from fun z => hb (nI_inj (b := 32) (by omega) (by decide) z))]
      · rw [if_neg c, if_neg (show ¬ (-1 : Int32) = (32 : Int32) by decide)]
  unfold f_Model_nextToken
  obtain ⟨r, ⟨tM, rfl, h⟩, e⟩ := main
  exact ⟨tM, e, h⟩
