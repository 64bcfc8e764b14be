/-! ===== the text, token by token, on both sides ===== -/
theorem ex_run {q : Nat → Prop} {n : Nat} : ∀ m p, p + m = n → ∃ b, p ≤ b ∧ b ≤ n ∧ (∀ j, p ≤ j → j < b → q j) ∧ (b < n → ¬ q b)
  | 0, p, h => ⟨p, Nat.le_refl _, by omega, fun j h1 h2 => absurd h2 (by omega), fun h2 => absurd h2 (by omega)⟩
  | m + 1, p, h => by
    by_cases c : q p
    · obtain ⟨b, h1, h2, h3, h4⟩ := ex_run (q := q) (n := n) m (p + 1) (by omega)
      refine ⟨b, by omega, h2, ?_, h4⟩
      intro j hj1 hj2
      by_cases e : j = p
      · subst e; exact c
      · exact h3 j (by omega) hj2
    · exact ⟨p, Nat.le_refl _, by omega, fun j h1 h2 => absurd h2 (by omega), fun _ => c⟩
def ck (c : Nat) : Nat := if 97 ≤ c ∧ c ≤ 122 then 0 else if 48 ≤ c ∧ c ≤ 57 then 1 else if c = 59 then 2 else 4
theorem tok_C : ∀ c, c < 128 → f_Reader_tokenOf (nI c) = some (nI (ck c)) := by decide +kernel
theorem in_let : ∀ c, c < 128 → f_Model_in (nI c).toInt64 97 122 = some (if ck c = 0 then 1 else 0) := by decide +kernel
theorem in_fig : ∀ c, c < 128 → f_Model_in (nI c).toInt64 48 57 = some (if ck c = 1 then 1 else 0) := by decide +kernel
theorem ck_fig {c : Nat} (h : ck c = 1) : 48 ≤ c ∧ c ≤ 57 := by
  unfold ck at h
  repeat' split at h
  all_goals omega
theorem ck_59 : ∀ c, c < 128 → (ck c = 2 ↔ nI c = 59) := by decide +kernel
theorem ck_lt : ∀ c, c < 128 → ck c < 5 := by decide +kernel
def LX (sR sM : PW) (n : Nat) (tb : Nat → Nat) : Prop := n ≤ 150 ∧ sR 2 0 = nI n ∧ sM 5 0 = nI n ∧ ∀ k, k < n → tb k < 128 ∧ sR 1 k = nI (tb k) ∧ sM 4 k = nI (tb k)
/-- begin and end of the next token -/
def TB (n : Nat) (tb : Nat → Nat) (p b e : Nat) : Prop := p ≤ b ∧ b ≤ e ∧ e ≤ n ∧ (∀ j, p ≤ j → j < b → tb j = 32) ∧ (b < n → tb b ≠ 32 ∧ b < e ∧ (ck (tb b) ≤ 1 → (∀ j, b + 1 ≤ j → j < e → ck (tb j) = ck (tb b)) ∧ (e < n → ck (tb e) ≠ ck (tb b))) ∧ (1 < ck (tb b) → e = b + 1)) ∧ (¬ b < n → e = b)
theorem TB_ex {n p : Nat} (tb : Nat → Nat) (hp : p ≤ n) : ∃ b e, TB n tb p b e := by
  obtain ⟨b, h1, h2, h3, h4⟩ := ex_run (q := fun j => tb j = 32) (n := n) (n - p) p (by omega)
  by_cases c : b < n
  · by_cases c1 : ck (tb b) ≤ 1
    · obtain ⟨e, g1, g2, g3, g4⟩ := ex_run (q := fun j => ck (tb j) = ck (tb b)) (n := n) (n - (b + 1)) (b + 1) (by omega)
      exact ⟨b, e, h1, by omega, g2, h3, fun _ => ⟨h4 c, by omega, fun _ => ⟨g3, g4⟩, fun h => absurd h (by omega)⟩, fun h => absurd c h⟩
    · exact ⟨b, b + 1, h1, by omega, by omega, h3, fun _ => ⟨h4 c, by omega, fun h => absurd h c1, fun _ => rfl⟩, fun h => absurd c h⟩
  · exact ⟨b, b, h1, Nat.le_refl _, h2, h3, fun h => absurd h c, fun _ => rfl⟩
def figV (tb : Nat → Nat) (b e : Nat) : Int32 := if e - b = 1 then nI (tb b - 48) else if e - b = 2 then nI (10 * (tb b - 48) + (tb (b + 1) - 48)) else -1
theorem J155_C {S : PW} {n b e t : Nat} {tb : Nat → Nat} (hn : n ≤ 150) (hx : ∀ k, k < n → S 1 k = nI (tb k)) (h3 : S 3 0 = nI t) (ht : t < 5) (h4 : S 4 0 = nI b) (h5 : S 5 0 = nI e) (hbe : b < e) (hen : e ≤ n) (hf : t = 1 → ∀ j, b ≤ j → j < e → 48 ≤ tb j ∧ tb j ≤ 57) : ∃ tR : PW, f_Reader_step_J155 S = some tR ∧ (∀ k, k ≠ 6 → tR k = S k) ∧ (t = 1 → tR 6 0 = figV tb b e) := by
  unfold f_Reader_step_J155
  rw [h3]
  by_cases c : t = 1
  · subst c
    have hf' := hf rfl
    have f1 := hf' (e - 1) (by omega) (by omega)
    have f0 := hf' b (by omega) (by omega)
    rw [if_pos (show nI 1 = (1 : Int32) from rfl)]
    have ev : f_Reader_valueOfFigures S = some (figV tb b e) := by
      unfold f_Reader_valueOfFigures figV
      rw [h4, h5, show (1 : Int32) = nI 1 from rfl, nI_sub (show 1 ≤ e by omega) (by omega), okI_nI (show e - 1 < 150 by omega) (by omega), nI_clamp (by omega), hx (e - 1) (by omega), gd_t, nm_s, nI_sub (show b ≤ e by omega) (by omega), show (48 : Int32) = nI 48 from rfl, nI_sub f1.1 (by omega), show (2 : Int32) = nI 2 from rfl]
      by_cases c1 : e - b = 1
      · rw [if_pos (by rw [c1]), if_pos c1, show e - 1 = b by omega]
      · rw [if_neg (fun z => c1 (nI_inj (by omega) (by decide) z)), if_neg c1]
        by_cases c2 : e - b = 2
        · rw [if_pos (by rw [c2]), if_pos c2, okI_nI (show b < 150 by omega) (by omega), nI_clamp (by omega), gd_t, hx b (by omega), nI_sub f0.1 (by omega), show (10 : Int32) = nI 10 from rfl, nI_mul, nI_add, show e - 1 = b + 1 by omega]
        · rw [if_neg (fun z => c2 (nI_inj (by omega) (by decide) z)), if_neg c2]
    rw [ev, bd_s, nm_s]
    exact ⟨_, rfl, fun k hk => up_ne hk, fun _ => by rw [up_eq]⟩
  · rw [if_neg (show ¬ nI t = (1 : Int32) from fun z => c (nI_inj (b := 1) (by omega) (by decide) z)), nm_s]
    exact ⟨_, rfl, fun k hk => up_ne hk, fun h => absurd h c⟩
theorem L97_C {S : PW} {n p b e : Nat} {tb : Nat → Nat} (hn : n ≤ 150) (hx : ∀ k, k < n → tb k < 128 ∧ S 1 k = nI (tb k)) (h2 : S 2 0 = nI n) (hb : b < n) (hT : TB n tb p b e) (h3 : S 3 0 = nI (ck (tb b))) (h4 : S 4 0 = nI b) (h5 : S 5 0 = nI (b + 1)) : ∃ tR : PW, loopF f_Reader_step_L97 4000 S = some tR ∧ (∀ k, k ≠ 5 → k ≠ 6 → tR k = S k) ∧ tR 5 0 = nI e ∧ (ck (tb b) = 1 → tR 6 0 = figV tb b e) := by
  obtain ⟨-, -, hen, -, hT', -⟩ := hT
  obtain ⟨-, hbe, hrun, hone⟩ := hT' hb
  have ht := ck_lt _ (hx b hb).1
  have fin : ∀ T : PW, (∀ k, k ≠ 5 → T k = S k) → T 5 0 = nI e → ∃ tR : PW, f_Reader_step_J155 T = some tR ∧ (∀ k, k ≠ 5 → k ≠ 6 → tR k = S k) ∧ tR 5 0 = nI e ∧ (ck (tb b) = 1 → tR 6 0 = figV tb b e) := by
    intro T q1 q2
    obtain ⟨tR, f1, f2, f3⟩ := J155_C (S := T) (t := ck (tb b)) (b := b) hn (fun k hk => by rw [q1 1 (by decide)]; exact (hx k hk).2) (by rw [q1 3 (by decide)]; exact h3) ht (by rw [q1 4 (by decide)]; exact h4) q2 hbe hen (fun h1 j hj1 hj2 => by
      by_cases ej : j = b
      · subst ej; exact ck_fig h1
      · exact ck_fig (((hrun (by omega)).1 j (by omega) hj2).trans h1))
    exact ⟨tR, f1, fun k h5 h6 => by rw [f2 k h6, q1 k h5], by rw [f2 5 (by decide)]; exact q2, f3⟩
  have main : ∃ r, (∃ tR : PW, r = some tR ∧ (∀ k, k ≠ 5 → k ≠ 6 → tR k = S k) ∧ tR 5 0 = nI e ∧ (ck (tb b) = 1 → tR 6 0 = figV tb b e)) ∧ loopF f_Reader_step_L97 4000 S = r := by
    refine loop_inv (fun i (T : PW) => (∀ k, k ≠ 5 → T k = S k) ∧ T 5 0 = nI (b + 1 + i)) _ (e - (b + 1)) ?_ ?_ 4000 _ (by omega) ⟨fun _ _ => rfl, h5⟩
    · rintro i T hi ⟨q1, q2⟩
      refine ⟨up T 5 (fun _ => nI (b + 1 + (i + 1))), ⟨fun k hk => by rw [up_ne hk, q1 k hk], by rw [up_eq]⟩, ?_⟩
      intro K
      have c1 : ck (tb b) ≤ 1 := by
        by_cases h : ck (tb b) ≤ 1
        · exact h
        · have := hone (by omega); omega
      have hc := (hrun c1).1 (b + 1 + i) (by omega) (by omega)
      have eJ : f_Reader_step_J123 T K = K (up T 5 (fun _ => nI (b + 1 + (i + 1)))) := by
        unfold f_Reader_step_J123
        rw [q2, okI_nI (by omega) (by omega), nI_clamp (by omega), q1 1 (by decide), (hx (b + 1 + i) (by omega)).2, tok_C _ (hx (b + 1 + i) (by omega)).1, gd_t, bd_s, q1 3 (by decide), h3, hc, if_pos rfl, nm_s, show nI (b + 1 + i) + (1 : Int32) = nI (b + 1 + i + 1) from nI_add _ 1]
        rfl
      simp only [f_Reader_step_L97]
      rw [eJ, q1 2 (by decide), q2, h2, if_neg (nI_ge (by omega) (by omega)), q1 3 (by decide), h3]
      rcases (show ck (tb b) = 0 ∨ ck (tb b) = 1 by omega) with h | h
      · rw [h, if_pos (show nI 0 = 0 from rfl)]
      · rw [h, if_neg (by decide), if_pos (show nI 1 = (1 : Int32) from rfl)]
    · rintro T ⟨q1, q2⟩
      rw [show b + 1 + (e - (b + 1)) = e by omega] at q2
      obtain ⟨tR, f1, f2⟩ := fin T q1 q2
      refine ⟨some tR, ⟨tR, rfl, f2⟩, ?_⟩
      intro K
      simp only [f_Reader_step_L97]
      rw [f1, q1 2 (by decide), q2, h2]
      by_cases c : e < n
      · rw [if_neg (nI_ge c (by omega)), q1 3 (by decide), h3]
        by_cases c1 : ck (tb b) ≤ 1
        · have hc := (hrun c1).2 c
          have eJ : f_Reader_step_J123 T K = f_Reader_step_J155 T := by
            unfold f_Reader_step_J123
            rw [q2, okI_nI (by omega) (by omega), nI_clamp (by omega), q1 1 (by decide), (hx e c).2, tok_C _ (hx e c).1, gd_t, bd_s, q1 3 (by decide), h3, if_neg (fun z => hc (nI_inj (by have := ck_lt _ (hx e c).1; omega) (by omega) z))]
          rw [eJ, f1, ite_self, ite_self]
        · rw [if_neg (show ¬ nI (ck (tb b)) = 0 from fun z => c1 (by have := nI_inj (b := 0) (by omega) (by decide) z; omega)), if_neg (show ¬ nI (ck (tb b)) = (1 : Int32) from fun z => c1 (by have := nI_inj (b := 1) (by omega) (by decide) z; omega))]
      · rw [if_pos (nI_le (by omega) (by omega))]
  obtain ⟨r, ⟨tR, rfl, h⟩, e⟩ := main
  exact ⟨tR, e, h⟩
theorem step_C {sR : PW} {n p b e : Nat} {tb : Nat → Nat} (hn : n ≤ 150) (hx : ∀ k, k < n → tb k < 128 ∧ sR 1 k = nI (tb k)) (h2 : sR 2 0 = nI n) (h5 : sR 5 0 = nI p) (hT : TB n tb p b e) : ∃ tR : PW, f_Reader_step sR = some tR ∧ (∀ k, k ≠ 3 → k ≠ 4 → k ≠ 5 → k ≠ 6 → tR k = sR k) ∧ tR 4 0 = nI b ∧ tR 5 0 = nI e ∧ (b < n → tR 3 0 = nI (ck (tb b)) ∧ (ck (tb b) = 1 → tR 6 0 = figV tb b e)) ∧ (¬ b < n → tR 3 0 = 3) := by
  have hT2 := hT
  obtain ⟨hpb, hbe, hen, hsk, hT', hTn⟩ := hT
  have fin : ∀ T : PW, (∀ k, k ≠ 4 → T k = sR k) → T 4 0 = nI b → ∃ tR : PW, f_Reader_step_J46 T = some tR ∧ (∀ k, k ≠ 3 → k ≠ 4 → k ≠ 5 → k ≠ 6 → tR k = sR k) ∧ tR 4 0 = nI b ∧ tR 5 0 = nI e ∧ (b < n → tR 3 0 = nI (ck (tb b)) ∧ (ck (tb b) = 1 → tR 6 0 = figV tb b e)) ∧ (¬ b < n → tR 3 0 = 3) := by
    intro T q1 q2
    unfold f_Reader_step_J46
    rw [nm_s, q2]
    have r4 : up T 5 (fun _ => nI b) 4 0 = nI b := by rw [up_ne (by decide)]; exact q2
    have r2 : up T 5 (fun _ => nI b) 2 0 = nI n := by rw [up_ne (by decide), q1 2 (by decide)]; exact h2
    rw [r4, r2]
    by_cases c : b < n
    · have r1 : up T 5 (fun _ => nI b) 1 b = nI (tb b) := by rw [up_ne (by decide), q1 1 (by decide)]; exact (hx b c).2
      rw [if_pos (nI_lt c (by omega)), okI_nI (by omega) (by omega), nI_clamp (by omega), r1, tok_C _ (hx b c).1, gd_t, bd_s, nm_s, nm_s]
      generalize hS : up (up (up T 5 (fun _ => nI b)) 3 (fun _ => nI (ck (tb b)))) 5 (fun _ => up (up T 5 (fun _ => nI b)) 3 (fun _ => nI (ck (tb b))) 5 0 + (1 : Int32)) = S
      have s5 : S 5 0 = nI (b + 1) := by
        rw [← hS, up_eq, up_ne (by decide), up_eq]
        exact nI_add b 1
      have s3 : S 3 0 = nI (ck (tb b)) := by rw [← hS, up_ne (by decide), up_eq]
      have so : ∀ k, k ≠ 3 → k ≠ 4 → k ≠ 5 → S k = sR k := by
        intro k k3 k4 k5
        rw [← hS, up_ne k5, up_ne k3, up_ne k5, q1 k k4]
      have s4 : S 4 0 = nI b := by rw [← hS, up_ne (by decide), up_ne (by decide), up_ne (by decide)]; exact q2
      obtain ⟨tR, g1, g2, g3, g4⟩ := L97_C (S := S) hn (fun k hk => by rw [so 1 (by decide) (by decide) (by decide)]; exact hx k hk) (by rw [so 2 (by decide) (by decide) (by decide)]; exact h2) c hT2 s3 s4 s5
      exact ⟨tR, g1, fun k k3 k4 k5 k6 => by rw [g2 k k5 k6, so k k3 k4 k5], by rw [g2 4 (by decide) (by decide)]; exact s4, g3, fun _ => ⟨by rw [g2 3 (by decide) (by decide)]; exact s3, g4⟩, fun h => absurd c h⟩
    · rw [if_neg (nI_nlt (by omega) (by omega)), nm_s]
      refine ⟨_, rfl, ?_, ?_, ?_, fun h => absurd h c, fun _ => ?_⟩
      · intro k k3 k4 k5 k6
        rw [up_ne k3, up_ne k5, q1 k k4]
      · rw [up_ne (by decide)]; exact r4
      · rw [up_ne (by decide), up_eq, hTn c]
      · rw [up_eq]
  have main : ∃ r, (∃ tR : PW, r = some tR ∧ (∀ k, k ≠ 3 → k ≠ 4 → k ≠ 5 → k ≠ 6 → tR k = sR k) ∧ tR 4 0 = nI b ∧ tR 5 0 = nI e ∧ (b < n → tR 3 0 = nI (ck (tb b)) ∧ (ck (tb b) = 1 → tR 6 0 = figV tb b e)) ∧ (¬ b < n → tR 3 0 = 3)) ∧ loopF f_Reader_step_L8 4000 (up sR 4 (fun _ => sR 5 0)) = r := by
    refine loop_inv (fun i (T : PW) => (∀ k, k ≠ 4 → T k = sR k) ∧ T 4 0 = nI (p + i)) _ (b - p) ?_ ?_ 4000 _ (by omega) ⟨fun k hk => up_ne hk, by rw [up_eq]; exact h5⟩
    · rintro i T hi ⟨q1, q2⟩
      refine ⟨up T 4 (fun _ => nI (p + (i + 1))), ⟨fun k hk => by rw [up_ne hk, q1 k hk], by rw [up_eq]⟩, ?_⟩
      intro K
      simp only [f_Reader_step_L8]
      rw [q1 2 (by decide), q2, h2, if_neg (nI_ge (by omega) (by omega)), okI_nI (by omega) (by omega), nI_clamp (by omega), q1 1 (by decide), (hx (p + i) (by omega)).2, hsk (p + i) (by omega) (by omega), gd_t, if_pos (show nI 32 = (32 : Int32) from rfl), nm_s, show nI (p + i) + (1 : Int32) = nI (p + i + 1) from nI_add _ 1]
      rfl
    · rintro T ⟨q1, q2⟩
      rw [show p + (b - p) = b by omega] at q2
      obtain ⟨tR, f1, f2⟩ := fin T q1 q2
      refine ⟨some tR, ⟨tR, rfl, f2⟩, ?_⟩
      intro K
      simp only [f_Reader_step_L8]
      rw [q1 2 (by decide), q2, h2]
      by_cases c : b < n
      · have hb := (hT' c).1
        have h128 := (hx b c).1
        rw [if_neg (nI_ge c (by omega)), okI_nI (by omega) (by omega), nI_clamp (by omega), q1 1 (by decide), (hx b c).2, gd_t, if_neg (show ¬ nI (tb b) = (32 : Int32) from fun z => hb (nI_inj (b := 32) (by omega) (by decide) z)), f1]
      · rw [if_pos (nI_le (by omega) (by omega)), f1]
  unfold f_Reader_step
  rw [nm_s]
  obtain ⟨r, ⟨tR, rfl, h⟩, e⟩ := main
  exact ⟨tR, e, h⟩
