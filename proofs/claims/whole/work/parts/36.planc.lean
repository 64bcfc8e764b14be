/-! ===== the class's planner ===== -/
theorem loop_in {σ τ ρ : Type} {body : (τ → Option ρ) → (σ → Option ρ) → σ → Option ρ} (P : Nat → σ → Prop) (Q : τ → Prop) (n : Nat) (hs : ∀ i s, i < n → P i s → ∃ s', P (i + 1) s' ∧ ∀ K7 K, body K7 K s = K s') (he : ∀ s, P n s → ∃ z, Q z ∧ ∀ K7 K, body K7 K s = K7 z) : ∀ (fuel : Nat) (s : σ), n < fuel → P 0 s → ∃ z, Q z ∧ ∀ K7, loopF (body K7) fuel s = K7 z := by
  have main : ∀ (m i fuel : Nat) (s : σ), i + m = n → m < fuel → P i s → ∃ z, Q z ∧ ∀ K7, loopF (body K7) fuel s = K7 z := by
    intro m
    induction m with
    | zero =>
      intro i fuel s h1 h2 hp
      obtain ⟨f, rfl⟩ : ∃ f, fuel = f + 1 := ⟨fuel - 1, by omega⟩
      have : i = n := by omega
      subst this
      obtain ⟨z, q, e⟩ := he s hp
      exact ⟨z, q, fun K7 => e K7 _⟩
    | succ m ih =>
      intro i fuel s h1 h2 hp
      obtain ⟨f, rfl⟩ : ∃ f, fuel = f + 1 := ⟨fuel - 1, by omega⟩
      obtain ⟨s', p', e⟩ := hs i s (by omega) hp
      obtain ⟨z, q, e2⟩ := ih (i + 1) f s' (by omega) (by omega) p'
      exact ⟨z, q, fun K7 => (e K7 _).trans (e2 K7)⟩
  exact fun fuel s hf hp => main n 0 fuel s (by omega) hf hp
theorem one_sh : ∀ m, m < 7 → ((1 : Int32) <<< (nI m &&& 31)) - (1 : Int32) = nI (2 ^ m - 1) := by decide +kernel
theorem or_bit : ∀ set, set < 64 → ∀ d, d < 6 → nI set ||| ((1 : Int32) <<< (nI d &&& 31)) = nI (set ||| 2 ^ d) := by decide +kernel
theorem tst_bit : ∀ set, set < 64 → ∀ d, d < 6 → (nI set >>> (nI d &&& 31)) &&& (1 : Int32) = b2 (set.testBit d) := by decide +kernel
theorem dnm_lt : ∀ j, j < 26 → ∀ h, h < 24 → (nI j + (-1 : Int32) < nI h ↔ j ≤ h) := by decide +kernel
theorem dnm_eq : ∀ j, j < 26 → 0 < j → nI j + (-1 : Int32) = nI (j - 1) := by decide +kernel
theorem allN_lt {w : PW} (ho : Ok w) : allN w < 64 := by
  have h := ho.m6
  have : 2 ^ vn w 12 0 ≤ 2 ^ 6 := Nat.pow_le_pow_right (by decide) h
  unfold allN
  omega
theorem allN_or {w : PW} {set d : Nat} (h : set ≤ allN w) (hd : d < vn w 12 0) : set ||| 2 ^ d ≤ allN w := by
  have hp : 0 < 2 ^ vn w 12 0 := Nat.pow_pos (by decide)
  have h1 : set < 2 ^ vn w 12 0 := by unfold allN at h; omega
  have h2 : 2 ^ d < 2 ^ vn w 12 0 := Nat.pow_lt_pow_right (by decide) hd
  have := Nat.or_lt_two_pow h1 h2
  unfold allN
  omega
theorem allDone_C {w : PW} (ho : Ok w) (sP : PW) : f_Planner_allDone sP w = some (nI (allN w)) := by
  obtain ⟨h, e⟩ := okV ho.many
  unfold f_Planner_allDone
  rw [e, one_sh _ (by omega)]
  rfl
theorem costAt_C (h s : Nat) : f_Planner_costAt (nI h) (nI s) = some (nI ((h * 2 + s) * 64)) := by
  unfold f_Planner_costAt
  rw [show (2 : Int32) = nI 2 from rfl, show (64 : Int32) = nI 64 from rfl, nI_mul, nI_add, nI_mul]
theorem priceAt_C (h s : Nat) : f_Planner_priceAt (nI h) (nI s) = some (nI ((h * 2 + s) * 6)) := by
  unfold f_Planner_priceAt
  rw [show (2 : Int32) = nI 2 from rfl, show (6 : Int32) = nI 6 from rfl, nI_mul, nI_add, nI_mul]
theorem end_C {w : PW} (ho : Ok w) (sP : PW) : ∃ tP : PW, f_Planner_endOfDay sP w = some tP ∧ ∀ s, s < 2 → ∀ set, set ≤ allN w → tP 1 ((24 * 2 + s) * 64 + set) = nI (cF (dN w 0 set s)) := by
  have hA := allN_lt ho
  unfold f_Planner_endOfDay
  rw [allDone_C ho, bd_s]
  generalize hA' : allN w = A at hA
  have hv : ∀ set s, dN w 0 set s = if set = A then 0 else 9999 := fun set s => by
    show (if set = allN w then 0 else 9999) = _
    rw [hA']
  have main : ∃ r, (∃ tP : PW, r = some tP ∧ ∀ s, s < 2 → ∀ set, set ≤ A → tP 1 ((24 * 2 + s) * 64 + set) = nI (cF (dN w 0 set s))) ∧ loopF (f_Planner_endOfDay_L7 (nI A)) 4000 ((0 : Int32), sP) = r := by
    refine loop_inv (fun i (z : Int32 × PW) => z.1 = nI i ∧ ∀ s, s < i → ∀ set, set ≤ A → z.2 1 ((24 * 2 + s) * 64 + set) = nI (cF (dN w 0 set s))) _ 2 ?_ ?_ 4000 _ (by decide) ⟨rfl, fun s hs => absurd hs (by omega)⟩
    · rintro s ⟨x, S⟩ hs ⟨q1', q2'⟩
      have q1 : x = nI s := q1'
      have q2 : ∀ s', s' < s → ∀ set, set ≤ A → S 1 ((24 * 2 + s') * 64 + set) = nI (cF (dN w 0 set s')) := q2'
      subst q1
      have inner : ∃ z : Int32 × PW, (z.1 = nI (s + 1) ∧ ∀ s', s' < s + 1 → ∀ set, set ≤ A → z.2 1 ((24 * 2 + s') * 64 + set) = nI (cF (dN w 0 set s'))) ∧ ∀ K7 : Int32 × PW → Option PW, loopF (f_Planner_endOfDay_L14 (nI A) (nI s) K7) 4000 ((0 : Int32), S) = K7 z := by
        refine loop_in (fun i (z : Int32 × PW) => z.1 = nI i ∧ (∀ set, set < i → z.2 1 ((24 * 2 + s) * 64 + set) = nI (cF (dN w 0 set s))) ∧ ∀ j, j < (24 * 2 + s) * 64 → z.2 1 j = S 1 j) _ (A + 1) ?_ ?_ 4000 _ (by omega) ⟨rfl, fun set hs => absurd hs (by omega), fun _ _ => rfl⟩
        · rintro i ⟨x, S'⟩ hi ⟨p1', p2', p3'⟩
          have p1 : x = nI i := p1'
          have p2 : ∀ set, set < i → S' 1 ((24 * 2 + s) * 64 + set) = nI (cF (dN w 0 set s)) := p2'
          have p3 : ∀ j, j < (24 * 2 + s) * 64 → S' 1 j = S 1 j := p3'
          subst p1
          refine ⟨(nI (i + 1), up S' 1 (upd (S' 1) ((24 * 2 + s) * 64 + i) (nI (cF (dN w 0 i s))))), ⟨rfl, ?_, ?_⟩, ?_⟩
          · intro set hset
            dsimp only
            rw [up_eq]
            by_cases e : set = i
            · subst e; rw [upd_eq]
            · rw [upd_ne (by omega), p2 set (by omega)]
          · intro j hj
            dsimp only
            rw [up_eq, upd_ne (by omega), p3 j hj]
          · intro K7 K
            simp only [f_Planner_endOfDay_L14]
            rw [if_neg (nI_nlt (by omega) (by omega)), show (24 : Int32) = nI 24 from rfl, costAt_C, bd_s, nI_add, okI_nI (by omega) (by omega), nI_clamp (by omega), show nI i + (1 : Int32) = nI (i + 1) from nI_add i 1, hv]
            simp only [gd_t, nm_s]
            by_cases e : i = A
            · subst e
              rw [if_pos rfl, if_pos rfl]
              rfl
            · rw [if_neg (fun q => e (nI_inj (by omega) (by omega) q)), if_neg e]
              rfl
        · rintro ⟨x, S'⟩ ⟨p1', p2', p3'⟩
          have p1 : x = nI (A + 1) := p1'
          have p2 : ∀ set, set < A + 1 → S' 1 ((24 * 2 + s) * 64 + set) = nI (cF (dN w 0 set s)) := p2'
          have p3 : ∀ j, j < (24 * 2 + s) * 64 → S' 1 j = S 1 j := p3'
          subst p1
          refine ⟨(nI (s + 1), S'), ⟨rfl, ?_⟩, ?_⟩
          · intro s' hs' set hset
            dsimp only
            by_cases e : s' = s
            · subst e; exact p2 set (by omega)
            · rw [p3 _ (by omega)]; exact q2 s' (by omega) set hset
          · intro K7 K
            simp only [f_Planner_endOfDay_L14]
            rw [if_pos (nI_lt (by omega) (by omega)), nm_s, show nI s + (1 : Int32) = nI (s + 1) from nI_add s 1]
      obtain ⟨z, h1, h2⟩ := inner
      refine ⟨z, h1, ?_⟩
      intro K
      simp only [f_Planner_endOfDay_L7]
      rw [if_neg (by rw [show (2 : Int32) = nI 2 from rfl]; exact nI_ge hs (by decide)), h2]
    · rintro ⟨x, S⟩ ⟨q1', q2⟩
      have q1 : x = nI 2 := q1'
      subst q1
      refine ⟨some S, ⟨S, rfl, q2⟩, ?_⟩
      intro K
      simp only [f_Planner_endOfDay_L7]
      rw [if_pos (show (2 : Int32) ≤ nI 2 by decide)]
  obtain ⟨r, ⟨tP, rfl, h⟩, e⟩ := main
  exact ⟨tP, e, h⟩
theorem price_C {w : PW} (ho : Ok w) (sP : PW) {h : Nat} (hh : h < 24) : ∃ tP : PW, f_Planner_priceHour sP w (nI h) = some tP ∧ tP 1 = sP 1 ∧ (∀ s, s < 2 → ∀ d, d < vn w 12 0 → tP 2 ((h * 2 + s) * 6 + d) = nI (pcN w h s d)) ∧ ∀ j, (h * 2 + 2) * 6 ≤ j → tP 2 j = sP 2 j := by
  have hm := ho.m6
  obtain ⟨-, em⟩ := okV ho.many
  unfold f_Planner_priceHour
  have main : ∃ r, (∃ tP : PW, r = some tP ∧ tP 1 = sP 1 ∧ (∀ s, s < 2 → ∀ d, d < vn w 12 0 → tP 2 ((h * 2 + s) * 6 + d) = nI (pcN w h s d)) ∧ ∀ j, (h * 2 + 2) * 6 ≤ j → tP 2 j = sP 2 j) ∧ loopF (f_Planner_priceHour_L2 (nI h) w) 4000 ((0 : Int32), sP) = r := by
    refine loop_inv (fun i (z : Int32 × PW) => z.1 = nI i ∧ z.2 1 = sP 1 ∧ (∀ s, s < i → ∀ d, d < vn w 12 0 → z.2 2 ((h * 2 + s) * 6 + d) = nI (pcN w h s d)) ∧ ∀ j, (h * 2 + 2) * 6 ≤ j → z.2 2 j = sP 2 j) _ 2 ?_ ?_ 4000 _ (by decide) ⟨rfl, rfl, fun s hs => absurd hs (by omega), fun _ _ => rfl⟩
    · rintro s ⟨x, S⟩ hs ⟨q1', q2', q3', q4'⟩
      have q1 : x = nI s := q1'
      have q2 : S 1 = sP 1 := q2'
      have q3 : ∀ s', s' < s → ∀ d, d < vn w 12 0 → S 2 ((h * 2 + s') * 6 + d) = nI (pcN w h s' d) := q3'
      have q4 : ∀ j, (h * 2 + 2) * 6 ≤ j → S 2 j = sP 2 j := q4'
      subst q1
      have inner : ∃ z : Int32 × PW, (z.1 = nI (s + 1) ∧ z.2 1 = sP 1 ∧ (∀ s', s' < s + 1 → ∀ d, d < vn w 12 0 → z.2 2 ((h * 2 + s') * 6 + d) = nI (pcN w h s' d)) ∧ ∀ j, (h * 2 + 2) * 6 ≤ j → z.2 2 j = sP 2 j) ∧ ∀ K2 : Int32 × PW → Option PW, loopF (f_Planner_priceHour_L9 (nI h) w (nI s) K2) 4000 ((0 : Int32), S) = K2 z := by
        refine loop_in (fun i (z : Int32 × PW) => z.1 = nI i ∧ z.2 1 = sP 1 ∧ (∀ d, d < i → z.2 2 ((h * 2 + s) * 6 + d) = nI (pcN w h s d)) ∧ ∀ j, (j < (h * 2 + s) * 6 ∨ (h * 2 + 2) * 6 ≤ j) → z.2 2 j = S 2 j) _ (vn w 12 0) ?_ ?_ 4000 _ (by omega) ⟨rfl, q2, fun d hd => absurd hd (by omega), fun _ _ => rfl⟩
        · rintro d ⟨x, S'⟩ hd ⟨p1', p2', p3', p4'⟩
          have p1 : x = nI d := p1'
          have p2 : S' 1 = sP 1 := p2'
          have p3 : ∀ d', d' < d → S' 2 ((h * 2 + s) * 6 + d') = nI (pcN w h s d') := p3'
          have p4 : ∀ j, (j < (h * 2 + s) * 6 ∨ (h * 2 + 2) * 6 ≤ j) → S' 2 j = S 2 j := p4'
          subst p1
          refine ⟨(nI (d + 1), up S' 2 (upd (S' 2) ((h * 2 + s) * 6 + d) (nI (pcN w h s d)))), ⟨rfl, ?_, ?_, ?_⟩, ?_⟩
          · dsimp only
            rw [up_ne (by decide), p2]
          · intro d' hd'
            dsimp only
            rw [up_eq]
            by_cases e : d' = d
            · subst e; rw [upd_eq]
            · rw [upd_ne (by omega), p3 d' (by omega)]
          · intro j hj
            dsimp only
            rw [up_eq, upd_ne (by omega), p4 j hj]
          · intro K2 K
            simp only [f_Planner_priceHour_L9]
            rw [em, if_neg (nI_ge hd (by omega)), let_C ho hd hs hh, due_C ho hd hs hh, bd_s, priceAt_C, bd_s, bd_s, nI_add, okI_nI (by omega) (by omega), nI_clamp (by omega), show nI d + (1 : Int32) = nI (d + 1) from nI_add d 1]
            simp only [gd_t, nm_s]
            unfold pcN
            cases letB w d s h
            · rw [if_b2f, if_neg (by decide)]; rfl
            · rw [if_b2t, if_pos rfl]
        · rintro ⟨x, S'⟩ ⟨p1', p2, p3', p4'⟩
          have p1 : x = nI (vn w 12 0) := p1'
          have p3 : ∀ d', d' < vn w 12 0 → S' 2 ((h * 2 + s) * 6 + d') = nI (pcN w h s d') := p3'
          have p4 : ∀ j, (j < (h * 2 + s) * 6 ∨ (h * 2 + 2) * 6 ≤ j) → S' 2 j = S 2 j := p4'
          subst p1
          refine ⟨(nI (s + 1), S'), ⟨rfl, p2, ?_, ?_⟩, ?_⟩
          · intro s' hs' d hd
            dsimp only
            by_cases e : s' = s
            · subst e; exact p3 d hd
            · rw [p4 _ (by omega)]; exact q3 s' (by omega) d hd
          · intro j hj
            dsimp only
            rw [p4 j (Or.inr hj), q4 j hj]
          · intro K2 K
            simp only [f_Planner_priceHour_L9]
            rw [em, if_pos (nI_le (Nat.le_refl _) (by omega)), nm_s, show nI s + (1 : Int32) = nI (s + 1) from nI_add s 1]
      obtain ⟨z, h1, h2⟩ := inner
      refine ⟨z, h1, ?_⟩
      intro K
      simp only [f_Planner_priceHour_L2]
      rw [if_neg (by rw [show (2 : Int32) = nI 2 from rfl]; exact nI_ge hs (by decide)), h2]
    · rintro ⟨x, S⟩ ⟨q1', q2⟩
      have q1 : x = nI 2 := q1'
      subst q1
      refine ⟨some S, ⟨S, rfl, q2⟩, ?_⟩
      intro K
      simp only [f_Planner_priceHour_L2]
      rw [if_pos (show (2 : Int32) ≤ nI 2 by decide)]
  obtain ⟨r, ⟨tP, rfl, h⟩, e⟩ := main
  exact ⟨tP, e, h⟩
theorem cF_le (x : Nat) : cF x ≤ 1000000 := by
  unfold cF
  split <;> omega
theorem pcN_le {w : PW} (ho : Ok w) {h t d : Nat} (hd : d < vn w 12 0) (ht : t < 2) : pcN w h t d ≤ 1000000 := by
  have := dueN_le ho (h := h) hd ht
  unfold pcN
  split <;> omega
theorem coN_le {w : PW} {V : Nat → Nat → Nat} {h set t : Nat} : ∀ n, coN w V h set t n ≤ 1000000
  | 0 => Nat.le_refl _
  | n + 1 => by
    have := coN_le (w := w) (V := V) (h := h) (set := set) (t := t) n
    show (if set.testBit n = true then coN w V h set t n else if pcN w h t n + cF (V (set ||| 2 ^ n) t) < coN w V h set t n then pcN w h t n + cF (V (set ||| 2 ^ n) t) else coN w V h set t n) ≤ 1000000
    repeat' split
    all_goals omega
theorem cheap_C {w S : PW} (ho : Ok w) {V : Nat → Nat → Nat} {h set t : Nat} (hh : h < 24) (hset : set ≤ allN w) (ht : t < 2) (hT : ∀ q, q ≤ allN w → S 1 (((h + 1) * 2 + t) * 64 + q) = nI (cF (V q t))) (hP : ∀ d, d < vn w 12 0 → S 2 ((h * 2 + t) * 6 + d) = nI (pcN w h t d)) : f_Planner_cheapestOn S w (nI t) (nI h) (nI set) = some (nI (coN w V h set t (vn w 12 0))) := by
  have hm := ho.m6
  have hA := allN_lt ho
  obtain ⟨-, em⟩ := okV ho.many
  unfold f_Planner_cheapestOn
  rw [show nI h + (1 : Int32) = nI (h + 1) from nI_add h 1, costAt_C, priceAt_C, bd_s, bd_s]
  refine loop_seq (fun d => (nI (coN w V h set t d), nI d)) (vn w 12 0) 4000 (by omega) ?_ ?_
  · intro d hd K
    simp only [f_Planner_cheapestOn_L23]
    have ho2 := allN_or hset hd
    have hp := pcN_le ho (h := h) hd ht
    have hc := cF_le (V (set ||| 2 ^ d) t)
    have hco := coN_le (w := w) (V := V) (h := h) (set := set) (t := t) d
    rw [em, if_neg (nI_ge hd (by omega)), tst_bit set (by omega) d (by omega), or_bit set (by omega) d (by omega), nI_add, nI_add, okI_nI (by omega) (by omega), okI_nI (by omega) (by omega), nI_clamp (by omega), nI_clamp (by omega), hT _ ho2, hP d hd, nI_add, show nI d + (1 : Int32) = nI (d + 1) from nI_add d 1]
    simp only [gd_t, nm_s]
    show _ = K (nI (if set.testBit d = true then coN w V h set t d else if pcN w h t d + cF (V (set ||| 2 ^ d) t) < coN w V h set t d then pcN w h t d + cF (V (set ||| 2 ^ d) t) else coN w V h set t d), nI (d + 1))
    cases set.testBit d
    · rw [if_b2f, if_neg (show ¬ false = true by decide)]
      generalize pcN w h t d = a at hp ⊢
      generalize cF (V (set ||| 2 ^ d) t) = b at hc ⊢
      generalize coN w V h set t d = c at hco ⊢
      by_cases e : a + b < c
      · rw [if_pos e, if_pos (nI_lt e (by omega))]
      · rw [if_neg e, if_neg (nI_nlt (by omega) (by omega))]
    · rw [if_b2t, if_pos (show true = true from rfl)]
  · intro K
    simp only [f_Planner_cheapestOn_L23]
    rw [em, if_pos (nI_le (Nat.le_refl _) (by omega))]
theorem if_nI {a b : Nat} (ha : a < 2 ^ 31) (hb : b < 2 ^ 31) : (if nI a < nI b then nI a else nI b) = nI (if a < b then a else b) := by
  by_cases e : a < b
  · rw [if_pos e, if_pos (nI_lt e hb)]
  · rw [if_neg e, if_neg (nI_nlt (by omega) ha)]
theorem fill_C {w sP : PW} (ho : Ok w) {h : Nat} (hh : h < 24) (hT : ∀ t, t < 2 → ∀ q, q ≤ allN w → sP 1 (((h + 1) * 2 + t) * 64 + q) = nI (cF (dN w (23 - h) q t))) (hP : ∀ t, t < 2 → ∀ d, d < vn w 12 0 → sP 2 ((h * 2 + t) * 6 + d) = nI (pcN w h t d)) : ∃ tP : PW, f_Planner_fillHour sP w (nI h) = some tP ∧ tP 2 = sP 2 ∧ (∀ s, s < 2 → ∀ q, q ≤ allN w → tP 1 ((h * 2 + s) * 64 + q) = nI (cF (dN w (24 - h) q s))) ∧ ∀ j, (h + 1) * 128 ≤ j → tP 1 j = sP 1 j := by
  have hm := ho.m6
  have hA := allN_lt ho
  obtain ⟨htl, etl⟩ := okV ho.toll
  unfold f_Planner_fillHour
  rw [allDone_C ho, bd_s]
  have main : ∃ r, (∃ tP : PW, r = some tP ∧ tP 2 = sP 2 ∧ (∀ s, s < 2 → ∀ q, q ≤ allN w → tP 1 ((h * 2 + s) * 64 + q) = nI (cF (dN w (24 - h) q s))) ∧ ∀ j, (h + 1) * 128 ≤ j → tP 1 j = sP 1 j) ∧ loopF (f_Planner_fillHour_L7 (nI h) w (nI (allN w))) 4000 ((0 : Int32), sP) = r := by
    refine loop_inv (fun i (z : Int32 × PW) => z.1 = nI i ∧ z.2 2 = sP 2 ∧ (∀ s, s < 2 → ∀ q, q < i → z.2 1 ((h * 2 + s) * 64 + q) = nI (cF (dN w (24 - h) q s))) ∧ ∀ j, (h + 1) * 128 ≤ j → z.2 1 j = sP 1 j) _ (allN w + 1) ?_ ?_ 4000 _ (by omega) ⟨rfl, rfl, fun s _ q hq => absurd hq (by omega), fun _ _ => rfl⟩
    · rintro i ⟨x, S⟩ hi ⟨q1', q2', q3', q4'⟩
      have q1 : x = nI i := q1'
      have q2 : S 2 = sP 2 := q2'
      have q3 : ∀ s, s < 2 → ∀ q, q < i → S 1 ((h * 2 + s) * 64 + q) = nI (cF (dN w (24 - h) q s)) := q3'
      have q4 : ∀ j, (h + 1) * 128 ≤ j → S 1 j = sP 1 j := q4'
      subst q1
      have hT' : ∀ t, t < 2 → ∀ q, q ≤ allN w → S 1 (((h + 1) * 2 + t) * 64 + q) = nI (cF (dN w (23 - h) q t)) := fun t ht q hq => by rw [q4 _ (by omega)]; exact hT t ht q hq
      have hP' : ∀ t, t < 2 → ∀ d, d < vn w 12 0 → S 2 ((h * 2 + t) * 6 + d) = nI (pcN w h t d) := fun t ht d hd => by rw [q2]; exact hP t ht d hd
      have c0 := cheap_C ho hh (show i ≤ allN w by omega) (show 0 < 2 by decide) (hT' 0 (by decide)) (hP' 0 (by decide))
      have c1 := cheap_C ho hh (show i ≤ allN w by omega) (show 1 < 2 by decide) (hT' 1 (by decide)) (hP' 1 (by decide))
      have e24 : 24 - h = (23 - h) + 1 := by omega
      have eh : 23 - (23 - h) = h := by omega
      have d0 := d_step ho (r := 23 - h) (set := i) (s := 0) (by omega) (by decide)
      have d1 := d_step ho (r := 23 - h) (set := i) (s := 1) (by omega) (by decide)
      rw [eh, ← e24] at d0 d1
      have b0 := coN_le (w := w) (V := dN w (23 - h)) (h := h) (set := i) (t := 0) (vn w 12 0)
      have b1 := coN_le (w := w) (V := dN w (23 - h)) (h := h) (set := i) (t := 1) (vn w 12 0)
      have v0 := cF_le (dN w (23 - h) i 0)
      have v1 := cF_le (dN w (23 - h) i 1)
      refine ⟨(nI (i + 1), up (up S 1 (upd (S 1) ((h * 2 + 0) * 64 + i) (nI (cF (dN w (24 - h) i 0))))) 1 (upd (upd (S 1) ((h * 2 + 0) * 64 + i) (nI (cF (dN w (24 - h) i 0)))) ((h * 2 + 1) * 64 + i) (nI (cF (dN w (24 - h) i 1))))), ⟨rfl, ?_, ?_, ?_⟩, ?_⟩
      · dsimp only
        rw [up_ne (by decide), up_ne (by decide), q2]
      · intro s hs q hq
        dsimp only
        rw [up_eq]
        rcases (show s = 0 ∨ s = 1 by omega) with rfl | rfl
        · rw [upd_ne (by omega)]
          by_cases e : q = i
          · subst e; rw [upd_eq]
          · rw [upd_ne (by omega), q3 0 (by decide) q (by omega)]
        · by_cases e : q = i
          · subst e; rw [upd_eq]
          · rw [upd_ne (by omega), upd_ne (by omega), q3 1 (by decide) q (by omega)]
      · intro j hj
        dsimp only
        rw [up_eq, upd_ne (by omega), upd_ne (by omega), q4 j hj]
      · intro K
        simp only [f_Planner_fillHour_L7]
        rw [if_neg (nI_nlt (by omega) (by omega)), show (0 : Int32) = nI 0 from rfl, show (1 : Int32) = nI 1 from rfl, c0, c1]
        simp only [bd_s, nI_add, costAt_C, etl]
        generalize coN w (dN w (23 - h)) h i 0 (vn w 12 0) = a at b0 d0 d1 ⊢
        generalize coN w (dN w (23 - h)) h i 1 (vn w 12 0) = b at b1 d0 d1 ⊢
        rw [okI_nI (show ((h + 1) * 2 + 0) * 64 + i < 3200 by omega) (by omega), okI_nI (show ((h + 1) * 2 + 1) * 64 + i < 3200 by omega) (by omega), okI_nI (show (h * 2 + 0) * 64 + i < 3200 by omega) (by omega), okI_nI (show (h * 2 + 1) * 64 + i < 3200 by omega) (by omega), nI_clamp (show ((h + 1) * 2 + 0) * 64 + i < 2 ^ 31 by omega), nI_clamp (show ((h + 1) * 2 + 1) * 64 + i < 2 ^ 31 by omega), nI_clamp (show (h * 2 + 0) * 64 + i < 2 ^ 31 by omega), nI_clamp (show (h * 2 + 1) * 64 + i < 2 ^ 31 by omega)]
        simp only [gd_t, nm_s, up_eq]
        rw [upd_ne (show ((h + 1) * 2 + 1) * 64 + i ≠ (h * 2 + 0) * 64 + i by omega), hT' 0 (by decide) i (by omega), hT' 1 (by decide) i (by omega)]
        rw [if_nI (a := b + vn w 7 0) (b := a) (by omega) (by omega), if_nI (a := a + vn w 7 0) (b := b) (by omega) (by omega)]
        rw [if_nI (b := cF (dN w (23 - h) i 0)) (by split <;> omega) (by omega), if_nI (b := cF (dN w (23 - h) i 1)) (by split <;> omega) (by omega)]
        have d0 : cF (dN w (24 - h) i 0) = if (if b + vn w 7 0 < a then b + vn w 7 0 else a) < cF (dN w (23 - h) i 0) then (if b + vn w 7 0 < a then b + vn w 7 0 else a) else cF (dN w (23 - h) i 0) := d0
        have d1 : cF (dN w (24 - h) i 1) = if (if a + vn w 7 0 < b then a + vn w 7 0 else b) < cF (dN w (23 - h) i 1) then (if a + vn w 7 0 < b then a + vn w 7 0 else b) else cF (dN w (23 - h) i 1) := d1
        rw [← d0, ← d1]
    · rintro ⟨x, S⟩ ⟨q1', q2, q3', q4⟩
      have q1 : x = nI (allN w + 1) := q1'
      have q3 : ∀ s, s < 2 → ∀ q, q < allN w + 1 → S 1 ((h * 2 + s) * 64 + q) = nI (cF (dN w (24 - h) q s)) := q3'
      subst q1
      refine ⟨some S, ⟨S, rfl, q2, fun s hs q hq => q3 s hs q (by omega), q4⟩, ?_⟩
      intro K
      simp only [f_Planner_fillHour_L7]
      rw [if_pos (nI_lt (by omega) (by omega))]
  obtain ⟨r, ⟨tP, rfl, h⟩, e⟩ := main
  exact ⟨tP, e, h⟩
def TabC (w S : PW) (h0 : Nat) : Prop := (∀ h, h0 ≤ h → h ≤ 24 → ∀ s, s < 2 → ∀ q, q ≤ allN w → S 1 ((h * 2 + s) * 64 + q) = nI (cF (dN w (24 - h) q s))) ∧ ∀ h, h0 ≤ h → h < 24 → ∀ s, s < 2 → ∀ d, d < vn w 12 0 → S 2 ((h * 2 + s) * 6 + d) = nI (pcN w h s d)
theorem plan_C {w : PW} (ho : Ok w) (sP : PW) : ∃ tP : PW, f_Planner_leastCost sP w = some ((if dN w (24 - vn w 10 0) 0 (vn w 9 0) < 9999 then nI (dN w (24 - vn w 10 0) 0 (vn w 9 0)) else (-1 : Int32)), tP) ∧ TabC w tP (vn w 10 0) := by
  obtain ⟨hh, eh⟩ := okV ho.hour
  obtain ⟨hs, es⟩ := okV ho.side
  have hA := allN_lt ho
  unfold f_Planner_leastCost
  obtain ⟨sE, e1, hE⟩ := end_C ho sP
  rw [e1, bd_s]
  have main : ∃ r, (∃ tP : PW, r = some ((if dN w (24 - vn w 10 0) 0 (vn w 9 0) < 9999 then nI (dN w (24 - vn w 10 0) 0 (vn w 9 0)) else (-1 : Int32)), tP) ∧ TabC w tP (vn w 10 0)) ∧ loopF (f_Planner_leastCost_L7 w) 4000 ((23 : Int32), sE) = r := by
    refine loop_inv (fun i (z : Int32 × PW) => z.1 = nI (24 - i) + (-1 : Int32) ∧ TabC w z.2 (24 - i)) _ (24 - vn w 10 0) ?_ ?_ 4000 _ (by omega) ⟨rfl, ?_, ?_⟩
    · rintro i ⟨x, S⟩ hi ⟨q1', q2', q3'⟩
      have q1 : x = nI (24 - i) + (-1 : Int32) := q1'
      have q2 : ∀ h, 24 - i ≤ h → h ≤ 24 → ∀ s, s < 2 → ∀ q, q ≤ allN w → S 1 ((h * 2 + s) * 64 + q) = nI (cF (dN w (24 - h) q s)) := q2'
      have q3 : ∀ h, 24 - i ≤ h → h < 24 → ∀ s, s < 2 → ∀ d, d < vn w 12 0 → S 2 ((h * 2 + s) * 6 + d) = nI (pcN w h s d) := q3'
      have ex : nI (24 - i) + (-1 : Int32) = nI (23 - i) := by
        rw [dnm_eq _ (by omega) (by omega), show 24 - i - 1 = 23 - i by omega]
      obtain ⟨S1, f1, g1, g2, g3⟩ := price_C ho S (h := 23 - i) (by omega)
      have e1' : 23 - i + 1 = 24 - i := by omega
      have e2' : 23 - (23 - i) = 24 - (24 - i) := by omega
      obtain ⟨S2, f2, k1, k2, k3⟩ := fill_C ho (sP := S1) (h := 23 - i) (by omega) (fun t ht q hq => by rw [g1, e1', e2']; exact q2 _ (Nat.le_refl _) (by omega) t ht q hq) g2
      refine ⟨(nI (24 - (i + 1)) + (-1 : Int32), S2), ⟨rfl, ?_, ?_⟩, ?_⟩
      · intro h h1 h2 s hs q hq
        dsimp only
        by_cases e : h = 23 - i
        · subst e; exact k2 s hs q hq
        · rw [k3 _ (by omega), g1]; exact q2 h (by omega) h2 s hs q hq
      · intro h h1 h2 s hs d hd
        dsimp only
        rw [k1]
        by_cases e : h = 23 - i
        · subst e; exact g2 s hs d hd
        · rw [g3 _ (by omega)]; exact q3 h (by omega) h2 s hs d hd
      · intro K
        simp only [f_Planner_leastCost_L7]
        rw [q1, eh, if_neg (by rw [dnm_lt _ (by omega) _ hh]; omega), ex, f1, bd_s, f2, bd_s, nm_s, show 24 - (i + 1) = 23 - i by omega]
    · rintro ⟨x, S⟩ ⟨q1', q2, q3⟩
      have q1 : x = nI (24 - (24 - vn w 10 0)) + (-1 : Int32) := q1'
      have e24 : 24 - (24 - vn w 10 0) = vn w 10 0 := by omega
      rw [e24] at q1 q2 q3
      have q2' : S 1 ((vn w 10 0 * 2 + vn w 9 0) * 64) = nI (cF (dN w (24 - vn w 10 0) 0 (vn w 9 0))) := q2 _ (Nat.le_refl _) (by omega) _ hs 0 (Nat.zero_le _)
      refine ⟨some ((if dN w (24 - vn w 10 0) 0 (vn w 9 0) < 9999 then nI (dN w (24 - vn w 10 0) 0 (vn w 9 0)) else (-1 : Int32)), S), ⟨S, rfl, q2, q3⟩, ?_⟩
      intro K
      simp only [f_Planner_leastCost_L7]
      rw [q1, eh, es, if_pos (by rw [dnm_lt _ (by omega) _ hh]; omega), costAt_C, bd_s, okI_nI (by omega) (by omega), nI_clamp (by omega), gd_t, nm_s, q2']
      unfold cF
      by_cases c : dN w (24 - vn w 10 0) 0 (vn w 9 0) < 9999
      · rw [if_pos c, if_pos c, if_neg (by rw [show (1000000 : Int32) = nI 1000000 from rfl]; exact nI_ge (by omega) (by decide))]
      · rw [if_neg c, if_neg c, if_pos (show (1000000 : Int32) ≤ nI 1000000 by decide)]
    · intro h h1 h2 s hs q hq
      have h1 : 24 - 0 ≤ h := h1
      have : h = 24 := by omega
      subst this
      exact hE s hs q hq
    · intro h h1 h2
      have h1 : 24 - 0 ≤ h := h1
      omega
  obtain ⟨r, ⟨tP, rfl, h⟩, e⟩ := main
  exact ⟨tP, e, h⟩
