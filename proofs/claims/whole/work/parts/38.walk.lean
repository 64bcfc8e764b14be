/-! ===== the walk, and the call least ===== -/
theorem vN_ex {w : PW} {V : Nat → Nat → Nat} {h q s : Nat} : ∀ n, vN w V h q s n = V q s ∨ ∃ k, k < 2 * n ∧ cdN w V h q s (k / 2) (k % 2) = vN w V h q s n
  | 0 => Or.inl rfl
  | n + 1 => by
    have e : vN w V h q s (n + 1) = Nat.min (Nat.min (vN w V h q s n) (cdN w V h q s n 0)) (cdN w V h q s n 1) := rfl
    have hc : vN w V h q s (n + 1) = vN w V h q s n ∨ vN w V h q s (n + 1) = cdN w V h q s n 0 ∨ vN w V h q s (n + 1) = cdN w V h q s n 1 := by
      rw [e]
      generalize vN w V h q s n = a
      generalize cdN w V h q s n 0 = b
      generalize cdN w V h q s n 1 = c
      simp only [Nat.min_def, Nat.min]
      repeat' split
      all_goals omega
    rcases hc with hc | hc | hc
    · rcases vN_ex (w := w) (V := V) (h := h) (q := q) (s := s) n with h1 | ⟨k, h1, h2⟩
      · exact Or.inl (hc.trans h1)
      · exact Or.inr ⟨k, by omega, h2.trans hc.symm⟩
    · exact Or.inr ⟨2 * n, by omega, by rw [show 2 * n / 2 = n by omega, show 2 * n % 2 = 0 by omega]; exact hc.symm⟩
    · exact Or.inr ⟨2 * n + 1, by omega, by rw [show (2 * n + 1) / 2 = n by omega, show (2 * n + 1) % 2 = 1 by omega]; exact hc.symm⟩
theorem first_ex {p : Nat → Prop} : ∀ n, (∃ k, k < n ∧ p k) → ∃ k, k < n ∧ p k ∧ ∀ j, j < k → ¬ p j
  | 0, ⟨k, h, _⟩ => absurd h (Nat.not_lt_zero k)
  | n + 1, ⟨k, h, hp⟩ => by
    by_cases c : ∃ k, k < n ∧ p k
    · obtain ⟨j, h1, h2⟩ := first_ex n c
      exact ⟨j, by omega, h2⟩
    · have : k = n := by
        by_cases e : k = n
        · exact e
        · exact absurd ⟨k, by omega, hp⟩ c
      subst this
      exact ⟨k, h, hp, fun j hj hq => c ⟨j, hj, hq⟩⟩
theorem toll_to {w : PW} (ho : Ok w) {s t : Nat} (hs : s < 2) (ht : t < 2) : f_House_tollTo w (nI s) (nI t) = some (nI (tlN w s t)) := by
  obtain ⟨htl, etl⟩ := okV ho.toll
  unfold f_House_tollTo tlN
  by_cases e : t = s
  · subst e; rw [if_pos rfl, if_pos rfl]; rfl
  · rw [if_neg (fun z => e (nI_inj (by omega) (by omega) z).symm), if_neg e, etl]
theorem cF_eq {x v : Nat} (hv : v < 9999) : cF x = v ↔ x = v := by
  unfold cF
  split <;> omega
theorem cd_key {w : PW} (ho : Ok w) {V : Nat → Nat → Nat} {r h q s d t v : Nat} (hV : Vok V r) (hv : v < 9999) (hb : q.testBit d = false) : pcN w h t d + tlN w s t + cF (V (q ||| 2 ^ d) t) = v ↔ cdN w V h q s d t = v := by
  have h3 := hV (q ||| 2 ^ d) t
  unfold pcN cdN opn cF
  rw [hb]
  generalize V (q ||| 2 ^ d) t = a at h3
  generalize tlN w s t = b
  generalize dueN w d t h = c
  cases letB w d t h
  · simp only [Bool.not_false, Bool.and_false, Bool.false_eq_true, ↓reduceIte]
    split <;> omega
  · simp only [Bool.not_false, Bool.and_true, ↓reduceIte]
    split <;> omega
theorem firstS_C {w sP : PW} (ho : Ok w) {h0 h q s v k0 : Nat} (hC : TabC w sP h0) (h0h : h0 ≤ h) (hh : h < 24) (hq : q ≤ allN w) (hs : s < 2) (ev : dN w (24 - h) q s = v) (hv : v < 9999) (hn : dN w (23 - h) q s ≠ v) (hk : k0 < 2 * vn w 12 0) (e0 : cdN w (dN w (23 - h)) h q s (k0 / 2) (k0 % 2) = v) (hf : ∀ k, k < k0 → cdN w (dN w (23 - h)) h q s (k / 2) (k % 2) ≠ v) : f_Planner_firstStep sP w (nI h) (nI s) (nI q) = some (nI k0) := by
  have hm := ho.m6
  obtain ⟨-, em⟩ := okV ho.many
  have hA := allN_lt ho
  have hV := dN_ok ho (23 - h) (by omega)
  unfold f_Planner_firstStep
  rw [costAt_C, bd_s, show nI h + (1 : Int32) = nI (h + 1) from nI_add h 1, costAt_C]
  simp only [bd_s, nm_s]
  rw [nI_add, nI_add, okI_nI (by omega) (by omega), okI_nI (by omega) (by omega), nI_clamp (by omega), nI_clamp (by omega), hC.1 h h0h (by omega) s hs q hq, hC.1 (h + 1) (by omega) (by omega) s hs q hq, gd_t, gd_t, ev, show cF v = v by rw [cF_eq hv], show 24 - (h + 1) = 23 - h by omega]
  have hc1 := cF_le (dN w (23 - h) q s)
  rw [if_neg (fun z => hn ((cF_eq hv).mp (nI_inj (by omega) (by omega) z)))]
  have body : ∀ k, k < 2 * vn w 12 0 → ∀ K, f_Planner_firstStep_L38 (nI h) (nI s) (nI q) sP w (nI v) K (nI k) = if cdN w (dN w (23 - h)) h q s (k / 2) (k % 2) = v then some (nI k) else K (nI (k + 1)) := by
    intro k hk K
    have hd : k / 2 < vn w 12 0 := by omega
    have ht : k % 2 < 2 := by omega
    have ho2 := allN_or hq hd
    simp only [f_Planner_firstStep_L38]
    rw [em, show (2 : Int32) = nI 2 from rfl, nI_mul, if_neg (nI_ge hk (by omega)), nI_rem (by omega) (by decide), nI_div (by omega) (by decide), show nI h + (1 : Int32) = nI (h + 1) from nI_add h 1]
    simp only [nm_s]
    rw [costAt_C, bd_s, priceAt_C, bd_s, or_bit q (by omega) _ (by omega), nI_add, nI_add, okI_nI (by omega) (by omega), okI_nI (by omega) (by omega), nI_clamp (by omega), nI_clamp (by omega), toll_to ho hs ht, bd_s, hC.1 (h + 1) (by omega) (by omega) _ ht _ ho2, hC.2 h h0h hh _ ht _ hd, tst_bit q (by omega) _ (by omega), show 24 - (h + 1) = 23 - h by omega, nI_add, nI_add, show nI k + (1 : Int32) = nI (k + 1) from nI_add k 1]
    simp only [gd_t]
    have hp := pcN_le ho (h := h) hd ht
    have htl := tlN_le ho (s := s) (t := k % 2)
    have hc := cF_le (dN w (23 - h) (q ||| 2 ^ (k / 2)) (k % 2))
    cases hb : q.testBit (k / 2)
    · rw [if_b2f]
      have key := cd_key ho (h := h) (s := s) (t := k % 2) hV hv hb
      by_cases c : cdN w (dN w (23 - h)) h q s (k / 2) (k % 2) = v
      · rw [if_pos c, if_pos (by rw [key.mpr c])]
      · rw [if_neg c, if_neg (fun z => c (key.mp (nI_inj (by omega) (by omega) z)))]
    · rw [if_b2t, if_neg]
      unfold cdN opn
      rw [hb]
      simp only [Bool.not_true, Bool.false_and, Bool.false_eq_true, ↓reduceIte]
      omega
  refine loop_seq (fun k => nI k) k0 4000 (by omega) ?_ ?_
  · intro k hk' K
    rw [body k (by omega), if_neg (hf k hk')]
  · intro K
    rw [body k0 hk, if_pos e0]
theorem none_C {w sP : PW} (ho : Ok w) {h0 h q s v : Nat} (hC : TabC w sP h0) (h0h : h0 ≤ h) (hh : h < 24) (hq : q ≤ allN w) (hs : s < 2) (ev : dN w (24 - h) q s = v) (hn : dN w (23 - h) q s = v) : f_Planner_firstStep sP w (nI h) (nI s) (nI q) = some (-1) := by
  have hA := allN_lt ho
  unfold f_Planner_firstStep
  rw [costAt_C, bd_s, show nI h + (1 : Int32) = nI (h + 1) from nI_add h 1, costAt_C]
  simp only [bd_s, nm_s]
  rw [nI_add, nI_add, okI_nI (by omega) (by omega), okI_nI (by omega) (by omega), nI_clamp (by omega), nI_clamp (by omega), hC.1 h h0h (by omega) s hs q hq, hC.1 (h + 1) (by omega) (by omega) s hs q hq, gd_t, gd_t, ev, show 24 - (h + 1) = 23 - h by omega, hn, if_pos rfl]
theorem firstS_M {w sM : PW} {sN : PL} {ah : Nat → Int32} {um : Int32} (ho : Ok w) (hr : HR w (sM 0) ah um) {h0 h q s v k0 : Nat} (hM : TabM w sM h0) (h0h : h0 ≤ h) (hh : h < 24) (hq : q ≤ allN w) (hs : s < 2) (hv : v < 9999) (hk : k0 < 2 * vn w 12 0) (e0 : cdN w (dN w (23 - h)) h q s (k0 / 2) (k0 % 2) = v) (hf : ∀ k, k < k0 → cdN w (dN w (23 - h)) h q s (k / 2) (k % 2) ≠ v) (K76 : Int32 × Int32 × Int32 → Option (Int32 × PW × PL)) : loopF (f_Model_least_L112 sM sN (nI q) (nI s) (nI h) K76 (nI v)) 4000 (0 : Int32) = K76 (nI (q ||| 2 ^ (k0 / 2)), nI (k0 % 2), nI (h + 1)) := by
  have hm := ho.m6
  have hA := allN_lt ho
  have hV := dN_ok ho (23 - h) (by omega)
  have body : ∀ k, k < 2 * vn w 12 0 → ∀ K, f_Model_least_L112 sM sN (nI q) (nI s) (nI h) K76 (nI v) K (nI k) = if cdN w (dN w (23 - h)) h q s (k / 2) (k % 2) = v then K76 (nI (q ||| 2 ^ (k / 2)), nI (k % 2), nI (h + 1)) else K (nI (k + 1)) := by
    intro k hk K
    have hd : k / 2 < vn w 12 0 := by omega
    have ht : k % 2 < 2 := by omega
    have hcd := cd_lt ho (h := h) (q := q) (s := s) (show 23 - h ≤ 24 by omega) hV hd ht
    simp only [f_Model_least_L112]
    rw [show (2 : Int32) = nI 2 from rfl, nI_rem (by omega) (by decide), nI_div (by omega) (by decide), show nI h + (1 : Int32) = nI (h + 1) from nI_add h 1]
    simp only [nm_s]
    rw [costBy_M (V := dN w (23 - h)) ho hr hh hq hs hd ht (fun p hp => by rw [hM (h + 1) (by omega) (by omega) _ ht p hp, show 24 - (h + 1) = 23 - h by omega]), bd_s, or_bit q (by omega) _ (by omega), show nI k + (1 : Int32) = nI (k + 1) from nI_add k 1]
    by_cases c : cdN w (dN w (23 - h)) h q s (k / 2) (k % 2) = v
    · rw [if_pos c, if_pos (by rw [c])]
    · rw [if_neg c, if_neg (fun z => c (nI_inj (by omega) (by omega) z))]
  refine loop_seq (fun k => nI k) k0 4000 (by omega) ?_ ?_
  · intro k hk' K
    rw [body k (by omega), if_neg (hf k hk')]
  · intro K
    rw [body k0 hk, if_pos e0]
theorem walk {w sP sM : PW} {sN : PL} {ah : Nat → Int32} {um : Int32} (ho : Ok w) (hr : HR w (sM 0) ah um) {h0 i : Nat} (hC : TabC w sP h0) (hM : TabM w sM h0) (hi : i < vn w 12 0) : ∀ r h q s, h + r = 24 → h0 ≤ h → q ≤ allN w → s < 2 → q.testBit i = false → dN w r q s < 9999 → ∃ x, (∀ fuel, r < fuel → loopF (f_Planner_placeOf_L19 (nI i) sP w) fuel (nI s, nI q, nI h) = some x) ∧ ∀ fuel, r + 1 < fuel → loopF (f_Model_least_L76 (nI i) sM sN) fuel (nI q, nI s, nI h) = some (x, sM, sN) := by
  have hm := ho.m6
  have hA := allN_lt ho
  intro r
  induction r with
  | zero =>
    intro h q s _ _ _ _ hb hv
    exfalso
    have hv : (if q = allN w then 0 else 9999) < 9999 := hv
    have : q = allN w := by
      by_cases e : q = allN w
      · exact e
      · rw [if_neg e] at hv; omega
    rw [this] at hb
    unfold allN at hb
    rw [Nat.testBit_two_pow_sub_one, decide_eq_true hi] at hb
    exact absurd hb (by decide)
  | succ r ih =>
    intro h q s hhr h0h hq hs hb hv
    have e24 : 24 - h = r + 1 := by omega
    have e23 : 23 - h = r := by omega
    have hhr' : 23 - r = h := by omega
    have mstep : ∀ K, f_Model_least_L76 (nI i) sM sN K (nI q, nI s, nI h) = if nI (dN w r q s) = nI (dN w (r + 1) q s) then K (nI q, nI s, nI (h + 1)) else loopF (f_Model_least_L112 sM sN (nI q) (nI s) (nI h) K (nI (dN w (r + 1) q s))) 4000 (0 : Int32) := by
      intro K
      simp only [f_Model_least_L76]
      rw [hasb_M (by omega) (by omega), bd_s, hb, if_b2f, show nI h + (1 : Int32) = nI (h + 1) from nI_add h 1, left_M (by omega) (by omega) hs, left_M (by omega) (by omega) hs, bd_s, bd_s, hM h h0h (by omega) s hs q hq, hM (h + 1) (by omega) (by omega) s hs q hq, nm_s, e24, show 24 - (h + 1) = r by omega]
    have cstep : ∀ K y, f_Planner_firstStep sP w (nI h) (nI s) (nI q) = some y → f_Planner_placeOf_L19 (nI i) sP w K (nI s, nI q, nI h) = (if y = (-1 : Int32) then K (nI s, nI q, nI (h + 1)) else (if y / (2 : Int32) = nI i then some (((10 : Int32) * nI h) + (y - y / (2 : Int32) * (2 : Int32))) else K (y - y / (2 : Int32) * (2 : Int32), nI q ||| ((1 : Int32) <<< ((y / (2 : Int32)) &&& 31)), nI (h + 1)))) := by
      intro K y ey
      simp only [f_Planner_placeOf_L19]
      rw [if_neg (by rw [show (24 : Int32) = nI 24 from rfl]; exact nI_ge (by omega) (by decide)), ey, bd_s, show nI h + (1 : Int32) = nI (h + 1) from nI_add h 1]
      simp only [nm_s]
    by_cases c : dN w r q s = dN w (r + 1) q s
    · obtain ⟨x, hx1, hx2⟩ := ih (h + 1) q s (by omega) (by omega) hq hs hb (by rw [c]; exact hv)
      refine ⟨x, ?_, ?_⟩
      · intro fuel hf
        obtain ⟨f, rfl⟩ : ∃ f, fuel = f + 1 := ⟨fuel - 1, by omega⟩
        show f_Planner_placeOf_L19 (nI i) sP w (loopF (f_Planner_placeOf_L19 (nI i) sP w) f) (nI s, nI q, nI h) = some x
        rw [cstep _ (-1) (none_C ho hC h0h (by omega) hq hs (v := dN w (r + 1) q s) (by rw [e24]) (by rw [e23, c])), if_pos rfl]
        exact hx1 f (by omega)
      · intro fuel hf
        obtain ⟨f, rfl⟩ : ∃ f, fuel = f + 1 := ⟨fuel - 1, by omega⟩
        show f_Model_least_L76 (nI i) sM sN (loopF (f_Model_least_L76 (nI i) sM sN) f) (nI q, nI s, nI h) = _
        rw [mstep, if_pos (by rw [c])]
        exact hx2 f (by omega)
    · have hvv : dN w (r + 1) q s = vN w (dN w r) h q s (vn w 12 0) := by
        show vN w (dN w r) (23 - r) q s (vn w 12 0) = _
        rw [hhr']
      have hex : ∃ k, k < 2 * vn w 12 0 ∧ cdN w (dN w r) h q s (k / 2) (k % 2) = dN w (r + 1) q s := by
        rcases vN_ex (w := w) (V := dN w r) (h := h) (q := q) (s := s) (vn w 12 0) with h1 | ⟨k, h1, h2⟩
        · exact absurd (h1.symm.trans hvv.symm) c
        · exact ⟨k, h1, h2.trans hvv.symm⟩
      obtain ⟨k0, hk, e0, hf⟩ := first_ex _ hex
      have ht : k0 % 2 < 2 := by omega
      have hd : k0 / 2 < vn w 12 0 := by omega
      have ho2 := allN_or hq hd
      have fC := firstS_C ho hC h0h (show h < 24 by omega) hq hs (by rw [e24]) hv (by rw [e23]; exact c) hk (by rw [e23]; exact e0) (by rw [e23]; exact hf)
      have fM := fun K => firstS_M (sN := sN) ho hr hM h0h (show h < 24 by omega) hq hs hv hk (by rw [e23]; exact e0) (by rw [e23]; exact hf) K
      have hne : ¬ nI (dN w r q s) = nI (dN w (r + 1) q s) := by
        intro z
        have hV := (dN_ok ho r (by omega) q s).1
        exact c (nI_inj (by omega) (by omega) z)
      have hy : ¬ nI k0 = (-1 : Int32) := by
        intro z
        have : ∀ k, k < 12 → ¬ nI k = (-1 : Int32) := by decide
        exact this k0 (by omega) z
      have cst := fun K => cstep K (nI k0) fC
      rw [show (2 : Int32) = nI 2 from rfl] at cst
      have er : nI k0 - nI (k0 / 2) * nI 2 = nI (k0 % 2) := by rw [← nI_div (by omega) (by decide)]; exact nI_rem (by omega) (by decide)
      simp only [er, nI_div (show k0 < 2 ^ 31 by omega) (show 2 < 2 ^ 31 by decide), if_neg hy, or_bit q (show q < 64 by omega) _ (show k0 / 2 < 6 by omega)] at cst
      by_cases e : k0 / 2 = i
      · refine ⟨(10 : Int32) * nI h + nI (k0 % 2), ?_, ?_⟩
        · intro fuel hf
          obtain ⟨f, rfl⟩ : ∃ f, fuel = f + 1 := ⟨fuel - 1, by omega⟩
          show f_Planner_placeOf_L19 (nI i) sP w (loopF (f_Planner_placeOf_L19 (nI i) sP w) f) (nI s, nI q, nI h) = _
          rw [cst, if_pos (by rw [e])]
        · intro fuel hf
          obtain ⟨f, rfl⟩ : ∃ f, fuel = f + 1 + 1 := ⟨fuel - 2, by omega⟩
          show f_Model_least_L76 (nI i) sM sN (loopF (f_Model_least_L76 (nI i) sM sN) (f + 1)) (nI q, nI s, nI h) = _
          rw [mstep, if_neg hne, fM]
          show f_Model_least_L76 (nI i) sM sN (loopF (f_Model_least_L76 (nI i) sM sN) f) (nI (q ||| 2 ^ (k0 / 2)), nI (k0 % 2), nI (h + 1)) = _
          simp only [f_Model_least_L76]
          rw [hasb_M (by omega) (by omega), bd_s, show (q ||| 2 ^ (k0 / 2)).testBit i = true by rw [Nat.testBit_or, Nat.testBit_two_pow, decide_eq_true e, Bool.or_true], if_b2t, show (1 : Int32) = nI 1 from rfl, nI_sub (by omega) (by omega), show h + 1 - 1 = h by omega]
      · have hb2 : (q ||| 2 ^ (k0 / 2)).testBit i = false := by rw [Nat.testBit_or, Nat.testBit_two_pow, decide_eq_false e, hb, Bool.or_false]
        have hv2 : dN w r (q ||| 2 ^ (k0 / 2)) (k0 % 2) < 9999 := by
          unfold cdN at e0
          split at e0 <;> omega
        obtain ⟨x, hx1, hx2⟩ := ih (h + 1) (q ||| 2 ^ (k0 / 2)) (k0 % 2) (by omega) (by omega) ho2 ht hb2 hv2
        refine ⟨x, ?_, ?_⟩
        · intro fuel hf
          obtain ⟨f, rfl⟩ : ∃ f, fuel = f + 1 := ⟨fuel - 1, by omega⟩
          show f_Planner_placeOf_L19 (nI i) sP w (loopF (f_Planner_placeOf_L19 (nI i) sP w) f) (nI s, nI q, nI h) = some x
          rw [cst, if_neg (fun z => e (nI_inj (by omega) (by omega) z))]
          exact hx1 f (by omega)
        · intro fuel hf
          obtain ⟨f, rfl⟩ : ∃ f, fuel = f + 1 := ⟨fuel - 1, by omega⟩
          show f_Model_least_L76 (nI i) sM sN (loopF (f_Model_least_L76 (nI i) sM sN) f) (nI q, nI s, nI h) = _
          rw [mstep, if_neg hne, fM]
          exact hx2 f (by omega)
theorem op_least : Op_least Rel0 := by
  intro i0 i1 sF sR sH sM sN hR a1
  have hR' := hR
  obtain ⟨h1, h2, -⟩ := hR'
  obtain ⟨hh, eh⟩ := okV h1.hour
  obtain ⟨hs, es⟩ := okV h1.side
  have m6 := h1.m6
  obtain ⟨tM, fM, hk, hTM⟩ := find_M (sN := sN) h1 h2
  have hR2 : Rel0 i0 i1 sF sR sH tM sN := rel_days hR (fun k _ => by rw [hk 0 (by decide)]) (fun k _ h15 _ => hk k h15) rfl rfl
  have hr2 : HR sH (tM 0) (tM 13) (tM 14 0) := hR2.2.1
  have eL : f_Model_leftAt tM sN (nI (vn sH 10 0)) (0 : Int32) (nI (vn sH 9 0)) = some (nI (dN sH (24 - vn sH 10 0) 0 (vn sH 9 0))) := by
    rw [show (0 : Int32) = nI 0 from rfl, left_M (by omega) (by decide) hs, hTM _ (Nat.le_refl _) (by omega) _ hs 0 (Nat.zero_le _)]
  have hdv := (dN_ok h1 (24 - vn sH 10 0) (by omega) 0 (vn sH 9 0)).1
  have core : (a1 = -1 ∨ okI a1 (vn sH 12 0) = true) → ∃ rr, f_Model_least_J21 a1 sM sN = some (rr, tM, sN) ∧ ∀ sP : PW, ∃ tP : PW, f_Face_least_p_J20 a1 sF sP sH = some (rr, sF, tP) ∧ (sP = pz → f_Face_least_a_J20 a1 sH = some (rr, tP)) := by
    intro hca
    unfold f_Model_least_J21
    rw [fM, bd2_s, hr2.hour, hr2.side, eh, es, eL, bd_s]
    by_cases c : dN sH (24 - vn sH 10 0) 0 (vn sH 9 0) < 9999
    · rw [if_pos (by rw [show (9999 : Int32) = nI 9999 from rfl]; exact nI_lt c (by decide))]
      have hne : ¬ nI (dN sH (24 - vn sH 10 0) 0 (vn sH 9 0)) = (-1 : Int32) := by
        intro z
        have := congrArg Int32.toInt z
        rw [nI_toInt (by omega), show (-1 : Int32).toInt = -1 from rfl] at this
        omega
      by_cases e : a1 = -1
      · subst e
        rw [if_neg (by decide)]
        refine ⟨_, rfl, ?_⟩
        intro sP
        obtain ⟨tP, fP, hTC⟩ := plan_C h1 sP
        rw [if_pos c] at fP
        refine ⟨tP, ?_, ?_⟩
        · unfold f_Face_least_p_J20
          rw [fP, bd2_s, if_neg hne, if_pos rfl]
        · intro ez
          subst ez
          unfold f_Face_least_a_J20
          rw [fP, bd2_s, if_neg hne, if_pos rfl]
      · have hdo : okI a1 (vn sH 12 0) = true := hca.resolve_left e
        obtain ⟨i, hi, hi2, ei⟩ := okI_nat hdo
        subst ei
        rw [if_pos (nI_pos' hi2), nm_s, nm_s]
        have wk := fun (tP : PW) (hTC : TabC sH tP (vn sH 10 0)) => walk (sN := sN) h1 hr2 hTC hTM hi (24 - vn sH 10 0) (vn sH 10 0) 0 (vn sH 9 0) (by omega) (Nat.le_refl _) (Nat.zero_le _) hs (Nat.zero_testBit i) c
        obtain ⟨tP0, -, hTC0⟩ := plan_C h1 pz
        obtain ⟨x, -, hxM⟩ := wk tP0 hTC0
        have hxM' := hxM 4000 (by omega)
        refine ⟨x, hxM', ?_⟩
        intro sP
        obtain ⟨tP, fP, hTC⟩ := plan_C h1 sP
        rw [if_pos c] at fP
        obtain ⟨x', hxC, hxM2⟩ := wk tP hTC
        have ex : x' = x := by
          have := (hxM2 4000 (by omega)).symm.trans hxM'
          exact congrArg Prod.fst (Option.some.inj this)
        subst ex
        have eP : f_Planner_placeOf tP sH (nI i) = some x' := by
          unfold f_Planner_placeOf
          rw [nm_s, nm_s, eh, es]
          exact hxC 4000 (by omega)
        refine ⟨tP, ?_, ?_⟩
        · unfold f_Face_least_p_J20
          rw [fP, bd2_s, if_neg hne, if_neg e, eP, bd_s]
        · intro ez
          subst ez
          unfold f_Face_least_a_J20
          rw [fP, bd2_s, if_neg hne, if_neg e, eP, bd_s]
    · rw [if_neg (by rw [show (9999 : Int32) = nI 9999 from rfl]; exact nI_nlt (by omega) (by omega))]
      refine ⟨_, rfl, ?_⟩
      intro sP
      obtain ⟨tP, fP, hTC⟩ := plan_C h1 sP
      rw [if_neg c] at fP
      refine ⟨tP, ?_, ?_⟩
      · unfold f_Face_least_p_J20
        rw [fP, bd2_s, if_pos rfl]
      · intro ez
        subst ez
        unfold f_Face_least_a_J20
        rw [fP, bd2_s, if_pos rfl]
  unfold f_Model_least f_Face_least_p f_Face_least_r f_Face_least_a
  by_cases e : a1 = -1
  · obtain ⟨rr, eM, hP⟩ := core (Or.inl e)
    rw [if_pos e, eM]
    refine ⟨rr, tM, sN, rfl, ?_, Or.inr ?_⟩
    · intro sP
      obtain ⟨tP, f1, -⟩ := hP sP
      rw [if_pos e, f1]
      exact ⟨sF, tP, rfl, hR2⟩
    · obtain ⟨tP, -, f2⟩ := hP pz
      rw [if_pos e, f2 rfl]
      exact ⟨tP, rfl, hR2⟩
  · rw [if_neg e, if_neg e, if_neg e, doing_C h1, doing_M h1 h2, bd_s, bd_s, bd_s]
    by_cases hdo : okI a1 (vn sH 12 0) = true
    · obtain ⟨rr, eM, hP⟩ := core (Or.inr hdo)
      rw [if_pos hdo, if_10, if_10, eM]
      refine ⟨rr, tM, sN, rfl, ?_, Or.inr ?_⟩
      · intro sP
        obtain ⟨tP, f1, -⟩ := hP sP
        rw [if_neg e, bd_s, if_10, f1]
        exact ⟨sF, tP, rfl, hR2⟩
      · obtain ⟨tP, -, f2⟩ := hP pz
        rw [if_10, f2 rfl]
        exact ⟨tP, rfl, hR2⟩
    · rw [if_neg hdo, if_00, if_00]
      refine ⟨_, _, _, rfl, ?_, Or.inl ?_⟩
      · intro sP
        rw [if_neg e, bd_s, if_00]
        exact ⟨_, _, rfl, rel_bad hR⟩
      · exact ⟨_, rfl, rel_bad hR⟩
