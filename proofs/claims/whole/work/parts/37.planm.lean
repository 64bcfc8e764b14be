/-! ===== the model's table, and the walk through both ===== -/
theorem left_M {sM : PW} {sN : PL} {h q s : Nat} (hh : h ≤ 24) (hq : q < 64) (hs : s < 2) : f_Model_leftAt sM sN (nI h) (nI q) (nI s) = some (sM 15 (128 * h + 2 * q + s)) := by
  unfold f_Model_leftAt
  rw [show (128 : Int32) = nI 128 from rfl, show (2 : Int32) = nI 2 from rfl, nI_mul, nI_mul, nI_add, nI_add, okI_nI (by omega) (by omega), nI_clamp (by omega), gd_t]
theorem hasb_M {q i : Nat} (hq : q < 64) (hi : i < 6) : f_Model_has (nI q) (nI i) = some (b2 (q.testBit i)) := by
  unfold f_Model_has
  rw [tst_bit q hq i hi]
  cases q.testBit i <;> rfl
theorem costBy_M {w sM : PW} {sN : PL} {ah : Nat → Int32} {um : Int32} (ho : Ok w) (hr : HR w (sM 0) ah um) {V : Nat → Nat → Nat} {h q s d t : Nat} (hh : h < 24) (hq : q ≤ allN w) (hs : s < 2) (hd : d < vn w 12 0) (ht : t < 2) (hT : ∀ p, p ≤ allN w → sM 15 (128 * (h + 1) + 2 * p + t) = nI (V p t)) : f_Model_costBy sM sN (nI h) (nI q) (nI s) (nI d) (nI t) = some (nI (cdN w V h q s d t)) := by
  have hm := ho.m6
  have hA := allN_lt ho
  have ho2 := allN_or hq hd
  obtain ⟨htl, etl⟩ := okV ho.toll
  unfold f_Model_costBy f_Model_costBy_J50 cdN opn
  rw [hasb_M (by omega) (by omega), bd_s, let_M ho hr hd ht hh, bd_s, due_M ho hr hd ht hh, bd_s, or_bit q (by omega) d (by omega), show nI h + (1 : Int32) = nI (h + 1) from nI_add h 1, left_M (by omega) (by omega) ht, hT _ ho2]
  simp only [bd_s]
  cases q.testBit d
  · cases letB w d t h
    · rfl
    · rw [if_b2f, if_b2t, if_pos (show (!false && true) = true from rfl)]
      unfold tlN
      by_cases e : t = s
      · subst e
        rw [if_pos rfl, if_pos rfl, show (0 : Int32) = nI 0 from rfl, nI_add, nI_add]
      · rw [if_neg (fun z => e (nI_inj (by omega) (by omega) z)), if_neg e, hr.toll, etl, nI_add, nI_add]
  · rfl
theorem cd_lt {w : PW} (ho : Ok w) {V : Nat → Nat → Nat} {r h q s d t : Nat} (hr : r ≤ 24) (hV : Vok V r) (hd : d < vn w 12 0) (ht : t < 2) : cdN w V h q s d t < 2 ^ 31 := by
  have h1 := dueN_le ho (h := h) hd ht
  have h2 := tlN_le ho (s := s) (t := t)
  have h3 := hV (q ||| 2 ^ d) t
  unfold cdN
  split <;> omega
theorem min_nI {a b : Nat} (ha : a < 2 ^ 31) (hb : b < 2 ^ 31) {ρ : Type} (k : Int32 → ρ) : (if nI a ≤ nI b then k (nI a) else k (nI b)) = k (nI (Nat.min a b)) := by
  show _ = k (nI (if a ≤ b then a else b))
  by_cases e : a ≤ b
  · rw [if_pos e, if_pos (nI_le e hb)]
  · rw [if_neg e, if_neg (nI_ge (by omega) ha)]
theorem L101_M {w sM : PW} {sN : PL} {ah : Nat → Int32} {um : Int32} (ho : Ok w) (hr : HR w (sM 0) ah um) {V : Nat → Nat → Nat} {r h q s d v : Nat} {x6 : Int32} (hr24 : r ≤ 24) (hV : Vok V r) (hh : h < 24) (hq : q ≤ allN w) (hs : s < 2) (ex : x6 &&& (1 : Int32) = nI s) (hd : d < vn w 12 0) (hv : v < 2 ^ 31) (hT : ∀ t, t < 2 → ∀ p, p ≤ allN w → sM 15 (128 * (h + 1) + 2 * p + t) = nI (V p t)) (K80 : Int32 × Int32 → Option (PW × PL)) : loopF (f_Model_findLeast_L101 (nI h) x6 sM sN (nI q) (nI d) K80) 4000 (nI v, (0 : Int32)) = K80 (nI (Nat.min (Nat.min v (cdN w V h q s d 0)) (cdN w V h q s d 1)), nI (d + 1)) := by
  have b0 := cd_lt ho (h := h) (q := q) (s := s) hr24 hV hd (show 0 < 2 by decide)
  have b1 := cd_lt ho (h := h) (q := q) (s := s) hr24 hV hd (show 1 < 2 by decide)
  have m0 : Nat.min v (cdN w V h q s d 0) < 2 ^ 31 := Nat.lt_of_le_of_lt (Nat.min_le_left _ _) hv
  refine loop_seq (fun i => match i with
    | 0 => (nI v, nI 0)
    | 1 => (nI (Nat.min v (cdN w V h q s d 0)), nI 1)
    | _ => (nI (Nat.min (Nat.min v (cdN w V h q s d 0)) (cdN w V h q s d 1)), nI 2)) 2 4000 (by decide) ?_ ?_
  · intro i hi K
    rcases (show i = 0 ∨ i = 1 by omega) with rfl | rfl
    · simp only [f_Model_findLeast_L101]
      rw [if_neg (by decide), ex, costBy_M ho hr hh hq hs hd (show 0 < 2 by decide) (hT 0 (by decide)), bd_s, nm_s, nm_s]
      exact min_nI hv b0 (fun y => K (y, nI 1))
    · simp only [f_Model_findLeast_L101]
      rw [if_neg (by decide), ex, costBy_M ho hr hh hq hs hd (show 1 < 2 by decide) (hT 1 (by decide)), bd_s, nm_s, nm_s]
      exact min_nI m0 b1 (fun y => K (y, nI 2))
  · intro K
    simp only [f_Model_findLeast_L101]
    rw [if_pos (show (2 : Int32) ≤ nI 2 by decide), nm_s, show nI d + (1 : Int32) = nI (d + 1) from nI_add d 1]
theorem L80_M {w sM : PW} {sN : PL} {ah : Nat → Int32} {um : Int32} (ho : Ok w) (hr : HR w (sM 0) ah um) {V : Nat → Nat → Nat} {r h q s : Nat} {x6 : Int32} (hr24 : r < 24) (hV : Vok V r) (hh : h < 24) (hq : q ≤ allN w) (hs : s < 2) (ex : x6 &&& (1 : Int32) = nI s) (hT : ∀ t, t < 2 → ∀ p, p ≤ allN w → sM 15 (128 * (h + 1) + 2 * p + t) = nI (V p t)) (K27 : Int32 × PW × PL → Option (PW × PL)) : f_Model_findLeast_J75 (nI h) x6 sM sN K27 (nI q) (nI (V q s)) = f_Model_findLeast_J151 (nI h) x6 sM sN K27 (nI (vN w V h q s (vn w 12 0))) := by
  have hm := ho.m6
  obtain ⟨-, em⟩ := okV ho.many
  unfold f_Model_findLeast_J75
  refine loop_seq (fun d => (nI (vN w V h q s d), nI d)) (vn w 12 0) 4000 (by omega) ?_ ?_
  · intro d hd K
    have hv := (vN_ok ho (h := h) (set := q) (s := s) (Nat.le_of_lt hr24) hV d (Nat.le_of_lt hd)).1
    simp only [f_Model_findLeast_L80]
    rw [hr.many, em, if_neg (nI_ge hd (by omega)), if_neg (by rw [show (24 : Int32) = nI 24 from rfl]; exact nI_ge hh (by decide)), L101_M ho hr (Nat.le_of_lt hr24) hV hh hq hs ex hd (by omega) hT]
    rfl
  · intro K
    simp only [f_Model_findLeast_L80]
    rw [hr.many, em, if_pos (nI_le (Nat.le_refl _) (by omega))]
theorem sh_1 : ∀ k, k < 128 → nI k >>> ((1 : Int32) &&& 31) = nI (k / 2) ∧ nI k &&& (1 : Int32) = nI (k % 2) := by decide +kernel
def TabM (w sM : PW) (h0 : Nat) : Prop := ∀ h, h0 ≤ h → h ≤ 24 → ∀ s, s < 2 → ∀ q, q ≤ allN w → sM 15 (128 * h + 2 * q + s) = nI (dN w (24 - h) q s)
theorem find_M {w sM : PW} {sN : PL} (ho : Ok w) (hr : HR w (sM 0) (sM 13) (sM 14 0)) : ∃ tM : PW, f_Model_findLeast sM sN = some (tM, sN) ∧ (∀ k, k ≠ 15 → tM k = sM k) ∧ TabM w tM (vn w 10 0) := by
  obtain ⟨hh, eh⟩ := okV ho.hour
  have hm := ho.m6
  obtain ⟨-, em⟩ := okV ho.many
  have hA := allN_lt ho
  unfold f_Model_findLeast
  rw [hr.many, em, one_sh _ (by omega), nm_s, show nI (2 ^ vn w 12 0 - 1) = nI (allN w) from rfl]
  have main : ∃ r, (∃ tM : PW, r = some (tM, sN) ∧ (∀ k, k ≠ 15 → tM k = sM k) ∧ TabM w tM (vn w 10 0)) ∧ loopF (f_Model_findLeast_L15 (nI (allN w))) 4000 ((24 : Int32), sM, sN) = r := by
    refine loop_inv (fun i (z : Int32 × PW × PL) => z.1 = nI (25 - i) + (-1 : Int32) ∧ z.2.2 = sN ∧ (∀ k, k ≠ 15 → z.2.1 k = sM k) ∧ TabM w z.2.1 (25 - i)) _ (25 - vn w 10 0) ?_ ?_ 4000 _ (by omega) ⟨rfl, rfl, fun _ _ => rfl, ?_⟩
    · rintro i ⟨x, S, N⟩ hi ⟨q1', q2', q3', q4'⟩
      have q1 : x = nI (25 - i) + (-1 : Int32) := q1'
      have q2 : N = sN := q2'
      have q3 : ∀ k, k ≠ 15 → S k = sM k := q3'
      have q4 : TabM w S (25 - i) := q4'
      clear q1' q2' q3' q4'
      have ex : nI (25 - i) + (-1 : Int32) = nI (24 - i) := by
        rw [dnm_eq _ (by omega) (by omega), show 25 - i - 1 = 24 - i by omega]
      have inner : ∃ z : Int32 × PW × PL, (z.1 = nI (25 - (i + 1)) + (-1 : Int32) ∧ z.2.2 = sN ∧ (∀ k, k ≠ 15 → z.2.1 k = sM k) ∧ TabM w z.2.1 (25 - (i + 1))) ∧ ∀ K15 : Int32 × PW × PL → Option (PW × PL), loopF (f_Model_findLeast_L27 (nI (allN w)) (nI (24 - i)) K15) 4000 ((0 : Int32), S, N) = K15 z := by
        refine loop_in (fun j (z : Int32 × PW × PL) => z.1 = nI j ∧ z.2.2 = sN ∧ (∀ k, k ≠ 15 → z.2.1 k = sM k) ∧ TabM w z.2.1 (25 - i) ∧ ∀ j', j' < j → z.2.1 15 (128 * (24 - i) + j') = nI (dN w i (j' / 2) (j' % 2))) _ (2 * allN w + 2) ?_ ?_ 4000 _ (by omega) ⟨rfl, q2, q3, q4, fun j' hj' => absurd hj' (by omega)⟩
        · rintro j ⟨x', S', N'⟩ hj ⟨p1', p2', p3', p4', p5'⟩
          have p1 : x' = nI j := p1'
          have p2 : N' = sN := p2'
          have p3 : ∀ k, k ≠ 15 → S' k = sM k := p3'
          have p4 : TabM w S' (25 - i) := p4'
          have p5 : ∀ j', j' < j → S' 15 (128 * (24 - i) + j') = nI (dN w i (j' / 2) (j' % 2)) := p5'
          clear p1' p2' p3' p4' p5'
          refine ⟨(nI (j + 1), up S' 15 (upd (S' 15) (128 * (24 - i) + j) (nI (dN w i (j / 2) (j % 2)))), N'), ⟨rfl, p2, ?_, ?_, ?_⟩, ?_⟩
          · intro k hk
            dsimp only
            rw [up_ne hk, p3 k hk]
          · intro h h1 h2 s hs q hq
            dsimp only
            rw [up_eq, upd_ne (by omega)]
            exact p4 h h1 h2 s hs q hq
          · intro j' hj'
            dsimp only
            rw [up_eq]
            by_cases e : j' = j
            · subst e; rw [upd_eq]
            · rw [upd_ne (by omega), p5 j' (by omega)]
          · intro K15 K
            have hr' : HR w (S' 0) (S' 13) (S' 14 0) := by rw [p3 0 (by decide), p3 13 (by decide), p3 14 (by decide)]; exact hr
            have eJ : ∀ v : Nat, f_Model_findLeast_J151 (nI (24 - i)) (nI j) S' N' K (nI v) = K (nI (j + 1), up S' 15 (upd (S' 15) (128 * (24 - i) + j) (nI v)), N') := by
              intro v
              unfold f_Model_findLeast_J151
              rw [show (128 : Int32) = nI 128 from rfl, nI_mul, nI_add, okI_nI (by omega) (by omega), nI_clamp (by omega), gd_t, nm_s, nm_s, show nI j + (1 : Int32) = nI (j + 1) from nI_add j 1]
            simp only [f_Model_findLeast_L27]
            rw [p1, show (2 : Int32) = nI 2 from rfl, nI_mul, show nI (2 * allN w) + (1 : Int32) = nI (2 * allN w + 1) from nI_add _ 1, if_neg (nI_nlt (by omega) (by omega)), (sh_1 j (by omega)).1, (sh_1 j (by omega)).2, nm_s]
            by_cases h0 : i = 0
            · subst h0
              have e75 : ∀ v : Nat, f_Model_findLeast_J75 (nI (24 - 0)) (nI j) S' N' K (nI (j / 2)) (nI v) = f_Model_findLeast_J151 (nI (24 - 0)) (nI j) S' N' K (nI v) := by
                intro v
                unfold f_Model_findLeast_J75
                refine loop_seq (fun _ => (nI v, (0 : Int32))) 0 4000 (by decide) (fun i hi => absurd hi (by omega)) ?_
                intro K2
                simp only [f_Model_findLeast_L80]
                rw [if_pos (show (24 : Int32) ≤ nI (24 - 0) by decide), ite_self]
              rw [if_pos (show nI (24 - 0) = (24 : Int32) from rfl), show (0 : Int32) = nI 0 from rfl, show (9999 : Int32) = nI 9999 from rfl, e75, e75, eJ, eJ]
              show _ = K (nI (j + 1), up S' 15 (upd (S' 15) (128 * (24 - 0) + j) (nI (if j / 2 = allN w then 0 else 9999))), N')
              by_cases c : j / 2 = allN w
              · rw [if_pos c, c, if_pos rfl]
              · rw [if_neg c, if_neg (fun z => c (nI_inj (by omega) (by omega) z))]
            · have hV := dN_ok ho (i - 1) (by omega)
              have hT : ∀ t, t < 2 → ∀ p, p ≤ allN w → S' 15 (128 * (24 - i + 1) + 2 * p + t) = nI (dN w (i - 1) p t) := by
                intro t ht p hp
                have := p4 (25 - i) (Nat.le_refl _) (by omega) t ht p hp
                rw [show 24 - i + 1 = 25 - i by omega, this, show 24 - (25 - i) = i - 1 by omega]
              rw [if_neg (by rw [show (24 : Int32) = nI 24 from rfl]; intro z; have := nI_inj (by omega) (by decide) z; omega), show nI (24 - i) + (1 : Int32) = nI (24 - i + 1) from nI_add _ 1, left_M (by omega) (by omega) (by omega), hT _ (by omega) _ (by omega), bd_s]
              rw [L80_M ho hr' (show i - 1 < 24 by omega) hV (by omega) (show j / 2 ≤ allN w by omega) (show j % 2 < 2 by omega) (sh_1 j (by omega)).2 hT, eJ]
              obtain ⟨i', rfl⟩ : ∃ i', i = i' + 1 := ⟨i - 1, by omega⟩
              show _ = K (nI (j + 1), up S' 15 (upd (S' 15) (128 * (24 - (i' + 1)) + j) (nI (vN w (dN w i') (23 - i') (j / 2) (j % 2) (vn w 12 0)))), N')
              rw [show i' + 1 - 1 = i' by omega, show 24 - (i' + 1) = 23 - i' by omega]
        · rintro ⟨x', S', N'⟩ ⟨p1', p2', p3', p4', p5'⟩
          have p1 : x' = nI (2 * allN w + 2) := p1'
          have p4 : TabM w S' (25 - i) := p4'
          have p5 : ∀ j', j' < 2 * allN w + 2 → S' 15 (128 * (24 - i) + j') = nI (dN w i (j' / 2) (j' % 2)) := p5'
          clear p1' p4' p5'
          refine ⟨(nI (24 - i) + (-1 : Int32), S', N'), ⟨?_, p2', p3', ?_⟩, ?_⟩
          · dsimp only
            rw [show 25 - (i + 1) = 24 - i by omega]
          · intro h h1 h2 s hs q hq
            dsimp only
            by_cases e : h = 24 - i
            · subst e
              rw [show 128 * (24 - i) + 2 * q + s = 128 * (24 - i) + (2 * q + s) by omega, p5 _ (by omega), show (2 * q + s) / 2 = q by omega, show (2 * q + s) % 2 = s by omega, show 24 - (24 - i) = i by omega]
            · exact p4 h (by omega) h2 s hs q hq
          · intro K15 K
            simp only [f_Model_findLeast_L27]
            rw [p1, show (2 : Int32) = nI 2 from rfl, nI_mul, show nI (2 * allN w) + (1 : Int32) = nI (2 * allN w + 1) from nI_add _ 1, if_pos (nI_lt (by omega) (by omega)), nm_s]
      obtain ⟨z, h1, h2⟩ := inner
      refine ⟨z, h1, ?_⟩
      intro K
      simp only [f_Model_findLeast_L15]
      rw [q1, q3 0 (by decide), hr.hour, eh, if_neg (by rw [dnm_lt _ (by omega) _ hh]; omega), ex, h2]
    · rintro ⟨x, S, N⟩ ⟨q1', q2', q3', q4'⟩
      have q1 : x = nI (25 - (25 - vn w 10 0)) + (-1 : Int32) := q1'
      have q2 : N = sN := q2'
      have q3 : ∀ k, k ≠ 15 → S k = sM k := q3'
      have q4 : TabM w S (25 - (25 - vn w 10 0)) := q4'
      clear q1' q2' q3' q4'
      have e25 : 25 - (25 - vn w 10 0) = vn w 10 0 := by omega
      rw [e25] at q1 q4
      refine ⟨some (S, sN), ⟨S, rfl, q3, q4⟩, ?_⟩
      intro K
      simp only [f_Model_findLeast_L15]
      rw [q1, q2, q3 0 (by decide), hr.hour, eh, if_pos (by rw [dnm_lt _ (by omega) _ hh]; omega)]
    · intro h h1 h2
      have h1 : 25 - 0 ≤ h := h1
      omega
  obtain ⟨r, ⟨tM, rfl, h⟩, e⟩ := main
  exact ⟨tM, e, h⟩
