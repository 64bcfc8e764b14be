/-! ===== look ===== -/
def alk (f : Nat → Bool) (pr : Nat → Nat) (k : Nat) : Nat → Nat
  | 0 => 0
  | n + 1 => alk f pr k n + (if (f n && pr n == pr k) = true then 1 else 0)
def mst (f : Nat → Bool) (pr : Nat → Nat) : Nat → Nat
  | 0 => 0
  | k + 1 => if mst f pr k < alk f pr k 6 then alk f pr k 6 else mst f pr k
def mM (f : Nat → Bool) (pr : Nat → Nat) : Nat → Nat
  | 0 => 0
  | k + 1 => if mM f pr k < (if f k = true then alk f pr k 6 else 0) then (if f k = true then alk f pr k 6 else 0) else mM f pr k
theorem alk_le {f : Nat → Bool} {pr : Nat → Nat} {k : Nat} : ∀ {n : Nat}, alk f pr k n ≤ n
  | 0 => Nat.le_refl _
  | n + 1 => by
    have := alk_le (f := f) (pr := pr) (k := k) (n := n)
    show alk f pr k n + _ ≤ n + 1
    split <;> omega
theorem alk_pos {f : Nat → Bool} {pr : Nat → Nat} {k : Nat} : ∀ {n : Nat}, 0 < alk f pr k n → ∃ o, o < n ∧ f o = true ∧ pr o = pr k
  | 0, h => absurd h (Nat.lt_irrefl 0)
  | n + 1, h => by
    by_cases c : (f n && pr n == pr k) = true
    · rw [Bool.and_eq_true, beq_iff_eq] at c
      exact ⟨n, by omega, c.1, c.2⟩
    · have h : 0 < alk f pr k n + (if (f n && pr n == pr k) = true then 1 else 0) := h
      rw [if_neg c] at h
      obtain ⟨o, h1, h2⟩ := alk_pos (n := n) h
      exact ⟨o, by omega, h2⟩
theorem alk_congr {f : Nat → Bool} {pr : Nat → Nat} {k j : Nat} (h : pr k = pr j) : ∀ {n : Nat}, alk f pr k n = alk f pr j n
  | 0 => rfl
  | n + 1 => by
    show alk f pr k n + (if (f n && pr n == pr k) = true then 1 else 0) = alk f pr j n + (if (f n && pr n == pr j) = true then 1 else 0)
    rw [alk_congr h (n := n), h]
theorem mst_le {f : Nat → Bool} {pr : Nat → Nat} {X : Nat} : ∀ {n : Nat}, (∀ k, k < n → alk f pr k 6 ≤ X) → mst f pr n ≤ X
  | 0, _ => Nat.zero_le _
  | n + 1, h => by
    show (if _ then _ else _ : Nat) ≤ X
    split
    · exact h n (by omega)
    · exact mst_le (n := n) fun k hk => h k (by omega)
theorem mst_ge {f : Nat → Bool} {pr : Nat → Nat} {k : Nat} : ∀ {n : Nat}, k < n → alk f pr k 6 ≤ mst f pr n
  | 0, h => absurd h (Nat.not_lt_zero _)
  | n + 1, h => by
    show _ ≤ (if mst f pr n < alk f pr n 6 then alk f pr n 6 else mst f pr n)
    by_cases e : k = n
    · subst e; split <;> omega
    · have := mst_ge (f := f) (pr := pr) (k := k) (n := n) (by omega)
      split <;> omega
theorem mM_ge {f : Nat → Bool} {pr : Nat → Nat} {k : Nat} (hk : f k = true) : ∀ {n : Nat}, k < n → alk f pr k 6 ≤ mM f pr n
  | 0, h => absurd h (Nat.not_lt_zero _)
  | n + 1, h => by
    show _ ≤ (if mM f pr n < (if f n = true then alk f pr n 6 else 0) then (if f n = true then alk f pr n 6 else 0) else mM f pr n)
    by_cases e : k = n
    · subst e; rw [if_pos hk]; split <;> omega
    · have := mM_ge (f := f) (pr := pr) hk (n := n) (by omega)
      generalize (if f n = true then alk f pr n 6 else 0) = q
      split <;> omega
theorem mM_le {f : Nat → Bool} {pr : Nat → Nat} {X : Nat} : ∀ {n : Nat}, (∀ k, k < n → alk f pr k 6 ≤ X) → mM f pr n ≤ X
  | 0, _ => Nat.zero_le _
  | n + 1, h => by
    have h1 := mM_le (f := f) (pr := pr) (X := X) (n := n) fun k hk => h k (by omega)
    have h2 := h n (by omega)
    show (if mM f pr n < (if f n = true then alk f pr n 6 else 0) then (if f n = true then alk f pr n 6 else 0) else mM f pr n) ≤ X
    have h3 : (if f n = true then alk f pr n 6 else 0) ≤ X := by split <;> omega
    generalize (if f n = true then alk f pr n 6 else 0) = q at h3
    split <;> omega
theorem mM_mst (f : Nat → Bool) (pr : Nat → Nat) : mM f pr 6 = mst f pr 6 := by
  apply Nat.le_antisymm
  · exact mM_le fun k hk => mst_ge hk
  · apply mst_le
    intro k hk
    by_cases h : 0 < alk f pr k 6
    · obtain ⟨o, h1, h2, h3⟩ := alk_pos h
      rw [← alk_congr h3]
      exact mM_ge h2 h1
    · omega
def prH (w : PW) (d s h k : Nat) : Nat := prN k (vn w 4 d) s (vn w 1 s) h 0
theorem prH_le {w : PW} (ho : Ok w) {d s h k : Nat} (hd : d < vn w 12 0) (hs : s < 2) : prH w d s h k ≤ 26 := by
  have h1 := (okV (ho.worth hd)).1
  have h2 := (okV (ho.rate hs)).1
  exact prP_le (by omega)
theorem alike_C {sC : PW} {fit : Int32} {pr : Nat → Nat} (hp : ∀ k, k < 6 → sC 1 k = nI (pr k)) (hb : ∀ k, pr k < 2 ^ 31) : f_Clerk_mostAlike sC fit = some (nI (mst (bitB fit) pr 6)) := by
  unfold f_Clerk_mostAlike
  have hm : ∀ k, mst (bitB fit) pr k ≤ 6 := fun k => mst_le fun j _ => alk_le
  refine loop_seq (fun k => (nI (mst (bitB fit) pr k), nI k)) 6 4000 (by decide) ?_ ?_
  · intro k hk K
    simp only [f_Clerk_mostAlike_L4]
    rw [if_neg (by rw [show (6 : Int32) = nI 6 from rfl]; exact nI_ge hk (by decide))]
    refine loop_seq (fun i => (nI (alk (bitB fit) pr k i), nI i)) 6 4000 (by decide) ?_ ?_
    · intro i hi K2
      simp only [f_Clerk_mostAlike_L16]
      rw [if_neg (by rw [show (6 : Int32) = nI 6 from rfl]; exact nI_ge hi (by decide)), okI_nI hi (by omega), okI_nI hk (by omega), nI_clamp (by omega), nI_clamp (by omega), gd_t, gd_t, hp i hi, hp k hk, show nI i + (1 : Int32) = nI (i + 1) from nI_add i 1]
      simp only [nm_s]
      rw [show nI (alk (bitB fit) pr k i) + (1 : Int32) = nI (alk (bitB fit) pr k i + 1) from nI_add _ 1]
      show _ = K2 (nI (alk (bitB fit) pr k i + (if (bitB fit i && pr i == pr k) = true then 1 else 0)), nI (i + 1))
      generalize alk (bitB fit) pr k i = a
      by_cases c : (fit >>> (nI i &&& 31)) &&& (1 : Int32) = 1
      · rw [if_pos c, show bitB fit i = true from decide_eq_true c, Bool.true_and]
        by_cases c2 : pr i = pr k
        · rw [if_pos (by rw [c2]), if_pos (by rw [beq_iff_eq]; exact c2)]
        · rw [if_neg (fun q => c2 (nI_inj (hb _) (hb _) q)), if_neg (by rw [beq_iff_eq]; exact c2)]; rfl
      · rw [if_neg c, show bitB fit i = false from decide_eq_false c, Bool.false_and, if_neg (by decide)]; rfl
    · intro K2
      simp only [f_Clerk_mostAlike_L16]
      rw [if_pos (show (6 : Int32) ≤ nI 6 by decide), nm_s, nm_s, show nI k + (1 : Int32) = nI (k + 1) from nI_add k 1]
      show _ = K (nI (if mst (bitB fit) pr k < alk (bitB fit) pr k 6 then alk (bitB fit) pr k 6 else mst (bitB fit) pr k), nI (k + 1))
      have h1 := hm k
      have h2 := alk_le (f := bitB fit) (pr := pr) (k := k) (n := 6)
      generalize mst (bitB fit) pr k = a at h1 ⊢
      generalize alk (bitB fit) pr k 6 = b at h2 ⊢
      by_cases c : a < b
      · rw [if_pos (nI_lt c (by omega)), if_pos c]
      · rw [if_neg (nI_nlt (by omega) (by omega)), if_neg c]
  · intro K
    simp only [f_Clerk_mostAlike_L4]
    rw [if_pos (show (6 : Int32) ≤ nI 6 by decide)]
theorem part_M {w sM : PW} {sN : PL} {ah : Nat → Int32} {um : Int32} (ho : Ok w) (hr : HR w (sM 0) ah um) {d s h : Nat} {fit : Int32} (hd : d < vn w 12 0) (hs : s < 2) (hh : h < 24) : f_Model_partBy sM sN fit (nI d) (nI s) (nI h) = some (nI (mM (bitB fit) (prH w d s h) 6)) := by
  have m6 := ho.m6
  obtain ⟨hwo, ewo⟩ := okV (ho.worth hd)
  have hb : ∀ k, prH w d s h k ≤ 26 := fun k => prH_le ho hd hs
  have hm : ∀ k, mM (bitB fit) (prH w d s h) k ≤ 6 := fun k => mM_le fun j _ => alk_le
  unfold f_Model_partBy
  refine loop_seq (fun k => (nI (mM (bitB fit) (prH w d s h) k), nI k)) 6 4000 (by decide) ?_ ?_
  · intro k hk K
    simp only [f_Model_partBy_L6]
    rw [if_neg (by rw [show (5 : Int32) = nI 5 from rfl]; exact nI_nlt (by omega) (by decide))]
    have h0 : ((0 : Int32), (0 : Int32)) = (fun i => (nI (if bitB fit k = true then alk (bitB fit) (prH w d s h) k i else 0), nI i)) 0 := by
      show _ = (nI (if bitB fit k = true then 0 else 0), nI 0)
      rw [ite_self]; rfl
    rw [h0]
    refine loop_seq (fun i => (nI (if bitB fit k = true then alk (bitB fit) (prH w d s h) k i else 0), nI i)) 6 4000 (by decide) ?_ ?_
    · intro i hi K2
      simp only [f_Model_partBy_L18, f_Model_partBy_J70]
      rw [if_neg (by rw [show (5 : Int32) = nI 5 from rfl]; exact nI_nlt (by omega) (by decide)), show (16 : Int32) + nI d = nI (16 + d) from nI_add 16 d, okI_nI (show 16 + d < 53 by omega) (by omega), nI_clamp (by omega), gd_t, hr.worth hd, ewo, show (0 : Int32) = nI 0 from rfl, dueBy_M ho hr hk hwo hs hh (by decide), dueBy_M ho hr hi hwo hs hh (by decide), has_M (x := fit) (k := k) (b := bitB fit k) rfl, has_M (x := fit) (k := i) (b := bitB fit i) rfl, show nI i + (1 : Int32) = nI (i + 1) from nI_add i 1]
      simp only [bd_s, gd_t, nm_s]
      show (if nI (prH w d s h k) = nI (prH w d s h i) then _ else _) = K2 (nI (if bitB fit k = true then alk (bitB fit) (prH w d s h) k i + (if (bitB fit i && prH w d s h i == prH w d s h k) = true then 1 else 0) else 0), nI (i + 1))
      generalize alk (bitB fit) (prH w d s h) k i = a
      have hk26 := hb k
      have hi26 := hb i
      generalize prH w d s h k = x at hk26 ⊢
      generalize prH w d s h i = y at hi26 ⊢
      rw [nI_add, show nI (if bitB fit k = true then a else 0) + (1 : Int32) = nI ((if bitB fit k = true then a else 0) + 1) from nI_add _ 1]
      by_cases c : x = y
      · rw [if_pos (by rw [c]), show (y == x) = true by rw [beq_iff_eq]; exact c.symm]
        cases bitB fit k <;> cases bitB fit i <;> rfl
      · rw [if_neg (fun q => c (nI_inj (by omega) (by omega) q)), show (y == x) = false by rw [beq_eq_false_iff_ne]; exact fun q => c q.symm]
        cases bitB fit k <;> cases bitB fit i <;> rfl
    · intro K2
      simp only [f_Model_partBy_L18]
      rw [if_pos (show (5 : Int32) < nI 6 by decide), show nI k + (1 : Int32) = nI (k + 1) from nI_add k 1, nm_s, nm_s]
      show _ = K (nI (if mM (bitB fit) (prH w d s h) k < (if bitB fit k = true then alk (bitB fit) (prH w d s h) k 6 else 0) then (if bitB fit k = true then alk (bitB fit) (prH w d s h) k 6 else 0) else mM (bitB fit) (prH w d s h) k), nI (k + 1))
      have h1 := hm k
      have h2 : (if bitB fit k = true then alk (bitB fit) (prH w d s h) k 6 else 0) ≤ 6 := by
        have := alk_le (f := bitB fit) (pr := prH w d s h) (k := k) (n := 6)
        split <;> omega
      generalize mM (bitB fit) (prH w d s h) k = a at h1 ⊢
      generalize (if bitB fit k = true then alk (bitB fit) (prH w d s h) k 6 else 0) = b at h2 ⊢
      by_cases c : a < b
      · rw [if_neg (nI_ge c (by omega)), if_pos c]
      · rw [if_pos (nI_le (by omega) (by omega)), if_neg c]
  · intro K
    simp only [f_Model_partBy_L6]
    rw [if_pos (show (5 : Int32) < nI 6 by decide)]
def bsN (m : Nat → Nat) : Nat → Nat
  | 0 => 0
  | i + 1 => if i = 0 then 0 else if m i < m (bsN m i) then i else bsN m i
theorem bsN_lt {m : Nat → Nat} : ∀ {i : Nat}, i ≤ 24 → bsN m i < 24
  | 0, _ => by show 0 < 24; decide
  | i + 1, h => by
    have := bsN_lt (m := m) (i := i) (by omega)
    show (if i = 0 then 0 else if m i < m (bsN m i) then i else bsN m i) < 24
    split
    · omega
    · split <;> omega
theorem op_look : Op_look Rel0 := by
  intro i0 i1 sF sR sH sM sN sC hR a1 a2
  have hR' := hR
  obtain ⟨h1, h2, -⟩ := hR'
  unfold f_Face_look f_Model_look
  rw [doing_C h1, doing_M h1 h2, side_C, side_M]
  by_cases c1 : okI a1 (vn sH 12 0) = true
  · rw [if_pos c1]
    by_cases c2 : okI a2 2 = true
    · rw [if_pos c2]
      obtain ⟨d, hd, -, rfl⟩ := okI_nat c1
      obtain ⟨s, hs, -, rfl⟩ := okI_nat c2
      rw [kinds_C h1 hd, kinds_M h1 h2 hd]
      simp only [bd_s, if_10]
      generalize kinds sH d = fit
      by_cases hf : fit = 0
      · have eC : f_Clerk_hourToLook sC sH (nI d) (nI s) fit = some (-1, sC) := by
          unfold f_Clerk_hourToLook
          rw [if_pos hf]
        have eM : loopF (f_Model_look_L32 (nI d) (nI s) sM sN fit) 4000 ((-1 : Int32), (0 : Int32)) = some (-1, sM, sN) := by
          refine loop_seq (fun _ => ((-1 : Int32), (0 : Int32))) 0 4000 (by decide) (fun i hi => absurd hi (by omega)) ?_
          intro K
          simp only [f_Model_look_L32]
          rw [if_neg (by decide), if_pos hf]
        rw [eC, eM, bd2_s]
        exact ⟨_, _, _, _, _, rfl, rfl, hR⟩
      · generalize hmm : (fun h => mst (bitB fit) (prH sH d s h) 6) = m
        have hm6 : ∀ h, m h ≤ 6 := fun h => by rw [← hmm]; exact mst_le fun j _ => alk_le
        have eM : loopF (f_Model_look_L32 (nI d) (nI s) sM sN fit) 4000 ((-1 : Int32), (0 : Int32)) = some (nI (bsN m 24), sM, sN) := by
          refine loop_seq (fun i => ((if i = 0 then (-1 : Int32) else nI (bsN m i)), nI i)) 24 4000 (by decide) ?_ ?_
          · intro i hi K
            have hbl := bsN_lt (m := m) (i := i) (by omega)
            simp only [f_Model_look_L32]
            rw [if_neg (by rw [show (24 : Int32) = nI 24 from rfl]; exact nI_ge hi (by decide)), if_neg hf, show nI i + (1 : Int32) = nI (i + 1) from nI_add i 1]
            simp only [nm_s]
            show _ = K (nI (if i = 0 then 0 else if m i < m (bsN m i) then i else bsN m i), nI (i + 1))
            by_cases h0 : i = 0
            · subst h0
              rw [if_pos rfl, if_pos rfl, if_pos (by decide)]
            · rw [if_neg h0, if_neg h0, if_neg (nI_pos (by omega)), part_M h1 h2 hd hs hi, part_M h1 h2 hd hs hbl, mM_mst, mM_mst, bd_s, bd_s]
              rw [show mst (bitB fit) (prH sH d s i) 6 = m i by rw [← hmm], show mst (bitB fit) (prH sH d s (bsN m i)) 6 = m (bsN m i) by rw [← hmm]]
              have q1 := hm6 i
              have q2 := hm6 (bsN m i)
              by_cases c : m i < m (bsN m i)
              · rw [if_neg (nI_ge c (by omega)), if_pos c]
              · rw [if_pos (nI_le (by omega) (by omega)), if_neg c]
          · intro K
            simp only [f_Model_look_L32]
            rw [if_pos (show (24 : Int32) ≤ nI 24 by decide), if_neg (by decide)]
        have eC : ∃ tC : PW, f_Clerk_hourToLook sC sH (nI d) (nI s) fit = some (nI (bsN m 24), tC) := by
          unfold f_Clerk_hourToLook
          rw [if_neg hf]
          have main : ∃ r, (∃ tC : PW, r = some (nI (bsN m 24), tC)) ∧ loopF (f_Clerk_hourToLook_L16 (nI d) (nI s) fit sH) 4000 ((0 : Int32), (7 : Int32), (0 : Int32), sC) = r := by
            refine loop_inv (fun i (z : Int32 × Int32 × Int32 × PW) => z.1 = nI (bsN m i) ∧ z.2.1 = (if i = 0 then 7 else nI (m (bsN m i))) ∧ z.2.2.1 = nI i) _ 24 ?_ ?_ 4000 _ (by decide) ⟨rfl, rfl, rfl⟩
            · rintro i ⟨b, fw, x, C⟩ hi ⟨q1, q2, q3⟩
              have q1 : b = nI (bsN m i) := q1
              have q2 : fw = (if i = 0 then 7 else nI (m (bsN m i))) := q2
              have q3 : x = nI i := q3
              subst q1 q2 q3
              have hbl := bsN_lt (m := m) (i := i) (by omega)
              generalize hpr : (fun k => nI (prH sH d s i k)) = pr
              have eL : ∀ K, f_Clerk_hourToLook_L16 (nI d) (nI s) fit sH K (nI (bsN m i), (if i = 0 then 7 else nI (m (bsN m i))), nI i, C) = K (nI (bsN m (i + 1)), nI (m (bsN m (i + 1))), nI (i + 1), up C 1 (fill pr (C 1) 6)) := by
                intro K
                simp only [f_Clerk_hourToLook_L16]
                rw [if_neg (by rw [show (24 : Int32) = nI 24 from rfl]; exact nI_ge hi (by decide))]
                have h0 : ((0 : Int32), C) = (fun k => (nI k, up C 1 (fill pr (C 1) k))) 0 := by
                  show _ = (nI 0, up C 1 (fill _ _ 0))
                  rw [fill_0, up_self]; rfl
                rw [h0]
                refine loop_seq (fun k => (nI k, up C 1 (fill pr (C 1) k))) 6 4000 (by decide) ?_ ?_
                · intro k hk K2
                  simp only [f_Clerk_hourToLook_L26]
                  rw [if_neg (by rw [show (6 : Int32) = nI 6 from rfl]; exact nI_ge hk (by decide)), show (0 : Int32) = nI 0 from rfl, pas_as_C h1 hk hd hs hi (by decide), bd_s, okI_nI hk (by omega), nI_clamp (by omega), gd_t, nm_s, nm_s, up_up, up_eq, show nI (prN k (vn sH 4 d) s (vn sH 1 s) i 0) = pr k by rw [← hpr]; rfl, fill_upd, show nI k + (1 : Int32) = nI (k + 1) from nI_add k 1]
                · intro K2
                  simp only [f_Clerk_hourToLook_L26]
                  rw [if_pos (show (6 : Int32) ≤ nI 6 by decide), alike_C (pr := prH sH d s i) (fun k hk => by rw [up_eq, fill_in hk, ← hpr]) (fun k => by have := prH_le h1 (h := i) (k := k) hd hs; omega), bd_s, show mst (bitB fit) (prH sH d s i) 6 = m i by rw [← hmm], show nI i + (1 : Int32) = nI (i + 1) from nI_add i 1]
                  simp only [nm_s]
                  have hb1 : bsN m (i + 1) = if i = 0 then 0 else if m i < m (bsN m i) then i else bsN m i := rfl
                  rw [hb1]
                  have q1 := hm6 i
                  have q2 := hm6 (bsN m i)
                  by_cases h0 : i = 0
                  · subst h0
                    rw [if_pos rfl, if_neg (by rw [show (7 : Int32) = nI 7 from rfl]; exact nI_ge (by omega) (by decide)), if_pos rfl]
                  · rw [if_neg h0, if_neg h0]
                    by_cases c : m i < m (bsN m i)
                    · rw [if_neg (nI_ge c (by omega)), if_pos c]
                    · rw [if_pos (nI_le (by omega) (by omega)), if_neg c]
              exact ⟨_, ⟨rfl, rfl, rfl⟩, eL⟩
            · rintro ⟨b, fw, x, C⟩ ⟨q1, q2, q3⟩
              have q1 : b = nI (bsN m 24) := q1
              have q3 : x = nI 24 := q3
              subst q1 q3
              refine ⟨some (nI (bsN m 24), C), ⟨C, rfl⟩, ?_⟩
              intro K
              simp only [f_Clerk_hourToLook_L16]
              rw [if_pos (show (24 : Int32) ≤ nI 24 by decide)]
          obtain ⟨r, ⟨tC, rfl⟩, e⟩ := main
          exact ⟨tC, e⟩
        obtain ⟨tC, eC⟩ := eC
        rw [eC, eM, bd2_s]
        exact ⟨_, _, _, _, _, rfl, rfl, hR⟩
    · rw [if_neg c2]
      exact ⟨_, _, _, _, _, rfl, rfl, rel_bad hR⟩
  · rw [if_neg c1]
    exact ⟨_, _, _, _, _, rfl, rfl, rel_bad hR⟩
