/-! ===== days ===== -/
theorem l_ti {n : Nat} (h : n < 2 ^ 63) : (lN n).toInt = (n : Int) := lg_ofNat_toInt (by omega)
theorem l_eq {a b : Int64} : a = b ↔ a.toInt = b.toInt := Int64.toInt_inj.symm
theorem l_bm {z : Int} (h : -9223372036854775808 ≤ z) (h2 : z < 9223372036854775808) : z.bmod 18446744073709551616 = z := Int.bmod_eq_of_le (by omega) (by omega)
theorem l_sub {a b : Nat} (h : b ≤ a) (ha : a < 2 ^ 63) : lN a - lN b = lN (a - b) := by
  rw [l_eq, Int64.toInt_sub, l_ti ha, l_ti (by omega), l_ti (by omega), Int.natCast_sub h]
  exact l_bm (by omega) (by omega)
theorem l_div {a b : Nat} (ha : a < 2 ^ 63) (hb : b < 2 ^ 63) : lN a / lN b = lN (a / b) := by
  have hd : a / b ≤ a := Nat.div_le_self a b
  rw [l_eq, Int64.toInt_div, l_ti ha, l_ti hb, l_ti (by omega)]
  rw [Int.tdiv_eq_ediv_of_nonneg (by omega), ← Int.natCast_ediv]
  generalize a / b = q at hd ⊢
  exact l_bm (by omega) (by omega)
theorem l_rem {a b : Nat} (ha : a < 2 ^ 63) (hb : b < 2 ^ 63) : lN a - lN a / lN b * lN b = lN (a % b) := by
  have hd : a / b * b ≤ a := Nat.div_mul_le_self a b
  rw [l_div ha hb, lN_mul, l_sub hd ha]
  congr 1
  have := Nat.div_add_mod a b
  rw [Nat.mul_comm] at this
  omega
theorem l_int {n : Nat} (h : n < 2 ^ 31) : (lN n).toInt32 = nI n := by
  rw [i_eq, Int64.toInt_toInt32, l_ti (by omega), nI_toInt h]
  exact i_bm (by omega) (by omega)
def nx (n : Nat) : Nat := (n * 1103515245 + 12345) % 2147483648
theorem nx_lt (n : Nat) : nx n < 2147483648 := Nat.mod_lt _ (by decide)
theorem nx_eq {n : Nat} (h : n < 2147483648) : ((lN n * (1103515245 : Int64)) + (12345 : Int64)) - ((lN n * (1103515245 : Int64)) + (12345 : Int64)) / (2147483648 : Int64) * (2147483648 : Int64) = lN (nx n) := by
  rw [show (1103515245 : Int64) = lN 1103515245 from rfl, show (12345 : Int64) = lN 12345 from rfl, show (2147483648 : Int64) = lN 2147483648 from rfl, lN_mul, lN_add]
  exact l_rem (by omega) (by decide)
theorem dr_eq {n m : Nat} (hn : n < 2147483648) (hm : 0 < m) (hm6 : m < 7) : ((lN n / (65536 : Int64)) - (lN n / (65536 : Int64)) / lN m * lN m).toInt32 = nI (n / 65536 % m) := by
  have hd : n / 65536 < 2147483648 := by omega
  have hr : n / 65536 % m < m := Nat.mod_lt _ hm
  rw [show (65536 : Int64) = lN 65536 from rfl, l_div (by omega) (by decide), l_rem (by omega) (by omega), l_int (by omega)]
theorem loop_inv {σ ρ : Type} {body : (σ → Option ρ) → σ → Option ρ} (P : Nat → σ → Prop) (Q : Option ρ → Prop) (n : Nat) (hs : ∀ i s, i < n → P i s → ∃ s', P (i + 1) s' ∧ ∀ K, body K s = K s') (he : ∀ s, P n s → ∃ r, Q r ∧ ∀ K, body K s = r) : ∀ (fuel : Nat) (s : σ), n < fuel → P 0 s → ∃ r, Q r ∧ loopF body fuel s = r := by
  have main : ∀ (m i fuel : Nat) (s : σ), i + m = n → m < fuel → P i s → ∃ r, Q r ∧ loopF body fuel s = r := by
    intro m
    induction m with
    | zero =>
      intro i fuel s h1 h2 hp
      obtain ⟨f, rfl⟩ : ∃ f, fuel = f + 1 := ⟨fuel - 1, by omega⟩
      have : i = n := by omega
      subst this
      obtain ⟨r, q, e⟩ := he s hp
      exact ⟨r, q, e _⟩
    | succ m ih =>
      intro i fuel s h1 h2 hp
      obtain ⟨f, rfl⟩ : ∃ f, fuel = f + 1 := ⟨fuel - 1, by omega⟩
      obtain ⟨s', p', e⟩ := hs i s (by omega) hp
      obtain ⟨r, q, e2⟩ := ih (i + 1) f s' (by omega) (by omega) p'
      exact ⟨r, q, (e _).trans e2⟩
  exact fun fuel s hf hp => main n 0 fuel s (by omega) hf hp
def dqD (w : PW) (x : Nat) : Nat := nx x / 65536 % vn w 12 0
def dqS (x : Nat) : Nat := nx (nx x) / 65536 % 2
def dqT (w : PW) (z : Nat × Nat × Nat × Int32) (x2 : Nat) : Nat × Nat × Nat × Int32 := (x2, dqS z.1, (z.2.2.1 + 1) % 24, z.2.2.2 + (nI (dueN w (dqD w z.1) (dqS z.1) z.2.2.1) + (if nI z.2.1 = nI (dqS z.1) then (0 : Int32) else w 7 0)))
def dqE (z : Nat × Nat × Nat × Int32) (x2 : Nat) : Nat × Nat × Nat × Int32 := (x2, z.2.1, (z.2.2.1 + 1) % 24, z.2.2.2)
def dqG (w : PW) (z : Nat × Nat × Nat × Int32) (x2 : Nat) : Nat × Nat × Nat × Int32 := match letB w (dqD w z.1) (dqS z.1) z.2.2.1 with
  | true => dqT w z x2
  | false => dqE z x2
def dqStep (w : PW) (z : Nat × Nat × Nat × Int32) : Nat × Nat × Nat × Int32 := dqG w z (nx (nx z.1))
def dq (w : PW) (x0 : Nat) : Nat → Nat × Nat × Nat × Int32
  | 0 => (x0, vn w 9 0, vn w 10 0, 0)
  | i + 1 => dqStep w (dq w x0 i)
theorem dqS_lt (x : Nat) : dqS x < 2 := Nat.mod_lt _ (by decide)
theorem dqG_ok {w : PW} {z : Nat × Nat × Nat × Int32} {x2 m : Nat} (hx : x2 < m) (hz : z.2.1 < 2) : (dqG w z x2).1 < m ∧ (dqG w z x2).2.1 < 2 ∧ (dqG w z x2).2.2.1 < 24 := by
  unfold dqG
  cases letB w (dqD w z.1) (dqS z.1) z.2.2.1
  · exact ⟨hx, hz, Nat.mod_lt _ (show 0 < 24 by decide)⟩
  · exact ⟨hx, dqS_lt _, Nat.mod_lt _ (show 0 < 24 by decide)⟩
theorem dqStep_ok {w : PW} {z : Nat × Nat × Nat × Int32} (hz : z.2.1 < 2) : (dqStep w z).1 < 2147483648 ∧ (dqStep w z).2.1 < 2 ∧ (dqStep w z).2.2.1 < 24 := dqG_ok (nx_lt _) hz
theorem dq_ok {w : PW} (ho : Ok w) {x0 : Nat} (hx : x0 < 2147483648) (i : Nat) : (dq w x0 i).1 < 2147483648 ∧ (dq w x0 i).2.1 < 2 ∧ (dq w x0 i).2.2.1 < 24 := by
  induction i with
  | zero => exact ⟨hx, (okV ho.side).1, (okV ho.hour).1⟩
  | succ i ih => exact dqStep_ok ih.2.1
theorem days_C {sC w : PW} (ho : Ok w) (hm : 0 < vn w 12 0) {x0 n : Nat} (hx : x0 < 2147483648) (hn : n ≤ 60) : f_Clerk_paidByChance sC w (nI x0) (nI n) = some (dq w x0 n).2.2.2 := by
  obtain ⟨h7, em⟩ := okV ho.many
  obtain ⟨-, es⟩ := okV ho.side
  obtain ⟨-, eh⟩ := okV ho.hour
  unfold f_Clerk_paidByChance
  rw [nm_s, nm_s, nm_s, nI_l (by omega), es, eh]
  refine loop_seq (fun i => (lN (dq w x0 i).1, nI (dq w x0 i).2.1, nI (dq w x0 i).2.2.1, (dq w x0 i).2.2.2, nI i)) n 4000 (by omega) ?_ ?_
  · intro i hi K
    have ok := dq_ok ho hx i
    have hstep : dq w x0 (i + 1) = dqStep w (dq w x0 i) := rfl
    rw [hstep]
    generalize dq w x0 i = z at ok ⊢
    obtain ⟨x, sd, h, su⟩ := z
    have k1 : x < 2147483648 := ok.1
    have k2 : sd < 2 := ok.2.1
    have k3 : h < 24 := ok.2.2
    have hd : dqD w x < vn w 12 0 := Nat.mod_lt _ hm
    have hs : dqS x < 2 := Nat.mod_lt _ (by decide)
    simp only [f_Clerk_paidByChance_L27, f_Clerk_nextChance]
    rw [if_neg (nI_ge hi (by omega)), nx_eq k1, bd_s, em, nI_l (by omega), show (lN (vn w 12 0) != 0) = true by rw [bne_iff_ne]; intro q; have := (lN_eq (a := vn w 12 0) (b := 0) (by omega) (by decide)).mp q; omega, gd_t, dr_eq (nx_lt x) hm h7, nm_s, nx_eq (nx_lt x), bd_s, show (2 : Int64) = lN 2 from rfl, dr_eq (nx_lt _) (by decide) (by decide), nm_s]
    show bd (f_House_lets w (nI (dqD w x)) (nI (dqS x)) (nI h)) _ = _
    rw [let_C ho hd hs k3, bd_s, show nx x / 65536 % vn w 12 0 = dqD w x from rfl, show nx (nx x) / 65536 % 2 = dqS x from rfl, due_C ho hd hs k3, toll_C, show (nI h + (1 : Int32)) - (nI h + (1 : Int32)) / (24 : Int32) * (24 : Int32) = nI ((h + 1) % 24) from hour_add k3 (n := 1) (by omega), show nI i + (1 : Int32) = nI (i + 1) from nI_add i 1]
    simp only [nm_s, bd_s]
    unfold dqStep dqG
    show _ = K (lN (match letB w (dqD w x) (dqS x) h with
      | true => dqT w (x, sd, h, su) (nx (nx x))
      | false => dqE (x, sd, h, su) (nx (nx x))).1, nI (match letB w (dqD w x) (dqS x) h with
      | true => dqT w (x, sd, h, su) (nx (nx x))
      | false => dqE (x, sd, h, su) (nx (nx x))).2.1, nI (match letB w (dqD w x) (dqS x) h with
      | true => dqT w (x, sd, h, su) (nx (nx x))
      | false => dqE (x, sd, h, su) (nx (nx x))).2.2.1, (match letB w (dqD w x) (dqS x) h with
      | true => dqT w (x, sd, h, su) (nx (nx x))
      | false => dqE (x, sd, h, su) (nx (nx x))).2.2.2, nI (i + 1))
    cases letB w (dqD w x) (dqS x) h
    · rw [if_b2f]; rfl
    · rw [if_b2t]; rfl
  · intro K
    simp only [f_Clerk_paidByChance_L27]
    rw [if_pos (nI_le (Nat.le_refl _) (by omega))]
def wAt (w : PW) (sd h : Nat) (p : Int32) : PW := up (up (up w 9 (fun _ => nI sd)) 10 (fun _ => nI h)) 11 (fun _ => p)
theorem wAt_ok {w : PW} (ho : Ok w) {sd h : Nat} (hs : sd < 2) (hh : h < 24) (p : Int32) : Ok (wAt w sd h p) := by
  obtain ⟨-, -, g3, g4, g5, g6, g7, g8, g9, a, b, c⟩ := ho
  exact ⟨okI_nI hs (by omega), okI_nI hh (by omega), g3, g4, g5, g6, g7, g8, g9, a, b, c⟩
theorem wAt_hr {w : PW} {st st' ah : Nat → Int32} {um : Int32} (hr : HR w st ah um) {sd h : Nat} {p : Int32} (e0 : st' 0 = nI sd) (e1 : st' 1 = nI h) (e2 : st' 2 = p) (e : ∀ k, 3 ≤ k → st' k = st k) : HR (wAt w sd h p) st' ah um := by
  obtain ⟨-, -, -, g3, g4, g5, g6, g7, g8, g9, g22, hu, hk, hn, hp⟩ := hr
  refine ⟨e0, e1, e2, ?_, ?_, ?_, ?_, ?_, ?_, ?_, ?_, hu, ?_, ?_, hp⟩
  · rw [e 3 (by decide)]; exact g3
  · rw [e 4 (by decide)]; exact g4
  · rw [e 5 (by decide)]; exact g5
  · rw [e 6 (by decide)]; exact g6
  · rw [e 7 (by decide)]; exact g7
  · rw [e 8 (by decide)]; exact g8
  · rw [e 9 (by decide)]; exact g9
  · rw [e 22 (by decide)]; exact g22
  · intro k hk'
    rw [e _ (by omega), e _ (by omega)]; exact hk k hk'
  · intro k hk'
    rw [e _ (by omega)]; exact hn k hk'
theorem rel_days {i0 i1 : Option PW} {sF sR sH sM tM : PW} {sN tN : PL} (h : Rel0 i0 i1 sF sR sH sM sN) (e0 : ∀ k, k < 53 → tM 0 k = sM 0 k) (e : ∀ k, k ≠ 0 → k ≠ 15 → k ≠ 16 → tM k = sM k) (n1 : tN 1 = sN 1) (n2 : tN 2 = sN 2) : Rel0 i0 i1 sF sR sH tM tN := by
  have h0 := h
  obtain ⟨h1, h2, h3, h4, ⟨h5, h6⟩, h7, h8⟩ := h0
  have h' : Rel0 i0 i1 sF sR sH sM tN := ⟨h1, h2, h3, h4, ⟨h5.trans n1.symm, h6.trans n2.symm⟩, h7, h8⟩
  refine rel_house h' h1 ?_ (e 3 (by decide) (by decide) (by decide)) (e 4 (by decide) (by decide) (by decide)) (e 5 (by decide) (by decide) (by decide)) (e 18 (by decide) (by decide) (by decide)) (e 19 (by decide) (by decide) (by decide)) (e 20 (by decide) (by decide) (by decide)) (e 21 (by decide) (by decide) (by decide))
  rw [e 13 (by decide) (by decide) (by decide), e 14 (by decide) (by decide) (by decide)]
  exact hr_cong h1 e0 (fun _ _ => rfl) rfl h2
theorem days_M {w sM : PW} {sN : PL} (ho : Ok w) (hr : HR w (sM 0) (sM 13) (sM 14 0)) (hm : 0 < vn w 12 0) {x0 n : Nat} (hx : x0 < 2147483648) (hn : n ≤ 60) : ∃ (tM : PW) (tN : PL), loopF (f_Model_days_L46 (nI x0) (nI n)) 4000 ((0 : Int32), sM, sN) = some ((dq w x0 n).2.2.2, tM, tN) ∧ (∀ k, tM 0 k = sM 0 k) ∧ (∀ k, k ≠ 0 → k ≠ 16 → tM k = sM k) ∧ tN 1 = sN 1 ∧ tN 2 = sN 2 := by
  obtain ⟨h7, em⟩ := okV ho.many
  obtain ⟨-, es⟩ := okV ho.side
  obtain ⟨-, eh⟩ := okV ho.hour
  have h0 : ((0 : Int32), sM, sN) = (fun i => (nI i, up sM 16 (fill (sM 0) (sM 16) i), sN)) 0 := by
    show _ = (nI 0, up sM 16 (fill _ _ 0), sN)
    rw [fill_0, up_self]; rfl
  generalize hA : up sM 16 (fill (sM 0) (sM 16) 4) = A
  have a0 : A 0 = sM 0 := by rw [← hA]; rfl
  have a16 : ∀ k, k < 4 → A 16 k = sM 0 k := fun k hk => by rw [← hA, up_eq, fill_in hk]
  have ak : ∀ k, k ≠ 16 → A k = sM k := fun k hk => by rw [← hA, up_ne hk]
  have main : ∃ r, (∃ (tM : PW) (tN : PL), r = some ((dq w x0 n).2.2.2, tM, tN) ∧ (∀ k, tM 0 k = sM 0 k) ∧ (∀ k, k ≠ 0 → k ≠ 16 → tM k = sM k) ∧ tN 1 = sN 1 ∧ tN 2 = sN 2) ∧ loopF (f_Model_days_L80 (nI n)) 4000 ((0 : Int32), (0 : Int32), A, upL sN 17 (nI x0).toInt64) = r := by
    refine loop_inv (fun i (s : Int32 × Int32 × PW × PL) => s.1 = (dq w x0 i).2.2.2 ∧ s.2.1 = nI i ∧ (∀ k, k ≠ 0 → s.2.2.1 k = A k) ∧ s.2.2.1 0 0 = nI (dq w x0 i).2.1 ∧ s.2.2.1 0 1 = nI (dq w x0 i).2.2.1 ∧ (∀ k, 3 ≤ k → s.2.2.1 0 k = sM 0 k) ∧ s.2.2.2 17 = lN (dq w x0 i).1 ∧ s.2.2.2 1 = sN 1 ∧ s.2.2.2 2 = sN 2) _ n ?_ ?_ 4000 _ (by omega) ?_
    · rintro i ⟨su', x', m, l⟩ hi ⟨q1, q2, q3, q4, q5, q6, q7, q8, q9⟩
      have ok := dq_ok ho hx i
      have hstep : dq w x0 (i + 1) = dqStep w (dq w x0 i) := rfl
      rw [hstep]
      generalize dq w x0 i = z at ok q1 q4 q5 q7 ⊢
      obtain ⟨x, sd, h, su⟩ := z
      have k1 : x < 2147483648 := ok.1
      have k2 : sd < 2 := ok.2.1
      have k3 : h < 24 := ok.2.2
      have hd : dqD w x < vn w 12 0 := Nat.mod_lt _ hm
      have hs : dqS x < 2 := Nat.mod_lt _ (by decide)
      have q1 : su' = su := q1
      have q2 : x' = nI i := q2
      have q4 : m 0 0 = nI sd := q4
      have q5 : m 0 1 = nI h := q5
      have q6 : ∀ k, 3 ≤ k → m 0 k = sM 0 k := q6
      have q7 : l 17 = lN x := q7
      have oW := wAt_ok ho k2 k3 (m 0 2)
      have rW : HR (wAt w sd h (m 0 2)) (m 0) (sM 13) (sM 14 0) := wAt_hr hr q4 q5 rfl q6
      have dW : dqD w x < vn (wAt w sd h (m 0 2)) 12 0 := hd
      have vh : vn (wAt w sd h (m 0 2)) 10 0 = h := nI_clamp (by omega)
      have eD : ∀ K, f_Model_days_L80 (nI n) K (su', x', m, l) = bd (f_Model_isThrough m (upL (upL l 17 (lN (nx x))) 17 (lN (nx (nx x)))) (nI (dqD w x)) (nI (dqS x)) (nI h)) (fun x38 => (if x38 = 0 then K (su, nI (i + 1), up m 0 (upd (m 0) 1 (nI ((h + 1) % 24))), upL (upL l 17 (lN (nx x))) 17 (lN (nx (nx x)))) else bd3 (f_Model_isDone m (upL (upL l 17 (lN (nx x))) 17 (lN (nx (nx x)))) (nI (dqD w x)) (nI (dqS x))) (fun x43 sM44 sN45 => K (su + x43, nI (i + 1), sM44, sN45)))) := by
        intro K
        simp only [f_Model_days_L80, f_Model_draw]
        rw [q1, q2, if_neg (nI_ge hi (by omega)), q7, nx_eq k1, nm_s, q6 9 (by decide), hr.many, em, nI_l (by omega), show (lN (vn w 12 0) != 0) = true by rw [bne_iff_ne]; intro q; have := (lN_eq (a := vn w 12 0) (b := 0) (by omega) (by decide)).mp q; omega, gd_t, show upL l 17 (lN (nx x)) 17 = lN (nx x) from rfl, dr_eq (nx_lt x) hm h7, bd3_s, show upL l 17 (lN (nx x)) 17 = lN (nx x) from rfl, nx_eq (nx_lt x), nm_s, show ((2 : Int32).toInt64 != 0) = true from rfl, gd_t, show upL (upL l 17 (lN (nx x))) 17 (lN (nx (nx x))) 17 = lN (nx (nx x)) from rfl, show (2 : Int32).toInt64 = lN 2 from rfl, dr_eq (nx_lt _) (by decide) (by decide), bd3_s, q5, show (nI h + (1 : Int32)) - (nI h + (1 : Int32)) / (24 : Int32) * (24 : Int32) = nI ((h + 1) % 24) from hour_add k3 (n := 1) (by omega), show nI i + (1 : Int32) = nI (i + 1) from nI_add i 1]
        simp only [nm_s]
        rfl
      have eL := let_M (sN := upL (upL l 17 (lN (nx x))) 17 (lN (nx (nx x)))) oW rW dW hs k3
      rw [show letB (wAt w sd h (m 0 2)) (dqD w x) (dqS x) h = letB w (dqD w x) (dqS x) h from rfl] at eL
      have eI := isDone_M (sN := upL (upL l 17 (lN (nx x))) 17 (lN (nx (nx x)))) oW rW dW hs
      rw [vh] at eI
      rw [eL] at eD
      cases hl : letB w (dqD w x) (dqS x) h
      · rw [hl] at eD
        have hz : dqStep w (x, sd, h, su) = dqE (x, sd, h, su) (nx (nx x)) := by
          show (match letB w (dqD w x) (dqS x) h with
            | true => dqT w (x, sd, h, su) (nx (nx x))
            | false => dqE (x, sd, h, su) (nx (nx x))) = _
          rw [hl]
        rw [hz]
        simp only [bd_s, if_b2f] at eD
        refine ⟨_, ?_, eD⟩
        refine ⟨rfl, rfl, fun k hk => (up_ne hk).trans (q3 k hk), ?_, rfl, fun k hk => ?_, rfl, q8, q9⟩
        · show upd (m 0) 1 (nI ((h + 1) % 24)) 0 = nI sd
          rw [upd_ne (by decide)]; exact q4
        · show upd (m 0) 1 (nI ((h + 1) % 24)) k = sM 0 k
          rw [upd_ne (by omega)]; exact q6 k hk
      · rw [hl] at eD
        have hz : dqStep w (x, sd, h, su) = dqT w (x, sd, h, su) (nx (nx x)) := by
          show (match letB w (dqD w x) (dqS x) h with
            | true => dqT w (x, sd, h, su) (nx (nx x))
            | false => dqE (x, sd, h, su) (nx (nx x))) = _
          rw [hl]
        rw [hz]
        simp only [bd_s, if_b2t, eI, bd3_s] at eD
        refine ⟨_, ?_, eD⟩
        refine ⟨rfl, rfl, fun k hk => (up_ne hk).trans (q3 k hk), rfl, rfl, fun k hk => ?_, rfl, q8, q9⟩
        refine ((upd_ne (by omega)).trans ((upd_ne (by omega)).trans (upd_ne (by omega)))).trans (q6 k hk)
    · rintro ⟨su', x', m, l⟩ ⟨q1, q2, q3, q4, q5, q6, q7, q8, q9⟩
      have q1 : su' = (dq w x0 n).2.2.2 := q1
      have q2 : x' = nI n := q2
      have q3 : ∀ k, k ≠ 0 → m k = A k := q3
      have q6 : ∀ k, 3 ≤ k → m 0 k = sM 0 k := q6
      refine ⟨some (su', up m 0 (fill (m 16) (m 0) 4), l), ⟨_, _, by rw [q1], ?_, ?_, q8, q9⟩, ?_⟩
      · intro k
        rw [up_eq]
        by_cases hk : k < 4
        · rw [fill_in hk, q3 16 (by decide)]; exact a16 k hk
        · rw [fill_out hk]; exact q6 k (by omega)
      · intro k k0 k16
        rw [up_ne k0, q3 k k0]; exact ak k k16
      · intro K
        simp only [f_Model_days_L80]
        rw [q2, if_pos (nI_le (Nat.le_refl _) (by omega))]
        have h1 : ((0 : Int32), m, l) = (fun i => (nI i, up m 0 (fill (m 16) (m 0) i), l)) 0 := by
          show _ = (nI 0, up m 0 (fill _ _ 0), l)
          rw [fill_0, up_self]; rfl
        rw [h1]
        refine loop_seq (fun i => (nI i, up m 0 (fill (m 16) (m 0) i), l)) 4 4000 (by decide) ?_ ?_
        · intro i hi K
          simp only [f_Model_days_L163]
          rw [if_neg (by rw [show (4 : Int32) = nI 4 from rfl]; exact nI_ge hi (by decide)), okI_nI hi (by omega), okI_nI (show i < 53 by omega) (by omega), nI_clamp (by omega), gd_t, gd_t, nm_s, nm_s, up_up, up_eq, show up m 0 (fill (m 16) (m 0) i) 16 i = m 16 i from rfl, fill_upd, show nI i + (1 : Int32) = nI (i + 1) from nI_add i 1]
        · intro K
          simp only [f_Model_days_L163]
          rw [if_pos (show (4 : Int32) ≤ nI 4 by decide)]
    · refine ⟨rfl, rfl, fun k _ => rfl, ?_, ?_, fun k _ => ?_, ?_, rfl, rfl⟩
      · show A 0 0 = nI (vn w 9 0)
        rw [a0, ← es]; exact hr.side
      · show A 0 1 = nI (vn w 10 0)
        rw [a0, ← eh]; exact hr.hour
      · show A 0 k = _
        rw [a0]
      · exact nI_l (by omega)
  obtain ⟨r, ⟨tM, tN, rfl, g1, g2, g3, g4⟩, e⟩ := main
  refine ⟨tM, tN, ?_, g1, g2, g3, g4⟩
  rw [h0]
  refine loop_seq (fun i => (nI i, up sM 16 (fill (sM 0) (sM 16) i), sN)) 4 4000 (by decide) ?_ ?_
  · intro i hi K
    simp only [f_Model_days_L46]
    rw [if_neg (by rw [show (4 : Int32) = nI 4 from rfl]; exact nI_ge hi (by decide)), okI_nI hi (by omega), okI_nI (show i < 53 by omega) (by omega), nI_clamp (by omega), gd_t, gd_t, nm_s, nm_s, up_up, up_eq, show up sM 16 (fill (sM 0) (sM 16) i) 0 i = sM 0 i from rfl, fill_upd, show nI i + (1 : Int32) = nI (i + 1) from nI_add i 1]
  · intro K
    simp only [f_Model_days_L46]
    rw [if_pos (show (4 : Int32) ≤ nI 4 by decide), nm_s, hA]
    exact e
theorem op_days : Op_days Rel0 := by
  intro i0 i1 sF sR sH sM sN sC hR a1 a2
  have hR' := hR
  obtain ⟨h1, h2, -⟩ := hR'
  obtain ⟨h7, em⟩ := okV h1.many
  unfold f_Face_days f_Model_days
  rw [show (999999 : Int32) = nI 999999 from rfl, within_eq a1 (by decide), in0_eq a1 (m := 999999) rfl, show (60 : Int32) = nI 60 from rfl, within_eq a2 (by decide), in0_eq a2 (m := 60) rfl]
  by_cases c1 : okI a1 (999999 + 1) = true
  · rw [if_pos c1]
    by_cases c2 : okI a2 (60 + 1) = true
    · rw [if_pos c2, h2.many, em]
      by_cases hm : vn sH 12 0 = 0
      · rw [hm]
        exact ⟨_, _, _, _, rfl, rfl, rel_no hR⟩
      · obtain ⟨x0, hx, -, rfl⟩ := okI_nat c1
        obtain ⟨n, hn, -, rfl⟩ := okI_nat c2
        obtain ⟨tM, tN, e, g1, g2, g3, g4⟩ := days_M (sN := sN) h1 h2 (by omega) (x0 := x0) (n := n) (by omega) (by omega)
        simp only [bd_s, if_10]
        rw [if_neg (by rw [show (0 : Int32) = nI 0 from rfl, nI_eq (by omega) (by decide)]; exact hm), if_neg (by rw [show (0 : Int32) = nI 0 from rfl, nI_eq (by omega) (by decide)]; exact hm), days_C h1 (by omega) (by omega) (by omega), e]
        exact ⟨_, _, _, _, rfl, rfl, rel_days hR (fun k _ => g1 k) (fun k a b c => g2 k a c) g3 g4⟩
    · rw [if_neg c2]
      exact ⟨_, _, _, _, rfl, rfl, rel_bad hR⟩
  · rw [if_neg c1]
    exact ⟨_, _, _, _, rfl, rfl, rel_bad hR⟩
