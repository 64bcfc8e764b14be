/-! ===== steps that may be undone ===== -/
def Kp (g f : Nat → Int32) (p q : Nat) (a b c d : Int32) : Prop := q < 8 ∧ q ≤ p ∧ (∀ j, j < 4 * q → g j = f (j + 4 * (p - q))) ∧ g (4 * q) = a ∧ g (4 * q + 1) = b ∧ g (4 * q + 2) = c ∧ g (4 * q + 3) = d
def qOf (p : Nat) : Nat := if p = 8 then 7 else p
theorem J39_C {w : PW} {q : Nat} (hq : q < 8) (e : w 14 0 = nI q) (hw : f_House_warBit w = some (w 8 0)) : f_House_keepStep_J39 w = some (up (up w 6 (upd (upd (upd (upd (w 6) (4 * q) (w 9 0)) (4 * q + 1) (w 10 0)) (4 * q + 2) (w 11 0)) (4 * q + 3) (w 8 0))) 14 (fun _ => nI (q + 1))) := by
  unfold f_House_keepStep_J39
  rw [e, show nI q * (4 : Int32) = nI (4 * q) by rw [show (4 : Int32) = nI 4 from rfl, nI_mul, Nat.mul_comm]]
  have e2 : ∀ (g : Nat → Int32), up w 6 g 14 0 + (1 : Int32) = nI (q + 1) := fun g => by
    show w 14 0 + 1 = _
    rw [e]; exact nI_add q 1
  have e3 : ∀ (g : Nat → Int32), f_House_warBit (up w 6 g) = some (w 8 0) := fun g => hw
  generalize hr : 4 * q = r
  rw [nm_s, show nI r + (1 : Int32) = nI (r + 1) from nI_add r 1, show nI r + (2 : Int32) = nI (r + 2) from nI_add r 2, show nI r + (3 : Int32) = nI (r + 3) from nI_add r 3, okI_nI (show r < 32 by omega) (by omega), okI_nI (show r + 1 < 32 by omega) (by omega), okI_nI (show r + 2 < 32 by omega) (by omega), okI_nI (show r + 3 < 32 by omega) (by omega), nI_clamp (by omega), nI_clamp (by omega), nI_clamp (by omega), nI_clamp (by omega)]
  simp only [gd_t, nm_s, up_up, up_eq, e3, bd_s, e2]
  rfl
theorem kp_of {f g : Nat → Int32} {p : Nat} (hp : p ≤ 8) {a b c d : Int32} (hg : ∀ j, j < 4 * qOf p → g j = f (j + 4 * (p - qOf p))) : Kp (upd (upd (upd (upd g (4 * qOf p) a) (4 * qOf p + 1) b) (4 * qOf p + 2) c) (4 * qOf p + 3) d) f p (qOf p) a b c d := by
  refine ⟨by unfold qOf; split <;> omega, by unfold qOf; split <;> omega, ?_, ?_, ?_, ?_, ?_⟩
  · intro j hj
    rw [upd_ne (by omega), upd_ne (by omega), upd_ne (by omega), upd_ne (by omega)]
    exact hg j hj
  · rw [upd_ne (by omega), upd_ne (by omega), upd_ne (by omega), upd_eq]
  · rw [upd_ne (by omega), upd_ne (by omega), upd_eq]
  · rw [upd_ne (by omega), upd_eq]
  · rw [upd_eq]
theorem keep_C {w : PW} (ho : Ok w) : ∃ tH : PW, f_House_keepStep w = some tH ∧ (∀ k, k ≠ 6 → k ≠ 14 → tH k = w k) ∧ tH 14 0 = nI (qOf (vn w 14 0) + 1) ∧ Kp (tH 6) (w 6) (vn w 14 0) (qOf (vn w 14 0)) (w 9 0) (w 10 0) (w 11 0) (w 8 0) := by
  obtain ⟨h9, e⟩ := okV ho.steps
  have hw := warBit_eq ho
  have hp : vn w 14 0 ≤ 8 := by omega
  unfold f_House_keepStep
  rw [e, show (8 : Int32) = nI 8 from rfl]
  by_cases h8 : vn w 14 0 = 8
  · rw [h8, if_pos rfl, nm_s, nm_s]
    have hJ := J39_C (w := up (up w 6 (va_cpy (w 6) (w 6) 4 0 28)) 14 (fun _ => w 14 0 - 1)) (q := 7) (by decide) (by show w 14 0 - 1 = nI 7; rw [e, h8]; rfl) hw
    refine ⟨_, hJ, ?_, rfl, ?_⟩
    · intro k h6 h14
      rw [up_ne h14, up_ne h6, up_ne h14, up_ne h6]
    · refine kp_of (p := 8) (by omega) ?_
      intro j hj
      have hj : j < 28 := hj
      show va_cpy (w 6) (w 6) 4 0 28 j = w 6 (j + 4)
      unfold va_cpy
      rw [if_pos (by omega)]
      congr 1
      omega
  · have hq : qOf (vn w 14 0) = vn w 14 0 := if_neg h8
    rw [if_neg (by rw [nI_eq (by omega) (by decide)]; exact h8), J39_C (show vn w 14 0 < 8 by omega) e hw]
    refine ⟨_, rfl, ?_, by rw [hq]; rfl, ?_⟩
    · intro k h6 h14
      rw [up_ne h14, up_ne h6]
    · have := kp_of (f := w 6) (g := w 6) hp (a := w 9 0) (b := w 10 0) (c := w 11 0) (d := w 8 0) (by intro j _; congr 1; omega)
      rw [hq] at this ⊢
      exact this
def put (f g : Nat → Int32) (a n : Nat) : Nat → Int32 := fun k => if a ≤ k ∧ k < a + n then g (k - a) else f k
theorem put_in {f g : Nat → Int32} {a n k : Nat} (h : a ≤ k ∧ k < a + n) : put f g a n k = g (k - a) := if_pos h
theorem put_out {f g : Nat → Int32} {a n k : Nat} (h : ¬ (a ≤ k ∧ k < a + n)) : put f g a n k = f k := if_neg h
theorem put_0 (f g : Nat → Int32) (a : Nat) : put f g a 0 = f := by funext k; exact put_out (by omega)
theorem put_upd (f g : Nat → Int32) (a n : Nat) : upd (put f g a n) (a + n) (g n) = put f g a (n + 1) := by
  funext k
  by_cases e : k = a + n
  · subst e; rw [upd_eq, put_in (by omega)]; congr 1; omega
  · rw [upd_ne e]
    by_cases h : a ≤ k ∧ k < a + n
    · rw [put_in h, put_in (by omega)]
    · rw [put_out h, put_out (by omega)]
theorem J47_M {sM : PW} {sN : PL} {q : Nat} (hq : q < 8) (e : sM 14 0 = nI q) : f_Model_noteStep_J47 sM sN = some (up (up sM 13 (put (sM 13) (sM 0) (4 * q) 4)) 14 (fun _ => nI (q + 1)), sN) := by
  unfold f_Model_noteStep_J47
  have h0 : ((0 : Int32), sM, sN) = (fun i => (nI i, up sM 13 (put (sM 13) (sM 0) (4 * q) i), sN)) 0 := by
    show _ = (nI 0, up sM 13 (put _ _ _ 0), sN)
    rw [put_0, up_self]; rfl
  rw [h0]
  refine loop_seq (fun i => (nI i, up sM 13 (put (sM 13) (sM 0) (4 * q) i), sN)) 4 4000 (by decide) ?_ ?_
  · intro i hi K
    show (if (4 : Int32) ≤ nI i then _ else gd (okI (nI i) 53) (gd (okI ((4 : Int32) * sM 14 0 + nI i) 32) (K (nI i + 1, up (up sM 13 _) 13 (upd (up sM 13 _ 13) ((4 : Int32) * sM 14 0 + nI i).toNatClampNeg (sM 0 (nI i).toNatClampNeg)), sN)))) = _
    rw [if_neg (by rw [show (4 : Int32) = nI 4 from rfl]; exact nI_ge hi (by decide)), okI_nI (show i < 53 by omega) (by omega), e, show (4 : Int32) * nI q = nI (4 * q) from nI_mul 4 q, nI_add, okI_nI (show 4 * q + i < 32 by omega) (by omega), nI_clamp (by omega), nI_clamp (by omega), up_up, up_eq, put_upd, show nI i + (1 : Int32) = nI (i + 1) from nI_add i 1]
    rfl
  · intro K
    show some (up (up sM 13 _) 14 (fun _ => sM 14 0 + 1), sN) = _
    rw [e, show nI q + (1 : Int32) = nI (q + 1) from nI_add q 1]
theorem kp_put {f g st : Nat → Int32} {p : Nat} (hp : p ≤ 8) (hg : ∀ j, j < 4 * qOf p → g j = f (j + 4 * (p - qOf p))) : Kp (put g st (4 * qOf p) 4) f p (qOf p) (st 0) (st 1) (st 2) (st 3) := by
  refine ⟨by unfold qOf; split <;> omega, by unfold qOf; split <;> omega, ?_, ?_, ?_, ?_, ?_⟩
  · intro j hj
    rw [put_out (by omega)]
    exact hg j hj
  · rw [put_in (by omega)]; congr 1; omega
  · rw [put_in (by omega)]; congr 1; omega
  · rw [put_in (by omega)]; congr 1; omega
  · rw [put_in (by omega)]; congr 1; omega
theorem shift_M {sM : PW} {sN : PL} : loopF f_Model_noteStep_L11 4000 ((0 : Int32), sM, sN) = f_Model_noteStep_J47 (up (up sM 13 (fill (fun k => sM 13 (k + 4)) (sM 13) 28)) 14 (fun _ => sM 14 0 - 1)) sN := by
  have h0 : ((0 : Int32), sM, sN) = (fun i => (nI i, up sM 13 (fill (fun k => sM 13 (k + 4)) (sM 13) i), sN)) 0 := by
    show _ = (nI 0, up sM 13 (fill _ _ 0), sN)
    rw [fill_0, up_self]; rfl
  rw [h0]
  refine loop_seq (fun i => (nI i, up sM 13 (fill (fun k => sM 13 (k + 4)) (sM 13) i), sN)) 28 4000 (by decide) ?_ ?_
  · intro i hi K
    show (if (28 : Int32) ≤ nI i then _ else gd (okI (nI i + (4 : Int32)) 32) (gd (okI (nI i) 32) (K (nI i + 1, up (up sM 13 _) 13 (upd (up sM 13 _ 13) (nI i).toNatClampNeg (up sM 13 _ 13 (nI i + (4 : Int32)).toNatClampNeg)), sN)))) = _
    rw [if_neg (by rw [show (28 : Int32) = nI 28 from rfl]; exact nI_ge hi (by decide)), show nI i + (4 : Int32) = nI (i + 4) from nI_add i 4, okI_nI (show i + 4 < 32 by omega) (by omega), okI_nI (show i < 32 by omega) (by omega), nI_clamp (by omega), nI_clamp (by omega), up_up, up_eq, fill_out (show ¬ i + 4 < i by omega), fill_upd (fun k => sM 13 (k + 4)), show nI i + (1 : Int32) = nI (i + 1) from nI_add i 1]
    rfl
  · intro K
    simp only [f_Model_noteStep_L11]
    rw [if_pos (show (28 : Int32) ≤ nI 28 by decide), nm_s, up_ne (show 14 ≠ 13 by decide)]
theorem note_M {sM : PW} (sN : PL) {p : Nat} (hp : p ≤ 8) (e : sM 14 0 = nI p) : ∃ tM : PW, f_Model_noteStep sM sN = some (tM, sN) ∧ (∀ k, k ≠ 13 → k ≠ 14 → tM k = sM k) ∧ tM 14 0 = nI (qOf p + 1) ∧ Kp (tM 13) (sM 13) p (qOf p) (sM 0 0) (sM 0 1) (sM 0 2) (sM 0 3) := by
  unfold f_Model_noteStep
  rw [e, show (8 : Int32) = nI 8 from rfl]
  by_cases h8 : p = 8
  · subst h8
    rw [if_pos rfl, shift_M, J47_M (q := 7) (by decide) (by show sM 14 0 - 1 = nI 7; rw [e]; rfl)]
    refine ⟨_, rfl, ?_, rfl, ?_⟩
    · intro k h6 h14
      rw [up_ne h14, up_ne h6, up_ne h14, up_ne h6]
    · refine kp_put (p := 8) (by omega) ?_
      intro j hj
      have hj : j < 28 := hj
      show fill (fun k => sM 13 (k + 4)) (sM 13) 28 j = sM 13 (j + 4)
      rw [fill_in hj]
  · have hq : qOf p = p := if_neg h8
    rw [if_neg (by rw [nI_eq (by omega) (by decide)]; exact h8), J47_M (show p < 8 by omega) e]
    refine ⟨_, rfl, ?_, by rw [hq]; rfl, ?_⟩
    · intro k h6 h14
      rw [up_ne h14, up_ne h6]
    · have := kp_put (f := sM 13) (g := sM 13) (st := sM 0) hp (by intro j _; congr 1; omega)
      rw [hq] at this ⊢
      exact this
theorem step_rel {w sM w2 : PW} {st2 a2 g2 : Nat → Int32} {ah : Nat → Int32} {um : Int32} (ho : Ok w) (hr : HR w (sM 0) ah um) {q : Nat} {si ho' pa wr : Int32} (hsi : okI si 2 = true) (hho : okI ho' 24 = true) (hwr : okI wr 2 = true)
    (e : ∀ k, k ≠ 6 → k ≠ 8 → k ≠ 9 → k ≠ 10 → k ≠ 11 → k ≠ 14 → w2 k = w k) (e9 : w2 9 0 = si) (e10 : w2 10 0 = ho') (e11 : w2 11 0 = pa) (e8 : w2 8 0 = wr) (e14 : w2 14 0 = nI (q + 1)) (e6 : w2 6 = g2)
    (f0 : st2 0 = si) (f1 : st2 1 = ho') (f2 : st2 2 = pa) (f3 : st2 3 = wr) (f : ∀ k, 4 ≤ k → st2 k = sM 0 k) (k1 : Kp g2 (w 6) (vn w 14 0) q (w 9 0) (w 10 0) (w 11 0) (w 8 0)) (k2 : Kp a2 ah (vn w 14 0) q (w 9 0) (w 10 0) (w 11 0) (w 8 0)) : Ok w2 ∧ HR w2 st2 a2 (nI (q + 1)) := by
  obtain ⟨q8, qp, ka, kb, kc, kd, ke⟩ := k1
  obtain ⟨-, -, la, lb, lc, ld, le⟩ := k2
  have v12 : vn w2 12 0 = vn w 12 0 := by unfold vn; rw [e 12 (by decide) (by decide) (by decide) (by decide) (by decide) (by decide)]
  have v13 : vn w2 13 0 = vn w 13 0 := by unfold vn; rw [e 13 (by decide) (by decide) (by decide) (by decide) (by decide) (by decide)]
  have v14 : vn w2 14 0 = q + 1 := by unfold vn; rw [e14, nI_clamp (by omega)]
  have s8 := ho.s8
  have hpa := ho.2.2.2.2.2.2.2.2.2.2.2
  constructor
  · refine ⟨by rw [e9]; exact hsi, by rw [e10]; exact hho, by rw [e8]; exact hwr, ?_, ?_, ?_, ?_, ?_, by rw [e14]; exact okI_nI (by omega) (by omega), ?_, ?_, ?_⟩
    · rw [e 7 (by decide) (by decide) (by decide) (by decide) (by decide) (by decide)]; exact ho.toll
    · rw [e 1 (by decide) (by decide) (by decide) (by decide) (by decide) (by decide)]; exact ho.rate (by decide)
    · rw [e 1 (by decide) (by decide) (by decide) (by decide) (by decide) (by decide)]; exact ho.rate (by decide)
    · rw [e 12 (by decide) (by decide) (by decide) (by decide) (by decide) (by decide)]; exact ho.many
    · rw [e 13 (by decide) (by decide) (by decide) (by decide) (by decide) (by decide)]; exact ho.notes
    · rw [v12, e 3 (by decide) (by decide) (by decide) (by decide) (by decide) (by decide), e 4 (by decide) (by decide) (by decide) (by decide) (by decide) (by decide)]
      exact ho.2.2.2.2.2.2.2.2.2.1
    · rw [v13, e 5 (by decide) (by decide) (by decide) (by decide) (by decide) (by decide)]
      exact ho.2.2.2.2.2.2.2.2.2.2.1
    · rw [v14, e6]
      intro k hk
      by_cases hkq : k = q
      · subst hkq
        rw [kb, kc, ke]
        exact ⟨ho.side, ho.hour, ho.war⟩
      · rw [ka _ (by omega), ka _ (by omega), ka _ (by omega)]
        have := hpa (k + (vn w 14 0 - q)) (by omega)
        rw [show 4 * (k + (vn w 14 0 - q)) = 4 * k + 4 * (vn w 14 0 - q) by omega] at this
        rw [show 4 * k + 1 + 4 * (vn w 14 0 - q) = 4 * k + 4 * (vn w 14 0 - q) + 1 by omega, show 4 * k + 3 + 4 * (vn w 14 0 - q) = 4 * k + 4 * (vn w 14 0 - q) + 3 by omega]
        exact this
  · obtain ⟨h0, h1, h2, h3, h4, h5, h6', h7, h8, h9, h22, hu, hk, hn, hp⟩ := hr
    refine ⟨by rw [f0, e9], by rw [f1, e10], by rw [f2, e11], by rw [f3, e8], ?_, ?_, ?_, ?_, ?_, ?_, ?_, by rw [e14], ?_, ?_, ?_⟩
    · rw [f 4 (by decide), e 7 (by decide) (by decide) (by decide) (by decide) (by decide) (by decide)]; exact h4
    · rw [f 5 (by decide), e 1 (by decide) (by decide) (by decide) (by decide) (by decide) (by decide)]; exact h5
    · rw [f 6 (by decide), e 1 (by decide) (by decide) (by decide) (by decide) (by decide) (by decide)]; exact h6'
    · rw [f 7 (by decide), e 2 (by decide) (by decide) (by decide) (by decide) (by decide) (by decide)]; exact h7
    · rw [f 8 (by decide), e 2 (by decide) (by decide) (by decide) (by decide) (by decide) (by decide)]; exact h8
    · rw [f 9 (by decide), e 12 (by decide) (by decide) (by decide) (by decide) (by decide) (by decide)]; exact h9
    · rw [f 22 (by decide), e 13 (by decide) (by decide) (by decide) (by decide) (by decide) (by decide)]; exact h22
    · rw [v12, e 3 (by decide) (by decide) (by decide) (by decide) (by decide) (by decide), e 4 (by decide) (by decide) (by decide) (by decide) (by decide) (by decide)]
      intro k hk'
      rw [f _ (by omega), f _ (by omega)]
      exact hk k hk'
    · rw [v13, e 5 (by decide) (by decide) (by decide) (by decide) (by decide) (by decide)]
      intro k hk'
      rw [f _ (by omega)]
      exact hn k hk'
    · rw [v14, e6]
      intro k hk'
      by_cases hkq : k < 4 * q
      · rw [ka _ hkq, la _ hkq]
        exact hp _ (by omega)
      · rcases (show k = 4 * q ∨ k = 4 * q + 1 ∨ k = 4 * q + 2 ∨ k = 4 * q + 3 by omega) with rfl | rfl | rfl | rfl
        · rw [kb, lb]
        · rw [kc, lc]
        · rw [kd, ld]
        · rw [ke, le]
theorem step_both {i0 i1 : Option PW} {sF sR sH sM : PW} {sN : PL} (hR : Rel0 i0 i1 sF sR sH sM sN) : ∃ (tH tM : PW), f_House_keepStep sH = some tH ∧ f_Model_noteStep sM sN = some (tM, sN) ∧ (∀ k, k ≠ 6 → k ≠ 14 → tH k = sH k) ∧ (∀ k, k ≠ 13 → k ≠ 14 → tM k = sM k) ∧
    ∀ (si ho pa wr : Int32) (w2 m2 : PW), okI si 2 = true → okI ho 24 = true → okI wr 2 = true → (∀ k, k ≠ 8 → k ≠ 9 → k ≠ 10 → k ≠ 11 → w2 k = tH k) → w2 9 0 = si → w2 10 0 = ho → w2 11 0 = pa → w2 8 0 = wr → (∀ k, k ≠ 0 → m2 k = tM k) → m2 0 0 = si → m2 0 1 = ho → m2 0 2 = pa → m2 0 3 = wr → (∀ k, 4 ≤ k → m2 0 k = tM 0 k) → Rel0 i0 i1 sF sR w2 m2 sN := by
  have hR' := hR
  obtain ⟨h1, h2, -⟩ := hR'
  obtain ⟨h9, e⟩ := okV h1.steps
  obtain ⟨tH, c1, c2, c3, c4⟩ := keep_C h1
  obtain ⟨tM, d1, d2, d3, d4⟩ := note_M sN h1.s8 (h2.steps.trans e)
  refine ⟨tH, tM, c1, d1, c2, d2, ?_⟩
  intro si ho pa wr w2 m2 hsi hho hwr ew e9 e10 e11 e8 em f0 f1 f2 f3 f
  rw [h2.side, h2.hour, h2.paid, h2.war] at d4
  have hm14 : m2 14 0 = nI (qOf (vn sH 14 0) + 1) := by rw [em 14 (by decide)]; exact d3
  have hs := step_rel (w2 := w2) (st2 := m2 0) (a2 := m2 13) (g2 := tH 6) h1 h2 hsi hho hwr (fun k k6 k8 k9 k10 k11 k14 => by rw [ew k k8 k9 k10 k11, c2 k k6 k14]) e9 e10 e11 e8 (by rw [ew 14 (by decide) (by decide) (by decide) (by decide)]; exact c3) (ew 6 (by decide) (by decide) (by decide) (by decide)) f0 f1 f2 f3 (fun k hk => by rw [f k hk, d2 0 (by decide) (by decide)]) c4 (by rw [em 13 (by decide)]; exact d4)
  rw [← hm14] at hs
  exact rel_house hR hs.1 hs.2 (by rw [em 3 (by decide), d2 3 (by decide) (by decide)]) (by rw [em 4 (by decide), d2 4 (by decide) (by decide)]) (by rw [em 5 (by decide), d2 5 (by decide) (by decide)]) (by rw [em 18 (by decide), d2 18 (by decide) (by decide)]) (by rw [em 19 (by decide), d2 19 (by decide) (by decide)]) (by rw [em 20 (by decide), d2 20 (by decide) (by decide)]) (by rw [em 21 (by decide), d2 21 (by decide) (by decide)])
theorem hour_add {h n : Nat} (hh : h < 24) (hn : n ≤ 24) : (nI h + nI n) - (nI h + nI n) / (24 : Int32) * (24 : Int32) = nI ((h + n) % 24) := by
  rw [nI_add, show (24 : Int32) = nI 24 from rfl, nI_rem (by omega) (by decide)]
theorem op_waits : Op_waits Rel0 := by
  intro i0 i1 sF sR sH sM sN hR a1
  have hR' := hR
  obtain ⟨h1, h2, -⟩ := hR'
  obtain ⟨tH, tM, e1, e2, e3, e4, hs⟩ := step_both hR
  unfold f_Face_waits f_Model_waits
  rw [in_eqI, e1, e2]
  have el : (1 : Int64).toInt = 1 := rfl
  have eh : (24 : Int64).toInt = 24 := rfl
  have el' : (1 : Int32).toInt = 1 := rfl
  have eh' : (24 : Int32).toInt = 24 := rfl
  rw [el, eh]
  by_cases c1 : a1 < (1 : Int32)
  · rw [if_pos c1]
    rw [i_lt, el'] at c1
    rw [if_neg (by omega)]
    exact ⟨_, _, _, _, _, rfl, rfl, rel_bad hR⟩
  · rw [if_neg c1]
    rw [i_lt, el'] at c1
    by_cases c2 : a1 ≤ (24 : Int32)
    · rw [if_pos c2]
      rw [i_le, eh'] at c2
      rw [if_pos (by omega)]
      obtain ⟨n, hn, hn2, rfl⟩ := okI_nat (okI_iff.mpr (show 0 ≤ a1.toInt ∧ a1.toInt < (25 : Nat) by omega))
      obtain ⟨hh, eh⟩ := okV h1.hour
      have q1 : tH 10 0 = nI (vn sH 10 0) := by rw [e3 10 (by decide) (by decide)]; exact eh
      have q2 : tM 0 1 = nI (vn sH 10 0) := by rw [e4 0 (by decide) (by decide), h2.hour]; exact eh
      rw [bd_s, bd_s, if_10, bd2_s, nm_s, nm_s, q1, q2, hour_add hh (by omega)]
      refine ⟨_, _, _, _, _, rfl, rfl, hs (sH 9 0) (nI ((vn sH 10 0 + n) % 24)) (sH 11 0) (sH 8 0) _ _ h1.side (okI_nI (Nat.mod_lt _ (by decide)) (by omega)) h1.war ?_ ?_ ?_ ?_ ?_ ?_ ?_ ?_ ?_ ?_ ?_⟩
      · intro k k8 k9 k10 k11; exact up_ne k10
      · show tH 9 0 = _; rw [e3 9 (by decide) (by decide)]
      · rfl
      · show tH 11 0 = _; rw [e3 11 (by decide) (by decide)]
      · show tH 8 0 = _; rw [e3 8 (by decide) (by decide)]
      · intro k k0; exact up_ne k0
      · show tM 0 0 = _; rw [e4 0 (by decide) (by decide)]; exact h2.side
      · rfl
      · show tM 0 2 = _; rw [e4 0 (by decide) (by decide)]; exact h2.paid
      · show tM 0 3 = _; rw [e4 0 (by decide) (by decide)]; exact h2.war
      · intro k hk; exact upd_ne (by omega)
    · rw [if_neg c2]
      rw [i_le, eh'] at c2
      rw [if_neg (by omega)]
      exact ⟨_, _, _, _, _, rfl, rfl, rel_bad hR⟩
theorem op_war : Op_war Rel0 := by
  intro i0 i1 sF sR sH sM sN hR a1
  have hR' := hR
  obtain ⟨h1, h2, -⟩ := hR'
  obtain ⟨tH, tM, e1, e2, e3, e4, hs⟩ := step_both hR
  unfold f_Face_war f_Model_war
  rw [show f_Face_within a1 (1 : Int32) = some (if okI a1 2 = true then 1 else 0) from within_eq a1 (m := 1) (by decide), in0_eq a1 (m := 1) rfl, e1, e2, warBit_eq h1]
  by_cases c : okI a1 2 = true
  · rw [if_pos c]
    have q3 : tM 0 3 = sH 8 0 := by rw [e4 0 (by decide) (by decide)]; exact h2.war
    simp only [bd_s, if_10, bd2_s, nm_s]
    rw [q3]
    have main : Rel0 i0 i1 sF sR (up tH 8 (fun _ => a1)) (up tM 0 (upd (tM 0) 3 a1)) sN := by
      refine hs (sH 9 0) (sH 10 0) (sH 11 0) a1 _ _ h1.side h1.hour c ?_ ?_ ?_ ?_ ?_ ?_ ?_ ?_ ?_ ?_ ?_
      · intro k k8 k9 k10 k11; exact up_ne k8
      · show tH 9 0 = _; rw [e3 9 (by decide) (by decide)]
      · show tH 10 0 = _; rw [e3 10 (by decide) (by decide)]
      · show tH 11 0 = _; rw [e3 11 (by decide) (by decide)]
      · rfl
      · intro k k0; exact up_ne k0
      · show tM 0 0 = _; rw [e4 0 (by decide) (by decide)]; exact h2.side
      · show tM 0 1 = _; rw [e4 0 (by decide) (by decide)]; exact h2.hour
      · show tM 0 2 = _; rw [e4 0 (by decide) (by decide)]; exact h2.paid
      · rfl
      · intro k hk; exact upd_ne (by omega)
    obtain ⟨j, hj, -, rfl⟩ := okI_nat c
    rcases (show j = 0 ∨ j = 1 by omega) with rfl | rfl
    · exact ⟨_, _, _, _, _, rfl, rfl, main⟩
    · exact ⟨_, _, _, _, _, rfl, rfl, main⟩
  · rw [if_neg c]
    exact ⟨_, _, _, _, _, rfl, rfl, rel_bad hR⟩
theorem toll_C {w : PW} {a b : Int32} : f_House_tollTo w a b = some (if a = b then 0 else w 7 0) := by
  unfold f_House_tollTo
  split <;> rfl
def vOf (w : PW) (d s h : Nat) : Int32 := nI (dueN w d s h) + (if w 9 0 = nI s then (0 : Int32) else w 7 0)
theorem perf_C {w t : PW} (ho : Ok w) {d s : Nat} (hd : d < vn w 12 0) (hs : s < 2) (ht : f_House_keepStep w = some t) (h10 : t 10 0 = w 10 0) (h11 : t 11 0 = w 11 0) : f_House_perform w (nI d) (nI s) = some (vOf w d s (vn w 10 0), up (up (up t 9 (fun _ => nI s)) 10 (fun _ => nI ((vn w 10 0 + 1) % 24))) 11 (fun _ => w 11 0 + vOf w d s (vn w 10 0))) := by
  obtain ⟨hh, eh⟩ := okV ho.hour
  unfold f_House_perform
  rw [eh, due_C ho hd hs hh, toll_C, ht, bd_s, bd_s, nm_s, bd_s]
  simp only [nm_s]
  rw [show up t 9 (fun _ => nI s) 10 0 = nI (vn w 10 0) from h10.trans eh]
  rw [show (nI (vn w 10 0) + (1 : Int32)) - (nI (vn w 10 0) + (1 : Int32)) / (24 : Int32) * (24 : Int32) = nI ((vn w 10 0 + 1) % 24) from hour_add hh (n := 1) (by omega)]
  rw [show up (up t 9 (fun _ => nI s)) 10 (fun _ => nI ((vn w 10 0 + 1) % 24)) 11 0 = w 11 0 from h11]
  rfl
theorem isDone_M {w sM : PW} {sN : PL} {ah : Nat → Int32} {um : Int32} (ho : Ok w) (hr : HR w (sM 0) ah um) {d s : Nat} (hd : d < vn w 12 0) (hs : s < 2) : f_Model_isDone sM sN (nI d) (nI s) = some (vOf w d s (vn w 10 0), up sM 0 (upd (upd (upd (sM 0) 0 (nI s)) 2 (w 11 0 + vOf w d s (vn w 10 0))) 1 (nI ((vn w 10 0 + 1) % 24))), sN) := by
  obtain ⟨hh, eh⟩ := okV ho.hour
  have main : ∀ x, f_Model_isDone_J32 (nI s) sM sN (nI (dueN w d s (vn w 10 0))) x = some (nI (dueN w d s (vn w 10 0)) + x, up sM 0 (upd (upd (upd (sM 0) 0 (nI s)) 2 (w 11 0 + (nI (dueN w d s (vn w 10 0)) + x))) 1 (nI ((vn w 10 0 + 1) % 24))), sN) := by
    intro x
    unfold f_Model_isDone_J32
    simp only [nm_s, up_up, up_eq]
    rw [show upd (upd (sM 0) 0 (nI s)) 2 (upd (sM 0) 0 (nI s) 2 + (nI (dueN w d s (vn w 10 0)) + x)) 1 = nI (vn w 10 0) from hr.hour.trans eh, show upd (sM 0) 0 (nI s) 2 = w 11 0 from hr.paid]
    rw [show (nI (vn w 10 0) + (1 : Int32)) - (nI (vn w 10 0) + (1 : Int32)) / (24 : Int32) * (24 : Int32) = nI ((vn w 10 0 + 1) % 24) from hour_add hh (n := 1) (by omega)]
  unfold f_Model_isDone
  rw [hr.hour, eh, due_M ho hr hd hs hh, bd_s, hr.side, hr.toll, main, main]
  unfold vOf
  by_cases c : nI s = w 9 0
  · rw [if_pos c, if_pos c.symm]
  · rw [if_neg c, if_neg (fun q => c q.symm)]
theorem op_does : Op_does Rel0 := by
  intro i0 i1 sF sR sH sM sN hR a1 a2
  have hR' := hR
  obtain ⟨h1, h2, -⟩ := hR'
  obtain ⟨tH, tM, e1, e2, e3, e4, hs⟩ := step_both hR
  obtain ⟨hh, eh⟩ := okV h1.hour
  unfold f_Face_does f_Model_does
  rw [doing_C h1, doing_M h1 h2, side_C, side_M]
  by_cases c1 : okI a1 (vn sH 12 0) = true
  · rw [if_pos c1]
    by_cases c2 : okI a2 2 = true
    · rw [if_pos c2]
      have c2' := c2
      obtain ⟨d, hd, hd2, rfl⟩ := okI_nat c1
      obtain ⟨s, hs', hs2, rfl⟩ := okI_nat c2
      have hr3 : HR sH (tM 0) (sM 13) (sM 14 0) := by rw [e4 0 (by decide) (by decide)]; exact h2
      rw [perf_C h1 hd hs' e1 (congrFun (e3 10 (by decide) (by decide)) 0) (congrFun (e3 11 (by decide) (by decide)) 0), e2, h2.hour, eh, let_C h1 hd hs' hh, let_M h1 h2 hd hs' hh]
      cases letB sH d s (vn sH 10 0)
      · exact ⟨_, _, _, _, _, rfl, rfl, rel_no hR⟩
      · rw [bd2_s, bd2_s, isDone_M h1 hr3 hd hs', bd3_s]
        generalize vOf sH d s (vn sH 10 0) = v
        refine ⟨_, _, _, _, _, rfl, rfl, hs (nI s) (nI ((vn sH 10 0 + 1) % 24)) (sH 11 0 + v) (sH 8 0) _ _ c2' (okI_nI (Nat.mod_lt _ (by decide)) (by omega)) h1.war ?_ ?_ ?_ ?_ ?_ ?_ ?_ ?_ ?_ ?_ ?_⟩
        · intro k k8 k9 k10 k11; rw [up_ne k11, up_ne k10, up_ne k9]
        · rfl
        · rfl
        · rfl
        · show tH 8 0 = _; rw [e3 8 (by decide) (by decide)]
        · intro k k0; rw [up_ne k0]
        · rfl
        · rfl
        · rfl
        · exact hr3.war
        · intro k hk
          rw [up_eq, upd_ne (by omega), upd_ne (by omega), upd_ne (by omega)]
    · rw [if_neg c2]
      exact ⟨_, _, _, _, _, rfl, rfl, rel_bad hR⟩
  · rw [if_neg c1]
    exact ⟨_, _, _, _, _, rfl, rfl, rel_bad hR⟩
