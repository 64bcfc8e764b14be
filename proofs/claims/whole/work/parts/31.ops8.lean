/-! ===== is, both ===== -/
theorem loop_dn {σ ρ : Type} {body : (σ → Option ρ) → σ → Option ρ} (S : Nat → σ) (R : Nat → Option ρ) (n fuel : Nat) (hf : n < fuel) (hs : ∀ i, i < n → ∀ K, K (S (i + 1)) = R (i + 1) → body K (S i) = R i) (he : ∀ K, body K (S n) = R n) : loopF body fuel (S 0) = R 0 := by
  have main : ∀ (m i fuel : Nat), i + m = n → m < fuel → loopF body fuel (S i) = R i := by
    intro m
    induction m with
    | zero =>
      intro i fuel h1 h2
      obtain ⟨f, rfl⟩ : ∃ f, fuel = f + 1 := ⟨fuel - 1, by omega⟩
      have : i = n := by omega
      subst this
      exact he _
    | succ m ih =>
      intro i fuel h1 h2
      obtain ⟨f, rfl⟩ : ∃ f, fuel = f + 1 := ⟨fuel - 1, by omega⟩
      exact hs i (by omega) _ (ih (i + 1) f (by omega) (by omega))
  exact main n 0 fuel (by omega) hf
def allD (f : Nat → Bool) : Nat → Nat → Bool
  | _, 0 => true
  | i, m + 1 => f i && allD f (i + 1) m
def allU (f : Nat → Bool) : Nat → Bool
  | 0 => true
  | i + 1 => allU f i && f i
theorem allUD (f : Nat → Bool) : ∀ m i, (allU f i && allD f i m) = allU f (i + m)
  | 0, i => by simp [allD]
  | m + 1, i => by
    have := allUD f m (i + 1)
    rw [show i + (m + 1) = i + 1 + m by omega, ← this]
    simp [allD, allU, Bool.and_assoc]
theorem allD0 (f : Nat → Bool) (n : Nat) : allD f 0 n = allU f n := by
  have := allUD f n 0
  rw [Nat.zero_add] at this
  rw [← this]
  simp [allU]
def fitB (w : PW) (d k j : Nat) : Bool := !decide (w 5 (5 * j) = nI d) || decide (nI (prN k (vn w 4 d) (vn w 5 (5 * j + 1)) (vn w 1 (vn w 5 (5 * j + 1))) (vn w 5 (5 * j + 2)) (vn w 5 (5 * j + 3))) = w 5 (5 * j + 4))
theorem fits_C {sC w : PW} (ho : Ok w) {d k : Nat} (hd : d < vn w 12 0) (hk : k < 6) : f_Clerk_fitsNotes sC w (nI k) (nI d) = some (b2 (allU (fitB w d k) (vn w 13 0))) := by
  obtain ⟨h8, en⟩ := okV ho.notes
  unfold f_Clerk_fitsNotes
  rw [← allD0]
  have := loop_dn (body := f_Clerk_fitsNotes_L2 (nI k) (nI d) w) (fun i => nI i) (fun i => some (b2 (allD (fitB w d k) i (vn w 13 0 - i)))) (vn w 13 0) 4000 (by omega) ?_ ?_
  · rw [Nat.sub_zero] at this; exact this
  · intro i hi K hK
    obtain ⟨n1, n2, n3⟩ := ho.note hi
    obtain ⟨s1, e1⟩ := okV n1
    obtain ⟨s2, e2⟩ := okV n2
    obtain ⟨s3, e3⟩ := okV n3
    simp only [f_Clerk_fitsNotes_L2, f_Clerk_fitsNotes_J53]
    rw [if_neg (by rw [en]; exact nI_ge hi (by omega)), show nI i * (5 : Int32) = nI (5 * i) by rw [show (5 : Int32) = nI 5 from rfl, nI_mul, Nat.mul_comm], nm_s, show nI (5 * i) + (1 : Int32) = nI (5 * i + 1) from nI_add _ 1, show nI (5 * i) + (2 : Int32) = nI (5 * i + 2) from nI_add _ 2, show nI (5 * i) + (3 : Int32) = nI (5 * i + 3) from nI_add _ 3, show nI (5 * i) + (4 : Int32) = nI (5 * i + 4) from nI_add _ 4, okI_nI (show 5 * i < 30 by omega) (by omega), okI_nI (show 5 * i + 1 < 30 by omega) (by omega), okI_nI (show 5 * i + 2 < 30 by omega) (by omega), okI_nI (show 5 * i + 3 < 30 by omega) (by omega), okI_nI (show 5 * i + 4 < 30 by omega) (by omega), nI_clamp (by omega), nI_clamp (by omega), nI_clamp (by omega), nI_clamp (by omega), nI_clamp (by omega), show nI i + (1 : Int32) = nI (i + 1) from nI_add i 1]
    simp only [gd_t, nm_s, hK]
    show _ = some (b2 (allD (fitB w d k) i (vn w 13 0 - i)))
    rw [show vn w 13 0 - i = (vn w 13 0 - (i + 1)) + 1 by omega]
    show _ = some (b2 (fitB w d k i && allD (fitB w d k) (i + 1) (vn w 13 0 - (i + 1))))
    have hp : ∀ x : Int32, x = w 5 (5 * i + 3) → f_House_priceAs w (nI k) (nI d) (w 5 (5 * i + 1)) (w 5 (5 * i + 2)) x = some (nI (prN k (vn w 4 d) (vn w 5 (5 * i + 1)) (vn w 1 (vn w 5 (5 * i + 1))) (vn w 5 (5 * i + 2)) (vn w 5 (5 * i + 3)))) := by
      intro x hx
      rw [hx, e1, e2, e3]
      exact pas_as_C ho hk hd s1 s2 s3
    unfold fitB
    by_cases c : w 5 (5 * i) = nI d
    · rw [if_pos c, decide_eq_true c, Bool.not_true, Bool.false_or]
      have hif : ∀ X Y : Option Int32, (w 5 (5 * i + 3) = 1 → X = Y) → True := fun _ _ _ => trivial
      rcases (show vn w 5 (5 * i + 3) = 0 ∨ vn w 5 (5 * i + 3) = 1 by omega) with q | q
      · rw [if_neg (by rw [e3, q]; decide), hp 0 (by rw [e3, q]; rfl), bd_s]
        by_cases c2 : nI (prN k (vn w 4 d) (vn w 5 (5 * i + 1)) (vn w 1 (vn w 5 (5 * i + 1))) (vn w 5 (5 * i + 2)) (vn w 5 (5 * i + 3))) = w 5 (5 * i + 4)
        · rw [if_pos c2, decide_eq_true c2]; rfl
        · rw [if_neg c2, decide_eq_false c2]; rfl
      · rw [if_pos (by rw [e3, q]; rfl), hp 1 (by rw [e3, q]; rfl), bd_s]
        by_cases c2 : nI (prN k (vn w 4 d) (vn w 5 (5 * i + 1)) (vn w 1 (vn w 5 (5 * i + 1))) (vn w 5 (5 * i + 2)) (vn w 5 (5 * i + 3))) = w 5 (5 * i + 4)
        · rw [if_pos c2, decide_eq_true c2]; rfl
        · rw [if_neg c2, decide_eq_false c2]; rfl
    · rw [if_neg c, decide_eq_false c]; rfl
  · intro K
    simp only [f_Clerk_fitsNotes_L2]
    rw [if_pos (by rw [en]; exact nI_le (Nat.le_refl _) (by omega)), Nat.sub_self]
    rfl
def kinds (w : PW) (d : Nat) : Int32 := accB (fun k => allU (fitB w d k) (vn w 13 0)) 6
theorem kinds_C {sC w : PW} (ho : Ok w) {d : Nat} (hd : d < vn w 12 0) : f_Clerk_kindsThatFit sC w (nI d) = some (kinds w d) := by
  unfold f_Clerk_kindsThatFit kinds
  generalize hf : (fun k => allU (fitB w d k) (vn w 13 0)) = f
  refine loop_seq (fun i => (accB f i, nI i)) 6 4000 (by decide) ?_ ?_
  · intro i hi K
    simp only [f_Clerk_kindsThatFit_L4]
    rw [if_neg (by rw [show (6 : Int32) = nI 6 from rfl]; exact nI_ge hi (by decide)), fits_C ho hd hi, bd_s, show allU (fitB w d i) (vn w 13 0) = f i by rw [← hf], show nI i + (1 : Int32) = nI (i + 1) from nI_add i 1]
    simp only [nm_s]
    show _ = K ((if f i = true then accB f i ||| ((1 : Int32) <<< (nI i &&& 31)) else accB f i), nI (i + 1))
    cases f i <;> rfl
  · intro K
    simp only [f_Clerk_kindsThatFit_L4]
    rw [if_pos (show (6 : Int32) ≤ nI 6 by decide)]
theorem kinds_M {w sM : PW} {sN : PL} {ah : Nat → Int32} {um : Int32} (ho : Ok w) (hr : HR w (sM 0) ah um) {d : Nat} (hd : d < vn w 12 0) : f_Model_kindsOf sM sN (nI d) = some (kinds w d) := by
  have m6 := ho.m6
  obtain ⟨h8, en⟩ := okV ho.notes
  obtain ⟨hwo, ewo⟩ := okV (ho.worth hd)
  unfold f_Model_kindsOf kinds
  generalize hf : (fun k => allU (fitB w d k) (vn w 13 0)) = f
  refine loop_seq (fun i => (accB f i, nI i)) 6 4000 (by decide) ?_ ?_
  · intro k hk K
    simp only [f_Model_kindsOf_L4]
    rw [if_neg (by rw [show (5 : Int32) = nI 5 from rfl]; exact nI_nlt (by omega) (by decide))]
    refine loop_seq (fun i => (b2 (allU (fitB w d k) i), nI i)) (vn w 13 0) 4000 (by omega) ?_ ?_
    · intro i hi K2
      obtain ⟨n1, n2, n3⟩ := ho.note hi
      obtain ⟨s1, e1⟩ := okV n1
      obtain ⟨s2, e2⟩ := okV n2
      obtain ⟨s3, e3⟩ := okV n3
      simp only [f_Model_kindsOf_L15]
      rw [if_neg (by rw [hr.notes, en]; exact nI_ge hi (by omega)), show (5 : Int32) * nI i = nI (5 * i) from nI_mul 5 i, show (23 : Int32) + nI (5 * i) = nI (23 + 5 * i) from nI_add 23 _, nm_s, show nI (23 + 5 * i) + (1 : Int32) = nI (23 + (5 * i + 1)) from nI_add _ 1, show nI (23 + 5 * i) + (2 : Int32) = nI (23 + (5 * i + 2)) from nI_add _ 2, show nI (23 + 5 * i) + (3 : Int32) = nI (23 + (5 * i + 3)) from nI_add _ 3, show nI (23 + 5 * i) + (4 : Int32) = nI (23 + (5 * i + 4)) from nI_add _ 4, show (16 : Int32) + nI d = nI (16 + d) from nI_add 16 d, okI_nI (show 23 + 5 * i < 53 by omega) (by omega), okI_nI (show 23 + (5 * i + 1) < 53 by omega) (by omega), okI_nI (show 23 + (5 * i + 2) < 53 by omega) (by omega), okI_nI (show 23 + (5 * i + 3) < 53 by omega) (by omega), okI_nI (show 23 + (5 * i + 4) < 53 by omega) (by omega), okI_nI (show 16 + d < 53 by omega) (by omega), nI_clamp (by omega), nI_clamp (by omega), nI_clamp (by omega), nI_clamp (by omega), nI_clamp (by omega), nI_clamp (by omega), hr.note (show 5 * i < 5 * vn w 13 0 by omega), hr.note (show 5 * i + 1 < 5 * vn w 13 0 by omega), hr.note (show 5 * i + 2 < 5 * vn w 13 0 by omega), hr.note (show 5 * i + 3 < 5 * vn w 13 0 by omega), hr.note (show 5 * i + 4 < 5 * vn w 13 0 by omega), hr.worth hd, show nI i + (1 : Int32) = nI (i + 1) from nI_add i 1]
      have hp : f_Model_dueBy sM sN (nI k) (w 4 d) (w 5 (5 * i + 1)) (w 5 (5 * i + 2)) (w 5 (5 * i + 3)) = some (nI (prN k (vn w 4 d) (vn w 5 (5 * i + 1)) (vn w 1 (vn w 5 (5 * i + 1))) (vn w 5 (5 * i + 2)) (vn w 5 (5 * i + 3)))) := by
        have := dueBy_M (sN := sN) ho hr hk hwo s1 s2 s3
        rw [← e1, ← e2, ← e3, ← ewo] at this
        exact this
      simp only [gd_t, nm_s, hp, bd_s]
      show _ = K2 (b2 (allU (fitB w d k) i && fitB w d k i), nI (i + 1))
      unfold fitB
      by_cases c : w 5 (5 * i) = nI d
      · rw [if_pos c, decide_eq_true c, Bool.not_true, Bool.false_or]
        by_cases c2 : nI (prN k (vn w 4 d) (vn w 5 (5 * i + 1)) (vn w 1 (vn w 5 (5 * i + 1))) (vn w 5 (5 * i + 2)) (vn w 5 (5 * i + 3))) = w 5 (5 * i + 4)
        · rw [if_pos c2, decide_eq_true c2]
          generalize allU _ i = a
          cases a <;> rfl
        · rw [if_neg c2, decide_eq_false c2]
          generalize allU _ i = a
          cases a <;> rfl
      · rw [if_neg c, decide_eq_false c]
        generalize allU _ i = a
        cases a <;> rfl
    · intro K2
      simp only [f_Model_kindsOf_L15]
      rw [if_pos (by rw [hr.notes, en]; exact nI_le (Nat.le_refl _) (by omega)), show allU (fitB w d k) (vn w 13 0) = f k by rw [← hf], show nI k + (1 : Int32) = nI (k + 1) from nI_add k 1]
      simp only [nm_s]
      rw [Int32.or_zero]
      show _ = K ((if f k = true then accB f k ||| ((1 : Int32) <<< (nI k &&& 31)) else accB f k), nI (k + 1))
      cases f k <;> rfl
  · intro K
    simp only [f_Model_kindsOf_L4]
    rw [if_pos (show (5 : Int32) < nI 6 by decide)]
theorem op_is : Op_is Rel0 := by
  intro i0 i1 sF sR sH sM sN sC hR a1
  have hR' := hR
  obtain ⟨h1, h2, -⟩ := hR'
  unfold f_Face_is f_Model_is
  rw [doing_C h1, doing_M h1 h2]
  by_cases c1 : okI a1 (vn sH 12 0) = true
  · rw [if_pos c1]
    obtain ⟨d, hd, -, rfl⟩ := okI_nat c1
    rw [kinds_C h1 hd, kinds_M h1 h2 hd]
    exact ⟨_, _, _, _, rfl, rfl, hR⟩
  · rw [if_neg c1]
    exact ⟨_, _, _, _, rfl, rfl, rel_bad hR⟩
/-! bits of a set of hours -/
def gb (x : Int32) (k : Nat) : Bool := x.toBitVec.getLsbD k
theorem gb_ext {x y : Int32} (h : ∀ k, k < 32 → gb x k = gb y k) : x = y := Int32.toBitVec_inj.mp (BitVec.eq_of_getLsbD_eq fun i hi => h i hi)
theorem one_bits : ∀ h, h < 32 → ∀ k, k < 32 → gb ((1 : Int32) <<< (nI h &&& 31)) k = decide (k = h) := by decide +kernel
theorem gb_or {x : Int32} {h k : Nat} (hh : h < 32) (hk : k < 32) : gb (x ||| ((1 : Int32) <<< (nI h &&& 31))) k = (gb x k || decide (k = h)) := by
  rw [← one_bits h hh k hk]
  unfold gb
  rw [Int32.toBitVec_or, BitVec.getLsbD_or]
theorem gb_0 (k : Nat) : gb 0 k = false := BitVec.getLsbD_zero
theorem sh_amt : ∀ h, h < 32 → ((nI h &&& 31).toBitVec.smod 32).toNat = h := by decide +kernel
theorem one_low : ∀ k, k < 32 → gb 1 k = decide (k = 0) := by decide +kernel
theorem bitB_gb {x : Int32} {h : Nat} (hh : h < 32) : bitB x h = gb x h := by
  unfold bitB
  have e : gb (x >>> (nI h &&& 31)) 0 = gb x h := by
    unfold gb
    rw [Int32.toBitVec_shiftRight, BitVec.sshiftRight_eq', sh_amt h hh, BitVec.getLsbD_sshiftRight]
    simp [hh]
  have k : ∀ y : Int32, (y &&& 1 = 1 ↔ gb y 0 = true) := by
    intro y
    constructor
    · intro q
      have : gb (y &&& 1) 0 = true := by rw [q]; rfl
      unfold gb at this ⊢
      rw [Int32.toBitVec_and, BitVec.getLsbD_and] at this
      exact (Bool.and_eq_true _ _ ▸ this).1
    · intro q
      apply gb_ext
      intro i hi
      have : gb (y &&& 1) i = (gb y i && gb 1 i) := by unfold gb; rw [Int32.toBitVec_and, BitVec.getLsbD_and]
      rw [this, one_low i hi]
      by_cases ei : i = 0
      · subst ei; rw [q]; rfl
      · rw [decide_eq_false ei, Bool.and_false]
  rw [← e]
  cases hb : gb (x >>> (nI h &&& 31)) 0 with
  | true => exact decide_eq_true ((k _).mpr hb)
  | false => exact decide_eq_false fun q => by rw [(k _).mp q] at hb; cases hb
