/-! ===== the pure side: numbers ===== -/
theorem i_lt {a b : Int32} : a < b ↔ a.toInt < b.toInt := Int32.lt_iff_toInt_lt
theorem i_le {a b : Int32} : a ≤ b ↔ a.toInt ≤ b.toInt := Int32.le_iff_toInt_le
theorem i_eq {a b : Int32} : a = b ↔ a.toInt = b.toInt := Int32.toInt_inj.symm
theorem i_bm {z : Int} (h : -2147483648 ≤ z) (h2 : z < 2147483648) : z.bmod 4294967296 = z := Int.bmod_eq_of_le (by omega) (by omega)
theorem ad_toInt {a b : Int32} (h : -2147483648 ≤ a.toInt + b.toInt) (h2 : a.toInt + b.toInt < 2147483648) : (a + b).toInt = a.toInt + b.toInt := by
  rw [Int32.toInt_add]; exact i_bm h h2
theorem nI_mul (a b : Nat) : nI a * nI b = nI (a * b) := (Int32.ofNat_mul a b).symm
theorem nI_sub {a b : Nat} (h : b ≤ a) (ha : a < 2 ^ 31) : nI a - nI b = nI (a - b) := by
  rw [i_eq, sb_toInt, nI_toInt ha, nI_toInt (by omega), nI_toInt (by omega)]
  · omega
  · rw [nI_toInt ha, nI_toInt (by omega)]; omega
  · rw [nI_toInt ha, nI_toInt (by omega)]; omega
theorem nI_div {a b : Nat} (ha : a < 2 ^ 31) (hb : b < 2 ^ 31) : nI a / nI b = nI (a / b) := by
  have hd : a / b ≤ a := Nat.div_le_self a b
  rw [i_eq, Int32.toInt_div, nI_toInt ha, nI_toInt hb, nI_toInt (by omega)]
  rw [Int.tdiv_eq_ediv_of_nonneg (by omega), ← Int.natCast_ediv]
  generalize a / b = q at hd ⊢
  exact i_bm (by omega) (by omega)
theorem nI_rem {a b : Nat} (ha : a < 2 ^ 31) (hb : b < 2 ^ 31) : nI a - nI a / nI b * nI b = nI (a % b) := by
  have hd : a / b * b ≤ a := Nat.div_mul_le_self a b
  rw [nI_div ha hb, nI_mul, nI_sub hd ha]
  congr 1
  have := Nat.div_add_mod a b
  rw [Nat.mul_comm] at this
  omega
theorem okI_nI {j n : Nat} (h : j < n) (hj : j < 2 ^ 31) : okI (nI j) n = true := by
  unfold okI
  rw [nI_toInt hj]
  simp
  omega
theorem okI_nat {x : Int32} {n : Nat} (h : okI x n = true) : ∃ j : Nat, j < n ∧ j < 2 ^ 31 ∧ x = nI j := by
  unfold okI at h
  rw [Bool.and_eq_true, decide_eq_true_eq, decide_eq_true_eq] at h
  have hr : x.toInt < 2147483648 := by
    have := Int32.toInt_lt x
    simpa using this
  refine ⟨x.toInt.toNat, by omega, by omega, ?_⟩
  rw [i_eq, nI_toInt (by omega)]
  omega
theorem okI_cl {x : Int32} {n : Nat} (h : okI x n = true) : x.toNatClampNeg < n ∧ x = nI x.toNatClampNeg := by
  obtain ⟨j, h1, h2, rfl⟩ := okI_nat h
  rw [nI_clamp h2]
  exact ⟨h1, rfl⟩
theorem okI_mono {x : Int32} {n m : Nat} (h : okI x n = true) (hm : n ≤ m) : okI x m = true := by
  obtain ⟨j, h1, h2, rfl⟩ := okI_nat h
  exact okI_nI (by omega) h2
theorem isZ_nI {x : Int32} (h : okI x 2 = true) : isZ x = true := by
  obtain ⟨j, h1, h2, rfl⟩ := okI_nat h
  rcases (show j = 0 ∨ j = 1 by omega) with rfl | rfl <;> rfl
theorem nI_inj {a b : Nat} (ha : a < 2 ^ 31) (hb : b < 2 ^ 31) (h : nI a = nI b) : a = b := (nI_eq ha hb).mp h
/-! the arguments' bounds, as both sides see them -/
theorem okI_iff {a : Int32} {n : Nat} : okI a n = true ↔ 0 ≤ a.toInt ∧ a.toInt < n := by
  unfold okI
  rw [Bool.and_eq_true, decide_eq_true_eq, decide_eq_true_eq]
theorem within_eq (a : Int32) {m : Nat} (hm : m < 2 ^ 31 - 1) : f_Face_within a (nI m) = some (if okI a (m + 1) = true then 1 else 0) := by
  unfold f_Face_within
  have e0 : (0 : Int32).toInt = 0 := rfl
  have em : (nI m).toInt = m := nI_toInt (by omega)
  by_cases h1 : a < 0
  · rw [if_pos h1, if_neg]
    rw [okI_iff]
    rw [i_lt, e0] at h1
    omega
  · rw [if_neg h1]
    rw [i_lt, e0] at h1
    by_cases h2 : nI m < a
    · rw [if_pos h2, if_neg]
      rw [i_lt, em] at h2
      rw [okI_iff]
      omega
    · rw [if_neg h2, if_pos]
      rw [i_lt, em] at h2
      rw [okI_iff]
      omega
theorem lg_lt {x y : Int64} : lg_cmp x y < 0 ↔ x.toInt < y.toInt := by
  unfold lg_cmp
  by_cases h : y < x
  · rw [if_pos h]
    rw [Int64.lt_iff_toInt_lt] at h
    exact ⟨fun q => absurd q (by decide), fun q => by omega⟩
  · rw [if_neg h]
    rw [Int64.lt_iff_toInt_lt] at h
    by_cases h2 : x = y
    · rw [if_pos h2, h2]
      exact ⟨fun q => absurd q (by decide), fun q => by omega⟩
    · rw [if_neg h2]
      have : x.toInt ≠ y.toInt := fun e => h2 (Int64.toInt_inj.mp e)
      exact ⟨fun _ => by omega, fun _ => by decide⟩
theorem lg_gt {x y : Int64} : 0 < lg_cmp x y ↔ y.toInt < x.toInt := by
  unfold lg_cmp
  by_cases h : y < x
  · rw [if_pos h]
    rw [Int64.lt_iff_toInt_lt] at h
    exact ⟨fun _ => h, fun _ => by decide⟩
  · rw [if_neg h]
    rw [Int64.lt_iff_toInt_lt] at h
    by_cases h2 : x = y
    · rw [if_pos h2, h2]
      exact ⟨fun q => absurd q (by decide), fun q => by omega⟩
    · rw [if_neg h2]
      exact ⟨fun q => absurd q (by decide), fun q => by omega⟩
theorem in_eq (a : Int32) {lo hi : Int64} {l m : Nat} (hlo : lo.toInt = l) (hhi : hi.toInt = m) : f_Model_in a.toInt64 lo hi = some (if (l : Int) ≤ a.toInt ∧ a.toInt ≤ m then 1 else 0) := by
  unfold f_Model_in
  by_cases h1 : lg_cmp a.toInt64 lo < 0
  · rw [if_pos h1]
    rw [lg_lt, Int32.toInt_toInt64, hlo] at h1
    rw [if_neg (by omega)]
  · rw [if_neg h1]
    rw [lg_lt, Int32.toInt_toInt64, hlo] at h1
    by_cases h2 : 0 < lg_cmp a.toInt64 hi
    · rw [if_pos h2]
      rw [lg_gt, Int32.toInt_toInt64, hhi] at h2
      rw [if_neg (by omega)]
    · rw [if_neg h2]
      rw [lg_gt, Int32.toInt_toInt64, hhi] at h2
      rw [if_pos (by omega)]
theorem in0_eq (a : Int32) {hi : Int64} {m : Nat} (hhi : hi.toInt = m) : f_Model_in a.toInt64 0 hi = some (if okI a (m + 1) = true then 1 else 0) := by
  rw [in_eq a (l := 0) rfl hhi]
  congr 1
  by_cases h : okI a (m + 1) = true
  · rw [if_pos h, if_pos]
    rw [okI_iff] at h
    omega
  · rw [if_neg h, if_neg]
    rw [okI_iff] at h
    omega
/-! loops by their states -/
theorem loop_seq {σ ρ : Type} {body : (σ → Option ρ) → σ → Option ρ} (S : Nat → σ) {r : Option ρ} : ∀ (n fuel : Nat), n < fuel → (∀ i, i < n → ∀ K, body K (S i) = K (S (i + 1))) → (∀ K, body K (S n) = r) → loopF body fuel (S 0) = r := by
  have main : ∀ (n : Nat) (S : Nat → σ) (fuel : Nat), n < fuel → (∀ i, i < n → ∀ K, body K (S i) = K (S (i + 1))) → (∀ K, body K (S n) = r) → loopF body fuel (S 0) = r := by
    intro n
    induction n with
    | zero =>
      intro S fuel hf _ he
      obtain ⟨f, rfl⟩ : ∃ f, fuel = f + 1 := ⟨fuel - 1, by omega⟩
      exact he _
    | succ n ih =>
      intro S fuel hf hs he
      obtain ⟨f, rfl⟩ : ∃ f, fuel = f + 1 := ⟨fuel - 1, by omega⟩
      show body (loopF body f) (S 0) = r
      rw [hs 0 (by omega)]
      exact ih (fun i => S (i + 1)) f (by omega) (fun i hi K => hs (i + 1) (by omega) K) he
  exact fun n fuel hf hs he => main n S fuel hf hs he
