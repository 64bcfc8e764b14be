/-! ===== what is true of a house, and how the model's cells stand to it ===== -/
def vn (w : PW) (k j : Nat) : Nat := (w k j).toNatClampNeg
def Ok (w : PW) : Prop :=
  okI (w 9 0) 2 = true ∧ okI (w 10 0) 24 = true ∧ okI (w 8 0) 2 = true ∧ okI (w 7 0) 10 = true ∧ okI (w 1 0) 10 = true ∧ okI (w 1 1) 10 = true ∧ okI (w 12 0) 7 = true ∧ okI (w 13 0) 7 = true ∧ okI (w 14 0) 9 = true ∧
  (∀ k, k < vn w 12 0 → okI (w 3 k) 6 = true ∧ okI (w 4 k) 21 = true) ∧
  (∀ k, k < vn w 13 0 → okI (w 5 (5 * k + 1)) 2 = true ∧ okI (w 5 (5 * k + 2)) 24 = true ∧ okI (w 5 (5 * k + 3)) 2 = true) ∧
  ∀ k, k < vn w 14 0 → okI (w 6 (4 * k)) 2 = true ∧ okI (w 6 (4 * k + 1)) 24 = true ∧ okI (w 6 (4 * k + 3)) 2 = true
def HR (w : PW) (st ah : Nat → Int32) (um : Int32) : Prop :=
  st 0 = w 9 0 ∧ st 1 = w 10 0 ∧ st 2 = w 11 0 ∧ st 3 = w 8 0 ∧ st 4 = w 7 0 ∧ st 5 = w 1 0 ∧ st 6 = w 1 1 ∧ st 7 = w 2 0 ∧ st 8 = w 2 1 ∧ st 9 = w 12 0 ∧ st 22 = w 13 0 ∧ um = w 14 0 ∧
  (∀ k, k < vn w 12 0 → st (10 + k) = w 3 k ∧ st (16 + k) = w 4 k) ∧ (∀ k, k < 5 * vn w 13 0 → st (23 + k) = w 5 k) ∧ ∀ k, k < 4 * vn w 14 0 → ah k = w 6 k
theorem Ok.side {w : PW} (h : Ok w) : okI (w 9 0) 2 = true := h.1
theorem Ok.hour {w : PW} (h : Ok w) : okI (w 10 0) 24 = true := h.2.1
theorem Ok.war {w : PW} (h : Ok w) : okI (w 8 0) 2 = true := h.2.2.1
theorem Ok.toll {w : PW} (h : Ok w) : okI (w 7 0) 10 = true := h.2.2.2.1
theorem Ok.rate {w : PW} (h : Ok w) {s : Nat} (hs : s < 2) : okI (w 1 s) 10 = true := by
  rcases (show s = 0 ∨ s = 1 by omega) with rfl | rfl
  · exact h.2.2.2.2.1
  · exact h.2.2.2.2.2.1
theorem Ok.many {w : PW} (h : Ok w) : okI (w 12 0) 7 = true := h.2.2.2.2.2.2.1
theorem Ok.notes {w : PW} (h : Ok w) : okI (w 13 0) 7 = true := h.2.2.2.2.2.2.2.1
theorem Ok.steps {w : PW} (h : Ok w) : okI (w 14 0) 9 = true := h.2.2.2.2.2.2.2.2.1
theorem Ok.kind {w : PW} (h : Ok w) {d : Nat} (hd : d < vn w 12 0) : okI (w 3 d) 6 = true := (h.2.2.2.2.2.2.2.2.2.1 d hd).1
theorem Ok.worth {w : PW} (h : Ok w) {d : Nat} (hd : d < vn w 12 0) : okI (w 4 d) 21 = true := (h.2.2.2.2.2.2.2.2.2.1 d hd).2
theorem Ok.note {w : PW} (h : Ok w) {k : Nat} (hk : k < vn w 13 0) : okI (w 5 (5 * k + 1)) 2 = true ∧ okI (w 5 (5 * k + 2)) 24 = true ∧ okI (w 5 (5 * k + 3)) 2 = true := h.2.2.2.2.2.2.2.2.2.2.1 k hk
theorem Ok.past {w : PW} (h : Ok w) {k : Nat} (hk : k < vn w 14 0) : okI (w 6 (4 * k)) 2 = true ∧ okI (w 6 (4 * k + 1)) 24 = true ∧ okI (w 6 (4 * k + 3)) 2 = true := h.2.2.2.2.2.2.2.2.2.2.2 k hk
theorem okV {w : PW} {k j n : Nat} (h : okI (w k j) n = true) : vn w k j < n ∧ w k j = nI (vn w k j) := okI_cl h
theorem Ok.m6 {w : PW} (h : Ok w) : vn w 12 0 ≤ 6 := by have := (okV h.many).1; omega
theorem Ok.n6 {w : PW} (h : Ok w) : vn w 13 0 ≤ 6 := by have := (okV h.notes).1; omega
theorem Ok.s8 {w : PW} (h : Ok w) : vn w 14 0 ≤ 8 := by have := (okV h.steps).1; omega
/-! clocks, bars, passes, prices -/
def b2 (b : Bool) : Int32 := match b with
  | true => 1
  | false => 0
theorem b2_0 {b : Bool} : b2 b = 0 ↔ b = false := by cases b <;> decide
def ownN (s h : Nat) : Nat := if s = 0 then h else (h + 1) % 24
theorem ownN_lt {s h : Nat} (hh : h < 24) : ownN s h < 24 := by unfold ownN; split <;> omega
def barB (w : PW) (s h : Nat) : Bool := decide (((w 2 s) >>> (nI (ownN s h) &&& 31)) &&& (1 : Int32) = 1)
def pasN (k h wr : Nat) : Bool := k == 4 || (k == 3 && decide (22 ≤ h)) || (k == 5 && decide (22 ≤ h) && wr == 0)
def pasB (w : PW) (d s h : Nat) : Bool := pasN (vn w 3 d) (ownN s h) (vn w 8 0)
def letB (w : PW) (d s h : Nat) : Bool := !barB w s h || pasB w d s h
def prP (k p s h wr : Nat) : Nat := match k with
  | 0 => p
  | 1 => 0
  | 2 => if wr = 0 then p else 2 * p
  | 3 => if 22 ≤ h ∨ h < 6 then p + 2 else p
  | 4 => 0
  | _ => if s = 1 then (if 22 ≤ h ∨ h < 6 then p + 2 else p) - 1 else if 22 ≤ h ∨ h < 6 then p + 2 else p
theorem prP_le {k p s h wr : Nat} (hp : p < 14) : prP k p s h wr ≤ 26 := by
  unfold prP
  split <;> (repeat' split) <;> omega
def prN (k wo s ra h wr : Nat) : Nat := prP k (ra + wo / 5) s h wr
def dueN (w : PW) (d s h : Nat) : Nat := prN (vn w 3 d) (vn w 4 d) s (vn w 1 s) (ownN s h) (vn w 8 0)
theorem own_C {s h : Nat} (hs : s < 2) (hh : h < 24) : f_Face_ownHour (nI s) (nI h) = some (nI (ownN s h)) := by
  unfold f_Face_ownHour ownN
  rcases (show s = 0 ∨ s = 1 by omega) with rfl | rfl
  · rfl
  · rw [if_neg (by decide), if_neg (by decide)]
    rw [show nI h + (1 : Int32) = nI (h + 1) from nI_add h 1, show (24 : Int32) = nI 24 from rfl, nI_rem (by omega) (by decide)]
theorem clk_M {s h : Nat} (hs : s < 2) (hh : h < 24) : f_Model_clockOf (nI s) (nI h) = some (nI (ownN s h)) := by
  unfold f_Model_clockOf ownN
  rw [nI_add, show (24 : Int32) = nI 24 from rfl, nI_rem (by omega) (by decide)]
  congr 2
  rcases (show s = 0 ∨ s = 1 by omega) with rfl | rfl
  · rw [if_pos rfl]; omega
  · rw [if_neg (by decide)]
theorem bar_C {w : PW} {s h : Nat} (hs : s < 2) (hh : h < 24) : f_House_isBarred w (nI s) (nI h) = some (b2 (barB w s h)) := by
  unfold f_House_isBarred
  rw [okI_nI hs (by omega), own_C hs hh, nI_clamp (by omega)]
  show (if _ then _ else _) = _
  unfold barB
  split <;> rename_i h1
  · rw [decide_eq_true h1]; rfl
  · rw [decide_eq_false h1]; rfl
theorem kpas_eq : ∀ k, k < 6 → ∀ h, h < 24 → ∀ wr, wr < 2 → f_k_passes k (nI h) (nI wr) = some (b2 (pasN k h wr)) := by decide +kernel
theorem b2_isZ (b : Bool) : isZ (b2 b) = true := by cases b <;> rfl
theorem pas_C {w : PW} (ho : Ok w) {d s h : Nat} (hd : d < vn w 12 0) (hs : s < 2) (hh : h < 24) : f_House_passesBarred w (nI d) (nI s) (nI h) = some (b2 (pasB w d s h)) := by
  have h6 := ho.m6
  unfold f_House_passesBarred
  rw [okI_nI (show d < 6 by omega) (by omega), nI_clamp (by omega), ho.kind hd, own_C hs hh]
  obtain ⟨hk, -⟩ := okV (ho.kind hd)
  obtain ⟨hw, ew⟩ := okV ho.war
  show bd (f_k_passes (vn w 3 d) (nI (ownN s h)) (w 8 0)) _ = _
  rw [ew, kpas_eq _ hk _ (ownN_lt hh) _ hw]
  show gd (isZ (b2 _)) _ = _
  rw [b2_isZ]
  rfl
theorem let_C {w : PW} (ho : Ok w) {d s h : Nat} (hd : d < vn w 12 0) (hs : s < 2) (hh : h < 24) : f_House_lets w (nI d) (nI s) (nI h) = some (b2 (letB w d s h)) := by
  unfold f_House_lets letB
  rw [bar_C hs hh, pas_C ho hd hs hh]
  cases barB w s h <;> cases pasB w d s h <;> rfl
theorem kpr_eq : ∀ k, k < 6 → ∀ p, p < 14 → ∀ s, s < 2 → ∀ h, h < 24 → ∀ wr, wr < 2 → f_k_price k 0 (nI s) (nI p) (nI h) (nI wr) = some (nI (prP k p s h wr)) := by decide +kernel
theorem plain_eq {a1 a2 a3 a4 a5 x : Int32} (h : a3 + a1 / 5 = x) : f_Plain_price a1 a2 a3 a4 a5 = f_Plain_price 0 a2 x a4 a5 := by
  unfold f_Plain_price
  rw [h, show (0 : Int32) / 5 = 0 from rfl, Int32.add_zero]
theorem kprice_eq {k : Nat} {a1 a2 a3 a4 a5 x : Int32} (h : a3 + a1 / 5 = x) : f_k_price k a1 a2 a3 a4 a5 = f_k_price k 0 a2 x a4 a5 := by
  unfold f_k_price
  have hs : f_Snoring_price a1 a2 a3 a4 a5 = f_Snoring_price 0 a2 x a4 a5 := by unfold f_Snoring_price; rw [plain_eq h]
  split
  · exact plain_eq h
  · rfl
  · unfold f_Quarrel_price; rw [plain_eq h]
  · exact hs
  · rfl
  · unfold f_Lamp_price; rw [hs]
theorem kpr_C {k wo s ra h wr : Nat} (hk : k < 6) (hwo : wo < 21) (hs : s < 2) (hra : ra < 10) (hh : h < 24) (hw : wr < 2) : f_k_price k (nI wo) (nI s) (nI ra) (nI h) (nI wr) = some (nI (prN k wo s ra h wr)) := by
  have e : nI ra + nI wo / 5 = nI (ra + wo / 5) := by
    rw [show nI wo / 5 = nI (wo / 5) from nI_div (b := 5) (by omega) (by decide), nI_add]
  rw [kprice_eq e]
  exact kpr_eq k hk _ (by omega) s hs h hh wr hw
theorem due_C {w : PW} (ho : Ok w) {d s h : Nat} (hd : d < vn w 12 0) (hs : s < 2) (hh : h < 24) : f_House_owed w (nI d) (nI s) (nI h) = some (nI (dueN w d s h)) := by
  have h6 := ho.m6
  unfold f_House_owed
  rw [okI_nI (show d < 6 by omega) (by omega), okI_nI hs (by omega), nI_clamp (by omega), nI_clamp (by omega), ho.kind hd, own_C hs hh]
  obtain ⟨hk, -⟩ := okV (ho.kind hd)
  obtain ⟨hw, ew⟩ := okV ho.war
  obtain ⟨hwo, ewo⟩ := okV (ho.worth hd)
  obtain ⟨hr, er⟩ := okV (ho.rate hs)
  show bd (f_k_price (vn w 3 d) (w 4 d) (nI s) (w 1 s) (nI (ownN s h)) (w 8 0)) _ = _
  rw [ew, ewo, er, kpr_C hk hwo hs hr (ownN_lt hh) hw]
  rfl
theorem pas_as_C {w : PW} (ho : Ok w) {k d s h wr : Nat} (hk : k < 6) (hd : d < vn w 12 0) (hs : s < 2) (hh : h < 24) (hw : wr < 2) : f_House_priceAs w (nI k) (nI d) (nI s) (nI h) (nI wr) = some (nI (prN k (vn w 4 d) s (vn w 1 s) h wr)) := by
  have h6 := ho.m6
  unfold f_House_priceAs
  rw [okI_nI hk (by omega), okI_nI (show d < 6 by omega) (by omega), okI_nI hs (by omega), nI_clamp (by omega), nI_clamp (by omega), nI_clamp (by omega)]
  obtain ⟨hwo, ewo⟩ := okV (ho.worth hd)
  obtain ⟨hr, er⟩ := okV (ho.rate hs)
  show bd (f_k_price k (w 4 d) (nI s) (w 1 s) (nI h) (nI wr)) _ = _
  rw [ewo, er, kpr_C hk hwo hs hr hh hw]
  rfl
theorem dueN_le {w : PW} (ho : Ok w) {d s h : Nat} (hd : d < vn w 12 0) (hs : s < 2) : dueN w d s h ≤ 26 := by
  have h1 := (okV (ho.worth hd)).1
  have h2 := (okV (ho.rate hs)).1
  exact prP_le (by omega)
/-! the same of the model -/
theorem HR.rate {w : PW} {st ah : Nat → Int32} {um : Int32} (h : HR w st ah um) {s : Nat} (hs : s < 2) : st (5 + s) = w 1 s := by
  obtain ⟨-, -, -, -, -, h5, h6, -⟩ := h
  rcases (show s = 0 ∨ s = 1 by omega) with rfl | rfl
  · exact h5
  · exact h6
theorem HR.barred {w : PW} {st ah : Nat → Int32} {um : Int32} (h : HR w st ah um) {s : Nat} (hs : s < 2) : st (7 + s) = w 2 s := by
  obtain ⟨-, -, -, -, -, -, -, h7, h8, -⟩ := h
  rcases (show s = 0 ∨ s = 1 by omega) with rfl | rfl
  · exact h7
  · exact h8
theorem HR.war {w : PW} {st ah : Nat → Int32} {um : Int32} (h : HR w st ah um) : st 3 = w 8 0 := h.2.2.2.1
theorem HR.kind {w : PW} {st ah : Nat → Int32} {um : Int32} (h : HR w st ah um) {d : Nat} (hd : d < vn w 12 0) : st (10 + d) = w 3 d := (h.2.2.2.2.2.2.2.2.2.2.2.2.1 d hd).1
theorem HR.worth {w : PW} {st ah : Nat → Int32} {um : Int32} (h : HR w st ah um) {d : Nat} (hd : d < vn w 12 0) : st (16 + d) = w 4 d := (h.2.2.2.2.2.2.2.2.2.2.2.2.1 d hd).2
theorem HR.note {w : PW} {st ah : Nat → Int32} {um : Int32} (h : HR w st ah um) {k : Nat} (hk : k < 5 * vn w 13 0) : st (23 + k) = w 5 k := h.2.2.2.2.2.2.2.2.2.2.2.2.2.1 k hk
theorem HR.past {w : PW} {st ah : Nat → Int32} {um : Int32} (h : HR w st ah um) {k : Nat} (hk : k < 4 * vn w 14 0) : ah k = w 6 k := h.2.2.2.2.2.2.2.2.2.2.2.2.2.2 k hk
def gB (k p s h wr : Int32) : Option Int32 := if (22 : Int32) ≤ h then f_Model_dueBy_J28 k s wr p else if (6 : Int32) ≤ h then f_Model_dueBy_J37 k s wr p p else f_Model_dueBy_J28 k s wr p
theorem gB_eq : ∀ k, k < 6 → ∀ p, p < 14 → ∀ s, s < 2 → ∀ h, h < 24 → ∀ wr, wr < 2 → gB (nI k) (nI p) (nI s) (nI h) (nI wr) = some (nI (prP k p s h wr)) := by decide +kernel
theorem dueBy_M {w : PW} (ho : Ok w) {sM : PW} {sN : PL} {ah : Nat → Int32} {um : Int32} (hr : HR w (sM 0) ah um) {k wo s h wr : Nat} (hk : k < 6) (hwo : wo < 21) (hs : s < 2) (hh : h < 24) (hw : wr < 2) : f_Model_dueBy sM sN (nI k) (nI wo) (nI s) (nI h) (nI wr) = some (nI (prN k wo s (vn w 1 s) h wr)) := by
  unfold f_Model_dueBy
  obtain ⟨h1, e1⟩ := okV (ho.rate hs)
  rw [show (5 : Int32) + nI s = nI (5 + s) from nI_add 5 s, okI_nI (show 5 + s < 53 by omega) (by omega), nI_clamp (by omega), hr.rate hs, e1]
  have e : nI (vn w 1 s) + nI wo / 5 = nI (vn w 1 s + wo / 5) := by
    rw [show nI wo / 5 = nI (wo / 5) from nI_div (b := 5) (by omega) (by decide), nI_add]
  rw [e]
  exact gB_eq k hk _ (by omega) s hs h hh wr hw
def gP (k h wr : Int32) : Option Int32 := if k = (4 : Int32) then some (1 : Int32) else (if k = (3 : Int32) then (if (22 : Int32) ≤ h then some (1 : Int32) else (if k = (5 : Int32) then (if h < (22 : Int32) then some (0 : Int32) else (if wr = 0 then some (1 : Int32) else some (0 : Int32))) else some (0 : Int32))) else (if k = (5 : Int32) then (if h < (22 : Int32) then some (0 : Int32) else (if wr = 0 then some (1 : Int32) else some (0 : Int32))) else some (0 : Int32)))
theorem gP_eq : ∀ k, k < 6 → ∀ h, h < 24 → ∀ wr, wr < 2 → gP (nI k) (nI h) (nI wr) = some (b2 (pasN k h wr)) := by decide +kernel
theorem pas_M {w : PW} (ho : Ok w) {sM : PW} {sN : PL} {ah : Nat → Int32} {um : Int32} (hr : HR w (sM 0) ah um) {d s h : Nat} (hd : d < vn w 12 0) (hh : h < 24) : f_Model_passes sM sN (nI d) (nI (ownN s h)) = some (b2 (pasB w d s h)) := by
  have h6 := ho.m6
  unfold f_Model_passes
  rw [show (10 : Int32) + nI d = nI (10 + d) from nI_add 10 d, okI_nI (show 10 + d < 53 by omega) (by omega), nI_clamp (by omega), hr.kind hd]
  obtain ⟨hk, ek⟩ := okV (ho.kind hd)
  obtain ⟨hw, ew⟩ := okV ho.war
  unfold f_Model_passes_J26
  rw [hr.war, ek, ew]
  exact gP_eq _ hk _ (ownN_lt hh) _ hw
theorem has_M {x : Int32} {k : Nat} {b : Bool} (h : b = decide ((x >>> (nI k &&& 31)) &&& (1 : Int32) = 1)) : f_Model_has x (nI k) = some (b2 b) := by
  unfold f_Model_has
  split <;> rename_i h1
  · rw [h, decide_eq_true h1]; rfl
  · rw [h, decide_eq_false h1]; rfl
theorem let_M {w : PW} (ho : Ok w) {sM : PW} {sN : PL} {ah : Nat → Int32} {um : Int32} (hr : HR w (sM 0) ah um) {d s h : Nat} (hd : d < vn w 12 0) (hs : s < 2) (hh : h < 24) : f_Model_isThrough sM sN (nI d) (nI s) (nI h) = some (b2 (letB w d s h)) := by
  unfold f_Model_isThrough letB
  rw [clk_M hs hh, show (7 : Int32) + nI s = nI (7 + s) from nI_add 7 s, okI_nI (show 7 + s < 53 by omega) (by omega), nI_clamp (by omega), hr.barred hs]
  show bd (f_Model_has (w 2 s) (nI (ownN s h))) _ = _
  rw [has_M (b := barB w s h) rfl, pas_M ho hr hd hh]
  cases barB w s h <;> cases pasB w d s h <;> rfl
theorem due_M {w : PW} (ho : Ok w) {sM : PW} {sN : PL} {ah : Nat → Int32} {um : Int32} (hr : HR w (sM 0) ah um) {d s h : Nat} (hd : d < vn w 12 0) (hs : s < 2) (hh : h < 24) : f_Model_dueIn sM sN (nI d) (nI s) (nI h) = some (nI (dueN w d s h)) := by
  have h6 := ho.m6
  obtain ⟨hk, ek⟩ := okV (ho.kind hd)
  obtain ⟨hw, ew⟩ := okV ho.war
  obtain ⟨hwo, ewo⟩ := okV (ho.worth hd)
  unfold f_Model_dueIn
  rw [clk_M hs hh, show (10 : Int32) + nI d = nI (10 + d) from nI_add 10 d, show (16 : Int32) + nI d = nI (16 + d) from nI_add 16 d, okI_nI (show 10 + d < 53 by omega) (by omega), okI_nI (show 16 + d < 53 by omega) (by omega), nI_clamp (by omega), nI_clamp (by omega), hr.kind hd, hr.worth hd, hr.war, ek, ewo, ew]
  show bd (f_Model_dueBy sM sN (nI (vn w 3 d)) (nI (vn w 4 d)) (nI s) (nI (ownN s h)) (nI (vn w 8 0))) _ = _
  rw [dueBy_M ho hr hk hwo hs (ownN_lt hh) hw]
  rfl
