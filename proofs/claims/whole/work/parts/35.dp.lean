/-! ===== the cheapest day, in plain numbers ===== -/
def allN (w : PW) : Nat := 2 ^ vn w 12 0 - 1
def tlN (w : PW) (s t : Nat) : Nat := if t = s then 0 else vn w 7 0
def opn (w : PW) (h set d t : Nat) : Bool := !set.testBit d && letB w d t h
/-- over the doings below n: what one of them now and the rest of the day costs on side t, at most 9999 -/
def xN (w : PW) (V : Nat → Nat → Nat) (h set t : Nat) : Nat → Nat
  | 0 => 9999
  | n + 1 => if opn w h set n t = true then Nat.min (xN w V h set t n) (dueN w n t h + V (set ||| 2 ^ n) t) else xN w V h set t n
def cdN (w : PW) (V : Nat → Nat → Nat) (h set s d t : Nat) : Nat := if opn w h set d t = true then dueN w d t h + tlN w s t + V (set ||| 2 ^ d) t else 9999
/-- the model's own order -/
def vN (w : PW) (V : Nat → Nat → Nat) (h set s : Nat) : Nat → Nat
  | 0 => V set s
  | n + 1 => Nat.min (Nat.min (vN w V h set s n) (cdN w V h set s n 0)) (cdN w V h set s n 1)
def dN (w : PW) : Nat → Nat → Nat → Nat
  | 0, set, _ => if set = allN w then 0 else 9999
  | r + 1, set, s => vN w (dN w r) (23 - r) set s (vn w 12 0)
def Vok (V : Nat → Nat → Nat) (r : Nat) : Prop := ∀ set s, V set s ≤ 9999 ∧ (V set s < 9999 → V set s ≤ 35 * r)
theorem tlN_le {w : PW} (ho : Ok w) {s t : Nat} : tlN w s t ≤ 9 := by
  have := (okV ho.toll).1
  unfold tlN
  split <;> omega
theorem vN_ok {w : PW} (ho : Ok w) {V : Nat → Nat → Nat} {r h set s : Nat} (hr : r ≤ 24) (hV : Vok V r) : ∀ n, n ≤ vn w 12 0 → vN w V h set s n ≤ 9999 ∧ (vN w V h set s n < 9999 → vN w V h set s n ≤ 35 * (r + 1)) := by
  intro n
  induction n with
  | zero =>
    intro _
    have := hV set s
    exact ⟨this.1, fun q => Nat.le_trans (this.2 q) (by omega)⟩
  | succ n ih =>
    intro hn
    have h0 := ih (by omega)
    have hc : ∀ t, t < 2 → cdN w V h set s n t < 9999 → cdN w V h set s n t ≤ 35 * (r + 1) := by
      intro t ht
      unfold cdN
      split
      · have h1 := dueN_le ho (h := h) (show n < vn w 12 0 by omega) ht
        have h2 := tlN_le ho (s := s) (t := t)
        have h3 := hV (set ||| 2 ^ n) t
        omega
      · omega
    have c0 := hc 0 (by decide)
    have c1 := hc 1 (by decide)
    show Nat.min (Nat.min (vN w V h set s n) (cdN w V h set s n 0)) (cdN w V h set s n 1) ≤ 9999 ∧ (Nat.min (Nat.min (vN w V h set s n) (cdN w V h set s n 0)) (cdN w V h set s n 1) < 9999 → Nat.min (Nat.min (vN w V h set s n) (cdN w V h set s n 0)) (cdN w V h set s n 1) ≤ 35 * (r + 1))
    generalize vN w V h set s n = a at h0 ⊢
    generalize cdN w V h set s n 0 = b at c0 ⊢
    generalize cdN w V h set s n 1 = c at c1 ⊢
    simp only [Nat.min_def, Nat.min]
    repeat' split
    all_goals omega
theorem dN_ok {w : PW} (ho : Ok w) : ∀ r, r ≤ 24 → Vok (dN w r) r
  | 0, _ => fun set s => by
    show (if set = allN w then 0 else 9999) ≤ 9999 ∧ ((if set = allN w then 0 else 9999) < 9999 → (if set = allN w then 0 else 9999) ≤ 35 * 0)
    split <;> omega
  | r + 1, hr => fun set s => vN_ok ho (by omega) (dN_ok ho r (by omega)) _ (Nat.le_refl _)
theorem xN_ok {w : PW} (ho : Ok w) {V : Nat → Nat → Nat} {r h set t : Nat} (ht : t < 2) (hV : Vok V r) : ∀ n, n ≤ vn w 12 0 → xN w V h set t n ≤ 9999 ∧ (xN w V h set t n < 9999 → xN w V h set t n ≤ 35 * r + 26) := by
  intro n
  induction n with
  | zero => intro _; exact ⟨Nat.le_refl _, fun q => absurd q (by show ¬ 9999 < 9999; omega)⟩
  | succ n ih =>
    intro hn
    have h0 := ih (by omega)
    show (if opn w h set n t = true then Nat.min (xN w V h set t n) (dueN w n t h + V (set ||| 2 ^ n) t) else xN w V h set t n) ≤ 9999 ∧ ((if opn w h set n t = true then Nat.min (xN w V h set t n) (dueN w n t h + V (set ||| 2 ^ n) t) else xN w V h set t n) < 9999 → (if opn w h set n t = true then Nat.min (xN w V h set t n) (dueN w n t h + V (set ||| 2 ^ n) t) else xN w V h set t n) ≤ 35 * r + 26)
    have h1 := dueN_le ho (h := h) (show n < vn w 12 0 by omega) ht
    have h3 := hV (set ||| 2 ^ n) t
    generalize xN w V h set t n = a at h0 ⊢
    generalize V (set ||| 2 ^ n) t = b at h3 ⊢
    generalize dueN w n t h = c at h1 ⊢
    simp only [Nat.min_def, Nat.min]
    repeat' split
    all_goals omega
/-- the model's order of the least is the class's -/
theorem vN_x {w : PW} (ho : Ok w) {V : Nat → Nat → Nat} {r h set s : Nat} (hs : s < 2) (hV : Vok V r) : ∀ n, n ≤ vn w 12 0 → vN w V h set s n = Nat.min (V set s) (Nat.min (xN w V h set s n) (xN w V h set (1 - s) n + vn w 7 0)) := by
  intro n
  induction n with
  | zero =>
    intro _
    show V set s = Nat.min (V set s) (Nat.min 9999 (9999 + vn w 7 0))
    have := (hV set s).1
    simp only [Nat.min_def, Nat.min]
    repeat' split
    all_goals omega
  | succ n ih =>
    intro hn
    have h0 := ih (by omega)
    have x0 := xN_ok ho (h := h) (set := set) hs hV n (by omega)
    have x1 := xN_ok ho (h := h) (set := set) (show 1 - s < 2 by omega) hV n (by omega)
    have hv := (hV set s).1
    have e0 : xN w V h set s (n + 1) = if opn w h set n s = true then Nat.min (xN w V h set s n) (dueN w n s h + V (set ||| 2 ^ n) s) else xN w V h set s n := rfl
    have e1 : xN w V h set (1 - s) (n + 1) = if opn w h set n (1 - s) = true then Nat.min (xN w V h set (1 - s) n) (dueN w n (1 - s) h + V (set ||| 2 ^ n) (1 - s)) else xN w V h set (1 - s) n := rfl
    have cs : cdN w V h set s n s = if opn w h set n s = true then dueN w n s h + V (set ||| 2 ^ n) s else 9999 := by
      unfold cdN tlN
      rw [if_pos rfl, Nat.add_zero]
    have cs' : cdN w V h set s n (1 - s) = if opn w h set n (1 - s) = true then dueN w n (1 - s) h + vn w 7 0 + V (set ||| 2 ^ n) (1 - s) else 9999 := by
      unfold cdN tlN
      rw [if_neg (show ¬ 1 - s = s by omega)]
    have ev : vN w V h set s (n + 1) = Nat.min (Nat.min (vN w V h set s n) (cdN w V h set s n s)) (cdN w V h set s n (1 - s)) := by
      rcases (show s = 0 ∨ s = 1 by omega) with rfl | rfl
      · rfl
      · show Nat.min (Nat.min _ (cdN w V h set 1 n 0)) (cdN w V h set 1 n 1) = Nat.min (Nat.min _ (cdN w V h set 1 n 1)) (cdN w V h set 1 n 0)
        simp only [Nat.min_def, Nat.min]
        repeat' split
        all_goals omega
    rw [ev, h0, e0, e1, cs, cs']
    generalize xN w V h set s n = a at x0
    generalize xN w V h set (1 - s) n = b at x1
    generalize V (set ||| 2 ^ n) s = p
    generalize V (set ||| 2 ^ n) (1 - s) = q
    generalize dueN w n s h = y
    generalize dueN w n (1 - s) h = z
    generalize V set s = v at hv
    generalize vn w 7 0 = tl
    simp only [Nat.min_def, Nat.min]
    repeat' split
    all_goals omega
/-- the class's own numbers: 1000000 for what cannot be -/
def cF (x : Nat) : Nat := if x < 9999 then x else 1000000
def pcN (w : PW) (h t d : Nat) : Nat := if letB w d t h = true then dueN w d t h else 1000000
def coN (w : PW) (V : Nat → Nat → Nat) (h set t : Nat) : Nat → Nat
  | 0 => 1000000
  | n + 1 => if set.testBit n = true then coN w V h set t n else if pcN w h t n + cF (V (set ||| 2 ^ n) t) < coN w V h set t n then pcN w h t n + cF (V (set ||| 2 ^ n) t) else coN w V h set t n
theorem co_x {w : PW} (ho : Ok w) {V : Nat → Nat → Nat} {r h set t : Nat} (hr : r ≤ 24) (ht : t < 2) (hV : Vok V r) : ∀ n, n ≤ vn w 12 0 → coN w V h set t n = cF (xN w V h set t n) := by
  intro n
  induction n with
  | zero => intro _; rfl
  | succ n ih =>
    intro hn
    have h0 := ih (by omega)
    have x0 := xN_ok ho (h := h) (set := set) ht hV n (by omega)
    have e0 : xN w V h set t (n + 1) = if opn w h set n t = true then Nat.min (xN w V h set t n) (dueN w n t h + V (set ||| 2 ^ n) t) else xN w V h set t n := rfl
    have e1 : coN w V h set t (n + 1) = if set.testBit n = true then coN w V h set t n else if pcN w h t n + cF (V (set ||| 2 ^ n) t) < coN w V h set t n then pcN w h t n + cF (V (set ||| 2 ^ n) t) else coN w V h set t n := rfl
    have h1 := dueN_le ho (h := h) (show n < vn w 12 0 by omega) ht
    have h3 := hV (set ||| 2 ^ n) t
    rw [e0, e1, h0]
    unfold opn pcN
    generalize xN w V h set t n = a at x0
    generalize V (set ||| 2 ^ n) t = b at h3
    generalize dueN w n t h = c at h1
    unfold cF
    cases set.testBit n <;> cases letB w n t h
    all_goals simp only [Bool.not_true, Bool.not_false, Bool.and_true, Bool.and_false, Bool.true_and, Bool.false_and, ↓reduceIte, Bool.false_eq_true, Nat.min_def, Nat.min]
    all_goals repeat' split
    all_goals omega
theorem d_step {w : PW} (ho : Ok w) {r set s : Nat} (hr : r < 24) (hs : s < 2) : cF (dN w (r + 1) set s) = (if (if coN w (dN w r) (23 - r) set (1 - s) (vn w 12 0) + vn w 7 0 < coN w (dN w r) (23 - r) set s (vn w 12 0) then coN w (dN w r) (23 - r) set (1 - s) (vn w 12 0) + vn w 7 0 else coN w (dN w r) (23 - r) set s (vn w 12 0)) < cF (dN w r set s) then (if coN w (dN w r) (23 - r) set (1 - s) (vn w 12 0) + vn w 7 0 < coN w (dN w r) (23 - r) set s (vn w 12 0) then coN w (dN w r) (23 - r) set (1 - s) (vn w 12 0) + vn w 7 0 else coN w (dN w r) (23 - r) set s (vn w 12 0)) else cF (dN w r set s)) := by
  have hV := dN_ok ho r (by omega)
  have x0 := xN_ok ho (h := 23 - r) (set := set) hs hV _ (Nat.le_refl _)
  have x1 := xN_ok ho (h := 23 - r) (set := set) (show 1 - s < 2 by omega) hV _ (Nat.le_refl _)
  have hv := hV set s
  have ht := (okV ho.toll).1
  rw [co_x ho (by omega) hs hV _ (Nat.le_refl _), co_x ho (by omega) (show 1 - s < 2 by omega) hV _ (Nat.le_refl _)]
  show cF (vN w (dN w r) (23 - r) set s (vn w 12 0)) = _
  rw [vN_x ho hs hV _ (Nat.le_refl _)]
  generalize xN w (dN w r) (23 - r) set s (vn w 12 0) = a at x0
  generalize xN w (dN w r) (23 - r) set (1 - s) (vn w 12 0) = b at x1
  generalize dN w r set s = v at hv
  generalize vn w 7 0 = tl at ht
  unfold cF
  simp only [Nat.min_def, Nat.min]
  repeat' split
  all_goals omega
