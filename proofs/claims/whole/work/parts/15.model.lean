def f_Model_in (a1 : Int64) (a2 : Int64) (a3 : Int64) : Option (Int32) :=
  (if (lg_cmp a1 a2) < 0 then some (0 : Int32) else (if 0 < (lg_cmp a1 a3) then some (0 : Int32) else some (1 : Int32)))
set_option maxHeartbeats 4000000 in
set_option maxRecDepth 100000 in
theorem c_Model_in (l : Launch) (D : va_G) (ty : Nat → ClassId) (a1 : Int64) (a2 : Int64) (a3 : Int64) (rr : Int32) (hf : f_Model_in a1 a2 a3 = some rr) : Met l y_Model_in (Cond.code y_Model_in prog_13_method_2_code 6 ((Option.some FieldType.boolean)) :: lw_ok) { frames := 0, cells := 0, slots := 0, locals := 0 } (PcR D ty [.long a1, .long a2, .long a3] ([] : va_W)) (QR (some (.int rr))) 0 0 (fun _ => False) := by
  refine hdR (by decide) (Nat.le_of_ble_eq_true rfl) ?_
  intro p e s m below meth c ls R args Q C0 hR hQ hP hK hl
  obtain ⟨hx, hb, hr, hlk, hml, hown, htt⟩ := id C0
  have hl : lv_has ls 6 [(0, .long a1), (2, .long a2), (4, .long a3)] := hl
  unfold f_Model_in at hf
  refine lv_lload_n hx hb d_Model_in_0 rfl (lv_at hl 0 rfl) ?_
  refine lv_lload_n hx hb d_Model_in_1 rfl (lv_at hl 1 rfl) ?_
  refine W.lcmp hx hb d_Model_in_2 ?_
  refine lv_if_lt (tgt := 17) hx hb d_Model_in_3 (by decide) (fun c1 => ?_) (fun c1 => ?_)
  · replace hf := iteT c1 hf
    refine lv_iconst (v := (0 : Int32)) hx hb d_Model_in_17 (by decide) ?_
    obtain rfl := sj1 hf
    exact retR C0 rfl hQ d_Model_in_18
  · replace hf := iteF c1 hf
    refine lv_lload_n hx hb d_Model_in_6 rfl (lv_at hl 0 rfl) ?_
    refine lv_lload hx hb d_Model_in_7 (lv_at hl 2 rfl) ?_
    refine W.lcmp hx hb d_Model_in_9 ?_
    refine lv_if_gt (tgt := 17) hx hb d_Model_in_10 (by decide) (fun c2 => ?_) (fun c2 => ?_)
    · replace hf := iteT c2 hf
      refine lv_iconst (v := (0 : Int32)) hx hb d_Model_in_17 (by decide) ?_
      obtain rfl := sj1 hf
      exact retR C0 rfl hQ d_Model_in_18
    · replace hf := iteF c2 hf
      refine lv_iconst (v := (1 : Int32)) hx hb d_Model_in_13 (by decide) ?_
      refine lv_goto (tgt := 18) hx hb d_Model_in_14 (by decide) ?_
      obtain rfl := sj1 hf
      exact retR C0 rfl hQ d_Model_in_18
def f_Model_has (a1 : Int32) (a2 : Int32) : Option (Int32) :=
  (if ((a1 >>> (a2 &&& 31)) &&& (1 : Int32)) = (1 : Int32) then some (1 : Int32) else some (0 : Int32))
set_option maxHeartbeats 4000000 in
set_option maxRecDepth 100000 in
theorem c_Model_has (l : Launch) (D : va_G) (ty : Nat → ClassId) (a1 : Int32) (a2 : Int32) (rr : Int32) (hf : f_Model_has a1 a2 = some rr) : Met l y_Model_has (Cond.code y_Model_has prog_13_method_3_code 2 ((Option.some FieldType.boolean)) :: lw_ok) { frames := 0, cells := 0, slots := 0, locals := 0 } (PcR D ty [.int a1, .int a2] ([] : va_W)) (QR (some (.int rr))) 0 0 (fun _ => False) := by
  refine hdR (by decide) (Nat.le_of_ble_eq_true rfl) ?_
  intro p e s m below meth c ls R args Q C0 hR hQ hP hK hl
  obtain ⟨hx, hb, hr, hlk, hml, hown, htt⟩ := id C0
  have hl : lv_has ls 2 [(0, .int a1), (1, .int a2)] := hl
  unfold f_Model_has at hf
  refine lv_iload_n hx hb d_Model_has_0 rfl (lv_at hl 0 rfl) ?_
  refine lv_iload_n hx hb d_Model_has_1 rfl (lv_at hl 1 rfl) ?_
  refine lv_ishr hx hb d_Model_has_2 ?_
  refine lv_iconst (v := (1 : Int32)) hx hb d_Model_has_3 (by decide) ?_
  refine lv_iand hx hb d_Model_has_4 ?_
  refine lv_iconst (v := (1 : Int32)) hx hb d_Model_has_5 (by decide) ?_
  refine lv_icmp_ne (tgt := 13) hx hb d_Model_has_6 (by decide) (fun c1 => ?_) (fun c1 => ?_)
  · replace hf := iteF c1 hf
    refine lv_iconst (v := (0 : Int32)) hx hb d_Model_has_13 (by decide) ?_
    obtain rfl := sj1 hf
    exact retR C0 rfl hQ d_Model_has_14
  · replace hf := iteT c1 hf
    refine lv_iconst (v := (1 : Int32)) hx hb d_Model_has_9 (by decide) ?_
    refine lv_goto (tgt := 14) hx hb d_Model_has_10 (by decide) ?_
    obtain rfl := sj1 hf
    exact retR C0 rfl hQ d_Model_has_14
def f_Model_bad (sM : PW) (sN : PL) : Option (Int32 × PW × PL) :=
  nm (up sM 3 (upd (sM 3) 0 ((sM 3 0) + (1 : Int32)))) (fun sM1 => some ((-2 : Int32), sM1, sN))
set_option maxHeartbeats 4000000 in
set_option maxRecDepth 100000 in
theorem c_Model_bad (l : Launch) (D : va_G) (ty : Nat → ClassId) (mA : Nat → Nat) (sz : Nat) (sM : PW) (sN : PL) (rr : Int32) (tM : PW) (tN : PL) (hf : f_Model_bad sM sN = some (rr, tM, tN)) : Met l y_Model_bad (Cond.code y_Model_bad prog_13_method_4_code 1 ((Option.some FieldType.int)) :: lw_ok) { frames := 0, cells := 0, slots := 0, locals := 0 } (PcM D ty [.ref (mA 0)] sz (L_m ty mA sM sN)) (QM D (L_m ty mA tM tN) (va_A (L_m ty mA sM sN) sz) (some (.int rr))) 0 0 (va_A (L_m ty mA sM sN) sz) := by
  refine hdM (by decide) (Nat.le_of_ble_eq_true rfl) ?_
  intro p e s m below meth c ls R args Q A C0 hR hQ hnm hAq hP hK hD hS hl
  obtain ⟨hx, hb, hr, hlk, hml, hown, htt⟩ := id C0
  have hl : lv_has ls 1 [(0, .ref (mA 0))] := hl
  generalize hH0 : s.heap = H at hP hS ⊢
  have hS : va_S A s.heap H [] := by rw [hH0]; exact hS
  unfold f_Model_bad at hf
  refine lv_aload_n hx hb d_Model_bad_0 rfl (lv_at hl 0 rfl) ?_
  refine va_get (D := D) (ci := 11) (v := .ref (mA 4)) (C := "BedFrontierModel") (T := T_Model) (N := 22) hx hb htt i_Model hown hK.1 hP 0 rfl rfl 3 (by decide) (htt _ k_775) (fun _ h9 => h9) rfl d_Model_bad_1 ?_
  refine lv_iconst (v := (0 : Int32)) hx hb d_Model_bad_4 (by decide) ?_
  refine lv_dup2_11 hx hb d_Model_bad_5 rfl rfl ?_
  refine ld_iald (j := 0) hx hb hK.1 hP 2 0 rfl rfl (okI_in (by decide)) rfl d_Model_bad_6 ?_
  refine lv_iconst (v := (1 : Int32)) hx hb d_Model_bad_7 (by decide) ?_
  refine lv_iadd hx hb d_Model_bad_8 ?_
  refine st_iast (j := 0) hx hb hK.1 hP hD hS 2 0 rfl rfl (okI_in (by decide)) rfl d_Model_bad_9 (fun H locs hP hD hS => ?_)
  obtain ⟨sM1, e_sM1⟩ : ∃ z : PW, z = up sM 3 (upd (sM 3) 0 ((sM 3 0) + (1 : Int32))) := ⟨_, rfl⟩
  replace hf := nmE hf e_sM1
  have hP : va_P D vwCl (L_m ty mA sM1 sN) H := by rw [e_sM1]; exact hP
  have hD : va_D A (L_m ty mA sM1 sN) := by rw [e_sM1]; exact hD
  refine lv_bipush (v := (-2 : Int32)) hx hb d_Model_bad_10 (by decide) ?_
  obtain ⟨rfl, rfl, rfl⟩ := sj3 hf
  exact retM C0 (narI _) hQ hP hD hS d_Model_bad_12
def f_Model_no (sM : PW) (sN : PL) : Option (Int32 × PW × PL) :=
  nm (up sM 3 (upd (sM 3) 1 ((sM 3 1) + (1 : Int32)))) (fun sM1 => some ((-3 : Int32), sM1, sN))
set_option maxHeartbeats 4000000 in
set_option maxRecDepth 100000 in
theorem c_Model_no (l : Launch) (D : va_G) (ty : Nat → ClassId) (mA : Nat → Nat) (sz : Nat) (sM : PW) (sN : PL) (rr : Int32) (tM : PW) (tN : PL) (hf : f_Model_no sM sN = some (rr, tM, tN)) : Met l y_Model_no (Cond.code y_Model_no prog_13_method_5_code 1 ((Option.some FieldType.int)) :: lw_ok) { frames := 0, cells := 0, slots := 0, locals := 0 } (PcM D ty [.ref (mA 0)] sz (L_m ty mA sM sN)) (QM D (L_m ty mA tM tN) (va_A (L_m ty mA sM sN) sz) (some (.int rr))) 0 0 (va_A (L_m ty mA sM sN) sz) := by
  refine hdM (by decide) (Nat.le_of_ble_eq_true rfl) ?_
  intro p e s m below meth c ls R args Q A C0 hR hQ hnm hAq hP hK hD hS hl
  obtain ⟨hx, hb, hr, hlk, hml, hown, htt⟩ := id C0
  have hl : lv_has ls 1 [(0, .ref (mA 0))] := hl
  generalize hH0 : s.heap = H at hP hS ⊢
  have hS : va_S A s.heap H [] := by rw [hH0]; exact hS
  unfold f_Model_no at hf
  refine lv_aload_n hx hb d_Model_no_0 rfl (lv_at hl 0 rfl) ?_
  refine va_get (D := D) (ci := 11) (v := .ref (mA 4)) (C := "BedFrontierModel") (T := T_Model) (N := 22) hx hb htt i_Model hown hK.1 hP 0 rfl rfl 3 (by decide) (htt _ k_775) (fun _ h9 => h9) rfl d_Model_no_1 ?_
  refine lv_iconst (v := (1 : Int32)) hx hb d_Model_no_4 (by decide) ?_
  refine lv_dup2_11 hx hb d_Model_no_5 rfl rfl ?_
  refine ld_iald (j := 1) hx hb hK.1 hP 2 0 rfl rfl (okI_in (by decide)) rfl d_Model_no_6 ?_
  refine lv_iconst (v := (1 : Int32)) hx hb d_Model_no_7 (by decide) ?_
  refine lv_iadd hx hb d_Model_no_8 ?_
  refine st_iast (j := 1) hx hb hK.1 hP hD hS 2 0 rfl rfl (okI_in (by decide)) rfl d_Model_no_9 (fun H locs hP hD hS => ?_)
  obtain ⟨sM1, e_sM1⟩ : ∃ z : PW, z = up sM 3 (upd (sM 3) 1 ((sM 3 1) + (1 : Int32))) := ⟨_, rfl⟩
  replace hf := nmE hf e_sM1
  have hP : va_P D vwCl (L_m ty mA sM1 sN) H := by rw [e_sM1]; exact hP
  have hD : va_D A (L_m ty mA sM1 sN) := by rw [e_sM1]; exact hD
  refine lv_bipush (v := (-3 : Int32)) hx hb d_Model_no_10 (by decide) ?_
  obtain ⟨rfl, rfl, rfl⟩ := sj3 hf
  exact retM C0 (narI _) hQ hP hD hS d_Model_no_12
def f_Model_full (sM : PW) (sN : PL) : Option (Int32 × PW × PL) :=
  nm (up sM 3 (upd (sM 3) 2 ((sM 3 2) + (1 : Int32)))) (fun sM1 => some ((-4 : Int32), sM1, sN))
set_option maxHeartbeats 4000000 in
set_option maxRecDepth 100000 in
theorem c_Model_full (l : Launch) (D : va_G) (ty : Nat → ClassId) (mA : Nat → Nat) (sz : Nat) (sM : PW) (sN : PL) (rr : Int32) (tM : PW) (tN : PL) (hf : f_Model_full sM sN = some (rr, tM, tN)) : Met l y_Model_full (Cond.code y_Model_full prog_13_method_6_code 1 ((Option.some FieldType.int)) :: lw_ok) { frames := 0, cells := 0, slots := 0, locals := 0 } (PcM D ty [.ref (mA 0)] sz (L_m ty mA sM sN)) (QM D (L_m ty mA tM tN) (va_A (L_m ty mA sM sN) sz) (some (.int rr))) 0 0 (va_A (L_m ty mA sM sN) sz) := by
  refine hdM (by decide) (Nat.le_of_ble_eq_true rfl) ?_
  intro p e s m below meth c ls R args Q A C0 hR hQ hnm hAq hP hK hD hS hl
  obtain ⟨hx, hb, hr, hlk, hml, hown, htt⟩ := id C0
  have hl : lv_has ls 1 [(0, .ref (mA 0))] := hl
  generalize hH0 : s.heap = H at hP hS ⊢
  have hS : va_S A s.heap H [] := by rw [hH0]; exact hS
  unfold f_Model_full at hf
  refine lv_aload_n hx hb d_Model_full_0 rfl (lv_at hl 0 rfl) ?_
  refine va_get (D := D) (ci := 11) (v := .ref (mA 4)) (C := "BedFrontierModel") (T := T_Model) (N := 22) hx hb htt i_Model hown hK.1 hP 0 rfl rfl 3 (by decide) (htt _ k_775) (fun _ h9 => h9) rfl d_Model_full_1 ?_
  refine lv_iconst (v := (2 : Int32)) hx hb d_Model_full_4 (by decide) ?_
  refine lv_dup2_11 hx hb d_Model_full_5 rfl rfl ?_
  refine ld_iald (j := 2) hx hb hK.1 hP 2 0 rfl rfl (okI_in (by decide)) rfl d_Model_full_6 ?_
  refine lv_iconst (v := (1 : Int32)) hx hb d_Model_full_7 (by decide) ?_
  refine lv_iadd hx hb d_Model_full_8 ?_
  refine st_iast (j := 2) hx hb hK.1 hP hD hS 2 0 rfl rfl (okI_in (by decide)) rfl d_Model_full_9 (fun H locs hP hD hS => ?_)
  obtain ⟨sM1, e_sM1⟩ : ∃ z : PW, z = up sM 3 (upd (sM 3) 2 ((sM 3 2) + (1 : Int32))) := ⟨_, rfl⟩
  replace hf := nmE hf e_sM1
  have hP : va_P D vwCl (L_m ty mA sM1 sN) H := by rw [e_sM1]; exact hP
  have hD : va_D A (L_m ty mA sM1 sN) := by rw [e_sM1]; exact hD
  refine lv_bipush (v := (-4 : Int32)) hx hb d_Model_full_10 (by decide) ?_
  obtain ⟨rfl, rfl, rfl⟩ := sj3 hf
  exact retM C0 (narI _) hQ hP hD hS d_Model_full_12
def f_Model_isDoing (sM : PW) (sN : PL) (a1 : Int32) : Option (Int32) :=
  bd (f_Model_in ((a1).toInt64) (0 : Int64) ((((sM 0 9) - (1 : Int32))).toInt64)) (fun x1 => gd (isZ x1) (some x1))
set_option maxHeartbeats 4000000 in
set_option maxRecDepth 100000 in
theorem c_Model_isDoing (l : Launch) (D : va_G) (ty : Nat → ClassId) (mA : Nat → Nat) (sM : PW) (sN : PL) (a1 : Int32) (rr : Int32) (hf : f_Model_isDoing sM sN a1 = some rr) : Met l y_Model_isDoing (Cond.code y_Model_isDoing prog_13_method_7_code 2 ((Option.some FieldType.boolean)) :: lw_ok) { frames := 1, cells := 0, slots := 0, locals := 25 } (PcR D ty [.ref (mA 0), .int a1] (L_m ty mA sM sN)) (QR (some (.int rr))) 0 0 (fun _ => False) := by
  refine hdR (by decide) (Nat.le_of_ble_eq_true rfl) ?_
  intro p e s m below meth c ls R args Q C0 hR hQ hP hK hl
  obtain ⟨hx, hb, hr, hlk, hml, hown, htt⟩ := id C0
  have hl : lv_has ls 2 [(0, .ref (mA 0)), (1, .int a1)] := hl
  unfold f_Model_isDoing at hf
  refine lv_iload_n hx hb d_Model_isDoing_0 rfl (lv_at hl 1 rfl) ?_
  refine lv_i2l hx hb d_Model_isDoing_1 rfl ?_
  refine lv_lconst (v := (0 : Int64)) hx hb d_Model_isDoing_2 (by decide) ?_
  refine lv_aload_n hx hb d_Model_isDoing_3 rfl (lv_at hl 0 rfl) ?_
  refine va_get (D := D) (ci := 11) (v := .ref (mA 1)) (C := "BedFrontierModel") (T := T_Model) (N := 22) hx hb htt i_Model hown hK.1 hP 0 rfl rfl 0 (by decide) (htt _ k_772) (fun _ h9 => h9) rfl d_Model_isDoing_4 ?_
  refine lv_bipush (v := (9 : Int32)) hx hb d_Model_isDoing_7 (by decide) ?_
  refine ld_iald (j := 9) hx hb hK.1 hP 1 0 rfl rfl (okI_in (by decide)) rfl d_Model_isDoing_9 ?_
  refine lv_iconst (v := (1 : Int32)) hx hb d_Model_isDoing_10 (by decide) ?_
  refine lv_isub hx hb d_Model_isDoing_11 ?_
  refine lv_i2l hx hb d_Model_isDoing_12 rfl ?_
  obtain ⟨x1, h2, hf⟩ := bdE hf
  refine scR (rest := []) C0 (c_Model_in l D ty ((a1).toInt64) (0 : Int64) ((((sM 0 9) - (1 : Int32))).toInt64) x1 h2) k_845 cal_Model_in hK (va_P_nil) ⟨by rw [hR]; decide, by rw [hR]; decide⟩ rfl rfl rfl hl.1 rfl (Nat.le_of_ble_eq_true rfl) d_Model_isDoing_13 ⟨Nat.zero_le _, Nat.zero_le _⟩ rfl ?_
  obtain ⟨g3, hf⟩ := gdE hf
  obtain rfl := sj1 hf
  exact retR C0 (isZ_nar g3) hQ d_Model_isDoing_16
def f_Model_isSide (a1 : Int32) : Option (Int32) :=
  bd (f_Model_in ((a1).toInt64) (0 : Int64) (1 : Int64)) (fun x1 => gd (isZ x1) (some x1))
set_option maxHeartbeats 4000000 in
set_option maxRecDepth 100000 in
theorem c_Model_isSide (l : Launch) (D : va_G) (ty : Nat → ClassId) (a1 : Int32) (rr : Int32) (hf : f_Model_isSide a1 = some rr) : Met l y_Model_isSide (Cond.code y_Model_isSide prog_13_method_8_code 1 ((Option.some FieldType.boolean)) :: lw_ok) { frames := 1, cells := 0, slots := 0, locals := 25 } (PcR D ty [.int a1] ([] : va_W)) (QR (some (.int rr))) 0 0 (fun _ => False) := by
  refine hdR (by decide) (Nat.le_of_ble_eq_true rfl) ?_
  intro p e s m below meth c ls R args Q C0 hR hQ hP hK hl
  obtain ⟨hx, hb, hr, hlk, hml, hown, htt⟩ := id C0
  have hl : lv_has ls 1 [(0, .int a1)] := hl
  unfold f_Model_isSide at hf
  refine lv_iload_n hx hb d_Model_isSide_0 rfl (lv_at hl 0 rfl) ?_
  refine lv_i2l hx hb d_Model_isSide_1 rfl ?_
  refine lv_lconst (v := (0 : Int64)) hx hb d_Model_isSide_2 (by decide) ?_
  refine lv_lconst (v := (1 : Int64)) hx hb d_Model_isSide_3 (by decide) ?_
  obtain ⟨x1, h2, hf⟩ := bdE hf
  refine scR (rest := []) C0 (c_Model_in l D ty ((a1).toInt64) (0 : Int64) (1 : Int64) x1 h2) k_845 cal_Model_in hK (va_P_nil) ⟨by rw [hR]; decide, by rw [hR]; decide⟩ rfl rfl rfl hl.1 rfl (Nat.le_of_ble_eq_true rfl) d_Model_isSide_4 ⟨Nat.zero_le _, Nat.zero_le _⟩ rfl ?_
  obtain ⟨g3, hf⟩ := gdE hf
  obtain rfl := sj1 hf
  exact retR C0 (isZ_nar g3) hQ d_Model_isSide_7
def f_Model_isHour (a1 : Int32) : Option (Int32) :=
  bd (f_Model_in ((a1).toInt64) (0 : Int64) (23 : Int64)) (fun x1 => gd (isZ x1) (some x1))
set_option maxHeartbeats 4000000 in
set_option maxRecDepth 100000 in
theorem c_Model_isHour (l : Launch) (D : va_G) (ty : Nat → ClassId) (a1 : Int32) (rr : Int32) (hf : f_Model_isHour a1 = some rr) : Met l y_Model_isHour (Cond.code y_Model_isHour prog_13_method_9_code 1 ((Option.some FieldType.boolean)) :: lw_ok) { frames := 1, cells := 0, slots := 0, locals := 25 } (PcR D ty [.int a1] ([] : va_W)) (QR (some (.int rr))) 0 0 (fun _ => False) := by
  refine hdR (by decide) (Nat.le_of_ble_eq_true rfl) ?_
  intro p e s m below meth c ls R args Q C0 hR hQ hP hK hl
  obtain ⟨hx, hb, hr, hlk, hml, hown, htt⟩ := id C0
  have hl : lv_has ls 1 [(0, .int a1)] := hl
  unfold f_Model_isHour at hf
  refine lv_iload_n hx hb d_Model_isHour_0 rfl (lv_at hl 0 rfl) ?_
  refine lv_i2l hx hb d_Model_isHour_1 rfl ?_
  refine lv_lconst (v := (0 : Int64)) hx hb d_Model_isHour_2 (by decide) ?_
  refine lv_ldc2 (v := (23 : Int64)) hx hb hown (htt _ k_998) d_Model_isHour_3 ?_
  obtain ⟨x1, h2, hf⟩ := bdE hf
  refine scR (rest := []) C0 (c_Model_in l D ty ((a1).toInt64) (0 : Int64) (23 : Int64) x1 h2) k_845 cal_Model_in hK (va_P_nil) ⟨by rw [hR]; decide, by rw [hR]; decide⟩ rfl rfl rfl hl.1 rfl (Nat.le_of_ble_eq_true rfl) d_Model_isHour_6 ⟨Nat.zero_le _, Nat.zero_le _⟩ rfl ?_
  obtain ⟨g3, hf⟩ := gdE hf
  obtain rfl := sj1 hf
  exact retR C0 (isZ_nar g3) hQ d_Model_isHour_9
def f_Model_anew_L2 (a1 : Int32) (K2 : Int32 × PW × PL → Option (PW × PL)) : Int32 × PW × PL → Option (PW × PL)
  | (x1, sM2, sN3) =>
  (if (53 : Int32) ≤ x1 then nm (up sM2 0 (upd (sM2 0) 4 a1)) (fun sM5 => nm (up sM5 0 (upd (sM5 0) 5 (1 : Int32))) (fun sM6 => nm (up sM6 0 (upd (sM6 0) 6 (1 : Int32))) (fun sM7 => nm (up sM7 14 (fun _ => (0 : Int32))) (fun sM8 => some (sM8, sN3))))) else gd (okI x1 53) (nm (up sM2 0 (upd (sM2 0) ((x1).toNatClampNeg) (0 : Int32))) (fun sM10 => nm (x1 + (1 : Int32)) (fun x11 => K2 (x11, sM10, sN3)))))
def f_Model_anew (sM : PW) (sN : PL) (a1 : Int32) : Option (PW × PL) :=
  loopF (f_Model_anew_L2 a1) 4000 ((0 : Int32), sM, sN)
set_option maxHeartbeats 4000000 in
set_option maxRecDepth 100000 in
theorem c_Model_anew (l : Launch) (D : va_G) (ty : Nat → ClassId) (mA : Nat → Nat) (sz : Nat) (sM : PW) (sN : PL) (a1 : Int32) (tM : PW) (tN : PL) (hf : f_Model_anew sM sN a1 = some (tM, tN)) : Met l y_Model_anew (Cond.code y_Model_anew prog_13_method_10_code 3 none :: lw_ok) { frames := 0, cells := 0, slots := 0, locals := 0 } (PcM D ty [.ref (mA 0), .int a1] sz (L_m ty mA sM sN)) (QM D (L_m ty mA tM tN) (va_A (L_m ty mA sM sN) sz) (none)) 0 0 (va_A (L_m ty mA sM sN) sz) := by
  refine hdM (by decide) (Nat.le_of_ble_eq_true rfl) ?_
  intro p e s m below meth c ls R args Q A C0 hR hQ hnm hAq hP hK hD hS hl
  obtain ⟨hx, hb, hr, hlk, hml, hown, htt⟩ := id C0
  have hl : lv_has ls 3 [(0, .ref (mA 0)), (1, .int a1)] := hl
  generalize hH0 : s.heap = H at hP hS ⊢
  have hS : va_S A s.heap H [] := by rw [hH0]; exact hS
  unfold f_Model_anew at hf
  refine lv_iconst (v := (0 : Int32)) hx hb d_Model_anew_0 (by decide) ?_
  refine lv_istore_n (lv' := [(2, .int (0 : Int32)), (0, .ref (mA 0)), (1, .int a1)]) hx hb d_Model_anew_1 rfl hl (by decide) rfl (fun ls hl => ?_)
  have B2 : ∀ (n : Nat) (x : Int32 × PW × PL), loopF (f_Model_anew_L2 a1) n x = some (tM, tN) → ∀ (H : Heap) (locs : List Loc) (ls : Array Slot), va_P D vwCl (L_m ty mA (x.2.1) (x.2.2)) H → va_D A (L_m ty mA (x.2.1) (x.2.2)) → va_S A s.heap H locs → lv_has ls 3 [(0, .ref (mA 0)), (1, .int a1), (2, .int (x.1))] → W p l e R s m args below meth c H locs 0 0 Q (F0 m 2 ls []) := by
    refine loopW (fun (x : Int32 × PW × PL) => ∀ (H : Heap) (locs : List Loc) (ls : Array Slot), va_P D vwCl (L_m ty mA (x.2.1) (x.2.2)) H → va_D A (L_m ty mA (x.2.1) (x.2.2)) → va_S A s.heap H locs → lv_has ls 3 [(0, .ref (mA 0)), (1, .int a1), (2, .int (x.1))] → W p l e R s m args below meth c H locs 0 0 Q (F0 m 2 ls [])) ?_
    intro K2 hK2 x hf
    obtain ⟨x1, sM2, sN3⟩ := x
    rw [f_Model_anew_L2] at hf
    intro H locs ls hP hD hS hl
    have hl : lv_has ls 3 [(0, .ref (mA 0)), (1, .int a1), (2, .int x1)] := hl
    have hP : va_P D vwCl (L_m ty mA sM2 sN3) H := hP
    have hD : va_D A (L_m ty mA sM2 sN3) := hD
    show W p l e R s m args below meth c H locs 0 0 Q (F0 m 2 ls [])
    refine lv_iload_n hx hb d_Model_anew_2 rfl (lv_at hl 2 rfl) ?_
    refine lv_bipush (v := (53 : Int32)) hx hb d_Model_anew_3 (by decide) ?_
    refine lv_icmp_ge (tgt := 21) hx hb d_Model_anew_5 (by decide) (fun c4 => ?_) (fun c4 => ?_)
    · replace hf := iteT c4 hf
      refine lv_aload_n hx hb d_Model_anew_21 rfl (lv_at hl 0 rfl) ?_
      refine va_get (D := D) (ci := 11) (v := .ref (mA 1)) (C := "BedFrontierModel") (T := T_Model) (N := 22) hx hb htt i_Model hown hK.1 hP 0 rfl rfl 0 (by decide) (htt _ k_772) (fun _ h9 => h9) rfl d_Model_anew_22 ?_
      refine lv_iconst (v := (4 : Int32)) hx hb d_Model_anew_25 (by decide) ?_
      refine lv_iload_n hx hb d_Model_anew_26 rfl (lv_at hl 1 rfl) ?_
      refine st_iast (j := 4) hx hb hK.1 hP hD hS 1 0 rfl rfl (okI_in (by decide)) rfl d_Model_anew_27 (fun H locs hP hD hS => ?_)
      obtain ⟨sM5, e_sM5⟩ : ∃ z : PW, z = up sM2 0 (upd (sM2 0) 4 a1) := ⟨_, rfl⟩
      replace hf := nmE hf e_sM5
      have hP : va_P D vwCl (L_m ty mA sM5 sN3) H := by rw [e_sM5]; exact hP
      have hD : va_D A (L_m ty mA sM5 sN3) := by rw [e_sM5]; exact hD
      refine lv_aload_n hx hb d_Model_anew_28 rfl (lv_at hl 0 rfl) ?_
      refine va_get (D := D) (ci := 11) (v := .ref (mA 1)) (C := "BedFrontierModel") (T := T_Model) (N := 22) hx hb htt i_Model hown hK.1 hP 0 rfl rfl 0 (by decide) (htt _ k_772) (fun _ h9 => h9) rfl d_Model_anew_29 ?_
      refine lv_iconst (v := (5 : Int32)) hx hb d_Model_anew_32 (by decide) ?_
      refine lv_iconst (v := (1 : Int32)) hx hb d_Model_anew_33 (by decide) ?_
      refine st_iast (j := 5) hx hb hK.1 hP hD hS 1 0 rfl rfl (okI_in (by decide)) rfl d_Model_anew_34 (fun H locs hP hD hS => ?_)
      obtain ⟨sM6, e_sM6⟩ : ∃ z : PW, z = up sM5 0 (upd (sM5 0) 5 (1 : Int32)) := ⟨_, rfl⟩
      replace hf := nmE hf e_sM6
      have hP : va_P D vwCl (L_m ty mA sM6 sN3) H := by rw [e_sM6]; exact hP
      have hD : va_D A (L_m ty mA sM6 sN3) := by rw [e_sM6]; exact hD
      refine lv_aload_n hx hb d_Model_anew_35 rfl (lv_at hl 0 rfl) ?_
      refine va_get (D := D) (ci := 11) (v := .ref (mA 1)) (C := "BedFrontierModel") (T := T_Model) (N := 22) hx hb htt i_Model hown hK.1 hP 0 rfl rfl 0 (by decide) (htt _ k_772) (fun _ h9 => h9) rfl d_Model_anew_36 ?_
      refine lv_bipush (v := (6 : Int32)) hx hb d_Model_anew_39 (by decide) ?_
      refine lv_iconst (v := (1 : Int32)) hx hb d_Model_anew_41 (by decide) ?_
      refine st_iast (j := 6) hx hb hK.1 hP hD hS 1 0 rfl rfl (okI_in (by decide)) rfl d_Model_anew_42 (fun H locs hP hD hS => ?_)
      obtain ⟨sM7, e_sM7⟩ : ∃ z : PW, z = up sM6 0 (upd (sM6 0) 6 (1 : Int32)) := ⟨_, rfl⟩
      replace hf := nmE hf e_sM7
      have hP : va_P D vwCl (L_m ty mA sM7 sN3) H := by rw [e_sM7]; exact hP
      have hD : va_D A (L_m ty mA sM7 sN3) := by rw [e_sM7]; exact hD
      refine lv_aload_n hx hb d_Model_anew_43 rfl (lv_at hl 0 rfl) ?_
      refine lv_iconst (v := (0 : Int32)) hx hb d_Model_anew_44 (by decide) ?_
      refine va_put (D := D) (ci := 11) (v := .int (0 : Int32)) (ty := .int) (C := "BedFrontierModel") (T := T_Model) (N := 22) hx hb htt i_Model t_Model t_Model_ok n_Model hown hK.1 hP hD hS 0 rfl rfl 14 (by decide) (htt _ k_786) (fun _ h9 => h9) rfl pfI rfl rfl (Nat.le_of_ble_eq_true rfl) d_Model_anew_45 (fun H locs hP hD hS => ?_)
      obtain ⟨sM8, e_sM8⟩ : ∃ z : PW, z = up sM7 14 (fun _ => (0 : Int32)) := ⟨_, rfl⟩
      replace hf := nmE hf e_sM8
      have hP : va_P D vwCl (L_m ty mA sM8 sN3) H := by rw [e_sM8]; exact hP
      have hD : va_D A (L_m ty mA sM8 sN3) := by rw [e_sM8]; exact hD
      obtain ⟨rfl, rfl⟩ := sj2 hf
      exact retMv C0 hQ hP hD hS d_Model_anew_48
    · replace hf := iteF c4 hf
      refine lv_aload_n hx hb d_Model_anew_8 rfl (lv_at hl 0 rfl) ?_
      refine va_get (D := D) (ci := 11) (v := .ref (mA 1)) (C := "BedFrontierModel") (T := T_Model) (N := 22) hx hb htt i_Model hown hK.1 hP 0 rfl rfl 0 (by decide) (htt _ k_772) (fun _ h9 => h9) rfl d_Model_anew_9 ?_
      refine lv_iload_n hx hb d_Model_anew_12 rfl (lv_at hl 2 rfl) ?_
      refine lv_iconst (v := (0 : Int32)) hx hb d_Model_anew_13 (by decide) ?_
      obtain ⟨g9, hf⟩ := gdE hf
      refine va_iast hx hb hK.1 hP hD hS 1 0 rfl rfl (okI_in g9) d_Model_anew_14 (fun H locs hP hD hS => ?_)
      obtain ⟨sM10, e_sM10⟩ : ∃ z : PW, z = up sM2 0 (upd (sM2 0) ((x1).toNatClampNeg) (0 : Int32)) := ⟨_, rfl⟩
      replace hf := nmE hf e_sM10
      have hP : va_P D vwCl (L_m ty mA sM10 sN3) H := by rw [e_sM10]; exact hP
      have hD : va_D A (L_m ty mA sM10 sN3) := by rw [e_sM10]; exact hD
      obtain ⟨x11, e_x11⟩ : ∃ z : Int32, z = (x1 + (1 : Int32)) := ⟨_, rfl⟩
      replace hf := nmE hf e_x11
      refine lv_iinc (v := x11) (lv' := [(2, .int x11), (0, .ref (mA 0)), (1, .int a1)]) hx hb d_Model_anew_15 hl (k := 2) rfl (by rw [e_x11]; rfl) (by decide) rfl (fun ls hl => ?_)
      refine lv_goto (tgt := 2) hx hb d_Model_anew_18 (by decide) ?_
      exact hK2 (x11, sM10, sN3) hf _ _ ls hP hD hS (lv_sub hl [1, 2, 0] rfl)
  exact B2 4000 ((0 : Int32), sM, sN) hf _ _ ls hP hD hS (lv_sub hl [1, 2, 0] rfl)
def f_Model_house (sM : PW) (sN : PL) (a1 : Int32) : Option (Int32 × PW × PL) :=
  bd (f_Model_in ((a1).toInt64) (0 : Int64) (9 : Int64)) (fun x1 => (if x1 = 0 then bd3 (f_Model_bad sM sN) (fun x8 sM9 sN10 => some (x8, sM9, sN10)) else nm (sM 0 9) (fun x4 => bd2 (f_Model_anew sM sN a1) (fun sM5 sN6 => some (x4, sM5, sN6)))))
set_option maxHeartbeats 4000000 in
set_option maxRecDepth 100000 in
theorem c_Model_house (l : Launch) (D : va_G) (ty : Nat → ClassId) (mA : Nat → Nat) (sz : Nat) (sM : PW) (sN : PL) (a1 : Int32) (rr : Int32) (tM : PW) (tN : PL) (hf : f_Model_house sM sN a1 = some (rr, tM, tN)) : Met l y_Model_house (Cond.code y_Model_house prog_13_method_11_code 3 ((Option.some FieldType.int)) :: lw_ok) { frames := 1, cells := 0, slots := 0, locals := 25 } (PcM D ty [.ref (mA 0), .int a1] sz (L_m ty mA sM sN)) (QM D (L_m ty mA tM tN) (va_A (L_m ty mA sM sN) sz) (some (.int rr))) 0 0 (va_A (L_m ty mA sM sN) sz) := by
  refine hdM (by decide) (Nat.le_of_ble_eq_true rfl) ?_
  intro p e s m below meth c ls R args Q A C0 hR hQ hnm hAq hP hK hD hS hl
  obtain ⟨hx, hb, hr, hlk, hml, hown, htt⟩ := id C0
  have hl : lv_has ls 3 [(0, .ref (mA 0)), (1, .int a1)] := hl
  generalize hH0 : s.heap = H at hP hS ⊢
  have hS : va_S A s.heap H [] := by rw [hH0]; exact hS
  unfold f_Model_house at hf
  refine lv_iload_n hx hb d_Model_house_0 rfl (lv_at hl 1 rfl) ?_
  refine lv_i2l hx hb d_Model_house_1 rfl ?_
  refine lv_lconst (v := (0 : Int64)) hx hb d_Model_house_2 (by decide) ?_
  refine lv_ldc2 (v := (9 : Int64)) hx hb hown (htt _ k_844) d_Model_house_3 ?_
  obtain ⟨x1, h2, hf⟩ := bdE hf
  refine scR (rest := []) C0 (c_Model_in l D ty ((a1).toInt64) (0 : Int64) (9 : Int64) x1 h2) k_845 cal_Model_in hK (va_P_nil) ⟨by rw [hR]; decide, by rw [hR]; decide⟩ rfl rfl rfl hl.1 rfl (Nat.le_of_ble_eq_true rfl) d_Model_house_6 ⟨Nat.zero_le _, Nat.zero_le _⟩ rfl ?_
  refine lv_if_ne (tgt := 17) hx hb d_Model_house_9 (by decide) (fun c3 => ?_) (fun c3 => ?_)
  · replace hf := iteF c3 hf
    refine lv_aload_n hx hb d_Model_house_17 rfl (lv_at hl 0 rfl) ?_
    refine va_get (D := D) (ci := 11) (v := .ref (mA 1)) (C := "BedFrontierModel") (T := T_Model) (N := 22) hx hb htt i_Model hown hK.1 hP 0 rfl rfl 0 (by decide) (htt _ k_772) (fun _ h9 => h9) rfl d_Model_house_18 ?_
    refine lv_bipush (v := (9 : Int32)) hx hb d_Model_house_21 (by decide) ?_
    refine ld_iald (j := 9) hx hb hK.1 hP 1 0 rfl rfl (okI_in (by decide)) rfl d_Model_house_23 ?_
    refine lv_topi (fun x4 e_x4 => ?_)
    replace hf := nmE hf e_x4
    refine lv_istore_n (lv' := [(2, .int x4), (0, .ref (mA 0)), (1, .int a1)]) hx hb d_Model_house_24 rfl hl (by decide) rfl (fun ls hl => ?_)
    refine lv_aload_n hx hb d_Model_house_25 rfl (lv_at hl 1 rfl) ?_
    refine lv_iload_n hx hb d_Model_house_26 rfl (lv_at hl 2 rfl) ?_
    obtain ⟨sM5, sN6, h7, hf⟩ := bd2E hf
    refine vM (Lc := (L_m ty mA sM sN)) (Lc' := (L_m ty mA sM5 sN6)) (L' := (L_m ty mA sM5 sN6)) (q0 := 0) (ci := 11) (rest := []) C0 (c_Model_anew l D ty mA H.size sM sN a1 sM5 sN6 h7) k_768 cal_Model_anew hK hP hD hS hAq [0, 1, 2, 3, 4, 5, 6, 7, 8, 9, 10, 11] [] [0, 1, 2, 3, 4, 5, 6, 7, 8, 9, 10, 11] [] rfl rfl (by decide) (by decide) (by decide) (by decide) rfl rfl rfl rfl ⟨by rw [hR]; decide, by rw [hR]; decide⟩ rfl rfl rfl hl.1 rfl (Nat.le_of_ble_eq_true rfl) d_Model_house_27 ⟨by rw [hR]; decide, by rw [hR]; decide⟩ rfl (fun H locs hP hD hS => ?_)
    refine lv_iload_n hx hb d_Model_house_30 rfl (lv_at hl 0 rfl) ?_
    obtain ⟨rfl, rfl, rfl⟩ := sj3 hf
    exact retM C0 (narI _) hQ hP hD hS d_Model_house_31
  · replace hf := iteT c3 hf
    refine lv_aload_n hx hb d_Model_house_12 rfl (lv_at hl 0 rfl) ?_
    obtain ⟨x8, sM9, sN10, h11, hf⟩ := bd3E hf
    refine vM (Lc := (L_m ty mA sM sN)) (Lc' := (L_m ty mA sM9 sN10)) (L' := (L_m ty mA sM9 sN10)) (q0 := 0) (ci := 11) (rest := []) C0 (c_Model_bad l D ty mA H.size sM sN x8 sM9 sN10 h11) k_848 cal_Model_bad hK hP hD hS hAq [0, 1, 2, 3, 4, 5, 6, 7, 8, 9, 10, 11] [] [0, 1, 2, 3, 4, 5, 6, 7, 8, 9, 10, 11] [] rfl rfl (by decide) (by decide) (by decide) (by decide) rfl rfl rfl rfl ⟨by rw [hR]; decide, by rw [hR]; decide⟩ rfl rfl rfl hl.1 rfl (Nat.le_of_ble_eq_true rfl) d_Model_house_13 ⟨by rw [hR]; decide, by rw [hR]; decide⟩ rfl (fun H locs hP hD hS => ?_)
    obtain ⟨rfl, rfl, rfl⟩ := sj3 hf
    exact retM C0 (narI _) hQ hP hD hS d_Model_house_16
def f_Model_rate (sM : PW) (sN : PL) (a1 : Int32) (a2 : Int32) : Option (Int32 × PW × PL) :=
  bd (f_Model_isSide a1) (fun x1 => (if x1 = 0 then bd3 (f_Model_bad sM sN) (fun x4 sM5 sN6 => some (x4, sM5, sN6)) else bd (f_Model_in ((a2).toInt64) (0 : Int64) (9 : Int64)) (fun x8 => (if x8 = 0 then bd3 (f_Model_bad sM sN) (fun x15 sM16 sN17 => some (x15, sM16, sN17)) else gd (okI ((5 : Int32) + a1) 53) (nm (sM 0 (((5 : Int32) + a1)).toNatClampNeg) (fun x12 => gd (okI ((5 : Int32) + a1) 53) (nm (up sM 0 (upd (sM 0) ((((5 : Int32) + a1)).toNatClampNeg) a2)) (fun sM14 => some (x12, sM14, sN)))))))))
set_option maxHeartbeats 4000000 in
set_option maxRecDepth 100000 in
theorem c_Model_rate (l : Launch) (D : va_G) (ty : Nat → ClassId) (mA : Nat → Nat) (sz : Nat) (sM : PW) (sN : PL) (a1 : Int32) (a2 : Int32) (rr : Int32) (tM : PW) (tN : PL) (hf : f_Model_rate sM sN a1 a2 = some (rr, tM, tN)) : Met l y_Model_rate (Cond.code y_Model_rate prog_13_method_12_code 4 ((Option.some FieldType.int)) :: lw_ok) { frames := 2, cells := 0, slots := 0, locals := 45 } (PcM D ty [.ref (mA 0), .int a1, .int a2] sz (L_m ty mA sM sN)) (QM D (L_m ty mA tM tN) (va_A (L_m ty mA sM sN) sz) (some (.int rr))) 0 0 (va_A (L_m ty mA sM sN) sz) := by
  refine hdM (by decide) (Nat.le_of_ble_eq_true rfl) ?_
  intro p e s m below meth c ls R args Q A C0 hR hQ hnm hAq hP hK hD hS hl
  obtain ⟨hx, hb, hr, hlk, hml, hown, htt⟩ := id C0
  have hl : lv_has ls 4 [(0, .ref (mA 0)), (1, .int a1), (2, .int a2)] := hl
  generalize hH0 : s.heap = H at hP hS ⊢
  have hS : va_S A s.heap H [] := by rw [hH0]; exact hS
  unfold f_Model_rate at hf
  refine lv_iload_n hx hb d_Model_rate_0 rfl (lv_at hl 1 rfl) ?_
  obtain ⟨x1, h2, hf⟩ := bdE hf
  refine scR (rest := []) C0 (c_Model_isSide l D ty a1 x1 h2) k_856 cal_Model_isSide hK (va_P_nil) ⟨by rw [hR]; decide, by rw [hR]; decide⟩ rfl rfl rfl hl.1 rfl (Nat.le_of_ble_eq_true rfl) d_Model_rate_1 ⟨Nat.zero_le _, Nat.zero_le _⟩ rfl ?_
  refine lv_if_eq (tgt := 19) hx hb d_Model_rate_4 (by decide) (fun c3 => ?_) (fun c3 => ?_)
  · replace hf := iteT c3 hf
    refine lv_aload_n hx hb d_Model_rate_19 rfl (lv_at hl 0 rfl) ?_
    obtain ⟨x4, sM5, sN6, h7, hf⟩ := bd3E hf
    refine vM (Lc := (L_m ty mA sM sN)) (Lc' := (L_m ty mA sM5 sN6)) (L' := (L_m ty mA sM5 sN6)) (q0 := 0) (ci := 11) (rest := []) C0 (c_Model_bad l D ty mA H.size sM sN x4 sM5 sN6 h7) k_848 cal_Model_bad hK hP hD hS hAq [0, 1, 2, 3, 4, 5, 6, 7, 8, 9, 10, 11] [] [0, 1, 2, 3, 4, 5, 6, 7, 8, 9, 10, 11] [] rfl rfl (by decide) (by decide) (by decide) (by decide) rfl rfl rfl rfl ⟨by rw [hR]; decide, by rw [hR]; decide⟩ rfl rfl rfl hl.1 rfl (Nat.le_of_ble_eq_true rfl) d_Model_rate_20 ⟨by rw [hR]; decide, by rw [hR]; decide⟩ rfl (fun H locs hP hD hS => ?_)
    obtain ⟨rfl, rfl, rfl⟩ := sj3 hf
    exact retM C0 (narI _) hQ hP hD hS d_Model_rate_23
  · replace hf := iteF c3 hf
    refine lv_iload_n hx hb d_Model_rate_7 rfl (lv_at hl 2 rfl) ?_
    refine lv_i2l hx hb d_Model_rate_8 rfl ?_
    refine lv_lconst (v := (0 : Int64)) hx hb d_Model_rate_9 (by decide) ?_
    refine lv_ldc2 (v := (9 : Int64)) hx hb hown (htt _ k_844) d_Model_rate_10 ?_
    obtain ⟨x8, h9, hf⟩ := bdE hf
    refine scR (rest := []) C0 (c_Model_in l D ty ((a2).toInt64) (0 : Int64) (9 : Int64) x8 h9) k_845 cal_Model_in hK (va_P_nil) ⟨by rw [hR]; decide, by rw [hR]; decide⟩ rfl rfl rfl hl.1 rfl (Nat.le_of_ble_eq_true rfl) d_Model_rate_13 ⟨Nat.zero_le _, Nat.zero_le _⟩ rfl ?_
    refine lv_if_ne (tgt := 24) hx hb d_Model_rate_16 (by decide) (fun c10 => ?_) (fun c10 => ?_)
    · replace hf := iteF c10 hf
      refine lv_aload_n hx hb d_Model_rate_24 rfl (lv_at hl 0 rfl) ?_
      refine va_get (D := D) (ci := 11) (v := .ref (mA 1)) (C := "BedFrontierModel") (T := T_Model) (N := 22) hx hb htt i_Model hown hK.1 hP 0 rfl rfl 0 (by decide) (htt _ k_772) (fun _ h9 => h9) rfl d_Model_rate_25 ?_
      refine lv_iconst (v := (5 : Int32)) hx hb d_Model_rate_28 (by decide) ?_
      refine lv_iload_n hx hb d_Model_rate_29 rfl (lv_at hl 1 rfl) ?_
      refine lv_iadd hx hb d_Model_rate_30 ?_
      obtain ⟨g11, hf⟩ := gdE hf
      refine va_iald hx hb hK.1 hP 1 0 rfl rfl (okI_in g11) d_Model_rate_31 ?_
      refine lv_topi (fun x12 e_x12 => ?_)
      replace hf := nmE hf e_x12
      refine lv_istore_n (lv' := [(3, .int x12), (0, .ref (mA 0)), (1, .int a1), (2, .int a2)]) hx hb d_Model_rate_32 rfl hl (by decide) rfl (fun ls hl => ?_)
      refine lv_aload_n hx hb d_Model_rate_33 rfl (lv_at hl 1 rfl) ?_
      refine va_get (D := D) (ci := 11) (v := .ref (mA 1)) (C := "BedFrontierModel") (T := T_Model) (N := 22) hx hb htt i_Model hown hK.1 hP 0 rfl rfl 0 (by decide) (htt _ k_772) (fun _ h9 => h9) rfl d_Model_rate_34 ?_
      refine lv_iconst (v := (5 : Int32)) hx hb d_Model_rate_37 (by decide) ?_
      refine lv_iload_n hx hb d_Model_rate_38 rfl (lv_at hl 2 rfl) ?_
      refine lv_iadd hx hb d_Model_rate_39 ?_
      refine lv_iload_n hx hb d_Model_rate_40 rfl (lv_at hl 3 rfl) ?_
      obtain ⟨g13, hf⟩ := gdE hf
      refine va_iast hx hb hK.1 hP hD hS 1 0 rfl rfl (okI_in g13) d_Model_rate_41 (fun H locs hP hD hS => ?_)
      obtain ⟨sM14, e_sM14⟩ : ∃ z : PW, z = up sM 0 (upd (sM 0) ((((5 : Int32) + a1)).toNatClampNeg) a2) := ⟨_, rfl⟩
      replace hf := nmE hf e_sM14
      have hP : va_P D vwCl (L_m ty mA sM14 sN) H := by rw [e_sM14]; exact hP
      have hD : va_D A (L_m ty mA sM14 sN) := by rw [e_sM14]; exact hD
      refine lv_iload_n hx hb d_Model_rate_42 rfl (lv_at hl 0 rfl) ?_
      obtain ⟨rfl, rfl, rfl⟩ := sj3 hf
      exact retM C0 (narI _) hQ hP hD hS d_Model_rate_43
    · replace hf := iteT c10 hf
      refine lv_aload_n hx hb d_Model_rate_19 rfl (lv_at hl 0 rfl) ?_
      obtain ⟨x15, sM16, sN17, h18, hf⟩ := bd3E hf
      refine vM (Lc := (L_m ty mA sM sN)) (Lc' := (L_m ty mA sM16 sN17)) (L' := (L_m ty mA sM16 sN17)) (q0 := 0) (ci := 11) (rest := []) C0 (c_Model_bad l D ty mA H.size sM sN x15 sM16 sN17 h18) k_848 cal_Model_bad hK hP hD hS hAq [0, 1, 2, 3, 4, 5, 6, 7, 8, 9, 10, 11] [] [0, 1, 2, 3, 4, 5, 6, 7, 8, 9, 10, 11] [] rfl rfl (by decide) (by decide) (by decide) (by decide) rfl rfl rfl rfl ⟨by rw [hR]; decide, by rw [hR]; decide⟩ rfl rfl rfl hl.1 rfl (Nat.le_of_ble_eq_true rfl) d_Model_rate_20 ⟨by rw [hR]; decide, by rw [hR]; decide⟩ rfl (fun H locs hP hD hS => ?_)
      obtain ⟨rfl, rfl, rfl⟩ := sj3 hf
      exact retM C0 (narI _) hQ hP hD hS d_Model_rate_23
def f_Model_bar (sM : PW) (sN : PL) (a1 : Int32) (a2 : Int32) : Option (Int32 × PW × PL) :=
  bd (f_Model_isSide a1) (fun x1 => (if x1 = 0 then bd3 (f_Model_bad sM sN) (fun x4 sM5 sN6 => some (x4, sM5, sN6)) else bd (f_Model_in ((a2).toInt64) (0 : Int64) (16777215 : Int64)) (fun x8 => (if x8 = 0 then bd3 (f_Model_bad sM sN) (fun x15 sM16 sN17 => some (x15, sM16, sN17)) else gd (okI ((7 : Int32) + a1) 53) (nm (sM 0 (((7 : Int32) + a1)).toNatClampNeg) (fun x12 => gd (okI ((7 : Int32) + a1) 53) (nm (up sM 0 (upd (sM 0) ((((7 : Int32) + a1)).toNatClampNeg) a2)) (fun sM14 => some (x12, sM14, sN)))))))))
set_option maxHeartbeats 4000000 in
set_option maxRecDepth 100000 in
theorem c_Model_bar (l : Launch) (D : va_G) (ty : Nat → ClassId) (mA : Nat → Nat) (sz : Nat) (sM : PW) (sN : PL) (a1 : Int32) (a2 : Int32) (rr : Int32) (tM : PW) (tN : PL) (hf : f_Model_bar sM sN a1 a2 = some (rr, tM, tN)) : Met l y_Model_bar (Cond.code y_Model_bar prog_13_method_13_code 4 ((Option.some FieldType.int)) :: lw_ok) { frames := 2, cells := 0, slots := 0, locals := 45 } (PcM D ty [.ref (mA 0), .int a1, .int a2] sz (L_m ty mA sM sN)) (QM D (L_m ty mA tM tN) (va_A (L_m ty mA sM sN) sz) (some (.int rr))) 0 0 (va_A (L_m ty mA sM sN) sz) := by
  refine hdM (by decide) (Nat.le_of_ble_eq_true rfl) ?_
  intro p e s m below meth c ls R args Q A C0 hR hQ hnm hAq hP hK hD hS hl
  obtain ⟨hx, hb, hr, hlk, hml, hown, htt⟩ := id C0
  have hl : lv_has ls 4 [(0, .ref (mA 0)), (1, .int a1), (2, .int a2)] := hl
  generalize hH0 : s.heap = H at hP hS ⊢
  have hS : va_S A s.heap H [] := by rw [hH0]; exact hS
  unfold f_Model_bar at hf
  refine lv_iload_n hx hb d_Model_bar_0 rfl (lv_at hl 1 rfl) ?_
  obtain ⟨x1, h2, hf⟩ := bdE hf
  refine scR (rest := []) C0 (c_Model_isSide l D ty a1 x1 h2) k_856 cal_Model_isSide hK (va_P_nil) ⟨by rw [hR]; decide, by rw [hR]; decide⟩ rfl rfl rfl hl.1 rfl (Nat.le_of_ble_eq_true rfl) d_Model_bar_1 ⟨Nat.zero_le _, Nat.zero_le _⟩ rfl ?_
  refine lv_if_eq (tgt := 19) hx hb d_Model_bar_4 (by decide) (fun c3 => ?_) (fun c3 => ?_)
  · replace hf := iteT c3 hf
    refine lv_aload_n hx hb d_Model_bar_19 rfl (lv_at hl 0 rfl) ?_
    obtain ⟨x4, sM5, sN6, h7, hf⟩ := bd3E hf
    refine vM (Lc := (L_m ty mA sM sN)) (Lc' := (L_m ty mA sM5 sN6)) (L' := (L_m ty mA sM5 sN6)) (q0 := 0) (ci := 11) (rest := []) C0 (c_Model_bad l D ty mA H.size sM sN x4 sM5 sN6 h7) k_848 cal_Model_bad hK hP hD hS hAq [0, 1, 2, 3, 4, 5, 6, 7, 8, 9, 10, 11] [] [0, 1, 2, 3, 4, 5, 6, 7, 8, 9, 10, 11] [] rfl rfl (by decide) (by decide) (by decide) (by decide) rfl rfl rfl rfl ⟨by rw [hR]; decide, by rw [hR]; decide⟩ rfl rfl rfl hl.1 rfl (Nat.le_of_ble_eq_true rfl) d_Model_bar_20 ⟨by rw [hR]; decide, by rw [hR]; decide⟩ rfl (fun H locs hP hD hS => ?_)
    obtain ⟨rfl, rfl, rfl⟩ := sj3 hf
    exact retM C0 (narI _) hQ hP hD hS d_Model_bar_23
  · replace hf := iteF c3 hf
    refine lv_iload_n hx hb d_Model_bar_7 rfl (lv_at hl 2 rfl) ?_
    refine lv_i2l hx hb d_Model_bar_8 rfl ?_
    refine lv_lconst (v := (0 : Int64)) hx hb d_Model_bar_9 (by decide) ?_
    refine lv_ldc2 (v := (16777215 : Int64)) hx hb hown (htt _ k_863) d_Model_bar_10 ?_
    obtain ⟨x8, h9, hf⟩ := bdE hf
    refine scR (rest := []) C0 (c_Model_in l D ty ((a2).toInt64) (0 : Int64) (16777215 : Int64) x8 h9) k_845 cal_Model_in hK (va_P_nil) ⟨by rw [hR]; decide, by rw [hR]; decide⟩ rfl rfl rfl hl.1 rfl (Nat.le_of_ble_eq_true rfl) d_Model_bar_13 ⟨Nat.zero_le _, Nat.zero_le _⟩ rfl ?_
    refine lv_if_ne (tgt := 24) hx hb d_Model_bar_16 (by decide) (fun c10 => ?_) (fun c10 => ?_)
    · replace hf := iteF c10 hf
      refine lv_aload_n hx hb d_Model_bar_24 rfl (lv_at hl 0 rfl) ?_
      refine va_get (D := D) (ci := 11) (v := .ref (mA 1)) (C := "BedFrontierModel") (T := T_Model) (N := 22) hx hb htt i_Model hown hK.1 hP 0 rfl rfl 0 (by decide) (htt _ k_772) (fun _ h9 => h9) rfl d_Model_bar_25 ?_
      refine lv_bipush (v := (7 : Int32)) hx hb d_Model_bar_28 (by decide) ?_
      refine lv_iload_n hx hb d_Model_bar_30 rfl (lv_at hl 1 rfl) ?_
      refine lv_iadd hx hb d_Model_bar_31 ?_
      obtain ⟨g11, hf⟩ := gdE hf
      refine va_iald hx hb hK.1 hP 1 0 rfl rfl (okI_in g11) d_Model_bar_32 ?_
      refine lv_topi (fun x12 e_x12 => ?_)
      replace hf := nmE hf e_x12
      refine lv_istore_n (lv' := [(3, .int x12), (0, .ref (mA 0)), (1, .int a1), (2, .int a2)]) hx hb d_Model_bar_33 rfl hl (by decide) rfl (fun ls hl => ?_)
      refine lv_aload_n hx hb d_Model_bar_34 rfl (lv_at hl 1 rfl) ?_
      refine va_get (D := D) (ci := 11) (v := .ref (mA 1)) (C := "BedFrontierModel") (T := T_Model) (N := 22) hx hb htt i_Model hown hK.1 hP 0 rfl rfl 0 (by decide) (htt _ k_772) (fun _ h9 => h9) rfl d_Model_bar_35 ?_
      refine lv_bipush (v := (7 : Int32)) hx hb d_Model_bar_38 (by decide) ?_
      refine lv_iload_n hx hb d_Model_bar_40 rfl (lv_at hl 2 rfl) ?_
      refine lv_iadd hx hb d_Model_bar_41 ?_
      refine lv_iload_n hx hb d_Model_bar_42 rfl (lv_at hl 3 rfl) ?_
      obtain ⟨g13, hf⟩ := gdE hf
      refine va_iast hx hb hK.1 hP hD hS 1 0 rfl rfl (okI_in g13) d_Model_bar_43 (fun H locs hP hD hS => ?_)
      obtain ⟨sM14, e_sM14⟩ : ∃ z : PW, z = up sM 0 (upd (sM 0) ((((7 : Int32) + a1)).toNatClampNeg) a2) := ⟨_, rfl⟩
      replace hf := nmE hf e_sM14
      have hP : va_P D vwCl (L_m ty mA sM14 sN) H := by rw [e_sM14]; exact hP
      have hD : va_D A (L_m ty mA sM14 sN) := by rw [e_sM14]; exact hD
      refine lv_iload_n hx hb d_Model_bar_44 rfl (lv_at hl 0 rfl) ?_
      obtain ⟨rfl, rfl, rfl⟩ := sj3 hf
      exact retM C0 (narI _) hQ hP hD hS d_Model_bar_45
    · replace hf := iteT c10 hf
      refine lv_aload_n hx hb d_Model_bar_19 rfl (lv_at hl 0 rfl) ?_
      obtain ⟨x15, sM16, sN17, h18, hf⟩ := bd3E hf
      refine vM (Lc := (L_m ty mA sM sN)) (Lc' := (L_m ty mA sM16 sN17)) (L' := (L_m ty mA sM16 sN17)) (q0 := 0) (ci := 11) (rest := []) C0 (c_Model_bad l D ty mA H.size sM sN x15 sM16 sN17 h18) k_848 cal_Model_bad hK hP hD hS hAq [0, 1, 2, 3, 4, 5, 6, 7, 8, 9, 10, 11] [] [0, 1, 2, 3, 4, 5, 6, 7, 8, 9, 10, 11] [] rfl rfl (by decide) (by decide) (by decide) (by decide) rfl rfl rfl rfl ⟨by rw [hR]; decide, by rw [hR]; decide⟩ rfl rfl rfl hl.1 rfl (Nat.le_of_ble_eq_true rfl) d_Model_bar_20 ⟨by rw [hR]; decide, by rw [hR]; decide⟩ rfl (fun H locs hP hD hS => ?_)
      obtain ⟨rfl, rfl, rfl⟩ := sj3 hf
      exact retM C0 (narI _) hQ hP hD hS d_Model_bar_23
def f_Model_add (sM : PW) (sN : PL) (a1 : Int32) (a2 : Int32) : Option (PW × PL) :=
  gd (okI ((10 : Int32) + (sM 0 9)) 53) (nm (up sM 0 (upd (sM 0) ((((10 : Int32) + (sM 0 9))).toNatClampNeg) a1)) (fun sM2 => gd (okI ((16 : Int32) + (sM2 0 9)) 53) (nm (up sM2 0 (upd (sM2 0) ((((16 : Int32) + (sM2 0 9))).toNatClampNeg) a2)) (fun sM4 => nm (up sM4 0 (upd (sM4 0) 9 ((sM4 0 9) + (1 : Int32)))) (fun sM5 => some (sM5, sN))))))
set_option maxHeartbeats 4000000 in
set_option maxRecDepth 100000 in
theorem c_Model_add (l : Launch) (D : va_G) (ty : Nat → ClassId) (mA : Nat → Nat) (sz : Nat) (sM : PW) (sN : PL) (a1 : Int32) (a2 : Int32) (tM : PW) (tN : PL) (hf : f_Model_add sM sN a1 a2 = some (tM, tN)) : Met l y_Model_add (Cond.code y_Model_add prog_13_method_14_code 3 none :: lw_ok) { frames := 0, cells := 0, slots := 0, locals := 0 } (PcM D ty [.ref (mA 0), .int a1, .int a2] sz (L_m ty mA sM sN)) (QM D (L_m ty mA tM tN) (va_A (L_m ty mA sM sN) sz) (none)) 0 0 (va_A (L_m ty mA sM sN) sz) := by
  refine hdM (by decide) (Nat.le_of_ble_eq_true rfl) ?_
  intro p e s m below meth c ls R args Q A C0 hR hQ hnm hAq hP hK hD hS hl
  obtain ⟨hx, hb, hr, hlk, hml, hown, htt⟩ := id C0
  have hl : lv_has ls 3 [(0, .ref (mA 0)), (1, .int a1), (2, .int a2)] := hl
  generalize hH0 : s.heap = H at hP hS ⊢
  have hS : va_S A s.heap H [] := by rw [hH0]; exact hS
  unfold f_Model_add at hf
  refine lv_aload_n hx hb d_Model_add_0 rfl (lv_at hl 0 rfl) ?_
  refine va_get (D := D) (ci := 11) (v := .ref (mA 1)) (C := "BedFrontierModel") (T := T_Model) (N := 22) hx hb htt i_Model hown hK.1 hP 0 rfl rfl 0 (by decide) (htt _ k_772) (fun _ h9 => h9) rfl d_Model_add_1 ?_
  refine lv_bipush (v := (10 : Int32)) hx hb d_Model_add_4 (by decide) ?_
  refine lv_aload_n hx hb d_Model_add_6 rfl (lv_at hl 0 rfl) ?_
  refine va_get (D := D) (ci := 11) (v := .ref (mA 1)) (C := "BedFrontierModel") (T := T_Model) (N := 22) hx hb htt i_Model hown hK.1 hP 0 rfl rfl 0 (by decide) (htt _ k_772) (fun _ h9 => h9) rfl d_Model_add_7 ?_
  refine lv_bipush (v := (9 : Int32)) hx hb d_Model_add_10 (by decide) ?_
  refine ld_iald (j := 9) hx hb hK.1 hP 1 0 rfl rfl (okI_in (by decide)) rfl d_Model_add_12 ?_
  refine lv_iadd hx hb d_Model_add_13 ?_
  refine lv_iload_n hx hb d_Model_add_14 rfl (lv_at hl 1 rfl) ?_
  obtain ⟨g1, hf⟩ := gdE hf
  refine va_iast hx hb hK.1 hP hD hS 1 0 rfl rfl (okI_in g1) d_Model_add_15 (fun H locs hP hD hS => ?_)
  obtain ⟨sM2, e_sM2⟩ : ∃ z : PW, z = up sM 0 (upd (sM 0) ((((10 : Int32) + (sM 0 9))).toNatClampNeg) a1) := ⟨_, rfl⟩
  replace hf := nmE hf e_sM2
  have hP : va_P D vwCl (L_m ty mA sM2 sN) H := by rw [e_sM2]; exact hP
  have hD : va_D A (L_m ty mA sM2 sN) := by rw [e_sM2]; exact hD
  refine lv_aload_n hx hb d_Model_add_16 rfl (lv_at hl 0 rfl) ?_
  refine va_get (D := D) (ci := 11) (v := .ref (mA 1)) (C := "BedFrontierModel") (T := T_Model) (N := 22) hx hb htt i_Model hown hK.1 hP 0 rfl rfl 0 (by decide) (htt _ k_772) (fun _ h9 => h9) rfl d_Model_add_17 ?_
  refine lv_bipush (v := (16 : Int32)) hx hb d_Model_add_20 (by decide) ?_
  refine lv_aload_n hx hb d_Model_add_22 rfl (lv_at hl 0 rfl) ?_
  refine va_get (D := D) (ci := 11) (v := .ref (mA 1)) (C := "BedFrontierModel") (T := T_Model) (N := 22) hx hb htt i_Model hown hK.1 hP 0 rfl rfl 0 (by decide) (htt _ k_772) (fun _ h9 => h9) rfl d_Model_add_23 ?_
  refine lv_bipush (v := (9 : Int32)) hx hb d_Model_add_26 (by decide) ?_
  refine ld_iald (j := 9) hx hb hK.1 hP 1 0 rfl rfl (okI_in (by decide)) rfl d_Model_add_28 ?_
  refine lv_iadd hx hb d_Model_add_29 ?_
  refine lv_iload_n hx hb d_Model_add_30 rfl (lv_at hl 2 rfl) ?_
  obtain ⟨g3, hf⟩ := gdE hf
  refine va_iast hx hb hK.1 hP hD hS 1 0 rfl rfl (okI_in g3) d_Model_add_31 (fun H locs hP hD hS => ?_)
  obtain ⟨sM4, e_sM4⟩ : ∃ z : PW, z = up sM2 0 (upd (sM2 0) ((((16 : Int32) + (sM2 0 9))).toNatClampNeg) a2) := ⟨_, rfl⟩
  replace hf := nmE hf e_sM4
  have hP : va_P D vwCl (L_m ty mA sM4 sN) H := by rw [e_sM4]; exact hP
  have hD : va_D A (L_m ty mA sM4 sN) := by rw [e_sM4]; exact hD
  refine lv_aload_n hx hb d_Model_add_32 rfl (lv_at hl 0 rfl) ?_
  refine va_get (D := D) (ci := 11) (v := .ref (mA 1)) (C := "BedFrontierModel") (T := T_Model) (N := 22) hx hb htt i_Model hown hK.1 hP 0 rfl rfl 0 (by decide) (htt _ k_772) (fun _ h9 => h9) rfl d_Model_add_33 ?_
  refine lv_bipush (v := (9 : Int32)) hx hb d_Model_add_36 (by decide) ?_
  refine lv_dup2_11 hx hb d_Model_add_38 rfl rfl ?_
  refine ld_iald (j := 9) hx hb hK.1 hP 1 0 rfl rfl (okI_in (by decide)) rfl d_Model_add_39 ?_
  refine lv_iconst (v := (1 : Int32)) hx hb d_Model_add_40 (by decide) ?_
  refine lv_iadd hx hb d_Model_add_41 ?_
  refine st_iast (j := 9) hx hb hK.1 hP hD hS 1 0 rfl rfl (okI_in (by decide)) rfl d_Model_add_42 (fun H locs hP hD hS => ?_)
  obtain ⟨sM5, e_sM5⟩ : ∃ z : PW, z = up sM4 0 (upd (sM4 0) 9 ((sM4 0 9) + (1 : Int32))) := ⟨_, rfl⟩
  replace hf := nmE hf e_sM5
  have hP : va_P D vwCl (L_m ty mA sM5 sN) H := by rw [e_sM5]; exact hP
  have hD : va_D A (L_m ty mA sM5 sN) := by rw [e_sM5]; exact hD
  obtain ⟨rfl, rfl⟩ := sj2 hf
  exact retMv C0 hQ hP hD hS d_Model_add_43
def f_Model_doing (sM : PW) (sN : PL) (a1 : Int32) (a2 : Int32) : Option (Int32 × PW × PL) :=
  bd (f_Model_in ((a1).toInt64) (0 : Int64) (5 : Int64)) (fun x1 => (if x1 = 0 then bd3 (f_Model_bad sM sN) (fun x4 sM5 sN6 => some (x4, sM5, sN6)) else bd (f_Model_in ((a2).toInt64) (0 : Int64) (20 : Int64)) (fun x8 => (if x8 = 0 then bd3 (f_Model_bad sM sN) (fun x20 sM21 sN22 => some (x20, sM21, sN22)) else (if (sM 0 9) = (6 : Int32) then bd3 (f_Model_full sM sN) (fun x16 sM17 sN18 => some (x16, sM17, sN18)) else bd2 (f_Model_add sM sN a1 a2) (fun sM12 sN13 => nm (up sM12 14 (fun _ => (0 : Int32))) (fun sM15 => some (((sM15 0 9) - (1 : Int32)), sM15, sN13))))))))
set_option maxHeartbeats 4000000 in
set_option maxRecDepth 100000 in
theorem c_Model_doing (l : Launch) (D : va_G) (ty : Nat → ClassId) (mA : Nat → Nat) (sz : Nat) (sM : PW) (sN : PL) (a1 : Int32) (a2 : Int32) (rr : Int32) (tM : PW) (tN : PL) (hf : f_Model_doing sM sN a1 a2 = some (rr, tM, tN)) : Met l y_Model_doing (Cond.code y_Model_doing prog_13_method_15_code 3 ((Option.some FieldType.int)) :: lw_ok) { frames := 1, cells := 0, slots := 0, locals := 25 } (PcM D ty [.ref (mA 0), .int a1, .int a2] sz (L_m ty mA sM sN)) (QM D (L_m ty mA tM tN) (va_A (L_m ty mA sM sN) sz) (some (.int rr))) 0 0 (va_A (L_m ty mA sM sN) sz) := by
  refine hdM (by decide) (Nat.le_of_ble_eq_true rfl) ?_
  intro p e s m below meth c ls R args Q A C0 hR hQ hnm hAq hP hK hD hS hl
  obtain ⟨hx, hb, hr, hlk, hml, hown, htt⟩ := id C0
  have hl : lv_has ls 3 [(0, .ref (mA 0)), (1, .int a1), (2, .int a2)] := hl
  generalize hH0 : s.heap = H at hP hS ⊢
  have hS : va_S A s.heap H [] := by rw [hH0]; exact hS
  unfold f_Model_doing at hf
  refine lv_iload_n hx hb d_Model_doing_0 rfl (lv_at hl 1 rfl) ?_
  refine lv_i2l hx hb d_Model_doing_1 rfl ?_
  refine lv_lconst (v := (0 : Int64)) hx hb d_Model_doing_2 (by decide) ?_
  refine lv_ldc2 (v := (5 : Int64)) hx hb hown (htt _ k_868) d_Model_doing_3 ?_
  obtain ⟨x1, h2, hf⟩ := bdE hf
  refine scR (rest := []) C0 (c_Model_in l D ty ((a1).toInt64) (0 : Int64) (5 : Int64) x1 h2) k_845 cal_Model_in hK (va_P_nil) ⟨by rw [hR]; decide, by rw [hR]; decide⟩ rfl rfl rfl hl.1 rfl (Nat.le_of_ble_eq_true rfl) d_Model_doing_6 ⟨Nat.zero_le _, Nat.zero_le _⟩ rfl ?_
  refine lv_if_eq (tgt := 24) hx hb d_Model_doing_9 (by decide) (fun c3 => ?_) (fun c3 => ?_)
  · replace hf := iteT c3 hf
    refine lv_aload_n hx hb d_Model_doing_24 rfl (lv_at hl 0 rfl) ?_
    obtain ⟨x4, sM5, sN6, h7, hf⟩ := bd3E hf
    refine vM (Lc := (L_m ty mA sM sN)) (Lc' := (L_m ty mA sM5 sN6)) (L' := (L_m ty mA sM5 sN6)) (q0 := 0) (ci := 11) (rest := []) C0 (c_Model_bad l D ty mA H.size sM sN x4 sM5 sN6 h7) k_848 cal_Model_bad hK hP hD hS hAq [0, 1, 2, 3, 4, 5, 6, 7, 8, 9, 10, 11] [] [0, 1, 2, 3, 4, 5, 6, 7, 8, 9, 10, 11] [] rfl rfl (by decide) (by decide) (by decide) (by decide) rfl rfl rfl rfl ⟨by rw [hR]; decide, by rw [hR]; decide⟩ rfl rfl rfl hl.1 rfl (Nat.le_of_ble_eq_true rfl) d_Model_doing_25 ⟨by rw [hR]; decide, by rw [hR]; decide⟩ rfl (fun H locs hP hD hS => ?_)
    obtain ⟨rfl, rfl, rfl⟩ := sj3 hf
    exact retM C0 (narI _) hQ hP hD hS d_Model_doing_28
  · replace hf := iteF c3 hf
    refine lv_iload_n hx hb d_Model_doing_12 rfl (lv_at hl 2 rfl) ?_
    refine lv_i2l hx hb d_Model_doing_13 rfl ?_
    refine lv_lconst (v := (0 : Int64)) hx hb d_Model_doing_14 (by decide) ?_
    refine lv_ldc2 (v := (20 : Int64)) hx hb hown (htt _ k_869) d_Model_doing_15 ?_
    obtain ⟨x8, h9, hf⟩ := bdE hf
    refine scR (rest := []) C0 (c_Model_in l D ty ((a2).toInt64) (0 : Int64) (20 : Int64) x8 h9) k_845 cal_Model_in hK (va_P_nil) ⟨by rw [hR]; decide, by rw [hR]; decide⟩ rfl rfl rfl hl.1 rfl (Nat.le_of_ble_eq_true rfl) d_Model_doing_18 ⟨Nat.zero_le _, Nat.zero_le _⟩ rfl ?_
    refine lv_if_ne (tgt := 29) hx hb d_Model_doing_21 (by decide) (fun c10 => ?_) (fun c10 => ?_)
    · replace hf := iteF c10 hf
      refine lv_aload_n hx hb d_Model_doing_29 rfl (lv_at hl 0 rfl) ?_
      refine va_get (D := D) (ci := 11) (v := .ref (mA 1)) (C := "BedFrontierModel") (T := T_Model) (N := 22) hx hb htt i_Model hown hK.1 hP 0 rfl rfl 0 (by decide) (htt _ k_772) (fun _ h9 => h9) rfl d_Model_doing_30 ?_
      refine lv_bipush (v := (9 : Int32)) hx hb d_Model_doing_33 (by decide) ?_
      refine ld_iald (j := 9) hx hb hK.1 hP 1 0 rfl rfl (okI_in (by decide)) rfl d_Model_doing_35 ?_
      refine lv_bipush (v := (6 : Int32)) hx hb d_Model_doing_36 (by decide) ?_
      refine lv_icmp_ne (tgt := 46) hx hb d_Model_doing_38 (by decide) (fun c11 => ?_) (fun c11 => ?_)
      · replace hf := iteF c11 hf
        refine lv_aload_n hx hb d_Model_doing_46 rfl (lv_at hl 0 rfl) ?_
        refine lv_iload_n hx hb d_Model_doing_47 rfl (lv_at hl 1 rfl) ?_
        refine lv_iload_n hx hb d_Model_doing_48 rfl (lv_at hl 2 rfl) ?_
        obtain ⟨sM12, sN13, h14, hf⟩ := bd2E hf
        refine vM (Lc := (L_m ty mA sM sN)) (Lc' := (L_m ty mA sM12 sN13)) (L' := (L_m ty mA sM12 sN13)) (q0 := 0) (ci := 11) (rest := []) C0 (c_Model_add l D ty mA H.size sM sN a1 a2 sM12 sN13 h14) k_874 cal_Model_add hK hP hD hS hAq [0, 1, 2, 3, 4, 5, 6, 7, 8, 9, 10, 11] [] [0, 1, 2, 3, 4, 5, 6, 7, 8, 9, 10, 11] [] rfl rfl (by decide) (by decide) (by decide) (by decide) rfl rfl rfl rfl ⟨by rw [hR]; decide, by rw [hR]; decide⟩ rfl rfl rfl hl.1 rfl (Nat.le_of_ble_eq_true rfl) d_Model_doing_49 ⟨by rw [hR]; decide, by rw [hR]; decide⟩ rfl (fun H locs hP hD hS => ?_)
        refine lv_aload_n hx hb d_Model_doing_52 rfl (lv_at hl 0 rfl) ?_
        refine lv_iconst (v := (0 : Int32)) hx hb d_Model_doing_53 (by decide) ?_
        refine va_put (D := D) (ci := 11) (v := .int (0 : Int32)) (ty := .int) (C := "BedFrontierModel") (T := T_Model) (N := 22) hx hb htt i_Model t_Model t_Model_ok n_Model hown hK.1 hP hD hS 0 rfl rfl 14 (by decide) (htt _ k_786) (fun _ h9 => h9) rfl pfI rfl rfl (Nat.le_of_ble_eq_true rfl) d_Model_doing_54 (fun H locs hP hD hS => ?_)
        obtain ⟨sM15, e_sM15⟩ : ∃ z : PW, z = up sM12 14 (fun _ => (0 : Int32)) := ⟨_, rfl⟩
        replace hf := nmE hf e_sM15
        have hP : va_P D vwCl (L_m ty mA sM15 sN13) H := by rw [e_sM15]; exact hP
        have hD : va_D A (L_m ty mA sM15 sN13) := by rw [e_sM15]; exact hD
        refine lv_aload_n hx hb d_Model_doing_57 rfl (lv_at hl 0 rfl) ?_
        refine va_get (D := D) (ci := 11) (v := .ref (mA 1)) (C := "BedFrontierModel") (T := T_Model) (N := 22) hx hb htt i_Model hown hK.1 hP 0 rfl rfl 0 (by decide) (htt _ k_772) (fun _ h9 => h9) rfl d_Model_doing_58 ?_
        refine lv_bipush (v := (9 : Int32)) hx hb d_Model_doing_61 (by decide) ?_
        refine ld_iald (j := 9) hx hb hK.1 hP 1 0 rfl rfl (okI_in (by decide)) rfl d_Model_doing_63 ?_
        refine lv_iconst (v := (1 : Int32)) hx hb d_Model_doing_64 (by decide) ?_
        refine lv_isub hx hb d_Model_doing_65 ?_
        obtain ⟨rfl, rfl, rfl⟩ := sj3 hf
        exact retM C0 (narI _) hQ hP hD hS d_Model_doing_66
      · replace hf := iteT c11 hf
        refine lv_aload_n hx hb d_Model_doing_41 rfl (lv_at hl 0 rfl) ?_
        obtain ⟨x16, sM17, sN18, h19, hf⟩ := bd3E hf
        refine vM (Lc := (L_m ty mA sM sN)) (Lc' := (L_m ty mA sM17 sN18)) (L' := (L_m ty mA sM17 sN18)) (q0 := 0) (ci := 11) (rest := []) C0 (c_Model_full l D ty mA H.size sM sN x16 sM17 sN18 h19) k_870 cal_Model_full hK hP hD hS hAq [0, 1, 2, 3, 4, 5, 6, 7, 8, 9, 10, 11] [] [0, 1, 2, 3, 4, 5, 6, 7, 8, 9, 10, 11] [] rfl rfl (by decide) (by decide) (by decide) (by decide) rfl rfl rfl rfl ⟨by rw [hR]; decide, by rw [hR]; decide⟩ rfl rfl rfl hl.1 rfl (Nat.le_of_ble_eq_true rfl) d_Model_doing_42 ⟨by rw [hR]; decide, by rw [hR]; decide⟩ rfl (fun H locs hP hD hS => ?_)
        obtain ⟨rfl, rfl, rfl⟩ := sj3 hf
        exact retM C0 (narI _) hQ hP hD hS d_Model_doing_45
    · replace hf := iteT c10 hf
      refine lv_aload_n hx hb d_Model_doing_24 rfl (lv_at hl 0 rfl) ?_
      obtain ⟨x20, sM21, sN22, h23, hf⟩ := bd3E hf
      refine vM (Lc := (L_m ty mA sM sN)) (Lc' := (L_m ty mA sM21 sN22)) (L' := (L_m ty mA sM21 sN22)) (q0 := 0) (ci := 11) (rest := []) C0 (c_Model_bad l D ty mA H.size sM sN x20 sM21 sN22 h23) k_848 cal_Model_bad hK hP hD hS hAq [0, 1, 2, 3, 4, 5, 6, 7, 8, 9, 10, 11] [] [0, 1, 2, 3, 4, 5, 6, 7, 8, 9, 10, 11] [] rfl rfl (by decide) (by decide) (by decide) (by decide) rfl rfl rfl rfl ⟨by rw [hR]; decide, by rw [hR]; decide⟩ rfl rfl rfl hl.1 rfl (Nat.le_of_ble_eq_true rfl) d_Model_doing_25 ⟨by rw [hR]; decide, by rw [hR]; decide⟩ rfl (fun H locs hP hD hS => ?_)
      obtain ⟨rfl, rfl, rfl⟩ := sj3 hf
      exact retM C0 (narI _) hQ hP hD hS d_Model_doing_28
def f_Model_type (sM : PW) (sN : PL) (a1 : Int32) : Option (Int32 × PW × PL) :=
  bd (f_Model_in ((a1).toInt64) (0 : Int64) (127 : Int64)) (fun x1 => (if x1 = 0 then bd3 (f_Model_bad sM sN) (fun x12 sM13 sN14 => some (x12, sM13, sN14)) else (if (sM 5 0) = (150 : Int32) then bd3 (f_Model_full sM sN) (fun x8 sM9 sN10 => some (x8, sM9, sN10)) else gd (okI (sM 5 0) 150) (nm (up sM 4 (upd (sM 4) (((sM 5 0)).toNatClampNeg) a1)) (fun sM6 => nm (up sM6 5 (fun _ => ((sM6 5 0) + (1 : Int32)))) (fun sM7 => some ((sM7 5 0), sM7, sN)))))))
set_option maxHeartbeats 4000000 in
set_option maxRecDepth 100000 in
theorem c_Model_type (l : Launch) (D : va_G) (ty : Nat → ClassId) (mA : Nat → Nat) (sz : Nat) (sM : PW) (sN : PL) (a1 : Int32) (rr : Int32) (tM : PW) (tN : PL) (hf : f_Model_type sM sN a1 = some (rr, tM, tN)) : Met l y_Model_type (Cond.code y_Model_type prog_13_method_16_code 2 ((Option.some FieldType.int)) :: lw_ok) { frames := 1, cells := 0, slots := 0, locals := 25 } (PcM D ty [.ref (mA 0), .int a1] sz (L_m ty mA sM sN)) (QM D (L_m ty mA tM tN) (va_A (L_m ty mA sM sN) sz) (some (.int rr))) 0 0 (va_A (L_m ty mA sM sN) sz) := by
  refine hdM (by decide) (Nat.le_of_ble_eq_true rfl) ?_
  intro p e s m below meth c ls R args Q A C0 hR hQ hnm hAq hP hK hD hS hl
  obtain ⟨hx, hb, hr, hlk, hml, hown, htt⟩ := id C0
  have hl : lv_has ls 2 [(0, .ref (mA 0)), (1, .int a1)] := hl
  generalize hH0 : s.heap = H at hP hS ⊢
  have hS : va_S A s.heap H [] := by rw [hH0]; exact hS
  unfold f_Model_type at hf
  refine lv_iload_n hx hb d_Model_type_0 rfl (lv_at hl 1 rfl) ?_
  refine lv_i2l hx hb d_Model_type_1 rfl ?_
  refine lv_lconst (v := (0 : Int64)) hx hb d_Model_type_2 (by decide) ?_
  refine lv_ldc2 (v := (127 : Int64)) hx hb hown (htt _ k_882) d_Model_type_3 ?_
  obtain ⟨x1, h2, hf⟩ := bdE hf
  refine scR (rest := []) C0 (c_Model_in l D ty ((a1).toInt64) (0 : Int64) (127 : Int64) x1 h2) k_845 cal_Model_in hK (va_P_nil) ⟨by rw [hR]; decide, by rw [hR]; decide⟩ rfl rfl rfl hl.1 rfl (Nat.le_of_ble_eq_true rfl) d_Model_type_6 ⟨Nat.zero_le _, Nat.zero_le _⟩ rfl ?_
  refine lv_if_ne (tgt := 17) hx hb d_Model_type_9 (by decide) (fun c3 => ?_) (fun c3 => ?_)
  · replace hf := iteF c3 hf
    refine lv_aload_n hx hb d_Model_type_17 rfl (lv_at hl 0 rfl) ?_
    refine va_get (D := D) (ci := 11) (v := .int (sM 5 0)) (C := "BedFrontierModel") (T := T_Model) (N := 22) hx hb htt i_Model hown hK.1 hP 0 rfl rfl 5 (by decide) (htt _ k_777) (fun _ h9 => h9) rfl d_Model_type_18 ?_
    refine lv_sipush (v := (150 : Int32)) hx hb d_Model_type_21 (by decide) ?_
    refine lv_icmp_ne (tgt := 32) hx hb d_Model_type_24 (by decide) (fun c4 => ?_) (fun c4 => ?_)
    · replace hf := iteF c4 hf
      refine lv_aload_n hx hb d_Model_type_32 rfl (lv_at hl 0 rfl) ?_
      refine va_get (D := D) (ci := 11) (v := .ref (mA 5)) (C := "BedFrontierModel") (T := T_Model) (N := 22) hx hb htt i_Model hown hK.1 hP 0 rfl rfl 4 (by decide) (htt _ k_776) (fun _ h9 => h9) rfl d_Model_type_33 ?_
      refine lv_aload_n hx hb d_Model_type_36 rfl (lv_at hl 0 rfl) ?_
      refine va_get (D := D) (ci := 11) (v := .int (sM 5 0)) (C := "BedFrontierModel") (T := T_Model) (N := 22) hx hb htt i_Model hown hK.1 hP 0 rfl rfl 5 (by decide) (htt _ k_777) (fun _ h9 => h9) rfl d_Model_type_37 ?_
      refine lv_iload_n hx hb d_Model_type_40 rfl (lv_at hl 1 rfl) ?_
      obtain ⟨g5, hf⟩ := gdE hf
      refine va_iast hx hb hK.1 hP hD hS 3 0 rfl rfl (okI_in g5) d_Model_type_41 (fun H locs hP hD hS => ?_)
      obtain ⟨sM6, e_sM6⟩ : ∃ z : PW, z = up sM 4 (upd (sM 4) (((sM 5 0)).toNatClampNeg) a1) := ⟨_, rfl⟩
      replace hf := nmE hf e_sM6
      have hP : va_P D vwCl (L_m ty mA sM6 sN) H := by rw [e_sM6]; exact hP
      have hD : va_D A (L_m ty mA sM6 sN) := by rw [e_sM6]; exact hD
      refine lv_aload_n hx hb d_Model_type_42 rfl (lv_at hl 0 rfl) ?_
      refine lv_dup hx hb d_Model_type_43 rfl ?_
      refine va_get (D := D) (ci := 11) (v := .int (sM6 5 0)) (C := "BedFrontierModel") (T := T_Model) (N := 22) hx hb htt i_Model hown hK.1 hP 0 rfl rfl 5 (by decide) (htt _ k_777) (fun _ h9 => h9) rfl d_Model_type_44 ?_
      refine lv_iconst (v := (1 : Int32)) hx hb d_Model_type_47 (by decide) ?_
      refine lv_iadd hx hb d_Model_type_48 ?_
      refine va_put (D := D) (ci := 11) (v := .int ((sM6 5 0) + (1 : Int32))) (ty := .int) (C := "BedFrontierModel") (T := T_Model) (N := 22) hx hb htt i_Model t_Model t_Model_ok n_Model hown hK.1 hP hD hS 0 rfl rfl 5 (by decide) (htt _ k_777) (fun _ h9 => h9) rfl pfI rfl rfl (Nat.le_of_ble_eq_true rfl) d_Model_type_49 (fun H locs hP hD hS => ?_)
      obtain ⟨sM7, e_sM7⟩ : ∃ z : PW, z = up sM6 5 (fun _ => ((sM6 5 0) + (1 : Int32))) := ⟨_, rfl⟩
      replace hf := nmE hf e_sM7
      have hP : va_P D vwCl (L_m ty mA sM7 sN) H := by rw [e_sM7]; exact hP
      have hD : va_D A (L_m ty mA sM7 sN) := by rw [e_sM7]; exact hD
      refine lv_aload_n hx hb d_Model_type_52 rfl (lv_at hl 0 rfl) ?_
      refine va_get (D := D) (ci := 11) (v := .int (sM7 5 0)) (C := "BedFrontierModel") (T := T_Model) (N := 22) hx hb htt i_Model hown hK.1 hP 0 rfl rfl 5 (by decide) (htt _ k_777) (fun _ h9 => h9) rfl d_Model_type_53 ?_
      obtain ⟨rfl, rfl, rfl⟩ := sj3 hf
      exact retM C0 (narI _) hQ hP hD hS d_Model_type_56
    · replace hf := iteT c4 hf
      refine lv_aload_n hx hb d_Model_type_27 rfl (lv_at hl 0 rfl) ?_
      obtain ⟨x8, sM9, sN10, h11, hf⟩ := bd3E hf
      refine vM (Lc := (L_m ty mA sM sN)) (Lc' := (L_m ty mA sM9 sN10)) (L' := (L_m ty mA sM9 sN10)) (q0 := 0) (ci := 11) (rest := []) C0 (c_Model_full l D ty mA H.size sM sN x8 sM9 sN10 h11) k_870 cal_Model_full hK hP hD hS hAq [0, 1, 2, 3, 4, 5, 6, 7, 8, 9, 10, 11] [] [0, 1, 2, 3, 4, 5, 6, 7, 8, 9, 10, 11] [] rfl rfl (by decide) (by decide) (by decide) (by decide) rfl rfl rfl rfl ⟨by rw [hR]; decide, by rw [hR]; decide⟩ rfl rfl rfl hl.1 rfl (Nat.le_of_ble_eq_true rfl) d_Model_type_28 ⟨by rw [hR]; decide, by rw [hR]; decide⟩ rfl (fun H locs hP hD hS => ?_)
      obtain ⟨rfl, rfl, rfl⟩ := sj3 hf
      exact retM C0 (narI _) hQ hP hD hS d_Model_type_31
  · replace hf := iteT c3 hf
    refine lv_aload_n hx hb d_Model_type_12 rfl (lv_at hl 0 rfl) ?_
    obtain ⟨x12, sM13, sN14, h15, hf⟩ := bd3E hf
    refine vM (Lc := (L_m ty mA sM sN)) (Lc' := (L_m ty mA sM13 sN14)) (L' := (L_m ty mA sM13 sN14)) (q0 := 0) (ci := 11) (rest := []) C0 (c_Model_bad l D ty mA H.size sM sN x12 sM13 sN14 h15) k_848 cal_Model_bad hK hP hD hS hAq [0, 1, 2, 3, 4, 5, 6, 7, 8, 9, 10, 11] [] [0, 1, 2, 3, 4, 5, 6, 7, 8, 9, 10, 11] [] rfl rfl (by decide) (by decide) (by decide) (by decide) rfl rfl rfl rfl ⟨by rw [hR]; decide, by rw [hR]; decide⟩ rfl rfl rfl hl.1 rfl (Nat.le_of_ble_eq_true rfl) d_Model_type_13 ⟨by rw [hR]; decide, by rw [hR]; decide⟩ rfl (fun H locs hP hD hS => ?_)
    obtain ⟨rfl, rfl, rfl⟩ := sj3 hf
    exact retM C0 (narI _) hQ hP hD hS d_Model_type_16
def f_Model_clear (sM : PW) (sN : PL) : Option (Int32 × PW × PL) :=
  nm (sM 5 0) (fun x1 => nm (up sM 5 (fun _ => (0 : Int32))) (fun sM2 => some (x1, sM2, sN)))
set_option maxHeartbeats 4000000 in
set_option maxRecDepth 100000 in
theorem c_Model_clear (l : Launch) (D : va_G) (ty : Nat → ClassId) (mA : Nat → Nat) (sz : Nat) (sM : PW) (sN : PL) (rr : Int32) (tM : PW) (tN : PL) (hf : f_Model_clear sM sN = some (rr, tM, tN)) : Met l y_Model_clear (Cond.code y_Model_clear prog_13_method_17_code 2 ((Option.some FieldType.int)) :: lw_ok) { frames := 0, cells := 0, slots := 0, locals := 0 } (PcM D ty [.ref (mA 0)] sz (L_m ty mA sM sN)) (QM D (L_m ty mA tM tN) (va_A (L_m ty mA sM sN) sz) (some (.int rr))) 0 0 (va_A (L_m ty mA sM sN) sz) := by
  refine hdM (by decide) (Nat.le_of_ble_eq_true rfl) ?_
  intro p e s m below meth c ls R args Q A C0 hR hQ hnm hAq hP hK hD hS hl
  obtain ⟨hx, hb, hr, hlk, hml, hown, htt⟩ := id C0
  have hl : lv_has ls 2 [(0, .ref (mA 0))] := hl
  generalize hH0 : s.heap = H at hP hS ⊢
  have hS : va_S A s.heap H [] := by rw [hH0]; exact hS
  unfold f_Model_clear at hf
  refine lv_aload_n hx hb d_Model_clear_0 rfl (lv_at hl 0 rfl) ?_
  refine va_get (D := D) (ci := 11) (v := .int (sM 5 0)) (C := "BedFrontierModel") (T := T_Model) (N := 22) hx hb htt i_Model hown hK.1 hP 0 rfl rfl 5 (by decide) (htt _ k_777) (fun _ h9 => h9) rfl d_Model_clear_1 ?_
  refine lv_topi (fun x1 e_x1 => ?_)
  replace hf := nmE hf e_x1
  refine lv_istore_n (lv' := [(1, .int x1), (0, .ref (mA 0))]) hx hb d_Model_clear_4 rfl hl (by decide) rfl (fun ls hl => ?_)
  refine lv_aload_n hx hb d_Model_clear_5 rfl (lv_at hl 1 rfl) ?_
  refine lv_iconst (v := (0 : Int32)) hx hb d_Model_clear_6 (by decide) ?_
  refine va_put (D := D) (ci := 11) (v := .int (0 : Int32)) (ty := .int) (C := "BedFrontierModel") (T := T_Model) (N := 22) hx hb htt i_Model t_Model t_Model_ok n_Model hown hK.1 hP hD hS 0 rfl rfl 5 (by decide) (htt _ k_777) (fun _ h9 => h9) rfl pfI rfl rfl (Nat.le_of_ble_eq_true rfl) d_Model_clear_7 (fun H locs hP hD hS => ?_)
  obtain ⟨sM2, e_sM2⟩ : ∃ z : PW, z = up sM 5 (fun _ => (0 : Int32)) := ⟨_, rfl⟩
  replace hf := nmE hf e_sM2
  have hP : va_P D vwCl (L_m ty mA sM2 sN) H := by rw [e_sM2]; exact hP
  have hD : va_D A (L_m ty mA sM2 sN) := by rw [e_sM2]; exact hD
  refine lv_iload_n hx hb d_Model_clear_10 rfl (lv_at hl 0 rfl) ?_
  obtain ⟨rfl, rfl, rfl⟩ := sj3 hf
  exact retM C0 (narI _) hQ hP hD hS d_Model_clear_11
def f_Model_byteAt (sM : PW) (sN : PL) (a1 : Int32) : Option (Int32) :=
  (if (sM 5 0) ≤ a1 then some (-1 : Int32) else gd (okI a1 150) (some (sM 4 (a1).toNatClampNeg)))
set_option maxHeartbeats 4000000 in
set_option maxRecDepth 100000 in
theorem c_Model_byteAt (l : Launch) (D : va_G) (ty : Nat → ClassId) (mA : Nat → Nat) (sM : PW) (sN : PL) (a1 : Int32) (rr : Int32) (hf : f_Model_byteAt sM sN a1 = some rr) : Met l y_Model_byteAt (Cond.code y_Model_byteAt prog_13_method_18_code 2 ((Option.some FieldType.int)) :: lw_ok) { frames := 0, cells := 0, slots := 0, locals := 0 } (PcR D ty [.ref (mA 0), .int a1] (L_m ty mA sM sN)) (QR (some (.int rr))) 0 0 (fun _ => False) := by
  refine hdR (by decide) (Nat.le_of_ble_eq_true rfl) ?_
  intro p e s m below meth c ls R args Q C0 hR hQ hP hK hl
  obtain ⟨hx, hb, hr, hlk, hml, hown, htt⟩ := id C0
  have hl : lv_has ls 2 [(0, .ref (mA 0)), (1, .int a1)] := hl
  unfold f_Model_byteAt at hf
  refine lv_iload_n hx hb d_Model_byteAt_0 rfl (lv_at hl 1 rfl) ?_
  refine lv_aload_n hx hb d_Model_byteAt_1 rfl (lv_at hl 0 rfl) ?_
  refine va_get (D := D) (ci := 11) (v := .int (sM 5 0)) (C := "BedFrontierModel") (T := T_Model) (N := 22) hx hb htt i_Model hown hK.1 hP 0 rfl rfl 5 (by decide) (htt _ k_777) (fun _ h9 => h9) rfl d_Model_byteAt_2 ?_
  refine lv_icmp_ge (tgt := 17) hx hb d_Model_byteAt_5 (by decide) (fun c1 => ?_) (fun c1 => ?_)
  · replace hf := iteT c1 hf
    refine lv_iconst (v := (-1 : Int32)) hx hb d_Model_byteAt_17 (by decide) ?_
    obtain rfl := sj1 hf
    exact retR C0 (narI _) hQ d_Model_byteAt_18
  · replace hf := iteF c1 hf
    refine lv_aload_n hx hb d_Model_byteAt_8 rfl (lv_at hl 0 rfl) ?_
    refine va_get (D := D) (ci := 11) (v := .ref (mA 5)) (C := "BedFrontierModel") (T := T_Model) (N := 22) hx hb htt i_Model hown hK.1 hP 0 rfl rfl 4 (by decide) (htt _ k_776) (fun _ h9 => h9) rfl d_Model_byteAt_9 ?_
    refine lv_iload_n hx hb d_Model_byteAt_12 rfl (lv_at hl 1 rfl) ?_
    obtain ⟨g2, hf⟩ := gdE hf
    refine va_iald hx hb hK.1 hP 3 0 rfl rfl (okI_in g2) d_Model_byteAt_13 ?_
    refine lv_goto (tgt := 18) hx hb d_Model_byteAt_14 (by decide) ?_
    obtain rfl := sj1 hf
    exact retR C0 (narI _) hQ d_Model_byteAt_18
def f_Model_nextToken_J222 (sM16 : PW) (sN17 : PL) : Option (PW × PL) :=
  (if (sM16 7 0) = 0 then bd (f_Model_byteAt sM16 sN17 (sM16 6 0)) (fun x23 => (if x23 = (59 : Int32) then nm (up sM16 7 (fun _ => (4 : Int32))) (fun sM28 => nm (up sM28 6 (fun _ => ((sM28 6 0) + (1 : Int32)))) (fun sM29 => some (sM29, sN17))) else nm (up sM16 7 (fun _ => (0 : Int32))) (fun sM26 => nm (up sM26 6 (fun _ => ((sM26 6 0) + (1 : Int32)))) (fun sM27 => some (sM27, sN17))))) else some (sM16, sN17))
def f_Model_nextToken_J193 (sM16 : PW) (sN17 : PL) : Option (PW × PL) :=
  (if (sM16 7 0) = (2 : Int32) then (if ((sM16 6 0) - (sM16 9 0)) ≤ (2 : Int32) then f_Model_nextToken_J222 sM16 sN17 else nm (up sM16 7 (fun _ => (0 : Int32))) (fun sM32 => some (sM32, sN17))) else f_Model_nextToken_J222 sM16 sN17)
def f_Model_nextToken_L106 (K106 : PW × PL → Option (PW × PL)) : PW × PL → Option (PW × PL)
  | (sM16, sN17) =>
  bd (f_Model_byteAt sM16 sN17 (sM16 6 0)) (fun x18 => bd (f_Model_in ((x18).toInt64) (48 : Int64) (57 : Int64)) (fun x20 => (if x20 = 0 then f_Model_nextToken_J193 sM16 sN17 else (if (sM16 7 0) = (1 : Int32) then f_Model_nextToken_J193 sM16 sN17 else nm (up sM16 7 (fun _ => (2 : Int32))) (fun sM35 => (if (sM35 8 0) ≤ (99 : Int32) then gd (okI (sM35 6 0) 150) (nm (up sM35 8 (fun _ => ((((10 : Int32) * (sM35 8 0)) + (sM35 4 ((sM35 6 0)).toNatClampNeg)) - (48 : Int32)))) (fun sM38 => nm (up sM38 6 (fun _ => ((sM38 6 0) + (1 : Int32)))) (fun sM39 => K106 (sM39, sN17)))) else nm (up sM35 8 (fun _ => (sM35 8 0))) (fun sM40 => nm (up sM40 6 (fun _ => ((sM40 6 0) + (1 : Int32)))) (fun sM41 => K106 (sM41, sN17)))))))))
def f_Model_nextToken_J106 (sM10 : PW) (sN11 : PL) : Option (PW × PL) :=
  loopF f_Model_nextToken_L106 4000 (sM10, sN11)
def f_Model_nextToken_L59 (K59 : PW × PL → Option (PW × PL)) : PW × PL → Option (PW × PL)
  | (sM10, sN11) =>
  bd (f_Model_byteAt sM10 sN11 (sM10 6 0)) (fun x12 => bd (f_Model_in ((x12).toInt64) (97 : Int64) (122 : Int64)) (fun x14 => (if x14 = 0 then f_Model_nextToken_J106 sM10 sN11 else (if (2 : Int32) ≤ (sM10 7 0) then f_Model_nextToken_J106 sM10 sN11 else nm (up sM10 7 (fun _ => (1 : Int32))) (fun sM44 => nm (up sM44 6 (fun _ => ((sM44 6 0) + (1 : Int32)))) (fun sM45 => K59 (sM45, sN11)))))))
def f_Model_nextToken_J56 (sN2 : PL) (sM7 : PW) (x8 : Int32) : Option (PW × PL) :=
  nm (up sM7 7 (fun _ => x8)) (fun sM9 => loopF f_Model_nextToken_L59 4000 (sM9, sN2))
def f_Model_nextToken_L0 (K0 : PW × PL → Option (PW × PL)) : PW × PL → Option (PW × PL)
  | (sM1, sN2) =>
  bd (f_Model_byteAt sM1 sN2 (sM1 6 0)) (fun x3 => (if x3 = (32 : Int32) then nm (up sM1 6 (fun _ => ((sM1 6 0) + (1 : Int32)))) (fun sM47 => K0 (sM47, sN2)) else nm (up sM1 9 (fun _ => (sM1 6 0))) (fun sM6 => nm (up sM6 8 (fun _ => (0 : Int32))) (fun sM7 => (if (sM7 6 0) = (sM7 5 0) then f_Model_nextToken_J56 sN2 sM7 (3 : Int32) else f_Model_nextToken_J56 sN2 sM7 (0 : Int32))))))
def f_Model_nextToken (sM : PW) (sN : PL) : Option (PW × PL) :=
  loopF f_Model_nextToken_L0 4000 (sM, sN)
set_option maxHeartbeats 4000000 in
set_option maxRecDepth 100000 in
theorem c_Model_nextToken (l : Launch) (D : va_G) (ty : Nat → ClassId) (mA : Nat → Nat) (sz : Nat) (sM : PW) (sN : PL) (tM : PW) (tN : PL) (hf : f_Model_nextToken sM sN = some (tM, tN)) : Met l y_Model_nextToken (Cond.code y_Model_nextToken prog_13_method_19_code 1 none :: lw_ok) { frames := 1, cells := 0, slots := 0, locals := 25 } (PcM D ty [.ref (mA 0)] sz (L_m ty mA sM sN)) (QM D (L_m ty mA tM tN) (va_A (L_m ty mA sM sN) sz) (none)) 0 0 (va_A (L_m ty mA sM sN) sz) := by
  refine hdM (by decide) (Nat.le_of_ble_eq_true rfl) ?_
  intro p e s m below meth c ls R args Q A C0 hR hQ hnm hAq hP hK hD hS hl
  obtain ⟨hx, hb, hr, hlk, hml, hown, htt⟩ := id C0
  have hl : lv_has ls 1 [(0, .ref (mA 0))] := hl
  generalize hH0 : s.heap = H at hP hS ⊢
  have hS : va_S A s.heap H [] := by rw [hH0]; exact hS
  unfold f_Model_nextToken at hf
  have B0 : ∀ (n : Nat) (x : PW × PL), loopF f_Model_nextToken_L0 n x = some (tM, tN) → ∀ (H : Heap) (locs : List Loc) (ls : Array Slot), va_P D vwCl (L_m ty mA (x.1) (x.2)) H → va_D A (L_m ty mA (x.1) (x.2)) → va_S A s.heap H locs → lv_has ls 1 [(0, .ref (mA 0))] → W p l e R s m args below meth c H locs 0 0 Q (F0 m 0 ls []) := by
    refine loopW (fun (x : PW × PL) => ∀ (H : Heap) (locs : List Loc) (ls : Array Slot), va_P D vwCl (L_m ty mA (x.1) (x.2)) H → va_D A (L_m ty mA (x.1) (x.2)) → va_S A s.heap H locs → lv_has ls 1 [(0, .ref (mA 0))] → W p l e R s m args below meth c H locs 0 0 Q (F0 m 0 ls [])) ?_
    intro K0 hK0 x hf
    obtain ⟨sM1, sN2⟩ := x
    rw [f_Model_nextToken_L0] at hf
    intro H locs ls hP hD hS hl
    have hl : lv_has ls 1 [(0, .ref (mA 0))] := hl
    have hP : va_P D vwCl (L_m ty mA sM1 sN2) H := hP
    have hD : va_D A (L_m ty mA sM1 sN2) := hD
    show W p l e R s m args below meth c H locs 0 0 Q (F0 m 0 ls [])
    refine lv_aload_n hx hb d_Model_nextToken_0 rfl (lv_at hl 0 rfl) ?_
    refine lv_aload_n hx hb d_Model_nextToken_1 rfl (lv_at hl 0 rfl) ?_
    refine va_get (D := D) (ci := 11) (v := .int (sM1 6 0)) (C := "BedFrontierModel") (T := T_Model) (N := 22) hx hb htt i_Model hown hK.1 hP 0 rfl rfl 6 (by decide) (htt _ k_778) (fun _ h9 => h9) rfl d_Model_nextToken_2 ?_
    obtain ⟨x3, h4, hf⟩ := bdE hf
    refine vR (q0 := 0) (ci := 11) (rest := []) C0 (c_Model_byteAt l D ty mA sM1 sN2 (sM1 6 0) x3 h4) k_899 cal_Model_byteAt hK hP rfl rfl rfl ⟨by rw [hR]; decide, by rw [hR]; decide⟩ rfl rfl rfl hl.1 rfl (Nat.le_of_ble_eq_true rfl) d_Model_nextToken_5 ⟨Nat.zero_le _, Nat.zero_le _⟩ rfl ?_
    refine lv_bipush (v := (32 : Int32)) hx hb d_Model_nextToken_8 (by decide) ?_
    refine lv_icmp_ne (tgt := 26) hx hb d_Model_nextToken_10 (by decide) (fun c5 => ?_) (fun c5 => ?_)
    · replace hf := iteF c5 hf
      refine lv_aload_n hx hb d_Model_nextToken_26 rfl (lv_at hl 0 rfl) ?_
      refine lv_aload_n hx hb d_Model_nextToken_27 rfl (lv_at hl 0 rfl) ?_
      refine va_get (D := D) (ci := 11) (v := .int (sM1 6 0)) (C := "BedFrontierModel") (T := T_Model) (N := 22) hx hb htt i_Model hown hK.1 hP 0 rfl rfl 6 (by decide) (htt _ k_778) (fun _ h9 => h9) rfl d_Model_nextToken_28 ?_
      refine va_put (D := D) (ci := 11) (v := .int (sM1 6 0)) (ty := .int) (C := "BedFrontierModel") (T := T_Model) (N := 22) hx hb htt i_Model t_Model t_Model_ok n_Model hown hK.1 hP hD hS 0 rfl rfl 9 (by decide) (htt _ k_781) (fun _ h9 => h9) rfl pfI rfl rfl (Nat.le_of_ble_eq_true rfl) d_Model_nextToken_31 (fun H locs hP hD hS => ?_)
      obtain ⟨sM6, e_sM6⟩ : ∃ z : PW, z = up sM1 9 (fun _ => (sM1 6 0)) := ⟨_, rfl⟩
      replace hf := nmE hf e_sM6
      have hP : va_P D vwCl (L_m ty mA sM6 sN2) H := by rw [e_sM6]; exact hP
      have hD : va_D A (L_m ty mA sM6 sN2) := by rw [e_sM6]; exact hD
      refine lv_aload_n hx hb d_Model_nextToken_34 rfl (lv_at hl 0 rfl) ?_
      refine lv_iconst (v := (0 : Int32)) hx hb d_Model_nextToken_35 (by decide) ?_
      refine va_put (D := D) (ci := 11) (v := .int (0 : Int32)) (ty := .int) (C := "BedFrontierModel") (T := T_Model) (N := 22) hx hb htt i_Model t_Model t_Model_ok n_Model hown hK.1 hP hD hS 0 rfl rfl 8 (by decide) (htt _ k_780) (fun _ h9 => h9) rfl pfI rfl rfl (Nat.le_of_ble_eq_true rfl) d_Model_nextToken_36 (fun H locs hP hD hS => ?_)
      obtain ⟨sM7, e_sM7⟩ : ∃ z : PW, z = up sM6 8 (fun _ => (0 : Int32)) := ⟨_, rfl⟩
      replace hf := nmE hf e_sM7
      have hP : va_P D vwCl (L_m ty mA sM7 sN2) H := by rw [e_sM7]; exact hP
      have hD : va_D A (L_m ty mA sM7 sN2) := by rw [e_sM7]; exact hD
      refine lv_aload_n hx hb d_Model_nextToken_39 rfl (lv_at hl 0 rfl) ?_
      refine lv_aload_n hx hb d_Model_nextToken_40 rfl (lv_at hl 0 rfl) ?_
      refine va_get (D := D) (ci := 11) (v := .int (sM7 6 0)) (C := "BedFrontierModel") (T := T_Model) (N := 22) hx hb htt i_Model hown hK.1 hP 0 rfl rfl 6 (by decide) (htt _ k_778) (fun _ h9 => h9) rfl d_Model_nextToken_41 ?_
      refine lv_aload_n hx hb d_Model_nextToken_44 rfl (lv_at hl 0 rfl) ?_
      refine va_get (D := D) (ci := 11) (v := .int (sM7 5 0)) (C := "BedFrontierModel") (T := T_Model) (N := 22) hx hb htt i_Model hown hK.1 hP 0 rfl rfl 5 (by decide) (htt _ k_777) (fun _ h9 => h9) rfl d_Model_nextToken_45 ?_
      have J56 : ∀ (x8 : Int32), f_Model_nextToken_J56 sN2 sM7 x8 = some (tM, tN) → ∀ (H : Heap) (locs : List Loc) (ls : Array Slot), va_P D vwCl (L_m ty mA sM7 sN2) H → va_D A (L_m ty mA sM7 sN2) → va_S A s.heap H locs → lv_has ls 1 [(0, .ref (mA 0))] → W p l e R s m args below meth c H locs 0 0 Q (F0 m 56 ls [.int x8, .ref (mA 0)]) := by
        intro x8 hf H locs ls hP hD hS hl
        unfold f_Model_nextToken_J56 at hf
        refine va_put (D := D) (ci := 11) (v := .int x8) (ty := .int) (C := "BedFrontierModel") (T := T_Model) (N := 22) hx hb htt i_Model t_Model t_Model_ok n_Model hown hK.1 hP hD hS 0 rfl rfl 7 (by decide) (htt _ k_779) (fun _ h9 => h9) rfl pfI rfl rfl (Nat.le_of_ble_eq_true rfl) d_Model_nextToken_56 (fun H locs hP hD hS => ?_)
        obtain ⟨sM9, e_sM9⟩ : ∃ z : PW, z = up sM7 7 (fun _ => x8) := ⟨_, rfl⟩
        replace hf := nmE hf e_sM9
        have hP : va_P D vwCl (L_m ty mA sM9 sN2) H := by rw [e_sM9]; exact hP
        have hD : va_D A (L_m ty mA sM9 sN2) := by rw [e_sM9]; exact hD
        have B59 : ∀ (n : Nat) (x : PW × PL), loopF f_Model_nextToken_L59 n x = some (tM, tN) → ∀ (H : Heap) (locs : List Loc) (ls : Array Slot), va_P D vwCl (L_m ty mA (x.1) (x.2)) H → va_D A (L_m ty mA (x.1) (x.2)) → va_S A s.heap H locs → lv_has ls 1 [(0, .ref (mA 0))] → W p l e R s m args below meth c H locs 0 0 Q (F0 m 59 ls []) := by
          refine loopW (fun (x : PW × PL) => ∀ (H : Heap) (locs : List Loc) (ls : Array Slot), va_P D vwCl (L_m ty mA (x.1) (x.2)) H → va_D A (L_m ty mA (x.1) (x.2)) → va_S A s.heap H locs → lv_has ls 1 [(0, .ref (mA 0))] → W p l e R s m args below meth c H locs 0 0 Q (F0 m 59 ls [])) ?_
          intro K59 hK59 x hf
          obtain ⟨sM10, sN11⟩ := x
          rw [f_Model_nextToken_L59] at hf
          intro H locs ls hP hD hS hl
          have hl : lv_has ls 1 [(0, .ref (mA 0))] := hl
          have hP : va_P D vwCl (L_m ty mA sM10 sN11) H := hP
          have hD : va_D A (L_m ty mA sM10 sN11) := hD
          show W p l e R s m args below meth c H locs 0 0 Q (F0 m 59 ls [])
          refine lv_aload_n hx hb d_Model_nextToken_59 rfl (lv_at hl 0 rfl) ?_
          refine lv_aload_n hx hb d_Model_nextToken_60 rfl (lv_at hl 0 rfl) ?_
          refine va_get (D := D) (ci := 11) (v := .int (sM10 6 0)) (C := "BedFrontierModel") (T := T_Model) (N := 22) hx hb htt i_Model hown hK.1 hP 0 rfl rfl 6 (by decide) (htt _ k_778) (fun _ h9 => h9) rfl d_Model_nextToken_61 ?_
          obtain ⟨x12, h13, hf⟩ := bdE hf
          refine vR (q0 := 0) (ci := 11) (rest := []) C0 (c_Model_byteAt l D ty mA sM10 sN11 (sM10 6 0) x12 h13) k_899 cal_Model_byteAt hK hP rfl rfl rfl ⟨by rw [hR]; decide, by rw [hR]; decide⟩ rfl rfl rfl hl.1 rfl (Nat.le_of_ble_eq_true rfl) d_Model_nextToken_64 ⟨Nat.zero_le _, Nat.zero_le _⟩ rfl ?_
          refine lv_i2l hx hb d_Model_nextToken_67 rfl ?_
          refine lv_ldc2 (v := (97 : Int64)) hx hb hown (htt _ k_903) d_Model_nextToken_68 ?_
          refine lv_ldc2 (v := (122 : Int64)) hx hb hown (htt _ k_904) d_Model_nextToken_71 ?_
          obtain ⟨x14, h15, hf⟩ := bdE hf
          refine scR (rest := []) C0 (c_Model_in l D ty ((x12).toInt64) (97 : Int64) (122 : Int64) x14 h15) k_845 cal_Model_in hK (va_P_nil) ⟨by rw [hR]; decide, by rw [hR]; decide⟩ rfl rfl rfl hl.1 rfl (Nat.le_of_ble_eq_true rfl) d_Model_nextToken_74 ⟨Nat.zero_le _, Nat.zero_le _⟩ rfl ?_
          have J106 : ∀ (_ : Unit), f_Model_nextToken_J106 sM10 sN11 = some (tM, tN) → ∀ (H : Heap) (locs : List Loc) (ls : Array Slot), va_P D vwCl (L_m ty mA sM10 sN11) H → va_D A (L_m ty mA sM10 sN11) → va_S A s.heap H locs → lv_has ls 1 [(0, .ref (mA 0))] → W p l e R s m args below meth c H locs 0 0 Q (F0 m 106 ls []) := by
            intro _ hf H locs ls hP hD hS hl
            unfold f_Model_nextToken_J106 at hf
            have B106 : ∀ (n : Nat) (x : PW × PL), loopF f_Model_nextToken_L106 n x = some (tM, tN) → ∀ (H : Heap) (locs : List Loc) (ls : Array Slot), va_P D vwCl (L_m ty mA (x.1) (x.2)) H → va_D A (L_m ty mA (x.1) (x.2)) → va_S A s.heap H locs → lv_has ls 1 [(0, .ref (mA 0))] → W p l e R s m args below meth c H locs 0 0 Q (F0 m 106 ls []) := by
              refine loopW (fun (x : PW × PL) => ∀ (H : Heap) (locs : List Loc) (ls : Array Slot), va_P D vwCl (L_m ty mA (x.1) (x.2)) H → va_D A (L_m ty mA (x.1) (x.2)) → va_S A s.heap H locs → lv_has ls 1 [(0, .ref (mA 0))] → W p l e R s m args below meth c H locs 0 0 Q (F0 m 106 ls [])) ?_
              intro K106 hK106 x hf
              obtain ⟨sM16, sN17⟩ := x
              rw [f_Model_nextToken_L106] at hf
              intro H locs ls hP hD hS hl
              have hl : lv_has ls 1 [(0, .ref (mA 0))] := hl
              have hP : va_P D vwCl (L_m ty mA sM16 sN17) H := hP
              have hD : va_D A (L_m ty mA sM16 sN17) := hD
              show W p l e R s m args below meth c H locs 0 0 Q (F0 m 106 ls [])
              refine lv_aload_n hx hb d_Model_nextToken_106 rfl (lv_at hl 0 rfl) ?_
              refine lv_aload_n hx hb d_Model_nextToken_107 rfl (lv_at hl 0 rfl) ?_
              refine va_get (D := D) (ci := 11) (v := .int (sM16 6 0)) (C := "BedFrontierModel") (T := T_Model) (N := 22) hx hb htt i_Model hown hK.1 hP 0 rfl rfl 6 (by decide) (htt _ k_778) (fun _ h9 => h9) rfl d_Model_nextToken_108 ?_
              obtain ⟨x18, h19, hf⟩ := bdE hf
              refine vR (q0 := 0) (ci := 11) (rest := []) C0 (c_Model_byteAt l D ty mA sM16 sN17 (sM16 6 0) x18 h19) k_899 cal_Model_byteAt hK hP rfl rfl rfl ⟨by rw [hR]; decide, by rw [hR]; decide⟩ rfl rfl rfl hl.1 rfl (Nat.le_of_ble_eq_true rfl) d_Model_nextToken_111 ⟨Nat.zero_le _, Nat.zero_le _⟩ rfl ?_
              refine lv_i2l hx hb d_Model_nextToken_114 rfl ?_
              refine lv_ldc2 (v := (48 : Int64)) hx hb hown (htt _ k_905) d_Model_nextToken_115 ?_
              refine lv_ldc2 (v := (57 : Int64)) hx hb hown (htt _ k_906) d_Model_nextToken_118 ?_
              obtain ⟨x20, h21, hf⟩ := bdE hf
              refine scR (rest := []) C0 (c_Model_in l D ty ((x18).toInt64) (48 : Int64) (57 : Int64) x20 h21) k_845 cal_Model_in hK (va_P_nil) ⟨by rw [hR]; decide, by rw [hR]; decide⟩ rfl rfl rfl hl.1 rfl (Nat.le_of_ble_eq_true rfl) d_Model_nextToken_121 ⟨Nat.zero_le _, Nat.zero_le _⟩ rfl ?_
              have J193 : ∀ (_ : Unit), f_Model_nextToken_J193 sM16 sN17 = some (tM, tN) → ∀ (H : Heap) (locs : List Loc) (ls : Array Slot), va_P D vwCl (L_m ty mA sM16 sN17) H → va_D A (L_m ty mA sM16 sN17) → va_S A s.heap H locs → lv_has ls 1 [(0, .ref (mA 0))] → W p l e R s m args below meth c H locs 0 0 Q (F0 m 193 ls []) := by
                intro _ hf H locs ls hP hD hS hl
                unfold f_Model_nextToken_J193 at hf
                refine lv_aload_n hx hb d_Model_nextToken_193 rfl (lv_at hl 0 rfl) ?_
                refine va_get (D := D) (ci := 11) (v := .int (sM16 7 0)) (C := "BedFrontierModel") (T := T_Model) (N := 22) hx hb htt i_Model hown hK.1 hP 0 rfl rfl 7 (by decide) (htt _ k_779) (fun _ h9 => h9) rfl d_Model_nextToken_194 ?_
                refine lv_iconst (v := (2 : Int32)) hx hb d_Model_nextToken_197 (by decide) ?_
                have J222 : ∀ (_ : Unit), f_Model_nextToken_J222 sM16 sN17 = some (tM, tN) → ∀ (H : Heap) (locs : List Loc) (ls : Array Slot), va_P D vwCl (L_m ty mA sM16 sN17) H → va_D A (L_m ty mA sM16 sN17) → va_S A s.heap H locs → lv_has ls 1 [(0, .ref (mA 0))] → W p l e R s m args below meth c H locs 0 0 Q (F0 m 222 ls []) := by
                  intro _ hf H locs ls hP hD hS hl
                  unfold f_Model_nextToken_J222 at hf
                  refine lv_aload_n hx hb d_Model_nextToken_222 rfl (lv_at hl 0 rfl) ?_
                  refine va_get (D := D) (ci := 11) (v := .int (sM16 7 0)) (C := "BedFrontierModel") (T := T_Model) (N := 22) hx hb htt i_Model hown hK.1 hP 0 rfl rfl 7 (by decide) (htt _ k_779) (fun _ h9 => h9) rfl d_Model_nextToken_223 ?_
                  refine lv_if_ne (tgt := 261) hx hb d_Model_nextToken_226 (by decide) (fun c22 => ?_) (fun c22 => ?_)
                  · replace hf := iteF c22 hf
                    obtain ⟨rfl, rfl⟩ := sj2 hf
                    exact retMv C0 hQ hP hD hS d_Model_nextToken_261
                  · replace hf := iteT c22 hf
                    refine lv_aload_n hx hb d_Model_nextToken_229 rfl (lv_at hl 0 rfl) ?_
                    refine lv_aload_n hx hb d_Model_nextToken_230 rfl (lv_at hl 0 rfl) ?_
                    refine lv_aload_n hx hb d_Model_nextToken_231 rfl (lv_at hl 0 rfl) ?_
                    refine va_get (D := D) (ci := 11) (v := .int (sM16 6 0)) (C := "BedFrontierModel") (T := T_Model) (N := 22) hx hb htt i_Model hown hK.1 hP 0 rfl rfl 6 (by decide) (htt _ k_778) (fun _ h9 => h9) rfl d_Model_nextToken_232 ?_
                    obtain ⟨x23, h24, hf⟩ := bdE hf
                    refine vR (q0 := 0) (ci := 11) (rest := [.ref (mA 0)]) C0 (c_Model_byteAt l D ty mA sM16 sN17 (sM16 6 0) x23 h24) k_899 cal_Model_byteAt hK hP rfl rfl rfl ⟨by rw [hR]; decide, by rw [hR]; decide⟩ rfl rfl rfl hl.1 rfl (Nat.le_of_ble_eq_true rfl) d_Model_nextToken_235 ⟨Nat.zero_le _, Nat.zero_le _⟩ rfl ?_
                    refine lv_bipush (v := (59 : Int32)) hx hb d_Model_nextToken_238 (by decide) ?_
                    refine lv_icmp_ne (tgt := 247) hx hb d_Model_nextToken_240 (by decide) (fun c25 => ?_) (fun c25 => ?_)
                    · replace hf := iteF c25 hf
                      refine lv_iconst (v := (0 : Int32)) hx hb d_Model_nextToken_247 (by decide) ?_
                      refine va_put (D := D) (ci := 11) (v := .int (0 : Int32)) (ty := .int) (C := "BedFrontierModel") (T := T_Model) (N := 22) hx hb htt i_Model t_Model t_Model_ok n_Model hown hK.1 hP hD hS 0 rfl rfl 7 (by decide) (htt _ k_779) (fun _ h9 => h9) rfl pfI rfl rfl (Nat.le_of_ble_eq_true rfl) d_Model_nextToken_248 (fun H locs hP hD hS => ?_)
                      obtain ⟨sM26, e_sM26⟩ : ∃ z : PW, z = up sM16 7 (fun _ => (0 : Int32)) := ⟨_, rfl⟩
                      replace hf := nmE hf e_sM26
                      have hP : va_P D vwCl (L_m ty mA sM26 sN17) H := by rw [e_sM26]; exact hP
                      have hD : va_D A (L_m ty mA sM26 sN17) := by rw [e_sM26]; exact hD
                      refine lv_aload_n hx hb d_Model_nextToken_251 rfl (lv_at hl 0 rfl) ?_
                      refine lv_dup hx hb d_Model_nextToken_252 rfl ?_
                      refine va_get (D := D) (ci := 11) (v := .int (sM26 6 0)) (C := "BedFrontierModel") (T := T_Model) (N := 22) hx hb htt i_Model hown hK.1 hP 0 rfl rfl 6 (by decide) (htt _ k_778) (fun _ h9 => h9) rfl d_Model_nextToken_253 ?_
                      refine lv_iconst (v := (1 : Int32)) hx hb d_Model_nextToken_256 (by decide) ?_
                      refine lv_iadd hx hb d_Model_nextToken_257 ?_
                      refine va_put (D := D) (ci := 11) (v := .int ((sM26 6 0) + (1 : Int32))) (ty := .int) (C := "BedFrontierModel") (T := T_Model) (N := 22) hx hb htt i_Model t_Model t_Model_ok n_Model hown hK.1 hP hD hS 0 rfl rfl 6 (by decide) (htt _ k_778) (fun _ h9 => h9) rfl pfI rfl rfl (Nat.le_of_ble_eq_true rfl) d_Model_nextToken_258 (fun H locs hP hD hS => ?_)
                      obtain ⟨sM27, e_sM27⟩ : ∃ z : PW, z = up sM26 6 (fun _ => ((sM26 6 0) + (1 : Int32))) := ⟨_, rfl⟩
                      replace hf := nmE hf e_sM27
                      have hP : va_P D vwCl (L_m ty mA sM27 sN17) H := by rw [e_sM27]; exact hP
                      have hD : va_D A (L_m ty mA sM27 sN17) := by rw [e_sM27]; exact hD
                      obtain ⟨rfl, rfl⟩ := sj2 hf
                      exact retMv C0 hQ hP hD hS d_Model_nextToken_261
                    · replace hf := iteT c25 hf
                      refine lv_iconst (v := (4 : Int32)) hx hb d_Model_nextToken_243 (by decide) ?_
                      refine lv_goto (tgt := 248) hx hb d_Model_nextToken_244 (by decide) ?_
                      refine va_put (D := D) (ci := 11) (v := .int (4 : Int32)) (ty := .int) (C := "BedFrontierModel") (T := T_Model) (N := 22) hx hb htt i_Model t_Model t_Model_ok n_Model hown hK.1 hP hD hS 0 rfl rfl 7 (by decide) (htt _ k_779) (fun _ h9 => h9) rfl pfI rfl rfl (Nat.le_of_ble_eq_true rfl) d_Model_nextToken_248 (fun H locs hP hD hS => ?_)
                      obtain ⟨sM28, e_sM28⟩ : ∃ z : PW, z = up sM16 7 (fun _ => (4 : Int32)) := ⟨_, rfl⟩
                      replace hf := nmE hf e_sM28
                      have hP : va_P D vwCl (L_m ty mA sM28 sN17) H := by rw [e_sM28]; exact hP
                      have hD : va_D A (L_m ty mA sM28 sN17) := by rw [e_sM28]; exact hD
                      refine lv_aload_n hx hb d_Model_nextToken_251 rfl (lv_at hl 0 rfl) ?_
                      refine lv_dup hx hb d_Model_nextToken_252 rfl ?_
                      refine va_get (D := D) (ci := 11) (v := .int (sM28 6 0)) (C := "BedFrontierModel") (T := T_Model) (N := 22) hx hb htt i_Model hown hK.1 hP 0 rfl rfl 6 (by decide) (htt _ k_778) (fun _ h9 => h9) rfl d_Model_nextToken_253 ?_
                      refine lv_iconst (v := (1 : Int32)) hx hb d_Model_nextToken_256 (by decide) ?_
                      refine lv_iadd hx hb d_Model_nextToken_257 ?_
                      refine va_put (D := D) (ci := 11) (v := .int ((sM28 6 0) + (1 : Int32))) (ty := .int) (C := "BedFrontierModel") (T := T_Model) (N := 22) hx hb htt i_Model t_Model t_Model_ok n_Model hown hK.1 hP hD hS 0 rfl rfl 6 (by decide) (htt _ k_778) (fun _ h9 => h9) rfl pfI rfl rfl (Nat.le_of_ble_eq_true rfl) d_Model_nextToken_258 (fun H locs hP hD hS => ?_)
                      obtain ⟨sM29, e_sM29⟩ : ∃ z : PW, z = up sM28 6 (fun _ => ((sM28 6 0) + (1 : Int32))) := ⟨_, rfl⟩
                      replace hf := nmE hf e_sM29
                      have hP : va_P D vwCl (L_m ty mA sM29 sN17) H := by rw [e_sM29]; exact hP
                      have hD : va_D A (L_m ty mA sM29 sN17) := by rw [e_sM29]; exact hD
                      obtain ⟨rfl, rfl⟩ := sj2 hf
                      exact retMv C0 hQ hP hD hS d_Model_nextToken_261
                refine lv_icmp_ne (tgt := 222) hx hb d_Model_nextToken_198 (by decide) (fun c30 => ?_) (fun c30 => ?_)
                · replace hf := iteF c30 hf
                  exact J222 () hf _ _ ls hP hD hS (hl)
                · replace hf := iteT c30 hf
                  refine lv_aload_n hx hb d_Model_nextToken_201 rfl (lv_at hl 0 rfl) ?_
                  refine va_get (D := D) (ci := 11) (v := .int (sM16 6 0)) (C := "BedFrontierModel") (T := T_Model) (N := 22) hx hb htt i_Model hown hK.1 hP 0 rfl rfl 6 (by decide) (htt _ k_778) (fun _ h9 => h9) rfl d_Model_nextToken_202 ?_
                  refine lv_aload_n hx hb d_Model_nextToken_205 rfl (lv_at hl 0 rfl) ?_
                  refine va_get (D := D) (ci := 11) (v := .int (sM16 9 0)) (C := "BedFrontierModel") (T := T_Model) (N := 22) hx hb htt i_Model hown hK.1 hP 0 rfl rfl 9 (by decide) (htt _ k_781) (fun _ h9 => h9) rfl d_Model_nextToken_206 ?_
                  refine lv_isub hx hb d_Model_nextToken_209 ?_
                  refine lv_iconst (v := (2 : Int32)) hx hb d_Model_nextToken_210 (by decide) ?_
                  refine lv_icmp_le (tgt := 222) hx hb d_Model_nextToken_211 (by decide) (fun c31 => ?_) (fun c31 => ?_)
                  · replace hf := iteT c31 hf
                    exact J222 () hf _ _ ls hP hD hS (hl)
                  · replace hf := iteF c31 hf
                    refine lv_aload_n hx hb d_Model_nextToken_214 rfl (lv_at hl 0 rfl) ?_
                    refine lv_iconst (v := (0 : Int32)) hx hb d_Model_nextToken_215 (by decide) ?_
                    refine va_put (D := D) (ci := 11) (v := .int (0 : Int32)) (ty := .int) (C := "BedFrontierModel") (T := T_Model) (N := 22) hx hb htt i_Model t_Model t_Model_ok n_Model hown hK.1 hP hD hS 0 rfl rfl 7 (by decide) (htt _ k_779) (fun _ h9 => h9) rfl pfI rfl rfl (Nat.le_of_ble_eq_true rfl) d_Model_nextToken_216 (fun H locs hP hD hS => ?_)
                    obtain ⟨sM32, e_sM32⟩ : ∃ z : PW, z = up sM16 7 (fun _ => (0 : Int32)) := ⟨_, rfl⟩
                    replace hf := nmE hf e_sM32
                    have hP : va_P D vwCl (L_m ty mA sM32 sN17) H := by rw [e_sM32]; exact hP
                    have hD : va_D A (L_m ty mA sM32 sN17) := by rw [e_sM32]; exact hD
                    refine lv_goto (tgt := 261) hx hb d_Model_nextToken_219 (by decide) ?_
                    obtain ⟨rfl, rfl⟩ := sj2 hf
                    exact retMv C0 hQ hP hD hS d_Model_nextToken_261
              refine lv_if_eq (tgt := 193) hx hb d_Model_nextToken_124 (by decide) (fun c33 => ?_) (fun c33 => ?_)
              · replace hf := iteT c33 hf
                exact J193 () hf _ _ ls hP hD hS (hl)
              · replace hf := iteF c33 hf
                refine lv_aload_n hx hb d_Model_nextToken_127 rfl (lv_at hl 0 rfl) ?_
                refine va_get (D := D) (ci := 11) (v := .int (sM16 7 0)) (C := "BedFrontierModel") (T := T_Model) (N := 22) hx hb htt i_Model hown hK.1 hP 0 rfl rfl 7 (by decide) (htt _ k_779) (fun _ h9 => h9) rfl d_Model_nextToken_128 ?_
                refine lv_iconst (v := (1 : Int32)) hx hb d_Model_nextToken_131 (by decide) ?_
                refine lv_icmp_eq (tgt := 193) hx hb d_Model_nextToken_132 (by decide) (fun c34 => ?_) (fun c34 => ?_)
                · replace hf := iteT c34 hf
                  exact J193 () hf _ _ ls hP hD hS (hl)
                · replace hf := iteF c34 hf
                  refine lv_aload_n hx hb d_Model_nextToken_135 rfl (lv_at hl 0 rfl) ?_
                  refine lv_iconst (v := (2 : Int32)) hx hb d_Model_nextToken_136 (by decide) ?_
                  refine va_put (D := D) (ci := 11) (v := .int (2 : Int32)) (ty := .int) (C := "BedFrontierModel") (T := T_Model) (N := 22) hx hb htt i_Model t_Model t_Model_ok n_Model hown hK.1 hP hD hS 0 rfl rfl 7 (by decide) (htt _ k_779) (fun _ h9 => h9) rfl pfI rfl rfl (Nat.le_of_ble_eq_true rfl) d_Model_nextToken_137 (fun H locs hP hD hS => ?_)
                  obtain ⟨sM35, e_sM35⟩ : ∃ z : PW, z = up sM16 7 (fun _ => (2 : Int32)) := ⟨_, rfl⟩
                  replace hf := nmE hf e_sM35
                  have hP : va_P D vwCl (L_m ty mA sM35 sN17) H := by rw [e_sM35]; exact hP
                  have hD : va_D A (L_m ty mA sM35 sN17) := by rw [e_sM35]; exact hD
                  refine lv_aload_n hx hb d_Model_nextToken_140 rfl (lv_at hl 0 rfl) ?_
                  refine lv_aload_n hx hb d_Model_nextToken_141 rfl (lv_at hl 0 rfl) ?_
                  refine va_get (D := D) (ci := 11) (v := .int (sM35 8 0)) (C := "BedFrontierModel") (T := T_Model) (N := 22) hx hb htt i_Model hown hK.1 hP 0 rfl rfl 8 (by decide) (htt _ k_780) (fun _ h9 => h9) rfl d_Model_nextToken_142 ?_
                  refine lv_bipush (v := (99 : Int32)) hx hb d_Model_nextToken_145 (by decide) ?_
                  refine lv_icmp_le (tgt := 157) hx hb d_Model_nextToken_147 (by decide) (fun c36 => ?_) (fun c36 => ?_)
                  · replace hf := iteT c36 hf
                    refine lv_bipush (v := (10 : Int32)) hx hb d_Model_nextToken_157 (by decide) ?_
                    refine lv_aload_n hx hb d_Model_nextToken_159 rfl (lv_at hl 0 rfl) ?_
                    refine va_get (D := D) (ci := 11) (v := .int (sM35 8 0)) (C := "BedFrontierModel") (T := T_Model) (N := 22) hx hb htt i_Model hown hK.1 hP 0 rfl rfl 8 (by decide) (htt _ k_780) (fun _ h9 => h9) rfl d_Model_nextToken_160 ?_
                    refine lv_imul hx hb d_Model_nextToken_163 ?_
                    refine lv_aload_n hx hb d_Model_nextToken_164 rfl (lv_at hl 0 rfl) ?_
                    refine va_get (D := D) (ci := 11) (v := .ref (mA 5)) (C := "BedFrontierModel") (T := T_Model) (N := 22) hx hb htt i_Model hown hK.1 hP 0 rfl rfl 4 (by decide) (htt _ k_776) (fun _ h9 => h9) rfl d_Model_nextToken_165 ?_
                    refine lv_aload_n hx hb d_Model_nextToken_168 rfl (lv_at hl 0 rfl) ?_
                    refine va_get (D := D) (ci := 11) (v := .int (sM35 6 0)) (C := "BedFrontierModel") (T := T_Model) (N := 22) hx hb htt i_Model hown hK.1 hP 0 rfl rfl 6 (by decide) (htt _ k_778) (fun _ h9 => h9) rfl d_Model_nextToken_169 ?_
                    obtain ⟨g37, hf⟩ := gdE hf
                    refine va_iald hx hb hK.1 hP 3 0 rfl rfl (okI_in g37) d_Model_nextToken_172 ?_
                    refine lv_iadd hx hb d_Model_nextToken_173 ?_
                    refine lv_bipush (v := (48 : Int32)) hx hb d_Model_nextToken_174 (by decide) ?_
                    refine lv_isub hx hb d_Model_nextToken_176 ?_
                    refine va_put (D := D) (ci := 11) (v := .int ((((10 : Int32) * (sM35 8 0)) + (sM35 4 ((sM35 6 0)).toNatClampNeg)) - (48 : Int32))) (ty := .int) (C := "BedFrontierModel") (T := T_Model) (N := 22) hx hb htt i_Model t_Model t_Model_ok n_Model hown hK.1 hP hD hS 0 rfl rfl 8 (by decide) (htt _ k_780) (fun _ h9 => h9) rfl pfI rfl rfl (Nat.le_of_ble_eq_true rfl) d_Model_nextToken_177 (fun H locs hP hD hS => ?_)
                    obtain ⟨sM38, e_sM38⟩ : ∃ z : PW, z = up sM35 8 (fun _ => ((((10 : Int32) * (sM35 8 0)) + (sM35 4 ((sM35 6 0)).toNatClampNeg)) - (48 : Int32))) := ⟨_, rfl⟩
                    replace hf := nmE hf e_sM38
                    have hP : va_P D vwCl (L_m ty mA sM38 sN17) H := by rw [e_sM38]; exact hP
                    have hD : va_D A (L_m ty mA sM38 sN17) := by rw [e_sM38]; exact hD
                    refine lv_aload_n hx hb d_Model_nextToken_180 rfl (lv_at hl 0 rfl) ?_
                    refine lv_dup hx hb d_Model_nextToken_181 rfl ?_
                    refine va_get (D := D) (ci := 11) (v := .int (sM38 6 0)) (C := "BedFrontierModel") (T := T_Model) (N := 22) hx hb htt i_Model hown hK.1 hP 0 rfl rfl 6 (by decide) (htt _ k_778) (fun _ h9 => h9) rfl d_Model_nextToken_182 ?_
                    refine lv_iconst (v := (1 : Int32)) hx hb d_Model_nextToken_185 (by decide) ?_
                    refine lv_iadd hx hb d_Model_nextToken_186 ?_
                    refine va_put (D := D) (ci := 11) (v := .int ((sM38 6 0) + (1 : Int32))) (ty := .int) (C := "BedFrontierModel") (T := T_Model) (N := 22) hx hb htt i_Model t_Model t_Model_ok n_Model hown hK.1 hP hD hS 0 rfl rfl 6 (by decide) (htt _ k_778) (fun _ h9 => h9) rfl pfI rfl rfl (Nat.le_of_ble_eq_true rfl) d_Model_nextToken_187 (fun H locs hP hD hS => ?_)
                    obtain ⟨sM39, e_sM39⟩ : ∃ z : PW, z = up sM38 6 (fun _ => ((sM38 6 0) + (1 : Int32))) := ⟨_, rfl⟩
                    replace hf := nmE hf e_sM39
                    have hP : va_P D vwCl (L_m ty mA sM39 sN17) H := by rw [e_sM39]; exact hP
                    have hD : va_D A (L_m ty mA sM39 sN17) := by rw [e_sM39]; exact hD
                    refine lv_goto (tgt := 106) hx hb d_Model_nextToken_190 (by decide) ?_
                    exact hK106 (sM39, sN17) hf _ _ ls hP hD hS (hl)
                  · replace hf := iteF c36 hf
                    refine lv_aload_n hx hb d_Model_nextToken_150 rfl (lv_at hl 0 rfl) ?_
                    refine va_get (D := D) (ci := 11) (v := .int (sM35 8 0)) (C := "BedFrontierModel") (T := T_Model) (N := 22) hx hb htt i_Model hown hK.1 hP 0 rfl rfl 8 (by decide) (htt _ k_780) (fun _ h9 => h9) rfl d_Model_nextToken_151 ?_
                    refine lv_goto (tgt := 177) hx hb d_Model_nextToken_154 (by decide) ?_
                    refine va_put (D := D) (ci := 11) (v := .int (sM35 8 0)) (ty := .int) (C := "BedFrontierModel") (T := T_Model) (N := 22) hx hb htt i_Model t_Model t_Model_ok n_Model hown hK.1 hP hD hS 0 rfl rfl 8 (by decide) (htt _ k_780) (fun _ h9 => h9) rfl pfI rfl rfl (Nat.le_of_ble_eq_true rfl) d_Model_nextToken_177 (fun H locs hP hD hS => ?_)
                    obtain ⟨sM40, e_sM40⟩ : ∃ z : PW, z = up sM35 8 (fun _ => (sM35 8 0)) := ⟨_, rfl⟩
                    replace hf := nmE hf e_sM40
                    have hP : va_P D vwCl (L_m ty mA sM40 sN17) H := by rw [e_sM40]; exact hP
                    have hD : va_D A (L_m ty mA sM40 sN17) := by rw [e_sM40]; exact hD
                    refine lv_aload_n hx hb d_Model_nextToken_180 rfl (lv_at hl 0 rfl) ?_
                    refine lv_dup hx hb d_Model_nextToken_181 rfl ?_
                    refine va_get (D := D) (ci := 11) (v := .int (sM40 6 0)) (C := "BedFrontierModel") (T := T_Model) (N := 22) hx hb htt i_Model hown hK.1 hP 0 rfl rfl 6 (by decide) (htt _ k_778) (fun _ h9 => h9) rfl d_Model_nextToken_182 ?_
                    refine lv_iconst (v := (1 : Int32)) hx hb d_Model_nextToken_185 (by decide) ?_
                    refine lv_iadd hx hb d_Model_nextToken_186 ?_
                    refine va_put (D := D) (ci := 11) (v := .int ((sM40 6 0) + (1 : Int32))) (ty := .int) (C := "BedFrontierModel") (T := T_Model) (N := 22) hx hb htt i_Model t_Model t_Model_ok n_Model hown hK.1 hP hD hS 0 rfl rfl 6 (by decide) (htt _ k_778) (fun _ h9 => h9) rfl pfI rfl rfl (Nat.le_of_ble_eq_true rfl) d_Model_nextToken_187 (fun H locs hP hD hS => ?_)
                    obtain ⟨sM41, e_sM41⟩ : ∃ z : PW, z = up sM40 6 (fun _ => ((sM40 6 0) + (1 : Int32))) := ⟨_, rfl⟩
                    replace hf := nmE hf e_sM41
                    have hP : va_P D vwCl (L_m ty mA sM41 sN17) H := by rw [e_sM41]; exact hP
                    have hD : va_D A (L_m ty mA sM41 sN17) := by rw [e_sM41]; exact hD
                    refine lv_goto (tgt := 106) hx hb d_Model_nextToken_190 (by decide) ?_
                    exact hK106 (sM41, sN17) hf _ _ ls hP hD hS (hl)
            exact B106 4000 (sM10, sN11) hf _ _ ls hP hD hS (hl)
          refine lv_if_eq (tgt := 106) hx hb d_Model_nextToken_77 (by decide) (fun c42 => ?_) (fun c42 => ?_)
          · replace hf := iteT c42 hf
            exact J106 () hf _ _ ls hP hD hS (hl)
          · replace hf := iteF c42 hf
            refine lv_aload_n hx hb d_Model_nextToken_80 rfl (lv_at hl 0 rfl) ?_
            refine va_get (D := D) (ci := 11) (v := .int (sM10 7 0)) (C := "BedFrontierModel") (T := T_Model) (N := 22) hx hb htt i_Model hown hK.1 hP 0 rfl rfl 7 (by decide) (htt _ k_779) (fun _ h9 => h9) rfl d_Model_nextToken_81 ?_
            refine lv_iconst (v := (2 : Int32)) hx hb d_Model_nextToken_84 (by decide) ?_
            refine lv_icmp_ge (tgt := 106) hx hb d_Model_nextToken_85 (by decide) (fun c43 => ?_) (fun c43 => ?_)
            · replace hf := iteT c43 hf
              exact J106 () hf _ _ ls hP hD hS (hl)
            · replace hf := iteF c43 hf
              refine lv_aload_n hx hb d_Model_nextToken_88 rfl (lv_at hl 0 rfl) ?_
              refine lv_iconst (v := (1 : Int32)) hx hb d_Model_nextToken_89 (by decide) ?_
              refine va_put (D := D) (ci := 11) (v := .int (1 : Int32)) (ty := .int) (C := "BedFrontierModel") (T := T_Model) (N := 22) hx hb htt i_Model t_Model t_Model_ok n_Model hown hK.1 hP hD hS 0 rfl rfl 7 (by decide) (htt _ k_779) (fun _ h9 => h9) rfl pfI rfl rfl (Nat.le_of_ble_eq_true rfl) d_Model_nextToken_90 (fun H locs hP hD hS => ?_)
              obtain ⟨sM44, e_sM44⟩ : ∃ z : PW, z = up sM10 7 (fun _ => (1 : Int32)) := ⟨_, rfl⟩
              replace hf := nmE hf e_sM44
              have hP : va_P D vwCl (L_m ty mA sM44 sN11) H := by rw [e_sM44]; exact hP
              have hD : va_D A (L_m ty mA sM44 sN11) := by rw [e_sM44]; exact hD
              refine lv_aload_n hx hb d_Model_nextToken_93 rfl (lv_at hl 0 rfl) ?_
              refine lv_dup hx hb d_Model_nextToken_94 rfl ?_
              refine va_get (D := D) (ci := 11) (v := .int (sM44 6 0)) (C := "BedFrontierModel") (T := T_Model) (N := 22) hx hb htt i_Model hown hK.1 hP 0 rfl rfl 6 (by decide) (htt _ k_778) (fun _ h9 => h9) rfl d_Model_nextToken_95 ?_
              refine lv_iconst (v := (1 : Int32)) hx hb d_Model_nextToken_98 (by decide) ?_
              refine lv_iadd hx hb d_Model_nextToken_99 ?_
              refine va_put (D := D) (ci := 11) (v := .int ((sM44 6 0) + (1 : Int32))) (ty := .int) (C := "BedFrontierModel") (T := T_Model) (N := 22) hx hb htt i_Model t_Model t_Model_ok n_Model hown hK.1 hP hD hS 0 rfl rfl 6 (by decide) (htt _ k_778) (fun _ h9 => h9) rfl pfI rfl rfl (Nat.le_of_ble_eq_true rfl) d_Model_nextToken_100 (fun H locs hP hD hS => ?_)
              obtain ⟨sM45, e_sM45⟩ : ∃ z : PW, z = up sM44 6 (fun _ => ((sM44 6 0) + (1 : Int32))) := ⟨_, rfl⟩
              replace hf := nmE hf e_sM45
              have hP : va_P D vwCl (L_m ty mA sM45 sN11) H := by rw [e_sM45]; exact hP
              have hD : va_D A (L_m ty mA sM45 sN11) := by rw [e_sM45]; exact hD
              refine lv_goto (tgt := 59) hx hb d_Model_nextToken_103 (by decide) ?_
              exact hK59 (sM45, sN11) hf _ _ ls hP hD hS (hl)
        exact B59 4000 (sM9, sN2) hf _ _ ls hP hD hS (hl)
      refine lv_icmp_ne (tgt := 55) hx hb d_Model_nextToken_48 (by decide) (fun c46 => ?_) (fun c46 => ?_)
      · replace hf := iteF c46 hf
        refine lv_iconst (v := (0 : Int32)) hx hb d_Model_nextToken_55 (by decide) ?_
        exact J56 (0 : Int32) hf _ _ ls hP hD hS (hl)
      · replace hf := iteT c46 hf
        refine lv_iconst (v := (3 : Int32)) hx hb d_Model_nextToken_51 (by decide) ?_
        refine lv_goto (tgt := 56) hx hb d_Model_nextToken_52 (by decide) ?_
        exact J56 (3 : Int32) hf _ _ ls hP hD hS (hl)
    · replace hf := iteT c5 hf
      refine lv_aload_n hx hb d_Model_nextToken_13 rfl (lv_at hl 0 rfl) ?_
      refine lv_dup hx hb d_Model_nextToken_14 rfl ?_
      refine va_get (D := D) (ci := 11) (v := .int (sM1 6 0)) (C := "BedFrontierModel") (T := T_Model) (N := 22) hx hb htt i_Model hown hK.1 hP 0 rfl rfl 6 (by decide) (htt _ k_778) (fun _ h9 => h9) rfl d_Model_nextToken_15 ?_
      refine lv_iconst (v := (1 : Int32)) hx hb d_Model_nextToken_18 (by decide) ?_
      refine lv_iadd hx hb d_Model_nextToken_19 ?_
      refine va_put (D := D) (ci := 11) (v := .int ((sM1 6 0) + (1 : Int32))) (ty := .int) (C := "BedFrontierModel") (T := T_Model) (N := 22) hx hb htt i_Model t_Model t_Model_ok n_Model hown hK.1 hP hD hS 0 rfl rfl 6 (by decide) (htt _ k_778) (fun _ h9 => h9) rfl pfI rfl rfl (Nat.le_of_ble_eq_true rfl) d_Model_nextToken_20 (fun H locs hP hD hS => ?_)
      obtain ⟨sM47, e_sM47⟩ : ∃ z : PW, z = up sM1 6 (fun _ => ((sM1 6 0) + (1 : Int32))) := ⟨_, rfl⟩
      replace hf := nmE hf e_sM47
      have hP : va_P D vwCl (L_m ty mA sM47 sN2) H := by rw [e_sM47]; exact hP
      have hD : va_D A (L_m ty mA sM47 sN2) := by rw [e_sM47]; exact hD
      refine lv_goto (tgt := 0) hx hb d_Model_nextToken_23 (by decide) ?_
      exact hK0 (sM47, sN2) hf _ _ ls hP hD hS (hl)
  exact B0 4000 (sM, sN) hf _ _ ls hP hD hS (hl)
def f_Model_isWord_J120 (a5 : Int32) (sM : PW) (x1 : Int32) : Option (Int32) :=
  (if x1 < (5 : Int32) then some (1 : Int32) else gd (okI ((sM 9 0) + (4 : Int32)) 150) ((if (sM 4 (((sM 9 0) + (4 : Int32))).toNatClampNeg) = a5 then some (1 : Int32) else some (0 : Int32))))
def f_Model_isWord_J91 (a4 : Int32) (a5 : Int32) (sM : PW) (x1 : Int32) (x2 : Int32) : Option (Int32) :=
  (if x2 = 0 then some (0 : Int32) else (if x1 < (4 : Int32) then f_Model_isWord_J120 a5 sM x1 else gd (okI ((sM 9 0) + (3 : Int32)) 150) ((if (sM 4 (((sM 9 0) + (3 : Int32))).toNatClampNeg) = a4 then f_Model_isWord_J120 a5 sM x1 else some (0 : Int32)))))
def f_Model_isWord_J90 (a4 : Int32) (a5 : Int32) (sM : PW) (x1 : Int32) : Option (Int32) :=
  f_Model_isWord_J91 a4 a5 sM x1 (0 : Int32)
def f_Model_isWord_J19 (a1 : Int32) (a2 : Int32) (a3 : Int32) (a4 : Int32) (a5 : Int32) (sM : PW) (x1 : Int32) : Option (Int32) :=
  (if (sM 7 0) = (1 : Int32) then (if ((sM 6 0) - (sM 9 0)) = x1 then gd (okI (sM 9 0) 150) ((if (sM 4 ((sM 9 0)).toNatClampNeg) = a1 then gd (okI ((sM 9 0) + (1 : Int32)) 150) ((if (sM 4 (((sM 9 0) + (1 : Int32))).toNatClampNeg) = a2 then gd (okI ((sM 9 0) + (2 : Int32)) 150) ((if (sM 4 (((sM 9 0) + (2 : Int32))).toNatClampNeg) = a3 then f_Model_isWord_J91 a4 a5 sM x1 (1 : Int32) else f_Model_isWord_J90 a4 a5 sM x1)) else f_Model_isWord_J90 a4 a5 sM x1)) else f_Model_isWord_J90 a4 a5 sM x1)) else f_Model_isWord_J90 a4 a5 sM x1) else f_Model_isWord_J90 a4 a5 sM x1)
def f_Model_isWord (sM : PW) (sN : PL) (a1 : Int32) (a2 : Int32) (a3 : Int32) (a4 : Int32) (a5 : Int32) : Option (Int32) :=
  (if a4 = 0 then f_Model_isWord_J19 a1 a2 a3 a4 a5 sM (3 : Int32) else (if a5 = 0 then f_Model_isWord_J19 a1 a2 a3 a4 a5 sM (4 : Int32) else f_Model_isWord_J19 a1 a2 a3 a4 a5 sM (5 : Int32)))
set_option maxHeartbeats 4000000 in
set_option maxRecDepth 100000 in
theorem c_Model_isWord (l : Launch) (D : va_G) (ty : Nat → ClassId) (mA : Nat → Nat) (sM : PW) (sN : PL) (a1 : Int32) (a2 : Int32) (a3 : Int32) (a4 : Int32) (a5 : Int32) (rr : Int32) (hf : f_Model_isWord sM sN a1 a2 a3 a4 a5 = some rr) : Met l y_Model_isWord (Cond.code y_Model_isWord prog_13_method_20_code 8 ((Option.some FieldType.boolean)) :: lw_ok) { frames := 0, cells := 0, slots := 0, locals := 0 } (PcR D ty [.ref (mA 0), .int a1, .int a2, .int a3, .int a4, .int a5] (L_m ty mA sM sN)) (QR (some (.int rr))) 0 0 (fun _ => False) := by
  refine hdR (by decide) (Nat.le_of_ble_eq_true rfl) ?_
  intro p e s m below meth c ls R args Q C0 hR hQ hP hK hl
  obtain ⟨hx, hb, hr, hlk, hml, hown, htt⟩ := id C0
  have hl : lv_has ls 8 [(0, .ref (mA 0)), (1, .int a1), (2, .int a2), (3, .int a3), (4, .int a4), (5, .int a5)] := hl
  unfold f_Model_isWord at hf
  refine lv_iload hx hb d_Model_isWord_0 (lv_at hl 4 rfl) ?_
  have J19 : ∀ (x1 : Int32), f_Model_isWord_J19 a1 a2 a3 a4 a5 sM x1 = some rr → ∀ ls : Array Slot, lv_has ls 8 [(0, .ref (mA 0)), (1, .int a1), (2, .int a2), (3, .int a3), (4, .int a4), (5, .int a5)] → W p l e R s m args below meth c s.heap [] 0 0 Q (F0 m 19 ls [.int x1]) := by
    intro x1 hf ls hl
    unfold f_Model_isWord_J19 at hf
    refine lv_istore (lv' := [(6, .int x1), (0, .ref (mA 0)), (1, .int a1), (2, .int a2), (3, .int a3), (4, .int a4), (5, .int a5)]) hx hb d_Model_isWord_19 hl (by decide) rfl (fun ls hl => ?_)
    refine lv_aload_n hx hb d_Model_isWord_21 rfl (lv_at hl 1 rfl) ?_
    refine va_get (D := D) (ci := 11) (v := .int (sM 7 0)) (C := "BedFrontierModel") (T := T_Model) (N := 22) hx hb htt i_Model hown hK.1 hP 0 rfl rfl 7 (by decide) (htt _ k_779) (fun _ h9 => h9) rfl d_Model_isWord_22 ?_
    refine lv_iconst (v := (1 : Int32)) hx hb d_Model_isWord_25 (by decide) ?_
    have J91 : ∀ (x2 : Int32), f_Model_isWord_J91 a4 a5 sM x1 x2 = some rr → ∀ ls : Array Slot, lv_has ls 8 [(0, .ref (mA 0)), (4, .int a4), (5, .int a5), (6, .int x1)] → W p l e R s m args below meth c s.heap [] 0 0 Q (F0 m 91 ls [.int x2]) := by
      intro x2 hf ls hl
      unfold f_Model_isWord_J91 at hf
      refine lv_istore (lv' := [(7, .int x2), (0, .ref (mA 0)), (4, .int a4), (5, .int a5), (6, .int x1)]) hx hb d_Model_isWord_91 hl (by decide) rfl (fun ls hl => ?_)
      refine lv_iload hx hb d_Model_isWord_93 (lv_at hl 0 rfl) ?_
      refine lv_if_eq (tgt := 146) hx hb d_Model_isWord_95 (by decide) (fun c3 => ?_) (fun c3 => ?_)
      · replace hf := iteT c3 hf
        refine lv_iconst (v := (0 : Int32)) hx hb d_Model_isWord_146 (by decide) ?_
        obtain rfl := sj1 hf
        exact retR C0 rfl hQ d_Model_isWord_147
      · replace hf := iteF c3 hf
        refine lv_iload hx hb d_Model_isWord_98 (lv_at hl 4 rfl) ?_
        refine lv_iconst (v := (4 : Int32)) hx hb d_Model_isWord_100 (by decide) ?_
        have J120 : ∀ (_ : Unit), f_Model_isWord_J120 a5 sM x1 = some rr → ∀ ls : Array Slot, lv_has ls 8 [(0, .ref (mA 0)), (5, .int a5), (6, .int x1)] → W p l e R s m args below meth c s.heap [] 0 0 Q (F0 m 120 ls []) := by
          intro _ hf ls hl
          unfold f_Model_isWord_J120 at hf
          refine lv_iload hx hb d_Model_isWord_120 (lv_at hl 2 rfl) ?_
          refine lv_iconst (v := (5 : Int32)) hx hb d_Model_isWord_122 (by decide) ?_
          refine lv_icmp_lt (tgt := 142) hx hb d_Model_isWord_123 (by decide) (fun c4 => ?_) (fun c4 => ?_)
          · replace hf := iteT c4 hf
            refine lv_iconst (v := (1 : Int32)) hx hb d_Model_isWord_142 (by decide) ?_
            refine lv_goto (tgt := 147) hx hb d_Model_isWord_143 (by decide) ?_
            obtain rfl := sj1 hf
            exact retR C0 rfl hQ d_Model_isWord_147
          · replace hf := iteF c4 hf
            refine lv_aload_n hx hb d_Model_isWord_126 rfl (lv_at hl 0 rfl) ?_
            refine va_get (D := D) (ci := 11) (v := .ref (mA 5)) (C := "BedFrontierModel") (T := T_Model) (N := 22) hx hb htt i_Model hown hK.1 hP 0 rfl rfl 4 (by decide) (htt _ k_776) (fun _ h9 => h9) rfl d_Model_isWord_127 ?_
            refine lv_aload_n hx hb d_Model_isWord_130 rfl (lv_at hl 0 rfl) ?_
            refine va_get (D := D) (ci := 11) (v := .int (sM 9 0)) (C := "BedFrontierModel") (T := T_Model) (N := 22) hx hb htt i_Model hown hK.1 hP 0 rfl rfl 9 (by decide) (htt _ k_781) (fun _ h9 => h9) rfl d_Model_isWord_131 ?_
            refine lv_iconst (v := (4 : Int32)) hx hb d_Model_isWord_134 (by decide) ?_
            refine lv_iadd hx hb d_Model_isWord_135 ?_
            obtain ⟨g5, hf⟩ := gdE hf
            refine va_iald hx hb hK.1 hP 3 0 rfl rfl (okI_in g5) d_Model_isWord_136 ?_
            refine lv_iload hx hb d_Model_isWord_137 (lv_at hl 1 rfl) ?_
            refine lv_icmp_ne (tgt := 146) hx hb d_Model_isWord_139 (by decide) (fun c6 => ?_) (fun c6 => ?_)
            · replace hf := iteF c6 hf
              refine lv_iconst (v := (0 : Int32)) hx hb d_Model_isWord_146 (by decide) ?_
              obtain rfl := sj1 hf
              exact retR C0 rfl hQ d_Model_isWord_147
            · replace hf := iteT c6 hf
              refine lv_iconst (v := (1 : Int32)) hx hb d_Model_isWord_142 (by decide) ?_
              refine lv_goto (tgt := 147) hx hb d_Model_isWord_143 (by decide) ?_
              obtain rfl := sj1 hf
              exact retR C0 rfl hQ d_Model_isWord_147
        refine lv_icmp_lt (tgt := 120) hx hb d_Model_isWord_101 (by decide) (fun c7 => ?_) (fun c7 => ?_)
        · replace hf := iteT c7 hf
          exact J120 () hf ls (lv_sub hl [1, 3, 4] rfl)
        · replace hf := iteF c7 hf
          refine lv_aload_n hx hb d_Model_isWord_104 rfl (lv_at hl 1 rfl) ?_
          refine va_get (D := D) (ci := 11) (v := .ref (mA 5)) (C := "BedFrontierModel") (T := T_Model) (N := 22) hx hb htt i_Model hown hK.1 hP 0 rfl rfl 4 (by decide) (htt _ k_776) (fun _ h9 => h9) rfl d_Model_isWord_105 ?_
          refine lv_aload_n hx hb d_Model_isWord_108 rfl (lv_at hl 1 rfl) ?_
          refine va_get (D := D) (ci := 11) (v := .int (sM 9 0)) (C := "BedFrontierModel") (T := T_Model) (N := 22) hx hb htt i_Model hown hK.1 hP 0 rfl rfl 9 (by decide) (htt _ k_781) (fun _ h9 => h9) rfl d_Model_isWord_109 ?_
          refine lv_iconst (v := (3 : Int32)) hx hb d_Model_isWord_112 (by decide) ?_
          refine lv_iadd hx hb d_Model_isWord_113 ?_
          obtain ⟨g8, hf⟩ := gdE hf
          refine va_iald hx hb hK.1 hP 3 0 rfl rfl (okI_in g8) d_Model_isWord_114 ?_
          refine lv_iload hx hb d_Model_isWord_115 (lv_at hl 2 rfl) ?_
          refine lv_icmp_ne (tgt := 146) hx hb d_Model_isWord_117 (by decide) (fun c9 => ?_) (fun c9 => ?_)
          · replace hf := iteF c9 hf
            refine lv_iconst (v := (0 : Int32)) hx hb d_Model_isWord_146 (by decide) ?_
            obtain rfl := sj1 hf
            exact retR C0 rfl hQ d_Model_isWord_147
          · replace hf := iteT c9 hf
            exact J120 () hf ls (lv_sub hl [1, 3, 4] rfl)
    have J90 : ∀ (_ : Unit), f_Model_isWord_J90 a4 a5 sM x1 = some rr → ∀ ls : Array Slot, lv_has ls 8 [(0, .ref (mA 0)), (4, .int a4), (5, .int a5), (6, .int x1)] → W p l e R s m args below meth c s.heap [] 0 0 Q (F0 m 90 ls []) := by
      intro _ hf ls hl
      unfold f_Model_isWord_J90 at hf
      refine lv_iconst (v := (0 : Int32)) hx hb d_Model_isWord_90 (by decide) ?_
      exact J91 (0 : Int32) hf ls (hl)
    refine lv_icmp_ne (tgt := 90) hx hb d_Model_isWord_26 (by decide) (fun c10 => ?_) (fun c10 => ?_)
    · replace hf := iteF c10 hf
      exact J90 () hf ls (lv_sub hl [1, 5, 6, 0] rfl)
    · replace hf := iteT c10 hf
      refine lv_aload_n hx hb d_Model_isWord_29 rfl (lv_at hl 1 rfl) ?_
      refine va_get (D := D) (ci := 11) (v := .int (sM 6 0)) (C := "BedFrontierModel") (T := T_Model) (N := 22) hx hb htt i_Model hown hK.1 hP 0 rfl rfl 6 (by decide) (htt _ k_778) (fun _ h9 => h9) rfl d_Model_isWord_30 ?_
      refine lv_aload_n hx hb d_Model_isWord_33 rfl (lv_at hl 1 rfl) ?_
      refine va_get (D := D) (ci := 11) (v := .int (sM 9 0)) (C := "BedFrontierModel") (T := T_Model) (N := 22) hx hb htt i_Model hown hK.1 hP 0 rfl rfl 9 (by decide) (htt _ k_781) (fun _ h9 => h9) rfl d_Model_isWord_34 ?_
      refine lv_isub hx hb d_Model_isWord_37 ?_
      refine lv_iload hx hb d_Model_isWord_38 (lv_at hl 0 rfl) ?_
      refine lv_icmp_ne (tgt := 90) hx hb d_Model_isWord_40 (by decide) (fun c11 => ?_) (fun c11 => ?_)
      · replace hf := iteF c11 hf
        exact J90 () hf ls (lv_sub hl [1, 5, 6, 0] rfl)
      · replace hf := iteT c11 hf
        refine lv_aload_n hx hb d_Model_isWord_43 rfl (lv_at hl 1 rfl) ?_
        refine va_get (D := D) (ci := 11) (v := .ref (mA 5)) (C := "BedFrontierModel") (T := T_Model) (N := 22) hx hb htt i_Model hown hK.1 hP 0 rfl rfl 4 (by decide) (htt _ k_776) (fun _ h9 => h9) rfl d_Model_isWord_44 ?_
        refine lv_aload_n hx hb d_Model_isWord_47 rfl (lv_at hl 1 rfl) ?_
        refine va_get (D := D) (ci := 11) (v := .int (sM 9 0)) (C := "BedFrontierModel") (T := T_Model) (N := 22) hx hb htt i_Model hown hK.1 hP 0 rfl rfl 9 (by decide) (htt _ k_781) (fun _ h9 => h9) rfl d_Model_isWord_48 ?_
        obtain ⟨g12, hf⟩ := gdE hf
        refine va_iald hx hb hK.1 hP 3 0 rfl rfl (okI_in g12) d_Model_isWord_51 ?_
        refine lv_iload_n hx hb d_Model_isWord_52 rfl (lv_at hl 2 rfl) ?_
        refine lv_icmp_ne (tgt := 90) hx hb d_Model_isWord_53 (by decide) (fun c13 => ?_) (fun c13 => ?_)
        · replace hf := iteF c13 hf
          exact J90 () hf ls (lv_sub hl [1, 5, 6, 0] rfl)
        · replace hf := iteT c13 hf
          refine lv_aload_n hx hb d_Model_isWord_56 rfl (lv_at hl 1 rfl) ?_
          refine va_get (D := D) (ci := 11) (v := .ref (mA 5)) (C := "BedFrontierModel") (T := T_Model) (N := 22) hx hb htt i_Model hown hK.1 hP 0 rfl rfl 4 (by decide) (htt _ k_776) (fun _ h9 => h9) rfl d_Model_isWord_57 ?_
          refine lv_aload_n hx hb d_Model_isWord_60 rfl (lv_at hl 1 rfl) ?_
          refine va_get (D := D) (ci := 11) (v := .int (sM 9 0)) (C := "BedFrontierModel") (T := T_Model) (N := 22) hx hb htt i_Model hown hK.1 hP 0 rfl rfl 9 (by decide) (htt _ k_781) (fun _ h9 => h9) rfl d_Model_isWord_61 ?_
          refine lv_iconst (v := (1 : Int32)) hx hb d_Model_isWord_64 (by decide) ?_
          refine lv_iadd hx hb d_Model_isWord_65 ?_
          obtain ⟨g14, hf⟩ := gdE hf
          refine va_iald hx hb hK.1 hP 3 0 rfl rfl (okI_in g14) d_Model_isWord_66 ?_
          refine lv_iload_n hx hb d_Model_isWord_67 rfl (lv_at hl 3 rfl) ?_
          refine lv_icmp_ne (tgt := 90) hx hb d_Model_isWord_68 (by decide) (fun c15 => ?_) (fun c15 => ?_)
          · replace hf := iteF c15 hf
            exact J90 () hf ls (lv_sub hl [1, 5, 6, 0] rfl)
          · replace hf := iteT c15 hf
            refine lv_aload_n hx hb d_Model_isWord_71 rfl (lv_at hl 1 rfl) ?_
            refine va_get (D := D) (ci := 11) (v := .ref (mA 5)) (C := "BedFrontierModel") (T := T_Model) (N := 22) hx hb htt i_Model hown hK.1 hP 0 rfl rfl 4 (by decide) (htt _ k_776) (fun _ h9 => h9) rfl d_Model_isWord_72 ?_
            refine lv_aload_n hx hb d_Model_isWord_75 rfl (lv_at hl 1 rfl) ?_
            refine va_get (D := D) (ci := 11) (v := .int (sM 9 0)) (C := "BedFrontierModel") (T := T_Model) (N := 22) hx hb htt i_Model hown hK.1 hP 0 rfl rfl 9 (by decide) (htt _ k_781) (fun _ h9 => h9) rfl d_Model_isWord_76 ?_
            refine lv_iconst (v := (2 : Int32)) hx hb d_Model_isWord_79 (by decide) ?_
            refine lv_iadd hx hb d_Model_isWord_80 ?_
            obtain ⟨g16, hf⟩ := gdE hf
            refine va_iald hx hb hK.1 hP 3 0 rfl rfl (okI_in g16) d_Model_isWord_81 ?_
            refine lv_iload_n hx hb d_Model_isWord_82 rfl (lv_at hl 4 rfl) ?_
            refine lv_icmp_ne (tgt := 90) hx hb d_Model_isWord_83 (by decide) (fun c17 => ?_) (fun c17 => ?_)
            · replace hf := iteF c17 hf
              exact J90 () hf ls (lv_sub hl [1, 5, 6, 0] rfl)
            · replace hf := iteT c17 hf
              refine lv_iconst (v := (1 : Int32)) hx hb d_Model_isWord_86 (by decide) ?_
              refine lv_goto (tgt := 91) hx hb d_Model_isWord_87 (by decide) ?_
              exact J91 (1 : Int32) hf ls (lv_sub hl [1, 5, 6, 0] rfl)
  refine lv_if_ne (tgt := 9) hx hb d_Model_isWord_2 (by decide) (fun c18 => ?_) (fun c18 => ?_)
  · replace hf := iteF c18 hf
    refine lv_iload hx hb d_Model_isWord_9 (lv_at hl 5 rfl) ?_
    refine lv_if_ne (tgt := 18) hx hb d_Model_isWord_11 (by decide) (fun c19 => ?_) (fun c19 => ?_)
    · replace hf := iteF c19 hf
      refine lv_iconst (v := (5 : Int32)) hx hb d_Model_isWord_18 (by decide) ?_
      exact J19 (5 : Int32) hf ls (hl)
    · replace hf := iteT c19 hf
      refine lv_iconst (v := (4 : Int32)) hx hb d_Model_isWord_14 (by decide) ?_
      refine lv_goto (tgt := 19) hx hb d_Model_isWord_15 (by decide) ?_
      exact J19 (4 : Int32) hf ls (hl)
  · replace hf := iteT c18 hf
    refine lv_iconst (v := (3 : Int32)) hx hb d_Model_isWord_5 (by decide) ?_
    refine lv_goto (tgt := 19) hx hb d_Model_isWord_6 (by decide) ?_
    exact J19 (3 : Int32) hf ls (hl)
def f_Model_reads (sM : PW) (sN : PL) (a1 : Int32) (a2 : Int32) : Option (Int32 × PW × PL) :=
  bd2 (f_Model_nextToken sM sN) (fun sM1 sN2 => gd (okI a1 2) (nm (up sM1 10 (upd (sM1 10) ((a1).toNatClampNeg) (sM1 8 0))) (fun sM5 => (if (sM5 7 0) = (2 : Int32) then (if a2 < (sM5 8 0) then some ((0 : Int32), sM5, sN2) else some ((1 : Int32), sM5, sN2)) else some ((0 : Int32), sM5, sN2)))))
set_option maxHeartbeats 4000000 in
set_option maxRecDepth 100000 in
theorem c_Model_reads (l : Launch) (D : va_G) (ty : Nat → ClassId) (mA : Nat → Nat) (sz : Nat) (sM : PW) (sN : PL) (a1 : Int32) (a2 : Int32) (rr : Int32) (tM : PW) (tN : PL) (hf : f_Model_reads sM sN a1 a2 = some (rr, tM, tN)) : Met l y_Model_reads (Cond.code y_Model_reads prog_13_method_21_code 3 ((Option.some FieldType.boolean)) :: lw_ok) { frames := 2, cells := 0, slots := 0, locals := 45 } (PcM D ty [.ref (mA 0), .int a1, .int a2] sz (L_m ty mA sM sN)) (QM D (L_m ty mA tM tN) (va_A (L_m ty mA sM sN) sz) (some (.int rr))) 0 0 (va_A (L_m ty mA sM sN) sz) := by
  refine hdM (by decide) (Nat.le_of_ble_eq_true rfl) ?_
  intro p e s m below meth c ls R args Q A C0 hR hQ hnm hAq hP hK hD hS hl
  obtain ⟨hx, hb, hr, hlk, hml, hown, htt⟩ := id C0
  have hl : lv_has ls 3 [(0, .ref (mA 0)), (1, .int a1), (2, .int a2)] := hl
  generalize hH0 : s.heap = H at hP hS ⊢
  have hS : va_S A s.heap H [] := by rw [hH0]; exact hS
  unfold f_Model_reads at hf
  refine lv_aload_n hx hb d_Model_reads_0 rfl (lv_at hl 0 rfl) ?_
  obtain ⟨sM1, sN2, h3, hf⟩ := bd2E hf
  refine vM (Lc := (L_m ty mA sM sN)) (Lc' := (L_m ty mA sM1 sN2)) (L' := (L_m ty mA sM1 sN2)) (q0 := 0) (ci := 11) (rest := []) C0 (c_Model_nextToken l D ty mA H.size sM sN sM1 sN2 h3) k_895 cal_Model_nextToken hK hP hD hS hAq [0, 1, 2, 3, 4, 5, 6, 7, 8, 9, 10, 11] [] [0, 1, 2, 3, 4, 5, 6, 7, 8, 9, 10, 11] [] rfl rfl (by decide) (by decide) (by decide) (by decide) rfl rfl rfl rfl ⟨by rw [hR]; decide, by rw [hR]; decide⟩ rfl rfl rfl hl.1 rfl (Nat.le_of_ble_eq_true rfl) d_Model_reads_1 ⟨by rw [hR]; decide, by rw [hR]; decide⟩ rfl (fun H locs hP hD hS => ?_)
  refine lv_aload_n hx hb d_Model_reads_4 rfl (lv_at hl 0 rfl) ?_
  refine va_get (D := D) (ci := 11) (v := .ref (mA 11)) (C := "BedFrontierModel") (T := T_Model) (N := 22) hx hb htt i_Model hown hK.1 hP 0 rfl rfl 10 (by decide) (htt _ k_782) (fun _ h9 => h9) rfl d_Model_reads_5 ?_
  refine lv_iload_n hx hb d_Model_reads_8 rfl (lv_at hl 1 rfl) ?_
  refine lv_aload_n hx hb d_Model_reads_9 rfl (lv_at hl 0 rfl) ?_
  refine va_get (D := D) (ci := 11) (v := .int (sM1 8 0)) (C := "BedFrontierModel") (T := T_Model) (N := 22) hx hb htt i_Model hown hK.1 hP 0 rfl rfl 8 (by decide) (htt _ k_780) (fun _ h9 => h9) rfl d_Model_reads_10 ?_
  obtain ⟨g4, hf⟩ := gdE hf
  refine va_iast hx hb hK.1 hP hD hS 4 0 rfl rfl (okI_in g4) d_Model_reads_13 (fun H locs hP hD hS => ?_)
  obtain ⟨sM5, e_sM5⟩ : ∃ z : PW, z = up sM1 10 (upd (sM1 10) ((a1).toNatClampNeg) (sM1 8 0)) := ⟨_, rfl⟩
  replace hf := nmE hf e_sM5
  have hP : va_P D vwCl (L_m ty mA sM5 sN2) H := by rw [e_sM5]; exact hP
  have hD : va_D A (L_m ty mA sM5 sN2) := by rw [e_sM5]; exact hD
  refine lv_aload_n hx hb d_Model_reads_14 rfl (lv_at hl 0 rfl) ?_
  refine va_get (D := D) (ci := 11) (v := .int (sM5 7 0)) (C := "BedFrontierModel") (T := T_Model) (N := 22) hx hb htt i_Model hown hK.1 hP 0 rfl rfl 7 (by decide) (htt _ k_779) (fun _ h9 => h9) rfl d_Model_reads_15 ?_
  refine lv_iconst (v := (2 : Int32)) hx hb d_Model_reads_18 (by decide) ?_
  refine lv_icmp_ne (tgt := 34) hx hb d_Model_reads_19 (by decide) (fun c6 => ?_) (fun c6 => ?_)
  · replace hf := iteF c6 hf
    refine lv_iconst (v := (0 : Int32)) hx hb d_Model_reads_34 (by decide) ?_
    obtain ⟨rfl, rfl, rfl⟩ := sj3 hf
    exact retM C0 rfl hQ hP hD hS d_Model_reads_35
  · replace hf := iteT c6 hf
    refine lv_aload_n hx hb d_Model_reads_22 rfl (lv_at hl 0 rfl) ?_
    refine va_get (D := D) (ci := 11) (v := .int (sM5 8 0)) (C := "BedFrontierModel") (T := T_Model) (N := 22) hx hb htt i_Model hown hK.1 hP 0 rfl rfl 8 (by decide) (htt _ k_780) (fun _ h9 => h9) rfl d_Model_reads_23 ?_
    refine lv_iload_n hx hb d_Model_reads_26 rfl (lv_at hl 2 rfl) ?_
    refine lv_icmp_gt (tgt := 34) hx hb d_Model_reads_27 (by decide) (fun c7 => ?_) (fun c7 => ?_)
    · replace hf := iteT c7 hf
      refine lv_iconst (v := (0 : Int32)) hx hb d_Model_reads_34 (by decide) ?_
      obtain ⟨rfl, rfl, rfl⟩ := sj3 hf
      exact retM C0 rfl hQ hP hD hS d_Model_reads_35
    · replace hf := iteF c7 hf
      refine lv_iconst (v := (1 : Int32)) hx hb d_Model_reads_30 (by decide) ?_
      refine lv_goto (tgt := 35) hx hb d_Model_reads_31 (by decide) ?_
      obtain ⟨rfl, rfl, rfl⟩ := sj3 hf
      exact retM C0 rfl hQ hP hD hS d_Model_reads_35
def f_Model_ends (sM : PW) (sN : PL) : Option (Int32 × PW × PL) :=
  bd2 (f_Model_nextToken sM sN) (fun sM1 sN2 => (if (sM1 7 0) = (4 : Int32) then some ((1 : Int32), sM1, sN2) else some ((0 : Int32), sM1, sN2)))
set_option maxHeartbeats 4000000 in
set_option maxRecDepth 100000 in
theorem c_Model_ends (l : Launch) (D : va_G) (ty : Nat → ClassId) (mA : Nat → Nat) (sz : Nat) (sM : PW) (sN : PL) (rr : Int32) (tM : PW) (tN : PL) (hf : f_Model_ends sM sN = some (rr, tM, tN)) : Met l y_Model_ends (Cond.code y_Model_ends prog_13_method_22_code 1 ((Option.some FieldType.boolean)) :: lw_ok) { frames := 2, cells := 0, slots := 0, locals := 45 } (PcM D ty [.ref (mA 0)] sz (L_m ty mA sM sN)) (QM D (L_m ty mA tM tN) (va_A (L_m ty mA sM sN) sz) (some (.int rr))) 0 0 (va_A (L_m ty mA sM sN) sz) := by
  refine hdM (by decide) (Nat.le_of_ble_eq_true rfl) ?_
  intro p e s m below meth c ls R args Q A C0 hR hQ hnm hAq hP hK hD hS hl
  obtain ⟨hx, hb, hr, hlk, hml, hown, htt⟩ := id C0
  have hl : lv_has ls 1 [(0, .ref (mA 0))] := hl
  generalize hH0 : s.heap = H at hP hS ⊢
  have hS : va_S A s.heap H [] := by rw [hH0]; exact hS
  unfold f_Model_ends at hf
  refine lv_aload_n hx hb d_Model_ends_0 rfl (lv_at hl 0 rfl) ?_
  obtain ⟨sM1, sN2, h3, hf⟩ := bd2E hf
  refine vM (Lc := (L_m ty mA sM sN)) (Lc' := (L_m ty mA sM1 sN2)) (L' := (L_m ty mA sM1 sN2)) (q0 := 0) (ci := 11) (rest := []) C0 (c_Model_nextToken l D ty mA H.size sM sN sM1 sN2 h3) k_895 cal_Model_nextToken hK hP hD hS hAq [0, 1, 2, 3, 4, 5, 6, 7, 8, 9, 10, 11] [] [0, 1, 2, 3, 4, 5, 6, 7, 8, 9, 10, 11] [] rfl rfl (by decide) (by decide) (by decide) (by decide) rfl rfl rfl rfl ⟨by rw [hR]; decide, by rw [hR]; decide⟩ rfl rfl rfl hl.1 rfl (Nat.le_of_ble_eq_true rfl) d_Model_ends_1 ⟨by rw [hR]; decide, by rw [hR]; decide⟩ rfl (fun H locs hP hD hS => ?_)
  refine lv_aload_n hx hb d_Model_ends_4 rfl (lv_at hl 0 rfl) ?_
  refine va_get (D := D) (ci := 11) (v := .int (sM1 7 0)) (C := "BedFrontierModel") (T := T_Model) (N := 22) hx hb htt i_Model hown hK.1 hP 0 rfl rfl 7 (by decide) (htt _ k_779) (fun _ h9 => h9) rfl d_Model_ends_5 ?_
  refine lv_iconst (v := (4 : Int32)) hx hb d_Model_ends_8 (by decide) ?_
  refine lv_icmp_ne (tgt := 16) hx hb d_Model_ends_9 (by decide) (fun c4 => ?_) (fun c4 => ?_)
  · replace hf := iteF c4 hf
    refine lv_iconst (v := (0 : Int32)) hx hb d_Model_ends_16 (by decide) ?_
    obtain ⟨rfl, rfl, rfl⟩ := sj3 hf
    exact retM C0 rfl hQ hP hD hS d_Model_ends_17
  · replace hf := iteT c4 hf
    refine lv_iconst (v := (1 : Int32)) hx hb d_Model_ends_12 (by decide) ?_
    refine lv_goto (tgt := 17) hx hb d_Model_ends_13 (by decide) ?_
    obtain ⟨rfl, rfl, rfl⟩ := sj3 hf
    exact retM C0 rfl hQ hP hD hS d_Model_ends_17
def f_Model_readHours_L9 (K9 : PW × PL → Option (Int32 × PW × PL)) : PW × PL → Option (Int32 × PW × PL)
  | (sM5, sN6) =>
  (if (sM5 7 0) = (2 : Int32) then (if (24 : Int32) ≤ (sM5 8 0) then (if (sM5 7 0) = (4 : Int32) then some ((1 : Int32), sM5, sN6) else some ((0 : Int32), sM5, sN6)) else nm (up sM5 11 (fun _ => ((sM5 11 0) ||| ((1 : Int32) <<< ((sM5 8 0) &&& 31))))) (fun sM11 => bd2 (f_Model_nextToken sM11 sN6) (fun sM12 sN13 => K9 (sM12, sN13)))) else (if (sM5 7 0) = (4 : Int32) then some ((1 : Int32), sM5, sN6) else some ((0 : Int32), sM5, sN6)))
def f_Model_readHours (sM : PW) (sN : PL) : Option (Int32 × PW × PL) :=
  nm (up sM 11 (fun _ => (0 : Int32))) (fun sM1 => bd2 (f_Model_nextToken sM1 sN) (fun sM2 sN3 => loopF f_Model_readHours_L9 4000 (sM2, sN3)))
set_option maxHeartbeats 4000000 in
set_option maxRecDepth 100000 in
theorem c_Model_readHours (l : Launch) (D : va_G) (ty : Nat → ClassId) (mA : Nat → Nat) (sz : Nat) (sM : PW) (sN : PL) (rr : Int32) (tM : PW) (tN : PL) (hf : f_Model_readHours sM sN = some (rr, tM, tN)) : Met l y_Model_readHours (Cond.code y_Model_readHours prog_13_method_23_code 1 ((Option.some FieldType.boolean)) :: lw_ok) { frames := 2, cells := 0, slots := 0, locals := 45 } (PcM D ty [.ref (mA 0)] sz (L_m ty mA sM sN)) (QM D (L_m ty mA tM tN) (va_A (L_m ty mA sM sN) sz) (some (.int rr))) 0 0 (va_A (L_m ty mA sM sN) sz) := by
  refine hdM (by decide) (Nat.le_of_ble_eq_true rfl) ?_
  intro p e s m below meth c ls R args Q A C0 hR hQ hnm hAq hP hK hD hS hl
  obtain ⟨hx, hb, hr, hlk, hml, hown, htt⟩ := id C0
  have hl : lv_has ls 1 [(0, .ref (mA 0))] := hl
  generalize hH0 : s.heap = H at hP hS ⊢
  have hS : va_S A s.heap H [] := by rw [hH0]; exact hS
  unfold f_Model_readHours at hf
  refine lv_aload_n hx hb d_Model_readHours_0 rfl (lv_at hl 0 rfl) ?_
  refine lv_iconst (v := (0 : Int32)) hx hb d_Model_readHours_1 (by decide) ?_
  refine va_put (D := D) (ci := 11) (v := .int (0 : Int32)) (ty := .int) (C := "BedFrontierModel") (T := T_Model) (N := 22) hx hb htt i_Model t_Model t_Model_ok n_Model hown hK.1 hP hD hS 0 rfl rfl 11 (by decide) (htt _ k_783) (fun _ h9 => h9) rfl pfI rfl rfl (Nat.le_of_ble_eq_true rfl) d_Model_readHours_2 (fun H locs hP hD hS => ?_)
  obtain ⟨sM1, e_sM1⟩ : ∃ z : PW, z = up sM 11 (fun _ => (0 : Int32)) := ⟨_, rfl⟩
  replace hf := nmE hf e_sM1
  have hP : va_P D vwCl (L_m ty mA sM1 sN) H := by rw [e_sM1]; exact hP
  have hD : va_D A (L_m ty mA sM1 sN) := by rw [e_sM1]; exact hD
  refine lv_aload_n hx hb d_Model_readHours_5 rfl (lv_at hl 0 rfl) ?_
  obtain ⟨sM2, sN3, h4, hf⟩ := bd2E hf
  refine vM (Lc := (L_m ty mA sM1 sN)) (Lc' := (L_m ty mA sM2 sN3)) (L' := (L_m ty mA sM2 sN3)) (q0 := 0) (ci := 11) (rest := []) C0 (c_Model_nextToken l D ty mA H.size sM1 sN sM2 sN3 h4) k_895 cal_Model_nextToken hK hP hD hS hAq [0, 1, 2, 3, 4, 5, 6, 7, 8, 9, 10, 11] [] [0, 1, 2, 3, 4, 5, 6, 7, 8, 9, 10, 11] [] rfl rfl (by decide) (by decide) (by decide) (by decide) rfl rfl rfl rfl ⟨by rw [hR]; decide, by rw [hR]; decide⟩ rfl rfl rfl hl.1 rfl (Nat.le_of_ble_eq_true rfl) d_Model_readHours_6 ⟨by rw [hR]; decide, by rw [hR]; decide⟩ rfl (fun H locs hP hD hS => ?_)
  have B9 : ∀ (n : Nat) (x : PW × PL), loopF f_Model_readHours_L9 n x = some (rr, tM, tN) → ∀ (H : Heap) (locs : List Loc) (ls : Array Slot), va_P D vwCl (L_m ty mA (x.1) (x.2)) H → va_D A (L_m ty mA (x.1) (x.2)) → va_S A s.heap H locs → lv_has ls 1 [(0, .ref (mA 0))] → W p l e R s m args below meth c H locs 0 0 Q (F0 m 9 ls []) := by
    refine loopW (fun (x : PW × PL) => ∀ (H : Heap) (locs : List Loc) (ls : Array Slot), va_P D vwCl (L_m ty mA (x.1) (x.2)) H → va_D A (L_m ty mA (x.1) (x.2)) → va_S A s.heap H locs → lv_has ls 1 [(0, .ref (mA 0))] → W p l e R s m args below meth c H locs 0 0 Q (F0 m 9 ls [])) ?_
    intro K9 hK9 x hf
    obtain ⟨sM5, sN6⟩ := x
    rw [f_Model_readHours_L9] at hf
    intro H locs ls hP hD hS hl
    have hl : lv_has ls 1 [(0, .ref (mA 0))] := hl
    have hP : va_P D vwCl (L_m ty mA sM5 sN6) H := hP
    have hD : va_D A (L_m ty mA sM5 sN6) := hD
    show W p l e R s m args below meth c H locs 0 0 Q (F0 m 9 ls [])
    refine lv_aload_n hx hb d_Model_readHours_9 rfl (lv_at hl 0 rfl) ?_
    refine va_get (D := D) (ci := 11) (v := .int (sM5 7 0)) (C := "BedFrontierModel") (T := T_Model) (N := 22) hx hb htt i_Model hown hK.1 hP 0 rfl rfl 7 (by decide) (htt _ k_779) (fun _ h9 => h9) rfl d_Model_readHours_10 ?_
    refine lv_iconst (v := (2 : Int32)) hx hb d_Model_readHours_13 (by decide) ?_
    refine lv_icmp_ne (tgt := 48) hx hb d_Model_readHours_14 (by decide) (fun c7 => ?_) (fun c7 => ?_)
    · replace hf := iteF c7 hf
      refine lv_aload_n hx hb d_Model_readHours_48 rfl (lv_at hl 0 rfl) ?_
      refine va_get (D := D) (ci := 11) (v := .int (sM5 7 0)) (C := "BedFrontierModel") (T := T_Model) (N := 22) hx hb htt i_Model hown hK.1 hP 0 rfl rfl 7 (by decide) (htt _ k_779) (fun _ h9 => h9) rfl d_Model_readHours_49 ?_
      refine lv_iconst (v := (4 : Int32)) hx hb d_Model_readHours_52 (by decide) ?_
      refine lv_icmp_ne (tgt := 60) hx hb d_Model_readHours_53 (by decide) (fun c8 => ?_) (fun c8 => ?_)
      · replace hf := iteF c8 hf
        refine lv_iconst (v := (0 : Int32)) hx hb d_Model_readHours_60 (by decide) ?_
        obtain ⟨rfl, rfl, rfl⟩ := sj3 hf
        exact retM C0 rfl hQ hP hD hS d_Model_readHours_61
      · replace hf := iteT c8 hf
        refine lv_iconst (v := (1 : Int32)) hx hb d_Model_readHours_56 (by decide) ?_
        refine lv_goto (tgt := 61) hx hb d_Model_readHours_57 (by decide) ?_
        obtain ⟨rfl, rfl, rfl⟩ := sj3 hf
        exact retM C0 rfl hQ hP hD hS d_Model_readHours_61
    · replace hf := iteT c7 hf
      refine lv_aload_n hx hb d_Model_readHours_17 rfl (lv_at hl 0 rfl) ?_
      refine va_get (D := D) (ci := 11) (v := .int (sM5 8 0)) (C := "BedFrontierModel") (T := T_Model) (N := 22) hx hb htt i_Model hown hK.1 hP 0 rfl rfl 8 (by decide) (htt _ k_780) (fun _ h9 => h9) rfl d_Model_readHours_18 ?_
      refine lv_bipush (v := (24 : Int32)) hx hb d_Model_readHours_21 (by decide) ?_
      refine lv_icmp_ge (tgt := 48) hx hb d_Model_readHours_23 (by decide) (fun c9 => ?_) (fun c9 => ?_)
      · replace hf := iteT c9 hf
        refine lv_aload_n hx hb d_Model_readHours_48 rfl (lv_at hl 0 rfl) ?_
        refine va_get (D := D) (ci := 11) (v := .int (sM5 7 0)) (C := "BedFrontierModel") (T := T_Model) (N := 22) hx hb htt i_Model hown hK.1 hP 0 rfl rfl 7 (by decide) (htt _ k_779) (fun _ h9 => h9) rfl d_Model_readHours_49 ?_
        refine lv_iconst (v := (4 : Int32)) hx hb d_Model_readHours_52 (by decide) ?_
        refine lv_icmp_ne (tgt := 60) hx hb d_Model_readHours_53 (by decide) (fun c10 => ?_) (fun c10 => ?_)
        · replace hf := iteF c10 hf
          refine lv_iconst (v := (0 : Int32)) hx hb d_Model_readHours_60 (by decide) ?_
          obtain ⟨rfl, rfl, rfl⟩ := sj3 hf
          exact retM C0 rfl hQ hP hD hS d_Model_readHours_61
        · replace hf := iteT c10 hf
          refine lv_iconst (v := (1 : Int32)) hx hb d_Model_readHours_56 (by decide) ?_
          refine lv_goto (tgt := 61) hx hb d_Model_readHours_57 (by decide) ?_
          obtain ⟨rfl, rfl, rfl⟩ := sj3 hf
          exact retM C0 rfl hQ hP hD hS d_Model_readHours_61
      · replace hf := iteF c9 hf
        refine lv_aload_n hx hb d_Model_readHours_26 rfl (lv_at hl 0 rfl) ?_
        refine lv_dup hx hb d_Model_readHours_27 rfl ?_
        refine va_get (D := D) (ci := 11) (v := .int (sM5 11 0)) (C := "BedFrontierModel") (T := T_Model) (N := 22) hx hb htt i_Model hown hK.1 hP 0 rfl rfl 11 (by decide) (htt _ k_783) (fun _ h9 => h9) rfl d_Model_readHours_28 ?_
        refine lv_iconst (v := (1 : Int32)) hx hb d_Model_readHours_31 (by decide) ?_
        refine lv_aload_n hx hb d_Model_readHours_32 rfl (lv_at hl 0 rfl) ?_
        refine va_get (D := D) (ci := 11) (v := .int (sM5 8 0)) (C := "BedFrontierModel") (T := T_Model) (N := 22) hx hb htt i_Model hown hK.1 hP 0 rfl rfl 8 (by decide) (htt _ k_780) (fun _ h9 => h9) rfl d_Model_readHours_33 ?_
        refine lv_ishl hx hb d_Model_readHours_36 ?_
        refine lv_ior hx hb d_Model_readHours_37 ?_
        refine va_put (D := D) (ci := 11) (v := .int ((sM5 11 0) ||| ((1 : Int32) <<< ((sM5 8 0) &&& 31)))) (ty := .int) (C := "BedFrontierModel") (T := T_Model) (N := 22) hx hb htt i_Model t_Model t_Model_ok n_Model hown hK.1 hP hD hS 0 rfl rfl 11 (by decide) (htt _ k_783) (fun _ h9 => h9) rfl pfI rfl rfl (Nat.le_of_ble_eq_true rfl) d_Model_readHours_38 (fun H locs hP hD hS => ?_)
        obtain ⟨sM11, e_sM11⟩ : ∃ z : PW, z = up sM5 11 (fun _ => ((sM5 11 0) ||| ((1 : Int32) <<< ((sM5 8 0) &&& 31)))) := ⟨_, rfl⟩
        replace hf := nmE hf e_sM11
        have hP : va_P D vwCl (L_m ty mA sM11 sN6) H := by rw [e_sM11]; exact hP
        have hD : va_D A (L_m ty mA sM11 sN6) := by rw [e_sM11]; exact hD
        refine lv_aload_n hx hb d_Model_readHours_41 rfl (lv_at hl 0 rfl) ?_
        obtain ⟨sM12, sN13, h14, hf⟩ := bd2E hf
        refine vM (Lc := (L_m ty mA sM11 sN6)) (Lc' := (L_m ty mA sM12 sN13)) (L' := (L_m ty mA sM12 sN13)) (q0 := 0) (ci := 11) (rest := []) C0 (c_Model_nextToken l D ty mA H.size sM11 sN6 sM12 sN13 h14) k_895 cal_Model_nextToken hK hP hD hS hAq [0, 1, 2, 3, 4, 5, 6, 7, 8, 9, 10, 11] [] [0, 1, 2, 3, 4, 5, 6, 7, 8, 9, 10, 11] [] rfl rfl (by decide) (by decide) (by decide) (by decide) rfl rfl rfl rfl ⟨by rw [hR]; decide, by rw [hR]; decide⟩ rfl rfl rfl hl.1 rfl (Nat.le_of_ble_eq_true rfl) d_Model_readHours_42 ⟨by rw [hR]; decide, by rw [hR]; decide⟩ rfl (fun H locs hP hD hS => ?_)
        refine lv_goto (tgt := 9) hx hb d_Model_readHours_45 (by decide) ?_
        exact hK9 (sM12, sN13) hf _ _ ls hP hD hS (hl)
  exact B9 4000 (sM2, sN3) hf _ _ ls hP hD hS (hl)
def f_Model_readItem_J347 (x13 : Int32) (sM17 : PW) (sN18 : PL) : Option (Int32 × PW × PL) :=
  (if x13 = 0 then some ((0 : Int32), sM17, sN18) else bd3 (f_Model_ends sM17 sN18) (fun x20 sM21 sN22 => (if x20 = 0 then some ((0 : Int32), sM21, sN22) else some ((1 : Int32), sM21, sN22))))
def f_Model_readItem_J312 (a2 : Int32) (x13 : Int32) (sM14 : PW) (sN15 : PL) : Option (Int32 × PW × PL) :=
  nm (up sM14 12 (fun _ => ((sM14 12 0) + (1 : Int32)))) (fun sM16 => (if x13 = 0 then f_Model_readItem_J347 x13 sM16 sN15 else (if a2 = 0 then f_Model_readItem_J347 x13 sM16 sN15 else bd2 (f_Model_add sM16 sN15 (sM16 10 0) (sM16 10 1)) (fun sM27 sN28 => f_Model_readItem_J347 x13 sM27 sN28))))
def f_Model_readItem_J311 (a2 : Int32) (sM30 : PW) (sN31 : PL) : Option (Int32 × PW × PL) :=
  f_Model_readItem_J312 a2 (0 : Int32) sM30 sN31
def f_Model_readItem_J193 (a2 : Int32) (x61 : Int32) (sM62 : PW) (sN63 : PL) : Option (Int32 × PW × PL) :=
  (if x61 = 0 then gd (isZ x61) (some (x61, sM62, sN63)) else (if a2 = 0 then gd (isZ x61) (some (x61, sM62, sN63)) else gd (okI ((7 : Int32) + (sM62 10 0)) 53) (nm (up sM62 0 (upd (sM62 0) ((((7 : Int32) + (sM62 10 0))).toNatClampNeg) (sM62 11 0))) (fun sM69 => gd (isZ x61) (some (x61, sM69, sN63))))))
def f_Model_readItem_J192 (a2 : Int32) (sM71 : PW) (sN72 : PL) : Option (Int32 × PW × PL) :=
  f_Model_readItem_J193 a2 (0 : Int32) sM71 sN72
def f_Model_readItem_J140 (x83 : Int32) (sM86 : PW) (sN87 : PL) : Option (Int32 × PW × PL) :=
  (if x83 = 0 then some ((0 : Int32), sM86, sN87) else bd3 (f_Model_ends sM86 sN87) (fun x89 sM90 sN91 => (if x89 = 0 then some ((0 : Int32), sM90, sN91) else some ((1 : Int32), sM90, sN91))))
def f_Model_readItem_J112 (a2 : Int32) (x83 : Int32) (sM84 : PW) (sN85 : PL) : Option (Int32 × PW × PL) :=
  (if x83 = 0 then f_Model_readItem_J140 x83 sM84 sN85 else (if a2 = 0 then f_Model_readItem_J140 x83 sM84 sN85 else gd (okI ((5 : Int32) + (sM84 10 0)) 53) (nm (up sM84 0 (upd (sM84 0) ((((5 : Int32) + (sM84 10 0))).toNatClampNeg) (sM84 10 1))) (fun sM97 => f_Model_readItem_J140 x83 sM97 sN85))))
def f_Model_readItem_J111 (a2 : Int32) (sM98 : PW) (sN99 : PL) : Option (Int32 × PW × PL) :=
  f_Model_readItem_J112 a2 (0 : Int32) sM98 sN99
def f_Model_readItem_J55 (x108 : Int32) (sM111 : PW) (sN112 : PL) : Option (Int32 × PW × PL) :=
  (if x108 = 0 then some ((0 : Int32), sM111, sN112) else bd3 (f_Model_ends sM111 sN112) (fun x114 sM115 sN116 => (if x114 = 0 then some ((0 : Int32), sM115, sN116) else some ((1 : Int32), sM115, sN116))))
def f_Model_readItem_J36 (a2 : Int32) (x108 : Int32) (sM109 : PW) (sN110 : PL) : Option (Int32 × PW × PL) :=
  (if x108 = 0 then f_Model_readItem_J55 x108 sM109 sN110 else (if a2 = 0 then f_Model_readItem_J55 x108 sM109 sN110 else bd2 (f_Model_anew sM109 sN110 (sM109 10 0)) (fun sM121 sN122 => f_Model_readItem_J55 x108 sM121 sN122)))
def f_Model_readItem_J35 (a2 : Int32) (sM124 : PW) (sN125 : PL) : Option (Int32 × PW × PL) :=
  f_Model_readItem_J36 a2 (0 : Int32) sM124 sN125
def f_Model_readItem (sM : PW) (sN : PL) (a1 : Int32) (a2 : Int32) : Option (Int32 × PW × PL) :=
  (if a1 = 0 then bd (f_Model_isWord sM sN (104 : Int32) (111 : Int32) (117 : Int32) (115 : Int32) (101 : Int32)) (fun x106 => (if x106 = 0 then f_Model_readItem_J35 a2 sM sN else bd3 (f_Model_reads sM sN (0 : Int32) (9 : Int32)) (fun x127 sM128 sN129 => (if x127 = 0 then f_Model_readItem_J35 a2 sM128 sN129 else f_Model_readItem_J36 a2 (1 : Int32) sM128 sN129)))) else bd (f_Model_isWord sM sN (114 : Int32) (97 : Int32) (116 : Int32) (101 : Int32) (0 : Int32)) (fun x2 => (if x2 = 0 then bd (f_Model_isWord sM sN (98 : Int32) (97 : Int32) (114 : Int32) (0 : Int32) (0 : Int32)) (fun x5 => (if x5 = 0 then bd (f_Model_isWord sM sN (119 : Int32) (97 : Int32) (114 : Int32) (0 : Int32) (0 : Int32)) (fun x8 => (if x8 = 0 then bd (f_Model_isWord sM sN (100 : Int32) (111 : Int32) (105 : Int32) (110 : Int32) (103 : Int32)) (fun x11 => (if x11 = 0 then f_Model_readItem_J311 a2 sM sN else (if (6 : Int32) ≤ (sM 12 0) then f_Model_readItem_J311 a2 sM sN else bd3 (f_Model_reads sM sN (0 : Int32) (5 : Int32)) (fun x34 sM35 sN36 => (if x34 = 0 then f_Model_readItem_J311 a2 sM35 sN36 else bd3 (f_Model_reads sM35 sN36 (1 : Int32) (20 : Int32)) (fun x39 sM40 sN41 => (if x39 = 0 then f_Model_readItem_J311 a2 sM40 sN41 else f_Model_readItem_J312 a2 (1 : Int32) sM40 sN41))))))) else (if a2 = 0 then nm (up sM 0 (upd (sM 0) 3 (sM 0 3))) (fun sM45 => bd3 (f_Model_ends sM45 sN) (fun x46 sM47 sN48 => gd (isZ x46) (some (x46, sM47, sN48)))) else nm (up sM 0 (upd (sM 0) 3 (1 : Int32))) (fun sM51 => bd3 (f_Model_ends sM51 sN) (fun x52 sM53 sN54 => gd (isZ x52) (some (x52, sM53, sN54))))))) else bd3 (f_Model_reads sM sN (0 : Int32) (1 : Int32)) (fun x57 sM58 sN59 => (if x57 = 0 then f_Model_readItem_J192 a2 sM58 sN59 else bd3 (f_Model_readHours sM58 sN59) (fun x74 sM75 sN76 => (if x74 = 0 then f_Model_readItem_J192 a2 sM75 sN76 else f_Model_readItem_J193 a2 (1 : Int32) sM75 sN76)))))) else bd3 (f_Model_reads sM sN (0 : Int32) (1 : Int32)) (fun x79 sM80 sN81 => (if x79 = 0 then f_Model_readItem_J111 a2 sM80 sN81 else bd3 (f_Model_reads sM80 sN81 (1 : Int32) (9 : Int32)) (fun x101 sM102 sN103 => (if x101 = 0 then f_Model_readItem_J111 a2 sM102 sN103 else f_Model_readItem_J112 a2 (1 : Int32) sM102 sN103)))))))
set_option maxHeartbeats 4000000 in
set_option maxRecDepth 100000 in
theorem c_Model_readItem (l : Launch) (D : va_G) (ty : Nat → ClassId) (mA : Nat → Nat) (sz : Nat) (sM : PW) (sN : PL) (a1 : Int32) (a2 : Int32) (rr : Int32) (tM : PW) (tN : PL) (hf : f_Model_readItem sM sN a1 a2 = some (rr, tM, tN)) : Met l y_Model_readItem (Cond.code y_Model_readItem prog_13_method_24_code 4 ((Option.some FieldType.boolean)) :: lw_ok) { frames := 3, cells := 0, slots := 0, locals := 67 } (PcM D ty [.ref (mA 0), .int a1, .int a2] sz (L_m ty mA sM sN)) (QM D (L_m ty mA tM tN) (va_A (L_m ty mA sM sN) sz) (some (.int rr))) 0 0 (va_A (L_m ty mA sM sN) sz) := by
  refine hdM (by decide) (Nat.le_of_ble_eq_true rfl) ?_
  intro p e s m below meth c ls R args Q A C0 hR hQ hnm hAq hP hK hD hS hl
  obtain ⟨hx, hb, hr, hlk, hml, hown, htt⟩ := id C0
  have hl : lv_has ls 4 [(0, .ref (mA 0)), (1, .int a1), (2, .int a2)] := hl
  generalize hH0 : s.heap = H at hP hS ⊢
  have hS : va_S A s.heap H [] := by rw [hH0]; exact hS
  unfold f_Model_readItem at hf
  refine lv_iload_n hx hb d_Model_readItem_0 rfl (lv_at hl 1 rfl) ?_
  refine lv_if_ne (tgt := 72) hx hb d_Model_readItem_1 (by decide) (fun c1 => ?_) (fun c1 => ?_)
  · replace hf := iteF c1 hf
    refine lv_aload_n hx hb d_Model_readItem_72 rfl (lv_at hl 0 rfl) ?_
    refine lv_bipush (v := (114 : Int32)) hx hb d_Model_readItem_73 (by decide) ?_
    refine lv_bipush (v := (97 : Int32)) hx hb d_Model_readItem_75 (by decide) ?_
    refine lv_bipush (v := (116 : Int32)) hx hb d_Model_readItem_77 (by decide) ?_
    refine lv_bipush (v := (101 : Int32)) hx hb d_Model_readItem_79 (by decide) ?_
    refine lv_iconst (v := (0 : Int32)) hx hb d_Model_readItem_81 (by decide) ?_
    obtain ⟨x2, h3, hf⟩ := bdE hf
    refine vR (q0 := 0) (ci := 11) (rest := []) C0 (c_Model_isWord l D ty mA sM sN (114 : Int32) (97 : Int32) (116 : Int32) (101 : Int32) (0 : Int32) x2 h3) k_911 cal_Model_isWord hK hP rfl rfl rfl ⟨by rw [hR]; decide, by rw [hR]; decide⟩ rfl rfl rfl hl.1 rfl (Nat.le_of_ble_eq_true rfl) d_Model_readItem_82 ⟨Nat.zero_le _, Nat.zero_le _⟩ rfl ?_
    refine lv_if_eq (tgt := 157) hx hb d_Model_readItem_85 (by decide) (fun c4 => ?_) (fun c4 => ?_)
    · replace hf := iteT c4 hf
      refine lv_aload_n hx hb d_Model_readItem_157 rfl (lv_at hl 0 rfl) ?_
      refine lv_bipush (v := (98 : Int32)) hx hb d_Model_readItem_158 (by decide) ?_
      refine lv_bipush (v := (97 : Int32)) hx hb d_Model_readItem_160 (by decide) ?_
      refine lv_bipush (v := (114 : Int32)) hx hb d_Model_readItem_162 (by decide) ?_
      refine lv_iconst (v := (0 : Int32)) hx hb d_Model_readItem_164 (by decide) ?_
      refine lv_iconst (v := (0 : Int32)) hx hb d_Model_readItem_165 (by decide) ?_
      obtain ⟨x5, h6, hf⟩ := bdE hf
      refine vR (q0 := 0) (ci := 11) (rest := []) C0 (c_Model_isWord l D ty mA sM sN (98 : Int32) (97 : Int32) (114 : Int32) (0 : Int32) (0 : Int32) x5 h6) k_911 cal_Model_isWord hK hP rfl rfl rfl ⟨by rw [hR]; decide, by rw [hR]; decide⟩ rfl rfl rfl hl.1 rfl (Nat.le_of_ble_eq_true rfl) d_Model_readItem_166 ⟨Nat.zero_le _, Nat.zero_le _⟩ rfl ?_
      refine lv_if_eq (tgt := 222) hx hb d_Model_readItem_169 (by decide) (fun c7 => ?_) (fun c7 => ?_)
      · replace hf := iteT c7 hf
        refine lv_aload_n hx hb d_Model_readItem_222 rfl (lv_at hl 0 rfl) ?_
        refine lv_bipush (v := (119 : Int32)) hx hb d_Model_readItem_223 (by decide) ?_
        refine lv_bipush (v := (97 : Int32)) hx hb d_Model_readItem_225 (by decide) ?_
        refine lv_bipush (v := (114 : Int32)) hx hb d_Model_readItem_227 (by decide) ?_
        refine lv_iconst (v := (0 : Int32)) hx hb d_Model_readItem_229 (by decide) ?_
        refine lv_iconst (v := (0 : Int32)) hx hb d_Model_readItem_230 (by decide) ?_
        obtain ⟨x8, h9, hf⟩ := bdE hf
        refine vR (q0 := 0) (ci := 11) (rest := []) C0 (c_Model_isWord l D ty mA sM sN (119 : Int32) (97 : Int32) (114 : Int32) (0 : Int32) (0 : Int32) x8 h9) k_911 cal_Model_isWord hK hP rfl rfl rfl ⟨by rw [hR]; decide, by rw [hR]; decide⟩ rfl rfl rfl hl.1 rfl (Nat.le_of_ble_eq_true rfl) d_Model_readItem_231 ⟨Nat.zero_le _, Nat.zero_le _⟩ rfl ?_
        refine lv_if_eq (tgt := 262) hx hb d_Model_readItem_234 (by decide) (fun c10 => ?_) (fun c10 => ?_)
        · replace hf := iteT c10 hf
          refine lv_aload_n hx hb d_Model_readItem_262 rfl (lv_at hl 0 rfl) ?_
          refine lv_bipush (v := (100 : Int32)) hx hb d_Model_readItem_263 (by decide) ?_
          refine lv_bipush (v := (111 : Int32)) hx hb d_Model_readItem_265 (by decide) ?_
          refine lv_bipush (v := (105 : Int32)) hx hb d_Model_readItem_267 (by decide) ?_
          refine lv_bipush (v := (110 : Int32)) hx hb d_Model_readItem_269 (by decide) ?_
          refine lv_bipush (v := (103 : Int32)) hx hb d_Model_readItem_271 (by decide) ?_
          obtain ⟨x11, h12, hf⟩ := bdE hf
          refine vR (q0 := 0) (ci := 11) (rest := []) C0 (c_Model_isWord l D ty mA sM sN (100 : Int32) (111 : Int32) (105 : Int32) (110 : Int32) (103 : Int32) x11 h12) k_911 cal_Model_isWord hK hP rfl rfl rfl ⟨by rw [hR]; decide, by rw [hR]; decide⟩ rfl rfl rfl hl.1 rfl (Nat.le_of_ble_eq_true rfl) d_Model_readItem_273 ⟨Nat.zero_le _, Nat.zero_le _⟩ rfl ?_
          have J312 : ∀ (x13 : Int32) (sM14 : PW) (sN15 : PL), f_Model_readItem_J312 a2 x13 sM14 sN15 = some (rr, tM, tN) → ∀ (H : Heap) (locs : List Loc) (ls : Array Slot), va_P D vwCl (L_m ty mA sM14 sN15) H → va_D A (L_m ty mA sM14 sN15) → va_S A s.heap H locs → lv_has ls 4 [(0, .ref (mA 0)), (2, .int a2)] → W p l e R s m args below meth c H locs 0 0 Q (F0 m 312 ls [.int x13]) := by
            intro x13 sM14 sN15 hf H locs ls hP hD hS hl
            unfold f_Model_readItem_J312 at hf
            refine lv_istore_n (lv' := [(3, .int x13), (0, .ref (mA 0)), (2, .int a2)]) hx hb d_Model_readItem_312 rfl hl (by decide) rfl (fun ls hl => ?_)
            refine lv_aload_n hx hb d_Model_readItem_313 rfl (lv_at hl 1 rfl) ?_
            refine lv_dup hx hb d_Model_readItem_314 rfl ?_
            refine va_get (D := D) (ci := 11) (v := .int (sM14 12 0)) (C := "BedFrontierModel") (T := T_Model) (N := 22) hx hb htt i_Model hown hK.1 hP 0 rfl rfl 12 (by decide) (htt _ k_784) (fun _ h9 => h9) rfl d_Model_readItem_315 ?_
            refine lv_iconst (v := (1 : Int32)) hx hb d_Model_readItem_318 (by decide) ?_
            refine lv_iadd hx hb d_Model_readItem_319 ?_
            refine va_put (D := D) (ci := 11) (v := .int ((sM14 12 0) + (1 : Int32))) (ty := .int) (C := "BedFrontierModel") (T := T_Model) (N := 22) hx hb htt i_Model t_Model t_Model_ok n_Model hown hK.1 hP hD hS 0 rfl rfl 12 (by decide) (htt _ k_784) (fun _ h9 => h9) rfl pfI rfl rfl (Nat.le_of_ble_eq_true rfl) d_Model_readItem_320 (fun H locs hP hD hS => ?_)
            obtain ⟨sM16, e_sM16⟩ : ∃ z : PW, z = up sM14 12 (fun _ => ((sM14 12 0) + (1 : Int32))) := ⟨_, rfl⟩
            replace hf := nmE hf e_sM16
            have hP : va_P D vwCl (L_m ty mA sM16 sN15) H := by rw [e_sM16]; exact hP
            have hD : va_D A (L_m ty mA sM16 sN15) := by rw [e_sM16]; exact hD
            refine lv_iload_n hx hb d_Model_readItem_323 rfl (lv_at hl 0 rfl) ?_
            have J347 : ∀ (sM17 : PW) (sN18 : PL), f_Model_readItem_J347 x13 sM17 sN18 = some (rr, tM, tN) → ∀ (H : Heap) (locs : List Loc) (ls : Array Slot), va_P D vwCl (L_m ty mA sM17 sN18) H → va_D A (L_m ty mA sM17 sN18) → va_S A s.heap H locs → lv_has ls 4 [(0, .ref (mA 0)), (3, .int x13)] → W p l e R s m args below meth c H locs 0 0 Q (F0 m 347 ls []) := by
              intro sM17 sN18 hf H locs ls hP hD hS hl
              unfold f_Model_readItem_J347 at hf
              refine lv_iload_n hx hb d_Model_readItem_347 rfl (lv_at hl 1 rfl) ?_
              refine lv_if_eq (tgt := 362) hx hb d_Model_readItem_348 (by decide) (fun c19 => ?_) (fun c19 => ?_)
              · replace hf := iteT c19 hf
                refine lv_iconst (v := (0 : Int32)) hx hb d_Model_readItem_362 (by decide) ?_
                obtain ⟨rfl, rfl, rfl⟩ := sj3 hf
                exact retM C0 rfl hQ hP hD hS d_Model_readItem_363
              · replace hf := iteF c19 hf
                refine lv_aload_n hx hb d_Model_readItem_351 rfl (lv_at hl 0 rfl) ?_
                obtain ⟨x20, sM21, sN22, h23, hf⟩ := bd3E hf
                refine vM (Lc := (L_m ty mA sM17 sN18)) (Lc' := (L_m ty mA sM21 sN22)) (L' := (L_m ty mA sM21 sN22)) (q0 := 0) (ci := 11) (rest := []) C0 (c_Model_ends l D ty mA H.size sM17 sN18 x20 sM21 sN22 h23) k_919 cal_Model_ends hK hP hD hS hAq [0, 1, 2, 3, 4, 5, 6, 7, 8, 9, 10, 11] [] [0, 1, 2, 3, 4, 5, 6, 7, 8, 9, 10, 11] [] rfl rfl (by decide) (by decide) (by decide) (by decide) rfl rfl rfl rfl ⟨by rw [hR]; decide, by rw [hR]; decide⟩ rfl rfl rfl hl.1 rfl (Nat.le_of_ble_eq_true rfl) d_Model_readItem_352 ⟨by rw [hR]; decide, by rw [hR]; decide⟩ rfl (fun H locs hP hD hS => ?_)
                refine lv_if_eq (tgt := 362) hx hb d_Model_readItem_355 (by decide) (fun c24 => ?_) (fun c24 => ?_)
                · replace hf := iteT c24 hf
                  refine lv_iconst (v := (0 : Int32)) hx hb d_Model_readItem_362 (by decide) ?_
                  obtain ⟨rfl, rfl, rfl⟩ := sj3 hf
                  exact retM C0 rfl hQ hP hD hS d_Model_readItem_363
                · replace hf := iteF c24 hf
                  refine lv_iconst (v := (1 : Int32)) hx hb d_Model_readItem_358 (by decide) ?_
                  refine lv_goto (tgt := 363) hx hb d_Model_readItem_359 (by decide) ?_
                  obtain ⟨rfl, rfl, rfl⟩ := sj3 hf
                  exact retM C0 rfl hQ hP hD hS d_Model_readItem_363
            refine lv_if_eq (tgt := 347) hx hb d_Model_readItem_324 (by decide) (fun c25 => ?_) (fun c25 => ?_)
            · replace hf := iteT c25 hf
              exact J347 sM16 sN15 hf _ _ ls hP hD hS (lv_sub hl [1, 0] rfl)
            · replace hf := iteF c25 hf
              refine lv_iload_n hx hb d_Model_readItem_327 rfl (lv_at hl 2 rfl) ?_
              refine lv_if_eq (tgt := 347) hx hb d_Model_readItem_328 (by decide) (fun c26 => ?_) (fun c26 => ?_)
              · replace hf := iteT c26 hf
                exact J347 sM16 sN15 hf _ _ ls hP hD hS (lv_sub hl [1, 0] rfl)
              · replace hf := iteF c26 hf
                refine lv_aload_n hx hb d_Model_readItem_331 rfl (lv_at hl 1 rfl) ?_
                refine lv_aload_n hx hb d_Model_readItem_332 rfl (lv_at hl 1 rfl) ?_
                refine va_get (D := D) (ci := 11) (v := .ref (mA 11)) (C := "BedFrontierModel") (T := T_Model) (N := 22) hx hb htt i_Model hown hK.1 hP 0 rfl rfl 10 (by decide) (htt _ k_782) (fun _ h9 => h9) rfl d_Model_readItem_333 ?_
                refine lv_iconst (v := (0 : Int32)) hx hb d_Model_readItem_336 (by decide) ?_
                refine ld_iald (j := 0) hx hb hK.1 hP 4 0 rfl rfl (okI_in (by decide)) rfl d_Model_readItem_337 ?_
                refine lv_aload_n hx hb d_Model_readItem_338 rfl (lv_at hl 1 rfl) ?_
                refine va_get (D := D) (ci := 11) (v := .ref (mA 11)) (C := "BedFrontierModel") (T := T_Model) (N := 22) hx hb htt i_Model hown hK.1 hP 0 rfl rfl 10 (by decide) (htt _ k_782) (fun _ h9 => h9) rfl d_Model_readItem_339 ?_
                refine lv_iconst (v := (1 : Int32)) hx hb d_Model_readItem_342 (by decide) ?_
                refine ld_iald (j := 1) hx hb hK.1 hP 4 0 rfl rfl (okI_in (by decide)) rfl d_Model_readItem_343 ?_
                obtain ⟨sM27, sN28, h29, hf⟩ := bd2E hf
                refine vM (Lc := (L_m ty mA sM16 sN15)) (Lc' := (L_m ty mA sM27 sN28)) (L' := (L_m ty mA sM27 sN28)) (q0 := 0) (ci := 11) (rest := []) C0 (c_Model_add l D ty mA H.size sM16 sN15 (sM16 10 0) (sM16 10 1) sM27 sN28 h29) k_874 cal_Model_add hK hP hD hS hAq [0, 1, 2, 3, 4, 5, 6, 7, 8, 9, 10, 11] [] [0, 1, 2, 3, 4, 5, 6, 7, 8, 9, 10, 11] [] rfl rfl (by decide) (by decide) (by decide) (by decide) rfl rfl rfl rfl ⟨by rw [hR]; decide, by rw [hR]; decide⟩ rfl rfl rfl hl.1 rfl (Nat.le_of_ble_eq_true rfl) d_Model_readItem_344 ⟨by rw [hR]; decide, by rw [hR]; decide⟩ rfl (fun H locs hP hD hS => ?_)
                exact J347 sM27 sN28 hf _ _ ls hP hD hS (lv_sub hl [1, 0] rfl)
          have J311 : ∀ (sM30 : PW) (sN31 : PL), f_Model_readItem_J311 a2 sM30 sN31 = some (rr, tM, tN) → ∀ (H : Heap) (locs : List Loc) (ls : Array Slot), va_P D vwCl (L_m ty mA sM30 sN31) H → va_D A (L_m ty mA sM30 sN31) → va_S A s.heap H locs → lv_has ls 4 [(0, .ref (mA 0)), (2, .int a2)] → W p l e R s m args below meth c H locs 0 0 Q (F0 m 311 ls []) := by
            intro sM30 sN31 hf H locs ls hP hD hS hl
            unfold f_Model_readItem_J311 at hf
            refine lv_iconst (v := (0 : Int32)) hx hb d_Model_readItem_311 (by decide) ?_
            exact J312 (0 : Int32) sM30 sN31 hf _ _ ls hP hD hS (hl)
          refine lv_if_eq (tgt := 311) hx hb d_Model_readItem_276 (by decide) (fun c32 => ?_) (fun c32 => ?_)
          · replace hf := iteT c32 hf
            exact J311 sM sN hf _ _ ls hP hD hS (lv_sub hl [0, 2] rfl)
          · replace hf := iteF c32 hf
            refine lv_aload_n hx hb d_Model_readItem_279 rfl (lv_at hl 0 rfl) ?_
            refine va_get (D := D) (ci := 11) (v := .int (sM 12 0)) (C := "BedFrontierModel") (T := T_Model) (N := 22) hx hb htt i_Model hown hK.1 hP 0 rfl rfl 12 (by decide) (htt _ k_784) (fun _ h9 => h9) rfl d_Model_readItem_280 ?_
            refine lv_bipush (v := (6 : Int32)) hx hb d_Model_readItem_283 (by decide) ?_
            refine lv_icmp_ge (tgt := 311) hx hb d_Model_readItem_285 (by decide) (fun c33 => ?_) (fun c33 => ?_)
            · replace hf := iteT c33 hf
              exact J311 sM sN hf _ _ ls hP hD hS (lv_sub hl [0, 2] rfl)
            · replace hf := iteF c33 hf
              refine lv_aload_n hx hb d_Model_readItem_288 rfl (lv_at hl 0 rfl) ?_
              refine lv_iconst (v := (0 : Int32)) hx hb d_Model_readItem_289 (by decide) ?_
              refine lv_iconst (v := (5 : Int32)) hx hb d_Model_readItem_290 (by decide) ?_
              obtain ⟨x34, sM35, sN36, h37, hf⟩ := bd3E hf
              refine vM (Lc := (L_m ty mA sM sN)) (Lc' := (L_m ty mA sM35 sN36)) (L' := (L_m ty mA sM35 sN36)) (q0 := 0) (ci := 11) (rest := []) C0 (c_Model_reads l D ty mA H.size sM sN (0 : Int32) (5 : Int32) x34 sM35 sN36 h37) k_915 cal_Model_reads hK hP hD hS hAq [0, 1, 2, 3, 4, 5, 6, 7, 8, 9, 10, 11] [] [0, 1, 2, 3, 4, 5, 6, 7, 8, 9, 10, 11] [] rfl rfl (by decide) (by decide) (by decide) (by decide) rfl rfl rfl rfl ⟨by rw [hR]; decide, by rw [hR]; decide⟩ rfl rfl rfl hl.1 rfl (Nat.le_of_ble_eq_true rfl) d_Model_readItem_291 ⟨by rw [hR]; decide, by rw [hR]; decide⟩ rfl (fun H locs hP hD hS => ?_)
              refine lv_if_eq (tgt := 311) hx hb d_Model_readItem_294 (by decide) (fun c38 => ?_) (fun c38 => ?_)
              · replace hf := iteT c38 hf
                exact J311 sM35 sN36 hf _ _ ls hP hD hS (lv_sub hl [0, 2] rfl)
              · replace hf := iteF c38 hf
                refine lv_aload_n hx hb d_Model_readItem_297 rfl (lv_at hl 0 rfl) ?_
                refine lv_iconst (v := (1 : Int32)) hx hb d_Model_readItem_298 (by decide) ?_
                refine lv_bipush (v := (20 : Int32)) hx hb d_Model_readItem_299 (by decide) ?_
                obtain ⟨x39, sM40, sN41, h42, hf⟩ := bd3E hf
                refine vM (Lc := (L_m ty mA sM35 sN36)) (Lc' := (L_m ty mA sM40 sN41)) (L' := (L_m ty mA sM40 sN41)) (q0 := 0) (ci := 11) (rest := []) C0 (c_Model_reads l D ty mA H.size sM35 sN36 (1 : Int32) (20 : Int32) x39 sM40 sN41 h42) k_915 cal_Model_reads hK hP hD hS hAq [0, 1, 2, 3, 4, 5, 6, 7, 8, 9, 10, 11] [] [0, 1, 2, 3, 4, 5, 6, 7, 8, 9, 10, 11] [] rfl rfl (by decide) (by decide) (by decide) (by decide) rfl rfl rfl rfl ⟨by rw [hR]; decide, by rw [hR]; decide⟩ rfl rfl rfl hl.1 rfl (Nat.le_of_ble_eq_true rfl) d_Model_readItem_301 ⟨by rw [hR]; decide, by rw [hR]; decide⟩ rfl (fun H locs hP hD hS => ?_)
                refine lv_if_eq (tgt := 311) hx hb d_Model_readItem_304 (by decide) (fun c43 => ?_) (fun c43 => ?_)
                · replace hf := iteT c43 hf
                  exact J311 sM40 sN41 hf _ _ ls hP hD hS (lv_sub hl [0, 2] rfl)
                · replace hf := iteF c43 hf
                  refine lv_iconst (v := (1 : Int32)) hx hb d_Model_readItem_307 (by decide) ?_
                  refine lv_goto (tgt := 312) hx hb d_Model_readItem_308 (by decide) ?_
                  exact J312 (1 : Int32) sM40 sN41 hf _ _ ls hP hD hS (lv_sub hl [0, 2] rfl)
        · replace hf := iteF c10 hf
          refine lv_aload_n hx hb d_Model_readItem_237 rfl (lv_at hl 0 rfl) ?_
          refine va_get (D := D) (ci := 11) (v := .ref (mA 1)) (C := "BedFrontierModel") (T := T_Model) (N := 22) hx hb htt i_Model hown hK.1 hP 0 rfl rfl 0 (by decide) (htt _ k_772) (fun _ h9 => h9) rfl d_Model_readItem_238 ?_
          refine lv_iconst (v := (3 : Int32)) hx hb d_Model_readItem_241 (by decide) ?_
          refine lv_iload_n hx hb d_Model_readItem_242 rfl (lv_at hl 2 rfl) ?_
          refine lv_if_eq (tgt := 250) hx hb d_Model_readItem_243 (by decide) (fun c44 => ?_) (fun c44 => ?_)
          · replace hf := iteT c44 hf
            refine lv_aload_n hx hb d_Model_readItem_250 rfl (lv_at hl 0 rfl) ?_
            refine va_get (D := D) (ci := 11) (v := .ref (mA 1)) (C := "BedFrontierModel") (T := T_Model) (N := 22) hx hb htt i_Model hown hK.1 hP 0 rfl rfl 0 (by decide) (htt _ k_772) (fun _ h9 => h9) rfl d_Model_readItem_251 ?_
            refine lv_iconst (v := (3 : Int32)) hx hb d_Model_readItem_254 (by decide) ?_
            refine ld_iald (j := 3) hx hb hK.1 hP 1 0 rfl rfl (okI_in (by decide)) rfl d_Model_readItem_255 ?_
            refine st_iast (j := 3) hx hb hK.1 hP hD hS 1 0 rfl rfl (okI_in (by decide)) rfl d_Model_readItem_256 (fun H locs hP hD hS => ?_)
            obtain ⟨sM45, e_sM45⟩ : ∃ z : PW, z = up sM 0 (upd (sM 0) 3 (sM 0 3)) := ⟨_, rfl⟩
            replace hf := nmE hf e_sM45
            have hP : va_P D vwCl (L_m ty mA sM45 sN) H := by rw [e_sM45]; exact hP
            have hD : va_D A (L_m ty mA sM45 sN) := by rw [e_sM45]; exact hD
            refine lv_aload_n hx hb d_Model_readItem_257 rfl (lv_at hl 0 rfl) ?_
            obtain ⟨x46, sM47, sN48, h49, hf⟩ := bd3E hf
            refine vM (Lc := (L_m ty mA sM45 sN)) (Lc' := (L_m ty mA sM47 sN48)) (L' := (L_m ty mA sM47 sN48)) (q0 := 0) (ci := 11) (rest := []) C0 (c_Model_ends l D ty mA H.size sM45 sN x46 sM47 sN48 h49) k_919 cal_Model_ends hK hP hD hS hAq [0, 1, 2, 3, 4, 5, 6, 7, 8, 9, 10, 11] [] [0, 1, 2, 3, 4, 5, 6, 7, 8, 9, 10, 11] [] rfl rfl (by decide) (by decide) (by decide) (by decide) rfl rfl rfl rfl ⟨by rw [hR]; decide, by rw [hR]; decide⟩ rfl rfl rfl hl.1 rfl (Nat.le_of_ble_eq_true rfl) d_Model_readItem_258 ⟨by rw [hR]; decide, by rw [hR]; decide⟩ rfl (fun H locs hP hD hS => ?_)
            obtain ⟨g50, hf⟩ := gdE hf
            obtain ⟨rfl, rfl, rfl⟩ := sj3 hf
            exact retM C0 (isZ_nar g50) hQ hP hD hS d_Model_readItem_261
          · replace hf := iteF c44 hf
            refine lv_iconst (v := (1 : Int32)) hx hb d_Model_readItem_246 (by decide) ?_
            refine lv_goto (tgt := 256) hx hb d_Model_readItem_247 (by decide) ?_
            refine st_iast (j := 3) hx hb hK.1 hP hD hS 1 0 rfl rfl (okI_in (by decide)) rfl d_Model_readItem_256 (fun H locs hP hD hS => ?_)
            obtain ⟨sM51, e_sM51⟩ : ∃ z : PW, z = up sM 0 (upd (sM 0) 3 (1 : Int32)) := ⟨_, rfl⟩
            replace hf := nmE hf e_sM51
            have hP : va_P D vwCl (L_m ty mA sM51 sN) H := by rw [e_sM51]; exact hP
            have hD : va_D A (L_m ty mA sM51 sN) := by rw [e_sM51]; exact hD
            refine lv_aload_n hx hb d_Model_readItem_257 rfl (lv_at hl 0 rfl) ?_
            obtain ⟨x52, sM53, sN54, h55, hf⟩ := bd3E hf
            refine vM (Lc := (L_m ty mA sM51 sN)) (Lc' := (L_m ty mA sM53 sN54)) (L' := (L_m ty mA sM53 sN54)) (q0 := 0) (ci := 11) (rest := []) C0 (c_Model_ends l D ty mA H.size sM51 sN x52 sM53 sN54 h55) k_919 cal_Model_ends hK hP hD hS hAq [0, 1, 2, 3, 4, 5, 6, 7, 8, 9, 10, 11] [] [0, 1, 2, 3, 4, 5, 6, 7, 8, 9, 10, 11] [] rfl rfl (by decide) (by decide) (by decide) (by decide) rfl rfl rfl rfl ⟨by rw [hR]; decide, by rw [hR]; decide⟩ rfl rfl rfl hl.1 rfl (Nat.le_of_ble_eq_true rfl) d_Model_readItem_258 ⟨by rw [hR]; decide, by rw [hR]; decide⟩ rfl (fun H locs hP hD hS => ?_)
            obtain ⟨g56, hf⟩ := gdE hf
            obtain ⟨rfl, rfl, rfl⟩ := sj3 hf
            exact retM C0 (isZ_nar g56) hQ hP hD hS d_Model_readItem_261
      · replace hf := iteF c7 hf
        refine lv_aload_n hx hb d_Model_readItem_172 rfl (lv_at hl 0 rfl) ?_
        refine lv_iconst (v := (0 : Int32)) hx hb d_Model_readItem_173 (by decide) ?_
        refine lv_iconst (v := (1 : Int32)) hx hb d_Model_readItem_174 (by decide) ?_
        obtain ⟨x57, sM58, sN59, h60, hf⟩ := bd3E hf
        refine vM (Lc := (L_m ty mA sM sN)) (Lc' := (L_m ty mA sM58 sN59)) (L' := (L_m ty mA sM58 sN59)) (q0 := 0) (ci := 11) (rest := []) C0 (c_Model_reads l D ty mA H.size sM sN (0 : Int32) (1 : Int32) x57 sM58 sN59 h60) k_915 cal_Model_reads hK hP hD hS hAq [0, 1, 2, 3, 4, 5, 6, 7, 8, 9, 10, 11] [] [0, 1, 2, 3, 4, 5, 6, 7, 8, 9, 10, 11] [] rfl rfl (by decide) (by decide) (by decide) (by decide) rfl rfl rfl rfl ⟨by rw [hR]; decide, by rw [hR]; decide⟩ rfl rfl rfl hl.1 rfl (Nat.le_of_ble_eq_true rfl) d_Model_readItem_175 ⟨by rw [hR]; decide, by rw [hR]; decide⟩ rfl (fun H locs hP hD hS => ?_)
        have J193 : ∀ (x61 : Int32) (sM62 : PW) (sN63 : PL), f_Model_readItem_J193 a2 x61 sM62 sN63 = some (rr, tM, tN) → ∀ (H : Heap) (locs : List Loc) (ls : Array Slot), va_P D vwCl (L_m ty mA sM62 sN63) H → va_D A (L_m ty mA sM62 sN63) → va_S A s.heap H locs → lv_has ls 4 [(0, .ref (mA 0)), (2, .int a2)] → W p l e R s m args below meth c H locs 0 0 Q (F0 m 193 ls [.int x61]) := by
          intro x61 sM62 sN63 hf H locs ls hP hD hS hl
          unfold f_Model_readItem_J193 at hf
          refine lv_istore_n (lv' := [(3, .int x61), (0, .ref (mA 0)), (2, .int a2)]) hx hb d_Model_readItem_193 rfl hl (by decide) rfl (fun ls hl => ?_)
          refine lv_iload_n hx hb d_Model_readItem_194 rfl (lv_at hl 0 rfl) ?_
          refine lv_if_eq (tgt := 220) hx hb d_Model_readItem_195 (by decide) (fun c64 => ?_) (fun c64 => ?_)
          · replace hf := iteT c64 hf
            refine lv_iload_n hx hb d_Model_readItem_220 rfl (lv_at hl 0 rfl) ?_
            obtain ⟨g65, hf⟩ := gdE hf
            obtain ⟨rfl, rfl, rfl⟩ := sj3 hf
            exact retM C0 (isZ_nar g65) hQ hP hD hS d_Model_readItem_221
          · replace hf := iteF c64 hf
            refine lv_iload_n hx hb d_Model_readItem_198 rfl (lv_at hl 2 rfl) ?_
            refine lv_if_eq (tgt := 220) hx hb d_Model_readItem_199 (by decide) (fun c66 => ?_) (fun c66 => ?_)
            · replace hf := iteT c66 hf
              refine lv_iload_n hx hb d_Model_readItem_220 rfl (lv_at hl 0 rfl) ?_
              obtain ⟨g67, hf⟩ := gdE hf
              obtain ⟨rfl, rfl, rfl⟩ := sj3 hf
              exact retM C0 (isZ_nar g67) hQ hP hD hS d_Model_readItem_221
            · replace hf := iteF c66 hf
              refine lv_aload_n hx hb d_Model_readItem_202 rfl (lv_at hl 1 rfl) ?_
              refine va_get (D := D) (ci := 11) (v := .ref (mA 1)) (C := "BedFrontierModel") (T := T_Model) (N := 22) hx hb htt i_Model hown hK.1 hP 0 rfl rfl 0 (by decide) (htt _ k_772) (fun _ h9 => h9) rfl d_Model_readItem_203 ?_
              refine lv_bipush (v := (7 : Int32)) hx hb d_Model_readItem_206 (by decide) ?_
              refine lv_aload_n hx hb d_Model_readItem_208 rfl (lv_at hl 1 rfl) ?_
              refine va_get (D := D) (ci := 11) (v := .ref (mA 11)) (C := "BedFrontierModel") (T := T_Model) (N := 22) hx hb htt i_Model hown hK.1 hP 0 rfl rfl 10 (by decide) (htt _ k_782) (fun _ h9 => h9) rfl d_Model_readItem_209 ?_
              refine lv_iconst (v := (0 : Int32)) hx hb d_Model_readItem_212 (by decide) ?_
              refine ld_iald (j := 0) hx hb hK.1 hP 4 0 rfl rfl (okI_in (by decide)) rfl d_Model_readItem_213 ?_
              refine lv_iadd hx hb d_Model_readItem_214 ?_
              refine lv_aload_n hx hb d_Model_readItem_215 rfl (lv_at hl 1 rfl) ?_
              refine va_get (D := D) (ci := 11) (v := .int (sM62 11 0)) (C := "BedFrontierModel") (T := T_Model) (N := 22) hx hb htt i_Model hown hK.1 hP 0 rfl rfl 11 (by decide) (htt _ k_783) (fun _ h9 => h9) rfl d_Model_readItem_216 ?_
              obtain ⟨g68, hf⟩ := gdE hf
              refine va_iast hx hb hK.1 hP hD hS 1 0 rfl rfl (okI_in g68) d_Model_readItem_219 (fun H locs hP hD hS => ?_)
              obtain ⟨sM69, e_sM69⟩ : ∃ z : PW, z = up sM62 0 (upd (sM62 0) ((((7 : Int32) + (sM62 10 0))).toNatClampNeg) (sM62 11 0)) := ⟨_, rfl⟩
              replace hf := nmE hf e_sM69
              have hP : va_P D vwCl (L_m ty mA sM69 sN63) H := by rw [e_sM69]; exact hP
              have hD : va_D A (L_m ty mA sM69 sN63) := by rw [e_sM69]; exact hD
              refine lv_iload_n hx hb d_Model_readItem_220 rfl (lv_at hl 0 rfl) ?_
              obtain ⟨g70, hf⟩ := gdE hf
              obtain ⟨rfl, rfl, rfl⟩ := sj3 hf
              exact retM C0 (isZ_nar g70) hQ hP hD hS d_Model_readItem_221
        have J192 : ∀ (sM71 : PW) (sN72 : PL), f_Model_readItem_J192 a2 sM71 sN72 = some (rr, tM, tN) → ∀ (H : Heap) (locs : List Loc) (ls : Array Slot), va_P D vwCl (L_m ty mA sM71 sN72) H → va_D A (L_m ty mA sM71 sN72) → va_S A s.heap H locs → lv_has ls 4 [(0, .ref (mA 0)), (2, .int a2)] → W p l e R s m args below meth c H locs 0 0 Q (F0 m 192 ls []) := by
          intro sM71 sN72 hf H locs ls hP hD hS hl
          unfold f_Model_readItem_J192 at hf
          refine lv_iconst (v := (0 : Int32)) hx hb d_Model_readItem_192 (by decide) ?_
          exact J193 (0 : Int32) sM71 sN72 hf _ _ ls hP hD hS (hl)
        refine lv_if_eq (tgt := 192) hx hb d_Model_readItem_178 (by decide) (fun c73 => ?_) (fun c73 => ?_)
        · replace hf := iteT c73 hf
          exact J192 sM58 sN59 hf _ _ ls hP hD hS (lv_sub hl [0, 2] rfl)
        · replace hf := iteF c73 hf
          refine lv_aload_n hx hb d_Model_readItem_181 rfl (lv_at hl 0 rfl) ?_
          obtain ⟨x74, sM75, sN76, h77, hf⟩ := bd3E hf
          refine vM (Lc := (L_m ty mA sM58 sN59)) (Lc' := (L_m ty mA sM75 sN76)) (L' := (L_m ty mA sM75 sN76)) (q0 := 0) (ci := 11) (rest := []) C0 (c_Model_readHours l D ty mA H.size sM58 sN59 x74 sM75 sN76 h77) k_923 cal_Model_readHours hK hP hD hS hAq [0, 1, 2, 3, 4, 5, 6, 7, 8, 9, 10, 11] [] [0, 1, 2, 3, 4, 5, 6, 7, 8, 9, 10, 11] [] rfl rfl (by decide) (by decide) (by decide) (by decide) rfl rfl rfl rfl ⟨by rw [hR]; decide, by rw [hR]; decide⟩ rfl rfl rfl hl.1 rfl (Nat.le_of_ble_eq_true rfl) d_Model_readItem_182 ⟨by rw [hR]; decide, by rw [hR]; decide⟩ rfl (fun H locs hP hD hS => ?_)
          refine lv_if_eq (tgt := 192) hx hb d_Model_readItem_185 (by decide) (fun c78 => ?_) (fun c78 => ?_)
          · replace hf := iteT c78 hf
            exact J192 sM75 sN76 hf _ _ ls hP hD hS (lv_sub hl [0, 2] rfl)
          · replace hf := iteF c78 hf
            refine lv_iconst (v := (1 : Int32)) hx hb d_Model_readItem_188 (by decide) ?_
            refine lv_goto (tgt := 193) hx hb d_Model_readItem_189 (by decide) ?_
            exact J193 (1 : Int32) sM75 sN76 hf _ _ ls hP hD hS (lv_sub hl [0, 2] rfl)
    · replace hf := iteF c4 hf
      refine lv_aload_n hx hb d_Model_readItem_88 rfl (lv_at hl 0 rfl) ?_
      refine lv_iconst (v := (0 : Int32)) hx hb d_Model_readItem_89 (by decide) ?_
      refine lv_iconst (v := (1 : Int32)) hx hb d_Model_readItem_90 (by decide) ?_
      obtain ⟨x79, sM80, sN81, h82, hf⟩ := bd3E hf
      refine vM (Lc := (L_m ty mA sM sN)) (Lc' := (L_m ty mA sM80 sN81)) (L' := (L_m ty mA sM80 sN81)) (q0 := 0) (ci := 11) (rest := []) C0 (c_Model_reads l D ty mA H.size sM sN (0 : Int32) (1 : Int32) x79 sM80 sN81 h82) k_915 cal_Model_reads hK hP hD hS hAq [0, 1, 2, 3, 4, 5, 6, 7, 8, 9, 10, 11] [] [0, 1, 2, 3, 4, 5, 6, 7, 8, 9, 10, 11] [] rfl rfl (by decide) (by decide) (by decide) (by decide) rfl rfl rfl rfl ⟨by rw [hR]; decide, by rw [hR]; decide⟩ rfl rfl rfl hl.1 rfl (Nat.le_of_ble_eq_true rfl) d_Model_readItem_91 ⟨by rw [hR]; decide, by rw [hR]; decide⟩ rfl (fun H locs hP hD hS => ?_)
      have J112 : ∀ (x83 : Int32) (sM84 : PW) (sN85 : PL), f_Model_readItem_J112 a2 x83 sM84 sN85 = some (rr, tM, tN) → ∀ (H : Heap) (locs : List Loc) (ls : Array Slot), va_P D vwCl (L_m ty mA sM84 sN85) H → va_D A (L_m ty mA sM84 sN85) → va_S A s.heap H locs → lv_has ls 4 [(0, .ref (mA 0)), (2, .int a2)] → W p l e R s m args below meth c H locs 0 0 Q (F0 m 112 ls [.int x83]) := by
        intro x83 sM84 sN85 hf H locs ls hP hD hS hl
        unfold f_Model_readItem_J112 at hf
        refine lv_istore_n (lv' := [(3, .int x83), (0, .ref (mA 0)), (2, .int a2)]) hx hb d_Model_readItem_112 rfl hl (by decide) rfl (fun ls hl => ?_)
        refine lv_iload_n hx hb d_Model_readItem_113 rfl (lv_at hl 0 rfl) ?_
        have J140 : ∀ (sM86 : PW) (sN87 : PL), f_Model_readItem_J140 x83 sM86 sN87 = some (rr, tM, tN) → ∀ (H : Heap) (locs : List Loc) (ls : Array Slot), va_P D vwCl (L_m ty mA sM86 sN87) H → va_D A (L_m ty mA sM86 sN87) → va_S A s.heap H locs → lv_has ls 4 [(0, .ref (mA 0)), (3, .int x83)] → W p l e R s m args below meth c H locs 0 0 Q (F0 m 140 ls []) := by
          intro sM86 sN87 hf H locs ls hP hD hS hl
          unfold f_Model_readItem_J140 at hf
          refine lv_iload_n hx hb d_Model_readItem_140 rfl (lv_at hl 1 rfl) ?_
          refine lv_if_eq (tgt := 155) hx hb d_Model_readItem_141 (by decide) (fun c88 => ?_) (fun c88 => ?_)
          · replace hf := iteT c88 hf
            refine lv_iconst (v := (0 : Int32)) hx hb d_Model_readItem_155 (by decide) ?_
            obtain ⟨rfl, rfl, rfl⟩ := sj3 hf
            exact retM C0 rfl hQ hP hD hS d_Model_readItem_156
          · replace hf := iteF c88 hf
            refine lv_aload_n hx hb d_Model_readItem_144 rfl (lv_at hl 0 rfl) ?_
            obtain ⟨x89, sM90, sN91, h92, hf⟩ := bd3E hf
            refine vM (Lc := (L_m ty mA sM86 sN87)) (Lc' := (L_m ty mA sM90 sN91)) (L' := (L_m ty mA sM90 sN91)) (q0 := 0) (ci := 11) (rest := []) C0 (c_Model_ends l D ty mA H.size sM86 sN87 x89 sM90 sN91 h92) k_919 cal_Model_ends hK hP hD hS hAq [0, 1, 2, 3, 4, 5, 6, 7, 8, 9, 10, 11] [] [0, 1, 2, 3, 4, 5, 6, 7, 8, 9, 10, 11] [] rfl rfl (by decide) (by decide) (by decide) (by decide) rfl rfl rfl rfl ⟨by rw [hR]; decide, by rw [hR]; decide⟩ rfl rfl rfl hl.1 rfl (Nat.le_of_ble_eq_true rfl) d_Model_readItem_145 ⟨by rw [hR]; decide, by rw [hR]; decide⟩ rfl (fun H locs hP hD hS => ?_)
            refine lv_if_eq (tgt := 155) hx hb d_Model_readItem_148 (by decide) (fun c93 => ?_) (fun c93 => ?_)
            · replace hf := iteT c93 hf
              refine lv_iconst (v := (0 : Int32)) hx hb d_Model_readItem_155 (by decide) ?_
              obtain ⟨rfl, rfl, rfl⟩ := sj3 hf
              exact retM C0 rfl hQ hP hD hS d_Model_readItem_156
            · replace hf := iteF c93 hf
              refine lv_iconst (v := (1 : Int32)) hx hb d_Model_readItem_151 (by decide) ?_
              refine lv_goto (tgt := 156) hx hb d_Model_readItem_152 (by decide) ?_
              obtain ⟨rfl, rfl, rfl⟩ := sj3 hf
              exact retM C0 rfl hQ hP hD hS d_Model_readItem_156
        refine lv_if_eq (tgt := 140) hx hb d_Model_readItem_114 (by decide) (fun c94 => ?_) (fun c94 => ?_)
        · replace hf := iteT c94 hf
          exact J140 sM84 sN85 hf _ _ ls hP hD hS (lv_sub hl [1, 0] rfl)
        · replace hf := iteF c94 hf
          refine lv_iload_n hx hb d_Model_readItem_117 rfl (lv_at hl 2 rfl) ?_
          refine lv_if_eq (tgt := 140) hx hb d_Model_readItem_118 (by decide) (fun c95 => ?_) (fun c95 => ?_)
          · replace hf := iteT c95 hf
            exact J140 sM84 sN85 hf _ _ ls hP hD hS (lv_sub hl [1, 0] rfl)
          · replace hf := iteF c95 hf
            refine lv_aload_n hx hb d_Model_readItem_121 rfl (lv_at hl 1 rfl) ?_
            refine va_get (D := D) (ci := 11) (v := .ref (mA 1)) (C := "BedFrontierModel") (T := T_Model) (N := 22) hx hb htt i_Model hown hK.1 hP 0 rfl rfl 0 (by decide) (htt _ k_772) (fun _ h9 => h9) rfl d_Model_readItem_122 ?_
            refine lv_iconst (v := (5 : Int32)) hx hb d_Model_readItem_125 (by decide) ?_
            refine lv_aload_n hx hb d_Model_readItem_126 rfl (lv_at hl 1 rfl) ?_
            refine va_get (D := D) (ci := 11) (v := .ref (mA 11)) (C := "BedFrontierModel") (T := T_Model) (N := 22) hx hb htt i_Model hown hK.1 hP 0 rfl rfl 10 (by decide) (htt _ k_782) (fun _ h9 => h9) rfl d_Model_readItem_127 ?_
            refine lv_iconst (v := (0 : Int32)) hx hb d_Model_readItem_130 (by decide) ?_
            refine ld_iald (j := 0) hx hb hK.1 hP 4 0 rfl rfl (okI_in (by decide)) rfl d_Model_readItem_131 ?_
            refine lv_iadd hx hb d_Model_readItem_132 ?_
            refine lv_aload_n hx hb d_Model_readItem_133 rfl (lv_at hl 1 rfl) ?_
            refine va_get (D := D) (ci := 11) (v := .ref (mA 11)) (C := "BedFrontierModel") (T := T_Model) (N := 22) hx hb htt i_Model hown hK.1 hP 0 rfl rfl 10 (by decide) (htt _ k_782) (fun _ h9 => h9) rfl d_Model_readItem_134 ?_
            refine lv_iconst (v := (1 : Int32)) hx hb d_Model_readItem_137 (by decide) ?_
            refine ld_iald (j := 1) hx hb hK.1 hP 4 0 rfl rfl (okI_in (by decide)) rfl d_Model_readItem_138 ?_
            obtain ⟨g96, hf⟩ := gdE hf
            refine va_iast hx hb hK.1 hP hD hS 1 0 rfl rfl (okI_in g96) d_Model_readItem_139 (fun H locs hP hD hS => ?_)
            obtain ⟨sM97, e_sM97⟩ : ∃ z : PW, z = up sM84 0 (upd (sM84 0) ((((5 : Int32) + (sM84 10 0))).toNatClampNeg) (sM84 10 1)) := ⟨_, rfl⟩
            replace hf := nmE hf e_sM97
            have hP : va_P D vwCl (L_m ty mA sM97 sN85) H := by rw [e_sM97]; exact hP
            have hD : va_D A (L_m ty mA sM97 sN85) := by rw [e_sM97]; exact hD
            exact J140 sM97 sN85 hf _ _ ls hP hD hS (lv_sub hl [1, 0] rfl)
      have J111 : ∀ (sM98 : PW) (sN99 : PL), f_Model_readItem_J111 a2 sM98 sN99 = some (rr, tM, tN) → ∀ (H : Heap) (locs : List Loc) (ls : Array Slot), va_P D vwCl (L_m ty mA sM98 sN99) H → va_D A (L_m ty mA sM98 sN99) → va_S A s.heap H locs → lv_has ls 4 [(0, .ref (mA 0)), (2, .int a2)] → W p l e R s m args below meth c H locs 0 0 Q (F0 m 111 ls []) := by
        intro sM98 sN99 hf H locs ls hP hD hS hl
        unfold f_Model_readItem_J111 at hf
        refine lv_iconst (v := (0 : Int32)) hx hb d_Model_readItem_111 (by decide) ?_
        exact J112 (0 : Int32) sM98 sN99 hf _ _ ls hP hD hS (hl)
      refine lv_if_eq (tgt := 111) hx hb d_Model_readItem_94 (by decide) (fun c100 => ?_) (fun c100 => ?_)
      · replace hf := iteT c100 hf
        exact J111 sM80 sN81 hf _ _ ls hP hD hS (lv_sub hl [0, 2] rfl)
      · replace hf := iteF c100 hf
        refine lv_aload_n hx hb d_Model_readItem_97 rfl (lv_at hl 0 rfl) ?_
        refine lv_iconst (v := (1 : Int32)) hx hb d_Model_readItem_98 (by decide) ?_
        refine lv_bipush (v := (9 : Int32)) hx hb d_Model_readItem_99 (by decide) ?_
        obtain ⟨x101, sM102, sN103, h104, hf⟩ := bd3E hf
        refine vM (Lc := (L_m ty mA sM80 sN81)) (Lc' := (L_m ty mA sM102 sN103)) (L' := (L_m ty mA sM102 sN103)) (q0 := 0) (ci := 11) (rest := []) C0 (c_Model_reads l D ty mA H.size sM80 sN81 (1 : Int32) (9 : Int32) x101 sM102 sN103 h104) k_915 cal_Model_reads hK hP hD hS hAq [0, 1, 2, 3, 4, 5, 6, 7, 8, 9, 10, 11] [] [0, 1, 2, 3, 4, 5, 6, 7, 8, 9, 10, 11] [] rfl rfl (by decide) (by decide) (by decide) (by decide) rfl rfl rfl rfl ⟨by rw [hR]; decide, by rw [hR]; decide⟩ rfl rfl rfl hl.1 rfl (Nat.le_of_ble_eq_true rfl) d_Model_readItem_101 ⟨by rw [hR]; decide, by rw [hR]; decide⟩ rfl (fun H locs hP hD hS => ?_)
        refine lv_if_eq (tgt := 111) hx hb d_Model_readItem_104 (by decide) (fun c105 => ?_) (fun c105 => ?_)
        · replace hf := iteT c105 hf
          exact J111 sM102 sN103 hf _ _ ls hP hD hS (lv_sub hl [0, 2] rfl)
        · replace hf := iteF c105 hf
          refine lv_iconst (v := (1 : Int32)) hx hb d_Model_readItem_107 (by decide) ?_
          refine lv_goto (tgt := 112) hx hb d_Model_readItem_108 (by decide) ?_
          exact J112 (1 : Int32) sM102 sN103 hf _ _ ls hP hD hS (lv_sub hl [0, 2] rfl)
  · replace hf := iteT c1 hf
    refine lv_aload_n hx hb d_Model_readItem_4 rfl (lv_at hl 0 rfl) ?_
    refine lv_bipush (v := (104 : Int32)) hx hb d_Model_readItem_5 (by decide) ?_
    refine lv_bipush (v := (111 : Int32)) hx hb d_Model_readItem_7 (by decide) ?_
    refine lv_bipush (v := (117 : Int32)) hx hb d_Model_readItem_9 (by decide) ?_
    refine lv_bipush (v := (115 : Int32)) hx hb d_Model_readItem_11 (by decide) ?_
    refine lv_bipush (v := (101 : Int32)) hx hb d_Model_readItem_13 (by decide) ?_
    obtain ⟨x106, h107, hf⟩ := bdE hf
    refine vR (q0 := 0) (ci := 11) (rest := []) C0 (c_Model_isWord l D ty mA sM sN (104 : Int32) (111 : Int32) (117 : Int32) (115 : Int32) (101 : Int32) x106 h107) k_911 cal_Model_isWord hK hP rfl rfl rfl ⟨by rw [hR]; decide, by rw [hR]; decide⟩ rfl rfl rfl hl.1 rfl (Nat.le_of_ble_eq_true rfl) d_Model_readItem_15 ⟨Nat.zero_le _, Nat.zero_le _⟩ rfl ?_
    have J36 : ∀ (x108 : Int32) (sM109 : PW) (sN110 : PL), f_Model_readItem_J36 a2 x108 sM109 sN110 = some (rr, tM, tN) → ∀ (H : Heap) (locs : List Loc) (ls : Array Slot), va_P D vwCl (L_m ty mA sM109 sN110) H → va_D A (L_m ty mA sM109 sN110) → va_S A s.heap H locs → lv_has ls 4 [(0, .ref (mA 0)), (2, .int a2)] → W p l e R s m args below meth c H locs 0 0 Q (F0 m 36 ls [.int x108]) := by
      intro x108 sM109 sN110 hf H locs ls hP hD hS hl
      unfold f_Model_readItem_J36 at hf
      refine lv_istore_n (lv' := [(3, .int x108), (0, .ref (mA 0)), (2, .int a2)]) hx hb d_Model_readItem_36 rfl hl (by decide) rfl (fun ls hl => ?_)
      refine lv_iload_n hx hb d_Model_readItem_37 rfl (lv_at hl 0 rfl) ?_
      have J55 : ∀ (sM111 : PW) (sN112 : PL), f_Model_readItem_J55 x108 sM111 sN112 = some (rr, tM, tN) → ∀ (H : Heap) (locs : List Loc) (ls : Array Slot), va_P D vwCl (L_m ty mA sM111 sN112) H → va_D A (L_m ty mA sM111 sN112) → va_S A s.heap H locs → lv_has ls 4 [(0, .ref (mA 0)), (3, .int x108)] → W p l e R s m args below meth c H locs 0 0 Q (F0 m 55 ls []) := by
        intro sM111 sN112 hf H locs ls hP hD hS hl
        unfold f_Model_readItem_J55 at hf
        refine lv_iload_n hx hb d_Model_readItem_55 rfl (lv_at hl 1 rfl) ?_
        refine lv_if_eq (tgt := 70) hx hb d_Model_readItem_56 (by decide) (fun c113 => ?_) (fun c113 => ?_)
        · replace hf := iteT c113 hf
          refine lv_iconst (v := (0 : Int32)) hx hb d_Model_readItem_70 (by decide) ?_
          obtain ⟨rfl, rfl, rfl⟩ := sj3 hf
          exact retM C0 rfl hQ hP hD hS d_Model_readItem_71
        · replace hf := iteF c113 hf
          refine lv_aload_n hx hb d_Model_readItem_59 rfl (lv_at hl 0 rfl) ?_
          obtain ⟨x114, sM115, sN116, h117, hf⟩ := bd3E hf
          refine vM (Lc := (L_m ty mA sM111 sN112)) (Lc' := (L_m ty mA sM115 sN116)) (L' := (L_m ty mA sM115 sN116)) (q0 := 0) (ci := 11) (rest := []) C0 (c_Model_ends l D ty mA H.size sM111 sN112 x114 sM115 sN116 h117) k_919 cal_Model_ends hK hP hD hS hAq [0, 1, 2, 3, 4, 5, 6, 7, 8, 9, 10, 11] [] [0, 1, 2, 3, 4, 5, 6, 7, 8, 9, 10, 11] [] rfl rfl (by decide) (by decide) (by decide) (by decide) rfl rfl rfl rfl ⟨by rw [hR]; decide, by rw [hR]; decide⟩ rfl rfl rfl hl.1 rfl (Nat.le_of_ble_eq_true rfl) d_Model_readItem_60 ⟨by rw [hR]; decide, by rw [hR]; decide⟩ rfl (fun H locs hP hD hS => ?_)
          refine lv_if_eq (tgt := 70) hx hb d_Model_readItem_63 (by decide) (fun c118 => ?_) (fun c118 => ?_)
          · replace hf := iteT c118 hf
            refine lv_iconst (v := (0 : Int32)) hx hb d_Model_readItem_70 (by decide) ?_
            obtain ⟨rfl, rfl, rfl⟩ := sj3 hf
            exact retM C0 rfl hQ hP hD hS d_Model_readItem_71
          · replace hf := iteF c118 hf
            refine lv_iconst (v := (1 : Int32)) hx hb d_Model_readItem_66 (by decide) ?_
            refine lv_goto (tgt := 71) hx hb d_Model_readItem_67 (by decide) ?_
            obtain ⟨rfl, rfl, rfl⟩ := sj3 hf
            exact retM C0 rfl hQ hP hD hS d_Model_readItem_71
      refine lv_if_eq (tgt := 55) hx hb d_Model_readItem_38 (by decide) (fun c119 => ?_) (fun c119 => ?_)
      · replace hf := iteT c119 hf
        exact J55 sM109 sN110 hf _ _ ls hP hD hS (lv_sub hl [1, 0] rfl)
      · replace hf := iteF c119 hf
        refine lv_iload_n hx hb d_Model_readItem_41 rfl (lv_at hl 2 rfl) ?_
        refine lv_if_eq (tgt := 55) hx hb d_Model_readItem_42 (by decide) (fun c120 => ?_) (fun c120 => ?_)
        · replace hf := iteT c120 hf
          exact J55 sM109 sN110 hf _ _ ls hP hD hS (lv_sub hl [1, 0] rfl)
        · replace hf := iteF c120 hf
          refine lv_aload_n hx hb d_Model_readItem_45 rfl (lv_at hl 1 rfl) ?_
          refine lv_aload_n hx hb d_Model_readItem_46 rfl (lv_at hl 1 rfl) ?_
          refine va_get (D := D) (ci := 11) (v := .ref (mA 11)) (C := "BedFrontierModel") (T := T_Model) (N := 22) hx hb htt i_Model hown hK.1 hP 0 rfl rfl 10 (by decide) (htt _ k_782) (fun _ h9 => h9) rfl d_Model_readItem_47 ?_
          refine lv_iconst (v := (0 : Int32)) hx hb d_Model_readItem_50 (by decide) ?_
          refine ld_iald (j := 0) hx hb hK.1 hP 4 0 rfl rfl (okI_in (by decide)) rfl d_Model_readItem_51 ?_
          obtain ⟨sM121, sN122, h123, hf⟩ := bd2E hf
          refine vM (Lc := (L_m ty mA sM109 sN110)) (Lc' := (L_m ty mA sM121 sN122)) (L' := (L_m ty mA sM121 sN122)) (q0 := 0) (ci := 11) (rest := []) C0 (c_Model_anew l D ty mA H.size sM109 sN110 (sM109 10 0) sM121 sN122 h123) k_768 cal_Model_anew hK hP hD hS hAq [0, 1, 2, 3, 4, 5, 6, 7, 8, 9, 10, 11] [] [0, 1, 2, 3, 4, 5, 6, 7, 8, 9, 10, 11] [] rfl rfl (by decide) (by decide) (by decide) (by decide) rfl rfl rfl rfl ⟨by rw [hR]; decide, by rw [hR]; decide⟩ rfl rfl rfl hl.1 rfl (Nat.le_of_ble_eq_true rfl) d_Model_readItem_52 ⟨by rw [hR]; decide, by rw [hR]; decide⟩ rfl (fun H locs hP hD hS => ?_)
          exact J55 sM121 sN122 hf _ _ ls hP hD hS (lv_sub hl [1, 0] rfl)
    have J35 : ∀ (sM124 : PW) (sN125 : PL), f_Model_readItem_J35 a2 sM124 sN125 = some (rr, tM, tN) → ∀ (H : Heap) (locs : List Loc) (ls : Array Slot), va_P D vwCl (L_m ty mA sM124 sN125) H → va_D A (L_m ty mA sM124 sN125) → va_S A s.heap H locs → lv_has ls 4 [(0, .ref (mA 0)), (2, .int a2)] → W p l e R s m args below meth c H locs 0 0 Q (F0 m 35 ls []) := by
      intro sM124 sN125 hf H locs ls hP hD hS hl
      unfold f_Model_readItem_J35 at hf
      refine lv_iconst (v := (0 : Int32)) hx hb d_Model_readItem_35 (by decide) ?_
      exact J36 (0 : Int32) sM124 sN125 hf _ _ ls hP hD hS (hl)
    refine lv_if_eq (tgt := 35) hx hb d_Model_readItem_18 (by decide) (fun c126 => ?_) (fun c126 => ?_)
    · replace hf := iteT c126 hf
      exact J35 sM sN hf _ _ ls hP hD hS (lv_sub hl [0, 2] rfl)
    · replace hf := iteF c126 hf
      refine lv_aload_n hx hb d_Model_readItem_21 rfl (lv_at hl 0 rfl) ?_
      refine lv_iconst (v := (0 : Int32)) hx hb d_Model_readItem_22 (by decide) ?_
      refine lv_bipush (v := (9 : Int32)) hx hb d_Model_readItem_23 (by decide) ?_
      obtain ⟨x127, sM128, sN129, h130, hf⟩ := bd3E hf
      refine vM (Lc := (L_m ty mA sM sN)) (Lc' := (L_m ty mA sM128 sN129)) (L' := (L_m ty mA sM128 sN129)) (q0 := 0) (ci := 11) (rest := []) C0 (c_Model_reads l D ty mA H.size sM sN (0 : Int32) (9 : Int32) x127 sM128 sN129 h130) k_915 cal_Model_reads hK hP hD hS hAq [0, 1, 2, 3, 4, 5, 6, 7, 8, 9, 10, 11] [] [0, 1, 2, 3, 4, 5, 6, 7, 8, 9, 10, 11] [] rfl rfl (by decide) (by decide) (by decide) (by decide) rfl rfl rfl rfl ⟨by rw [hR]; decide, by rw [hR]; decide⟩ rfl rfl rfl hl.1 rfl (Nat.le_of_ble_eq_true rfl) d_Model_readItem_25 ⟨by rw [hR]; decide, by rw [hR]; decide⟩ rfl (fun H locs hP hD hS => ?_)
      refine lv_if_eq (tgt := 35) hx hb d_Model_readItem_28 (by decide) (fun c131 => ?_) (fun c131 => ?_)
      · replace hf := iteT c131 hf
        exact J35 sM128 sN129 hf _ _ ls hP hD hS (lv_sub hl [0, 2] rfl)
      · replace hf := iteF c131 hf
        refine lv_iconst (v := (1 : Int32)) hx hb d_Model_readItem_31 (by decide) ?_
        refine lv_goto (tgt := 36) hx hb d_Model_readItem_32 (by decide) ?_
        exact J36 (1 : Int32) sM128 sN129 hf _ _ ls hP hD hS (lv_sub hl [0, 2] rfl)
def f_Model_readText_J28 (a1 : Int32) (x6 : Int32) (sM7 : PW) (sN8 : PL) (K16 : Int32 × PW × PL → Option (Int32 × PW × PL)) : Option (Int32 × PW × PL) :=
  bd3 (f_Model_readItem sM7 sN8 x6 a1) (fun x9 sM10 sN11 => (if x9 = 0 then some ((-1 : Int32), sM10, sN11) else nm (x6 + (1 : Int32)) (fun x14 => bd2 (f_Model_nextToken sM10 sN11) (fun sM15 sN16 => K16 (x14, sM15, sN16)))))
def f_Model_readText_L16 (a1 : Int32) (K16 : Int32 × PW × PL → Option (Int32 × PW × PL)) : Int32 × PW × PL → Option (Int32 × PW × PL)
  | (x6, sM7, sN8) =>
  (if x6 = 0 then f_Model_readText_J28 a1 x6 sM7 sN8 K16 else (if (sM7 7 0) = (3 : Int32) then some (x6, sM7, sN8) else f_Model_readText_J28 a1 x6 sM7 sN8 K16))
def f_Model_readText (sM : PW) (sN : PL) (a1 : Int32) : Option (Int32 × PW × PL) :=
  nm (up sM 6 (fun _ => (0 : Int32))) (fun sM1 => nm (up sM1 12 (fun _ => (0 : Int32))) (fun sM2 => bd2 (f_Model_nextToken sM2 sN) (fun sM3 sN4 => loopF (f_Model_readText_L16 a1) 4000 ((0 : Int32), sM3, sN4))))
set_option maxHeartbeats 4000000 in
set_option maxRecDepth 100000 in
theorem c_Model_readText (l : Launch) (D : va_G) (ty : Nat → ClassId) (mA : Nat → Nat) (sz : Nat) (sM : PW) (sN : PL) (a1 : Int32) (rr : Int32) (tM : PW) (tN : PL) (hf : f_Model_readText sM sN a1 = some (rr, tM, tN)) : Met l y_Model_readText (Cond.code y_Model_readText prog_13_method_25_code 3 ((Option.some FieldType.int)) :: lw_ok) { frames := 4, cells := 0, slots := 0, locals := 90 } (PcM D ty [.ref (mA 0), .int a1] sz (L_m ty mA sM sN)) (QM D (L_m ty mA tM tN) (va_A (L_m ty mA sM sN) sz) (some (.int rr))) 0 0 (va_A (L_m ty mA sM sN) sz) := by
  refine hdM (by decide) (Nat.le_of_ble_eq_true rfl) ?_
  intro p e s m below meth c ls R args Q A C0 hR hQ hnm hAq hP hK hD hS hl
  obtain ⟨hx, hb, hr, hlk, hml, hown, htt⟩ := id C0
  have hl : lv_has ls 3 [(0, .ref (mA 0)), (1, .int a1)] := hl
  generalize hH0 : s.heap = H at hP hS ⊢
  have hS : va_S A s.heap H [] := by rw [hH0]; exact hS
  unfold f_Model_readText at hf
  refine lv_aload_n hx hb d_Model_readText_0 rfl (lv_at hl 0 rfl) ?_
  refine lv_iconst (v := (0 : Int32)) hx hb d_Model_readText_1 (by decide) ?_
  refine va_put (D := D) (ci := 11) (v := .int (0 : Int32)) (ty := .int) (C := "BedFrontierModel") (T := T_Model) (N := 22) hx hb htt i_Model t_Model t_Model_ok n_Model hown hK.1 hP hD hS 0 rfl rfl 6 (by decide) (htt _ k_778) (fun _ h9 => h9) rfl pfI rfl rfl (Nat.le_of_ble_eq_true rfl) d_Model_readText_2 (fun H locs hP hD hS => ?_)
  obtain ⟨sM1, e_sM1⟩ : ∃ z : PW, z = up sM 6 (fun _ => (0 : Int32)) := ⟨_, rfl⟩
  replace hf := nmE hf e_sM1
  have hP : va_P D vwCl (L_m ty mA sM1 sN) H := by rw [e_sM1]; exact hP
  have hD : va_D A (L_m ty mA sM1 sN) := by rw [e_sM1]; exact hD
  refine lv_aload_n hx hb d_Model_readText_5 rfl (lv_at hl 0 rfl) ?_
  refine lv_iconst (v := (0 : Int32)) hx hb d_Model_readText_6 (by decide) ?_
  refine va_put (D := D) (ci := 11) (v := .int (0 : Int32)) (ty := .int) (C := "BedFrontierModel") (T := T_Model) (N := 22) hx hb htt i_Model t_Model t_Model_ok n_Model hown hK.1 hP hD hS 0 rfl rfl 12 (by decide) (htt _ k_784) (fun _ h9 => h9) rfl pfI rfl rfl (Nat.le_of_ble_eq_true rfl) d_Model_readText_7 (fun H locs hP hD hS => ?_)
  obtain ⟨sM2, e_sM2⟩ : ∃ z : PW, z = up sM1 12 (fun _ => (0 : Int32)) := ⟨_, rfl⟩
  replace hf := nmE hf e_sM2
  have hP : va_P D vwCl (L_m ty mA sM2 sN) H := by rw [e_sM2]; exact hP
  have hD : va_D A (L_m ty mA sM2 sN) := by rw [e_sM2]; exact hD
  refine lv_iconst (v := (0 : Int32)) hx hb d_Model_readText_10 (by decide) ?_
  refine lv_istore_n (lv' := [(2, .int (0 : Int32)), (0, .ref (mA 0)), (1, .int a1)]) hx hb d_Model_readText_11 rfl hl (by decide) rfl (fun ls hl => ?_)
  refine lv_aload_n hx hb d_Model_readText_12 rfl (lv_at hl 1 rfl) ?_
  obtain ⟨sM3, sN4, h5, hf⟩ := bd2E hf
  refine vM (Lc := (L_m ty mA sM2 sN)) (Lc' := (L_m ty mA sM3 sN4)) (L' := (L_m ty mA sM3 sN4)) (q0 := 0) (ci := 11) (rest := []) C0 (c_Model_nextToken l D ty mA H.size sM2 sN sM3 sN4 h5) k_895 cal_Model_nextToken hK hP hD hS hAq [0, 1, 2, 3, 4, 5, 6, 7, 8, 9, 10, 11] [] [0, 1, 2, 3, 4, 5, 6, 7, 8, 9, 10, 11] [] rfl rfl (by decide) (by decide) (by decide) (by decide) rfl rfl rfl rfl ⟨by rw [hR]; decide, by rw [hR]; decide⟩ rfl rfl rfl hl.1 rfl (Nat.le_of_ble_eq_true rfl) d_Model_readText_13 ⟨by rw [hR]; decide, by rw [hR]; decide⟩ rfl (fun H locs hP hD hS => ?_)
  have B16 : ∀ (n : Nat) (x : Int32 × PW × PL), loopF (f_Model_readText_L16 a1) n x = some (rr, tM, tN) → ∀ (H : Heap) (locs : List Loc) (ls : Array Slot), va_P D vwCl (L_m ty mA (x.2.1) (x.2.2)) H → va_D A (L_m ty mA (x.2.1) (x.2.2)) → va_S A s.heap H locs → lv_has ls 3 [(0, .ref (mA 0)), (1, .int a1), (2, .int (x.1))] → W p l e R s m args below meth c H locs 0 0 Q (F0 m 16 ls []) := by
    refine loopW (fun (x : Int32 × PW × PL) => ∀ (H : Heap) (locs : List Loc) (ls : Array Slot), va_P D vwCl (L_m ty mA (x.2.1) (x.2.2)) H → va_D A (L_m ty mA (x.2.1) (x.2.2)) → va_S A s.heap H locs → lv_has ls 3 [(0, .ref (mA 0)), (1, .int a1), (2, .int (x.1))] → W p l e R s m args below meth c H locs 0 0 Q (F0 m 16 ls [])) ?_
    intro K16 hK16 x hf
    obtain ⟨x6, sM7, sN8⟩ := x
    rw [f_Model_readText_L16] at hf
    intro H locs ls hP hD hS hl
    have hl : lv_has ls 3 [(0, .ref (mA 0)), (1, .int a1), (2, .int x6)] := hl
    have hP : va_P D vwCl (L_m ty mA sM7 sN8) H := hP
    have hD : va_D A (L_m ty mA sM7 sN8) := hD
    show W p l e R s m args below meth c H locs 0 0 Q (F0 m 16 ls [])
    refine lv_iload_n hx hb d_Model_readText_16 rfl (lv_at hl 2 rfl) ?_
    have J28 : ∀ (_ : Unit), f_Model_readText_J28 a1 x6 sM7 sN8 K16 = some (rr, tM, tN) → ∀ (H : Heap) (locs : List Loc) (ls : Array Slot), va_P D vwCl (L_m ty mA sM7 sN8) H → va_D A (L_m ty mA sM7 sN8) → va_S A s.heap H locs → lv_has ls 3 [(0, .ref (mA 0)), (1, .int a1), (2, .int x6)] → W p l e R s m args below meth c H locs 0 0 Q (F0 m 28 ls []) := by
      intro _ hf H locs ls hP hD hS hl
      unfold f_Model_readText_J28 at hf
      refine lv_aload_n hx hb d_Model_readText_28 rfl (lv_at hl 0 rfl) ?_
      refine lv_iload_n hx hb d_Model_readText_29 rfl (lv_at hl 2 rfl) ?_
      refine lv_iload_n hx hb d_Model_readText_30 rfl (lv_at hl 1 rfl) ?_
      obtain ⟨x9, sM10, sN11, h12, hf⟩ := bd3E hf
      refine vM (Lc := (L_m ty mA sM7 sN8)) (Lc' := (L_m ty mA sM10 sN11)) (L' := (L_m ty mA sM10 sN11)) (q0 := 0) (ci := 11) (rest := []) C0 (c_Model_readItem l D ty mA H.size sM7 sN8 x6 a1 x9 sM10 sN11 h12) k_907 cal_Model_readItem hK hP hD hS hAq [0, 1, 2, 3, 4, 5, 6, 7, 8, 9, 10, 11] [] [0, 1, 2, 3, 4, 5, 6, 7, 8, 9, 10, 11] [] rfl rfl (by decide) (by decide) (by decide) (by decide) rfl rfl rfl rfl ⟨by rw [hR]; decide, by rw [hR]; decide⟩ rfl rfl rfl hl.1 rfl (Nat.le_of_ble_eq_true rfl) d_Model_readText_31 ⟨by rw [hR]; decide, by rw [hR]; decide⟩ rfl (fun H locs hP hD hS => ?_)
      refine lv_if_ne (tgt := 39) hx hb d_Model_readText_34 (by decide) (fun c13 => ?_) (fun c13 => ?_)
      · replace hf := iteF c13 hf
        obtain ⟨x14, e_x14⟩ : ∃ z : Int32, z = (x6 + (1 : Int32)) := ⟨_, rfl⟩
        replace hf := nmE hf e_x14
        refine lv_iinc (v := x14) (lv' := [(2, .int x14), (0, .ref (mA 0)), (1, .int a1)]) hx hb d_Model_readText_39 hl (k := 2) rfl (by rw [e_x14]; rfl) (by decide) rfl (fun ls hl => ?_)
        refine lv_aload_n hx hb d_Model_readText_42 rfl (lv_at hl 1 rfl) ?_
        obtain ⟨sM15, sN16, h17, hf⟩ := bd2E hf
        refine vM (Lc := (L_m ty mA sM10 sN11)) (Lc' := (L_m ty mA sM15 sN16)) (L' := (L_m ty mA sM15 sN16)) (q0 := 0) (ci := 11) (rest := []) C0 (c_Model_nextToken l D ty mA H.size sM10 sN11 sM15 sN16 h17) k_895 cal_Model_nextToken hK hP hD hS hAq [0, 1, 2, 3, 4, 5, 6, 7, 8, 9, 10, 11] [] [0, 1, 2, 3, 4, 5, 6, 7, 8, 9, 10, 11] [] rfl rfl (by decide) (by decide) (by decide) (by decide) rfl rfl rfl rfl ⟨by rw [hR]; decide, by rw [hR]; decide⟩ rfl rfl rfl hl.1 rfl (Nat.le_of_ble_eq_true rfl) d_Model_readText_43 ⟨by rw [hR]; decide, by rw [hR]; decide⟩ rfl (fun H locs hP hD hS => ?_)
        refine lv_goto (tgt := 16) hx hb d_Model_readText_46 (by decide) ?_
        exact hK16 (x14, sM15, sN16) hf _ _ ls hP hD hS (lv_sub hl [1, 2, 0] rfl)
      · replace hf := iteT c13 hf
        refine lv_iconst (v := (-1 : Int32)) hx hb d_Model_readText_37 (by decide) ?_
        obtain ⟨rfl, rfl, rfl⟩ := sj3 hf
        exact retM C0 (narI _) hQ hP hD hS d_Model_readText_38
    refine lv_if_eq (tgt := 28) hx hb d_Model_readText_17 (by decide) (fun c18 => ?_) (fun c18 => ?_)
    · replace hf := iteT c18 hf
      exact J28 () hf _ _ ls hP hD hS (hl)
    · replace hf := iteF c18 hf
      refine lv_aload_n hx hb d_Model_readText_20 rfl (lv_at hl 0 rfl) ?_
      refine va_get (D := D) (ci := 11) (v := .int (sM7 7 0)) (C := "BedFrontierModel") (T := T_Model) (N := 22) hx hb htt i_Model hown hK.1 hP 0 rfl rfl 7 (by decide) (htt _ k_779) (fun _ h9 => h9) rfl d_Model_readText_21 ?_
      refine lv_iconst (v := (3 : Int32)) hx hb d_Model_readText_24 (by decide) ?_
      refine lv_icmp_eq (tgt := 49) hx hb d_Model_readText_25 (by decide) (fun c19 => ?_) (fun c19 => ?_)
      · replace hf := iteT c19 hf
        refine lv_iload_n hx hb d_Model_readText_49 rfl (lv_at hl 2 rfl) ?_
        obtain ⟨rfl, rfl, rfl⟩ := sj3 hf
        exact retM C0 (narI _) hQ hP hD hS d_Model_readText_50
      · replace hf := iteF c19 hf
        exact J28 () hf _ _ ls hP hD hS (hl)
  exact B16 4000 ((0 : Int32), sM3, sN4) hf _ _ ls hP hD hS (lv_sub hl [1, 2, 0] rfl)
def f_Model_read (sM : PW) (sN : PL) : Option (Int32 × PW × PL) :=
  bd3 (f_Model_readText sM sN (0 : Int32)) (fun x1 sM2 sN3 => (if 0 ≤ x1 then bd3 (f_Model_readText sM2 sN3 (1 : Int32)) (fun x6 sM7 sN8 => some (x6, sM7, sN8)) else some (((-10 : Int32) - (sM2 9 0)), sM2, sN3)))
set_option maxHeartbeats 4000000 in
set_option maxRecDepth 100000 in
theorem c_Model_read (l : Launch) (D : va_G) (ty : Nat → ClassId) (mA : Nat → Nat) (sz : Nat) (sM : PW) (sN : PL) (rr : Int32) (tM : PW) (tN : PL) (hf : f_Model_read sM sN = some (rr, tM, tN)) : Met l y_Model_read (Cond.code y_Model_read prog_13_method_26_code 1 ((Option.some FieldType.int)) :: lw_ok) { frames := 5, cells := 0, slots := 0, locals := 112 } (PcM D ty [.ref (mA 0)] sz (L_m ty mA sM sN)) (QM D (L_m ty mA tM tN) (va_A (L_m ty mA sM sN) sz) (some (.int rr))) 0 0 (va_A (L_m ty mA sM sN) sz) := by
  refine hdM (by decide) (Nat.le_of_ble_eq_true rfl) ?_
  intro p e s m below meth c ls R args Q A C0 hR hQ hnm hAq hP hK hD hS hl
  obtain ⟨hx, hb, hr, hlk, hml, hown, htt⟩ := id C0
  have hl : lv_has ls 1 [(0, .ref (mA 0))] := hl
  generalize hH0 : s.heap = H at hP hS ⊢
  have hS : va_S A s.heap H [] := by rw [hH0]; exact hS
  unfold f_Model_read at hf
  refine lv_aload_n hx hb d_Model_read_0 rfl (lv_at hl 0 rfl) ?_
  refine lv_iconst (v := (0 : Int32)) hx hb d_Model_read_1 (by decide) ?_
  obtain ⟨x1, sM2, sN3, h4, hf⟩ := bd3E hf
  refine vM (Lc := (L_m ty mA sM sN)) (Lc' := (L_m ty mA sM2 sN3)) (L' := (L_m ty mA sM2 sN3)) (q0 := 0) (ci := 11) (rest := []) C0 (c_Model_readText l D ty mA H.size sM sN (0 : Int32) x1 sM2 sN3 h4) k_891 cal_Model_readText hK hP hD hS hAq [0, 1, 2, 3, 4, 5, 6, 7, 8, 9, 10, 11] [] [0, 1, 2, 3, 4, 5, 6, 7, 8, 9, 10, 11] [] rfl rfl (by decide) (by decide) (by decide) (by decide) rfl rfl rfl rfl ⟨by rw [hR]; decide, by rw [hR]; decide⟩ rfl rfl rfl hl.1 rfl (Nat.le_of_ble_eq_true rfl) d_Model_read_2 ⟨by rw [hR]; decide, by rw [hR]; decide⟩ rfl (fun H locs hP hD hS => ?_)
  refine lv_if_ge (tgt := 16) hx hb d_Model_read_5 (by decide) (fun c5 => ?_) (fun c5 => ?_)
  · replace hf := iteT c5 hf
    refine lv_aload_n hx hb d_Model_read_16 rfl (lv_at hl 0 rfl) ?_
    refine lv_iconst (v := (1 : Int32)) hx hb d_Model_read_17 (by decide) ?_
    obtain ⟨x6, sM7, sN8, h9, hf⟩ := bd3E hf
    refine vM (Lc := (L_m ty mA sM2 sN3)) (Lc' := (L_m ty mA sM7 sN8)) (L' := (L_m ty mA sM7 sN8)) (q0 := 0) (ci := 11) (rest := []) C0 (c_Model_readText l D ty mA H.size sM2 sN3 (1 : Int32) x6 sM7 sN8 h9) k_891 cal_Model_readText hK hP hD hS hAq [0, 1, 2, 3, 4, 5, 6, 7, 8, 9, 10, 11] [] [0, 1, 2, 3, 4, 5, 6, 7, 8, 9, 10, 11] [] rfl rfl (by decide) (by decide) (by decide) (by decide) rfl rfl rfl rfl ⟨by rw [hR]; decide, by rw [hR]; decide⟩ rfl rfl rfl hl.1 rfl (Nat.le_of_ble_eq_true rfl) d_Model_read_18 ⟨by rw [hR]; decide, by rw [hR]; decide⟩ rfl (fun H locs hP hD hS => ?_)
    obtain ⟨rfl, rfl, rfl⟩ := sj3 hf
    exact retM C0 (narI _) hQ hP hD hS d_Model_read_21
  · replace hf := iteF c5 hf
    refine lv_bipush (v := (-10 : Int32)) hx hb d_Model_read_8 (by decide) ?_
    refine lv_aload_n hx hb d_Model_read_10 rfl (lv_at hl 0 rfl) ?_
    refine va_get (D := D) (ci := 11) (v := .int (sM2 9 0)) (C := "BedFrontierModel") (T := T_Model) (N := 22) hx hb htt i_Model hown hK.1 hP 0 rfl rfl 9 (by decide) (htt _ k_781) (fun _ h9 => h9) rfl d_Model_read_11 ?_
    refine lv_isub hx hb d_Model_read_14 ?_
    obtain ⟨rfl, rfl, rfl⟩ := sj3 hf
    exact retM C0 (narI _) hQ hP hD hS d_Model_read_15
def f_Model_clockOf (a1 : Int32) (a2 : Int32) : Option (Int32) :=
  some ((a2 + a1) - (a2 + a1) / (24 : Int32) * (24 : Int32))
set_option maxHeartbeats 4000000 in
set_option maxRecDepth 100000 in
theorem c_Model_clockOf (l : Launch) (D : va_G) (ty : Nat → ClassId) (a1 : Int32) (a2 : Int32) (rr : Int32) (hf : f_Model_clockOf a1 a2 = some rr) : Met l y_Model_clockOf (Cond.code y_Model_clockOf prog_13_method_27_code 2 ((Option.some FieldType.int)) :: lw_ok) { frames := 0, cells := 0, slots := 0, locals := 0 } (PcR D ty [.int a1, .int a2] ([] : va_W)) (QR (some (.int rr))) 0 0 (fun _ => False) := by
  refine hdR (by decide) (Nat.le_of_ble_eq_true rfl) ?_
  intro p e s m below meth c ls R args Q C0 hR hQ hP hK hl
  obtain ⟨hx, hb, hr, hlk, hml, hown, htt⟩ := id C0
  have hl : lv_has ls 2 [(0, .int a1), (1, .int a2)] := hl
  unfold f_Model_clockOf at hf
  refine lv_iload_n hx hb d_Model_clockOf_0 rfl (lv_at hl 1 rfl) ?_
  refine lv_iload_n hx hb d_Model_clockOf_1 rfl (lv_at hl 0 rfl) ?_
  refine lv_iadd hx hb d_Model_clockOf_2 ?_
  refine lv_bipush (v := (24 : Int32)) hx hb d_Model_clockOf_3 (by decide) ?_
  refine lv_irem hx hb d_Model_clockOf_5 (by decide) ?_
  obtain rfl := sj1 hf
  exact retR C0 (narI _) hQ d_Model_clockOf_6
def f_Model_dueBy_J37 (a1 : Int32) (a3 : Int32) (a5 : Int32) (x2 : Int32) (x3 : Int32) : Option (Int32) :=
  (if a1 = (1 : Int32) then some (0 : Int32) else (if a1 = (2 : Int32) then (if a5 = (1 : Int32) then some ((2 : Int32) * x2) else some x2) else (if a1 = (3 : Int32) then some x3 else (if a1 = (4 : Int32) then some (0 : Int32) else (if a1 = (5 : Int32) then (if a3 = (1 : Int32) then (if x3 ≤ 0 then some x3 else some (x3 - (1 : Int32))) else some x3) else some x2)))))
def f_Model_dueBy_J28 (a1 : Int32) (a3 : Int32) (a5 : Int32) (x2 : Int32) : Option (Int32) :=
  f_Model_dueBy_J37 a1 a3 a5 x2 (x2 + (2 : Int32))
def f_Model_dueBy (sM : PW) (sN : PL) (a1 : Int32) (a2 : Int32) (a3 : Int32) (a4 : Int32) (a5 : Int32) : Option (Int32) :=
  gd (okI ((5 : Int32) + a3) 53) (nm ((sM 0 (((5 : Int32) + a3)).toNatClampNeg) + (a2 / (5 : Int32))) (fun x2 => (if (22 : Int32) ≤ a4 then f_Model_dueBy_J28 a1 a3 a5 x2 else (if (6 : Int32) ≤ a4 then f_Model_dueBy_J37 a1 a3 a5 x2 x2 else f_Model_dueBy_J28 a1 a3 a5 x2))))
set_option maxHeartbeats 4000000 in
set_option maxRecDepth 100000 in
theorem c_Model_dueBy (l : Launch) (D : va_G) (ty : Nat → ClassId) (mA : Nat → Nat) (sM : PW) (sN : PL) (a1 : Int32) (a2 : Int32) (a3 : Int32) (a4 : Int32) (a5 : Int32) (rr : Int32) (hf : f_Model_dueBy sM sN a1 a2 a3 a4 a5 = some rr) : Met l y_Model_dueBy (Cond.code y_Model_dueBy prog_13_method_28_code 8 ((Option.some FieldType.int)) :: lw_ok) { frames := 0, cells := 0, slots := 0, locals := 0 } (PcR D ty [.ref (mA 0), .int a1, .int a2, .int a3, .int a4, .int a5] (L_m ty mA sM sN)) (QR (some (.int rr))) 0 0 (fun _ => False) := by
  refine hdR (by decide) (Nat.le_of_ble_eq_true rfl) ?_
  intro p e s m below meth c ls R args Q C0 hR hQ hP hK hl
  obtain ⟨hx, hb, hr, hlk, hml, hown, htt⟩ := id C0
  have hl : lv_has ls 8 [(0, .ref (mA 0)), (1, .int a1), (2, .int a2), (3, .int a3), (4, .int a4), (5, .int a5)] := hl
  unfold f_Model_dueBy at hf
  refine lv_aload_n hx hb d_Model_dueBy_0 rfl (lv_at hl 0 rfl) ?_
  refine va_get (D := D) (ci := 11) (v := .ref (mA 1)) (C := "BedFrontierModel") (T := T_Model) (N := 22) hx hb htt i_Model hown hK.1 hP 0 rfl rfl 0 (by decide) (htt _ k_772) (fun _ h9 => h9) rfl d_Model_dueBy_1 ?_
  refine lv_iconst (v := (5 : Int32)) hx hb d_Model_dueBy_4 (by decide) ?_
  refine lv_iload_n hx hb d_Model_dueBy_5 rfl (lv_at hl 3 rfl) ?_
  refine lv_iadd hx hb d_Model_dueBy_6 ?_
  obtain ⟨g1, hf⟩ := gdE hf
  refine va_iald hx hb hK.1 hP 1 0 rfl rfl (okI_in g1) d_Model_dueBy_7 ?_
  refine lv_iload_n hx hb d_Model_dueBy_8 rfl (lv_at hl 2 rfl) ?_
  refine lv_iconst (v := (5 : Int32)) hx hb d_Model_dueBy_9 (by decide) ?_
  refine lv_idiv hx hb d_Model_dueBy_10 (by decide) ?_
  refine lv_iadd hx hb d_Model_dueBy_11 ?_
  refine lv_topi (fun x2 e_x2 => ?_)
  replace hf := nmE hf e_x2
  refine lv_istore (lv' := [(6, .int x2), (0, .ref (mA 0)), (1, .int a1), (2, .int a2), (3, .int a3), (4, .int a4), (5, .int a5)]) hx hb d_Model_dueBy_12 hl (by decide) rfl (fun ls hl => ?_)
  refine lv_iload hx hb d_Model_dueBy_14 (lv_at hl 5 rfl) ?_
  refine lv_bipush (v := (22 : Int32)) hx hb d_Model_dueBy_16 (by decide) ?_
  have J37 : ∀ (x3 : Int32), f_Model_dueBy_J37 a1 a3 a5 x2 x3 = some rr → ∀ ls : Array Slot, lv_has ls 8 [(1, .int a1), (3, .int a3), (5, .int a5), (6, .int x2)] → W p l e R s m args below meth c s.heap [] 0 0 Q (F0 m 37 ls [.int x3]) := by
    intro x3 hf ls hl
    unfold f_Model_dueBy_J37 at hf
    refine lv_istore (lv' := [(7, .int x3), (1, .int a1), (3, .int a3), (5, .int a5), (6, .int x2)]) hx hb d_Model_dueBy_37 hl (by decide) rfl (fun ls hl => ?_)
    refine lv_iload_n hx hb d_Model_dueBy_39 rfl (lv_at hl 1 rfl) ?_
    by_cases c4 : a1 = (1 : Int32)
    · replace hf := iteT c4 hf
      refine lv_tableIn (off := 36) (tgt := 76) hx hb d_Model_dueBy_40 (by rw [c4]; decide) (by rw [c4]; decide) (by rw [c4]; rfl) (by decide) ?_
      refine lv_iconst (v := (0 : Int32)) hx hb d_Model_dueBy_76 (by decide) ?_
      obtain rfl := sj1 hf
      exact retR C0 (narI _) hQ d_Model_dueBy_77
    replace hf := iteF c4 hf
    by_cases c5 : a1 = (2 : Int32)
    · replace hf := iteT c5 hf
      refine lv_tableIn (off := 38) (tgt := 78) hx hb d_Model_dueBy_40 (by rw [c5]; decide) (by rw [c5]; decide) (by rw [c5]; rfl) (by decide) ?_
      refine lv_iload hx hb d_Model_dueBy_78 (lv_at hl 3 rfl) ?_
      refine lv_iconst (v := (1 : Int32)) hx hb d_Model_dueBy_80 (by decide) ?_
      refine lv_icmp_ne (tgt := 91) hx hb d_Model_dueBy_81 (by decide) (fun c6 => ?_) (fun c6 => ?_)
      · replace hf := iteF c6 hf
        refine lv_iload hx hb d_Model_dueBy_91 (lv_at hl 4 rfl) ?_
        obtain rfl := sj1 hf
        exact retR C0 (narI _) hQ d_Model_dueBy_93
      · replace hf := iteT c6 hf
        refine lv_iconst (v := (2 : Int32)) hx hb d_Model_dueBy_84 (by decide) ?_
        refine lv_iload hx hb d_Model_dueBy_85 (lv_at hl 4 rfl) ?_
        refine lv_imul hx hb d_Model_dueBy_87 ?_
        refine lv_goto (tgt := 93) hx hb d_Model_dueBy_88 (by decide) ?_
        obtain rfl := sj1 hf
        exact retR C0 (narI _) hQ d_Model_dueBy_93
    replace hf := iteF c5 hf
    by_cases c7 : a1 = (3 : Int32)
    · replace hf := iteT c7 hf
      refine lv_tableIn (off := 54) (tgt := 94) hx hb d_Model_dueBy_40 (by rw [c7]; decide) (by rw [c7]; decide) (by rw [c7]; rfl) (by decide) ?_
      refine lv_iload hx hb d_Model_dueBy_94 (lv_at hl 0 rfl) ?_
      obtain rfl := sj1 hf
      exact retR C0 (narI _) hQ d_Model_dueBy_96
    replace hf := iteF c7 hf
    by_cases c8 : a1 = (4 : Int32)
    · replace hf := iteT c8 hf
      refine lv_tableIn (off := 36) (tgt := 76) hx hb d_Model_dueBy_40 (by rw [c8]; decide) (by rw [c8]; decide) (by rw [c8]; rfl) (by decide) ?_
      refine lv_iconst (v := (0 : Int32)) hx hb d_Model_dueBy_76 (by decide) ?_
      obtain rfl := sj1 hf
      exact retR C0 (narI _) hQ d_Model_dueBy_77
    replace hf := iteF c8 hf
    by_cases c9 : a1 = (5 : Int32)
    · replace hf := iteT c9 hf
      refine lv_tableIn (off := 57) (tgt := 97) hx hb d_Model_dueBy_40 (by rw [c9]; decide) (by rw [c9]; decide) (by rw [c9]; rfl) (by decide) ?_
      refine lv_iload_n hx hb d_Model_dueBy_97 rfl (lv_at hl 2 rfl) ?_
      refine lv_iconst (v := (1 : Int32)) hx hb d_Model_dueBy_98 (by decide) ?_
      refine lv_icmp_ne (tgt := 114) hx hb d_Model_dueBy_99 (by decide) (fun c10 => ?_) (fun c10 => ?_)
      · replace hf := iteF c10 hf
        refine lv_iload hx hb d_Model_dueBy_114 (lv_at hl 0 rfl) ?_
        obtain rfl := sj1 hf
        exact retR C0 (narI _) hQ d_Model_dueBy_116
      · replace hf := iteT c10 hf
        refine lv_iload hx hb d_Model_dueBy_102 (lv_at hl 0 rfl) ?_
        refine lv_if_le (tgt := 114) hx hb d_Model_dueBy_104 (by decide) (fun c11 => ?_) (fun c11 => ?_)
        · replace hf := iteT c11 hf
          refine lv_iload hx hb d_Model_dueBy_114 (lv_at hl 0 rfl) ?_
          obtain rfl := sj1 hf
          exact retR C0 (narI _) hQ d_Model_dueBy_116
        · replace hf := iteF c11 hf
          refine lv_iload hx hb d_Model_dueBy_107 (lv_at hl 0 rfl) ?_
          refine lv_iconst (v := (1 : Int32)) hx hb d_Model_dueBy_109 (by decide) ?_
          refine lv_isub hx hb d_Model_dueBy_110 ?_
          refine lv_goto (tgt := 116) hx hb d_Model_dueBy_111 (by decide) ?_
          obtain rfl := sj1 hf
          exact retR C0 (narI _) hQ d_Model_dueBy_116
    replace hf := iteF c9 hf
    refine lv_tableOut (tgt := 117) hx hb d_Model_dueBy_40 (by have c4' := lv_neT (a := 1) c4 rfl; have c5' := lv_neT (a := 2) c5 rfl; have c7' := lv_neT (a := 3) c7 rfl; have c8' := lv_neT (a := 4) c8 rfl; have c9' := lv_neT (a := 5) c9 rfl; omega) (by decide) ?_
    refine lv_iload hx hb d_Model_dueBy_117 (lv_at hl 4 rfl) ?_
    obtain rfl := sj1 hf
    exact retR C0 (narI _) hQ d_Model_dueBy_119
  have J28 : ∀ (_ : Unit), f_Model_dueBy_J28 a1 a3 a5 x2 = some rr → ∀ ls : Array Slot, lv_has ls 8 [(1, .int a1), (3, .int a3), (5, .int a5), (6, .int x2)] → W p l e R s m args below meth c s.heap [] 0 0 Q (F0 m 28 ls []) := by
    intro _ hf ls hl
    unfold f_Model_dueBy_J28 at hf
    refine lv_iload hx hb d_Model_dueBy_28 (lv_at hl 3 rfl) ?_
    refine lv_iconst (v := (2 : Int32)) hx hb d_Model_dueBy_30 (by decide) ?_
    refine lv_iadd hx hb d_Model_dueBy_31 ?_
    refine lv_goto (tgt := 37) hx hb d_Model_dueBy_32 (by decide) ?_
    exact J37 (x2 + (2 : Int32)) hf ls (hl)
  refine lv_icmp_ge (tgt := 28) hx hb d_Model_dueBy_18 (by decide) (fun c12 => ?_) (fun c12 => ?_)
  · replace hf := iteT c12 hf
    exact J28 () hf ls (lv_sub hl [2, 4, 6, 0] rfl)
  · replace hf := iteF c12 hf
    refine lv_iload hx hb d_Model_dueBy_21 (lv_at hl 5 rfl) ?_
    refine lv_bipush (v := (6 : Int32)) hx hb d_Model_dueBy_23 (by decide) ?_
    refine lv_icmp_ge (tgt := 35) hx hb d_Model_dueBy_25 (by decide) (fun c13 => ?_) (fun c13 => ?_)
    · replace hf := iteT c13 hf
      refine lv_iload hx hb d_Model_dueBy_35 (lv_at hl 0 rfl) ?_
      exact J37 x2 hf ls (lv_sub hl [2, 4, 6, 0] rfl)
    · replace hf := iteF c13 hf
      exact J28 () hf ls (lv_sub hl [2, 4, 6, 0] rfl)
def f_Model_passes_J26 (a2 : Int32) (sM : PW) (x2 : Int32) : Option (Int32) :=
  (if x2 = (5 : Int32) then (if a2 < (22 : Int32) then some (0 : Int32) else (if (sM 0 3) = 0 then some (1 : Int32) else some (0 : Int32))) else some (0 : Int32))
def f_Model_passes (sM : PW) (sN : PL) (a1 : Int32) (a2 : Int32) : Option (Int32) :=
  gd (okI ((10 : Int32) + a1) 53) (nm (sM 0 (((10 : Int32) + a1)).toNatClampNeg) (fun x2 => (if x2 = (4 : Int32) then some (1 : Int32) else (if x2 = (3 : Int32) then (if (22 : Int32) ≤ a2 then some (1 : Int32) else f_Model_passes_J26 a2 sM x2) else f_Model_passes_J26 a2 sM x2))))
set_option maxHeartbeats 4000000 in
set_option maxRecDepth 100000 in
theorem c_Model_passes (l : Launch) (D : va_G) (ty : Nat → ClassId) (mA : Nat → Nat) (sM : PW) (sN : PL) (a1 : Int32) (a2 : Int32) (rr : Int32) (hf : f_Model_passes sM sN a1 a2 = some rr) : Met l y_Model_passes (Cond.code y_Model_passes prog_13_method_29_code 4 ((Option.some FieldType.boolean)) :: lw_ok) { frames := 0, cells := 0, slots := 0, locals := 0 } (PcR D ty [.ref (mA 0), .int a1, .int a2] (L_m ty mA sM sN)) (QR (some (.int rr))) 0 0 (fun _ => False) := by
  refine hdR (by decide) (Nat.le_of_ble_eq_true rfl) ?_
  intro p e s m below meth c ls R args Q C0 hR hQ hP hK hl
  obtain ⟨hx, hb, hr, hlk, hml, hown, htt⟩ := id C0
  have hl : lv_has ls 4 [(0, .ref (mA 0)), (1, .int a1), (2, .int a2)] := hl
  unfold f_Model_passes at hf
  refine lv_aload_n hx hb d_Model_passes_0 rfl (lv_at hl 0 rfl) ?_
  refine va_get (D := D) (ci := 11) (v := .ref (mA 1)) (C := "BedFrontierModel") (T := T_Model) (N := 22) hx hb htt i_Model hown hK.1 hP 0 rfl rfl 0 (by decide) (htt _ k_772) (fun _ h9 => h9) rfl d_Model_passes_1 ?_
  refine lv_bipush (v := (10 : Int32)) hx hb d_Model_passes_4 (by decide) ?_
  refine lv_iload_n hx hb d_Model_passes_6 rfl (lv_at hl 1 rfl) ?_
  refine lv_iadd hx hb d_Model_passes_7 ?_
  obtain ⟨g1, hf⟩ := gdE hf
  refine va_iald hx hb hK.1 hP 1 0 rfl rfl (okI_in g1) d_Model_passes_8 ?_
  refine lv_topi (fun x2 e_x2 => ?_)
  replace hf := nmE hf e_x2
  refine lv_istore_n (lv' := [(3, .int x2), (0, .ref (mA 0)), (1, .int a1), (2, .int a2)]) hx hb d_Model_passes_9 rfl hl (by decide) rfl (fun ls hl => ?_)
  refine lv_iload_n hx hb d_Model_passes_10 rfl (lv_at hl 0 rfl) ?_
  refine lv_iconst (v := (4 : Int32)) hx hb d_Model_passes_11 (by decide) ?_
  refine lv_icmp_eq (tgt := 46) hx hb d_Model_passes_12 (by decide) (fun c3 => ?_) (fun c3 => ?_)
  · replace hf := iteT c3 hf
    refine lv_iconst (v := (1 : Int32)) hx hb d_Model_passes_46 (by decide) ?_
    refine lv_goto (tgt := 51) hx hb d_Model_passes_47 (by decide) ?_
    obtain rfl := sj1 hf
    exact retR C0 rfl hQ d_Model_passes_51
  · replace hf := iteF c3 hf
    refine lv_iload_n hx hb d_Model_passes_15 rfl (lv_at hl 0 rfl) ?_
    refine lv_iconst (v := (3 : Int32)) hx hb d_Model_passes_16 (by decide) ?_
    have J26 : ∀ (_ : Unit), f_Model_passes_J26 a2 sM x2 = some rr → ∀ ls : Array Slot, lv_has ls 4 [(0, .ref (mA 0)), (2, .int a2), (3, .int x2)] → W p l e R s m args below meth c s.heap [] 0 0 Q (F0 m 26 ls []) := by
      intro _ hf ls hl
      unfold f_Model_passes_J26 at hf
      refine lv_iload_n hx hb d_Model_passes_26 rfl (lv_at hl 2 rfl) ?_
      refine lv_iconst (v := (5 : Int32)) hx hb d_Model_passes_27 (by decide) ?_
      refine lv_icmp_ne (tgt := 50) hx hb d_Model_passes_28 (by decide) (fun c4 => ?_) (fun c4 => ?_)
      · replace hf := iteF c4 hf
        refine lv_iconst (v := (0 : Int32)) hx hb d_Model_passes_50 (by decide) ?_
        obtain rfl := sj1 hf
        exact retR C0 rfl hQ d_Model_passes_51
      · replace hf := iteT c4 hf
        refine lv_iload_n hx hb d_Model_passes_31 rfl (lv_at hl 1 rfl) ?_
        refine lv_bipush (v := (22 : Int32)) hx hb d_Model_passes_32 (by decide) ?_
        refine lv_icmp_lt (tgt := 50) hx hb d_Model_passes_34 (by decide) (fun c5 => ?_) (fun c5 => ?_)
        · replace hf := iteT c5 hf
          refine lv_iconst (v := (0 : Int32)) hx hb d_Model_passes_50 (by decide) ?_
          obtain rfl := sj1 hf
          exact retR C0 rfl hQ d_Model_passes_51
        · replace hf := iteF c5 hf
          refine lv_aload_n hx hb d_Model_passes_37 rfl (lv_at hl 0 rfl) ?_
          refine va_get (D := D) (ci := 11) (v := .ref (mA 1)) (C := "BedFrontierModel") (T := T_Model) (N := 22) hx hb htt i_Model hown hK.1 hP 0 rfl rfl 0 (by decide) (htt _ k_772) (fun _ h9 => h9) rfl d_Model_passes_38 ?_
          refine lv_iconst (v := (3 : Int32)) hx hb d_Model_passes_41 (by decide) ?_
          refine ld_iald (j := 3) hx hb hK.1 hP 1 0 rfl rfl (okI_in (by decide)) rfl d_Model_passes_42 ?_
          refine lv_if_ne (tgt := 50) hx hb d_Model_passes_43 (by decide) (fun c6 => ?_) (fun c6 => ?_)
          · replace hf := iteF c6 hf
            refine lv_iconst (v := (0 : Int32)) hx hb d_Model_passes_50 (by decide) ?_
            obtain rfl := sj1 hf
            exact retR C0 rfl hQ d_Model_passes_51
          · replace hf := iteT c6 hf
            refine lv_iconst (v := (1 : Int32)) hx hb d_Model_passes_46 (by decide) ?_
            refine lv_goto (tgt := 51) hx hb d_Model_passes_47 (by decide) ?_
            obtain rfl := sj1 hf
            exact retR C0 rfl hQ d_Model_passes_51
    refine lv_icmp_ne (tgt := 26) hx hb d_Model_passes_17 (by decide) (fun c7 => ?_) (fun c7 => ?_)
    · replace hf := iteF c7 hf
      exact J26 () hf ls (lv_sub hl [1, 3, 0] rfl)
    · replace hf := iteT c7 hf
      refine lv_iload_n hx hb d_Model_passes_20 rfl (lv_at hl 3 rfl) ?_
      refine lv_bipush (v := (22 : Int32)) hx hb d_Model_passes_21 (by decide) ?_
      refine lv_icmp_ge (tgt := 46) hx hb d_Model_passes_23 (by decide) (fun c8 => ?_) (fun c8 => ?_)
      · replace hf := iteT c8 hf
        refine lv_iconst (v := (1 : Int32)) hx hb d_Model_passes_46 (by decide) ?_
        refine lv_goto (tgt := 51) hx hb d_Model_passes_47 (by decide) ?_
        obtain rfl := sj1 hf
        exact retR C0 rfl hQ d_Model_passes_51
      · replace hf := iteF c8 hf
        exact J26 () hf ls (lv_sub hl [1, 3, 0] rfl)
def f_Model_isThrough (sM : PW) (sN : PL) (a1 : Int32) (a2 : Int32) (a3 : Int32) : Option (Int32) :=
  bd (f_Model_clockOf a2 a3) (fun x1 => gd (okI ((7 : Int32) + a2) 53) (bd (f_Model_has (sM 0 (((7 : Int32) + a2)).toNatClampNeg) x1) (fun x4 => (if x4 = 0 then some (1 : Int32) else bd (f_Model_passes sM sN a1 x1) (fun x7 => (if x7 = 0 then some (0 : Int32) else some (1 : Int32)))))))
set_option maxHeartbeats 4000000 in
set_option maxRecDepth 100000 in
theorem c_Model_isThrough (l : Launch) (D : va_G) (ty : Nat → ClassId) (mA : Nat → Nat) (sM : PW) (sN : PL) (a1 : Int32) (a2 : Int32) (a3 : Int32) (rr : Int32) (hf : f_Model_isThrough sM sN a1 a2 a3 = some rr) : Met l y_Model_isThrough (Cond.code y_Model_isThrough prog_13_method_30_code 5 ((Option.some FieldType.boolean)) :: lw_ok) { frames := 1, cells := 0, slots := 0, locals := 23 } (PcR D ty [.ref (mA 0), .int a1, .int a2, .int a3] (L_m ty mA sM sN)) (QR (some (.int rr))) 0 0 (fun _ => False) := by
  refine hdR (by decide) (Nat.le_of_ble_eq_true rfl) ?_
  intro p e s m below meth c ls R args Q C0 hR hQ hP hK hl
  obtain ⟨hx, hb, hr, hlk, hml, hown, htt⟩ := id C0
  have hl : lv_has ls 5 [(0, .ref (mA 0)), (1, .int a1), (2, .int a2), (3, .int a3)] := hl
  unfold f_Model_isThrough at hf
  refine lv_iload_n hx hb d_Model_isThrough_0 rfl (lv_at hl 2 rfl) ?_
  refine lv_iload_n hx hb d_Model_isThrough_1 rfl (lv_at hl 3 rfl) ?_
  obtain ⟨x1, h2, hf⟩ := bdE hf
  refine scR (rest := []) C0 (c_Model_clockOf l D ty a2 a3 x1 h2) k_939 cal_Model_clockOf hK (va_P_nil) ⟨by rw [hR]; decide, by rw [hR]; decide⟩ rfl rfl rfl hl.1 rfl (Nat.le_of_ble_eq_true rfl) d_Model_isThrough_2 ⟨Nat.zero_le _, Nat.zero_le _⟩ rfl ?_
  refine lv_istore (lv' := [(4, .int x1), (0, .ref (mA 0)), (1, .int a1), (2, .int a2), (3, .int a3)]) hx hb d_Model_isThrough_5 hl (by decide) rfl (fun ls hl => ?_)
  refine lv_aload_n hx hb d_Model_isThrough_7 rfl (lv_at hl 1 rfl) ?_
  refine va_get (D := D) (ci := 11) (v := .ref (mA 1)) (C := "BedFrontierModel") (T := T_Model) (N := 22) hx hb htt i_Model hown hK.1 hP 0 rfl rfl 0 (by decide) (htt _ k_772) (fun _ h9 => h9) rfl d_Model_isThrough_8 ?_
  refine lv_bipush (v := (7 : Int32)) hx hb d_Model_isThrough_11 (by decide) ?_
  refine lv_iload_n hx hb d_Model_isThrough_13 rfl (lv_at hl 3 rfl) ?_
  refine lv_iadd hx hb d_Model_isThrough_14 ?_
  obtain ⟨g3, hf⟩ := gdE hf
  refine va_iald hx hb hK.1 hP 1 0 rfl rfl (okI_in g3) d_Model_isThrough_15 ?_
  refine lv_iload hx hb d_Model_isThrough_16 (lv_at hl 0 rfl) ?_
  obtain ⟨x4, h5, hf⟩ := bdE hf
  refine scR (rest := []) C0 (c_Model_has l D ty (sM 0 (((7 : Int32) + a2)).toNatClampNeg) x1 x4 h5) k_942 cal_Model_has hK (va_P_nil) ⟨by rw [hR]; decide, by rw [hR]; decide⟩ rfl rfl rfl hl.1 rfl (Nat.le_of_ble_eq_true rfl) d_Model_isThrough_18 ⟨Nat.zero_le _, Nat.zero_le _⟩ rfl ?_
  refine lv_if_eq (tgt := 34) hx hb d_Model_isThrough_21 (by decide) (fun c6 => ?_) (fun c6 => ?_)
  · replace hf := iteT c6 hf
    refine lv_iconst (v := (1 : Int32)) hx hb d_Model_isThrough_34 (by decide) ?_
    refine lv_goto (tgt := 39) hx hb d_Model_isThrough_35 (by decide) ?_
    obtain rfl := sj1 hf
    exact retR C0 rfl hQ d_Model_isThrough_39
  · replace hf := iteF c6 hf
    refine lv_aload_n hx hb d_Model_isThrough_24 rfl (lv_at hl 1 rfl) ?_
    refine lv_iload_n hx hb d_Model_isThrough_25 rfl (lv_at hl 2 rfl) ?_
    refine lv_iload hx hb d_Model_isThrough_26 (lv_at hl 0 rfl) ?_
    obtain ⟨x7, h8, hf⟩ := bdE hf
    refine vR (q0 := 0) (ci := 11) (rest := []) C0 (c_Model_passes l D ty mA sM sN a1 x1 x7 h8) k_945 cal_Model_passes hK hP rfl rfl rfl ⟨by rw [hR]; decide, by rw [hR]; decide⟩ rfl rfl rfl hl.1 rfl (Nat.le_of_ble_eq_true rfl) d_Model_isThrough_28 ⟨Nat.zero_le _, Nat.zero_le _⟩ rfl ?_
    refine lv_if_eq (tgt := 38) hx hb d_Model_isThrough_31 (by decide) (fun c9 => ?_) (fun c9 => ?_)
    · replace hf := iteT c9 hf
      refine lv_iconst (v := (0 : Int32)) hx hb d_Model_isThrough_38 (by decide) ?_
      obtain rfl := sj1 hf
      exact retR C0 rfl hQ d_Model_isThrough_39
    · replace hf := iteF c9 hf
      refine lv_iconst (v := (1 : Int32)) hx hb d_Model_isThrough_34 (by decide) ?_
      refine lv_goto (tgt := 39) hx hb d_Model_isThrough_35 (by decide) ?_
      obtain rfl := sj1 hf
      exact retR C0 rfl hQ d_Model_isThrough_39
def f_Model_dueIn (sM : PW) (sN : PL) (a1 : Int32) (a2 : Int32) (a3 : Int32) : Option (Int32) :=
  gd (okI ((10 : Int32) + a1) 53) (gd (okI ((16 : Int32) + a1) 53) (bd (f_Model_clockOf a2 a3) (fun x3 => bd (f_Model_dueBy sM sN (sM 0 (((10 : Int32) + a1)).toNatClampNeg) (sM 0 (((16 : Int32) + a1)).toNatClampNeg) a2 x3 (sM 0 3)) (fun x5 => some x5))))
set_option maxHeartbeats 4000000 in
set_option maxRecDepth 100000 in
theorem c_Model_dueIn (l : Launch) (D : va_G) (ty : Nat → ClassId) (mA : Nat → Nat) (sM : PW) (sN : PL) (a1 : Int32) (a2 : Int32) (a3 : Int32) (rr : Int32) (hf : f_Model_dueIn sM sN a1 a2 a3 = some rr) : Met l y_Model_dueIn (Cond.code y_Model_dueIn prog_13_method_31_code 4 ((Option.some FieldType.int)) :: lw_ok) { frames := 1, cells := 0, slots := 0, locals := 27 } (PcR D ty [.ref (mA 0), .int a1, .int a2, .int a3] (L_m ty mA sM sN)) (QR (some (.int rr))) 0 0 (fun _ => False) := by
  refine hdR (by decide) (Nat.le_of_ble_eq_true rfl) ?_
  intro p e s m below meth c ls R args Q C0 hR hQ hP hK hl
  obtain ⟨hx, hb, hr, hlk, hml, hown, htt⟩ := id C0
  have hl : lv_has ls 4 [(0, .ref (mA 0)), (1, .int a1), (2, .int a2), (3, .int a3)] := hl
  unfold f_Model_dueIn at hf
  refine lv_aload_n hx hb d_Model_dueIn_0 rfl (lv_at hl 0 rfl) ?_
  refine lv_aload_n hx hb d_Model_dueIn_1 rfl (lv_at hl 0 rfl) ?_
  refine va_get (D := D) (ci := 11) (v := .ref (mA 1)) (C := "BedFrontierModel") (T := T_Model) (N := 22) hx hb htt i_Model hown hK.1 hP 0 rfl rfl 0 (by decide) (htt _ k_772) (fun _ h9 => h9) rfl d_Model_dueIn_2 ?_
  refine lv_bipush (v := (10 : Int32)) hx hb d_Model_dueIn_5 (by decide) ?_
  refine lv_iload_n hx hb d_Model_dueIn_7 rfl (lv_at hl 1 rfl) ?_
  refine lv_iadd hx hb d_Model_dueIn_8 ?_
  obtain ⟨g1, hf⟩ := gdE hf
  refine va_iald hx hb hK.1 hP 1 0 rfl rfl (okI_in g1) d_Model_dueIn_9 ?_
  refine lv_aload_n hx hb d_Model_dueIn_10 rfl (lv_at hl 0 rfl) ?_
  refine va_get (D := D) (ci := 11) (v := .ref (mA 1)) (C := "BedFrontierModel") (T := T_Model) (N := 22) hx hb htt i_Model hown hK.1 hP 0 rfl rfl 0 (by decide) (htt _ k_772) (fun _ h9 => h9) rfl d_Model_dueIn_11 ?_
  refine lv_bipush (v := (16 : Int32)) hx hb d_Model_dueIn_14 (by decide) ?_
  refine lv_iload_n hx hb d_Model_dueIn_16 rfl (lv_at hl 1 rfl) ?_
  refine lv_iadd hx hb d_Model_dueIn_17 ?_
  obtain ⟨g2, hf⟩ := gdE hf
  refine va_iald hx hb hK.1 hP 1 0 rfl rfl (okI_in g2) d_Model_dueIn_18 ?_
  refine lv_iload_n hx hb d_Model_dueIn_19 rfl (lv_at hl 2 rfl) ?_
  refine lv_iload_n hx hb d_Model_dueIn_20 rfl (lv_at hl 2 rfl) ?_
  refine lv_iload_n hx hb d_Model_dueIn_21 rfl (lv_at hl 3 rfl) ?_
  obtain ⟨x3, h4, hf⟩ := bdE hf
  refine scR (rest := [.int a2, .int (sM 0 (((16 : Int32) + a1)).toNatClampNeg), .int (sM 0 (((10 : Int32) + a1)).toNatClampNeg), .ref (mA 0)]) C0 (c_Model_clockOf l D ty a2 a3 x3 h4) k_939 cal_Model_clockOf hK (va_P_nil) ⟨by rw [hR]; decide, by rw [hR]; decide⟩ rfl rfl rfl hl.1 rfl (Nat.le_of_ble_eq_true rfl) d_Model_dueIn_22 ⟨Nat.zero_le _, Nat.zero_le _⟩ rfl ?_
  refine lv_aload_n hx hb d_Model_dueIn_25 rfl (lv_at hl 0 rfl) ?_
  refine va_get (D := D) (ci := 11) (v := .ref (mA 1)) (C := "BedFrontierModel") (T := T_Model) (N := 22) hx hb htt i_Model hown hK.1 hP 0 rfl rfl 0 (by decide) (htt _ k_772) (fun _ h9 => h9) rfl d_Model_dueIn_26 ?_
  refine lv_iconst (v := (3 : Int32)) hx hb d_Model_dueIn_29 (by decide) ?_
  refine ld_iald (j := 3) hx hb hK.1 hP 1 0 rfl rfl (okI_in (by decide)) rfl d_Model_dueIn_30 ?_
  obtain ⟨x5, h6, hf⟩ := bdE hf
  refine vR (q0 := 0) (ci := 11) (rest := []) C0 (c_Model_dueBy l D ty mA sM sN (sM 0 (((10 : Int32) + a1)).toNatClampNeg) (sM 0 (((16 : Int32) + a1)).toNatClampNeg) a2 x3 (sM 0 3) x5 h6) k_965 cal_Model_dueBy hK hP rfl rfl rfl ⟨by rw [hR]; decide, by rw [hR]; decide⟩ rfl rfl rfl hl.1 rfl (Nat.le_of_ble_eq_true rfl) d_Model_dueIn_31 ⟨Nat.zero_le _, Nat.zero_le _⟩ rfl ?_
  obtain rfl := sj1 hf
  exact retR C0 (narI _) hQ d_Model_dueIn_34
def f_Model_noteStep_L49 (K49 : Int32 × PW × PL → Option (PW × PL)) : Int32 × PW × PL → Option (PW × PL)
  | (x3, sM4, sN5) =>
  (if (4 : Int32) ≤ x3 then nm (up sM4 14 (fun _ => ((sM4 14 0) + (1 : Int32)))) (fun sM7 => some (sM7, sN5)) else gd (okI x3 53) (gd (okI (((4 : Int32) * (sM4 14 0)) + x3) 32) (nm (up sM4 13 (upd (sM4 13) (((((4 : Int32) * (sM4 14 0)) + x3)).toNatClampNeg) (sM4 0 (x3).toNatClampNeg))) (fun sM10 => nm (x3 + (1 : Int32)) (fun x11 => K49 (x11, sM10, sN5))))))
def f_Model_noteStep_J47 (sM1 : PW) (sN2 : PL) : Option (PW × PL) :=
  loopF f_Model_noteStep_L49 4000 ((0 : Int32), sM1, sN2)
def f_Model_noteStep_L11 (K11 : Int32 × PW × PL → Option (PW × PL)) : Int32 × PW × PL → Option (PW × PL)
  | (x13, sM14, sN15) =>
  (if (28 : Int32) ≤ x13 then nm (up sM14 14 (fun _ => ((sM14 14 0) - (1 : Int32)))) (fun sM17 => f_Model_noteStep_J47 sM17 sN15) else gd (okI (x13 + (4 : Int32)) 32) (gd (okI x13 32) (nm (up sM14 13 (upd (sM14 13) ((x13).toNatClampNeg) (sM14 13 ((x13 + (4 : Int32))).toNatClampNeg))) (fun sM20 => nm (x13 + (1 : Int32)) (fun x21 => K11 (x21, sM20, sN15))))))
def f_Model_noteStep (sM : PW) (sN : PL) : Option (PW × PL) :=
  (if (sM 14 0) = (8 : Int32) then loopF f_Model_noteStep_L11 4000 ((0 : Int32), sM, sN) else f_Model_noteStep_J47 sM sN)
set_option maxHeartbeats 4000000 in
set_option maxRecDepth 100000 in
theorem c_Model_noteStep (l : Launch) (D : va_G) (ty : Nat → ClassId) (mA : Nat → Nat) (sz : Nat) (sM : PW) (sN : PL) (tM : PW) (tN : PL) (hf : f_Model_noteStep sM sN = some (tM, tN)) : Met l y_Model_noteStep (Cond.code y_Model_noteStep prog_13_method_32_code 2 none :: lw_ok) { frames := 0, cells := 0, slots := 0, locals := 0 } (PcM D ty [.ref (mA 0)] sz (L_m ty mA sM sN)) (QM D (L_m ty mA tM tN) (va_A (L_m ty mA sM sN) sz) (none)) 0 0 (va_A (L_m ty mA sM sN) sz) := by
  refine hdM (by decide) (Nat.le_of_ble_eq_true rfl) ?_
  intro p e s m below meth c ls R args Q A C0 hR hQ hnm hAq hP hK hD hS hl
  obtain ⟨hx, hb, hr, hlk, hml, hown, htt⟩ := id C0
  have hl : lv_has ls 2 [(0, .ref (mA 0))] := hl
  generalize hH0 : s.heap = H at hP hS ⊢
  have hS : va_S A s.heap H [] := by rw [hH0]; exact hS
  unfold f_Model_noteStep at hf
  refine lv_aload_n hx hb d_Model_noteStep_0 rfl (lv_at hl 0 rfl) ?_
  refine va_get (D := D) (ci := 11) (v := .int (sM 14 0)) (C := "BedFrontierModel") (T := T_Model) (N := 22) hx hb htt i_Model hown hK.1 hP 0 rfl rfl 14 (by decide) (htt _ k_786) (fun _ h9 => h9) rfl d_Model_noteStep_1 ?_
  refine lv_bipush (v := (8 : Int32)) hx hb d_Model_noteStep_4 (by decide) ?_
  have J47 : ∀ (sM1 : PW) (sN2 : PL), f_Model_noteStep_J47 sM1 sN2 = some (tM, tN) → ∀ (H : Heap) (locs : List Loc) (ls : Array Slot), va_P D vwCl (L_m ty mA sM1 sN2) H → va_D A (L_m ty mA sM1 sN2) → va_S A s.heap H locs → lv_has ls 2 [(0, .ref (mA 0))] → W p l e R s m args below meth c H locs 0 0 Q (F0 m 47 ls []) := by
    intro sM1 sN2 hf H locs ls hP hD hS hl
    unfold f_Model_noteStep_J47 at hf
    refine lv_iconst (v := (0 : Int32)) hx hb d_Model_noteStep_47 (by decide) ?_
    refine lv_istore_n (lv' := [(1, .int (0 : Int32)), (0, .ref (mA 0))]) hx hb d_Model_noteStep_48 rfl hl (by decide) rfl (fun ls hl => ?_)
    have B49 : ∀ (n : Nat) (x : Int32 × PW × PL), loopF f_Model_noteStep_L49 n x = some (tM, tN) → ∀ (H : Heap) (locs : List Loc) (ls : Array Slot), va_P D vwCl (L_m ty mA (x.2.1) (x.2.2)) H → va_D A (L_m ty mA (x.2.1) (x.2.2)) → va_S A s.heap H locs → lv_has ls 2 [(0, .ref (mA 0)), (1, .int (x.1))] → W p l e R s m args below meth c H locs 0 0 Q (F0 m 49 ls []) := by
      refine loopW (fun (x : Int32 × PW × PL) => ∀ (H : Heap) (locs : List Loc) (ls : Array Slot), va_P D vwCl (L_m ty mA (x.2.1) (x.2.2)) H → va_D A (L_m ty mA (x.2.1) (x.2.2)) → va_S A s.heap H locs → lv_has ls 2 [(0, .ref (mA 0)), (1, .int (x.1))] → W p l e R s m args below meth c H locs 0 0 Q (F0 m 49 ls [])) ?_
      intro K49 hK49 x hf
      obtain ⟨x3, sM4, sN5⟩ := x
      rw [f_Model_noteStep_L49] at hf
      intro H locs ls hP hD hS hl
      have hl : lv_has ls 2 [(0, .ref (mA 0)), (1, .int x3)] := hl
      have hP : va_P D vwCl (L_m ty mA sM4 sN5) H := hP
      have hD : va_D A (L_m ty mA sM4 sN5) := hD
      show W p l e R s m args below meth c H locs 0 0 Q (F0 m 49 ls [])
      refine lv_iload_n hx hb d_Model_noteStep_49 rfl (lv_at hl 1 rfl) ?_
      refine lv_iconst (v := (4 : Int32)) hx hb d_Model_noteStep_50 (by decide) ?_
      refine lv_icmp_ge (tgt := 79) hx hb d_Model_noteStep_51 (by decide) (fun c6 => ?_) (fun c6 => ?_)
      · replace hf := iteT c6 hf
        refine lv_aload_n hx hb d_Model_noteStep_79 rfl (lv_at hl 0 rfl) ?_
        refine lv_dup hx hb d_Model_noteStep_80 rfl ?_
        refine va_get (D := D) (ci := 11) (v := .int (sM4 14 0)) (C := "BedFrontierModel") (T := T_Model) (N := 22) hx hb htt i_Model hown hK.1 hP 0 rfl rfl 14 (by decide) (htt _ k_786) (fun _ h9 => h9) rfl d_Model_noteStep_81 ?_
        refine lv_iconst (v := (1 : Int32)) hx hb d_Model_noteStep_84 (by decide) ?_
        refine lv_iadd hx hb d_Model_noteStep_85 ?_
        refine va_put (D := D) (ci := 11) (v := .int ((sM4 14 0) + (1 : Int32))) (ty := .int) (C := "BedFrontierModel") (T := T_Model) (N := 22) hx hb htt i_Model t_Model t_Model_ok n_Model hown hK.1 hP hD hS 0 rfl rfl 14 (by decide) (htt _ k_786) (fun _ h9 => h9) rfl pfI rfl rfl (Nat.le_of_ble_eq_true rfl) d_Model_noteStep_86 (fun H locs hP hD hS => ?_)
        obtain ⟨sM7, e_sM7⟩ : ∃ z : PW, z = up sM4 14 (fun _ => ((sM4 14 0) + (1 : Int32))) := ⟨_, rfl⟩
        replace hf := nmE hf e_sM7
        have hP : va_P D vwCl (L_m ty mA sM7 sN5) H := by rw [e_sM7]; exact hP
        have hD : va_D A (L_m ty mA sM7 sN5) := by rw [e_sM7]; exact hD
        obtain ⟨rfl, rfl⟩ := sj2 hf
        exact retMv C0 hQ hP hD hS d_Model_noteStep_89
      · replace hf := iteF c6 hf
        refine lv_aload_n hx hb d_Model_noteStep_54 rfl (lv_at hl 0 rfl) ?_
        refine va_get (D := D) (ci := 11) (v := .ref (mA 14)) (C := "BedFrontierModel") (T := T_Model) (N := 22) hx hb htt i_Model hown hK.1 hP 0 rfl rfl 13 (by decide) (htt _ k_785) (fun _ h9 => h9) rfl d_Model_noteStep_55 ?_
        refine lv_iconst (v := (4 : Int32)) hx hb d_Model_noteStep_58 (by decide) ?_
        refine lv_aload_n hx hb d_Model_noteStep_59 rfl (lv_at hl 0 rfl) ?_
        refine va_get (D := D) (ci := 11) (v := .int (sM4 14 0)) (C := "BedFrontierModel") (T := T_Model) (N := 22) hx hb htt i_Model hown hK.1 hP 0 rfl rfl 14 (by decide) (htt _ k_786) (fun _ h9 => h9) rfl d_Model_noteStep_60 ?_
        refine lv_imul hx hb d_Model_noteStep_63 ?_
        refine lv_iload_n hx hb d_Model_noteStep_64 rfl (lv_at hl 1 rfl) ?_
        refine lv_iadd hx hb d_Model_noteStep_65 ?_
        refine lv_aload_n hx hb d_Model_noteStep_66 rfl (lv_at hl 0 rfl) ?_
        refine va_get (D := D) (ci := 11) (v := .ref (mA 1)) (C := "BedFrontierModel") (T := T_Model) (N := 22) hx hb htt i_Model hown hK.1 hP 0 rfl rfl 0 (by decide) (htt _ k_772) (fun _ h9 => h9) rfl d_Model_noteStep_67 ?_
        refine lv_iload_n hx hb d_Model_noteStep_70 rfl (lv_at hl 1 rfl) ?_
        obtain ⟨g8, hf⟩ := gdE hf
        refine va_iald hx hb hK.1 hP 1 0 rfl rfl (okI_in g8) d_Model_noteStep_71 ?_
        obtain ⟨g9, hf⟩ := gdE hf
        refine va_iast hx hb hK.1 hP hD hS 5 0 rfl rfl (okI_in g9) d_Model_noteStep_72 (fun H locs hP hD hS => ?_)
        obtain ⟨sM10, e_sM10⟩ : ∃ z : PW, z = up sM4 13 (upd (sM4 13) (((((4 : Int32) * (sM4 14 0)) + x3)).toNatClampNeg) (sM4 0 (x3).toNatClampNeg)) := ⟨_, rfl⟩
        replace hf := nmE hf e_sM10
        have hP : va_P D vwCl (L_m ty mA sM10 sN5) H := by rw [e_sM10]; exact hP
        have hD : va_D A (L_m ty mA sM10 sN5) := by rw [e_sM10]; exact hD
        obtain ⟨x11, e_x11⟩ : ∃ z : Int32, z = (x3 + (1 : Int32)) := ⟨_, rfl⟩
        replace hf := nmE hf e_x11
        refine lv_iinc (v := x11) (lv' := [(1, .int x11), (0, .ref (mA 0))]) hx hb d_Model_noteStep_73 hl (k := 1) rfl (by rw [e_x11]; rfl) (by decide) rfl (fun ls hl => ?_)
        refine lv_goto (tgt := 49) hx hb d_Model_noteStep_76 (by decide) ?_
        exact hK49 (x11, sM10, sN5) hf _ _ ls hP hD hS (lv_sub hl [1, 0] rfl)
    exact B49 4000 ((0 : Int32), sM1, sN2) hf _ _ ls hP hD hS (lv_sub hl [1, 0] rfl)
  refine lv_icmp_ne (tgt := 47) hx hb d_Model_noteStep_6 (by decide) (fun c12 => ?_) (fun c12 => ?_)
  · replace hf := iteF c12 hf
    exact J47 sM sN hf _ _ ls hP hD hS (hl)
  · replace hf := iteT c12 hf
    refine lv_iconst (v := (0 : Int32)) hx hb d_Model_noteStep_9 (by decide) ?_
    refine lv_istore_n (lv' := [(1, .int (0 : Int32)), (0, .ref (mA 0))]) hx hb d_Model_noteStep_10 rfl hl (by decide) rfl (fun ls hl => ?_)
    have B11 : ∀ (n : Nat) (x : Int32 × PW × PL), loopF f_Model_noteStep_L11 n x = some (tM, tN) → ∀ (H : Heap) (locs : List Loc) (ls : Array Slot), va_P D vwCl (L_m ty mA (x.2.1) (x.2.2)) H → va_D A (L_m ty mA (x.2.1) (x.2.2)) → va_S A s.heap H locs → lv_has ls 2 [(0, .ref (mA 0)), (1, .int (x.1))] → W p l e R s m args below meth c H locs 0 0 Q (F0 m 11 ls []) := by
      refine loopW (fun (x : Int32 × PW × PL) => ∀ (H : Heap) (locs : List Loc) (ls : Array Slot), va_P D vwCl (L_m ty mA (x.2.1) (x.2.2)) H → va_D A (L_m ty mA (x.2.1) (x.2.2)) → va_S A s.heap H locs → lv_has ls 2 [(0, .ref (mA 0)), (1, .int (x.1))] → W p l e R s m args below meth c H locs 0 0 Q (F0 m 11 ls [])) ?_
      intro K11 hK11 x hf
      obtain ⟨x13, sM14, sN15⟩ := x
      rw [f_Model_noteStep_L11] at hf
      intro H locs ls hP hD hS hl
      have hl : lv_has ls 2 [(0, .ref (mA 0)), (1, .int x13)] := hl
      have hP : va_P D vwCl (L_m ty mA sM14 sN15) H := hP
      have hD : va_D A (L_m ty mA sM14 sN15) := hD
      show W p l e R s m args below meth c H locs 0 0 Q (F0 m 11 ls [])
      refine lv_iload_n hx hb d_Model_noteStep_11 rfl (lv_at hl 1 rfl) ?_
      refine lv_bipush (v := (28 : Int32)) hx hb d_Model_noteStep_12 (by decide) ?_
      refine lv_icmp_ge (tgt := 37) hx hb d_Model_noteStep_14 (by decide) (fun c16 => ?_) (fun c16 => ?_)
      · replace hf := iteT c16 hf
        refine lv_aload_n hx hb d_Model_noteStep_37 rfl (lv_at hl 0 rfl) ?_
        refine lv_dup hx hb d_Model_noteStep_38 rfl ?_
        refine va_get (D := D) (ci := 11) (v := .int (sM14 14 0)) (C := "BedFrontierModel") (T := T_Model) (N := 22) hx hb htt i_Model hown hK.1 hP 0 rfl rfl 14 (by decide) (htt _ k_786) (fun _ h9 => h9) rfl d_Model_noteStep_39 ?_
        refine lv_iconst (v := (1 : Int32)) hx hb d_Model_noteStep_42 (by decide) ?_
        refine lv_isub hx hb d_Model_noteStep_43 ?_
        refine va_put (D := D) (ci := 11) (v := .int ((sM14 14 0) - (1 : Int32))) (ty := .int) (C := "BedFrontierModel") (T := T_Model) (N := 22) hx hb htt i_Model t_Model t_Model_ok n_Model hown hK.1 hP hD hS 0 rfl rfl 14 (by decide) (htt _ k_786) (fun _ h9 => h9) rfl pfI rfl rfl (Nat.le_of_ble_eq_true rfl) d_Model_noteStep_44 (fun H locs hP hD hS => ?_)
        obtain ⟨sM17, e_sM17⟩ : ∃ z : PW, z = up sM14 14 (fun _ => ((sM14 14 0) - (1 : Int32))) := ⟨_, rfl⟩
        replace hf := nmE hf e_sM17
        have hP : va_P D vwCl (L_m ty mA sM17 sN15) H := by rw [e_sM17]; exact hP
        have hD : va_D A (L_m ty mA sM17 sN15) := by rw [e_sM17]; exact hD
        exact J47 sM17 sN15 hf _ _ ls hP hD hS (lv_sub hl [0] rfl)
      · replace hf := iteF c16 hf
        refine lv_aload_n hx hb d_Model_noteStep_17 rfl (lv_at hl 0 rfl) ?_
        refine va_get (D := D) (ci := 11) (v := .ref (mA 14)) (C := "BedFrontierModel") (T := T_Model) (N := 22) hx hb htt i_Model hown hK.1 hP 0 rfl rfl 13 (by decide) (htt _ k_785) (fun _ h9 => h9) rfl d_Model_noteStep_18 ?_
        refine lv_iload_n hx hb d_Model_noteStep_21 rfl (lv_at hl 1 rfl) ?_
        refine lv_aload_n hx hb d_Model_noteStep_22 rfl (lv_at hl 0 rfl) ?_
        refine va_get (D := D) (ci := 11) (v := .ref (mA 14)) (C := "BedFrontierModel") (T := T_Model) (N := 22) hx hb htt i_Model hown hK.1 hP 0 rfl rfl 13 (by decide) (htt _ k_785) (fun _ h9 => h9) rfl d_Model_noteStep_23 ?_
        refine lv_iload_n hx hb d_Model_noteStep_26 rfl (lv_at hl 1 rfl) ?_
        refine lv_iconst (v := (4 : Int32)) hx hb d_Model_noteStep_27 (by decide) ?_
        refine lv_iadd hx hb d_Model_noteStep_28 ?_
        obtain ⟨g18, hf⟩ := gdE hf
        refine va_iald hx hb hK.1 hP 5 0 rfl rfl (okI_in g18) d_Model_noteStep_29 ?_
        obtain ⟨g19, hf⟩ := gdE hf
        refine va_iast hx hb hK.1 hP hD hS 5 0 rfl rfl (okI_in g19) d_Model_noteStep_30 (fun H locs hP hD hS => ?_)
        obtain ⟨sM20, e_sM20⟩ : ∃ z : PW, z = up sM14 13 (upd (sM14 13) ((x13).toNatClampNeg) (sM14 13 ((x13 + (4 : Int32))).toNatClampNeg)) := ⟨_, rfl⟩
        replace hf := nmE hf e_sM20
        have hP : va_P D vwCl (L_m ty mA sM20 sN15) H := by rw [e_sM20]; exact hP
        have hD : va_D A (L_m ty mA sM20 sN15) := by rw [e_sM20]; exact hD
        obtain ⟨x21, e_x21⟩ : ∃ z : Int32, z = (x13 + (1 : Int32)) := ⟨_, rfl⟩
        replace hf := nmE hf e_x21
        refine lv_iinc (v := x21) (lv' := [(1, .int x21), (0, .ref (mA 0))]) hx hb d_Model_noteStep_31 hl (k := 1) rfl (by rw [e_x21]; rfl) (by decide) rfl (fun ls hl => ?_)
        refine lv_goto (tgt := 11) hx hb d_Model_noteStep_34 (by decide) ?_
        exact hK11 (x21, sM20, sN15) hf _ _ ls hP hD hS (lv_sub hl [1, 0] rfl)
    exact B11 4000 ((0 : Int32), sM, sN) hf _ _ ls hP hD hS (lv_sub hl [1, 0] rfl)
def f_Model_isDone_J32 (a2 : Int32) (sM : PW) (sN : PL) (x1 : Int32) (x3 : Int32) : Option (Int32 × PW × PL) :=
  nm (x1 + x3) (fun x4 => nm (up sM 0 (upd (sM 0) 0 a2)) (fun sM5 => nm (up sM5 0 (upd (sM5 0) 2 ((sM5 0 2) + x4))) (fun sM6 => nm (up sM6 0 (upd (sM6 0) 1 (((sM6 0 1) + (1 : Int32)) - ((sM6 0 1) + (1 : Int32)) / (24 : Int32) * (24 : Int32)))) (fun sM7 => some (x4, sM7, sN)))))
def f_Model_isDone (sM : PW) (sN : PL) (a1 : Int32) (a2 : Int32) : Option (Int32 × PW × PL) :=
  bd (f_Model_dueIn sM sN a1 a2 (sM 0 1)) (fun x1 => (if a2 = (sM 0 0) then f_Model_isDone_J32 a2 sM sN x1 (0 : Int32) else f_Model_isDone_J32 a2 sM sN x1 (sM 0 4)))
set_option maxHeartbeats 4000000 in
set_option maxRecDepth 100000 in
theorem c_Model_isDone (l : Launch) (D : va_G) (ty : Nat → ClassId) (mA : Nat → Nat) (sz : Nat) (sM : PW) (sN : PL) (a1 : Int32) (a2 : Int32) (rr : Int32) (tM : PW) (tN : PL) (hf : f_Model_isDone sM sN a1 a2 = some (rr, tM, tN)) : Met l y_Model_isDone (Cond.code y_Model_isDone prog_13_method_33_code 4 ((Option.some FieldType.int)) :: lw_ok) { frames := 2, cells := 0, slots := 0, locals := 50 } (PcM D ty [.ref (mA 0), .int a1, .int a2] sz (L_m ty mA sM sN)) (QM D (L_m ty mA tM tN) (va_A (L_m ty mA sM sN) sz) (some (.int rr))) 0 0 (va_A (L_m ty mA sM sN) sz) := by
  refine hdM (by decide) (Nat.le_of_ble_eq_true rfl) ?_
  intro p e s m below meth c ls R args Q A C0 hR hQ hnm hAq hP hK hD hS hl
  obtain ⟨hx, hb, hr, hlk, hml, hown, htt⟩ := id C0
  have hl : lv_has ls 4 [(0, .ref (mA 0)), (1, .int a1), (2, .int a2)] := hl
  generalize hH0 : s.heap = H at hP hS ⊢
  have hS : va_S A s.heap H [] := by rw [hH0]; exact hS
  unfold f_Model_isDone at hf
  refine lv_aload_n hx hb d_Model_isDone_0 rfl (lv_at hl 0 rfl) ?_
  refine lv_iload_n hx hb d_Model_isDone_1 rfl (lv_at hl 1 rfl) ?_
  refine lv_iload_n hx hb d_Model_isDone_2 rfl (lv_at hl 2 rfl) ?_
  refine lv_aload_n hx hb d_Model_isDone_3 rfl (lv_at hl 0 rfl) ?_
  refine va_get (D := D) (ci := 11) (v := .ref (mA 1)) (C := "BedFrontierModel") (T := T_Model) (N := 22) hx hb htt i_Model hown hK.1 hP 0 rfl rfl 0 (by decide) (htt _ k_772) (fun _ h9 => h9) rfl d_Model_isDone_4 ?_
  refine lv_iconst (v := (1 : Int32)) hx hb d_Model_isDone_7 (by decide) ?_
  refine ld_iald (j := 1) hx hb hK.1 hP 1 0 rfl rfl (okI_in (by decide)) rfl d_Model_isDone_8 ?_
  obtain ⟨x1, h2, hf⟩ := bdE hf
  refine vR (q0 := 0) (ci := 11) (rest := []) C0 (c_Model_dueIn l D ty mA sM sN a1 a2 (sM 0 1) x1 h2) k_961 cal_Model_dueIn hK hP rfl rfl rfl ⟨by rw [hR]; decide, by rw [hR]; decide⟩ rfl rfl rfl hl.1 rfl (Nat.le_of_ble_eq_true rfl) d_Model_isDone_9 ⟨Nat.zero_le _, Nat.zero_le _⟩ rfl ?_
  refine lv_iload_n hx hb d_Model_isDone_12 rfl (lv_at hl 2 rfl) ?_
  refine lv_aload_n hx hb d_Model_isDone_13 rfl (lv_at hl 0 rfl) ?_
  refine va_get (D := D) (ci := 11) (v := .ref (mA 1)) (C := "BedFrontierModel") (T := T_Model) (N := 22) hx hb htt i_Model hown hK.1 hP 0 rfl rfl 0 (by decide) (htt _ k_772) (fun _ h9 => h9) rfl d_Model_isDone_14 ?_
  refine lv_iconst (v := (0 : Int32)) hx hb d_Model_isDone_17 (by decide) ?_
  refine ld_iald (j := 0) hx hb hK.1 hP 1 0 rfl rfl (okI_in (by decide)) rfl d_Model_isDone_18 ?_
  have J32 : ∀ (x3 : Int32), f_Model_isDone_J32 a2 sM sN x1 x3 = some (rr, tM, tN) → ∀ (H : Heap) (locs : List Loc) (ls : Array Slot), va_P D vwCl (L_m ty mA sM sN) H → va_D A (L_m ty mA sM sN) → va_S A s.heap H locs → lv_has ls 4 [(0, .ref (mA 0)), (2, .int a2)] → W p l e R s m args below meth c H locs 0 0 Q (F0 m 32 ls [.int x3, .int x1]) := by
    intro x3 hf H locs ls hP hD hS hl
    unfold f_Model_isDone_J32 at hf
    refine lv_iadd hx hb d_Model_isDone_32 ?_
    refine lv_topi (fun x4 e_x4 => ?_)
    replace hf := nmE hf e_x4
    refine lv_istore_n (lv' := [(3, .int x4), (0, .ref (mA 0)), (2, .int a2)]) hx hb d_Model_isDone_33 rfl hl (by decide) rfl (fun ls hl => ?_)
    refine lv_aload_n hx hb d_Model_isDone_34 rfl (lv_at hl 1 rfl) ?_
    refine va_get (D := D) (ci := 11) (v := .ref (mA 1)) (C := "BedFrontierModel") (T := T_Model) (N := 22) hx hb htt i_Model hown hK.1 hP 0 rfl rfl 0 (by decide) (htt _ k_772) (fun _ h9 => h9) rfl d_Model_isDone_35 ?_
    refine lv_iconst (v := (0 : Int32)) hx hb d_Model_isDone_38 (by decide) ?_
    refine lv_iload_n hx hb d_Model_isDone_39 rfl (lv_at hl 2 rfl) ?_
    refine st_iast (j := 0) hx hb hK.1 hP hD hS 1 0 rfl rfl (okI_in (by decide)) rfl d_Model_isDone_40 (fun H locs hP hD hS => ?_)
    obtain ⟨sM5, e_sM5⟩ : ∃ z : PW, z = up sM 0 (upd (sM 0) 0 a2) := ⟨_, rfl⟩
    replace hf := nmE hf e_sM5
    have hP : va_P D vwCl (L_m ty mA sM5 sN) H := by rw [e_sM5]; exact hP
    have hD : va_D A (L_m ty mA sM5 sN) := by rw [e_sM5]; exact hD
    refine lv_aload_n hx hb d_Model_isDone_41 rfl (lv_at hl 1 rfl) ?_
    refine va_get (D := D) (ci := 11) (v := .ref (mA 1)) (C := "BedFrontierModel") (T := T_Model) (N := 22) hx hb htt i_Model hown hK.1 hP 0 rfl rfl 0 (by decide) (htt _ k_772) (fun _ h9 => h9) rfl d_Model_isDone_42 ?_
    refine lv_iconst (v := (2 : Int32)) hx hb d_Model_isDone_45 (by decide) ?_
    refine lv_dup2_11 hx hb d_Model_isDone_46 rfl rfl ?_
    refine ld_iald (j := 2) hx hb hK.1 hP 1 0 rfl rfl (okI_in (by decide)) rfl d_Model_isDone_47 ?_
    refine lv_iload_n hx hb d_Model_isDone_48 rfl (lv_at hl 0 rfl) ?_
    refine lv_iadd hx hb d_Model_isDone_49 ?_
    refine st_iast (j := 2) hx hb hK.1 hP hD hS 1 0 rfl rfl (okI_in (by decide)) rfl d_Model_isDone_50 (fun H locs hP hD hS => ?_)
    obtain ⟨sM6, e_sM6⟩ : ∃ z : PW, z = up sM5 0 (upd (sM5 0) 2 ((sM5 0 2) + x4)) := ⟨_, rfl⟩
    replace hf := nmE hf e_sM6
    have hP : va_P D vwCl (L_m ty mA sM6 sN) H := by rw [e_sM6]; exact hP
    have hD : va_D A (L_m ty mA sM6 sN) := by rw [e_sM6]; exact hD
    refine lv_aload_n hx hb d_Model_isDone_51 rfl (lv_at hl 1 rfl) ?_
    refine va_get (D := D) (ci := 11) (v := .ref (mA 1)) (C := "BedFrontierModel") (T := T_Model) (N := 22) hx hb htt i_Model hown hK.1 hP 0 rfl rfl 0 (by decide) (htt _ k_772) (fun _ h9 => h9) rfl d_Model_isDone_52 ?_
    refine lv_iconst (v := (1 : Int32)) hx hb d_Model_isDone_55 (by decide) ?_
    refine lv_aload_n hx hb d_Model_isDone_56 rfl (lv_at hl 1 rfl) ?_
    refine va_get (D := D) (ci := 11) (v := .ref (mA 1)) (C := "BedFrontierModel") (T := T_Model) (N := 22) hx hb htt i_Model hown hK.1 hP 0 rfl rfl 0 (by decide) (htt _ k_772) (fun _ h9 => h9) rfl d_Model_isDone_57 ?_
    refine lv_iconst (v := (1 : Int32)) hx hb d_Model_isDone_60 (by decide) ?_
    refine ld_iald (j := 1) hx hb hK.1 hP 1 0 rfl rfl (okI_in (by decide)) rfl d_Model_isDone_61 ?_
    refine lv_iconst (v := (1 : Int32)) hx hb d_Model_isDone_62 (by decide) ?_
    refine lv_iadd hx hb d_Model_isDone_63 ?_
    refine lv_bipush (v := (24 : Int32)) hx hb d_Model_isDone_64 (by decide) ?_
    refine lv_irem hx hb d_Model_isDone_66 (by decide) ?_
    refine st_iast (j := 1) hx hb hK.1 hP hD hS 1 0 rfl rfl (okI_in (by decide)) rfl d_Model_isDone_67 (fun H locs hP hD hS => ?_)
    obtain ⟨sM7, e_sM7⟩ : ∃ z : PW, z = up sM6 0 (upd (sM6 0) 1 (((sM6 0 1) + (1 : Int32)) - ((sM6 0 1) + (1 : Int32)) / (24 : Int32) * (24 : Int32))) := ⟨_, rfl⟩
    replace hf := nmE hf e_sM7
    have hP : va_P D vwCl (L_m ty mA sM7 sN) H := by rw [e_sM7]; exact hP
    have hD : va_D A (L_m ty mA sM7 sN) := by rw [e_sM7]; exact hD
    refine lv_iload_n hx hb d_Model_isDone_68 rfl (lv_at hl 0 rfl) ?_
    obtain ⟨rfl, rfl, rfl⟩ := sj3 hf
    exact retM C0 (narI _) hQ hP hD hS d_Model_isDone_69
  refine lv_icmp_eq (tgt := 31) hx hb d_Model_isDone_19 (by decide) (fun c8 => ?_) (fun c8 => ?_)
  · replace hf := iteT c8 hf
    refine lv_iconst (v := (0 : Int32)) hx hb d_Model_isDone_31 (by decide) ?_
    exact J32 (0 : Int32) hf _ _ ls hP hD hS (lv_sub hl [0, 2] rfl)
  · replace hf := iteF c8 hf
    refine lv_aload_n hx hb d_Model_isDone_22 rfl (lv_at hl 0 rfl) ?_
    refine va_get (D := D) (ci := 11) (v := .ref (mA 1)) (C := "BedFrontierModel") (T := T_Model) (N := 22) hx hb htt i_Model hown hK.1 hP 0 rfl rfl 0 (by decide) (htt _ k_772) (fun _ h9 => h9) rfl d_Model_isDone_23 ?_
    refine lv_iconst (v := (4 : Int32)) hx hb d_Model_isDone_26 (by decide) ?_
    refine ld_iald (j := 4) hx hb hK.1 hP 1 0 rfl rfl (okI_in (by decide)) rfl d_Model_isDone_27 ?_
    refine lv_goto (tgt := 32) hx hb d_Model_isDone_28 (by decide) ?_
    exact J32 (sM 0 4) hf _ _ ls hP hD hS (lv_sub hl [0, 2] rfl)
def f_Model_does (sM : PW) (sN : PL) (a1 : Int32) (a2 : Int32) : Option (Int32 × PW × PL) :=
  bd (f_Model_isDoing sM sN a1) (fun x1 => (if x1 = 0 then bd3 (f_Model_bad sM sN) (fun x4 sM5 sN6 => some (x4, sM5, sN6)) else bd (f_Model_isSide a2) (fun x8 => (if x8 = 0 then bd3 (f_Model_bad sM sN) (fun x25 sM26 sN27 => some (x25, sM26, sN27)) else bd (f_Model_isThrough sM sN a1 a2 (sM 0 1)) (fun x11 => (if x11 = 0 then bd3 (f_Model_no sM sN) (fun x21 sM22 sN23 => some (x21, sM22, sN23)) else bd2 (f_Model_noteStep sM sN) (fun sM14 sN15 => bd3 (f_Model_isDone sM14 sN15 a1 a2) (fun x17 sM18 sN19 => some (x17, sM18, sN19)))))))))
set_option maxHeartbeats 4000000 in
set_option maxRecDepth 100000 in
theorem c_Model_does (l : Launch) (D : va_G) (ty : Nat → ClassId) (mA : Nat → Nat) (sz : Nat) (sM : PW) (sN : PL) (a1 : Int32) (a2 : Int32) (rr : Int32) (tM : PW) (tN : PL) (hf : f_Model_does sM sN a1 a2 = some (rr, tM, tN)) : Met l y_Model_does (Cond.code y_Model_does prog_13_method_34_code 3 ((Option.some FieldType.int)) :: lw_ok) { frames := 3, cells := 0, slots := 0, locals := 73 } (PcM D ty [.ref (mA 0), .int a1, .int a2] sz (L_m ty mA sM sN)) (QM D (L_m ty mA tM tN) (va_A (L_m ty mA sM sN) sz) (some (.int rr))) 0 0 (va_A (L_m ty mA sM sN) sz) := by
  refine hdM (by decide) (Nat.le_of_ble_eq_true rfl) ?_
  intro p e s m below meth c ls R args Q A C0 hR hQ hnm hAq hP hK hD hS hl
  obtain ⟨hx, hb, hr, hlk, hml, hown, htt⟩ := id C0
  have hl : lv_has ls 3 [(0, .ref (mA 0)), (1, .int a1), (2, .int a2)] := hl
  generalize hH0 : s.heap = H at hP hS ⊢
  have hS : va_S A s.heap H [] := by rw [hH0]; exact hS
  unfold f_Model_does at hf
  refine lv_aload_n hx hb d_Model_does_0 rfl (lv_at hl 0 rfl) ?_
  refine lv_iload_n hx hb d_Model_does_1 rfl (lv_at hl 1 rfl) ?_
  obtain ⟨x1, h2, hf⟩ := bdE hf
  refine vR (q0 := 0) (ci := 11) (rest := []) C0 (c_Model_isDoing l D ty mA sM sN a1 x1 h2) k_931 cal_Model_isDoing hK hP rfl rfl rfl ⟨by rw [hR]; decide, by rw [hR]; decide⟩ rfl rfl rfl hl.1 rfl (Nat.le_of_ble_eq_true rfl) d_Model_does_2 ⟨Nat.zero_le _, Nat.zero_le _⟩ rfl ?_
  refine lv_if_eq (tgt := 15) hx hb d_Model_does_5 (by decide) (fun c3 => ?_) (fun c3 => ?_)
  · replace hf := iteT c3 hf
    refine lv_aload_n hx hb d_Model_does_15 rfl (lv_at hl 0 rfl) ?_
    obtain ⟨x4, sM5, sN6, h7, hf⟩ := bd3E hf
    refine vM (Lc := (L_m ty mA sM sN)) (Lc' := (L_m ty mA sM5 sN6)) (L' := (L_m ty mA sM5 sN6)) (q0 := 0) (ci := 11) (rest := []) C0 (c_Model_bad l D ty mA H.size sM sN x4 sM5 sN6 h7) k_848 cal_Model_bad hK hP hD hS hAq [0, 1, 2, 3, 4, 5, 6, 7, 8, 9, 10, 11] [] [0, 1, 2, 3, 4, 5, 6, 7, 8, 9, 10, 11] [] rfl rfl (by decide) (by decide) (by decide) (by decide) rfl rfl rfl rfl ⟨by rw [hR]; decide, by rw [hR]; decide⟩ rfl rfl rfl hl.1 rfl (Nat.le_of_ble_eq_true rfl) d_Model_does_16 ⟨by rw [hR]; decide, by rw [hR]; decide⟩ rfl (fun H locs hP hD hS => ?_)
    obtain ⟨rfl, rfl, rfl⟩ := sj3 hf
    exact retM C0 (narI _) hQ hP hD hS d_Model_does_19
  · replace hf := iteF c3 hf
    refine lv_iload_n hx hb d_Model_does_8 rfl (lv_at hl 2 rfl) ?_
    obtain ⟨x8, h9, hf⟩ := bdE hf
    refine scR (rest := []) C0 (c_Model_isSide l D ty a2 x8 h9) k_856 cal_Model_isSide hK (va_P_nil) ⟨by rw [hR]; decide, by rw [hR]; decide⟩ rfl rfl rfl hl.1 rfl (Nat.le_of_ble_eq_true rfl) d_Model_does_9 ⟨Nat.zero_le _, Nat.zero_le _⟩ rfl ?_
    refine lv_if_ne (tgt := 20) hx hb d_Model_does_12 (by decide) (fun c10 => ?_) (fun c10 => ?_)
    · replace hf := iteF c10 hf
      refine lv_aload_n hx hb d_Model_does_20 rfl (lv_at hl 0 rfl) ?_
      refine lv_iload_n hx hb d_Model_does_21 rfl (lv_at hl 1 rfl) ?_
      refine lv_iload_n hx hb d_Model_does_22 rfl (lv_at hl 2 rfl) ?_
      refine lv_aload_n hx hb d_Model_does_23 rfl (lv_at hl 0 rfl) ?_
      refine va_get (D := D) (ci := 11) (v := .ref (mA 1)) (C := "BedFrontierModel") (T := T_Model) (N := 22) hx hb htt i_Model hown hK.1 hP 0 rfl rfl 0 (by decide) (htt _ k_772) (fun _ h9 => h9) rfl d_Model_does_24 ?_
      refine lv_iconst (v := (1 : Int32)) hx hb d_Model_does_27 (by decide) ?_
      refine ld_iald (j := 1) hx hb hK.1 hP 1 0 rfl rfl (okI_in (by decide)) rfl d_Model_does_28 ?_
      obtain ⟨x11, h12, hf⟩ := bdE hf
      refine vR (q0 := 0) (ci := 11) (rest := []) C0 (c_Model_isThrough l D ty mA sM sN a1 a2 (sM 0 1) x11 h12) k_935 cal_Model_isThrough hK hP rfl rfl rfl ⟨by rw [hR]; decide, by rw [hR]; decide⟩ rfl rfl rfl hl.1 rfl (Nat.le_of_ble_eq_true rfl) d_Model_does_29 ⟨Nat.zero_le _, Nat.zero_le _⟩ rfl ?_
      refine lv_if_ne (tgt := 40) hx hb d_Model_does_32 (by decide) (fun c13 => ?_) (fun c13 => ?_)
      · replace hf := iteF c13 hf
        refine lv_aload_n hx hb d_Model_does_40 rfl (lv_at hl 0 rfl) ?_
        obtain ⟨sM14, sN15, h16, hf⟩ := bd2E hf
        refine vM (Lc := (L_m ty mA sM sN)) (Lc' := (L_m ty mA sM14 sN15)) (L' := (L_m ty mA sM14 sN15)) (q0 := 0) (ci := 11) (rest := []) C0 (c_Model_noteStep l D ty mA H.size sM sN sM14 sN15 h16) k_953 cal_Model_noteStep hK hP hD hS hAq [0, 1, 2, 3, 4, 5, 6, 7, 8, 9, 10, 11] [] [0, 1, 2, 3, 4, 5, 6, 7, 8, 9, 10, 11] [] rfl rfl (by decide) (by decide) (by decide) (by decide) rfl rfl rfl rfl ⟨by rw [hR]; decide, by rw [hR]; decide⟩ rfl rfl rfl hl.1 rfl (Nat.le_of_ble_eq_true rfl) d_Model_does_41 ⟨by rw [hR]; decide, by rw [hR]; decide⟩ rfl (fun H locs hP hD hS => ?_)
        refine lv_aload_n hx hb d_Model_does_44 rfl (lv_at hl 0 rfl) ?_
        refine lv_iload_n hx hb d_Model_does_45 rfl (lv_at hl 1 rfl) ?_
        refine lv_iload_n hx hb d_Model_does_46 rfl (lv_at hl 2 rfl) ?_
        obtain ⟨x17, sM18, sN19, h20, hf⟩ := bd3E hf
        refine vM (Lc := (L_m ty mA sM14 sN15)) (Lc' := (L_m ty mA sM18 sN19)) (L' := (L_m ty mA sM18 sN19)) (q0 := 0) (ci := 11) (rest := []) C0 (c_Model_isDone l D ty mA H.size sM14 sN15 a1 a2 x17 sM18 sN19 h20) k_957 cal_Model_isDone hK hP hD hS hAq [0, 1, 2, 3, 4, 5, 6, 7, 8, 9, 10, 11] [] [0, 1, 2, 3, 4, 5, 6, 7, 8, 9, 10, 11] [] rfl rfl (by decide) (by decide) (by decide) (by decide) rfl rfl rfl rfl ⟨by rw [hR]; decide, by rw [hR]; decide⟩ rfl rfl rfl hl.1 rfl (Nat.le_of_ble_eq_true rfl) d_Model_does_47 ⟨by rw [hR]; decide, by rw [hR]; decide⟩ rfl (fun H locs hP hD hS => ?_)
        obtain ⟨rfl, rfl, rfl⟩ := sj3 hf
        exact retM C0 (narI _) hQ hP hD hS d_Model_does_50
      · replace hf := iteT c13 hf
        refine lv_aload_n hx hb d_Model_does_35 rfl (lv_at hl 0 rfl) ?_
        obtain ⟨x21, sM22, sN23, h24, hf⟩ := bd3E hf
        refine vM (Lc := (L_m ty mA sM sN)) (Lc' := (L_m ty mA sM22 sN23)) (L' := (L_m ty mA sM22 sN23)) (q0 := 0) (ci := 11) (rest := []) C0 (c_Model_no l D ty mA H.size sM sN x21 sM22 sN23 h24) k_949 cal_Model_no hK hP hD hS hAq [0, 1, 2, 3, 4, 5, 6, 7, 8, 9, 10, 11] [] [0, 1, 2, 3, 4, 5, 6, 7, 8, 9, 10, 11] [] rfl rfl (by decide) (by decide) (by decide) (by decide) rfl rfl rfl rfl ⟨by rw [hR]; decide, by rw [hR]; decide⟩ rfl rfl rfl hl.1 rfl (Nat.le_of_ble_eq_true rfl) d_Model_does_36 ⟨by rw [hR]; decide, by rw [hR]; decide⟩ rfl (fun H locs hP hD hS => ?_)
        obtain ⟨rfl, rfl, rfl⟩ := sj3 hf
        exact retM C0 (narI _) hQ hP hD hS d_Model_does_39
    · replace hf := iteT c10 hf
      refine lv_aload_n hx hb d_Model_does_15 rfl (lv_at hl 0 rfl) ?_
      obtain ⟨x25, sM26, sN27, h28, hf⟩ := bd3E hf
      refine vM (Lc := (L_m ty mA sM sN)) (Lc' := (L_m ty mA sM26 sN27)) (L' := (L_m ty mA sM26 sN27)) (q0 := 0) (ci := 11) (rest := []) C0 (c_Model_bad l D ty mA H.size sM sN x25 sM26 sN27 h28) k_848 cal_Model_bad hK hP hD hS hAq [0, 1, 2, 3, 4, 5, 6, 7, 8, 9, 10, 11] [] [0, 1, 2, 3, 4, 5, 6, 7, 8, 9, 10, 11] [] rfl rfl (by decide) (by decide) (by decide) (by decide) rfl rfl rfl rfl ⟨by rw [hR]; decide, by rw [hR]; decide⟩ rfl rfl rfl hl.1 rfl (Nat.le_of_ble_eq_true rfl) d_Model_does_16 ⟨by rw [hR]; decide, by rw [hR]; decide⟩ rfl (fun H locs hP hD hS => ?_)
      obtain ⟨rfl, rfl, rfl⟩ := sj3 hf
      exact retM C0 (narI _) hQ hP hD hS d_Model_does_19
def f_Model_waits (sM : PW) (sN : PL) (a1 : Int32) : Option (Int32 × PW × PL) :=
  bd (f_Model_in ((a1).toInt64) (1 : Int64) (24 : Int64)) (fun x1 => (if x1 = 0 then bd3 (f_Model_bad sM sN) (fun x8 sM9 sN10 => some (x8, sM9, sN10)) else bd2 (f_Model_noteStep sM sN) (fun sM4 sN5 => nm (up sM4 0 (upd (sM4 0) 1 (((sM4 0 1) + a1) - ((sM4 0 1) + a1) / (24 : Int32) * (24 : Int32)))) (fun sM7 => some ((sM7 0 1), sM7, sN5)))))
set_option maxHeartbeats 4000000 in
set_option maxRecDepth 100000 in
theorem c_Model_waits (l : Launch) (D : va_G) (ty : Nat → ClassId) (mA : Nat → Nat) (sz : Nat) (sM : PW) (sN : PL) (a1 : Int32) (rr : Int32) (tM : PW) (tN : PL) (hf : f_Model_waits sM sN a1 = some (rr, tM, tN)) : Met l y_Model_waits (Cond.code y_Model_waits prog_13_method_35_code 2 ((Option.some FieldType.int)) :: lw_ok) { frames := 1, cells := 0, slots := 0, locals := 25 } (PcM D ty [.ref (mA 0), .int a1] sz (L_m ty mA sM sN)) (QM D (L_m ty mA tM tN) (va_A (L_m ty mA sM sN) sz) (some (.int rr))) 0 0 (va_A (L_m ty mA sM sN) sz) := by
  refine hdM (by decide) (Nat.le_of_ble_eq_true rfl) ?_
  intro p e s m below meth c ls R args Q A C0 hR hQ hnm hAq hP hK hD hS hl
  obtain ⟨hx, hb, hr, hlk, hml, hown, htt⟩ := id C0
  have hl : lv_has ls 2 [(0, .ref (mA 0)), (1, .int a1)] := hl
  generalize hH0 : s.heap = H at hP hS ⊢
  have hS : va_S A s.heap H [] := by rw [hH0]; exact hS
  unfold f_Model_waits at hf
  refine lv_iload_n hx hb d_Model_waits_0 rfl (lv_at hl 1 rfl) ?_
  refine lv_i2l hx hb d_Model_waits_1 rfl ?_
  refine lv_lconst (v := (1 : Int64)) hx hb d_Model_waits_2 (by decide) ?_
  refine lv_ldc2 (v := (24 : Int64)) hx hb hown (htt _ k_973) d_Model_waits_3 ?_
  obtain ⟨x1, h2, hf⟩ := bdE hf
  refine scR (rest := []) C0 (c_Model_in l D ty ((a1).toInt64) (1 : Int64) (24 : Int64) x1 h2) k_845 cal_Model_in hK (va_P_nil) ⟨by rw [hR]; decide, by rw [hR]; decide⟩ rfl rfl rfl hl.1 rfl (Nat.le_of_ble_eq_true rfl) d_Model_waits_6 ⟨Nat.zero_le _, Nat.zero_le _⟩ rfl ?_
  refine lv_if_ne (tgt := 17) hx hb d_Model_waits_9 (by decide) (fun c3 => ?_) (fun c3 => ?_)
  · replace hf := iteF c3 hf
    refine lv_aload_n hx hb d_Model_waits_17 rfl (lv_at hl 0 rfl) ?_
    obtain ⟨sM4, sN5, h6, hf⟩ := bd2E hf
    refine vM (Lc := (L_m ty mA sM sN)) (Lc' := (L_m ty mA sM4 sN5)) (L' := (L_m ty mA sM4 sN5)) (q0 := 0) (ci := 11) (rest := []) C0 (c_Model_noteStep l D ty mA H.size sM sN sM4 sN5 h6) k_953 cal_Model_noteStep hK hP hD hS hAq [0, 1, 2, 3, 4, 5, 6, 7, 8, 9, 10, 11] [] [0, 1, 2, 3, 4, 5, 6, 7, 8, 9, 10, 11] [] rfl rfl (by decide) (by decide) (by decide) (by decide) rfl rfl rfl rfl ⟨by rw [hR]; decide, by rw [hR]; decide⟩ rfl rfl rfl hl.1 rfl (Nat.le_of_ble_eq_true rfl) d_Model_waits_18 ⟨by rw [hR]; decide, by rw [hR]; decide⟩ rfl (fun H locs hP hD hS => ?_)
    refine lv_aload_n hx hb d_Model_waits_21 rfl (lv_at hl 0 rfl) ?_
    refine va_get (D := D) (ci := 11) (v := .ref (mA 1)) (C := "BedFrontierModel") (T := T_Model) (N := 22) hx hb htt i_Model hown hK.1 hP 0 rfl rfl 0 (by decide) (htt _ k_772) (fun _ h9 => h9) rfl d_Model_waits_22 ?_
    refine lv_iconst (v := (1 : Int32)) hx hb d_Model_waits_25 (by decide) ?_
    refine lv_aload_n hx hb d_Model_waits_26 rfl (lv_at hl 0 rfl) ?_
    refine va_get (D := D) (ci := 11) (v := .ref (mA 1)) (C := "BedFrontierModel") (T := T_Model) (N := 22) hx hb htt i_Model hown hK.1 hP 0 rfl rfl 0 (by decide) (htt _ k_772) (fun _ h9 => h9) rfl d_Model_waits_27 ?_
    refine lv_iconst (v := (1 : Int32)) hx hb d_Model_waits_30 (by decide) ?_
    refine ld_iald (j := 1) hx hb hK.1 hP 1 0 rfl rfl (okI_in (by decide)) rfl d_Model_waits_31 ?_
    refine lv_iload_n hx hb d_Model_waits_32 rfl (lv_at hl 1 rfl) ?_
    refine lv_iadd hx hb d_Model_waits_33 ?_
    refine lv_bipush (v := (24 : Int32)) hx hb d_Model_waits_34 (by decide) ?_
    refine lv_irem hx hb d_Model_waits_36 (by decide) ?_
    refine st_iast (j := 1) hx hb hK.1 hP hD hS 1 0 rfl rfl (okI_in (by decide)) rfl d_Model_waits_37 (fun H locs hP hD hS => ?_)
    obtain ⟨sM7, e_sM7⟩ : ∃ z : PW, z = up sM4 0 (upd (sM4 0) 1 (((sM4 0 1) + a1) - ((sM4 0 1) + a1) / (24 : Int32) * (24 : Int32))) := ⟨_, rfl⟩
    replace hf := nmE hf e_sM7
    have hP : va_P D vwCl (L_m ty mA sM7 sN5) H := by rw [e_sM7]; exact hP
    have hD : va_D A (L_m ty mA sM7 sN5) := by rw [e_sM7]; exact hD
    refine lv_aload_n hx hb d_Model_waits_38 rfl (lv_at hl 0 rfl) ?_
    refine va_get (D := D) (ci := 11) (v := .ref (mA 1)) (C := "BedFrontierModel") (T := T_Model) (N := 22) hx hb htt i_Model hown hK.1 hP 0 rfl rfl 0 (by decide) (htt _ k_772) (fun _ h9 => h9) rfl d_Model_waits_39 ?_
    refine lv_iconst (v := (1 : Int32)) hx hb d_Model_waits_42 (by decide) ?_
    refine ld_iald (j := 1) hx hb hK.1 hP 1 0 rfl rfl (okI_in (by decide)) rfl d_Model_waits_43 ?_
    obtain ⟨rfl, rfl, rfl⟩ := sj3 hf
    exact retM C0 (narI _) hQ hP hD hS d_Model_waits_44
  · replace hf := iteT c3 hf
    refine lv_aload_n hx hb d_Model_waits_12 rfl (lv_at hl 0 rfl) ?_
    obtain ⟨x8, sM9, sN10, h11, hf⟩ := bd3E hf
    refine vM (Lc := (L_m ty mA sM sN)) (Lc' := (L_m ty mA sM9 sN10)) (L' := (L_m ty mA sM9 sN10)) (q0 := 0) (ci := 11) (rest := []) C0 (c_Model_bad l D ty mA H.size sM sN x8 sM9 sN10 h11) k_848 cal_Model_bad hK hP hD hS hAq [0, 1, 2, 3, 4, 5, 6, 7, 8, 9, 10, 11] [] [0, 1, 2, 3, 4, 5, 6, 7, 8, 9, 10, 11] [] rfl rfl (by decide) (by decide) (by decide) (by decide) rfl rfl rfl rfl ⟨by rw [hR]; decide, by rw [hR]; decide⟩ rfl rfl rfl hl.1 rfl (Nat.le_of_ble_eq_true rfl) d_Model_waits_13 ⟨by rw [hR]; decide, by rw [hR]; decide⟩ rfl (fun H locs hP hD hS => ?_)
    obtain ⟨rfl, rfl, rfl⟩ := sj3 hf
    exact retM C0 (narI _) hQ hP hD hS d_Model_waits_16
def f_Model_war (sM : PW) (sN : PL) (a1 : Int32) : Option (Int32 × PW × PL) :=
  bd (f_Model_in ((a1).toInt64) (0 : Int64) (1 : Int64)) (fun x1 => (if x1 = 0 then bd3 (f_Model_bad sM sN) (fun x9 sM10 sN11 => some (x9, sM10, sN11)) else bd2 (f_Model_noteStep sM sN) (fun sM4 sN5 => nm (sM4 0 3) (fun x7 => nm (up sM4 0 (upd (sM4 0) 3 a1)) (fun sM8 => some (x7, sM8, sN5))))))
set_option maxHeartbeats 4000000 in
set_option maxRecDepth 100000 in
theorem c_Model_war (l : Launch) (D : va_G) (ty : Nat → ClassId) (mA : Nat → Nat) (sz : Nat) (sM : PW) (sN : PL) (a1 : Int32) (rr : Int32) (tM : PW) (tN : PL) (hf : f_Model_war sM sN a1 = some (rr, tM, tN)) : Met l y_Model_war (Cond.code y_Model_war prog_13_method_36_code 3 ((Option.some FieldType.int)) :: lw_ok) { frames := 1, cells := 0, slots := 0, locals := 25 } (PcM D ty [.ref (mA 0), .int a1] sz (L_m ty mA sM sN)) (QM D (L_m ty mA tM tN) (va_A (L_m ty mA sM sN) sz) (some (.int rr))) 0 0 (va_A (L_m ty mA sM sN) sz) := by
  refine hdM (by decide) (Nat.le_of_ble_eq_true rfl) ?_
  intro p e s m below meth c ls R args Q A C0 hR hQ hnm hAq hP hK hD hS hl
  obtain ⟨hx, hb, hr, hlk, hml, hown, htt⟩ := id C0
  have hl : lv_has ls 3 [(0, .ref (mA 0)), (1, .int a1)] := hl
  generalize hH0 : s.heap = H at hP hS ⊢
  have hS : va_S A s.heap H [] := by rw [hH0]; exact hS
  unfold f_Model_war at hf
  refine lv_iload_n hx hb d_Model_war_0 rfl (lv_at hl 1 rfl) ?_
  refine lv_i2l hx hb d_Model_war_1 rfl ?_
  refine lv_lconst (v := (0 : Int64)) hx hb d_Model_war_2 (by decide) ?_
  refine lv_lconst (v := (1 : Int64)) hx hb d_Model_war_3 (by decide) ?_
  obtain ⟨x1, h2, hf⟩ := bdE hf
  refine scR (rest := []) C0 (c_Model_in l D ty ((a1).toInt64) (0 : Int64) (1 : Int64) x1 h2) k_845 cal_Model_in hK (va_P_nil) ⟨by rw [hR]; decide, by rw [hR]; decide⟩ rfl rfl rfl hl.1 rfl (Nat.le_of_ble_eq_true rfl) d_Model_war_4 ⟨Nat.zero_le _, Nat.zero_le _⟩ rfl ?_
  refine lv_if_ne (tgt := 15) hx hb d_Model_war_7 (by decide) (fun c3 => ?_) (fun c3 => ?_)
  · replace hf := iteF c3 hf
    refine lv_aload_n hx hb d_Model_war_15 rfl (lv_at hl 0 rfl) ?_
    obtain ⟨sM4, sN5, h6, hf⟩ := bd2E hf
    refine vM (Lc := (L_m ty mA sM sN)) (Lc' := (L_m ty mA sM4 sN5)) (L' := (L_m ty mA sM4 sN5)) (q0 := 0) (ci := 11) (rest := []) C0 (c_Model_noteStep l D ty mA H.size sM sN sM4 sN5 h6) k_953 cal_Model_noteStep hK hP hD hS hAq [0, 1, 2, 3, 4, 5, 6, 7, 8, 9, 10, 11] [] [0, 1, 2, 3, 4, 5, 6, 7, 8, 9, 10, 11] [] rfl rfl (by decide) (by decide) (by decide) (by decide) rfl rfl rfl rfl ⟨by rw [hR]; decide, by rw [hR]; decide⟩ rfl rfl rfl hl.1 rfl (Nat.le_of_ble_eq_true rfl) d_Model_war_16 ⟨by rw [hR]; decide, by rw [hR]; decide⟩ rfl (fun H locs hP hD hS => ?_)
    refine lv_aload_n hx hb d_Model_war_19 rfl (lv_at hl 0 rfl) ?_
    refine va_get (D := D) (ci := 11) (v := .ref (mA 1)) (C := "BedFrontierModel") (T := T_Model) (N := 22) hx hb htt i_Model hown hK.1 hP 0 rfl rfl 0 (by decide) (htt _ k_772) (fun _ h9 => h9) rfl d_Model_war_20 ?_
    refine lv_iconst (v := (3 : Int32)) hx hb d_Model_war_23 (by decide) ?_
    refine ld_iald (j := 3) hx hb hK.1 hP 1 0 rfl rfl (okI_in (by decide)) rfl d_Model_war_24 ?_
    refine lv_topi (fun x7 e_x7 => ?_)
    replace hf := nmE hf e_x7
    refine lv_istore_n (lv' := [(2, .int x7), (0, .ref (mA 0)), (1, .int a1)]) hx hb d_Model_war_25 rfl hl (by decide) rfl (fun ls hl => ?_)
    refine lv_aload_n hx hb d_Model_war_26 rfl (lv_at hl 1 rfl) ?_
    refine va_get (D := D) (ci := 11) (v := .ref (mA 1)) (C := "BedFrontierModel") (T := T_Model) (N := 22) hx hb htt i_Model hown hK.1 hP 0 rfl rfl 0 (by decide) (htt _ k_772) (fun _ h9 => h9) rfl d_Model_war_27 ?_
    refine lv_iconst (v := (3 : Int32)) hx hb d_Model_war_30 (by decide) ?_
    refine lv_iload_n hx hb d_Model_war_31 rfl (lv_at hl 2 rfl) ?_
    refine st_iast (j := 3) hx hb hK.1 hP hD hS 1 0 rfl rfl (okI_in (by decide)) rfl d_Model_war_32 (fun H locs hP hD hS => ?_)
    obtain ⟨sM8, e_sM8⟩ : ∃ z : PW, z = up sM4 0 (upd (sM4 0) 3 a1) := ⟨_, rfl⟩
    replace hf := nmE hf e_sM8
    have hP : va_P D vwCl (L_m ty mA sM8 sN5) H := by rw [e_sM8]; exact hP
    have hD : va_D A (L_m ty mA sM8 sN5) := by rw [e_sM8]; exact hD
    refine lv_iload_n hx hb d_Model_war_33 rfl (lv_at hl 0 rfl) ?_
    obtain ⟨rfl, rfl, rfl⟩ := sj3 hf
    exact retM C0 (narI _) hQ hP hD hS d_Model_war_34
  · replace hf := iteT c3 hf
    refine lv_aload_n hx hb d_Model_war_10 rfl (lv_at hl 0 rfl) ?_
    obtain ⟨x9, sM10, sN11, h12, hf⟩ := bd3E hf
    refine vM (Lc := (L_m ty mA sM sN)) (Lc' := (L_m ty mA sM10 sN11)) (L' := (L_m ty mA sM10 sN11)) (q0 := 0) (ci := 11) (rest := []) C0 (c_Model_bad l D ty mA H.size sM sN x9 sM10 sN11 h12) k_848 cal_Model_bad hK hP hD hS hAq [0, 1, 2, 3, 4, 5, 6, 7, 8, 9, 10, 11] [] [0, 1, 2, 3, 4, 5, 6, 7, 8, 9, 10, 11] [] rfl rfl (by decide) (by decide) (by decide) (by decide) rfl rfl rfl rfl ⟨by rw [hR]; decide, by rw [hR]; decide⟩ rfl rfl rfl hl.1 rfl (Nat.le_of_ble_eq_true rfl) d_Model_war_11 ⟨by rw [hR]; decide, by rw [hR]; decide⟩ rfl (fun H locs hP hD hS => ?_)
    obtain ⟨rfl, rfl, rfl⟩ := sj3 hf
    exact retM C0 (narI _) hQ hP hD hS d_Model_war_14
def f_Model_undo_L24 (K24 : Int32 × PW × PL → Option (Int32 × PW × PL)) : Int32 × PW × PL → Option (Int32 × PW × PL)
  | (x3, sM4, sN5) =>
  (if (4 : Int32) ≤ x3 then some ((sM4 0 2), sM4, sN5) else gd (okI (((4 : Int32) * (sM4 14 0)) + x3) 32) (gd (okI x3 53) (nm (up sM4 0 (upd (sM4 0) ((x3).toNatClampNeg) (sM4 13 ((((4 : Int32) * (sM4 14 0)) + x3)).toNatClampNeg))) (fun sM9 => nm (x3 + (1 : Int32)) (fun x10 => K24 (x10, sM9, sN5))))))
def f_Model_undo (sM : PW) (sN : PL) : Option (Int32 × PW × PL) :=
  (if (sM 14 0) = 0 then bd3 (f_Model_no sM sN) (fun x11 sM12 sN13 => some (x11, sM12, sN13)) else nm (up sM 14 (fun _ => ((sM 14 0) - (1 : Int32)))) (fun sM2 => loopF f_Model_undo_L24 4000 ((0 : Int32), sM2, sN)))
set_option maxHeartbeats 4000000 in
set_option maxRecDepth 100000 in
theorem c_Model_undo (l : Launch) (D : va_G) (ty : Nat → ClassId) (mA : Nat → Nat) (sz : Nat) (sM : PW) (sN : PL) (rr : Int32) (tM : PW) (tN : PL) (hf : f_Model_undo sM sN = some (rr, tM, tN)) : Met l y_Model_undo (Cond.code y_Model_undo prog_13_method_37_code 2 ((Option.some FieldType.int)) :: lw_ok) { frames := 1, cells := 0, slots := 0, locals := 20 } (PcM D ty [.ref (mA 0)] sz (L_m ty mA sM sN)) (QM D (L_m ty mA tM tN) (va_A (L_m ty mA sM sN) sz) (some (.int rr))) 0 0 (va_A (L_m ty mA sM sN) sz) := by
  refine hdM (by decide) (Nat.le_of_ble_eq_true rfl) ?_
  intro p e s m below meth c ls R args Q A C0 hR hQ hnm hAq hP hK hD hS hl
  obtain ⟨hx, hb, hr, hlk, hml, hown, htt⟩ := id C0
  have hl : lv_has ls 2 [(0, .ref (mA 0))] := hl
  generalize hH0 : s.heap = H at hP hS ⊢
  have hS : va_S A s.heap H [] := by rw [hH0]; exact hS
  unfold f_Model_undo at hf
  refine lv_aload_n hx hb d_Model_undo_0 rfl (lv_at hl 0 rfl) ?_
  refine va_get (D := D) (ci := 11) (v := .int (sM 14 0)) (C := "BedFrontierModel") (T := T_Model) (N := 22) hx hb htt i_Model hown hK.1 hP 0 rfl rfl 14 (by decide) (htt _ k_786) (fun _ h9 => h9) rfl d_Model_undo_1 ?_
  refine lv_if_ne (tgt := 12) hx hb d_Model_undo_4 (by decide) (fun c1 => ?_) (fun c1 => ?_)
  · replace hf := iteF c1 hf
    refine lv_aload_n hx hb d_Model_undo_12 rfl (lv_at hl 0 rfl) ?_
    refine lv_dup hx hb d_Model_undo_13 rfl ?_
    refine va_get (D := D) (ci := 11) (v := .int (sM 14 0)) (C := "BedFrontierModel") (T := T_Model) (N := 22) hx hb htt i_Model hown hK.1 hP 0 rfl rfl 14 (by decide) (htt _ k_786) (fun _ h9 => h9) rfl d_Model_undo_14 ?_
    refine lv_iconst (v := (1 : Int32)) hx hb d_Model_undo_17 (by decide) ?_
    refine lv_isub hx hb d_Model_undo_18 ?_
    refine va_put (D := D) (ci := 11) (v := .int ((sM 14 0) - (1 : Int32))) (ty := .int) (C := "BedFrontierModel") (T := T_Model) (N := 22) hx hb htt i_Model t_Model t_Model_ok n_Model hown hK.1 hP hD hS 0 rfl rfl 14 (by decide) (htt _ k_786) (fun _ h9 => h9) rfl pfI rfl rfl (Nat.le_of_ble_eq_true rfl) d_Model_undo_19 (fun H locs hP hD hS => ?_)
    obtain ⟨sM2, e_sM2⟩ : ∃ z : PW, z = up sM 14 (fun _ => ((sM 14 0) - (1 : Int32))) := ⟨_, rfl⟩
    replace hf := nmE hf e_sM2
    have hP : va_P D vwCl (L_m ty mA sM2 sN) H := by rw [e_sM2]; exact hP
    have hD : va_D A (L_m ty mA sM2 sN) := by rw [e_sM2]; exact hD
    refine lv_iconst (v := (0 : Int32)) hx hb d_Model_undo_22 (by decide) ?_
    refine lv_istore_n (lv' := [(1, .int (0 : Int32)), (0, .ref (mA 0))]) hx hb d_Model_undo_23 rfl hl (by decide) rfl (fun ls hl => ?_)
    have B24 : ∀ (n : Nat) (x : Int32 × PW × PL), loopF f_Model_undo_L24 n x = some (rr, tM, tN) → ∀ (H : Heap) (locs : List Loc) (ls : Array Slot), va_P D vwCl (L_m ty mA (x.2.1) (x.2.2)) H → va_D A (L_m ty mA (x.2.1) (x.2.2)) → va_S A s.heap H locs → lv_has ls 2 [(0, .ref (mA 0)), (1, .int (x.1))] → W p l e R s m args below meth c H locs 0 0 Q (F0 m 24 ls []) := by
      refine loopW (fun (x : Int32 × PW × PL) => ∀ (H : Heap) (locs : List Loc) (ls : Array Slot), va_P D vwCl (L_m ty mA (x.2.1) (x.2.2)) H → va_D A (L_m ty mA (x.2.1) (x.2.2)) → va_S A s.heap H locs → lv_has ls 2 [(0, .ref (mA 0)), (1, .int (x.1))] → W p l e R s m args below meth c H locs 0 0 Q (F0 m 24 ls [])) ?_
      intro K24 hK24 x hf
      obtain ⟨x3, sM4, sN5⟩ := x
      rw [f_Model_undo_L24] at hf
      intro H locs ls hP hD hS hl
      have hl : lv_has ls 2 [(0, .ref (mA 0)), (1, .int x3)] := hl
      have hP : va_P D vwCl (L_m ty mA sM4 sN5) H := hP
      have hD : va_D A (L_m ty mA sM4 sN5) := hD
      show W p l e R s m args below meth c H locs 0 0 Q (F0 m 24 ls [])
      refine lv_iload_n hx hb d_Model_undo_24 rfl (lv_at hl 1 rfl) ?_
      refine lv_iconst (v := (4 : Int32)) hx hb d_Model_undo_25 (by decide) ?_
      refine lv_icmp_ge (tgt := 54) hx hb d_Model_undo_26 (by decide) (fun c6 => ?_) (fun c6 => ?_)
      · replace hf := iteT c6 hf
        refine lv_aload_n hx hb d_Model_undo_54 rfl (lv_at hl 0 rfl) ?_
        refine va_get (D := D) (ci := 11) (v := .ref (mA 1)) (C := "BedFrontierModel") (T := T_Model) (N := 22) hx hb htt i_Model hown hK.1 hP 0 rfl rfl 0 (by decide) (htt _ k_772) (fun _ h9 => h9) rfl d_Model_undo_55 ?_
        refine lv_iconst (v := (2 : Int32)) hx hb d_Model_undo_58 (by decide) ?_
        refine ld_iald (j := 2) hx hb hK.1 hP 1 0 rfl rfl (okI_in (by decide)) rfl d_Model_undo_59 ?_
        obtain ⟨rfl, rfl, rfl⟩ := sj3 hf
        exact retM C0 (narI _) hQ hP hD hS d_Model_undo_60
      · replace hf := iteF c6 hf
        refine lv_aload_n hx hb d_Model_undo_29 rfl (lv_at hl 0 rfl) ?_
        refine va_get (D := D) (ci := 11) (v := .ref (mA 1)) (C := "BedFrontierModel") (T := T_Model) (N := 22) hx hb htt i_Model hown hK.1 hP 0 rfl rfl 0 (by decide) (htt _ k_772) (fun _ h9 => h9) rfl d_Model_undo_30 ?_
        refine lv_iload_n hx hb d_Model_undo_33 rfl (lv_at hl 1 rfl) ?_
        refine lv_aload_n hx hb d_Model_undo_34 rfl (lv_at hl 0 rfl) ?_
        refine va_get (D := D) (ci := 11) (v := .ref (mA 14)) (C := "BedFrontierModel") (T := T_Model) (N := 22) hx hb htt i_Model hown hK.1 hP 0 rfl rfl 13 (by decide) (htt _ k_785) (fun _ h9 => h9) rfl d_Model_undo_35 ?_
        refine lv_iconst (v := (4 : Int32)) hx hb d_Model_undo_38 (by decide) ?_
        refine lv_aload_n hx hb d_Model_undo_39 rfl (lv_at hl 0 rfl) ?_
        refine va_get (D := D) (ci := 11) (v := .int (sM4 14 0)) (C := "BedFrontierModel") (T := T_Model) (N := 22) hx hb htt i_Model hown hK.1 hP 0 rfl rfl 14 (by decide) (htt _ k_786) (fun _ h9 => h9) rfl d_Model_undo_40 ?_
        refine lv_imul hx hb d_Model_undo_43 ?_
        refine lv_iload_n hx hb d_Model_undo_44 rfl (lv_at hl 1 rfl) ?_
        refine lv_iadd hx hb d_Model_undo_45 ?_
        obtain ⟨g7, hf⟩ := gdE hf
        refine va_iald hx hb hK.1 hP 5 0 rfl rfl (okI_in g7) d_Model_undo_46 ?_
        obtain ⟨g8, hf⟩ := gdE hf
        refine va_iast hx hb hK.1 hP hD hS 1 0 rfl rfl (okI_in g8) d_Model_undo_47 (fun H locs hP hD hS => ?_)
        obtain ⟨sM9, e_sM9⟩ : ∃ z : PW, z = up sM4 0 (upd (sM4 0) ((x3).toNatClampNeg) (sM4 13 ((((4 : Int32) * (sM4 14 0)) + x3)).toNatClampNeg)) := ⟨_, rfl⟩
        replace hf := nmE hf e_sM9
        have hP : va_P D vwCl (L_m ty mA sM9 sN5) H := by rw [e_sM9]; exact hP
        have hD : va_D A (L_m ty mA sM9 sN5) := by rw [e_sM9]; exact hD
        obtain ⟨x10, e_x10⟩ : ∃ z : Int32, z = (x3 + (1 : Int32)) := ⟨_, rfl⟩
        replace hf := nmE hf e_x10
        refine lv_iinc (v := x10) (lv' := [(1, .int x10), (0, .ref (mA 0))]) hx hb d_Model_undo_48 hl (k := 1) rfl (by rw [e_x10]; rfl) (by decide) rfl (fun ls hl => ?_)
        refine lv_goto (tgt := 24) hx hb d_Model_undo_51 (by decide) ?_
        exact hK24 (x10, sM9, sN5) hf _ _ ls hP hD hS (lv_sub hl [1, 0] rfl)
    exact B24 4000 ((0 : Int32), sM2, sN) hf _ _ ls hP hD hS (lv_sub hl [1, 0] rfl)
  · replace hf := iteT c1 hf
    refine lv_aload_n hx hb d_Model_undo_7 rfl (lv_at hl 0 rfl) ?_
    obtain ⟨x11, sM12, sN13, h14, hf⟩ := bd3E hf
    refine vM (Lc := (L_m ty mA sM sN)) (Lc' := (L_m ty mA sM12 sN13)) (L' := (L_m ty mA sM12 sN13)) (q0 := 0) (ci := 11) (rest := []) C0 (c_Model_no l D ty mA H.size sM sN x11 sM12 sN13 h14) k_949 cal_Model_no hK hP hD hS hAq [0, 1, 2, 3, 4, 5, 6, 7, 8, 9, 10, 11] [] [0, 1, 2, 3, 4, 5, 6, 7, 8, 9, 10, 11] [] rfl rfl (by decide) (by decide) (by decide) (by decide) rfl rfl rfl rfl ⟨by rw [hR]; decide, by rw [hR]; decide⟩ rfl rfl rfl hl.1 rfl (Nat.le_of_ble_eq_true rfl) d_Model_undo_8 ⟨by rw [hR]; decide, by rw [hR]; decide⟩ rfl (fun H locs hP hD hS => ?_)
    obtain ⟨rfl, rfl, rfl⟩ := sj3 hf
    exact retM C0 (narI _) hQ hP hD hS d_Model_undo_11
def f_Model_of (sM : PW) (sN : PL) (a1 : Int32) (a2 : Int32) : Option (Int32 × PW × PL) :=
  bd (f_Model_isDoing sM sN a1) (fun x1 => (if x1 = 0 then bd3 (f_Model_bad sM sN) (fun x4 sM5 sN6 => some (x4, sM5, sN6)) else bd (f_Model_in ((a2).toInt64) (0 : Int64) (1 : Int64)) (fun x8 => (if x8 = 0 then bd3 (f_Model_bad sM sN) (fun x14 sM15 sN16 => some (x14, sM15, sN16)) else (if a2 = 0 then gd (okI ((10 : Int32) + a1) 53) (some ((sM 0 (((10 : Int32) + a1)).toNatClampNeg), sM, sN)) else gd (okI ((16 : Int32) + a1) 53) (some ((sM 0 (((16 : Int32) + a1)).toNatClampNeg), sM, sN)))))))
set_option maxHeartbeats 4000000 in
set_option maxRecDepth 100000 in
theorem c_Model_of (l : Launch) (D : va_G) (ty : Nat → ClassId) (mA : Nat → Nat) (sz : Nat) (sM : PW) (sN : PL) (a1 : Int32) (a2 : Int32) (rr : Int32) (tM : PW) (tN : PL) (hf : f_Model_of sM sN a1 a2 = some (rr, tM, tN)) : Met l y_Model_of (Cond.code y_Model_of prog_13_method_38_code 3 ((Option.some FieldType.int)) :: lw_ok) { frames := 2, cells := 0, slots := 0, locals := 46 } (PcM D ty [.ref (mA 0), .int a1, .int a2] sz (L_m ty mA sM sN)) (QM D (L_m ty mA tM tN) (va_A (L_m ty mA sM sN) sz) (some (.int rr))) 0 0 (va_A (L_m ty mA sM sN) sz) := by
  refine hdM (by decide) (Nat.le_of_ble_eq_true rfl) ?_
  intro p e s m below meth c ls R args Q A C0 hR hQ hnm hAq hP hK hD hS hl
  obtain ⟨hx, hb, hr, hlk, hml, hown, htt⟩ := id C0
  have hl : lv_has ls 3 [(0, .ref (mA 0)), (1, .int a1), (2, .int a2)] := hl
  generalize hH0 : s.heap = H at hP hS ⊢
  have hS : va_S A s.heap H [] := by rw [hH0]; exact hS
  unfold f_Model_of at hf
  refine lv_aload_n hx hb d_Model_of_0 rfl (lv_at hl 0 rfl) ?_
  refine lv_iload_n hx hb d_Model_of_1 rfl (lv_at hl 1 rfl) ?_
  obtain ⟨x1, h2, hf⟩ := bdE hf
  refine vR (q0 := 0) (ci := 11) (rest := []) C0 (c_Model_isDoing l D ty mA sM sN a1 x1 h2) k_931 cal_Model_isDoing hK hP rfl rfl rfl ⟨by rw [hR]; decide, by rw [hR]; decide⟩ rfl rfl rfl hl.1 rfl (Nat.le_of_ble_eq_true rfl) d_Model_of_2 ⟨Nat.zero_le _, Nat.zero_le _⟩ rfl ?_
  refine lv_if_eq (tgt := 18) hx hb d_Model_of_5 (by decide) (fun c3 => ?_) (fun c3 => ?_)
  · replace hf := iteT c3 hf
    refine lv_aload_n hx hb d_Model_of_18 rfl (lv_at hl 0 rfl) ?_
    obtain ⟨x4, sM5, sN6, h7, hf⟩ := bd3E hf
    refine vM (Lc := (L_m ty mA sM sN)) (Lc' := (L_m ty mA sM5 sN6)) (L' := (L_m ty mA sM5 sN6)) (q0 := 0) (ci := 11) (rest := []) C0 (c_Model_bad l D ty mA H.size sM sN x4 sM5 sN6 h7) k_848 cal_Model_bad hK hP hD hS hAq [0, 1, 2, 3, 4, 5, 6, 7, 8, 9, 10, 11] [] [0, 1, 2, 3, 4, 5, 6, 7, 8, 9, 10, 11] [] rfl rfl (by decide) (by decide) (by decide) (by decide) rfl rfl rfl rfl ⟨by rw [hR]; decide, by rw [hR]; decide⟩ rfl rfl rfl hl.1 rfl (Nat.le_of_ble_eq_true rfl) d_Model_of_19 ⟨by rw [hR]; decide, by rw [hR]; decide⟩ rfl (fun H locs hP hD hS => ?_)
    refine lv_goto (tgt := 43) hx hb d_Model_of_22 (by decide) ?_
    obtain ⟨rfl, rfl, rfl⟩ := sj3 hf
    exact retM C0 (narI _) hQ hP hD hS d_Model_of_43
  · replace hf := iteF c3 hf
    refine lv_iload_n hx hb d_Model_of_8 rfl (lv_at hl 2 rfl) ?_
    refine lv_i2l hx hb d_Model_of_9 rfl ?_
    refine lv_lconst (v := (0 : Int64)) hx hb d_Model_of_10 (by decide) ?_
    refine lv_lconst (v := (1 : Int64)) hx hb d_Model_of_11 (by decide) ?_
    obtain ⟨x8, h9, hf⟩ := bdE hf
    refine scR (rest := []) C0 (c_Model_in l D ty ((a2).toInt64) (0 : Int64) (1 : Int64) x8 h9) k_845 cal_Model_in hK (va_P_nil) ⟨by rw [hR]; decide, by rw [hR]; decide⟩ rfl rfl rfl hl.1 rfl (Nat.le_of_ble_eq_true rfl) d_Model_of_12 ⟨Nat.zero_le _, Nat.zero_le _⟩ rfl ?_
    refine lv_if_ne (tgt := 25) hx hb d_Model_of_15 (by decide) (fun c10 => ?_) (fun c10 => ?_)
    · replace hf := iteF c10 hf
      refine lv_aload_n hx hb d_Model_of_25 rfl (lv_at hl 0 rfl) ?_
      refine va_get (D := D) (ci := 11) (v := .ref (mA 1)) (C := "BedFrontierModel") (T := T_Model) (N := 22) hx hb htt i_Model hown hK.1 hP 0 rfl rfl 0 (by decide) (htt _ k_772) (fun _ h9 => h9) rfl d_Model_of_26 ?_
      refine lv_iload_n hx hb d_Model_of_29 rfl (lv_at hl 2 rfl) ?_
      refine lv_if_ne (tgt := 38) hx hb d_Model_of_30 (by decide) (fun c11 => ?_) (fun c11 => ?_)
      · replace hf := iteF c11 hf
        refine lv_bipush (v := (16 : Int32)) hx hb d_Model_of_38 (by decide) ?_
        refine lv_iload_n hx hb d_Model_of_40 rfl (lv_at hl 1 rfl) ?_
        refine lv_iadd hx hb d_Model_of_41 ?_
        obtain ⟨g12, hf⟩ := gdE hf
        refine va_iald hx hb hK.1 hP 1 0 rfl rfl (okI_in g12) d_Model_of_42 ?_
        obtain ⟨rfl, rfl, rfl⟩ := sj3 hf
        exact retM C0 (narI _) hQ hP hD hS d_Model_of_43
      · replace hf := iteT c11 hf
        refine lv_bipush (v := (10 : Int32)) hx hb d_Model_of_33 (by decide) ?_
        refine lv_goto (tgt := 40) hx hb d_Model_of_35 (by decide) ?_
        refine lv_iload_n hx hb d_Model_of_40 rfl (lv_at hl 1 rfl) ?_
        refine lv_iadd hx hb d_Model_of_41 ?_
        obtain ⟨g13, hf⟩ := gdE hf
        refine va_iald hx hb hK.1 hP 1 0 rfl rfl (okI_in g13) d_Model_of_42 ?_
        obtain ⟨rfl, rfl, rfl⟩ := sj3 hf
        exact retM C0 (narI _) hQ hP hD hS d_Model_of_43
    · replace hf := iteT c10 hf
      refine lv_aload_n hx hb d_Model_of_18 rfl (lv_at hl 0 rfl) ?_
      obtain ⟨x14, sM15, sN16, h17, hf⟩ := bd3E hf
      refine vM (Lc := (L_m ty mA sM sN)) (Lc' := (L_m ty mA sM15 sN16)) (L' := (L_m ty mA sM15 sN16)) (q0 := 0) (ci := 11) (rest := []) C0 (c_Model_bad l D ty mA H.size sM sN x14 sM15 sN16 h17) k_848 cal_Model_bad hK hP hD hS hAq [0, 1, 2, 3, 4, 5, 6, 7, 8, 9, 10, 11] [] [0, 1, 2, 3, 4, 5, 6, 7, 8, 9, 10, 11] [] rfl rfl (by decide) (by decide) (by decide) (by decide) rfl rfl rfl rfl ⟨by rw [hR]; decide, by rw [hR]; decide⟩ rfl rfl rfl hl.1 rfl (Nat.le_of_ble_eq_true rfl) d_Model_of_19 ⟨by rw [hR]; decide, by rw [hR]; decide⟩ rfl (fun H locs hP hD hS => ?_)
      refine lv_goto (tgt := 43) hx hb d_Model_of_22 (by decide) ?_
      obtain ⟨rfl, rfl, rfl⟩ := sj3 hf
      exact retM C0 (narI _) hQ hP hD hS d_Model_of_43
def f_Model_now (sM : PW) (sN : PL) (a1 : Int32) : Option (Int32 × PW × PL) :=
  bd (f_Model_in ((a1).toInt64) (0 : Int64) (3 : Int64)) (fun x1 => (if x1 = 0 then bd3 (f_Model_bad sM sN) (fun x5 sM6 sN7 => some (x5, sM6, sN7)) else gd (okI ((0 : Int32) + a1) 53) (some ((sM 0 (((0 : Int32) + a1)).toNatClampNeg), sM, sN))))
set_option maxHeartbeats 4000000 in
set_option maxRecDepth 100000 in
theorem c_Model_now (l : Launch) (D : va_G) (ty : Nat → ClassId) (mA : Nat → Nat) (sz : Nat) (sM : PW) (sN : PL) (a1 : Int32) (rr : Int32) (tM : PW) (tN : PL) (hf : f_Model_now sM sN a1 = some (rr, tM, tN)) : Met l y_Model_now (Cond.code y_Model_now prog_13_method_39_code 2 ((Option.some FieldType.int)) :: lw_ok) { frames := 1, cells := 0, slots := 0, locals := 25 } (PcM D ty [.ref (mA 0), .int a1] sz (L_m ty mA sM sN)) (QM D (L_m ty mA tM tN) (va_A (L_m ty mA sM sN) sz) (some (.int rr))) 0 0 (va_A (L_m ty mA sM sN) sz) := by
  refine hdM (by decide) (Nat.le_of_ble_eq_true rfl) ?_
  intro p e s m below meth c ls R args Q A C0 hR hQ hnm hAq hP hK hD hS hl
  obtain ⟨hx, hb, hr, hlk, hml, hown, htt⟩ := id C0
  have hl : lv_has ls 2 [(0, .ref (mA 0)), (1, .int a1)] := hl
  generalize hH0 : s.heap = H at hP hS ⊢
  have hS : va_S A s.heap H [] := by rw [hH0]; exact hS
  unfold f_Model_now at hf
  refine lv_iload_n hx hb d_Model_now_0 rfl (lv_at hl 1 rfl) ?_
  refine lv_i2l hx hb d_Model_now_1 rfl ?_
  refine lv_lconst (v := (0 : Int64)) hx hb d_Model_now_2 (by decide) ?_
  refine lv_ldc2 (v := (3 : Int64)) hx hb hown (htt _ k_990) d_Model_now_3 ?_
  obtain ⟨x1, h2, hf⟩ := bdE hf
  refine scR (rest := []) C0 (c_Model_in l D ty ((a1).toInt64) (0 : Int64) (3 : Int64) x1 h2) k_845 cal_Model_in hK (va_P_nil) ⟨by rw [hR]; decide, by rw [hR]; decide⟩ rfl rfl rfl hl.1 rfl (Nat.le_of_ble_eq_true rfl) d_Model_now_6 ⟨Nat.zero_le _, Nat.zero_le _⟩ rfl ?_
  refine lv_if_ne (tgt := 19) hx hb d_Model_now_9 (by decide) (fun c3 => ?_) (fun c3 => ?_)
  · replace hf := iteF c3 hf
    refine lv_aload_n hx hb d_Model_now_19 rfl (lv_at hl 0 rfl) ?_
    refine va_get (D := D) (ci := 11) (v := .ref (mA 1)) (C := "BedFrontierModel") (T := T_Model) (N := 22) hx hb htt i_Model hown hK.1 hP 0 rfl rfl 0 (by decide) (htt _ k_772) (fun _ h9 => h9) rfl d_Model_now_20 ?_
    refine lv_iconst (v := (0 : Int32)) hx hb d_Model_now_23 (by decide) ?_
    refine lv_iload_n hx hb d_Model_now_24 rfl (lv_at hl 1 rfl) ?_
    refine lv_iadd hx hb d_Model_now_25 ?_
    obtain ⟨g4, hf⟩ := gdE hf
    refine va_iald hx hb hK.1 hP 1 0 rfl rfl (okI_in g4) d_Model_now_26 ?_
    obtain ⟨rfl, rfl, rfl⟩ := sj3 hf
    exact retM C0 (narI _) hQ hP hD hS d_Model_now_27
  · replace hf := iteT c3 hf
    refine lv_aload_n hx hb d_Model_now_12 rfl (lv_at hl 0 rfl) ?_
    obtain ⟨x5, sM6, sN7, h8, hf⟩ := bd3E hf
    refine vM (Lc := (L_m ty mA sM sN)) (Lc' := (L_m ty mA sM6 sN7)) (L' := (L_m ty mA sM6 sN7)) (q0 := 0) (ci := 11) (rest := []) C0 (c_Model_bad l D ty mA H.size sM sN x5 sM6 sN7 h8) k_848 cal_Model_bad hK hP hD hS hAq [0, 1, 2, 3, 4, 5, 6, 7, 8, 9, 10, 11] [] [0, 1, 2, 3, 4, 5, 6, 7, 8, 9, 10, 11] [] rfl rfl (by decide) (by decide) (by decide) (by decide) rfl rfl rfl rfl ⟨by rw [hR]; decide, by rw [hR]; decide⟩ rfl rfl rfl hl.1 rfl (Nat.le_of_ble_eq_true rfl) d_Model_now_13 ⟨by rw [hR]; decide, by rw [hR]; decide⟩ rfl (fun H locs hP hD hS => ?_)
    refine lv_goto (tgt := 27) hx hb d_Model_now_16 (by decide) ?_
    obtain ⟨rfl, rfl, rfl⟩ := sj3 hf
    exact retM C0 (narI _) hQ hP hD hS d_Model_now_27
def f_Model_due (sM : PW) (sN : PL) (a1 : Int32) (a2 : Int32) (a3 : Int32) : Option (Int32 × PW × PL) :=
  bd (f_Model_isDoing sM sN a1) (fun x1 => (if x1 = 0 then bd3 (f_Model_bad sM sN) (fun x4 sM5 sN6 => some (x4, sM5, sN6)) else bd (f_Model_isSide a2) (fun x8 => (if x8 = 0 then bd3 (f_Model_bad sM sN) (fun x11 sM12 sN13 => some (x11, sM12, sN13)) else bd (f_Model_isHour a3) (fun x15 => (if x15 = 0 then bd3 (f_Model_bad sM sN) (fun x23 sM24 sN25 => some (x23, sM24, sN25)) else bd (f_Model_isThrough sM sN a1 a2 a3) (fun x18 => (if x18 = 0 then some ((-1 : Int32), sM, sN) else bd (f_Model_dueIn sM sN a1 a2 a3) (fun x21 => some (x21, sM, sN))))))))))
set_option maxHeartbeats 4000000 in
set_option maxRecDepth 100000 in
theorem c_Model_due (l : Launch) (D : va_G) (ty : Nat → ClassId) (mA : Nat → Nat) (sz : Nat) (sM : PW) (sN : PL) (a1 : Int32) (a2 : Int32) (a3 : Int32) (rr : Int32) (tM : PW) (tN : PL) (hf : f_Model_due sM sN a1 a2 a3 = some (rr, tM, tN)) : Met l y_Model_due (Cond.code y_Model_due prog_13_method_40_code 4 ((Option.some FieldType.int)) :: lw_ok) { frames := 2, cells := 0, slots := 0, locals := 50 } (PcM D ty [.ref (mA 0), .int a1, .int a2, .int a3] sz (L_m ty mA sM sN)) (QM D (L_m ty mA tM tN) (va_A (L_m ty mA sM sN) sz) (some (.int rr))) 0 0 (va_A (L_m ty mA sM sN) sz) := by
  refine hdM (by decide) (Nat.le_of_ble_eq_true rfl) ?_
  intro p e s m below meth c ls R args Q A C0 hR hQ hnm hAq hP hK hD hS hl
  obtain ⟨hx, hb, hr, hlk, hml, hown, htt⟩ := id C0
  have hl : lv_has ls 4 [(0, .ref (mA 0)), (1, .int a1), (2, .int a2), (3, .int a3)] := hl
  generalize hH0 : s.heap = H at hP hS ⊢
  have hS : va_S A s.heap H [] := by rw [hH0]; exact hS
  unfold f_Model_due at hf
  refine lv_aload_n hx hb d_Model_due_0 rfl (lv_at hl 0 rfl) ?_
  refine lv_iload_n hx hb d_Model_due_1 rfl (lv_at hl 1 rfl) ?_
  obtain ⟨x1, h2, hf⟩ := bdE hf
  refine vR (q0 := 0) (ci := 11) (rest := []) C0 (c_Model_isDoing l D ty mA sM sN a1 x1 h2) k_931 cal_Model_isDoing hK hP rfl rfl rfl ⟨by rw [hR]; decide, by rw [hR]; decide⟩ rfl rfl rfl hl.1 rfl (Nat.le_of_ble_eq_true rfl) d_Model_due_2 ⟨Nat.zero_le _, Nat.zero_le _⟩ rfl ?_
  refine lv_if_eq (tgt := 22) hx hb d_Model_due_5 (by decide) (fun c3 => ?_) (fun c3 => ?_)
  · replace hf := iteT c3 hf
    refine lv_aload_n hx hb d_Model_due_22 rfl (lv_at hl 0 rfl) ?_
    obtain ⟨x4, sM5, sN6, h7, hf⟩ := bd3E hf
    refine vM (Lc := (L_m ty mA sM sN)) (Lc' := (L_m ty mA sM5 sN6)) (L' := (L_m ty mA sM5 sN6)) (q0 := 0) (ci := 11) (rest := []) C0 (c_Model_bad l D ty mA H.size sM sN x4 sM5 sN6 h7) k_848 cal_Model_bad hK hP hD hS hAq [0, 1, 2, 3, 4, 5, 6, 7, 8, 9, 10, 11] [] [0, 1, 2, 3, 4, 5, 6, 7, 8, 9, 10, 11] [] rfl rfl (by decide) (by decide) (by decide) (by decide) rfl rfl rfl rfl ⟨by rw [hR]; decide, by rw [hR]; decide⟩ rfl rfl rfl hl.1 rfl (Nat.le_of_ble_eq_true rfl) d_Model_due_23 ⟨by rw [hR]; decide, by rw [hR]; decide⟩ rfl (fun H locs hP hD hS => ?_)
    obtain ⟨rfl, rfl, rfl⟩ := sj3 hf
    exact retM C0 (narI _) hQ hP hD hS d_Model_due_26
  · replace hf := iteF c3 hf
    refine lv_iload_n hx hb d_Model_due_8 rfl (lv_at hl 2 rfl) ?_
    obtain ⟨x8, h9, hf⟩ := bdE hf
    refine scR (rest := []) C0 (c_Model_isSide l D ty a2 x8 h9) k_856 cal_Model_isSide hK (va_P_nil) ⟨by rw [hR]; decide, by rw [hR]; decide⟩ rfl rfl rfl hl.1 rfl (Nat.le_of_ble_eq_true rfl) d_Model_due_9 ⟨Nat.zero_le _, Nat.zero_le _⟩ rfl ?_
    refine lv_if_eq (tgt := 22) hx hb d_Model_due_12 (by decide) (fun c10 => ?_) (fun c10 => ?_)
    · replace hf := iteT c10 hf
      refine lv_aload_n hx hb d_Model_due_22 rfl (lv_at hl 0 rfl) ?_
      obtain ⟨x11, sM12, sN13, h14, hf⟩ := bd3E hf
      refine vM (Lc := (L_m ty mA sM sN)) (Lc' := (L_m ty mA sM12 sN13)) (L' := (L_m ty mA sM12 sN13)) (q0 := 0) (ci := 11) (rest := []) C0 (c_Model_bad l D ty mA H.size sM sN x11 sM12 sN13 h14) k_848 cal_Model_bad hK hP hD hS hAq [0, 1, 2, 3, 4, 5, 6, 7, 8, 9, 10, 11] [] [0, 1, 2, 3, 4, 5, 6, 7, 8, 9, 10, 11] [] rfl rfl (by decide) (by decide) (by decide) (by decide) rfl rfl rfl rfl ⟨by rw [hR]; decide, by rw [hR]; decide⟩ rfl rfl rfl hl.1 rfl (Nat.le_of_ble_eq_true rfl) d_Model_due_23 ⟨by rw [hR]; decide, by rw [hR]; decide⟩ rfl (fun H locs hP hD hS => ?_)
      obtain ⟨rfl, rfl, rfl⟩ := sj3 hf
      exact retM C0 (narI _) hQ hP hD hS d_Model_due_26
    · replace hf := iteF c10 hf
      refine lv_iload_n hx hb d_Model_due_15 rfl (lv_at hl 3 rfl) ?_
      obtain ⟨x15, h16, hf⟩ := bdE hf
      refine scR (rest := []) C0 (c_Model_isHour l D ty a3 x15 h16) k_995 cal_Model_isHour hK (va_P_nil) ⟨by rw [hR]; decide, by rw [hR]; decide⟩ rfl rfl rfl hl.1 rfl (Nat.le_of_ble_eq_true rfl) d_Model_due_16 ⟨Nat.zero_le _, Nat.zero_le _⟩ rfl ?_
      refine lv_if_ne (tgt := 27) hx hb d_Model_due_19 (by decide) (fun c17 => ?_) (fun c17 => ?_)
      · replace hf := iteF c17 hf
        refine lv_aload_n hx hb d_Model_due_27 rfl (lv_at hl 0 rfl) ?_
        refine lv_iload_n hx hb d_Model_due_28 rfl (lv_at hl 1 rfl) ?_
        refine lv_iload_n hx hb d_Model_due_29 rfl (lv_at hl 2 rfl) ?_
        refine lv_iload_n hx hb d_Model_due_30 rfl (lv_at hl 3 rfl) ?_
        obtain ⟨x18, h19, hf⟩ := bdE hf
        refine vR (q0 := 0) (ci := 11) (rest := []) C0 (c_Model_isThrough l D ty mA sM sN a1 a2 a3 x18 h19) k_935 cal_Model_isThrough hK hP rfl rfl rfl ⟨by rw [hR]; decide, by rw [hR]; decide⟩ rfl rfl rfl hl.1 rfl (Nat.le_of_ble_eq_true rfl) d_Model_due_31 ⟨Nat.zero_le _, Nat.zero_le _⟩ rfl ?_
        refine lv_if_eq (tgt := 47) hx hb d_Model_due_34 (by decide) (fun c20 => ?_) (fun c20 => ?_)
        · replace hf := iteT c20 hf
          refine lv_iconst (v := (-1 : Int32)) hx hb d_Model_due_47 (by decide) ?_
          obtain ⟨rfl, rfl, rfl⟩ := sj3 hf
          exact retM C0 (narI _) hQ hP hD hS d_Model_due_48
        · replace hf := iteF c20 hf
          refine lv_aload_n hx hb d_Model_due_37 rfl (lv_at hl 0 rfl) ?_
          refine lv_iload_n hx hb d_Model_due_38 rfl (lv_at hl 1 rfl) ?_
          refine lv_iload_n hx hb d_Model_due_39 rfl (lv_at hl 2 rfl) ?_
          refine lv_iload_n hx hb d_Model_due_40 rfl (lv_at hl 3 rfl) ?_
          obtain ⟨x21, h22, hf⟩ := bdE hf
          refine vR (q0 := 0) (ci := 11) (rest := []) C0 (c_Model_dueIn l D ty mA sM sN a1 a2 a3 x21 h22) k_961 cal_Model_dueIn hK hP rfl rfl rfl ⟨by rw [hR]; decide, by rw [hR]; decide⟩ rfl rfl rfl hl.1 rfl (Nat.le_of_ble_eq_true rfl) d_Model_due_41 ⟨Nat.zero_le _, Nat.zero_le _⟩ rfl ?_
          refine lv_goto (tgt := 48) hx hb d_Model_due_44 (by decide) ?_
          obtain ⟨rfl, rfl, rfl⟩ := sj3 hf
          exact retM C0 (narI _) hQ hP hD hS d_Model_due_48
      · replace hf := iteT c17 hf
        refine lv_aload_n hx hb d_Model_due_22 rfl (lv_at hl 0 rfl) ?_
        obtain ⟨x23, sM24, sN25, h26, hf⟩ := bd3E hf
        refine vM (Lc := (L_m ty mA sM sN)) (Lc' := (L_m ty mA sM24 sN25)) (L' := (L_m ty mA sM24 sN25)) (q0 := 0) (ci := 11) (rest := []) C0 (c_Model_bad l D ty mA H.size sM sN x23 sM24 sN25 h26) k_848 cal_Model_bad hK hP hD hS hAq [0, 1, 2, 3, 4, 5, 6, 7, 8, 9, 10, 11] [] [0, 1, 2, 3, 4, 5, 6, 7, 8, 9, 10, 11] [] rfl rfl (by decide) (by decide) (by decide) (by decide) rfl rfl rfl rfl ⟨by rw [hR]; decide, by rw [hR]; decide⟩ rfl rfl rfl hl.1 rfl (Nat.le_of_ble_eq_true rfl) d_Model_due_23 ⟨by rw [hR]; decide, by rw [hR]; decide⟩ rfl (fun H locs hP hD hS => ?_)
        obtain ⟨rfl, rfl, rfl⟩ := sj3 hf
        exact retM C0 (narI _) hQ hP hD hS d_Model_due_26
def f_Model_both_L32 (a1 : Int32) (a2 : Int32) (sM : PW) (sN : PL) (K32 : Int32 × Int32 × Int32 → Option (Int32 × PW × PL)) : Int32 × Int32 × Int32 → Option (Int32 × PW × PL)
  | (x11, x12, x13) =>
  (if x13 < 0 then (if a2 = 0 then some (x11, sM, sN) else some (x12, sM, sN)) else nm (((sM 0 1) + x13) - ((sM 0 1) + x13) / (24 : Int32) * (24 : Int32)) (fun x16 => bd (f_Model_isThrough sM sN a1 (0 : Int32) x16) (fun x17 => (if x17 = 0 then bd (f_Model_isThrough sM sN a1 (1 : Int32) x16) (fun x21 => (if x21 = 0 then nm (x11 ||| ((1 : Int32) <<< (x16 &&& 31))) (fun x25 => nm (x13 + (-1 : Int32)) (fun x26 => K32 (x25, x16, x26))) else nm (x13 + (-1 : Int32)) (fun x24 => K32 (x11, x12, x24)))) else nm (x13 + (-1 : Int32)) (fun x20 => K32 (x11, x12, x20))))))
def f_Model_both (sM : PW) (sN : PL) (a1 : Int32) (a2 : Int32) : Option (Int32 × PW × PL) :=
  bd (f_Model_isDoing sM sN a1) (fun x1 => (if x1 = 0 then bd3 (f_Model_bad sM sN) (fun x4 sM5 sN6 => some (x4, sM5, sN6)) else bd (f_Model_in ((a2).toInt64) (0 : Int64) (1 : Int64)) (fun x8 => (if x8 = 0 then bd3 (f_Model_bad sM sN) (fun x27 sM28 sN29 => some (x27, sM28, sN29)) else loopF (f_Model_both_L32 a1 a2 sM sN) 4000 ((0 : Int32), (-1 : Int32), (23 : Int32))))))
set_option maxHeartbeats 4000000 in
set_option maxRecDepth 100000 in
theorem c_Model_both (l : Launch) (D : va_G) (ty : Nat → ClassId) (mA : Nat → Nat) (sz : Nat) (sM : PW) (sN : PL) (a1 : Int32) (a2 : Int32) (rr : Int32) (tM : PW) (tN : PL) (hf : f_Model_both sM sN a1 a2 = some (rr, tM, tN)) : Met l y_Model_both (Cond.code y_Model_both prog_13_method_41_code 7 ((Option.some FieldType.int)) :: lw_ok) { frames := 2, cells := 0, slots := 0, locals := 47 } (PcM D ty [.ref (mA 0), .int a1, .int a2] sz (L_m ty mA sM sN)) (QM D (L_m ty mA tM tN) (va_A (L_m ty mA sM sN) sz) (some (.int rr))) 0 0 (va_A (L_m ty mA sM sN) sz) := by
  refine hdM (by decide) (Nat.le_of_ble_eq_true rfl) ?_
  intro p e s m below meth c ls R args Q A C0 hR hQ hnm hAq hP hK hD hS hl
  obtain ⟨hx, hb, hr, hlk, hml, hown, htt⟩ := id C0
  have hl : lv_has ls 7 [(0, .ref (mA 0)), (1, .int a1), (2, .int a2)] := hl
  generalize hH0 : s.heap = H at hP hS ⊢
  have hS : va_S A s.heap H [] := by rw [hH0]; exact hS
  unfold f_Model_both at hf
  refine lv_aload_n hx hb d_Model_both_0 rfl (lv_at hl 0 rfl) ?_
  refine lv_iload_n hx hb d_Model_both_1 rfl (lv_at hl 1 rfl) ?_
  obtain ⟨x1, h2, hf⟩ := bdE hf
  refine vR (q0 := 0) (ci := 11) (rest := []) C0 (c_Model_isDoing l D ty mA sM sN a1 x1 h2) k_931 cal_Model_isDoing hK hP rfl rfl rfl ⟨by rw [hR]; decide, by rw [hR]; decide⟩ rfl rfl rfl hl.1 rfl (Nat.le_of_ble_eq_true rfl) d_Model_both_2 ⟨Nat.zero_le _, Nat.zero_le _⟩ rfl ?_
  refine lv_if_eq (tgt := 18) hx hb d_Model_both_5 (by decide) (fun c3 => ?_) (fun c3 => ?_)
  · replace hf := iteT c3 hf
    refine lv_aload_n hx hb d_Model_both_18 rfl (lv_at hl 0 rfl) ?_
    obtain ⟨x4, sM5, sN6, h7, hf⟩ := bd3E hf
    refine vM (Lc := (L_m ty mA sM sN)) (Lc' := (L_m ty mA sM5 sN6)) (L' := (L_m ty mA sM5 sN6)) (q0 := 0) (ci := 11) (rest := []) C0 (c_Model_bad l D ty mA H.size sM sN x4 sM5 sN6 h7) k_848 cal_Model_bad hK hP hD hS hAq [0, 1, 2, 3, 4, 5, 6, 7, 8, 9, 10, 11] [] [0, 1, 2, 3, 4, 5, 6, 7, 8, 9, 10, 11] [] rfl rfl (by decide) (by decide) (by decide) (by decide) rfl rfl rfl rfl ⟨by rw [hR]; decide, by rw [hR]; decide⟩ rfl rfl rfl hl.1 rfl (Nat.le_of_ble_eq_true rfl) d_Model_both_19 ⟨by rw [hR]; decide, by rw [hR]; decide⟩ rfl (fun H locs hP hD hS => ?_)
    obtain ⟨rfl, rfl, rfl⟩ := sj3 hf
    exact retM C0 (narI _) hQ hP hD hS d_Model_both_22
  · replace hf := iteF c3 hf
    refine lv_iload_n hx hb d_Model_both_8 rfl (lv_at hl 2 rfl) ?_
    refine lv_i2l hx hb d_Model_both_9 rfl ?_
    refine lv_lconst (v := (0 : Int64)) hx hb d_Model_both_10 (by decide) ?_
    refine lv_lconst (v := (1 : Int64)) hx hb d_Model_both_11 (by decide) ?_
    obtain ⟨x8, h9, hf⟩ := bdE hf
    refine scR (rest := []) C0 (c_Model_in l D ty ((a2).toInt64) (0 : Int64) (1 : Int64) x8 h9) k_845 cal_Model_in hK (va_P_nil) ⟨by rw [hR]; decide, by rw [hR]; decide⟩ rfl rfl rfl hl.1 rfl (Nat.le_of_ble_eq_true rfl) d_Model_both_12 ⟨Nat.zero_le _, Nat.zero_le _⟩ rfl ?_
    refine lv_if_ne (tgt := 23) hx hb d_Model_both_15 (by decide) (fun c10 => ?_) (fun c10 => ?_)
    · replace hf := iteF c10 hf
      refine lv_iconst (v := (0 : Int32)) hx hb d_Model_both_23 (by decide) ?_
      refine lv_istore_n (lv' := [(3, .int (0 : Int32)), (0, .ref (mA 0)), (1, .int a1), (2, .int a2)]) hx hb d_Model_both_24 rfl hl (by decide) rfl (fun ls hl => ?_)
      refine lv_iconst (v := (-1 : Int32)) hx hb d_Model_both_25 (by decide) ?_
      refine lv_istore (lv' := [(4, .int (-1 : Int32)), (3, .int (0 : Int32)), (0, .ref (mA 0)), (1, .int a1), (2, .int a2)]) hx hb d_Model_both_26 hl (by decide) rfl (fun ls hl => ?_)
      refine lv_bipush (v := (23 : Int32)) hx hb d_Model_both_28 (by decide) ?_
      refine lv_istore (lv' := [(5, .int (23 : Int32)), (4, .int (-1 : Int32)), (3, .int (0 : Int32)), (0, .ref (mA 0)), (1, .int a1), (2, .int a2)]) hx hb d_Model_both_30 hl (by decide) rfl (fun ls hl => ?_)
      have B32 : ∀ (n : Nat) (x : Int32 × Int32 × Int32), loopF (f_Model_both_L32 a1 a2 sM sN) n x = some (rr, tM, tN) → ∀ (H : Heap) (locs : List Loc) (ls : Array Slot), va_P D vwCl (L_m ty mA sM sN) H → va_D A (L_m ty mA sM sN) → va_S A s.heap H locs → lv_has ls 7 [(0, .ref (mA 0)), (1, .int a1), (2, .int a2), (3, .int (x.1)), (4, .int (x.2.1)), (5, .int (x.2.2))] → W p l e R s m args below meth c H locs 0 0 Q (F0 m 32 ls []) := by
        refine loopW (fun (x : Int32 × Int32 × Int32) => ∀ (H : Heap) (locs : List Loc) (ls : Array Slot), va_P D vwCl (L_m ty mA sM sN) H → va_D A (L_m ty mA sM sN) → va_S A s.heap H locs → lv_has ls 7 [(0, .ref (mA 0)), (1, .int a1), (2, .int a2), (3, .int (x.1)), (4, .int (x.2.1)), (5, .int (x.2.2))] → W p l e R s m args below meth c H locs 0 0 Q (F0 m 32 ls [])) ?_
        intro K32 hK32 x hf
        obtain ⟨x11, x12, x13⟩ := x
        rw [f_Model_both_L32] at hf
        intro H locs ls hP hD hS hl
        have hl : lv_has ls 7 [(0, .ref (mA 0)), (1, .int a1), (2, .int a2), (3, .int x11), (4, .int x12), (5, .int x13)] := hl
        have hP : va_P D vwCl (L_m ty mA sM sN) H := hP
        have hD : va_D A (L_m ty mA sM sN) := hD
        show W p l e R s m args below meth c H locs 0 0 Q (F0 m 32 ls [])
        refine lv_iload hx hb d_Model_both_32 (lv_at hl 5 rfl) ?_
        refine lv_if_lt (tgt := 90) hx hb d_Model_both_34 (by decide) (fun c14 => ?_) (fun c14 => ?_)
        · replace hf := iteT c14 hf
          refine lv_iload_n hx hb d_Model_both_90 rfl (lv_at hl 2 rfl) ?_
          refine lv_if_ne (tgt := 98) hx hb d_Model_both_91 (by decide) (fun c15 => ?_) (fun c15 => ?_)
          · replace hf := iteF c15 hf
            refine lv_iload hx hb d_Model_both_98 (lv_at hl 4 rfl) ?_
            obtain ⟨rfl, rfl, rfl⟩ := sj3 hf
            exact retM C0 (narI _) hQ hP hD hS d_Model_both_100
          · replace hf := iteT c15 hf
            refine lv_iload_n hx hb d_Model_both_94 rfl (lv_at hl 3 rfl) ?_
            refine lv_goto (tgt := 100) hx hb d_Model_both_95 (by decide) ?_
            obtain ⟨rfl, rfl, rfl⟩ := sj3 hf
            exact retM C0 (narI _) hQ hP hD hS d_Model_both_100
        · replace hf := iteF c14 hf
          refine lv_aload_n hx hb d_Model_both_37 rfl (lv_at hl 0 rfl) ?_
          refine va_get (D := D) (ci := 11) (v := .ref (mA 1)) (C := "BedFrontierModel") (T := T_Model) (N := 22) hx hb htt i_Model hown hK.1 hP 0 rfl rfl 0 (by decide) (htt _ k_772) (fun _ h9 => h9) rfl d_Model_both_38 ?_
          refine lv_iconst (v := (1 : Int32)) hx hb d_Model_both_41 (by decide) ?_
          refine ld_iald (j := 1) hx hb hK.1 hP 1 0 rfl rfl (okI_in (by decide)) rfl d_Model_both_42 ?_
          refine lv_iload hx hb d_Model_both_43 (lv_at hl 5 rfl) ?_
          refine lv_iadd hx hb d_Model_both_45 ?_
          refine lv_bipush (v := (24 : Int32)) hx hb d_Model_both_46 (by decide) ?_
          refine lv_irem hx hb d_Model_both_48 (by decide) ?_
          refine lv_topi (fun x16 e_x16 => ?_)
          replace hf := nmE hf e_x16
          refine lv_istore (lv' := [(6, .int x16), (0, .ref (mA 0)), (1, .int a1), (2, .int a2), (3, .int x11), (4, .int x12), (5, .int x13)]) hx hb d_Model_both_49 hl (by decide) rfl (fun ls hl => ?_)
          refine lv_aload_n hx hb d_Model_both_51 rfl (lv_at hl 1 rfl) ?_
          refine lv_iload_n hx hb d_Model_both_52 rfl (lv_at hl 2 rfl) ?_
          refine lv_iconst (v := (0 : Int32)) hx hb d_Model_both_53 (by decide) ?_
          refine lv_iload hx hb d_Model_both_54 (lv_at hl 0 rfl) ?_
          obtain ⟨x17, h18, hf⟩ := bdE hf
          refine vR (q0 := 0) (ci := 11) (rest := []) C0 (c_Model_isThrough l D ty mA sM sN a1 (0 : Int32) x16 x17 h18) k_935 cal_Model_isThrough hK hP rfl rfl rfl ⟨by rw [hR]; decide, by rw [hR]; decide⟩ rfl rfl rfl hl.1 rfl (Nat.le_of_ble_eq_true rfl) d_Model_both_56 ⟨Nat.zero_le _, Nat.zero_le _⟩ rfl ?_
          refine lv_if_ne (tgt := 84) hx hb d_Model_both_59 (by decide) (fun c19 => ?_) (fun c19 => ?_)
          · replace hf := iteF c19 hf
            obtain ⟨x20, e_x20⟩ : ∃ z : Int32, z = (x13 + (-1 : Int32)) := ⟨_, rfl⟩
            replace hf := nmE hf e_x20
            refine lv_iinc (v := x20) (lv' := [(5, .int x20), (6, .int x16), (0, .ref (mA 0)), (1, .int a1), (2, .int a2), (3, .int x11), (4, .int x12)]) hx hb d_Model_both_84 hl (k := 6) rfl (by rw [e_x20]; rfl) (by decide) rfl (fun ls hl => ?_)
            refine lv_goto (tgt := 32) hx hb d_Model_both_87 (by decide) ?_
            exact hK32 (x11, x12, x20) hf _ _ ls hP hD hS (lv_sub hl [2, 3, 4, 5, 6, 0] rfl)
          · replace hf := iteT c19 hf
            refine lv_aload_n hx hb d_Model_both_62 rfl (lv_at hl 1 rfl) ?_
            refine lv_iload_n hx hb d_Model_both_63 rfl (lv_at hl 2 rfl) ?_
            refine lv_iconst (v := (1 : Int32)) hx hb d_Model_both_64 (by decide) ?_
            refine lv_iload hx hb d_Model_both_65 (lv_at hl 0 rfl) ?_
            obtain ⟨x21, h22, hf⟩ := bdE hf
            refine vR (q0 := 0) (ci := 11) (rest := []) C0 (c_Model_isThrough l D ty mA sM sN a1 (1 : Int32) x16 x21 h22) k_935 cal_Model_isThrough hK hP rfl rfl rfl ⟨by rw [hR]; decide, by rw [hR]; decide⟩ rfl rfl rfl hl.1 rfl (Nat.le_of_ble_eq_true rfl) d_Model_both_67 ⟨Nat.zero_le _, Nat.zero_le _⟩ rfl ?_
            refine lv_if_ne (tgt := 84) hx hb d_Model_both_70 (by decide) (fun c23 => ?_) (fun c23 => ?_)
            · replace hf := iteF c23 hf
              obtain ⟨x24, e_x24⟩ : ∃ z : Int32, z = (x13 + (-1 : Int32)) := ⟨_, rfl⟩
              replace hf := nmE hf e_x24
              refine lv_iinc (v := x24) (lv' := [(5, .int x24), (6, .int x16), (0, .ref (mA 0)), (1, .int a1), (2, .int a2), (3, .int x11), (4, .int x12)]) hx hb d_Model_both_84 hl (k := 6) rfl (by rw [e_x24]; rfl) (by decide) rfl (fun ls hl => ?_)
              refine lv_goto (tgt := 32) hx hb d_Model_both_87 (by decide) ?_
              exact hK32 (x11, x12, x24) hf _ _ ls hP hD hS (lv_sub hl [2, 3, 4, 5, 6, 0] rfl)
            · replace hf := iteT c23 hf
              refine lv_iload_n hx hb d_Model_both_73 rfl (lv_at hl 4 rfl) ?_
              refine lv_iconst (v := (1 : Int32)) hx hb d_Model_both_74 (by decide) ?_
              refine lv_iload hx hb d_Model_both_75 (lv_at hl 0 rfl) ?_
              refine lv_ishl hx hb d_Model_both_77 ?_
              refine lv_ior hx hb d_Model_both_78 ?_
              refine lv_topi (fun x25 e_x25 => ?_)
              replace hf := nmE hf e_x25
              refine lv_istore_n (lv' := [(3, .int x25), (6, .int x16), (0, .ref (mA 0)), (1, .int a1), (2, .int a2), (4, .int x12), (5, .int x13)]) hx hb d_Model_both_79 rfl hl (by decide) rfl (fun ls hl => ?_)
              refine lv_iload hx hb d_Model_both_80 (lv_at hl 1 rfl) ?_
              refine lv_istore (lv' := [(4, .int x16), (3, .int x25), (6, .int x16), (0, .ref (mA 0)), (1, .int a1), (2, .int a2), (5, .int x13)]) hx hb d_Model_both_82 hl (by decide) rfl (fun ls hl => ?_)
              obtain ⟨x26, e_x26⟩ : ∃ z : Int32, z = (x13 + (-1 : Int32)) := ⟨_, rfl⟩
              replace hf := nmE hf e_x26
              refine lv_iinc (v := x26) (lv' := [(5, .int x26), (4, .int x16), (3, .int x25), (6, .int x16), (0, .ref (mA 0)), (1, .int a1), (2, .int a2)]) hx hb d_Model_both_84 hl (k := 6) rfl (by rw [e_x26]; rfl) (by decide) rfl (fun ls hl => ?_)
              refine lv_goto (tgt := 32) hx hb d_Model_both_87 (by decide) ?_
              exact hK32 (x25, x16, x26) hf _ _ ls hP hD hS (lv_sub hl [4, 5, 6, 2, 1, 0] rfl)
      exact B32 4000 ((0 : Int32), (-1 : Int32), (23 : Int32)) hf _ _ ls hP hD hS (lv_sub hl [3, 4, 5, 2, 1, 0] rfl)
    · replace hf := iteT c10 hf
      refine lv_aload_n hx hb d_Model_both_18 rfl (lv_at hl 0 rfl) ?_
      obtain ⟨x27, sM28, sN29, h30, hf⟩ := bd3E hf
      refine vM (Lc := (L_m ty mA sM sN)) (Lc' := (L_m ty mA sM28 sN29)) (L' := (L_m ty mA sM28 sN29)) (q0 := 0) (ci := 11) (rest := []) C0 (c_Model_bad l D ty mA H.size sM sN x27 sM28 sN29 h30) k_848 cal_Model_bad hK hP hD hS hAq [0, 1, 2, 3, 4, 5, 6, 7, 8, 9, 10, 11] [] [0, 1, 2, 3, 4, 5, 6, 7, 8, 9, 10, 11] [] rfl rfl (by decide) (by decide) (by decide) (by decide) rfl rfl rfl rfl ⟨by rw [hR]; decide, by rw [hR]; decide⟩ rfl rfl rfl hl.1 rfl (Nat.le_of_ble_eq_true rfl) d_Model_both_19 ⟨by rw [hR]; decide, by rw [hR]; decide⟩ rfl (fun H locs hP hD hS => ?_)
      obtain ⟨rfl, rfl, rfl⟩ := sj3 hf
      exact retM C0 (narI _) hQ hP hD hS d_Model_both_22
def f_Model_leftAt (sM : PW) (sN : PL) (a1 : Int32) (a2 : Int32) (a3 : Int32) : Option (Int32) :=
  gd (okI ((((128 : Int32) * a1) + ((2 : Int32) * a2)) + a3) 3200) (some (sM 15 (((((128 : Int32) * a1) + ((2 : Int32) * a2)) + a3)).toNatClampNeg))
set_option maxHeartbeats 4000000 in
set_option maxRecDepth 100000 in
theorem c_Model_leftAt (l : Launch) (D : va_G) (ty : Nat → ClassId) (mA : Nat → Nat) (sM : PW) (sN : PL) (a1 : Int32) (a2 : Int32) (a3 : Int32) (rr : Int32) (hf : f_Model_leftAt sM sN a1 a2 a3 = some rr) : Met l y_Model_leftAt (Cond.code y_Model_leftAt prog_13_method_42_code 4 ((Option.some FieldType.int)) :: lw_ok) { frames := 0, cells := 0, slots := 0, locals := 0 } (PcR D ty [.ref (mA 0), .int a1, .int a2, .int a3] (L_m ty mA sM sN)) (QR (some (.int rr))) 0 0 (fun _ => False) := by
  refine hdR (by decide) (Nat.le_of_ble_eq_true rfl) ?_
  intro p e s m below meth c ls R args Q C0 hR hQ hP hK hl
  obtain ⟨hx, hb, hr, hlk, hml, hown, htt⟩ := id C0
  have hl : lv_has ls 4 [(0, .ref (mA 0)), (1, .int a1), (2, .int a2), (3, .int a3)] := hl
  unfold f_Model_leftAt at hf
  refine lv_aload_n hx hb d_Model_leftAt_0 rfl (lv_at hl 0 rfl) ?_
  refine va_get (D := D) (ci := 11) (v := .ref (mA 16)) (C := "BedFrontierModel") (T := T_Model) (N := 22) hx hb htt i_Model hown hK.1 hP 0 rfl rfl 15 (by decide) (htt _ k_787) (fun _ h9 => h9) rfl d_Model_leftAt_1 ?_
  refine lv_sipush (v := (128 : Int32)) hx hb d_Model_leftAt_4 (by decide) ?_
  refine lv_iload_n hx hb d_Model_leftAt_7 rfl (lv_at hl 1 rfl) ?_
  refine lv_imul hx hb d_Model_leftAt_8 ?_
  refine lv_iconst (v := (2 : Int32)) hx hb d_Model_leftAt_9 (by decide) ?_
  refine lv_iload_n hx hb d_Model_leftAt_10 rfl (lv_at hl 2 rfl) ?_
  refine lv_imul hx hb d_Model_leftAt_11 ?_
  refine lv_iadd hx hb d_Model_leftAt_12 ?_
  refine lv_iload_n hx hb d_Model_leftAt_13 rfl (lv_at hl 3 rfl) ?_
  refine lv_iadd hx hb d_Model_leftAt_14 ?_
  obtain ⟨g1, hf⟩ := gdE hf
  refine va_iald hx hb hK.1 hP 6 0 rfl rfl (okI_in g1) d_Model_leftAt_15 ?_
  obtain rfl := sj1 hf
  exact retR C0 (narI _) hQ d_Model_leftAt_16
def f_Model_costBy_J50 (a1 : Int32) (a2 : Int32) (a4 : Int32) (a5 : Int32) (sM : PW) (sN : PL) (x7 : Int32) (x9 : Int32) : Option (Int32) :=
  bd (f_Model_leftAt sM sN (a1 + (1 : Int32)) (a2 ||| ((1 : Int32) <<< (a4 &&& 31))) a5) (fun x10 => some ((x7 + x9) + x10))
def f_Model_costBy (sM : PW) (sN : PL) (a1 : Int32) (a2 : Int32) (a3 : Int32) (a4 : Int32) (a5 : Int32) : Option (Int32) :=
  bd (f_Model_has a2 a4) (fun x1 => (if x1 = 0 then bd (f_Model_isThrough sM sN a4 a5 a1) (fun x4 => (if x4 = 0 then some (9999 : Int32) else bd (f_Model_dueIn sM sN a4 a5 a1) (fun x7 => (if a5 = a3 then f_Model_costBy_J50 a1 a2 a4 a5 sM sN x7 (0 : Int32) else f_Model_costBy_J50 a1 a2 a4 a5 sM sN x7 (sM 0 4))))) else some (9999 : Int32)))
set_option maxHeartbeats 4000000 in
set_option maxRecDepth 100000 in
theorem c_Model_costBy (l : Launch) (D : va_G) (ty : Nat → ClassId) (mA : Nat → Nat) (sM : PW) (sN : PL) (a1 : Int32) (a2 : Int32) (a3 : Int32) (a4 : Int32) (a5 : Int32) (rr : Int32) (hf : f_Model_costBy sM sN a1 a2 a3 a4 a5 = some rr) : Met l y_Model_costBy (Cond.code y_Model_costBy prog_13_method_43_code 6 ((Option.some FieldType.int)) :: lw_ok) { frames := 2, cells := 0, slots := 0, locals := 50 } (PcR D ty [.ref (mA 0), .int a1, .int a2, .int a3, .int a4, .int a5] (L_m ty mA sM sN)) (QR (some (.int rr))) 0 0 (fun _ => False) := by
  refine hdR (by decide) (Nat.le_of_ble_eq_true rfl) ?_
  intro p e s m below meth c ls R args Q C0 hR hQ hP hK hl
  obtain ⟨hx, hb, hr, hlk, hml, hown, htt⟩ := id C0
  have hl : lv_has ls 6 [(0, .ref (mA 0)), (1, .int a1), (2, .int a2), (3, .int a3), (4, .int a4), (5, .int a5)] := hl
  unfold f_Model_costBy at hf
  refine lv_iload_n hx hb d_Model_costBy_0 rfl (lv_at hl 2 rfl) ?_
  refine lv_iload hx hb d_Model_costBy_1 (lv_at hl 4 rfl) ?_
  obtain ⟨x1, h2, hf⟩ := bdE hf
  refine scR (rest := []) C0 (c_Model_has l D ty a2 a4 x1 h2) k_942 cal_Model_has hK (va_P_nil) ⟨by rw [hR]; decide, by rw [hR]; decide⟩ rfl rfl rfl hl.1 rfl (Nat.le_of_ble_eq_true rfl) d_Model_costBy_3 ⟨Nat.zero_le _, Nat.zero_le _⟩ rfl ?_
  refine lv_if_ne (tgt := 21) hx hb d_Model_costBy_6 (by decide) (fun c3 => ?_) (fun c3 => ?_)
  · replace hf := iteF c3 hf
    refine lv_sipush (v := (9999 : Int32)) hx hb d_Model_costBy_21 (by decide) ?_
    obtain rfl := sj1 hf
    exact retR C0 (narI _) hQ d_Model_costBy_24
  · replace hf := iteT c3 hf
    refine lv_aload_n hx hb d_Model_costBy_9 rfl (lv_at hl 0 rfl) ?_
    refine lv_iload hx hb d_Model_costBy_10 (lv_at hl 4 rfl) ?_
    refine lv_iload hx hb d_Model_costBy_12 (lv_at hl 5 rfl) ?_
    refine lv_iload_n hx hb d_Model_costBy_14 rfl (lv_at hl 1 rfl) ?_
    obtain ⟨x4, h5, hf⟩ := bdE hf
    refine vR (q0 := 0) (ci := 11) (rest := []) C0 (c_Model_isThrough l D ty mA sM sN a4 a5 a1 x4 h5) k_935 cal_Model_isThrough hK hP rfl rfl rfl ⟨by rw [hR]; decide, by rw [hR]; decide⟩ rfl rfl rfl hl.1 rfl (Nat.le_of_ble_eq_true rfl) d_Model_costBy_15 ⟨Nat.zero_le _, Nat.zero_le _⟩ rfl ?_
    refine lv_if_ne (tgt := 25) hx hb d_Model_costBy_18 (by decide) (fun c6 => ?_) (fun c6 => ?_)
    · replace hf := iteF c6 hf
      refine lv_aload_n hx hb d_Model_costBy_25 rfl (lv_at hl 0 rfl) ?_
      refine lv_iload hx hb d_Model_costBy_26 (lv_at hl 4 rfl) ?_
      refine lv_iload hx hb d_Model_costBy_28 (lv_at hl 5 rfl) ?_
      refine lv_iload_n hx hb d_Model_costBy_30 rfl (lv_at hl 1 rfl) ?_
      obtain ⟨x7, h8, hf⟩ := bdE hf
      refine vR (q0 := 0) (ci := 11) (rest := []) C0 (c_Model_dueIn l D ty mA sM sN a4 a5 a1 x7 h8) k_961 cal_Model_dueIn hK hP rfl rfl rfl ⟨by rw [hR]; decide, by rw [hR]; decide⟩ rfl rfl rfl hl.1 rfl (Nat.le_of_ble_eq_true rfl) d_Model_costBy_31 ⟨Nat.zero_le _, Nat.zero_le _⟩ rfl ?_
      refine lv_iload hx hb d_Model_costBy_34 (lv_at hl 5 rfl) ?_
      refine lv_iload_n hx hb d_Model_costBy_36 rfl (lv_at hl 3 rfl) ?_
      have J50 : ∀ (x9 : Int32), f_Model_costBy_J50 a1 a2 a4 a5 sM sN x7 x9 = some rr → ∀ ls : Array Slot, lv_has ls 6 [(0, .ref (mA 0)), (1, .int a1), (2, .int a2), (4, .int a4), (5, .int a5)] → W p l e R s m args below meth c s.heap [] 0 0 Q (F0 m 50 ls [.int x9, .int x7]) := by
        intro x9 hf ls hl
        unfold f_Model_costBy_J50 at hf
        refine lv_iadd hx hb d_Model_costBy_50 ?_
        refine lv_aload_n hx hb d_Model_costBy_51 rfl (lv_at hl 0 rfl) ?_
        refine lv_iload_n hx hb d_Model_costBy_52 rfl (lv_at hl 1 rfl) ?_
        refine lv_iconst (v := (1 : Int32)) hx hb d_Model_costBy_53 (by decide) ?_
        refine lv_iadd hx hb d_Model_costBy_54 ?_
        refine lv_iload_n hx hb d_Model_costBy_55 rfl (lv_at hl 2 rfl) ?_
        refine lv_iconst (v := (1 : Int32)) hx hb d_Model_costBy_56 (by decide) ?_
        refine lv_iload hx hb d_Model_costBy_57 (lv_at hl 3 rfl) ?_
        refine lv_ishl hx hb d_Model_costBy_59 ?_
        refine lv_ior hx hb d_Model_costBy_60 ?_
        refine lv_iload hx hb d_Model_costBy_61 (lv_at hl 4 rfl) ?_
        obtain ⟨x10, h11, hf⟩ := bdE hf
        refine vR (q0 := 0) (ci := 11) (rest := [.int (x7 + x9)]) C0 (c_Model_leftAt l D ty mA sM sN (a1 + (1 : Int32)) (a2 ||| ((1 : Int32) <<< (a4 &&& 31))) a5 x10 h11) k_1011 cal_Model_leftAt hK hP rfl rfl rfl ⟨by rw [hR]; decide, by rw [hR]; decide⟩ rfl rfl rfl hl.1 rfl (Nat.le_of_ble_eq_true rfl) d_Model_costBy_63 ⟨Nat.zero_le _, Nat.zero_le _⟩ rfl ?_
        refine lv_iadd hx hb d_Model_costBy_66 ?_
        obtain rfl := sj1 hf
        exact retR C0 (narI _) hQ d_Model_costBy_67
      refine lv_icmp_eq (tgt := 49) hx hb d_Model_costBy_37 (by decide) (fun c12 => ?_) (fun c12 => ?_)
      · replace hf := iteT c12 hf
        refine lv_iconst (v := (0 : Int32)) hx hb d_Model_costBy_49 (by decide) ?_
        exact J50 (0 : Int32) hf ls (lv_sub hl [0, 1, 2, 4, 5] rfl)
      · replace hf := iteF c12 hf
        refine lv_aload_n hx hb d_Model_costBy_40 rfl (lv_at hl 0 rfl) ?_
        refine va_get (D := D) (ci := 11) (v := .ref (mA 1)) (C := "BedFrontierModel") (T := T_Model) (N := 22) hx hb htt i_Model hown hK.1 hP 0 rfl rfl 0 (by decide) (htt _ k_772) (fun _ h9 => h9) rfl d_Model_costBy_41 ?_
        refine lv_iconst (v := (4 : Int32)) hx hb d_Model_costBy_44 (by decide) ?_
        refine ld_iald (j := 4) hx hb hK.1 hP 1 0 rfl rfl (okI_in (by decide)) rfl d_Model_costBy_45 ?_
        refine lv_goto (tgt := 50) hx hb d_Model_costBy_46 (by decide) ?_
        exact J50 (sM 0 4) hf ls (lv_sub hl [0, 1, 2, 4, 5] rfl)
    · replace hf := iteT c6 hf
      refine lv_sipush (v := (9999 : Int32)) hx hb d_Model_costBy_21 (by decide) ?_
      obtain rfl := sj1 hf
      exact retR C0 (narI _) hQ d_Model_costBy_24
def f_Model_findLeast_J151 (x2 : Int32) (x6 : Int32) (sM7 : PW) (sN8 : PL) (K27 : Int32 × PW × PL → Option (PW × PL)) (x13 : Int32) : Option (PW × PL) :=
  gd (okI (((128 : Int32) * x2) + x6) 3200) (nm (up sM7 15 (upd (sM7 15) (((((128 : Int32) * x2) + x6)).toNatClampNeg) x13)) (fun sM16 => nm (x6 + (1 : Int32)) (fun x17 => K27 (x17, sM16, sN8))))
def f_Model_findLeast_L101 (x2 : Int32) (x6 : Int32) (sM7 : PW) (sN8 : PL) (x11 : Int32) (x14 : Int32) (K80 : Int32 × Int32 → Option (PW × PL)) (K101 : Int32 × Int32 → Option (PW × PL)) : Int32 × Int32 → Option (PW × PL)
  | (x20, x21) =>
  (if (2 : Int32) ≤ x21 then nm (x14 + (1 : Int32)) (fun x23 => K80 (x20, x23)) else bd (f_Model_costBy sM7 sN8 x2 x11 (x6 &&& (1 : Int32)) x14 x21) (fun x24 => (if x20 ≤ x24 then nm (x21 + (1 : Int32)) (fun x27 => K101 (x20, x27)) else nm (x21 + (1 : Int32)) (fun x28 => K101 (x24, x28)))))
def f_Model_findLeast_L80 (x2 : Int32) (x6 : Int32) (sM7 : PW) (sN8 : PL) (K27 : Int32 × PW × PL → Option (PW × PL)) (x11 : Int32) (K80 : Int32 × Int32 → Option (PW × PL)) : Int32 × Int32 → Option (PW × PL)
  | (x13, x14) =>
  (if (sM7 0 9) ≤ x14 then f_Model_findLeast_J151 x2 x6 sM7 sN8 K27 x13 else (if (24 : Int32) ≤ x2 then f_Model_findLeast_J151 x2 x6 sM7 sN8 K27 x13 else loopF (f_Model_findLeast_L101 x2 x6 sM7 sN8 x11 x14 K80) 4000 (x13, (0 : Int32))))
def f_Model_findLeast_J75 (x2 : Int32) (x6 : Int32) (sM7 : PW) (sN8 : PL) (K27 : Int32 × PW × PL → Option (PW × PL)) (x11 : Int32) (x12 : Int32) : Option (PW × PL) :=
  loopF (f_Model_findLeast_L80 x2 x6 sM7 sN8 K27 x11) 4000 (x12, (0 : Int32))
def f_Model_findLeast_L27 (x1 : Int32) (x2 : Int32) (K15 : Int32 × PW × PL → Option (PW × PL)) (K27 : Int32 × PW × PL → Option (PW × PL)) : Int32 × PW × PL → Option (PW × PL)
  | (x6, sM7, sN8) =>
  (if (((2 : Int32) * x1) + (1 : Int32)) < x6 then nm (x2 + (-1 : Int32)) (fun x10 => K15 (x10, sM7, sN8)) else nm (x6 >>> ((1 : Int32) &&& 31)) (fun x11 => (if x2 = (24 : Int32) then (if x11 = x1 then f_Model_findLeast_J75 x2 x6 sM7 sN8 K27 x11 (0 : Int32) else f_Model_findLeast_J75 x2 x6 sM7 sN8 K27 x11 (9999 : Int32)) else bd (f_Model_leftAt sM7 sN8 (x2 + (1 : Int32)) x11 (x6 &&& (1 : Int32))) (fun x30 => f_Model_findLeast_J75 x2 x6 sM7 sN8 K27 x11 x30))))
def f_Model_findLeast_L15 (x1 : Int32) (K15 : Int32 × PW × PL → Option (PW × PL)) : Int32 × PW × PL → Option (PW × PL)
  | (x2, sM3, sN4) =>
  (if x2 < (sM3 0 1) then some (sM3, sN4) else loopF (f_Model_findLeast_L27 x1 x2 K15) 4000 ((0 : Int32), sM3, sN4))
def f_Model_findLeast (sM : PW) (sN : PL) : Option (PW × PL) :=
  nm (((1 : Int32) <<< ((sM 0 9) &&& 31)) - (1 : Int32)) (fun x1 => loopF (f_Model_findLeast_L15 x1) 4000 ((24 : Int32), sM, sN))
set_option maxHeartbeats 4000000 in
set_option maxRecDepth 100000 in
theorem c_Model_findLeast (l : Launch) (D : va_G) (ty : Nat → ClassId) (mA : Nat → Nat) (sz : Nat) (sM : PW) (sN : PL) (tM : PW) (tN : PL) (hf : f_Model_findLeast sM sN = some (tM, tN)) : Met l y_Model_findLeast (Cond.code y_Model_findLeast prog_13_method_44_code 9 none :: lw_ok) { frames := 3, cells := 0, slots := 0, locals := 75 } (PcM D ty [.ref (mA 0)] sz (L_m ty mA sM sN)) (QM D (L_m ty mA tM tN) (va_A (L_m ty mA sM sN) sz) (none)) 0 0 (va_A (L_m ty mA sM sN) sz) := by
  refine hdM (by decide) (Nat.le_of_ble_eq_true rfl) ?_
  intro p e s m below meth c ls R args Q A C0 hR hQ hnm hAq hP hK hD hS hl
  obtain ⟨hx, hb, hr, hlk, hml, hown, htt⟩ := id C0
  have hl : lv_has ls 9 [(0, .ref (mA 0))] := hl
  generalize hH0 : s.heap = H at hP hS ⊢
  have hS : va_S A s.heap H [] := by rw [hH0]; exact hS
  unfold f_Model_findLeast at hf
  refine lv_iconst (v := (1 : Int32)) hx hb d_Model_findLeast_0 (by decide) ?_
  refine lv_aload_n hx hb d_Model_findLeast_1 rfl (lv_at hl 0 rfl) ?_
  refine va_get (D := D) (ci := 11) (v := .ref (mA 1)) (C := "BedFrontierModel") (T := T_Model) (N := 22) hx hb htt i_Model hown hK.1 hP 0 rfl rfl 0 (by decide) (htt _ k_772) (fun _ h9 => h9) rfl d_Model_findLeast_2 ?_
  refine lv_bipush (v := (9 : Int32)) hx hb d_Model_findLeast_5 (by decide) ?_
  refine ld_iald (j := 9) hx hb hK.1 hP 1 0 rfl rfl (okI_in (by decide)) rfl d_Model_findLeast_7 ?_
  refine lv_ishl hx hb d_Model_findLeast_8 ?_
  refine lv_iconst (v := (1 : Int32)) hx hb d_Model_findLeast_9 (by decide) ?_
  refine lv_isub hx hb d_Model_findLeast_10 ?_
  refine lv_topi (fun x1 e_x1 => ?_)
  replace hf := nmE hf e_x1
  refine lv_istore_n (lv' := [(1, .int x1), (0, .ref (mA 0))]) hx hb d_Model_findLeast_11 rfl hl (by decide) rfl (fun ls hl => ?_)
  refine lv_bipush (v := (24 : Int32)) hx hb d_Model_findLeast_12 (by decide) ?_
  refine lv_istore_n (lv' := [(2, .int (24 : Int32)), (1, .int x1), (0, .ref (mA 0))]) hx hb d_Model_findLeast_14 rfl hl (by decide) rfl (fun ls hl => ?_)
  have B15 : ∀ (n : Nat) (x : Int32 × PW × PL), loopF (f_Model_findLeast_L15 x1) n x = some (tM, tN) → ∀ (H : Heap) (locs : List Loc) (ls : Array Slot), va_P D vwCl (L_m ty mA (x.2.1) (x.2.2)) H → va_D A (L_m ty mA (x.2.1) (x.2.2)) → va_S A s.heap H locs → lv_has ls 9 [(0, .ref (mA 0)), (1, .int x1), (2, .int (x.1))] → W p l e R s m args below meth c H locs 0 0 Q (F0 m 15 ls []) := by
    refine loopW (fun (x : Int32 × PW × PL) => ∀ (H : Heap) (locs : List Loc) (ls : Array Slot), va_P D vwCl (L_m ty mA (x.2.1) (x.2.2)) H → va_D A (L_m ty mA (x.2.1) (x.2.2)) → va_S A s.heap H locs → lv_has ls 9 [(0, .ref (mA 0)), (1, .int x1), (2, .int (x.1))] → W p l e R s m args below meth c H locs 0 0 Q (F0 m 15 ls [])) ?_
    intro K15 hK15 x hf
    obtain ⟨x2, sM3, sN4⟩ := x
    rw [f_Model_findLeast_L15] at hf
    intro H locs ls hP hD hS hl
    have hl : lv_has ls 9 [(0, .ref (mA 0)), (1, .int x1), (2, .int x2)] := hl
    have hP : va_P D vwCl (L_m ty mA sM3 sN4) H := hP
    have hD : va_D A (L_m ty mA sM3 sN4) := hD
    show W p l e R s m args below meth c H locs 0 0 Q (F0 m 15 ls [])
    refine lv_iload_n hx hb d_Model_findLeast_15 rfl (lv_at hl 2 rfl) ?_
    refine lv_aload_n hx hb d_Model_findLeast_16 rfl (lv_at hl 0 rfl) ?_
    refine va_get (D := D) (ci := 11) (v := .ref (mA 1)) (C := "BedFrontierModel") (T := T_Model) (N := 22) hx hb htt i_Model hown hK.1 hP 0 rfl rfl 0 (by decide) (htt _ k_772) (fun _ h9 => h9) rfl d_Model_findLeast_17 ?_
    refine lv_iconst (v := (1 : Int32)) hx hb d_Model_findLeast_20 (by decide) ?_
    refine ld_iald (j := 1) hx hb hK.1 hP 1 0 rfl rfl (okI_in (by decide)) rfl d_Model_findLeast_21 ?_
    refine lv_icmp_lt (tgt := 177) hx hb d_Model_findLeast_22 (by decide) (fun c5 => ?_) (fun c5 => ?_)
    · replace hf := iteT c5 hf
      obtain ⟨rfl, rfl⟩ := sj2 hf
      exact retMv C0 hQ hP hD hS d_Model_findLeast_177
    · replace hf := iteF c5 hf
      refine lv_iconst (v := (0 : Int32)) hx hb d_Model_findLeast_25 (by decide) ?_
      refine lv_istore_n (lv' := [(3, .int (0 : Int32)), (0, .ref (mA 0)), (1, .int x1), (2, .int x2)]) hx hb d_Model_findLeast_26 rfl hl (by decide) rfl (fun ls hl => ?_)
      have B27 : ∀ (n : Nat) (x : Int32 × PW × PL), loopF (f_Model_findLeast_L27 x1 x2 K15) n x = some (tM, tN) → ∀ (H : Heap) (locs : List Loc) (ls : Array Slot), va_P D vwCl (L_m ty mA (x.2.1) (x.2.2)) H → va_D A (L_m ty mA (x.2.1) (x.2.2)) → va_S A s.heap H locs → lv_has ls 9 [(0, .ref (mA 0)), (1, .int x1), (2, .int x2), (3, .int (x.1))] → W p l e R s m args below meth c H locs 0 0 Q (F0 m 27 ls []) := by
        refine loopW (fun (x : Int32 × PW × PL) => ∀ (H : Heap) (locs : List Loc) (ls : Array Slot), va_P D vwCl (L_m ty mA (x.2.1) (x.2.2)) H → va_D A (L_m ty mA (x.2.1) (x.2.2)) → va_S A s.heap H locs → lv_has ls 9 [(0, .ref (mA 0)), (1, .int x1), (2, .int x2), (3, .int (x.1))] → W p l e R s m args below meth c H locs 0 0 Q (F0 m 27 ls [])) ?_
        intro K27 hK27 x hf
        obtain ⟨x6, sM7, sN8⟩ := x
        rw [f_Model_findLeast_L27] at hf
        intro H locs ls hP hD hS hl
        have hl : lv_has ls 9 [(0, .ref (mA 0)), (1, .int x1), (2, .int x2), (3, .int x6)] := hl
        have hP : va_P D vwCl (L_m ty mA sM7 sN8) H := hP
        have hD : va_D A (L_m ty mA sM7 sN8) := hD
        show W p l e R s m args below meth c H locs 0 0 Q (F0 m 27 ls [])
        refine lv_iload_n hx hb d_Model_findLeast_27 rfl (lv_at hl 3 rfl) ?_
        refine lv_iconst (v := (2 : Int32)) hx hb d_Model_findLeast_28 (by decide) ?_
        refine lv_iload_n hx hb d_Model_findLeast_29 rfl (lv_at hl 1 rfl) ?_
        refine lv_imul hx hb d_Model_findLeast_30 ?_
        refine lv_iconst (v := (1 : Int32)) hx hb d_Model_findLeast_31 (by decide) ?_
        refine lv_iadd hx hb d_Model_findLeast_32 ?_
        refine lv_icmp_gt (tgt := 171) hx hb d_Model_findLeast_33 (by decide) (fun c9 => ?_) (fun c9 => ?_)
        · replace hf := iteT c9 hf
          obtain ⟨x10, e_x10⟩ : ∃ z : Int32, z = (x2 + (-1 : Int32)) := ⟨_, rfl⟩
          replace hf := nmE hf e_x10
          refine lv_iinc (v := x10) (lv' := [(2, .int x10), (0, .ref (mA 0)), (1, .int x1), (3, .int x6)]) hx hb d_Model_findLeast_171 hl (k := 2) rfl (by rw [e_x10]; rfl) (by decide) rfl (fun ls hl => ?_)
          refine lv_goto (tgt := 15) hx hb d_Model_findLeast_174 (by decide) ?_
          exact hK15 (x10, sM7, sN8) hf _ _ ls hP hD hS (lv_sub hl [1, 2, 0] rfl)
        · replace hf := iteF c9 hf
          refine lv_iload_n hx hb d_Model_findLeast_36 rfl (lv_at hl 3 rfl) ?_
          refine lv_iconst (v := (1 : Int32)) hx hb d_Model_findLeast_37 (by decide) ?_
          refine lv_ishr hx hb d_Model_findLeast_38 ?_
          refine lv_topi (fun x11 e_x11 => ?_)
          replace hf := nmE hf e_x11
          refine lv_istore (lv' := [(4, .int x11), (0, .ref (mA 0)), (1, .int x1), (2, .int x2), (3, .int x6)]) hx hb d_Model_findLeast_39 hl (by decide) rfl (fun ls hl => ?_)
          refine lv_iload_n hx hb d_Model_findLeast_41 rfl (lv_at hl 3 rfl) ?_
          refine lv_bipush (v := (24 : Int32)) hx hb d_Model_findLeast_42 (by decide) ?_
          have J75 : ∀ (x12 : Int32), f_Model_findLeast_J75 x2 x6 sM7 sN8 K27 x11 x12 = some (tM, tN) → ∀ (H : Heap) (locs : List Loc) (ls : Array Slot), va_P D vwCl (L_m ty mA sM7 sN8) H → va_D A (L_m ty mA sM7 sN8) → va_S A s.heap H locs → lv_has ls 9 [(0, .ref (mA 0)), (1, .int x1), (2, .int x2), (3, .int x6), (4, .int x11)] → W p l e R s m args below meth c H locs 0 0 Q (F0 m 75 ls [.int x12]) := by
            intro x12 hf H locs ls hP hD hS hl
            unfold f_Model_findLeast_J75 at hf
            refine lv_istore (lv' := [(5, .int x12), (0, .ref (mA 0)), (1, .int x1), (2, .int x2), (3, .int x6), (4, .int x11)]) hx hb d_Model_findLeast_75 hl (by decide) rfl (fun ls hl => ?_)
            refine lv_iconst (v := (0 : Int32)) hx hb d_Model_findLeast_77 (by decide) ?_
            refine lv_istore (lv' := [(6, .int (0 : Int32)), (5, .int x12), (0, .ref (mA 0)), (1, .int x1), (2, .int x2), (3, .int x6), (4, .int x11)]) hx hb d_Model_findLeast_78 hl (by decide) rfl (fun ls hl => ?_)
            have B80 : ∀ (n : Nat) (x : Int32 × Int32), loopF (f_Model_findLeast_L80 x2 x6 sM7 sN8 K27 x11) n x = some (tM, tN) → ∀ (H : Heap) (locs : List Loc) (ls : Array Slot), va_P D vwCl (L_m ty mA sM7 sN8) H → va_D A (L_m ty mA sM7 sN8) → va_S A s.heap H locs → lv_has ls 9 [(0, .ref (mA 0)), (1, .int x1), (2, .int x2), (3, .int x6), (4, .int x11), (5, .int (x.1)), (6, .int (x.2))] → W p l e R s m args below meth c H locs 0 0 Q (F0 m 80 ls []) := by
              refine loopW (fun (x : Int32 × Int32) => ∀ (H : Heap) (locs : List Loc) (ls : Array Slot), va_P D vwCl (L_m ty mA sM7 sN8) H → va_D A (L_m ty mA sM7 sN8) → va_S A s.heap H locs → lv_has ls 9 [(0, .ref (mA 0)), (1, .int x1), (2, .int x2), (3, .int x6), (4, .int x11), (5, .int (x.1)), (6, .int (x.2))] → W p l e R s m args below meth c H locs 0 0 Q (F0 m 80 ls [])) ?_
              intro K80 hK80 x hf
              obtain ⟨x13, x14⟩ := x
              rw [f_Model_findLeast_L80] at hf
              intro H locs ls hP hD hS hl
              have hl : lv_has ls 9 [(0, .ref (mA 0)), (1, .int x1), (2, .int x2), (3, .int x6), (4, .int x11), (5, .int x13), (6, .int x14)] := hl
              have hP : va_P D vwCl (L_m ty mA sM7 sN8) H := hP
              have hD : va_D A (L_m ty mA sM7 sN8) := hD
              show W p l e R s m args below meth c H locs 0 0 Q (F0 m 80 ls [])
              refine lv_iload hx hb d_Model_findLeast_80 (lv_at hl 6 rfl) ?_
              refine lv_aload_n hx hb d_Model_findLeast_82 rfl (lv_at hl 0 rfl) ?_
              refine va_get (D := D) (ci := 11) (v := .ref (mA 1)) (C := "BedFrontierModel") (T := T_Model) (N := 22) hx hb htt i_Model hown hK.1 hP 0 rfl rfl 0 (by decide) (htt _ k_772) (fun _ h9 => h9) rfl d_Model_findLeast_83 ?_
              refine lv_bipush (v := (9 : Int32)) hx hb d_Model_findLeast_86 (by decide) ?_
              refine ld_iald (j := 9) hx hb hK.1 hP 1 0 rfl rfl (okI_in (by decide)) rfl d_Model_findLeast_88 ?_
              have J151 : ∀ (_ : Unit), f_Model_findLeast_J151 x2 x6 sM7 sN8 K27 x13 = some (tM, tN) → ∀ (H : Heap) (locs : List Loc) (ls : Array Slot), va_P D vwCl (L_m ty mA sM7 sN8) H → va_D A (L_m ty mA sM7 sN8) → va_S A s.heap H locs → lv_has ls 9 [(0, .ref (mA 0)), (1, .int x1), (2, .int x2), (3, .int x6), (5, .int x13)] → W p l e R s m args below meth c H locs 0 0 Q (F0 m 151 ls []) := by
                intro _ hf H locs ls hP hD hS hl
                unfold f_Model_findLeast_J151 at hf
                refine lv_aload_n hx hb d_Model_findLeast_151 rfl (lv_at hl 0 rfl) ?_
                refine va_get (D := D) (ci := 11) (v := .ref (mA 16)) (C := "BedFrontierModel") (T := T_Model) (N := 22) hx hb htt i_Model hown hK.1 hP 0 rfl rfl 15 (by decide) (htt _ k_787) (fun _ h9 => h9) rfl d_Model_findLeast_152 ?_
                refine lv_sipush (v := (128 : Int32)) hx hb d_Model_findLeast_155 (by decide) ?_
                refine lv_iload_n hx hb d_Model_findLeast_158 rfl (lv_at hl 2 rfl) ?_
                refine lv_imul hx hb d_Model_findLeast_159 ?_
                refine lv_iload_n hx hb d_Model_findLeast_160 rfl (lv_at hl 3 rfl) ?_
                refine lv_iadd hx hb d_Model_findLeast_161 ?_
                refine lv_iload hx hb d_Model_findLeast_162 (lv_at hl 4 rfl) ?_
                obtain ⟨g15, hf⟩ := gdE hf
                refine va_iast hx hb hK.1 hP hD hS 6 0 rfl rfl (okI_in g15) d_Model_findLeast_164 (fun H locs hP hD hS => ?_)
                obtain ⟨sM16, e_sM16⟩ : ∃ z : PW, z = up sM7 15 (upd (sM7 15) (((((128 : Int32) * x2) + x6)).toNatClampNeg) x13) := ⟨_, rfl⟩
                replace hf := nmE hf e_sM16
                have hP : va_P D vwCl (L_m ty mA sM16 sN8) H := by rw [e_sM16]; exact hP
                have hD : va_D A (L_m ty mA sM16 sN8) := by rw [e_sM16]; exact hD
                obtain ⟨x17, e_x17⟩ : ∃ z : Int32, z = (x6 + (1 : Int32)) := ⟨_, rfl⟩
                replace hf := nmE hf e_x17
                refine lv_iinc (v := x17) (lv' := [(3, .int x17), (0, .ref (mA 0)), (1, .int x1), (2, .int x2), (5, .int x13)]) hx hb d_Model_findLeast_165 hl (k := 3) rfl (by rw [e_x17]; rfl) (by decide) rfl (fun ls hl => ?_)
                refine lv_goto (tgt := 27) hx hb d_Model_findLeast_168 (by decide) ?_
                exact hK27 (x17, sM16, sN8) hf _ _ ls hP hD hS (lv_sub hl [1, 2, 3, 0] rfl)
              refine lv_icmp_ge (tgt := 151) hx hb d_Model_findLeast_89 (by decide) (fun c18 => ?_) (fun c18 => ?_)
              · replace hf := iteT c18 hf
                exact J151 () hf _ _ ls hP hD hS (lv_sub hl [0, 1, 2, 3, 5] rfl)
              · replace hf := iteF c18 hf
                refine lv_iload_n hx hb d_Model_findLeast_92 rfl (lv_at hl 2 rfl) ?_
                refine lv_bipush (v := (24 : Int32)) hx hb d_Model_findLeast_93 (by decide) ?_
                refine lv_icmp_ge (tgt := 151) hx hb d_Model_findLeast_95 (by decide) (fun c19 => ?_) (fun c19 => ?_)
                · replace hf := iteT c19 hf
                  exact J151 () hf _ _ ls hP hD hS (lv_sub hl [0, 1, 2, 3, 5] rfl)
                · replace hf := iteF c19 hf
                  refine lv_iconst (v := (0 : Int32)) hx hb d_Model_findLeast_98 (by decide) ?_
                  refine lv_istore (lv' := [(7, .int (0 : Int32)), (0, .ref (mA 0)), (1, .int x1), (2, .int x2), (3, .int x6), (4, .int x11), (5, .int x13), (6, .int x14)]) hx hb d_Model_findLeast_99 hl (by decide) rfl (fun ls hl => ?_)
                  have B101 : ∀ (n : Nat) (x : Int32 × Int32), loopF (f_Model_findLeast_L101 x2 x6 sM7 sN8 x11 x14 K80) n x = some (tM, tN) → ∀ (H : Heap) (locs : List Loc) (ls : Array Slot), va_P D vwCl (L_m ty mA sM7 sN8) H → va_D A (L_m ty mA sM7 sN8) → va_S A s.heap H locs → lv_has ls 9 [(0, .ref (mA 0)), (1, .int x1), (2, .int x2), (3, .int x6), (4, .int x11), (5, .int (x.1)), (6, .int x14), (7, .int (x.2))] → W p l e R s m args below meth c H locs 0 0 Q (F0 m 101 ls []) := by
                    refine loopW (fun (x : Int32 × Int32) => ∀ (H : Heap) (locs : List Loc) (ls : Array Slot), va_P D vwCl (L_m ty mA sM7 sN8) H → va_D A (L_m ty mA sM7 sN8) → va_S A s.heap H locs → lv_has ls 9 [(0, .ref (mA 0)), (1, .int x1), (2, .int x2), (3, .int x6), (4, .int x11), (5, .int (x.1)), (6, .int x14), (7, .int (x.2))] → W p l e R s m args below meth c H locs 0 0 Q (F0 m 101 ls [])) ?_
                    intro K101 hK101 x hf
                    obtain ⟨x20, x21⟩ := x
                    rw [f_Model_findLeast_L101] at hf
                    intro H locs ls hP hD hS hl
                    have hl : lv_has ls 9 [(0, .ref (mA 0)), (1, .int x1), (2, .int x2), (3, .int x6), (4, .int x11), (5, .int x20), (6, .int x14), (7, .int x21)] := hl
                    have hP : va_P D vwCl (L_m ty mA sM7 sN8) H := hP
                    have hD : va_D A (L_m ty mA sM7 sN8) := hD
                    show W p l e R s m args below meth c H locs 0 0 Q (F0 m 101 ls [])
                    refine lv_iload hx hb d_Model_findLeast_101 (lv_at hl 7 rfl) ?_
                    refine lv_iconst (v := (2 : Int32)) hx hb d_Model_findLeast_103 (by decide) ?_
                    refine lv_icmp_ge (tgt := 145) hx hb d_Model_findLeast_104 (by decide) (fun c22 => ?_) (fun c22 => ?_)
                    · replace hf := iteT c22 hf
                      obtain ⟨x23, e_x23⟩ : ∃ z : Int32, z = (x14 + (1 : Int32)) := ⟨_, rfl⟩
                      replace hf := nmE hf e_x23
                      refine lv_iinc (v := x23) (lv' := [(6, .int x23), (0, .ref (mA 0)), (1, .int x1), (2, .int x2), (3, .int x6), (4, .int x11), (5, .int x20), (7, .int x21)]) hx hb d_Model_findLeast_145 hl (k := 6) rfl (by rw [e_x23]; rfl) (by decide) rfl (fun ls hl => ?_)
                      refine lv_goto (tgt := 80) hx hb d_Model_findLeast_148 (by decide) ?_
                      exact hK80 (x20, x23) hf _ _ ls hP hD hS (lv_sub hl [1, 2, 3, 4, 5, 6, 0] rfl)
                    · replace hf := iteF c22 hf
                      refine lv_aload_n hx hb d_Model_findLeast_107 rfl (lv_at hl 0 rfl) ?_
                      refine lv_iload_n hx hb d_Model_findLeast_108 rfl (lv_at hl 2 rfl) ?_
                      refine lv_iload hx hb d_Model_findLeast_109 (lv_at hl 4 rfl) ?_
                      refine lv_iload_n hx hb d_Model_findLeast_111 rfl (lv_at hl 3 rfl) ?_
                      refine lv_iconst (v := (1 : Int32)) hx hb d_Model_findLeast_112 (by decide) ?_
                      refine lv_iand hx hb d_Model_findLeast_113 ?_
                      refine lv_iload hx hb d_Model_findLeast_114 (lv_at hl 6 rfl) ?_
                      refine lv_iload hx hb d_Model_findLeast_116 (lv_at hl 7 rfl) ?_
                      obtain ⟨x24, h25, hf⟩ := bdE hf
                      refine vR (q0 := 0) (ci := 11) (rest := []) C0 (c_Model_costBy l D ty mA sM7 sN8 x2 x11 (x6 &&& (1 : Int32)) x14 x21 x24 h25) k_1015 cal_Model_costBy hK hP rfl rfl rfl ⟨by rw [hR]; decide, by rw [hR]; decide⟩ rfl rfl rfl hl.1 rfl (Nat.le_of_ble_eq_true rfl) d_Model_findLeast_118 ⟨Nat.zero_le _, Nat.zero_le _⟩ rfl ?_
                      refine lv_istore (lv' := [(8, .int x24), (0, .ref (mA 0)), (1, .int x1), (2, .int x2), (3, .int x6), (4, .int x11), (5, .int x20), (6, .int x14), (7, .int x21)]) hx hb d_Model_findLeast_121 hl (by decide) rfl (fun ls hl => ?_)
                      refine lv_iload hx hb d_Model_findLeast_123 (lv_at hl 0 rfl) ?_
                      refine lv_iload hx hb d_Model_findLeast_125 (lv_at hl 6 rfl) ?_
                      refine lv_icmp_ge (tgt := 135) hx hb d_Model_findLeast_127 (by decide) (fun c26 => ?_) (fun c26 => ?_)
                      · replace hf := iteT c26 hf
                        refine lv_iload hx hb d_Model_findLeast_135 (lv_at hl 6 rfl) ?_
                        refine lv_istore (lv' := [(5, .int x20), (8, .int x24), (0, .ref (mA 0)), (1, .int x1), (2, .int x2), (3, .int x6), (4, .int x11), (6, .int x14), (7, .int x21)]) hx hb d_Model_findLeast_137 hl (by decide) rfl (fun ls hl => ?_)
                        obtain ⟨x27, e_x27⟩ : ∃ z : Int32, z = (x21 + (1 : Int32)) := ⟨_, rfl⟩
                        replace hf := nmE hf e_x27
                        refine lv_iinc (v := x27) (lv' := [(7, .int x27), (5, .int x20), (8, .int x24), (0, .ref (mA 0)), (1, .int x1), (2, .int x2), (3, .int x6), (4, .int x11), (6, .int x14)]) hx hb d_Model_findLeast_139 hl (k := 8) rfl (by rw [e_x27]; rfl) (by decide) rfl (fun ls hl => ?_)
                        refine lv_goto (tgt := 101) hx hb d_Model_findLeast_142 (by decide) ?_
                        exact hK101 (x20, x27) hf _ _ ls hP hD hS (lv_sub hl [3, 4, 5, 6, 7, 1, 8, 0] rfl)
                      · replace hf := iteF c26 hf
                        refine lv_iload hx hb d_Model_findLeast_130 (lv_at hl 0 rfl) ?_
                        refine lv_goto (tgt := 137) hx hb d_Model_findLeast_132 (by decide) ?_
                        refine lv_istore (lv' := [(5, .int x24), (8, .int x24), (0, .ref (mA 0)), (1, .int x1), (2, .int x2), (3, .int x6), (4, .int x11), (6, .int x14), (7, .int x21)]) hx hb d_Model_findLeast_137 hl (by decide) rfl (fun ls hl => ?_)
                        obtain ⟨x28, e_x28⟩ : ∃ z : Int32, z = (x21 + (1 : Int32)) := ⟨_, rfl⟩
                        replace hf := nmE hf e_x28
                        refine lv_iinc (v := x28) (lv' := [(7, .int x28), (5, .int x24), (8, .int x24), (0, .ref (mA 0)), (1, .int x1), (2, .int x2), (3, .int x6), (4, .int x11), (6, .int x14)]) hx hb d_Model_findLeast_139 hl (k := 8) rfl (by rw [e_x28]; rfl) (by decide) rfl (fun ls hl => ?_)
                        refine lv_goto (tgt := 101) hx hb d_Model_findLeast_142 (by decide) ?_
                        exact hK101 (x24, x28) hf _ _ ls hP hD hS (lv_sub hl [3, 4, 5, 6, 7, 1, 8, 0] rfl)
                  exact B101 4000 (x13, (0 : Int32)) hf _ _ ls hP hD hS (lv_sub hl [1, 2, 3, 4, 5, 6, 7, 0] rfl)
            exact B80 4000 (x12, (0 : Int32)) hf _ _ ls hP hD hS (lv_sub hl [2, 3, 4, 5, 6, 1, 0] rfl)
          refine lv_icmp_ne (tgt := 63) hx hb d_Model_findLeast_44 (by decide) (fun c29 => ?_) (fun c29 => ?_)
          · replace hf := iteF c29 hf
            refine lv_aload_n hx hb d_Model_findLeast_63 rfl (lv_at hl 1 rfl) ?_
            refine lv_iload_n hx hb d_Model_findLeast_64 rfl (lv_at hl 3 rfl) ?_
            refine lv_iconst (v := (1 : Int32)) hx hb d_Model_findLeast_65 (by decide) ?_
            refine lv_iadd hx hb d_Model_findLeast_66 ?_
            refine lv_iload hx hb d_Model_findLeast_67 (lv_at hl 0 rfl) ?_
            refine lv_iload_n hx hb d_Model_findLeast_69 rfl (lv_at hl 4 rfl) ?_
            refine lv_iconst (v := (1 : Int32)) hx hb d_Model_findLeast_70 (by decide) ?_
            refine lv_iand hx hb d_Model_findLeast_71 ?_
            obtain ⟨x30, h31, hf⟩ := bdE hf
            refine vR (q0 := 0) (ci := 11) (rest := []) C0 (c_Model_leftAt l D ty mA sM7 sN8 (x2 + (1 : Int32)) x11 (x6 &&& (1 : Int32)) x30 h31) k_1011 cal_Model_leftAt hK hP rfl rfl rfl ⟨by rw [hR]; decide, by rw [hR]; decide⟩ rfl rfl rfl hl.1 rfl (Nat.le_of_ble_eq_true rfl) d_Model_findLeast_72 ⟨Nat.zero_le _, Nat.zero_le _⟩ rfl ?_
            exact J75 x30 hf _ _ ls hP hD hS (lv_sub hl [1, 2, 3, 4, 0] rfl)
          · replace hf := iteT c29 hf
            refine lv_iload hx hb d_Model_findLeast_47 (lv_at hl 0 rfl) ?_
            refine lv_iload_n hx hb d_Model_findLeast_49 rfl (lv_at hl 2 rfl) ?_
            refine lv_icmp_ne (tgt := 57) hx hb d_Model_findLeast_50 (by decide) (fun c32 => ?_) (fun c32 => ?_)
            · replace hf := iteF c32 hf
              refine lv_sipush (v := (9999 : Int32)) hx hb d_Model_findLeast_57 (by decide) ?_
              refine lv_goto (tgt := 75) hx hb d_Model_findLeast_60 (by decide) ?_
              exact J75 (9999 : Int32) hf _ _ ls hP hD hS (lv_sub hl [1, 2, 3, 4, 0] rfl)
            · replace hf := iteT c32 hf
              refine lv_iconst (v := (0 : Int32)) hx hb d_Model_findLeast_53 (by decide) ?_
              refine lv_goto (tgt := 75) hx hb d_Model_findLeast_54 (by decide) ?_
              exact J75 (0 : Int32) hf _ _ ls hP hD hS (lv_sub hl [1, 2, 3, 4, 0] rfl)
      exact B27 4000 ((0 : Int32), sM3, sN4) hf _ _ ls hP hD hS (lv_sub hl [1, 2, 3, 0] rfl)
  exact B15 4000 ((24 : Int32), sM, sN) hf _ _ ls hP hD hS (lv_sub hl [2, 1, 0] rfl)
def f_Model_least_L112 (sM1 : PW) (sN2 : PL) (x10 : Int32) (x11 : Int32) (x12 : Int32) (K76 : Int32 × Int32 × Int32 → Option (Int32 × PW × PL)) (x16 : Int32) (K112 : Int32 → Option (Int32 × PW × PL)) : Int32 → Option (Int32 × PW × PL)
  | x22 =>
  bd (f_Model_costBy sM1 sN2 x12 x10 x11 (x22 / (2 : Int32)) (x22 - x22 / (2 : Int32) * (2 : Int32))) (fun x23 => (if x23 = x16 then nm (x10 ||| ((1 : Int32) <<< ((x22 / (2 : Int32)) &&& 31))) (fun x26 => nm (x22 - x22 / (2 : Int32) * (2 : Int32)) (fun x27 => nm (x12 + (1 : Int32)) (fun x28 => K76 (x26, x27, x28)))) else nm (x22 + (1 : Int32)) (fun x29 => K112 x29)))
def f_Model_least_L76 (a1 : Int32) (sM1 : PW) (sN2 : PL) (K76 : Int32 × Int32 × Int32 → Option (Int32 × PW × PL)) : Int32 × Int32 × Int32 → Option (Int32 × PW × PL)
  | (x10, x11, x12) =>
  bd (f_Model_has x10 a1) (fun x13 => (if x13 = 0 then bd (f_Model_leftAt sM1 sN2 x12 x10 x11) (fun x16 => bd (f_Model_leftAt sM1 sN2 (x12 + (1 : Int32)) x10 x11) (fun x18 => (if x18 = x16 then nm (x12 + (1 : Int32)) (fun x21 => K76 (x10, x11, x21)) else loopF (f_Model_least_L112 sM1 sN2 x10 x11 x12 K76 x16) 4000 (0 : Int32)))) else some ((((10 : Int32) * (x12 - (1 : Int32))) + x11), sM1, sN2)))
def f_Model_least_J21 (a1 : Int32) (sM : PW) (sN : PL) : Option (Int32 × PW × PL) :=
  bd2 (f_Model_findLeast sM sN) (fun sM1 sN2 => bd (f_Model_leftAt sM1 sN2 (sM1 0 1) (0 : Int32) (sM1 0 0)) (fun x4 => (if x4 < (9999 : Int32) then (if 0 ≤ a1 then nm (sM1 0 0) (fun x8 => nm (sM1 0 1) (fun x9 => loopF (f_Model_least_L76 a1 sM1 sN2) 4000 ((0 : Int32), x8, x9))) else some (x4, sM1, sN2)) else some ((-1 : Int32), sM1, sN2))))
def f_Model_least (sM : PW) (sN : PL) (a1 : Int32) : Option (Int32 × PW × PL) :=
  (if a1 = (-1 : Int32) then f_Model_least_J21 a1 sM sN else bd (f_Model_isDoing sM sN a1) (fun x31 => (if x31 = 0 then bd3 (f_Model_bad sM sN) (fun x34 sM35 sN36 => some ((-10 : Int32), sM35, sN36)) else f_Model_least_J21 a1 sM sN)))
set_option maxHeartbeats 4000000 in
set_option maxRecDepth 100000 in
theorem c_Model_least (l : Launch) (D : va_G) (ty : Nat → ClassId) (mA : Nat → Nat) (sz : Nat) (sM : PW) (sN : PL) (a1 : Int32) (rr : Int32) (tM : PW) (tN : PL) (hf : f_Model_least sM sN a1 = some (rr, tM, tN)) : Met l y_Model_least (Cond.code y_Model_least prog_13_method_45_code 7 ((Option.some FieldType.int)) :: lw_ok) { frames := 4, cells := 0, slots := 0, locals := 103 } (PcM D ty [.ref (mA 0), .int a1] sz (L_m ty mA sM sN)) (QM D (L_m ty mA tM tN) (va_A (L_m ty mA sM sN) sz) (some (.int rr))) 0 0 (va_A (L_m ty mA sM sN) sz) := by
  refine hdM (by decide) (Nat.le_of_ble_eq_true rfl) ?_
  intro p e s m below meth c ls R args Q A C0 hR hQ hnm hAq hP hK hD hS hl
  obtain ⟨hx, hb, hr, hlk, hml, hown, htt⟩ := id C0
  have hl : lv_has ls 7 [(0, .ref (mA 0)), (1, .int a1)] := hl
  generalize hH0 : s.heap = H at hP hS ⊢
  have hS : va_S A s.heap H [] := by rw [hH0]; exact hS
  unfold f_Model_least at hf
  refine lv_iload_n hx hb d_Model_least_0 rfl (lv_at hl 1 rfl) ?_
  refine lv_iconst (v := (-1 : Int32)) hx hb d_Model_least_1 (by decide) ?_
  have J21 : ∀ (_ : Unit), f_Model_least_J21 a1 sM sN = some (rr, tM, tN) → ∀ (H : Heap) (locs : List Loc) (ls : Array Slot), va_P D vwCl (L_m ty mA sM sN) H → va_D A (L_m ty mA sM sN) → va_S A s.heap H locs → lv_has ls 7 [(0, .ref (mA 0)), (1, .int a1)] → W p l e R s m args below meth c H locs 0 0 Q (F0 m 21 ls []) := by
    intro _ hf H locs ls hP hD hS hl
    unfold f_Model_least_J21 at hf
    refine lv_aload_n hx hb d_Model_least_21 rfl (lv_at hl 0 rfl) ?_
    obtain ⟨sM1, sN2, h3, hf⟩ := bd2E hf
    refine vM (Lc := (L_m ty mA sM sN)) (Lc' := (L_m ty mA sM1 sN2)) (L' := (L_m ty mA sM1 sN2)) (q0 := 0) (ci := 11) (rest := []) C0 (c_Model_findLeast l D ty mA H.size sM sN sM1 sN2 h3) k_1007 cal_Model_findLeast hK hP hD hS hAq [0, 1, 2, 3, 4, 5, 6, 7, 8, 9, 10, 11] [] [0, 1, 2, 3, 4, 5, 6, 7, 8, 9, 10, 11] [] rfl rfl (by decide) (by decide) (by decide) (by decide) rfl rfl rfl rfl ⟨by rw [hR]; decide, by rw [hR]; decide⟩ rfl rfl rfl hl.1 rfl (Nat.le_of_ble_eq_true rfl) d_Model_least_22 ⟨by rw [hR]; decide, by rw [hR]; decide⟩ rfl (fun H locs hP hD hS => ?_)
    refine lv_aload_n hx hb d_Model_least_25 rfl (lv_at hl 0 rfl) ?_
    refine lv_aload_n hx hb d_Model_least_26 rfl (lv_at hl 0 rfl) ?_
    refine va_get (D := D) (ci := 11) (v := .ref (mA 1)) (C := "BedFrontierModel") (T := T_Model) (N := 22) hx hb htt i_Model hown hK.1 hP 0 rfl rfl 0 (by decide) (htt _ k_772) (fun _ h9 => h9) rfl d_Model_least_27 ?_
    refine lv_iconst (v := (1 : Int32)) hx hb d_Model_least_30 (by decide) ?_
    refine ld_iald (j := 1) hx hb hK.1 hP 1 0 rfl rfl (okI_in (by decide)) rfl d_Model_least_31 ?_
    refine lv_iconst (v := (0 : Int32)) hx hb d_Model_least_32 (by decide) ?_
    refine lv_aload_n hx hb d_Model_least_33 rfl (lv_at hl 0 rfl) ?_
    refine va_get (D := D) (ci := 11) (v := .ref (mA 1)) (C := "BedFrontierModel") (T := T_Model) (N := 22) hx hb htt i_Model hown hK.1 hP 0 rfl rfl 0 (by decide) (htt _ k_772) (fun _ h9 => h9) rfl d_Model_least_34 ?_
    refine lv_iconst (v := (0 : Int32)) hx hb d_Model_least_37 (by decide) ?_
    refine ld_iald (j := 0) hx hb hK.1 hP 1 0 rfl rfl (okI_in (by decide)) rfl d_Model_least_38 ?_
    obtain ⟨x4, h5, hf⟩ := bdE hf
    refine vR (q0 := 0) (ci := 11) (rest := []) C0 (c_Model_leftAt l D ty mA sM1 sN2 (sM1 0 1) (0 : Int32) (sM1 0 0) x4 h5) k_1011 cal_Model_leftAt hK hP rfl rfl rfl ⟨by rw [hR]; decide, by rw [hR]; decide⟩ rfl rfl rfl hl.1 rfl (Nat.le_of_ble_eq_true rfl) d_Model_least_39 ⟨Nat.zero_le _, Nat.zero_le _⟩ rfl ?_
    refine lv_istore_n (lv' := [(2, .int x4), (0, .ref (mA 0)), (1, .int a1)]) hx hb d_Model_least_42 rfl hl (by decide) rfl (fun ls hl => ?_)
    refine lv_iload_n hx hb d_Model_least_43 rfl (lv_at hl 0 rfl) ?_
    refine lv_sipush (v := (9999 : Int32)) hx hb d_Model_least_44 (by decide) ?_
    refine lv_icmp_lt (tgt := 52) hx hb d_Model_least_47 (by decide) (fun c6 => ?_) (fun c6 => ?_)
    · replace hf := iteT c6 hf
      refine lv_iload_n hx hb d_Model_least_52 rfl (lv_at hl 2 rfl) ?_
      refine lv_if_ge (tgt := 58) hx hb d_Model_least_53 (by decide) (fun c7 => ?_) (fun c7 => ?_)
      · replace hf := iteT c7 hf
        refine lv_iconst (v := (0 : Int32)) hx hb d_Model_least_58 (by decide) ?_
        refine lv_istore_n (lv' := [(3, .int (0 : Int32)), (2, .int x4), (0, .ref (mA 0)), (1, .int a1)]) hx hb d_Model_least_59 rfl hl (by decide) rfl (fun ls hl => ?_)
        refine lv_aload_n hx hb d_Model_least_60 rfl (lv_at hl 2 rfl) ?_
        refine va_get (D := D) (ci := 11) (v := .ref (mA 1)) (C := "BedFrontierModel") (T := T_Model) (N := 22) hx hb htt i_Model hown hK.1 hP 0 rfl rfl 0 (by decide) (htt _ k_772) (fun _ h9 => h9) rfl d_Model_least_61 ?_
        refine lv_iconst (v := (0 : Int32)) hx hb d_Model_least_64 (by decide) ?_
        refine ld_iald (j := 0) hx hb hK.1 hP 1 0 rfl rfl (okI_in (by decide)) rfl d_Model_least_65 ?_
        refine lv_topi (fun x8 e_x8 => ?_)
        replace hf := nmE hf e_x8
        refine lv_istore (lv' := [(4, .int x8), (3, .int (0 : Int32)), (2, .int x4), (0, .ref (mA 0)), (1, .int a1)]) hx hb d_Model_least_66 hl (by decide) rfl (fun ls hl => ?_)
        refine lv_aload_n hx hb d_Model_least_68 rfl (lv_at hl 3 rfl) ?_
        refine va_get (D := D) (ci := 11) (v := .ref (mA 1)) (C := "BedFrontierModel") (T := T_Model) (N := 22) hx hb htt i_Model hown hK.1 hP 0 rfl rfl 0 (by decide) (htt _ k_772) (fun _ h9 => h9) rfl d_Model_least_69 ?_
        refine lv_iconst (v := (1 : Int32)) hx hb d_Model_least_72 (by decide) ?_
        refine ld_iald (j := 1) hx hb hK.1 hP 1 0 rfl rfl (okI_in (by decide)) rfl d_Model_least_73 ?_
        refine lv_topi (fun x9 e_x9 => ?_)
        replace hf := nmE hf e_x9
        refine lv_istore (lv' := [(5, .int x9), (4, .int x8), (3, .int (0 : Int32)), (2, .int x4), (0, .ref (mA 0)), (1, .int a1)]) hx hb d_Model_least_74 hl (by decide) rfl (fun ls hl => ?_)
        have B76 : ∀ (n : Nat) (x : Int32 × Int32 × Int32), loopF (f_Model_least_L76 a1 sM1 sN2) n x = some (rr, tM, tN) → ∀ (H : Heap) (locs : List Loc) (ls : Array Slot), va_P D vwCl (L_m ty mA sM1 sN2) H → va_D A (L_m ty mA sM1 sN2) → va_S A s.heap H locs → lv_has ls 7 [(0, .ref (mA 0)), (1, .int a1), (3, .int (x.1)), (4, .int (x.2.1)), (5, .int (x.2.2))] → W p l e R s m args below meth c H locs 0 0 Q (F0 m 76 ls []) := by
          refine loopW (fun (x : Int32 × Int32 × Int32) => ∀ (H : Heap) (locs : List Loc) (ls : Array Slot), va_P D vwCl (L_m ty mA sM1 sN2) H → va_D A (L_m ty mA sM1 sN2) → va_S A s.heap H locs → lv_has ls 7 [(0, .ref (mA 0)), (1, .int a1), (3, .int (x.1)), (4, .int (x.2.1)), (5, .int (x.2.2))] → W p l e R s m args below meth c H locs 0 0 Q (F0 m 76 ls [])) ?_
          intro K76 hK76 x hf
          obtain ⟨x10, x11, x12⟩ := x
          rw [f_Model_least_L76] at hf
          intro H locs ls hP hD hS hl
          have hl : lv_has ls 7 [(0, .ref (mA 0)), (1, .int a1), (3, .int x10), (4, .int x11), (5, .int x12)] := hl
          have hP : va_P D vwCl (L_m ty mA sM1 sN2) H := hP
          have hD : va_D A (L_m ty mA sM1 sN2) := hD
          show W p l e R s m args below meth c H locs 0 0 Q (F0 m 76 ls [])
          refine lv_iload_n hx hb d_Model_least_76 rfl (lv_at hl 2 rfl) ?_
          refine lv_iload_n hx hb d_Model_least_77 rfl (lv_at hl 1 rfl) ?_
          obtain ⟨x13, h14, hf⟩ := bdE hf
          refine scR (rest := []) C0 (c_Model_has l D ty x10 a1 x13 h14) k_942 cal_Model_has hK (va_P_nil) ⟨by rw [hR]; decide, by rw [hR]; decide⟩ rfl rfl rfl hl.1 rfl (Nat.le_of_ble_eq_true rfl) d_Model_least_78 ⟨Nat.zero_le _, Nat.zero_le _⟩ rfl ?_
          refine lv_if_ne (tgt := 160) hx hb d_Model_least_81 (by decide) (fun c15 => ?_) (fun c15 => ?_)
          · replace hf := iteF c15 hf
            refine lv_bipush (v := (10 : Int32)) hx hb d_Model_least_160 (by decide) ?_
            refine lv_iload hx hb d_Model_least_162 (lv_at hl 4 rfl) ?_
            refine lv_iconst (v := (1 : Int32)) hx hb d_Model_least_164 (by decide) ?_
            refine lv_isub hx hb d_Model_least_165 ?_
            refine lv_imul hx hb d_Model_least_166 ?_
            refine lv_iload hx hb d_Model_least_167 (lv_at hl 3 rfl) ?_
            refine lv_iadd hx hb d_Model_least_169 ?_
            obtain ⟨rfl, rfl, rfl⟩ := sj3 hf
            exact retM C0 (narI _) hQ hP hD hS d_Model_least_170
          · replace hf := iteT c15 hf
            refine lv_aload_n hx hb d_Model_least_84 rfl (lv_at hl 0 rfl) ?_
            refine lv_iload hx hb d_Model_least_85 (lv_at hl 4 rfl) ?_
            refine lv_iload_n hx hb d_Model_least_87 rfl (lv_at hl 2 rfl) ?_
            refine lv_iload hx hb d_Model_least_88 (lv_at hl 3 rfl) ?_
            obtain ⟨x16, h17, hf⟩ := bdE hf
            refine vR (q0 := 0) (ci := 11) (rest := []) C0 (c_Model_leftAt l D ty mA sM1 sN2 x12 x10 x11 x16 h17) k_1011 cal_Model_leftAt hK hP rfl rfl rfl ⟨by rw [hR]; decide, by rw [hR]; decide⟩ rfl rfl rfl hl.1 rfl (Nat.le_of_ble_eq_true rfl) d_Model_least_90 ⟨Nat.zero_le _, Nat.zero_le _⟩ rfl ?_
            refine lv_istore_n (lv' := [(2, .int x16), (0, .ref (mA 0)), (1, .int a1), (3, .int x10), (4, .int x11), (5, .int x12)]) hx hb d_Model_least_93 rfl hl (by decide) rfl (fun ls hl => ?_)
            refine lv_aload_n hx hb d_Model_least_94 rfl (lv_at hl 1 rfl) ?_
            refine lv_iload hx hb d_Model_least_95 (lv_at hl 5 rfl) ?_
            refine lv_iconst (v := (1 : Int32)) hx hb d_Model_least_97 (by decide) ?_
            refine lv_iadd hx hb d_Model_least_98 ?_
            refine lv_iload_n hx hb d_Model_least_99 rfl (lv_at hl 3 rfl) ?_
            refine lv_iload hx hb d_Model_least_100 (lv_at hl 4 rfl) ?_
            obtain ⟨x18, h19, hf⟩ := bdE hf
            refine vR (q0 := 0) (ci := 11) (rest := []) C0 (c_Model_leftAt l D ty mA sM1 sN2 (x12 + (1 : Int32)) x10 x11 x18 h19) k_1011 cal_Model_leftAt hK hP rfl rfl rfl ⟨by rw [hR]; decide, by rw [hR]; decide⟩ rfl rfl rfl hl.1 rfl (Nat.le_of_ble_eq_true rfl) d_Model_least_102 ⟨Nat.zero_le _, Nat.zero_le _⟩ rfl ?_
            refine lv_iload_n hx hb d_Model_least_105 rfl (lv_at hl 0 rfl) ?_
            refine lv_icmp_eq (tgt := 154) hx hb d_Model_least_106 (by decide) (fun c20 => ?_) (fun c20 => ?_)
            · replace hf := iteT c20 hf
              obtain ⟨x21, e_x21⟩ : ∃ z : Int32, z = (x12 + (1 : Int32)) := ⟨_, rfl⟩
              replace hf := nmE hf e_x21
              refine lv_iinc (v := x21) (lv' := [(5, .int x21), (2, .int x16), (0, .ref (mA 0)), (1, .int a1), (3, .int x10), (4, .int x11)]) hx hb d_Model_least_154 hl (k := 5) rfl (by rw [e_x21]; rfl) (by decide) rfl (fun ls hl => ?_)
              refine lv_goto (tgt := 76) hx hb d_Model_least_157 (by decide) ?_
              exact hK76 (x10, x11, x21) hf _ _ ls hP hD hS (lv_sub hl [2, 3, 4, 5, 0] rfl)
            · replace hf := iteF c20 hf
              refine lv_iconst (v := (0 : Int32)) hx hb d_Model_least_109 (by decide) ?_
              refine lv_istore (lv' := [(6, .int (0 : Int32)), (2, .int x16), (0, .ref (mA 0)), (1, .int a1), (3, .int x10), (4, .int x11), (5, .int x12)]) hx hb d_Model_least_110 hl (by decide) rfl (fun ls hl => ?_)
              have B112 : ∀ (n : Nat) (x : Int32), loopF (f_Model_least_L112 sM1 sN2 x10 x11 x12 K76 x16) n x = some (rr, tM, tN) → ∀ (H : Heap) (locs : List Loc) (ls : Array Slot), va_P D vwCl (L_m ty mA sM1 sN2) H → va_D A (L_m ty mA sM1 sN2) → va_S A s.heap H locs → lv_has ls 7 [(0, .ref (mA 0)), (1, .int a1), (2, .int x16), (3, .int x10), (4, .int x11), (5, .int x12), (6, .int x)] → W p l e R s m args below meth c H locs 0 0 Q (F0 m 112 ls []) := by
                refine loopW (fun (x : Int32) => ∀ (H : Heap) (locs : List Loc) (ls : Array Slot), va_P D vwCl (L_m ty mA sM1 sN2) H → va_D A (L_m ty mA sM1 sN2) → va_S A s.heap H locs → lv_has ls 7 [(0, .ref (mA 0)), (1, .int a1), (2, .int x16), (3, .int x10), (4, .int x11), (5, .int x12), (6, .int x)] → W p l e R s m args below meth c H locs 0 0 Q (F0 m 112 ls [])) ?_
                intro K112 hK112 x22 hf
                rw [f_Model_least_L112] at hf
                intro H locs ls hP hD hS hl
                have hl : lv_has ls 7 [(0, .ref (mA 0)), (1, .int a1), (2, .int x16), (3, .int x10), (4, .int x11), (5, .int x12), (6, .int x22)] := hl
                have hP : va_P D vwCl (L_m ty mA sM1 sN2) H := hP
                have hD : va_D A (L_m ty mA sM1 sN2) := hD
                show W p l e R s m args below meth c H locs 0 0 Q (F0 m 112 ls [])
                refine lv_aload_n hx hb d_Model_least_112 rfl (lv_at hl 0 rfl) ?_
                refine lv_iload hx hb d_Model_least_113 (lv_at hl 5 rfl) ?_
                refine lv_iload_n hx hb d_Model_least_115 rfl (lv_at hl 3 rfl) ?_
                refine lv_iload hx hb d_Model_least_116 (lv_at hl 4 rfl) ?_
                refine lv_iload hx hb d_Model_least_118 (lv_at hl 6 rfl) ?_
                refine lv_iconst (v := (2 : Int32)) hx hb d_Model_least_120 (by decide) ?_
                refine lv_idiv hx hb d_Model_least_121 (by decide) ?_
                refine lv_iload hx hb d_Model_least_122 (lv_at hl 6 rfl) ?_
                refine lv_iconst (v := (2 : Int32)) hx hb d_Model_least_124 (by decide) ?_
                refine lv_irem hx hb d_Model_least_125 (by decide) ?_
                obtain ⟨x23, h24, hf⟩ := bdE hf
                refine vR (q0 := 0) (ci := 11) (rest := []) C0 (c_Model_costBy l D ty mA sM1 sN2 x12 x10 x11 (x22 / (2 : Int32)) (x22 - x22 / (2 : Int32) * (2 : Int32)) x23 h24) k_1015 cal_Model_costBy hK hP rfl rfl rfl ⟨by rw [hR]; decide, by rw [hR]; decide⟩ rfl rfl rfl hl.1 rfl (Nat.le_of_ble_eq_true rfl) d_Model_least_126 ⟨Nat.zero_le _, Nat.zero_le _⟩ rfl ?_
                refine lv_iload_n hx hb d_Model_least_129 rfl (lv_at hl 2 rfl) ?_
                refine lv_icmp_eq (tgt := 139) hx hb d_Model_least_130 (by decide) (fun c25 => ?_) (fun c25 => ?_)
                · replace hf := iteT c25 hf
                  refine lv_iload_n hx hb d_Model_least_139 rfl (lv_at hl 3 rfl) ?_
                  refine lv_iconst (v := (1 : Int32)) hx hb d_Model_least_140 (by decide) ?_
                  refine lv_iload hx hb d_Model_least_141 (lv_at hl 6 rfl) ?_
                  refine lv_iconst (v := (2 : Int32)) hx hb d_Model_least_143 (by decide) ?_
                  refine lv_idiv hx hb d_Model_least_144 (by decide) ?_
                  refine lv_ishl hx hb d_Model_least_145 ?_
                  refine lv_ior hx hb d_Model_least_146 ?_
                  refine lv_topi (fun x26 e_x26 => ?_)
                  replace hf := nmE hf e_x26
                  refine lv_istore_n (lv' := [(3, .int x26), (0, .ref (mA 0)), (1, .int a1), (2, .int x16), (4, .int x11), (5, .int x12), (6, .int x22)]) hx hb d_Model_least_147 rfl hl (by decide) rfl (fun ls hl => ?_)
                  refine lv_iload hx hb d_Model_least_148 (lv_at hl 6 rfl) ?_
                  refine lv_iconst (v := (2 : Int32)) hx hb d_Model_least_150 (by decide) ?_
                  refine lv_irem hx hb d_Model_least_151 (by decide) ?_
                  refine lv_topi (fun x27 e_x27 => ?_)
                  replace hf := nmE hf e_x27
                  refine lv_istore (lv' := [(4, .int x27), (3, .int x26), (0, .ref (mA 0)), (1, .int a1), (2, .int x16), (5, .int x12), (6, .int x22)]) hx hb d_Model_least_152 hl (by decide) rfl (fun ls hl => ?_)
                  obtain ⟨x28, e_x28⟩ : ∃ z : Int32, z = (x12 + (1 : Int32)) := ⟨_, rfl⟩
                  replace hf := nmE hf e_x28
                  refine lv_iinc (v := x28) (lv' := [(5, .int x28), (4, .int x27), (3, .int x26), (0, .ref (mA 0)), (1, .int a1), (2, .int x16), (6, .int x22)]) hx hb d_Model_least_154 hl (k := 5) rfl (by rw [e_x28]; rfl) (by decide) rfl (fun ls hl => ?_)
                  refine lv_goto (tgt := 76) hx hb d_Model_least_157 (by decide) ?_
                  exact hK76 (x26, x27, x28) hf _ _ ls hP hD hS (lv_sub hl [3, 4, 2, 1, 0] rfl)
                · replace hf := iteF c25 hf
                  obtain ⟨x29, e_x29⟩ : ∃ z : Int32, z = (x22 + (1 : Int32)) := ⟨_, rfl⟩
                  replace hf := nmE hf e_x29
                  refine lv_iinc (v := x29) (lv' := [(6, .int x29), (0, .ref (mA 0)), (1, .int a1), (2, .int x16), (3, .int x10), (4, .int x11), (5, .int x12)]) hx hb d_Model_least_133 hl (k := 6) rfl (by rw [e_x29]; rfl) (by decide) rfl (fun ls hl => ?_)
                  refine lv_goto (tgt := 112) hx hb d_Model_least_136 (by decide) ?_
                  exact hK112 x29 hf _ _ ls hP hD hS (lv_sub hl [1, 2, 3, 4, 5, 6, 0] rfl)
              exact B112 4000 (0 : Int32) hf _ _ ls hP hD hS (lv_sub hl [2, 3, 1, 4, 5, 6, 0] rfl)
        exact B76 4000 ((0 : Int32), x8, x9) hf _ _ ls hP hD hS (lv_sub hl [4, 5, 2, 1, 0] rfl)
      · replace hf := iteF c7 hf
        refine lv_iload_n hx hb d_Model_least_56 rfl (lv_at hl 0 rfl) ?_
        obtain ⟨rfl, rfl, rfl⟩ := sj3 hf
        exact retM C0 (narI _) hQ hP hD hS d_Model_least_57
    · replace hf := iteF c6 hf
      refine lv_iconst (v := (-1 : Int32)) hx hb d_Model_least_50 (by decide) ?_
      obtain ⟨rfl, rfl, rfl⟩ := sj3 hf
      exact retM C0 (narI _) hQ hP hD hS d_Model_least_51
  refine lv_icmp_eq (tgt := 21) hx hb d_Model_least_2 (by decide) (fun c30 => ?_) (fun c30 => ?_)
  · replace hf := iteT c30 hf
    exact J21 () hf _ _ ls hP hD hS (hl)
  · replace hf := iteF c30 hf
    refine lv_aload_n hx hb d_Model_least_5 rfl (lv_at hl 0 rfl) ?_
    refine lv_iload_n hx hb d_Model_least_6 rfl (lv_at hl 1 rfl) ?_
    obtain ⟨x31, h32, hf⟩ := bdE hf
    refine vR (q0 := 0) (ci := 11) (rest := []) C0 (c_Model_isDoing l D ty mA sM sN a1 x31 h32) k_931 cal_Model_isDoing hK hP rfl rfl rfl ⟨by rw [hR]; decide, by rw [hR]; decide⟩ rfl rfl rfl hl.1 rfl (Nat.le_of_ble_eq_true rfl) d_Model_least_7 ⟨Nat.zero_le _, Nat.zero_le _⟩ rfl ?_
    refine lv_if_ne (tgt := 21) hx hb d_Model_least_10 (by decide) (fun c33 => ?_) (fun c33 => ?_)
    · replace hf := iteF c33 hf
      exact J21 () hf _ _ ls hP hD hS (hl)
    · replace hf := iteT c33 hf
      refine lv_aload_n hx hb d_Model_least_13 rfl (lv_at hl 0 rfl) ?_
      obtain ⟨x34, sM35, sN36, h37, hf⟩ := bd3E hf
      refine vM (Lc := (L_m ty mA sM sN)) (Lc' := (L_m ty mA sM35 sN36)) (L' := (L_m ty mA sM35 sN36)) (q0 := 0) (ci := 11) (rest := []) C0 (c_Model_bad l D ty mA H.size sM sN x34 sM35 sN36 h37) k_848 cal_Model_bad hK hP hD hS hAq [0, 1, 2, 3, 4, 5, 6, 7, 8, 9, 10, 11] [] [0, 1, 2, 3, 4, 5, 6, 7, 8, 9, 10, 11] [] rfl rfl (by decide) (by decide) (by decide) (by decide) rfl rfl rfl rfl ⟨by rw [hR]; decide, by rw [hR]; decide⟩ rfl rfl rfl hl.1 rfl (Nat.le_of_ble_eq_true rfl) d_Model_least_14 ⟨by rw [hR]; decide, by rw [hR]; decide⟩ rfl (fun H locs hP hD hS => ?_)
      refine lv_pop hx hb d_Model_least_17 rfl ?_
      refine lv_bipush (v := (-10 : Int32)) hx hb d_Model_least_18 (by decide) ?_
      obtain ⟨rfl, rfl, rfl⟩ := sj3 hf
      exact retM C0 (narI _) hQ hP hD hS d_Model_least_20
def f_Model_before (sM : PW) (sN : PL) (a1 : Int32) (a2 : Int32) (a3 : Int32) (a4 : Int32) : Option (Int32 × PW × PL) :=
  bd (f_Model_isSide a1) (fun x1 => (if x1 = 0 then bd3 (f_Model_bad sM sN) (fun x4 sM5 sN6 => some (x4, sM5, sN6)) else bd (f_Model_isHour a2) (fun x8 => (if x8 = 0 then bd3 (f_Model_bad sM sN) (fun x11 sM12 sN13 => some (x11, sM12, sN13)) else bd (f_Model_isSide a3) (fun x15 => (if x15 = 0 then bd3 (f_Model_bad sM sN) (fun x18 sM19 sN20 => some (x18, sM19, sN20)) else bd (f_Model_isHour a4) (fun x22 => (if x22 = 0 then bd3 (f_Model_bad sM sN) (fun x29 sM30 sN31 => some (x29, sM30, sN31)) else nm (((a2 + (24 : Int32)) - a1) - ((a2 + (24 : Int32)) - a1) / (24 : Int32) * (24 : Int32)) (fun x25 => nm (((a4 + (24 : Int32)) - a3) - ((a4 + (24 : Int32)) - a3) / (24 : Int32) * (24 : Int32)) (fun x26 => (if x26 ≤ x25 then (if x25 = x26 then some ((0 : Int32), sM, sN) else some ((2 : Int32), sM, sN)) else some ((1 : Int32), sM, sN))))))))))))
set_option maxHeartbeats 4000000 in
set_option maxRecDepth 100000 in
theorem c_Model_before (l : Launch) (D : va_G) (ty : Nat → ClassId) (mA : Nat → Nat) (sz : Nat) (sM : PW) (sN : PL) (a1 : Int32) (a2 : Int32) (a3 : Int32) (a4 : Int32) (rr : Int32) (tM : PW) (tN : PL) (hf : f_Model_before sM sN a1 a2 a3 a4 = some (rr, tM, tN)) : Met l y_Model_before (Cond.code y_Model_before prog_13_method_46_code 7 ((Option.some FieldType.int)) :: lw_ok) { frames := 2, cells := 0, slots := 0, locals := 45 } (PcM D ty [.ref (mA 0), .int a1, .int a2, .int a3, .int a4] sz (L_m ty mA sM sN)) (QM D (L_m ty mA tM tN) (va_A (L_m ty mA sM sN) sz) (some (.int rr))) 0 0 (va_A (L_m ty mA sM sN) sz) := by
  refine hdM (by decide) (Nat.le_of_ble_eq_true rfl) ?_
  intro p e s m below meth c ls R args Q A C0 hR hQ hnm hAq hP hK hD hS hl
  obtain ⟨hx, hb, hr, hlk, hml, hown, htt⟩ := id C0
  have hl : lv_has ls 7 [(0, .ref (mA 0)), (1, .int a1), (2, .int a2), (3, .int a3), (4, .int a4)] := hl
  generalize hH0 : s.heap = H at hP hS ⊢
  have hS : va_S A s.heap H [] := by rw [hH0]; exact hS
  unfold f_Model_before at hf
  refine lv_iload_n hx hb d_Model_before_0 rfl (lv_at hl 1 rfl) ?_
  obtain ⟨x1, h2, hf⟩ := bdE hf
  refine scR (rest := []) C0 (c_Model_isSide l D ty a1 x1 h2) k_856 cal_Model_isSide hK (va_P_nil) ⟨by rw [hR]; decide, by rw [hR]; decide⟩ rfl rfl rfl hl.1 rfl (Nat.le_of_ble_eq_true rfl) d_Model_before_1 ⟨Nat.zero_le _, Nat.zero_le _⟩ rfl ?_
  refine lv_if_eq (tgt := 29) hx hb d_Model_before_4 (by decide) (fun c3 => ?_) (fun c3 => ?_)
  · replace hf := iteT c3 hf
    refine lv_aload_n hx hb d_Model_before_29 rfl (lv_at hl 0 rfl) ?_
    obtain ⟨x4, sM5, sN6, h7, hf⟩ := bd3E hf
    refine vM (Lc := (L_m ty mA sM sN)) (Lc' := (L_m ty mA sM5 sN6)) (L' := (L_m ty mA sM5 sN6)) (q0 := 0) (ci := 11) (rest := []) C0 (c_Model_bad l D ty mA H.size sM sN x4 sM5 sN6 h7) k_848 cal_Model_bad hK hP hD hS hAq [0, 1, 2, 3, 4, 5, 6, 7, 8, 9, 10, 11] [] [0, 1, 2, 3, 4, 5, 6, 7, 8, 9, 10, 11] [] rfl rfl (by decide) (by decide) (by decide) (by decide) rfl rfl rfl rfl ⟨by rw [hR]; decide, by rw [hR]; decide⟩ rfl rfl rfl hl.1 rfl (Nat.le_of_ble_eq_true rfl) d_Model_before_30 ⟨by rw [hR]; decide, by rw [hR]; decide⟩ rfl (fun H locs hP hD hS => ?_)
    obtain ⟨rfl, rfl, rfl⟩ := sj3 hf
    exact retM C0 (narI _) hQ hP hD hS d_Model_before_33
  · replace hf := iteF c3 hf
    refine lv_iload_n hx hb d_Model_before_7 rfl (lv_at hl 2 rfl) ?_
    obtain ⟨x8, h9, hf⟩ := bdE hf
    refine scR (rest := []) C0 (c_Model_isHour l D ty a2 x8 h9) k_995 cal_Model_isHour hK (va_P_nil) ⟨by rw [hR]; decide, by rw [hR]; decide⟩ rfl rfl rfl hl.1 rfl (Nat.le_of_ble_eq_true rfl) d_Model_before_8 ⟨Nat.zero_le _, Nat.zero_le _⟩ rfl ?_
    refine lv_if_eq (tgt := 29) hx hb d_Model_before_11 (by decide) (fun c10 => ?_) (fun c10 => ?_)
    · replace hf := iteT c10 hf
      refine lv_aload_n hx hb d_Model_before_29 rfl (lv_at hl 0 rfl) ?_
      obtain ⟨x11, sM12, sN13, h14, hf⟩ := bd3E hf
      refine vM (Lc := (L_m ty mA sM sN)) (Lc' := (L_m ty mA sM12 sN13)) (L' := (L_m ty mA sM12 sN13)) (q0 := 0) (ci := 11) (rest := []) C0 (c_Model_bad l D ty mA H.size sM sN x11 sM12 sN13 h14) k_848 cal_Model_bad hK hP hD hS hAq [0, 1, 2, 3, 4, 5, 6, 7, 8, 9, 10, 11] [] [0, 1, 2, 3, 4, 5, 6, 7, 8, 9, 10, 11] [] rfl rfl (by decide) (by decide) (by decide) (by decide) rfl rfl rfl rfl ⟨by rw [hR]; decide, by rw [hR]; decide⟩ rfl rfl rfl hl.1 rfl (Nat.le_of_ble_eq_true rfl) d_Model_before_30 ⟨by rw [hR]; decide, by rw [hR]; decide⟩ rfl (fun H locs hP hD hS => ?_)
      obtain ⟨rfl, rfl, rfl⟩ := sj3 hf
      exact retM C0 (narI _) hQ hP hD hS d_Model_before_33
    · replace hf := iteF c10 hf
      refine lv_iload_n hx hb d_Model_before_14 rfl (lv_at hl 3 rfl) ?_
      obtain ⟨x15, h16, hf⟩ := bdE hf
      refine scR (rest := []) C0 (c_Model_isSide l D ty a3 x15 h16) k_856 cal_Model_isSide hK (va_P_nil) ⟨by rw [hR]; decide, by rw [hR]; decide⟩ rfl rfl rfl hl.1 rfl (Nat.le_of_ble_eq_true rfl) d_Model_before_15 ⟨Nat.zero_le _, Nat.zero_le _⟩ rfl ?_
      refine lv_if_eq (tgt := 29) hx hb d_Model_before_18 (by decide) (fun c17 => ?_) (fun c17 => ?_)
      · replace hf := iteT c17 hf
        refine lv_aload_n hx hb d_Model_before_29 rfl (lv_at hl 0 rfl) ?_
        obtain ⟨x18, sM19, sN20, h21, hf⟩ := bd3E hf
        refine vM (Lc := (L_m ty mA sM sN)) (Lc' := (L_m ty mA sM19 sN20)) (L' := (L_m ty mA sM19 sN20)) (q0 := 0) (ci := 11) (rest := []) C0 (c_Model_bad l D ty mA H.size sM sN x18 sM19 sN20 h21) k_848 cal_Model_bad hK hP hD hS hAq [0, 1, 2, 3, 4, 5, 6, 7, 8, 9, 10, 11] [] [0, 1, 2, 3, 4, 5, 6, 7, 8, 9, 10, 11] [] rfl rfl (by decide) (by decide) (by decide) (by decide) rfl rfl rfl rfl ⟨by rw [hR]; decide, by rw [hR]; decide⟩ rfl rfl rfl hl.1 rfl (Nat.le_of_ble_eq_true rfl) d_Model_before_30 ⟨by rw [hR]; decide, by rw [hR]; decide⟩ rfl (fun H locs hP hD hS => ?_)
        obtain ⟨rfl, rfl, rfl⟩ := sj3 hf
        exact retM C0 (narI _) hQ hP hD hS d_Model_before_33
      · replace hf := iteF c17 hf
        refine lv_iload hx hb d_Model_before_21 (lv_at hl 4 rfl) ?_
        obtain ⟨x22, h23, hf⟩ := bdE hf
        refine scR (rest := []) C0 (c_Model_isHour l D ty a4 x22 h23) k_995 cal_Model_isHour hK (va_P_nil) ⟨by rw [hR]; decide, by rw [hR]; decide⟩ rfl rfl rfl hl.1 rfl (Nat.le_of_ble_eq_true rfl) d_Model_before_23 ⟨Nat.zero_le _, Nat.zero_le _⟩ rfl ?_
        refine lv_if_ne (tgt := 34) hx hb d_Model_before_26 (by decide) (fun c24 => ?_) (fun c24 => ?_)
        · replace hf := iteF c24 hf
          refine lv_iload_n hx hb d_Model_before_34 rfl (lv_at hl 2 rfl) ?_
          refine lv_bipush (v := (24 : Int32)) hx hb d_Model_before_35 (by decide) ?_
          refine lv_iadd hx hb d_Model_before_37 ?_
          refine lv_iload_n hx hb d_Model_before_38 rfl (lv_at hl 1 rfl) ?_
          refine lv_isub hx hb d_Model_before_39 ?_
          refine lv_bipush (v := (24 : Int32)) hx hb d_Model_before_40 (by decide) ?_
          refine lv_irem hx hb d_Model_before_42 (by decide) ?_
          refine lv_topi (fun x25 e_x25 => ?_)
          replace hf := nmE hf e_x25
          refine lv_istore (lv' := [(5, .int x25), (0, .ref (mA 0)), (1, .int a1), (2, .int a2), (3, .int a3), (4, .int a4)]) hx hb d_Model_before_43 hl (by decide) rfl (fun ls hl => ?_)
          refine lv_iload hx hb d_Model_before_45 (lv_at hl 5 rfl) ?_
          refine lv_bipush (v := (24 : Int32)) hx hb d_Model_before_47 (by decide) ?_
          refine lv_iadd hx hb d_Model_before_49 ?_
          refine lv_iload_n hx hb d_Model_before_50 rfl (lv_at hl 4 rfl) ?_
          refine lv_isub hx hb d_Model_before_51 ?_
          refine lv_bipush (v := (24 : Int32)) hx hb d_Model_before_52 (by decide) ?_
          refine lv_irem hx hb d_Model_before_54 (by decide) ?_
          refine lv_topi (fun x26 e_x26 => ?_)
          replace hf := nmE hf e_x26
          refine lv_istore (lv' := [(6, .int x26), (5, .int x25), (0, .ref (mA 0)), (1, .int a1), (2, .int a2), (3, .int a3), (4, .int a4)]) hx hb d_Model_before_55 hl (by decide) rfl (fun ls hl => ?_)
          refine lv_iload hx hb d_Model_before_57 (lv_at hl 1 rfl) ?_
          refine lv_iload hx hb d_Model_before_59 (lv_at hl 0 rfl) ?_
          refine lv_icmp_ge (tgt := 68) hx hb d_Model_before_61 (by decide) (fun c27 => ?_) (fun c27 => ?_)
          · replace hf := iteT c27 hf
            refine lv_iload hx hb d_Model_before_68 (lv_at hl 1 rfl) ?_
            refine lv_iload hx hb d_Model_before_70 (lv_at hl 0 rfl) ?_
            refine lv_icmp_ne (tgt := 79) hx hb d_Model_before_72 (by decide) (fun c28 => ?_) (fun c28 => ?_)
            · replace hf := iteF c28 hf
              refine lv_iconst (v := (2 : Int32)) hx hb d_Model_before_79 (by decide) ?_
              obtain ⟨rfl, rfl, rfl⟩ := sj3 hf
              exact retM C0 (narI _) hQ hP hD hS d_Model_before_80
            · replace hf := iteT c28 hf
              refine lv_iconst (v := (0 : Int32)) hx hb d_Model_before_75 (by decide) ?_
              refine lv_goto (tgt := 80) hx hb d_Model_before_76 (by decide) ?_
              obtain ⟨rfl, rfl, rfl⟩ := sj3 hf
              exact retM C0 (narI _) hQ hP hD hS d_Model_before_80
          · replace hf := iteF c27 hf
            refine lv_iconst (v := (1 : Int32)) hx hb d_Model_before_64 (by decide) ?_
            refine lv_goto (tgt := 80) hx hb d_Model_before_65 (by decide) ?_
            obtain ⟨rfl, rfl, rfl⟩ := sj3 hf
            exact retM C0 (narI _) hQ hP hD hS d_Model_before_80
        · replace hf := iteT c24 hf
          refine lv_aload_n hx hb d_Model_before_29 rfl (lv_at hl 0 rfl) ?_
          obtain ⟨x29, sM30, sN31, h32, hf⟩ := bd3E hf
          refine vM (Lc := (L_m ty mA sM sN)) (Lc' := (L_m ty mA sM30 sN31)) (L' := (L_m ty mA sM30 sN31)) (q0 := 0) (ci := 11) (rest := []) C0 (c_Model_bad l D ty mA H.size sM sN x29 sM30 sN31 h32) k_848 cal_Model_bad hK hP hD hS hAq [0, 1, 2, 3, 4, 5, 6, 7, 8, 9, 10, 11] [] [0, 1, 2, 3, 4, 5, 6, 7, 8, 9, 10, 11] [] rfl rfl (by decide) (by decide) (by decide) (by decide) rfl rfl rfl rfl ⟨by rw [hR]; decide, by rw [hR]; decide⟩ rfl rfl rfl hl.1 rfl (Nat.le_of_ble_eq_true rfl) d_Model_before_30 ⟨by rw [hR]; decide, by rw [hR]; decide⟩ rfl (fun H locs hP hD hS => ?_)
          obtain ⟨rfl, rfl, rfl⟩ := sj3 hf
          exact retM C0 (narI _) hQ hP hD hS d_Model_before_33
def f_Model_hersOf (a1 : Int32) : Option (Int32) :=
  (if a1 ≤ (4 : Int32) then (if (3 : Int32) ≤ a1 then some (a1 - (2 : Int32)) else some (0 : Int32)) else some (3 : Int32))
set_option maxHeartbeats 4000000 in
set_option maxRecDepth 100000 in
theorem c_Model_hersOf (l : Launch) (D : va_G) (ty : Nat → ClassId) (a1 : Int32) (rr : Int32) (hf : f_Model_hersOf a1 = some rr) : Met l y_Model_hersOf (Cond.code y_Model_hersOf prog_13_method_47_code 1 ((Option.some FieldType.int)) :: lw_ok) { frames := 0, cells := 0, slots := 0, locals := 0 } (PcR D ty [.int a1] ([] : va_W)) (QR (some (.int rr))) 0 0 (fun _ => False) := by
  refine hdR (by decide) (Nat.le_of_ble_eq_true rfl) ?_
  intro p e s m below meth c ls R args Q C0 hR hQ hP hK hl
  obtain ⟨hx, hb, hr, hlk, hml, hown, htt⟩ := id C0
  have hl : lv_has ls 1 [(0, .int a1)] := hl
  unfold f_Model_hersOf at hf
  refine lv_iload_n hx hb d_Model_hersOf_0 rfl (lv_at hl 0 rfl) ?_
  refine lv_iconst (v := (4 : Int32)) hx hb d_Model_hersOf_1 (by decide) ?_
  refine lv_icmp_le (tgt := 9) hx hb d_Model_hersOf_2 (by decide) (fun c1 => ?_) (fun c1 => ?_)
  · replace hf := iteT c1 hf
    refine lv_iload_n hx hb d_Model_hersOf_9 rfl (lv_at hl 0 rfl) ?_
    refine lv_iconst (v := (3 : Int32)) hx hb d_Model_hersOf_10 (by decide) ?_
    refine lv_icmp_ge (tgt := 18) hx hb d_Model_hersOf_11 (by decide) (fun c2 => ?_) (fun c2 => ?_)
    · replace hf := iteT c2 hf
      refine lv_iload_n hx hb d_Model_hersOf_18 rfl (lv_at hl 0 rfl) ?_
      refine lv_iconst (v := (2 : Int32)) hx hb d_Model_hersOf_19 (by decide) ?_
      refine lv_isub hx hb d_Model_hersOf_20 ?_
      obtain rfl := sj1 hf
      exact retR C0 (narI _) hQ d_Model_hersOf_21
    · replace hf := iteF c2 hf
      refine lv_iconst (v := (0 : Int32)) hx hb d_Model_hersOf_14 (by decide) ?_
      refine lv_goto (tgt := 21) hx hb d_Model_hersOf_15 (by decide) ?_
      obtain rfl := sj1 hf
      exact retR C0 (narI _) hQ d_Model_hersOf_21
  · replace hf := iteF c1 hf
    refine lv_iconst (v := (3 : Int32)) hx hb d_Model_hersOf_5 (by decide) ?_
    refine lv_goto (tgt := 21) hx hb d_Model_hersOf_6 (by decide) ?_
    obtain rfl := sj1 hf
    exact retR C0 (narI _) hQ d_Model_hersOf_21
def f_Model_setFraction_L6 (a1 : Int64) (a2 : Int64) (sM : PW) (sN : PL) (K6 : Int64 × Int64 → Option (PW × PL)) : Int64 × Int64 → Option (PW × PL)
  | (x1, x2) =>
  (if (lg_cmp x2 (0 : Int64)) = 0 then gd (x1 != 0) (nm (upL sN 1 (a1 / x1)) (fun sN5 => gd (x1 != 0) (nm (upL sN5 2 (a2 / x1)) (fun sN7 => some (sM, sN7))))) else gd (x2 != 0) (nm (x1 - x1 / x2 * x2) (fun x9 => K6 (x2, x9))))
def f_Model_setFraction (sM : PW) (sN : PL) (a1 : Int64) (a2 : Int64) : Option (PW × PL) :=
  loopF (f_Model_setFraction_L6 a1 a2 sM sN) 4000 (a1, a2)
set_option maxHeartbeats 4000000 in
set_option maxRecDepth 100000 in
theorem c_Model_setFraction (l : Launch) (D : va_G) (ty : Nat → ClassId) (mA : Nat → Nat) (sz : Nat) (sM : PW) (sN : PL) (a1 : Int64) (a2 : Int64) (tM : PW) (tN : PL) (hf : f_Model_setFraction sM sN a1 a2 = some (tM, tN)) : Met l y_Model_setFraction (Cond.code y_Model_setFraction prog_13_method_48_code 11 none :: lw_ok) { frames := 0, cells := 0, slots := 0, locals := 0 } (PcM D ty [.ref (mA 0), .long a1, .long a2] sz (L_m ty mA sM sN)) (QM D (L_m ty mA tM tN) (va_A (L_m ty mA sM sN) sz) (none)) 0 0 (va_A (L_m ty mA sM sN) sz) := by
  refine hdM (by decide) (Nat.le_of_ble_eq_true rfl) ?_
  intro p e s m below meth c ls R args Q A C0 hR hQ hnm hAq hP hK hD hS hl
  obtain ⟨hx, hb, hr, hlk, hml, hown, htt⟩ := id C0
  have hl : lv_has ls 11 [(0, .ref (mA 0)), (1, .long a1), (3, .long a2)] := hl
  generalize hH0 : s.heap = H at hP hS ⊢
  have hS : va_S A s.heap H [] := by rw [hH0]; exact hS
  unfold f_Model_setFraction at hf
  refine lv_lload_n hx hb d_Model_setFraction_0 rfl (lv_at hl 1 rfl) ?_
  refine lv_lstore (lv' := [(5, .long a1), (0, .ref (mA 0)), (1, .long a1), (3, .long a2)]) hx hb d_Model_setFraction_1 hl (by decide) rfl (fun ls hl => ?_)
  refine lv_lload_n hx hb d_Model_setFraction_3 rfl (lv_at hl 3 rfl) ?_
  refine lv_lstore (lv' := [(7, .long a2), (5, .long a1), (0, .ref (mA 0)), (1, .long a1), (3, .long a2)]) hx hb d_Model_setFraction_4 hl (by decide) rfl (fun ls hl => ?_)
  have B6 : ∀ (n : Nat) (x : Int64 × Int64), loopF (f_Model_setFraction_L6 a1 a2 sM sN) n x = some (tM, tN) → ∀ (H : Heap) (locs : List Loc) (ls : Array Slot), va_P D vwCl (L_m ty mA sM sN) H → va_D A (L_m ty mA sM sN) → va_S A s.heap H locs → lv_has ls 11 [(0, .ref (mA 0)), (1, .long a1), (3, .long a2), (5, .long (x.1)), (7, .long (x.2))] → W p l e R s m args below meth c H locs 0 0 Q (F0 m 6 ls []) := by
    refine loopW (fun (x : Int64 × Int64) => ∀ (H : Heap) (locs : List Loc) (ls : Array Slot), va_P D vwCl (L_m ty mA sM sN) H → va_D A (L_m ty mA sM sN) → va_S A s.heap H locs → lv_has ls 11 [(0, .ref (mA 0)), (1, .long a1), (3, .long a2), (5, .long (x.1)), (7, .long (x.2))] → W p l e R s m args below meth c H locs 0 0 Q (F0 m 6 ls [])) ?_
    intro K6 hK6 x hf
    obtain ⟨x1, x2⟩ := x
    rw [f_Model_setFraction_L6] at hf
    intro H locs ls hP hD hS hl
    have hl : lv_has ls 11 [(0, .ref (mA 0)), (1, .long a1), (3, .long a2), (5, .long x1), (7, .long x2)] := hl
    have hP : va_P D vwCl (L_m ty mA sM sN) H := hP
    have hD : va_D A (L_m ty mA sM sN) := hD
    show W p l e R s m args below meth c H locs 0 0 Q (F0 m 6 ls [])
    refine lv_lload hx hb d_Model_setFraction_6 (lv_at hl 4 rfl) ?_
    refine lv_lconst (v := (0 : Int64)) hx hb d_Model_setFraction_8 (by decide) ?_
    refine W.lcmp hx hb d_Model_setFraction_9 ?_
    refine lv_if_eq (tgt := 31) hx hb d_Model_setFraction_10 (by decide) (fun c3 => ?_) (fun c3 => ?_)
    · replace hf := iteT c3 hf
      refine lv_aload_n hx hb d_Model_setFraction_31 rfl (lv_at hl 0 rfl) ?_
      refine lv_lload_n hx hb d_Model_setFraction_32 rfl (lv_at hl 1 rfl) ?_
      refine lv_lload hx hb d_Model_setFraction_33 (lv_at hl 3 rfl) ?_
      obtain ⟨g4, hf⟩ := gdE hf
      refine lv_ldiv hx hb d_Model_setFraction_35 (ne0_ofL g4) ?_
      refine va_put (D := D) (ci := 11) (v := .long (a1 / x1)) (ty := .long) (C := "BedFrontierModel") (T := T_Model) (N := 22) hx hb htt i_Model t_Model t_Model_ok n_Model hown hK.1 hP hD hS 0 rfl rfl 1 (by decide) (htt _ k_773) (fun _ h9 => h9) rfl pfJ rfl rfl (Nat.le_of_ble_eq_true rfl) d_Model_setFraction_36 (fun H locs hP hD hS => ?_)
      obtain ⟨sN5, e_sN5⟩ : ∃ z : PL, z = upL sN 1 (a1 / x1) := ⟨_, rfl⟩
      replace hf := nmE hf e_sN5
      have hP : va_P D vwCl (L_m ty mA sM sN5) H := by rw [e_sN5]; exact hP
      have hD : va_D A (L_m ty mA sM sN5) := by rw [e_sN5]; exact hD
      refine lv_aload_n hx hb d_Model_setFraction_39 rfl (lv_at hl 0 rfl) ?_
      refine lv_lload_n hx hb d_Model_setFraction_40 rfl (lv_at hl 2 rfl) ?_
      refine lv_lload hx hb d_Model_setFraction_41 (lv_at hl 3 rfl) ?_
      obtain ⟨g6, hf⟩ := gdE hf
      refine lv_ldiv hx hb d_Model_setFraction_43 (ne0_ofL g6) ?_
      refine va_put (D := D) (ci := 11) (v := .long (a2 / x1)) (ty := .long) (C := "BedFrontierModel") (T := T_Model) (N := 22) hx hb htt i_Model t_Model t_Model_ok n_Model hown hK.1 hP hD hS 0 rfl rfl 2 (by decide) (htt _ k_774) (fun _ h9 => h9) rfl pfJ rfl rfl (Nat.le_of_ble_eq_true rfl) d_Model_setFraction_44 (fun H locs hP hD hS => ?_)
      obtain ⟨sN7, e_sN7⟩ : ∃ z : PL, z = upL sN5 2 (a2 / x1) := ⟨_, rfl⟩
      replace hf := nmE hf e_sN7
      have hP : va_P D vwCl (L_m ty mA sM sN7) H := by rw [e_sN7]; exact hP
      have hD : va_D A (L_m ty mA sM sN7) := by rw [e_sN7]; exact hD
      obtain ⟨rfl, rfl⟩ := sj2 hf
      exact retMv C0 hQ hP hD hS d_Model_setFraction_47
    · replace hf := iteF c3 hf
      refine lv_lload hx hb d_Model_setFraction_13 (lv_at hl 3 rfl) ?_
      refine lv_lload hx hb d_Model_setFraction_15 (lv_at hl 4 rfl) ?_
      obtain ⟨g8, hf⟩ := gdE hf
      refine lv_lrem hx hb d_Model_setFraction_17 (ne0_ofL g8) ?_
      refine lv_topl (fun x9 e_x9 => ?_)
      replace hf := nmE hf e_x9
      refine lv_lstore (lv' := [(9, .long x9), (0, .ref (mA 0)), (1, .long a1), (3, .long a2), (5, .long x1), (7, .long x2)]) hx hb d_Model_setFraction_18 hl (by decide) rfl (fun ls hl => ?_)
      refine lv_lload hx hb d_Model_setFraction_20 (lv_at hl 5 rfl) ?_
      refine lv_lstore (lv' := [(5, .long x2), (9, .long x9), (0, .ref (mA 0)), (1, .long a1), (3, .long a2), (7, .long x2)]) hx hb d_Model_setFraction_22 hl (by decide) rfl (fun ls hl => ?_)
      refine lv_lload hx hb d_Model_setFraction_24 (lv_at hl 1 rfl) ?_
      refine lv_lstore (lv' := [(7, .long x9), (5, .long x2), (9, .long x9), (0, .ref (mA 0)), (1, .long a1), (3, .long a2)]) hx hb d_Model_setFraction_26 hl (by decide) rfl (fun ls hl => ?_)
      refine lv_goto (tgt := 6) hx hb d_Model_setFraction_28 (by decide) ?_
      exact hK6 (x2, x9) hf _ _ ls hP hD hS (lv_sub hl [3, 4, 5, 1, 0] rfl)
  exact B6 4000 (a1, a2) hf _ _ ls hP hD hS (lv_sub hl [2, 3, 4, 1, 0] rfl)
def f_Model_child (sM : PW) (sN : PL) (a1 : Int32) : Option (Int32 × PW × PL) :=
  bd (f_Model_in ((a1).toInt64) (0 : Int64) (7 : Int64)) (fun x1 => (if x1 = 0 then bd3 (f_Model_bad sM sN) (fun x9 sM10 sN11 => some (x9, sM10, sN11)) else bd (f_Model_hersOf a1) (fun x4 => bd2 (f_Model_setFraction sM sN ((x4).toInt64) (3 : Int64)) (fun sM6 sN7 => some ((1 : Int32), sM6, sN7)))))
set_option maxHeartbeats 4000000 in
set_option maxRecDepth 100000 in
theorem c_Model_child (l : Launch) (D : va_G) (ty : Nat → ClassId) (mA : Nat → Nat) (sz : Nat) (sM : PW) (sN : PL) (a1 : Int32) (rr : Int32) (tM : PW) (tN : PL) (hf : f_Model_child sM sN a1 = some (rr, tM, tN)) : Met l y_Model_child (Cond.code y_Model_child prog_13_method_49_code 2 ((Option.some FieldType.int)) :: lw_ok) { frames := 1, cells := 0, slots := 0, locals := 30 } (PcM D ty [.ref (mA 0), .int a1] sz (L_m ty mA sM sN)) (QM D (L_m ty mA tM tN) (va_A (L_m ty mA sM sN) sz) (some (.int rr))) 0 0 (va_A (L_m ty mA sM sN) sz) := by
  refine hdM (by decide) (Nat.le_of_ble_eq_true rfl) ?_
  intro p e s m below meth c ls R args Q A C0 hR hQ hnm hAq hP hK hD hS hl
  obtain ⟨hx, hb, hr, hlk, hml, hown, htt⟩ := id C0
  have hl : lv_has ls 2 [(0, .ref (mA 0)), (1, .int a1)] := hl
  generalize hH0 : s.heap = H at hP hS ⊢
  have hS : va_S A s.heap H [] := by rw [hH0]; exact hS
  unfold f_Model_child at hf
  refine lv_iload_n hx hb d_Model_child_0 rfl (lv_at hl 1 rfl) ?_
  refine lv_i2l hx hb d_Model_child_1 rfl ?_
  refine lv_lconst (v := (0 : Int64)) hx hb d_Model_child_2 (by decide) ?_
  refine lv_ldc2 (v := (7 : Int64)) hx hb hown (htt _ k_1027) d_Model_child_3 ?_
  obtain ⟨x1, h2, hf⟩ := bdE hf
  refine scR (rest := []) C0 (c_Model_in l D ty ((a1).toInt64) (0 : Int64) (7 : Int64) x1 h2) k_845 cal_Model_in hK (va_P_nil) ⟨by rw [hR]; decide, by rw [hR]; decide⟩ rfl rfl rfl hl.1 rfl (Nat.le_of_ble_eq_true rfl) d_Model_child_6 ⟨Nat.zero_le _, Nat.zero_le _⟩ rfl ?_
  refine lv_if_ne (tgt := 17) hx hb d_Model_child_9 (by decide) (fun c3 => ?_) (fun c3 => ?_)
  · replace hf := iteF c3 hf
    refine lv_aload_n hx hb d_Model_child_17 rfl (lv_at hl 0 rfl) ?_
    refine lv_iload_n hx hb d_Model_child_18 rfl (lv_at hl 1 rfl) ?_
    obtain ⟨x4, h5, hf⟩ := bdE hf
    refine scR (rest := [.ref (mA 0)]) C0 (c_Model_hersOf l D ty a1 x4 h5) k_1028 cal_Model_hersOf hK (va_P_nil) ⟨by rw [hR]; decide, by rw [hR]; decide⟩ rfl rfl rfl hl.1 rfl (Nat.le_of_ble_eq_true rfl) d_Model_child_19 ⟨Nat.zero_le _, Nat.zero_le _⟩ rfl ?_
    refine lv_i2l hx hb d_Model_child_22 rfl ?_
    refine lv_ldc2 (v := (3 : Int64)) hx hb hown (htt _ k_990) d_Model_child_23 ?_
    obtain ⟨sM6, sN7, h8, hf⟩ := bd2E hf
    refine vM (Lc := (L_m ty mA sM sN)) (Lc' := (L_m ty mA sM6 sN7)) (L' := (L_m ty mA sM6 sN7)) (q0 := 0) (ci := 11) (rest := []) C0 (c_Model_setFraction l D ty mA H.size sM sN ((x4).toInt64) (3 : Int64) sM6 sN7 h8) k_1031 cal_Model_setFraction hK hP hD hS hAq [0, 1, 2, 3, 4, 5, 6, 7, 8, 9, 10, 11] [] [0, 1, 2, 3, 4, 5, 6, 7, 8, 9, 10, 11] [] rfl rfl (by decide) (by decide) (by decide) (by decide) rfl rfl rfl rfl ⟨by rw [hR]; decide, by rw [hR]; decide⟩ rfl rfl rfl hl.1 rfl (Nat.le_of_ble_eq_true rfl) d_Model_child_26 ⟨by rw [hR]; decide, by rw [hR]; decide⟩ rfl (fun H locs hP hD hS => ?_)
    refine lv_iconst (v := (1 : Int32)) hx hb d_Model_child_29 (by decide) ?_
    obtain ⟨rfl, rfl, rfl⟩ := sj3 hf
    exact retM C0 (narI _) hQ hP hD hS d_Model_child_30
  · replace hf := iteT c3 hf
    refine lv_aload_n hx hb d_Model_child_12 rfl (lv_at hl 0 rfl) ?_
    obtain ⟨x9, sM10, sN11, h12, hf⟩ := bd3E hf
    refine vM (Lc := (L_m ty mA sM sN)) (Lc' := (L_m ty mA sM10 sN11)) (L' := (L_m ty mA sM10 sN11)) (q0 := 0) (ci := 11) (rest := []) C0 (c_Model_bad l D ty mA H.size sM sN x9 sM10 sN11 h12) k_848 cal_Model_bad hK hP hD hS hAq [0, 1, 2, 3, 4, 5, 6, 7, 8, 9, 10, 11] [] [0, 1, 2, 3, 4, 5, 6, 7, 8, 9, 10, 11] [] rfl rfl (by decide) (by decide) (by decide) (by decide) rfl rfl rfl rfl ⟨by rw [hR]; decide, by rw [hR]; decide⟩ rfl rfl rfl hl.1 rfl (Nat.le_of_ble_eq_true rfl) d_Model_child_13 ⟨by rw [hR]; decide, by rw [hR]; decide⟩ rfl (fun H locs hP hD hS => ?_)
    obtain ⟨rfl, rfl, rfl⟩ := sj3 hf
    exact retM C0 (narI _) hQ hP hD hS d_Model_child_16
def f_Model_where_J130 (x12 : Int32) (x13 : Int32) (K90 : Int32 × Int32 × Int32 → Option (Int32 × PW × PL)) (x19 : Int32) (x20 : Int32) : Option (Int32 × PW × PL) :=
  (if x12 ≤ x19 then nm (x13 + (1 : Int32)) (fun x22 => K90 (x20, x12, x22)) else nm (x13 + (1 : Int32)) (fun x23 => K90 (x20, x19, x23)))
def f_Model_where_L90 (sM : PW) (sN : PL) (x6 : Int32) (x9 : Int32) (K90 : Int32 × Int32 × Int32 → Option (Int32 × PW × PL)) : Int32 × Int32 × Int32 → Option (Int32 × PW × PL)
  | (x11, x12, x13) =>
  (if (8 : Int32) ≤ x13 then some (x11, sM, sN) else bd (f_Model_hersOf x13) (fun x15 => bd (f_Model_hersOf x13) (fun x17 => nm ((((3 : Int32) - x15) * x6) + (x17 * x9)) (fun x19 => (if x12 ≤ x19 then f_Model_where_J130 x12 x13 K90 x19 x11 else f_Model_where_J130 x12 x13 K90 x19 x13)))))
def f_Model_where_J78 (sM : PW) (sN : PL) (x6 : Int32) (x9 : Int32) : Option (Int32 × PW × PL) :=
  nm ((3 : Int32) * x6) (fun x10 => loopF (f_Model_where_L90 sM sN x6 x9) 4000 ((0 : Int32), x10, (1 : Int32)))
def f_Model_where_J45 (a1 : Int32) (sM : PW) (sN : PL) (x6 : Int32) : Option (Int32 × PW × PL) :=
  bd (f_Model_isThrough sM sN a1 (1 : Int32) (sM 0 1)) (fun x7 => (if x7 = 0 then f_Model_where_J78 sM sN x6 (99 : Int32) else bd (f_Model_dueIn sM sN a1 (1 : Int32) (sM 0 1)) (fun x26 => f_Model_where_J78 sM sN x6 x26)))
def f_Model_where (sM : PW) (sN : PL) (a1 : Int32) : Option (Int32 × PW × PL) :=
  bd (f_Model_isDoing sM sN a1) (fun x1 => (if x1 = 0 then bd3 (f_Model_bad sM sN) (fun x31 sM32 sN33 => some (x31, sM32, sN33)) else bd (f_Model_isThrough sM sN a1 (0 : Int32) (sM 0 1)) (fun x4 => (if x4 = 0 then f_Model_where_J45 a1 sM sN (99 : Int32) else bd (f_Model_dueIn sM sN a1 (0 : Int32) (sM 0 1)) (fun x29 => f_Model_where_J45 a1 sM sN x29)))))
set_option maxHeartbeats 4000000 in
set_option maxRecDepth 100000 in
theorem c_Model_where (l : Launch) (D : va_G) (ty : Nat → ClassId) (mA : Nat → Nat) (sz : Nat) (sM : PW) (sN : PL) (a1 : Int32) (rr : Int32) (tM : PW) (tN : PL) (hf : f_Model_where sM sN a1 = some (rr, tM, tN)) : Met l y_Model_where (Cond.code y_Model_where prog_13_method_50_code 8 ((Option.some FieldType.int)) :: lw_ok) { frames := 2, cells := 0, slots := 0, locals := 50 } (PcM D ty [.ref (mA 0), .int a1] sz (L_m ty mA sM sN)) (QM D (L_m ty mA tM tN) (va_A (L_m ty mA sM sN) sz) (some (.int rr))) 0 0 (va_A (L_m ty mA sM sN) sz) := by
  refine hdM (by decide) (Nat.le_of_ble_eq_true rfl) ?_
  intro p e s m below meth c ls R args Q A C0 hR hQ hnm hAq hP hK hD hS hl
  obtain ⟨hx, hb, hr, hlk, hml, hown, htt⟩ := id C0
  have hl : lv_has ls 8 [(0, .ref (mA 0)), (1, .int a1)] := hl
  generalize hH0 : s.heap = H at hP hS ⊢
  have hS : va_S A s.heap H [] := by rw [hH0]; exact hS
  unfold f_Model_where at hf
  refine lv_aload_n hx hb d_Model_where_0 rfl (lv_at hl 0 rfl) ?_
  refine lv_iload_n hx hb d_Model_where_1 rfl (lv_at hl 1 rfl) ?_
  obtain ⟨x1, h2, hf⟩ := bdE hf
  refine vR (q0 := 0) (ci := 11) (rest := []) C0 (c_Model_isDoing l D ty mA sM sN a1 x1 h2) k_931 cal_Model_isDoing hK hP rfl rfl rfl ⟨by rw [hR]; decide, by rw [hR]; decide⟩ rfl rfl rfl hl.1 rfl (Nat.le_of_ble_eq_true rfl) d_Model_where_2 ⟨Nat.zero_le _, Nat.zero_le _⟩ rfl ?_
  refine lv_if_ne (tgt := 13) hx hb d_Model_where_5 (by decide) (fun c3 => ?_) (fun c3 => ?_)
  · replace hf := iteF c3 hf
    refine lv_aload_n hx hb d_Model_where_13 rfl (lv_at hl 0 rfl) ?_
    refine lv_iload_n hx hb d_Model_where_14 rfl (lv_at hl 1 rfl) ?_
    refine lv_iconst (v := (0 : Int32)) hx hb d_Model_where_15 (by decide) ?_
    refine lv_aload_n hx hb d_Model_where_16 rfl (lv_at hl 0 rfl) ?_
    refine va_get (D := D) (ci := 11) (v := .ref (mA 1)) (C := "BedFrontierModel") (T := T_Model) (N := 22) hx hb htt i_Model hown hK.1 hP 0 rfl rfl 0 (by decide) (htt _ k_772) (fun _ h9 => h9) rfl d_Model_where_17 ?_
    refine lv_iconst (v := (1 : Int32)) hx hb d_Model_where_20 (by decide) ?_
    refine ld_iald (j := 1) hx hb hK.1 hP 1 0 rfl rfl (okI_in (by decide)) rfl d_Model_where_21 ?_
    obtain ⟨x4, h5, hf⟩ := bdE hf
    refine vR (q0 := 0) (ci := 11) (rest := []) C0 (c_Model_isThrough l D ty mA sM sN a1 (0 : Int32) (sM 0 1) x4 h5) k_935 cal_Model_isThrough hK hP rfl rfl rfl ⟨by rw [hR]; decide, by rw [hR]; decide⟩ rfl rfl rfl hl.1 rfl (Nat.le_of_ble_eq_true rfl) d_Model_where_22 ⟨Nat.zero_le _, Nat.zero_le _⟩ rfl ?_
    have J45 : ∀ (x6 : Int32), f_Model_where_J45 a1 sM sN x6 = some (rr, tM, tN) → ∀ (H : Heap) (locs : List Loc) (ls : Array Slot), va_P D vwCl (L_m ty mA sM sN) H → va_D A (L_m ty mA sM sN) → va_S A s.heap H locs → lv_has ls 8 [(0, .ref (mA 0)), (1, .int a1)] → W p l e R s m args below meth c H locs 0 0 Q (F0 m 45 ls [.int x6]) := by
      intro x6 hf H locs ls hP hD hS hl
      unfold f_Model_where_J45 at hf
      refine lv_istore_n (lv' := [(2, .int x6), (0, .ref (mA 0)), (1, .int a1)]) hx hb d_Model_where_45 rfl hl (by decide) rfl (fun ls hl => ?_)
      refine lv_aload_n hx hb d_Model_where_46 rfl (lv_at hl 1 rfl) ?_
      refine lv_iload_n hx hb d_Model_where_47 rfl (lv_at hl 2 rfl) ?_
      refine lv_iconst (v := (1 : Int32)) hx hb d_Model_where_48 (by decide) ?_
      refine lv_aload_n hx hb d_Model_where_49 rfl (lv_at hl 1 rfl) ?_
      refine va_get (D := D) (ci := 11) (v := .ref (mA 1)) (C := "BedFrontierModel") (T := T_Model) (N := 22) hx hb htt i_Model hown hK.1 hP 0 rfl rfl 0 (by decide) (htt _ k_772) (fun _ h9 => h9) rfl d_Model_where_50 ?_
      refine lv_iconst (v := (1 : Int32)) hx hb d_Model_where_53 (by decide) ?_
      refine ld_iald (j := 1) hx hb hK.1 hP 1 0 rfl rfl (okI_in (by decide)) rfl d_Model_where_54 ?_
      obtain ⟨x7, h8, hf⟩ := bdE hf
      refine vR (q0 := 0) (ci := 11) (rest := []) C0 (c_Model_isThrough l D ty mA sM sN a1 (1 : Int32) (sM 0 1) x7 h8) k_935 cal_Model_isThrough hK hP rfl rfl rfl ⟨by rw [hR]; decide, by rw [hR]; decide⟩ rfl rfl rfl hl.1 rfl (Nat.le_of_ble_eq_true rfl) d_Model_where_55 ⟨Nat.zero_le _, Nat.zero_le _⟩ rfl ?_
      have J78 : ∀ (x9 : Int32), f_Model_where_J78 sM sN x6 x9 = some (rr, tM, tN) → ∀ (H : Heap) (locs : List Loc) (ls : Array Slot), va_P D vwCl (L_m ty mA sM sN) H → va_D A (L_m ty mA sM sN) → va_S A s.heap H locs → lv_has ls 8 [(2, .int x6)] → W p l e R s m args below meth c H locs 0 0 Q (F0 m 78 ls [.int x9]) := by
        intro x9 hf H locs ls hP hD hS hl
        unfold f_Model_where_J78 at hf
        refine lv_istore_n (lv' := [(3, .int x9), (2, .int x6)]) hx hb d_Model_where_78 rfl hl (by decide) rfl (fun ls hl => ?_)
        refine lv_iconst (v := (0 : Int32)) hx hb d_Model_where_79 (by decide) ?_
        refine lv_istore (lv' := [(4, .int (0 : Int32)), (3, .int x9), (2, .int x6)]) hx hb d_Model_where_80 hl (by decide) rfl (fun ls hl => ?_)
        refine lv_iconst (v := (3 : Int32)) hx hb d_Model_where_82 (by decide) ?_
        refine lv_iload_n hx hb d_Model_where_83 rfl (lv_at hl 2 rfl) ?_
        refine lv_imul hx hb d_Model_where_84 ?_
        refine lv_topi (fun x10 e_x10 => ?_)
        replace hf := nmE hf e_x10
        refine lv_istore (lv' := [(5, .int x10), (4, .int (0 : Int32)), (3, .int x9), (2, .int x6)]) hx hb d_Model_where_85 hl (by decide) rfl (fun ls hl => ?_)
        refine lv_iconst (v := (1 : Int32)) hx hb d_Model_where_87 (by decide) ?_
        refine lv_istore (lv' := [(6, .int (1 : Int32)), (5, .int x10), (4, .int (0 : Int32)), (3, .int x9), (2, .int x6)]) hx hb d_Model_where_88 hl (by decide) rfl (fun ls hl => ?_)
        have B90 : ∀ (n : Nat) (x : Int32 × Int32 × Int32), loopF (f_Model_where_L90 sM sN x6 x9) n x = some (rr, tM, tN) → ∀ (H : Heap) (locs : List Loc) (ls : Array Slot), va_P D vwCl (L_m ty mA sM sN) H → va_D A (L_m ty mA sM sN) → va_S A s.heap H locs → lv_has ls 8 [(2, .int x6), (3, .int x9), (4, .int (x.1)), (5, .int (x.2.1)), (6, .int (x.2.2))] → W p l e R s m args below meth c H locs 0 0 Q (F0 m 90 ls []) := by
          refine loopW (fun (x : Int32 × Int32 × Int32) => ∀ (H : Heap) (locs : List Loc) (ls : Array Slot), va_P D vwCl (L_m ty mA sM sN) H → va_D A (L_m ty mA sM sN) → va_S A s.heap H locs → lv_has ls 8 [(2, .int x6), (3, .int x9), (4, .int (x.1)), (5, .int (x.2.1)), (6, .int (x.2.2))] → W p l e R s m args below meth c H locs 0 0 Q (F0 m 90 ls [])) ?_
          intro K90 hK90 x hf
          obtain ⟨x11, x12, x13⟩ := x
          rw [f_Model_where_L90] at hf
          intro H locs ls hP hD hS hl
          have hl : lv_has ls 8 [(2, .int x6), (3, .int x9), (4, .int x11), (5, .int x12), (6, .int x13)] := hl
          have hP : va_P D vwCl (L_m ty mA sM sN) H := hP
          have hD : va_D A (L_m ty mA sM sN) := hD
          show W p l e R s m args below meth c H locs 0 0 Q (F0 m 90 ls [])
          refine lv_iload hx hb d_Model_where_90 (lv_at hl 4 rfl) ?_
          refine lv_bipush (v := (8 : Int32)) hx hb d_Model_where_92 (by decide) ?_
          refine lv_icmp_ge (tgt := 154) hx hb d_Model_where_94 (by decide) (fun c14 => ?_) (fun c14 => ?_)
          · replace hf := iteT c14 hf
            refine lv_iload hx hb d_Model_where_154 (lv_at hl 2 rfl) ?_
            obtain ⟨rfl, rfl, rfl⟩ := sj3 hf
            exact retM C0 (narI _) hQ hP hD hS d_Model_where_156
          · replace hf := iteF c14 hf
            refine lv_iconst (v := (3 : Int32)) hx hb d_Model_where_97 (by decide) ?_
            refine lv_iload hx hb d_Model_where_98 (lv_at hl 4 rfl) ?_
            obtain ⟨x15, h16, hf⟩ := bdE hf
            refine scR (rest := [.int (3 : Int32)]) C0 (c_Model_hersOf l D ty x13 x15 h16) k_1028 cal_Model_hersOf hK (va_P_nil) ⟨by rw [hR]; decide, by rw [hR]; decide⟩ rfl rfl rfl hl.1 rfl (Nat.le_of_ble_eq_true rfl) d_Model_where_100 ⟨Nat.zero_le _, Nat.zero_le _⟩ rfl ?_
            refine lv_isub hx hb d_Model_where_103 ?_
            refine lv_iload_n hx hb d_Model_where_104 rfl (lv_at hl 0 rfl) ?_
            refine lv_imul hx hb d_Model_where_105 ?_
            refine lv_iload hx hb d_Model_where_106 (lv_at hl 4 rfl) ?_
            obtain ⟨x17, h18, hf⟩ := bdE hf
            refine scR (rest := [.int (((3 : Int32) - x15) * x6)]) C0 (c_Model_hersOf l D ty x13 x17 h18) k_1028 cal_Model_hersOf hK (va_P_nil) ⟨by rw [hR]; decide, by rw [hR]; decide⟩ rfl rfl rfl hl.1 rfl (Nat.le_of_ble_eq_true rfl) d_Model_where_108 ⟨Nat.zero_le _, Nat.zero_le _⟩ rfl ?_
            refine lv_iload_n hx hb d_Model_where_111 rfl (lv_at hl 1 rfl) ?_
            refine lv_imul hx hb d_Model_where_112 ?_
            refine lv_iadd hx hb d_Model_where_113 ?_
            refine lv_topi (fun x19 e_x19 => ?_)
            replace hf := nmE hf e_x19
            refine lv_istore (lv' := [(7, .int x19), (2, .int x6), (3, .int x9), (4, .int x11), (5, .int x12), (6, .int x13)]) hx hb d_Model_where_114 hl (by decide) rfl (fun ls hl => ?_)
            refine lv_iload hx hb d_Model_where_116 (lv_at hl 0 rfl) ?_
            refine lv_iload hx hb d_Model_where_118 (lv_at hl 4 rfl) ?_
            have J130 : ∀ (x20 : Int32), f_Model_where_J130 x12 x13 K90 x19 x20 = some (rr, tM, tN) → ∀ (H : Heap) (locs : List Loc) (ls : Array Slot), va_P D vwCl (L_m ty mA sM sN) H → va_D A (L_m ty mA sM sN) → va_S A s.heap H locs → lv_has ls 8 [(2, .int x6), (3, .int x9), (5, .int x12), (6, .int x13), (7, .int x19)] → W p l e R s m args below meth c H locs 0 0 Q (F0 m 130 ls [.int x20]) := by
              intro x20 hf H locs ls hP hD hS hl
              unfold f_Model_where_J130 at hf
              refine lv_istore (lv' := [(4, .int x20), (2, .int x6), (3, .int x9), (5, .int x12), (6, .int x13), (7, .int x19)]) hx hb d_Model_where_130 hl (by decide) rfl (fun ls hl => ?_)
              refine lv_iload hx hb d_Model_where_132 (lv_at hl 5 rfl) ?_
              refine lv_iload hx hb d_Model_where_134 (lv_at hl 3 rfl) ?_
              refine lv_icmp_ge (tgt := 144) hx hb d_Model_where_136 (by decide) (fun c21 => ?_) (fun c21 => ?_)
              · replace hf := iteT c21 hf
                refine lv_iload hx hb d_Model_where_144 (lv_at hl 3 rfl) ?_
                refine lv_istore (lv' := [(5, .int x12), (4, .int x20), (2, .int x6), (3, .int x9), (6, .int x13), (7, .int x19)]) hx hb d_Model_where_146 hl (by decide) rfl (fun ls hl => ?_)
                obtain ⟨x22, e_x22⟩ : ∃ z : Int32, z = (x13 + (1 : Int32)) := ⟨_, rfl⟩
                replace hf := nmE hf e_x22
                refine lv_iinc (v := x22) (lv' := [(6, .int x22), (5, .int x12), (4, .int x20), (2, .int x6), (3, .int x9), (7, .int x19)]) hx hb d_Model_where_148 hl (k := 4) rfl (by rw [e_x22]; rfl) (by decide) rfl (fun ls hl => ?_)
                refine lv_goto (tgt := 90) hx hb d_Model_where_151 (by decide) ?_
                exact hK90 (x20, x12, x22) hf _ _ ls hP hD hS (lv_sub hl [3, 4, 2, 1, 0] rfl)
              · replace hf := iteF c21 hf
                refine lv_iload hx hb d_Model_where_139 (lv_at hl 5 rfl) ?_
                refine lv_goto (tgt := 146) hx hb d_Model_where_141 (by decide) ?_
                refine lv_istore (lv' := [(5, .int x19), (4, .int x20), (2, .int x6), (3, .int x9), (6, .int x13), (7, .int x19)]) hx hb d_Model_where_146 hl (by decide) rfl (fun ls hl => ?_)
                obtain ⟨x23, e_x23⟩ : ∃ z : Int32, z = (x13 + (1 : Int32)) := ⟨_, rfl⟩
                replace hf := nmE hf e_x23
                refine lv_iinc (v := x23) (lv' := [(6, .int x23), (5, .int x19), (4, .int x20), (2, .int x6), (3, .int x9), (7, .int x19)]) hx hb d_Model_where_148 hl (k := 4) rfl (by rw [e_x23]; rfl) (by decide) rfl (fun ls hl => ?_)
                refine lv_goto (tgt := 90) hx hb d_Model_where_151 (by decide) ?_
                exact hK90 (x20, x19, x23) hf _ _ ls hP hD hS (lv_sub hl [3, 4, 2, 1, 0] rfl)
            refine lv_icmp_ge (tgt := 128) hx hb d_Model_where_120 (by decide) (fun c24 => ?_) (fun c24 => ?_)
            · replace hf := iteT c24 hf
              refine lv_iload hx hb d_Model_where_128 (lv_at hl 3 rfl) ?_
              exact J130 x11 hf _ _ ls hP hD hS (lv_sub hl [1, 2, 4, 5, 0] rfl)
            · replace hf := iteF c24 hf
              refine lv_iload hx hb d_Model_where_123 (lv_at hl 5 rfl) ?_
              refine lv_goto (tgt := 130) hx hb d_Model_where_125 (by decide) ?_
              exact J130 x13 hf _ _ ls hP hD hS (lv_sub hl [1, 2, 4, 5, 0] rfl)
        exact B90 4000 ((0 : Int32), x10, (1 : Int32)) hf _ _ ls hP hD hS (lv_sub hl [4, 3, 2, 1, 0] rfl)
      refine lv_if_eq (tgt := 76) hx hb d_Model_where_58 (by decide) (fun c25 => ?_) (fun c25 => ?_)
      · replace hf := iteT c25 hf
        refine lv_bipush (v := (99 : Int32)) hx hb d_Model_where_76 (by decide) ?_
        exact J78 (99 : Int32) hf _ _ ls hP hD hS (lv_sub hl [0] rfl)
      · replace hf := iteF c25 hf
        refine lv_aload_n hx hb d_Model_where_61 rfl (lv_at hl 1 rfl) ?_
        refine lv_iload_n hx hb d_Model_where_62 rfl (lv_at hl 2 rfl) ?_
        refine lv_iconst (v := (1 : Int32)) hx hb d_Model_where_63 (by decide) ?_
        refine lv_aload_n hx hb d_Model_where_64 rfl (lv_at hl 1 rfl) ?_
        refine va_get (D := D) (ci := 11) (v := .ref (mA 1)) (C := "BedFrontierModel") (T := T_Model) (N := 22) hx hb htt i_Model hown hK.1 hP 0 rfl rfl 0 (by decide) (htt _ k_772) (fun _ h9 => h9) rfl d_Model_where_65 ?_
        refine lv_iconst (v := (1 : Int32)) hx hb d_Model_where_68 (by decide) ?_
        refine ld_iald (j := 1) hx hb hK.1 hP 1 0 rfl rfl (okI_in (by decide)) rfl d_Model_where_69 ?_
        obtain ⟨x26, h27, hf⟩ := bdE hf
        refine vR (q0 := 0) (ci := 11) (rest := []) C0 (c_Model_dueIn l D ty mA sM sN a1 (1 : Int32) (sM 0 1) x26 h27) k_961 cal_Model_dueIn hK hP rfl rfl rfl ⟨by rw [hR]; decide, by rw [hR]; decide⟩ rfl rfl rfl hl.1 rfl (Nat.le_of_ble_eq_true rfl) d_Model_where_70 ⟨Nat.zero_le _, Nat.zero_le _⟩ rfl ?_
        refine lv_goto (tgt := 78) hx hb d_Model_where_73 (by decide) ?_
        exact J78 x26 hf _ _ ls hP hD hS (lv_sub hl [0] rfl)
    refine lv_if_eq (tgt := 43) hx hb d_Model_where_25 (by decide) (fun c28 => ?_) (fun c28 => ?_)
    · replace hf := iteT c28 hf
      refine lv_bipush (v := (99 : Int32)) hx hb d_Model_where_43 (by decide) ?_
      exact J45 (99 : Int32) hf _ _ ls hP hD hS (hl)
    · replace hf := iteF c28 hf
      refine lv_aload_n hx hb d_Model_where_28 rfl (lv_at hl 0 rfl) ?_
      refine lv_iload_n hx hb d_Model_where_29 rfl (lv_at hl 1 rfl) ?_
      refine lv_iconst (v := (0 : Int32)) hx hb d_Model_where_30 (by decide) ?_
      refine lv_aload_n hx hb d_Model_where_31 rfl (lv_at hl 0 rfl) ?_
      refine va_get (D := D) (ci := 11) (v := .ref (mA 1)) (C := "BedFrontierModel") (T := T_Model) (N := 22) hx hb htt i_Model hown hK.1 hP 0 rfl rfl 0 (by decide) (htt _ k_772) (fun _ h9 => h9) rfl d_Model_where_32 ?_
      refine lv_iconst (v := (1 : Int32)) hx hb d_Model_where_35 (by decide) ?_
      refine ld_iald (j := 1) hx hb hK.1 hP 1 0 rfl rfl (okI_in (by decide)) rfl d_Model_where_36 ?_
      obtain ⟨x29, h30, hf⟩ := bdE hf
      refine vR (q0 := 0) (ci := 11) (rest := []) C0 (c_Model_dueIn l D ty mA sM sN a1 (0 : Int32) (sM 0 1) x29 h30) k_961 cal_Model_dueIn hK hP rfl rfl rfl ⟨by rw [hR]; decide, by rw [hR]; decide⟩ rfl rfl rfl hl.1 rfl (Nat.le_of_ble_eq_true rfl) d_Model_where_37 ⟨Nat.zero_le _, Nat.zero_le _⟩ rfl ?_
      refine lv_goto (tgt := 45) hx hb d_Model_where_40 (by decide) ?_
      exact J45 x29 hf _ _ ls hP hD hS (hl)
  · replace hf := iteT c3 hf
    refine lv_aload_n hx hb d_Model_where_8 rfl (lv_at hl 0 rfl) ?_
    obtain ⟨x31, sM32, sN33, h34, hf⟩ := bd3E hf
    refine vM (Lc := (L_m ty mA sM sN)) (Lc' := (L_m ty mA sM32 sN33)) (L' := (L_m ty mA sM32 sN33)) (q0 := 0) (ci := 11) (rest := []) C0 (c_Model_bad l D ty mA H.size sM sN x31 sM32 sN33 h34) k_848 cal_Model_bad hK hP hD hS hAq [0, 1, 2, 3, 4, 5, 6, 7, 8, 9, 10, 11] [] [0, 1, 2, 3, 4, 5, 6, 7, 8, 9, 10, 11] [] rfl rfl (by decide) (by decide) (by decide) (by decide) rfl rfl rfl rfl ⟨by rw [hR]; decide, by rw [hR]; decide⟩ rfl rfl rfl hl.1 rfl (Nat.le_of_ble_eq_true rfl) d_Model_where_9 ⟨by rw [hR]; decide, by rw [hR]; decide⟩ rfl (fun H locs hP hD hS => ?_)
    obtain ⟨rfl, rfl, rfl⟩ := sj3 hf
    exact retM C0 (narI _) hQ hP hD hS d_Model_where_12
def f_Model_hasBy_J119 (a2 : Int32) (x3 : Int32) (x6 : Int32) (x7 : Int32) : Option (Int32) :=
  (if x7 = a2 then (if a2 = 0 then some x3 else some x6) else some (0 : Int32))
def f_Model_hasBy_J109 (a2 : Int32) (x3 : Int32) (x6 : Int32) : Option (Int32) :=
  (if x6 < 0 then f_Model_hasBy_J119 a2 x3 x6 (-1 : Int32) else f_Model_hasBy_J119 a2 x3 x6 (1 : Int32))
def f_Model_hasBy_J105 (a2 : Int32) (x3 : Int32) (x6 : Int32) : Option (Int32) :=
  f_Model_hasBy_J119 a2 x3 x6 (0 : Int32)
def f_Model_hasBy_J86 (a2 : Int32) (x3 : Int32) (x6 : Int32) : Option (Int32) :=
  (if x3 < 0 then f_Model_hasBy_J109 a2 x3 x6 else (if x6 < 0 then f_Model_hasBy_J105 a2 x3 x6 else (if x6 < x3 then f_Model_hasBy_J109 a2 x3 x6 else f_Model_hasBy_J105 a2 x3 x6)))
def f_Model_hasBy_J70 (a1 : Int32) (a2 : Int32) (sM : PW) (sN : PL) (x3 : Int32) : Option (Int32) :=
  bd (f_Model_dueIn sM sN a1 (1 : Int32) (sM 0 1)) (fun x14 => f_Model_hasBy_J86 a2 x3 x14)
def f_Model_hasBy_J42 (a1 : Int32) (a2 : Int32) (a3 : Int32) (sM : PW) (sN : PL) (x3 : Int32) : Option (Int32) :=
  bd (f_Model_has a3 (1 : Int32)) (fun x4 => (if x4 = 0 then f_Model_hasBy_J70 a1 a2 sM sN x3 else bd (f_Model_clockOf (1 : Int32) (sM 0 1)) (fun x17 => bd (f_Model_passes sM sN a1 x17) (fun x19 => (if x19 = 0 then f_Model_hasBy_J86 a2 x3 (-1 : Int32) else f_Model_hasBy_J70 a1 a2 sM sN x3)))))
def f_Model_hasBy_J26 (a1 : Int32) (a2 : Int32) (a3 : Int32) (sM : PW) (sN : PL) : Option (Int32) :=
  bd (f_Model_dueIn sM sN a1 (0 : Int32) (sM 0 1)) (fun x22 => f_Model_hasBy_J42 a1 a2 a3 sM sN x22)
def f_Model_hasBy (sM : PW) (sN : PL) (a1 : Int32) (a2 : Int32) (a3 : Int32) : Option (Int32) :=
  bd (f_Model_has a3 (0 : Int32)) (fun x1 => (if x1 = 0 then f_Model_hasBy_J26 a1 a2 a3 sM sN else bd (f_Model_clockOf (0 : Int32) (sM 0 1)) (fun x25 => bd (f_Model_passes sM sN a1 x25) (fun x27 => (if x27 = 0 then f_Model_hasBy_J42 a1 a2 a3 sM sN (-1 : Int32) else f_Model_hasBy_J26 a1 a2 a3 sM sN)))))
set_option maxHeartbeats 4000000 in
set_option maxRecDepth 100000 in
theorem c_Model_hasBy (l : Launch) (D : va_G) (ty : Nat → ClassId) (mA : Nat → Nat) (sM : PW) (sN : PL) (a1 : Int32) (a2 : Int32) (a3 : Int32) (rr : Int32) (hf : f_Model_hasBy sM sN a1 a2 a3 = some rr) : Met l y_Model_hasBy (Cond.code y_Model_hasBy prog_13_method_51_code 7 ((Option.some FieldType.int)) :: lw_ok) { frames := 2, cells := 0, slots := 0, locals := 50 } (PcR D ty [.ref (mA 0), .int a1, .int a2, .int a3] (L_m ty mA sM sN)) (QR (some (.int rr))) 0 0 (fun _ => False) := by
  refine hdR (by decide) (Nat.le_of_ble_eq_true rfl) ?_
  intro p e s m below meth c ls R args Q C0 hR hQ hP hK hl
  obtain ⟨hx, hb, hr, hlk, hml, hown, htt⟩ := id C0
  have hl : lv_has ls 7 [(0, .ref (mA 0)), (1, .int a1), (2, .int a2), (3, .int a3)] := hl
  unfold f_Model_hasBy at hf
  refine lv_iload_n hx hb d_Model_hasBy_0 rfl (lv_at hl 3 rfl) ?_
  refine lv_iconst (v := (0 : Int32)) hx hb d_Model_hasBy_1 (by decide) ?_
  obtain ⟨x1, h2, hf⟩ := bdE hf
  refine scR (rest := []) C0 (c_Model_has l D ty a3 (0 : Int32) x1 h2) k_942 cal_Model_has hK (va_P_nil) ⟨by rw [hR]; decide, by rw [hR]; decide⟩ rfl rfl rfl hl.1 rfl (Nat.le_of_ble_eq_true rfl) d_Model_hasBy_2 ⟨Nat.zero_le _, Nat.zero_le _⟩ rfl ?_
  have J42 : ∀ (x3 : Int32), f_Model_hasBy_J42 a1 a2 a3 sM sN x3 = some rr → ∀ ls : Array Slot, lv_has ls 7 [(0, .ref (mA 0)), (1, .int a1), (2, .int a2), (3, .int a3)] → W p l e R s m args below meth c s.heap [] 0 0 Q (F0 m 42 ls [.int x3]) := by
    intro x3 hf ls hl
    unfold f_Model_hasBy_J42 at hf
    refine lv_istore (lv' := [(4, .int x3), (0, .ref (mA 0)), (1, .int a1), (2, .int a2), (3, .int a3)]) hx hb d_Model_hasBy_42 hl (by decide) rfl (fun ls hl => ?_)
    refine lv_iload_n hx hb d_Model_hasBy_44 rfl (lv_at hl 4 rfl) ?_
    refine lv_iconst (v := (1 : Int32)) hx hb d_Model_hasBy_45 (by decide) ?_
    obtain ⟨x4, h5, hf⟩ := bdE hf
    refine scR (rest := []) C0 (c_Model_has l D ty a3 (1 : Int32) x4 h5) k_942 cal_Model_has hK (va_P_nil) ⟨by rw [hR]; decide, by rw [hR]; decide⟩ rfl rfl rfl hl.1 rfl (Nat.le_of_ble_eq_true rfl) d_Model_hasBy_46 ⟨Nat.zero_le _, Nat.zero_le _⟩ rfl ?_
    have J86 : ∀ (x6 : Int32), f_Model_hasBy_J86 a2 x3 x6 = some rr → ∀ ls : Array Slot, lv_has ls 7 [(2, .int a2), (4, .int x3)] → W p l e R s m args below meth c s.heap [] 0 0 Q (F0 m 86 ls [.int x6]) := by
      intro x6 hf ls hl
      unfold f_Model_hasBy_J86 at hf
      refine lv_istore (lv' := [(5, .int x6), (2, .int a2), (4, .int x3)]) hx hb d_Model_hasBy_86 hl (by decide) rfl (fun ls hl => ?_)
      refine lv_iload hx hb d_Model_hasBy_88 (lv_at hl 2 rfl) ?_
      have J119 : ∀ (x7 : Int32), f_Model_hasBy_J119 a2 x3 x6 x7 = some rr → ∀ ls : Array Slot, lv_has ls 7 [(2, .int a2), (4, .int x3), (5, .int x6)] → W p l e R s m args below meth c s.heap [] 0 0 Q (F0 m 119 ls [.int x7]) := by
        intro x7 hf ls hl
        unfold f_Model_hasBy_J119 at hf
        refine lv_istore (lv' := [(6, .int x7), (2, .int a2), (4, .int x3), (5, .int x6)]) hx hb d_Model_hasBy_119 hl (by decide) rfl (fun ls hl => ?_)
        refine lv_iload hx hb d_Model_hasBy_121 (lv_at hl 0 rfl) ?_
        refine lv_iload_n hx hb d_Model_hasBy_123 rfl (lv_at hl 1 rfl) ?_
        refine lv_icmp_eq (tgt := 131) hx hb d_Model_hasBy_124 (by decide) (fun c8 => ?_) (fun c8 => ?_)
        · replace hf := iteT c8 hf
          refine lv_iload_n hx hb d_Model_hasBy_131 rfl (lv_at hl 1 rfl) ?_
          refine lv_if_ne (tgt := 140) hx hb d_Model_hasBy_132 (by decide) (fun c9 => ?_) (fun c9 => ?_)
          · replace hf := iteF c9 hf
            refine lv_iload hx hb d_Model_hasBy_140 (lv_at hl 3 rfl) ?_
            obtain rfl := sj1 hf
            exact retR C0 (narI _) hQ d_Model_hasBy_142
          · replace hf := iteT c9 hf
            refine lv_iload hx hb d_Model_hasBy_135 (lv_at hl 2 rfl) ?_
            refine lv_goto (tgt := 142) hx hb d_Model_hasBy_137 (by decide) ?_
            obtain rfl := sj1 hf
            exact retR C0 (narI _) hQ d_Model_hasBy_142
        · replace hf := iteF c8 hf
          refine lv_iconst (v := (0 : Int32)) hx hb d_Model_hasBy_127 (by decide) ?_
          refine lv_goto (tgt := 142) hx hb d_Model_hasBy_128 (by decide) ?_
          obtain rfl := sj1 hf
          exact retR C0 (narI _) hQ d_Model_hasBy_142
      have J109 : ∀ (_ : Unit), f_Model_hasBy_J109 a2 x3 x6 = some rr → ∀ ls : Array Slot, lv_has ls 7 [(2, .int a2), (4, .int x3), (5, .int x6)] → W p l e R s m args below meth c s.heap [] 0 0 Q (F0 m 109 ls []) := by
        intro _ hf ls hl
        unfold f_Model_hasBy_J109 at hf
        refine lv_iload hx hb d_Model_hasBy_109 (lv_at hl 2 rfl) ?_
        refine lv_if_lt (tgt := 118) hx hb d_Model_hasBy_111 (by decide) (fun c10 => ?_) (fun c10 => ?_)
        · replace hf := iteT c10 hf
          refine lv_iconst (v := (-1 : Int32)) hx hb d_Model_hasBy_118 (by decide) ?_
          exact J119 (-1 : Int32) hf ls (hl)
        · replace hf := iteF c10 hf
          refine lv_iconst (v := (1 : Int32)) hx hb d_Model_hasBy_114 (by decide) ?_
          refine lv_goto (tgt := 119) hx hb d_Model_hasBy_115 (by decide) ?_
          exact J119 (1 : Int32) hf ls (hl)
      refine lv_if_lt (tgt := 109) hx hb d_Model_hasBy_90 (by decide) (fun c11 => ?_) (fun c11 => ?_)
      · replace hf := iteT c11 hf
        exact J109 () hf ls (lv_sub hl [1, 2, 0] rfl)
      · replace hf := iteF c11 hf
        refine lv_iload hx hb d_Model_hasBy_93 (lv_at hl 0 rfl) ?_
        have J105 : ∀ (_ : Unit), f_Model_hasBy_J105 a2 x3 x6 = some rr → ∀ ls : Array Slot, lv_has ls 7 [(2, .int a2), (4, .int x3), (5, .int x6)] → W p l e R s m args below meth c s.heap [] 0 0 Q (F0 m 105 ls []) := by
          intro _ hf ls hl
          unfold f_Model_hasBy_J105 at hf
          refine lv_iconst (v := (0 : Int32)) hx hb d_Model_hasBy_105 (by decide) ?_
          refine lv_goto (tgt := 119) hx hb d_Model_hasBy_106 (by decide) ?_
          exact J119 (0 : Int32) hf ls (hl)
        refine lv_if_lt (tgt := 105) hx hb d_Model_hasBy_95 (by decide) (fun c12 => ?_) (fun c12 => ?_)
        · replace hf := iteT c12 hf
          exact J105 () hf ls (lv_sub hl [1, 2, 0] rfl)
        · replace hf := iteF c12 hf
          refine lv_iload hx hb d_Model_hasBy_98 (lv_at hl 2 rfl) ?_
          refine lv_iload hx hb d_Model_hasBy_100 (lv_at hl 0 rfl) ?_
          refine lv_icmp_gt (tgt := 109) hx hb d_Model_hasBy_102 (by decide) (fun c13 => ?_) (fun c13 => ?_)
          · replace hf := iteT c13 hf
            exact J109 () hf ls (lv_sub hl [1, 2, 0] rfl)
          · replace hf := iteF c13 hf
            exact J105 () hf ls (lv_sub hl [1, 2, 0] rfl)
    have J70 : ∀ (_ : Unit), f_Model_hasBy_J70 a1 a2 sM sN x3 = some rr → ∀ ls : Array Slot, lv_has ls 7 [(0, .ref (mA 0)), (1, .int a1), (2, .int a2), (4, .int x3)] → W p l e R s m args below meth c s.heap [] 0 0 Q (F0 m 70 ls []) := by
      intro _ hf ls hl
      unfold f_Model_hasBy_J70 at hf
      refine lv_aload_n hx hb d_Model_hasBy_70 rfl (lv_at hl 0 rfl) ?_
      refine lv_iload_n hx hb d_Model_hasBy_71 rfl (lv_at hl 1 rfl) ?_
      refine lv_iconst (v := (1 : Int32)) hx hb d_Model_hasBy_72 (by decide) ?_
      refine lv_aload_n hx hb d_Model_hasBy_73 rfl (lv_at hl 0 rfl) ?_
      refine va_get (D := D) (ci := 11) (v := .ref (mA 1)) (C := "BedFrontierModel") (T := T_Model) (N := 22) hx hb htt i_Model hown hK.1 hP 0 rfl rfl 0 (by decide) (htt _ k_772) (fun _ h9 => h9) rfl d_Model_hasBy_74 ?_
      refine lv_iconst (v := (1 : Int32)) hx hb d_Model_hasBy_77 (by decide) ?_
      refine ld_iald (j := 1) hx hb hK.1 hP 1 0 rfl rfl (okI_in (by decide)) rfl d_Model_hasBy_78 ?_
      obtain ⟨x14, h15, hf⟩ := bdE hf
      refine vR (q0 := 0) (ci := 11) (rest := []) C0 (c_Model_dueIn l D ty mA sM sN a1 (1 : Int32) (sM 0 1) x14 h15) k_961 cal_Model_dueIn hK hP rfl rfl rfl ⟨by rw [hR]; decide, by rw [hR]; decide⟩ rfl rfl rfl hl.1 rfl (Nat.le_of_ble_eq_true rfl) d_Model_hasBy_79 ⟨Nat.zero_le _, Nat.zero_le _⟩ rfl ?_
      refine lv_goto (tgt := 86) hx hb d_Model_hasBy_82 (by decide) ?_
      exact J86 x14 hf ls (lv_sub hl [2, 3] rfl)
    refine lv_if_eq (tgt := 70) hx hb d_Model_hasBy_49 (by decide) (fun c16 => ?_) (fun c16 => ?_)
    · replace hf := iteT c16 hf
      exact J70 () hf ls (lv_sub hl [1, 2, 3, 0] rfl)
    · replace hf := iteF c16 hf
      refine lv_aload_n hx hb d_Model_hasBy_52 rfl (lv_at hl 1 rfl) ?_
      refine lv_iload_n hx hb d_Model_hasBy_53 rfl (lv_at hl 2 rfl) ?_
      refine lv_iconst (v := (1 : Int32)) hx hb d_Model_hasBy_54 (by decide) ?_
      refine lv_aload_n hx hb d_Model_hasBy_55 rfl (lv_at hl 1 rfl) ?_
      refine va_get (D := D) (ci := 11) (v := .ref (mA 1)) (C := "BedFrontierModel") (T := T_Model) (N := 22) hx hb htt i_Model hown hK.1 hP 0 rfl rfl 0 (by decide) (htt _ k_772) (fun _ h9 => h9) rfl d_Model_hasBy_56 ?_
      refine lv_iconst (v := (1 : Int32)) hx hb d_Model_hasBy_59 (by decide) ?_
      refine ld_iald (j := 1) hx hb hK.1 hP 1 0 rfl rfl (okI_in (by decide)) rfl d_Model_hasBy_60 ?_
      obtain ⟨x17, h18, hf⟩ := bdE hf
      refine scR (rest := [.int a1, .ref (mA 0)]) C0 (c_Model_clockOf l D ty (1 : Int32) (sM 0 1) x17 h18) k_939 cal_Model_clockOf hK (va_P_nil) ⟨by rw [hR]; decide, by rw [hR]; decide⟩ rfl rfl rfl hl.1 rfl (Nat.le_of_ble_eq_true rfl) d_Model_hasBy_61 ⟨Nat.zero_le _, Nat.zero_le _⟩ rfl ?_
      obtain ⟨x19, h20, hf⟩ := bdE hf
      refine vR (q0 := 0) (ci := 11) (rest := []) C0 (c_Model_passes l D ty mA sM sN a1 x17 x19 h20) k_945 cal_Model_passes hK hP rfl rfl rfl ⟨by rw [hR]; decide, by rw [hR]; decide⟩ rfl rfl rfl hl.1 rfl (Nat.le_of_ble_eq_true rfl) d_Model_hasBy_64 ⟨Nat.zero_le _, Nat.zero_le _⟩ rfl ?_
      refine lv_if_eq (tgt := 85) hx hb d_Model_hasBy_67 (by decide) (fun c21 => ?_) (fun c21 => ?_)
      · replace hf := iteT c21 hf
        refine lv_iconst (v := (-1 : Int32)) hx hb d_Model_hasBy_85 (by decide) ?_
        exact J86 (-1 : Int32) hf ls (lv_sub hl [3, 0] rfl)
      · replace hf := iteF c21 hf
        exact J70 () hf ls (lv_sub hl [1, 2, 3, 0] rfl)
  have J26 : ∀ (_ : Unit), f_Model_hasBy_J26 a1 a2 a3 sM sN = some rr → ∀ ls : Array Slot, lv_has ls 7 [(0, .ref (mA 0)), (1, .int a1), (2, .int a2), (3, .int a3)] → W p l e R s m args below meth c s.heap [] 0 0 Q (F0 m 26 ls []) := by
    intro _ hf ls hl
    unfold f_Model_hasBy_J26 at hf
    refine lv_aload_n hx hb d_Model_hasBy_26 rfl (lv_at hl 0 rfl) ?_
    refine lv_iload_n hx hb d_Model_hasBy_27 rfl (lv_at hl 1 rfl) ?_
    refine lv_iconst (v := (0 : Int32)) hx hb d_Model_hasBy_28 (by decide) ?_
    refine lv_aload_n hx hb d_Model_hasBy_29 rfl (lv_at hl 0 rfl) ?_
    refine va_get (D := D) (ci := 11) (v := .ref (mA 1)) (C := "BedFrontierModel") (T := T_Model) (N := 22) hx hb htt i_Model hown hK.1 hP 0 rfl rfl 0 (by decide) (htt _ k_772) (fun _ h9 => h9) rfl d_Model_hasBy_30 ?_
    refine lv_iconst (v := (1 : Int32)) hx hb d_Model_hasBy_33 (by decide) ?_
    refine ld_iald (j := 1) hx hb hK.1 hP 1 0 rfl rfl (okI_in (by decide)) rfl d_Model_hasBy_34 ?_
    obtain ⟨x22, h23, hf⟩ := bdE hf
    refine vR (q0 := 0) (ci := 11) (rest := []) C0 (c_Model_dueIn l D ty mA sM sN a1 (0 : Int32) (sM 0 1) x22 h23) k_961 cal_Model_dueIn hK hP rfl rfl rfl ⟨by rw [hR]; decide, by rw [hR]; decide⟩ rfl rfl rfl hl.1 rfl (Nat.le_of_ble_eq_true rfl) d_Model_hasBy_35 ⟨Nat.zero_le _, Nat.zero_le _⟩ rfl ?_
    refine lv_goto (tgt := 42) hx hb d_Model_hasBy_38 (by decide) ?_
    exact J42 x22 hf ls (hl)
  refine lv_if_eq (tgt := 26) hx hb d_Model_hasBy_5 (by decide) (fun c24 => ?_) (fun c24 => ?_)
  · replace hf := iteT c24 hf
    exact J26 () hf ls (hl)
  · replace hf := iteF c24 hf
    refine lv_aload_n hx hb d_Model_hasBy_8 rfl (lv_at hl 0 rfl) ?_
    refine lv_iload_n hx hb d_Model_hasBy_9 rfl (lv_at hl 1 rfl) ?_
    refine lv_iconst (v := (0 : Int32)) hx hb d_Model_hasBy_10 (by decide) ?_
    refine lv_aload_n hx hb d_Model_hasBy_11 rfl (lv_at hl 0 rfl) ?_
    refine va_get (D := D) (ci := 11) (v := .ref (mA 1)) (C := "BedFrontierModel") (T := T_Model) (N := 22) hx hb htt i_Model hown hK.1 hP 0 rfl rfl 0 (by decide) (htt _ k_772) (fun _ h9 => h9) rfl d_Model_hasBy_12 ?_
    refine lv_iconst (v := (1 : Int32)) hx hb d_Model_hasBy_15 (by decide) ?_
    refine ld_iald (j := 1) hx hb hK.1 hP 1 0 rfl rfl (okI_in (by decide)) rfl d_Model_hasBy_16 ?_
    obtain ⟨x25, h26, hf⟩ := bdE hf
    refine scR (rest := [.int a1, .ref (mA 0)]) C0 (c_Model_clockOf l D ty (0 : Int32) (sM 0 1) x25 h26) k_939 cal_Model_clockOf hK (va_P_nil) ⟨by rw [hR]; decide, by rw [hR]; decide⟩ rfl rfl rfl hl.1 rfl (Nat.le_of_ble_eq_true rfl) d_Model_hasBy_17 ⟨Nat.zero_le _, Nat.zero_le _⟩ rfl ?_
    obtain ⟨x27, h28, hf⟩ := bdE hf
    refine vR (q0 := 0) (ci := 11) (rest := []) C0 (c_Model_passes l D ty mA sM sN a1 x25 x27 h28) k_945 cal_Model_passes hK hP rfl rfl rfl ⟨by rw [hR]; decide, by rw [hR]; decide⟩ rfl rfl rfl hl.1 rfl (Nat.le_of_ble_eq_true rfl) d_Model_hasBy_20 ⟨Nat.zero_le _, Nat.zero_le _⟩ rfl ?_
    refine lv_if_eq (tgt := 41) hx hb d_Model_hasBy_23 (by decide) (fun c29 => ?_) (fun c29 => ?_)
    · replace hf := iteT c29 hf
      refine lv_iconst (v := (-1 : Int32)) hx hb d_Model_hasBy_41 (by decide) ?_
      exact J42 (-1 : Int32) hf ls (hl)
    · replace hf := iteF c29 hf
      exact J26 () hf ls (hl)
def f_Model_bars_J65 (x4 : Int32) (x5 : Int32) (K17 : Int32 × Int32 → Option (Int32 × PW × PL)) (x11 : Int32) : Option (Int32 × PW × PL) :=
  (if x11 = 0 then nm (x4 ||| (0 : Int32)) (fun x13 => nm (x5 + (1 : Int32)) (fun x14 => K17 (x13, x14))) else nm (x4 ||| ((1 : Int32) <<< (x5 &&& 31))) (fun x15 => nm (x5 + (1 : Int32)) (fun x16 => K17 (x15, x16))))
def f_Model_bars_J64 (x4 : Int32) (x5 : Int32) (K17 : Int32 × Int32 → Option (Int32 × PW × PL)) : Option (Int32 × PW × PL) :=
  f_Model_bars_J65 x4 x5 K17 (0 : Int32)
def f_Model_bars_L17 (a1 : Int32) (sM : PW) (sN : PL) (K17 : Int32 × Int32 → Option (Int32 × PW × PL)) : Int32 × Int32 → Option (Int32 × PW × PL)
  | (x4, x5) =>
  (if (4 : Int32) ≤ x5 then some (x4, sM, sN) else bd (f_Model_hasBy sM sN a1 (0 : Int32) (x5 ^^^ (1 : Int32))) (fun x7 => bd (f_Model_hasBy sM sN a1 (0 : Int32) x5) (fun x9 => (if x9 < x7 then f_Model_bars_J64 x4 x5 K17 else bd (f_Model_hasBy sM sN a1 (1 : Int32) (x5 ^^^ (2 : Int32))) (fun x18 => bd (f_Model_hasBy sM sN a1 (1 : Int32) x5) (fun x20 => (if x20 < x18 then f_Model_bars_J64 x4 x5 K17 else f_Model_bars_J65 x4 x5 K17 (1 : Int32))))))))
def f_Model_bars (sM : PW) (sN : PL) (a1 : Int32) : Option (Int32 × PW × PL) :=
  bd (f_Model_isDoing sM sN a1) (fun x1 => (if x1 = 0 then bd3 (f_Model_bad sM sN) (fun x23 sM24 sN25 => some (x23, sM24, sN25)) else loopF (f_Model_bars_L17 a1 sM sN) 4000 ((0 : Int32), (0 : Int32))))
set_option maxHeartbeats 4000000 in
set_option maxRecDepth 100000 in
theorem c_Model_bars (l : Launch) (D : va_G) (ty : Nat → ClassId) (mA : Nat → Nat) (sz : Nat) (sM : PW) (sN : PL) (a1 : Int32) (rr : Int32) (tM : PW) (tN : PL) (hf : f_Model_bars sM sN a1 = some (rr, tM, tN)) : Met l y_Model_bars (Cond.code y_Model_bars prog_13_method_52_code 5 ((Option.some FieldType.int)) :: lw_ok) { frames := 3, cells := 0, slots := 0, locals := 76 } (PcM D ty [.ref (mA 0), .int a1] sz (L_m ty mA sM sN)) (QM D (L_m ty mA tM tN) (va_A (L_m ty mA sM sN) sz) (some (.int rr))) 0 0 (va_A (L_m ty mA sM sN) sz) := by
  refine hdM (by decide) (Nat.le_of_ble_eq_true rfl) ?_
  intro p e s m below meth c ls R args Q A C0 hR hQ hnm hAq hP hK hD hS hl
  obtain ⟨hx, hb, hr, hlk, hml, hown, htt⟩ := id C0
  have hl : lv_has ls 5 [(0, .ref (mA 0)), (1, .int a1)] := hl
  generalize hH0 : s.heap = H at hP hS ⊢
  have hS : va_S A s.heap H [] := by rw [hH0]; exact hS
  unfold f_Model_bars at hf
  refine lv_aload_n hx hb d_Model_bars_0 rfl (lv_at hl 0 rfl) ?_
  refine lv_iload_n hx hb d_Model_bars_1 rfl (lv_at hl 1 rfl) ?_
  obtain ⟨x1, h2, hf⟩ := bdE hf
  refine vR (q0 := 0) (ci := 11) (rest := []) C0 (c_Model_isDoing l D ty mA sM sN a1 x1 h2) k_931 cal_Model_isDoing hK hP rfl rfl rfl ⟨by rw [hR]; decide, by rw [hR]; decide⟩ rfl rfl rfl hl.1 rfl (Nat.le_of_ble_eq_true rfl) d_Model_bars_2 ⟨Nat.zero_le _, Nat.zero_le _⟩ rfl ?_
  refine lv_if_ne (tgt := 13) hx hb d_Model_bars_5 (by decide) (fun c3 => ?_) (fun c3 => ?_)
  · replace hf := iteF c3 hf
    refine lv_iconst (v := (0 : Int32)) hx hb d_Model_bars_13 (by decide) ?_
    refine lv_istore_n (lv' := [(2, .int (0 : Int32)), (0, .ref (mA 0)), (1, .int a1)]) hx hb d_Model_bars_14 rfl hl (by decide) rfl (fun ls hl => ?_)
    refine lv_iconst (v := (0 : Int32)) hx hb d_Model_bars_15 (by decide) ?_
    refine lv_istore_n (lv' := [(3, .int (0 : Int32)), (2, .int (0 : Int32)), (0, .ref (mA 0)), (1, .int a1)]) hx hb d_Model_bars_16 rfl hl (by decide) rfl (fun ls hl => ?_)
    have B17 : ∀ (n : Nat) (x : Int32 × Int32), loopF (f_Model_bars_L17 a1 sM sN) n x = some (rr, tM, tN) → ∀ (H : Heap) (locs : List Loc) (ls : Array Slot), va_P D vwCl (L_m ty mA sM sN) H → va_D A (L_m ty mA sM sN) → va_S A s.heap H locs → lv_has ls 5 [(0, .ref (mA 0)), (1, .int a1), (2, .int (x.1)), (3, .int (x.2))] → W p l e R s m args below meth c H locs 0 0 Q (F0 m 17 ls []) := by
      refine loopW (fun (x : Int32 × Int32) => ∀ (H : Heap) (locs : List Loc) (ls : Array Slot), va_P D vwCl (L_m ty mA sM sN) H → va_D A (L_m ty mA sM sN) → va_S A s.heap H locs → lv_has ls 5 [(0, .ref (mA 0)), (1, .int a1), (2, .int (x.1)), (3, .int (x.2))] → W p l e R s m args below meth c H locs 0 0 Q (F0 m 17 ls [])) ?_
      intro K17 hK17 x hf
      obtain ⟨x4, x5⟩ := x
      rw [f_Model_bars_L17] at hf
      intro H locs ls hP hD hS hl
      have hl : lv_has ls 5 [(0, .ref (mA 0)), (1, .int a1), (2, .int x4), (3, .int x5)] := hl
      have hP : va_P D vwCl (L_m ty mA sM sN) H := hP
      have hD : va_D A (L_m ty mA sM sN) := hD
      show W p l e R s m args below meth c H locs 0 0 Q (F0 m 17 ls [])
      refine lv_iload_n hx hb d_Model_bars_17 rfl (lv_at hl 3 rfl) ?_
      refine lv_iconst (v := (4 : Int32)) hx hb d_Model_bars_18 (by decide) ?_
      refine lv_icmp_ge (tgt := 88) hx hb d_Model_bars_19 (by decide) (fun c6 => ?_) (fun c6 => ?_)
      · replace hf := iteT c6 hf
        refine lv_iload_n hx hb d_Model_bars_88 rfl (lv_at hl 2 rfl) ?_
        obtain ⟨rfl, rfl, rfl⟩ := sj3 hf
        exact retM C0 (narI _) hQ hP hD hS d_Model_bars_89
      · replace hf := iteF c6 hf
        refine lv_aload_n hx hb d_Model_bars_22 rfl (lv_at hl 0 rfl) ?_
        refine lv_iload_n hx hb d_Model_bars_23 rfl (lv_at hl 1 rfl) ?_
        refine lv_iconst (v := (0 : Int32)) hx hb d_Model_bars_24 (by decide) ?_
        refine lv_iload_n hx hb d_Model_bars_25 rfl (lv_at hl 3 rfl) ?_
        refine lv_iconst (v := (1 : Int32)) hx hb d_Model_bars_26 (by decide) ?_
        refine lv_ixor hx hb d_Model_bars_27 ?_
        obtain ⟨x7, h8, hf⟩ := bdE hf
        refine vR (q0 := 0) (ci := 11) (rest := []) C0 (c_Model_hasBy l D ty mA sM sN a1 (0 : Int32) (x5 ^^^ (1 : Int32)) x7 h8) k_1043 cal_Model_hasBy hK hP rfl rfl rfl ⟨by rw [hR]; decide, by rw [hR]; decide⟩ rfl rfl rfl hl.1 rfl (Nat.le_of_ble_eq_true rfl) d_Model_bars_28 ⟨Nat.zero_le _, Nat.zero_le _⟩ rfl ?_
        refine lv_aload_n hx hb d_Model_bars_31 rfl (lv_at hl 0 rfl) ?_
        refine lv_iload_n hx hb d_Model_bars_32 rfl (lv_at hl 1 rfl) ?_
        refine lv_iconst (v := (0 : Int32)) hx hb d_Model_bars_33 (by decide) ?_
        refine lv_iload_n hx hb d_Model_bars_34 rfl (lv_at hl 3 rfl) ?_
        obtain ⟨x9, h10, hf⟩ := bdE hf
        refine vR (q0 := 0) (ci := 11) (rest := [.int x7]) C0 (c_Model_hasBy l D ty mA sM sN a1 (0 : Int32) x5 x9 h10) k_1043 cal_Model_hasBy hK hP rfl rfl rfl ⟨by rw [hR]; decide, by rw [hR]; decide⟩ rfl rfl rfl hl.1 rfl (Nat.le_of_ble_eq_true rfl) d_Model_bars_35 ⟨Nat.zero_le _, Nat.zero_le _⟩ rfl ?_
        have J65 : ∀ (x11 : Int32), f_Model_bars_J65 x4 x5 K17 x11 = some (rr, tM, tN) → ∀ (H : Heap) (locs : List Loc) (ls : Array Slot), va_P D vwCl (L_m ty mA sM sN) H → va_D A (L_m ty mA sM sN) → va_S A s.heap H locs → lv_has ls 5 [(0, .ref (mA 0)), (1, .int a1), (2, .int x4), (3, .int x5)] → W p l e R s m args below meth c H locs 0 0 Q (F0 m 65 ls [.int x11]) := by
          intro x11 hf H locs ls hP hD hS hl
          unfold f_Model_bars_J65 at hf
          refine lv_istore (lv' := [(4, .int x11), (0, .ref (mA 0)), (1, .int a1), (2, .int x4), (3, .int x5)]) hx hb d_Model_bars_65 hl (by decide) rfl (fun ls hl => ?_)
          refine lv_iload_n hx hb d_Model_bars_67 rfl (lv_at hl 3 rfl) ?_
          refine lv_iload hx hb d_Model_bars_68 (lv_at hl 0 rfl) ?_
          refine lv_if_eq (tgt := 79) hx hb d_Model_bars_70 (by decide) (fun c12 => ?_) (fun c12 => ?_)
          · replace hf := iteT c12 hf
            refine lv_iconst (v := (0 : Int32)) hx hb d_Model_bars_79 (by decide) ?_
            refine lv_ior hx hb d_Model_bars_80 ?_
            refine lv_topi (fun x13 e_x13 => ?_)
            replace hf := nmE hf e_x13
            refine lv_istore_n (lv' := [(2, .int x13), (4, .int x11), (0, .ref (mA 0)), (1, .int a1), (3, .int x5)]) hx hb d_Model_bars_81 rfl hl (by decide) rfl (fun ls hl => ?_)
            obtain ⟨x14, e_x14⟩ : ∃ z : Int32, z = (x5 + (1 : Int32)) := ⟨_, rfl⟩
            replace hf := nmE hf e_x14
            refine lv_iinc (v := x14) (lv' := [(3, .int x14), (2, .int x13), (4, .int x11), (0, .ref (mA 0)), (1, .int a1)]) hx hb d_Model_bars_82 hl (k := 4) rfl (by rw [e_x14]; rfl) (by decide) rfl (fun ls hl => ?_)
            refine lv_goto (tgt := 17) hx hb d_Model_bars_85 (by decide) ?_
            exact hK17 (x13, x14) hf _ _ ls hP hD hS (lv_sub hl [3, 4, 1, 0] rfl)
          · replace hf := iteF c12 hf
            refine lv_iconst (v := (1 : Int32)) hx hb d_Model_bars_73 (by decide) ?_
            refine lv_iload_n hx hb d_Model_bars_74 rfl (lv_at hl 4 rfl) ?_
            refine lv_ishl hx hb d_Model_bars_75 ?_
            refine lv_goto (tgt := 80) hx hb d_Model_bars_76 (by decide) ?_
            refine lv_ior hx hb d_Model_bars_80 ?_
            refine lv_topi (fun x15 e_x15 => ?_)
            replace hf := nmE hf e_x15
            refine lv_istore_n (lv' := [(2, .int x15), (4, .int x11), (0, .ref (mA 0)), (1, .int a1), (3, .int x5)]) hx hb d_Model_bars_81 rfl hl (by decide) rfl (fun ls hl => ?_)
            obtain ⟨x16, e_x16⟩ : ∃ z : Int32, z = (x5 + (1 : Int32)) := ⟨_, rfl⟩
            replace hf := nmE hf e_x16
            refine lv_iinc (v := x16) (lv' := [(3, .int x16), (2, .int x15), (4, .int x11), (0, .ref (mA 0)), (1, .int a1)]) hx hb d_Model_bars_82 hl (k := 4) rfl (by rw [e_x16]; rfl) (by decide) rfl (fun ls hl => ?_)
            refine lv_goto (tgt := 17) hx hb d_Model_bars_85 (by decide) ?_
            exact hK17 (x15, x16) hf _ _ ls hP hD hS (lv_sub hl [3, 4, 1, 0] rfl)
        have J64 : ∀ (_ : Unit), f_Model_bars_J64 x4 x5 K17 = some (rr, tM, tN) → ∀ (H : Heap) (locs : List Loc) (ls : Array Slot), va_P D vwCl (L_m ty mA sM sN) H → va_D A (L_m ty mA sM sN) → va_S A s.heap H locs → lv_has ls 5 [(0, .ref (mA 0)), (1, .int a1), (2, .int x4), (3, .int x5)] → W p l e R s m args below meth c H locs 0 0 Q (F0 m 64 ls []) := by
          intro _ hf H locs ls hP hD hS hl
          unfold f_Model_bars_J64 at hf
          refine lv_iconst (v := (0 : Int32)) hx hb d_Model_bars_64 (by decide) ?_
          exact J65 (0 : Int32) hf _ _ ls hP hD hS (hl)
        refine lv_icmp_gt (tgt := 64) hx hb d_Model_bars_38 (by decide) (fun c17 => ?_) (fun c17 => ?_)
        · replace hf := iteT c17 hf
          exact J64 () hf _ _ ls hP hD hS (hl)
        · replace hf := iteF c17 hf
          refine lv_aload_n hx hb d_Model_bars_41 rfl (lv_at hl 0 rfl) ?_
          refine lv_iload_n hx hb d_Model_bars_42 rfl (lv_at hl 1 rfl) ?_
          refine lv_iconst (v := (1 : Int32)) hx hb d_Model_bars_43 (by decide) ?_
          refine lv_iload_n hx hb d_Model_bars_44 rfl (lv_at hl 3 rfl) ?_
          refine lv_iconst (v := (2 : Int32)) hx hb d_Model_bars_45 (by decide) ?_
          refine lv_ixor hx hb d_Model_bars_46 ?_
          obtain ⟨x18, h19, hf⟩ := bdE hf
          refine vR (q0 := 0) (ci := 11) (rest := []) C0 (c_Model_hasBy l D ty mA sM sN a1 (1 : Int32) (x5 ^^^ (2 : Int32)) x18 h19) k_1043 cal_Model_hasBy hK hP rfl rfl rfl ⟨by rw [hR]; decide, by rw [hR]; decide⟩ rfl rfl rfl hl.1 rfl (Nat.le_of_ble_eq_true rfl) d_Model_bars_47 ⟨Nat.zero_le _, Nat.zero_le _⟩ rfl ?_
          refine lv_aload_n hx hb d_Model_bars_50 rfl (lv_at hl 0 rfl) ?_
          refine lv_iload_n hx hb d_Model_bars_51 rfl (lv_at hl 1 rfl) ?_
          refine lv_iconst (v := (1 : Int32)) hx hb d_Model_bars_52 (by decide) ?_
          refine lv_iload_n hx hb d_Model_bars_53 rfl (lv_at hl 3 rfl) ?_
          obtain ⟨x20, h21, hf⟩ := bdE hf
          refine vR (q0 := 0) (ci := 11) (rest := [.int x18]) C0 (c_Model_hasBy l D ty mA sM sN a1 (1 : Int32) x5 x20 h21) k_1043 cal_Model_hasBy hK hP rfl rfl rfl ⟨by rw [hR]; decide, by rw [hR]; decide⟩ rfl rfl rfl hl.1 rfl (Nat.le_of_ble_eq_true rfl) d_Model_bars_54 ⟨Nat.zero_le _, Nat.zero_le _⟩ rfl ?_
          refine lv_icmp_gt (tgt := 64) hx hb d_Model_bars_57 (by decide) (fun c22 => ?_) (fun c22 => ?_)
          · replace hf := iteT c22 hf
            exact J64 () hf _ _ ls hP hD hS (hl)
          · replace hf := iteF c22 hf
            refine lv_iconst (v := (1 : Int32)) hx hb d_Model_bars_60 (by decide) ?_
            refine lv_goto (tgt := 65) hx hb d_Model_bars_61 (by decide) ?_
            exact J65 (1 : Int32) hf _ _ ls hP hD hS (hl)
    exact B17 4000 ((0 : Int32), (0 : Int32)) hf _ _ ls hP hD hS (lv_sub hl [2, 3, 1, 0] rfl)
  · replace hf := iteT c3 hf
    refine lv_aload_n hx hb d_Model_bars_8 rfl (lv_at hl 0 rfl) ?_
    obtain ⟨x23, sM24, sN25, h26, hf⟩ := bd3E hf
    refine vM (Lc := (L_m ty mA sM sN)) (Lc' := (L_m ty mA sM24 sN25)) (L' := (L_m ty mA sM24 sN25)) (q0 := 0) (ci := 11) (rest := []) C0 (c_Model_bad l D ty mA H.size sM sN x23 sM24 sN25 h26) k_848 cal_Model_bad hK hP hD hS hAq [0, 1, 2, 3, 4, 5, 6, 7, 8, 9, 10, 11] [] [0, 1, 2, 3, 4, 5, 6, 7, 8, 9, 10, 11] [] rfl rfl (by decide) (by decide) (by decide) (by decide) rfl rfl rfl rfl ⟨by rw [hR]; decide, by rw [hR]; decide⟩ rfl rfl rfl hl.1 rfl (Nat.le_of_ble_eq_true rfl) d_Model_bars_9 ⟨by rw [hR]; decide, by rw [hR]; decide⟩ rfl (fun H locs hP hD hS => ?_)
    obtain ⟨rfl, rfl, rfl⟩ := sj3 hf
    exact retM C0 (narI _) hQ hP hD hS d_Model_bars_12
def f_Model_note (sM : PW) (sN : PL) (a1 : Int32) (a2 : Int32) (a3 : Int32) (a4 : Int32) (a5 : Int32) : Option (Int32 × PW × PL) :=
  bd (f_Model_isDoing sM sN a1) (fun x1 => (if x1 = 0 then bd3 (f_Model_bad sM sN) (fun x4 sM5 sN6 => some (x4, sM5, sN6)) else bd (f_Model_isSide a2) (fun x8 => (if x8 = 0 then bd3 (f_Model_bad sM sN) (fun x11 sM12 sN13 => some (x11, sM12, sN13)) else bd (f_Model_isHour a3) (fun x15 => (if x15 = 0 then bd3 (f_Model_bad sM sN) (fun x18 sM19 sN20 => some (x18, sM19, sN20)) else bd (f_Model_in ((a4).toInt64) (0 : Int64) (1 : Int64)) (fun x22 => (if x22 = 0 then bd3 (f_Model_bad sM sN) (fun x25 sM26 sN27 => some (x25, sM26, sN27)) else bd (f_Model_in ((a5).toInt64) (0 : Int64) (60 : Int64)) (fun x29 => (if x29 = 0 then bd3 (f_Model_bad sM sN) (fun x49 sM50 sN51 => some (x49, sM50, sN51)) else (if (sM 0 22) = (6 : Int32) then bd3 (f_Model_full sM sN) (fun x45 sM46 sN47 => some (x45, sM46, sN47)) else nm ((23 : Int32) + ((5 : Int32) * (sM 0 22))) (fun x33 => gd (okI x33 53) (nm (up sM 0 (upd (sM 0) ((x33).toNatClampNeg) a1)) (fun sM35 => gd (okI (x33 + (1 : Int32)) 53) (nm (up sM35 0 (upd (sM35 0) (((x33 + (1 : Int32))).toNatClampNeg) a2)) (fun sM37 => gd (okI (x33 + (2 : Int32)) 53) (nm (up sM37 0 (upd (sM37 0) (((x33 + (2 : Int32))).toNatClampNeg) a3)) (fun sM39 => gd (okI (x33 + (3 : Int32)) 53) (nm (up sM39 0 (upd (sM39 0) (((x33 + (3 : Int32))).toNatClampNeg) a4)) (fun sM41 => gd (okI (x33 + (4 : Int32)) 53) (nm (up sM41 0 (upd (sM41 0) (((x33 + (4 : Int32))).toNatClampNeg) a5)) (fun sM43 => nm (up sM43 0 (upd (sM43 0) 22 ((sM43 0 22) + (1 : Int32)))) (fun sM44 => some ((sM44 0 22), sM44, sN))))))))))))))))))))))))
set_option maxHeartbeats 4000000 in
set_option maxRecDepth 100000 in
theorem c_Model_note (l : Launch) (D : va_G) (ty : Nat → ClassId) (mA : Nat → Nat) (sz : Nat) (sM : PW) (sN : PL) (a1 : Int32) (a2 : Int32) (a3 : Int32) (a4 : Int32) (a5 : Int32) (rr : Int32) (tM : PW) (tN : PL) (hf : f_Model_note sM sN a1 a2 a3 a4 a5 = some (rr, tM, tN)) : Met l y_Model_note (Cond.code y_Model_note prog_13_method_53_code 7 ((Option.some FieldType.int)) :: lw_ok) { frames := 2, cells := 0, slots := 0, locals := 46 } (PcM D ty [.ref (mA 0), .int a1, .int a2, .int a3, .int a4, .int a5] sz (L_m ty mA sM sN)) (QM D (L_m ty mA tM tN) (va_A (L_m ty mA sM sN) sz) (some (.int rr))) 0 0 (va_A (L_m ty mA sM sN) sz) := by
  refine hdM (by decide) (Nat.le_of_ble_eq_true rfl) ?_
  intro p e s m below meth c ls R args Q A C0 hR hQ hnm hAq hP hK hD hS hl
  obtain ⟨hx, hb, hr, hlk, hml, hown, htt⟩ := id C0
  have hl : lv_has ls 7 [(0, .ref (mA 0)), (1, .int a1), (2, .int a2), (3, .int a3), (4, .int a4), (5, .int a5)] := hl
  generalize hH0 : s.heap = H at hP hS ⊢
  have hS : va_S A s.heap H [] := by rw [hH0]; exact hS
  unfold f_Model_note at hf
  refine lv_aload_n hx hb d_Model_note_0 rfl (lv_at hl 0 rfl) ?_
  refine lv_iload_n hx hb d_Model_note_1 rfl (lv_at hl 1 rfl) ?_
  obtain ⟨x1, h2, hf⟩ := bdE hf
  refine vR (q0 := 0) (ci := 11) (rest := []) C0 (c_Model_isDoing l D ty mA sM sN a1 x1 h2) k_931 cal_Model_isDoing hK hP rfl rfl rfl ⟨by rw [hR]; decide, by rw [hR]; decide⟩ rfl rfl rfl hl.1 rfl (Nat.le_of_ble_eq_true rfl) d_Model_note_2 ⟨Nat.zero_le _, Nat.zero_le _⟩ rfl ?_
  refine lv_if_eq (tgt := 46) hx hb d_Model_note_5 (by decide) (fun c3 => ?_) (fun c3 => ?_)
  · replace hf := iteT c3 hf
    refine lv_aload_n hx hb d_Model_note_46 rfl (lv_at hl 0 rfl) ?_
    obtain ⟨x4, sM5, sN6, h7, hf⟩ := bd3E hf
    refine vM (Lc := (L_m ty mA sM sN)) (Lc' := (L_m ty mA sM5 sN6)) (L' := (L_m ty mA sM5 sN6)) (q0 := 0) (ci := 11) (rest := []) C0 (c_Model_bad l D ty mA H.size sM sN x4 sM5 sN6 h7) k_848 cal_Model_bad hK hP hD hS hAq [0, 1, 2, 3, 4, 5, 6, 7, 8, 9, 10, 11] [] [0, 1, 2, 3, 4, 5, 6, 7, 8, 9, 10, 11] [] rfl rfl (by decide) (by decide) (by decide) (by decide) rfl rfl rfl rfl ⟨by rw [hR]; decide, by rw [hR]; decide⟩ rfl rfl rfl hl.1 rfl (Nat.le_of_ble_eq_true rfl) d_Model_note_47 ⟨by rw [hR]; decide, by rw [hR]; decide⟩ rfl (fun H locs hP hD hS => ?_)
    obtain ⟨rfl, rfl, rfl⟩ := sj3 hf
    exact retM C0 (narI _) hQ hP hD hS d_Model_note_50
  · replace hf := iteF c3 hf
    refine lv_iload_n hx hb d_Model_note_8 rfl (lv_at hl 2 rfl) ?_
    obtain ⟨x8, h9, hf⟩ := bdE hf
    refine scR (rest := []) C0 (c_Model_isSide l D ty a2 x8 h9) k_856 cal_Model_isSide hK (va_P_nil) ⟨by rw [hR]; decide, by rw [hR]; decide⟩ rfl rfl rfl hl.1 rfl (Nat.le_of_ble_eq_true rfl) d_Model_note_9 ⟨Nat.zero_le _, Nat.zero_le _⟩ rfl ?_
    refine lv_if_eq (tgt := 46) hx hb d_Model_note_12 (by decide) (fun c10 => ?_) (fun c10 => ?_)
    · replace hf := iteT c10 hf
      refine lv_aload_n hx hb d_Model_note_46 rfl (lv_at hl 0 rfl) ?_
      obtain ⟨x11, sM12, sN13, h14, hf⟩ := bd3E hf
      refine vM (Lc := (L_m ty mA sM sN)) (Lc' := (L_m ty mA sM12 sN13)) (L' := (L_m ty mA sM12 sN13)) (q0 := 0) (ci := 11) (rest := []) C0 (c_Model_bad l D ty mA H.size sM sN x11 sM12 sN13 h14) k_848 cal_Model_bad hK hP hD hS hAq [0, 1, 2, 3, 4, 5, 6, 7, 8, 9, 10, 11] [] [0, 1, 2, 3, 4, 5, 6, 7, 8, 9, 10, 11] [] rfl rfl (by decide) (by decide) (by decide) (by decide) rfl rfl rfl rfl ⟨by rw [hR]; decide, by rw [hR]; decide⟩ rfl rfl rfl hl.1 rfl (Nat.le_of_ble_eq_true rfl) d_Model_note_47 ⟨by rw [hR]; decide, by rw [hR]; decide⟩ rfl (fun H locs hP hD hS => ?_)
      obtain ⟨rfl, rfl, rfl⟩ := sj3 hf
      exact retM C0 (narI _) hQ hP hD hS d_Model_note_50
    · replace hf := iteF c10 hf
      refine lv_iload_n hx hb d_Model_note_15 rfl (lv_at hl 3 rfl) ?_
      obtain ⟨x15, h16, hf⟩ := bdE hf
      refine scR (rest := []) C0 (c_Model_isHour l D ty a3 x15 h16) k_995 cal_Model_isHour hK (va_P_nil) ⟨by rw [hR]; decide, by rw [hR]; decide⟩ rfl rfl rfl hl.1 rfl (Nat.le_of_ble_eq_true rfl) d_Model_note_16 ⟨Nat.zero_le _, Nat.zero_le _⟩ rfl ?_
      refine lv_if_eq (tgt := 46) hx hb d_Model_note_19 (by decide) (fun c17 => ?_) (fun c17 => ?_)
      · replace hf := iteT c17 hf
        refine lv_aload_n hx hb d_Model_note_46 rfl (lv_at hl 0 rfl) ?_
        obtain ⟨x18, sM19, sN20, h21, hf⟩ := bd3E hf
        refine vM (Lc := (L_m ty mA sM sN)) (Lc' := (L_m ty mA sM19 sN20)) (L' := (L_m ty mA sM19 sN20)) (q0 := 0) (ci := 11) (rest := []) C0 (c_Model_bad l D ty mA H.size sM sN x18 sM19 sN20 h21) k_848 cal_Model_bad hK hP hD hS hAq [0, 1, 2, 3, 4, 5, 6, 7, 8, 9, 10, 11] [] [0, 1, 2, 3, 4, 5, 6, 7, 8, 9, 10, 11] [] rfl rfl (by decide) (by decide) (by decide) (by decide) rfl rfl rfl rfl ⟨by rw [hR]; decide, by rw [hR]; decide⟩ rfl rfl rfl hl.1 rfl (Nat.le_of_ble_eq_true rfl) d_Model_note_47 ⟨by rw [hR]; decide, by rw [hR]; decide⟩ rfl (fun H locs hP hD hS => ?_)
        obtain ⟨rfl, rfl, rfl⟩ := sj3 hf
        exact retM C0 (narI _) hQ hP hD hS d_Model_note_50
      · replace hf := iteF c17 hf
        refine lv_iload hx hb d_Model_note_22 (lv_at hl 4 rfl) ?_
        refine lv_i2l hx hb d_Model_note_24 rfl ?_
        refine lv_lconst (v := (0 : Int64)) hx hb d_Model_note_25 (by decide) ?_
        refine lv_lconst (v := (1 : Int64)) hx hb d_Model_note_26 (by decide) ?_
        obtain ⟨x22, h23, hf⟩ := bdE hf
        refine scR (rest := []) C0 (c_Model_in l D ty ((a4).toInt64) (0 : Int64) (1 : Int64) x22 h23) k_845 cal_Model_in hK (va_P_nil) ⟨by rw [hR]; decide, by rw [hR]; decide⟩ rfl rfl rfl hl.1 rfl (Nat.le_of_ble_eq_true rfl) d_Model_note_27 ⟨Nat.zero_le _, Nat.zero_le _⟩ rfl ?_
        refine lv_if_eq (tgt := 46) hx hb d_Model_note_30 (by decide) (fun c24 => ?_) (fun c24 => ?_)
        · replace hf := iteT c24 hf
          refine lv_aload_n hx hb d_Model_note_46 rfl (lv_at hl 0 rfl) ?_
          obtain ⟨x25, sM26, sN27, h28, hf⟩ := bd3E hf
          refine vM (Lc := (L_m ty mA sM sN)) (Lc' := (L_m ty mA sM26 sN27)) (L' := (L_m ty mA sM26 sN27)) (q0 := 0) (ci := 11) (rest := []) C0 (c_Model_bad l D ty mA H.size sM sN x25 sM26 sN27 h28) k_848 cal_Model_bad hK hP hD hS hAq [0, 1, 2, 3, 4, 5, 6, 7, 8, 9, 10, 11] [] [0, 1, 2, 3, 4, 5, 6, 7, 8, 9, 10, 11] [] rfl rfl (by decide) (by decide) (by decide) (by decide) rfl rfl rfl rfl ⟨by rw [hR]; decide, by rw [hR]; decide⟩ rfl rfl rfl hl.1 rfl (Nat.le_of_ble_eq_true rfl) d_Model_note_47 ⟨by rw [hR]; decide, by rw [hR]; decide⟩ rfl (fun H locs hP hD hS => ?_)
          obtain ⟨rfl, rfl, rfl⟩ := sj3 hf
          exact retM C0 (narI _) hQ hP hD hS d_Model_note_50
        · replace hf := iteF c24 hf
          refine lv_iload hx hb d_Model_note_33 (lv_at hl 5 rfl) ?_
          refine lv_i2l hx hb d_Model_note_35 rfl ?_
          refine lv_lconst (v := (0 : Int64)) hx hb d_Model_note_36 (by decide) ?_
          refine lv_ldc2 (v := (60 : Int64)) hx hb hown (htt _ k_1051) d_Model_note_37 ?_
          obtain ⟨x29, h30, hf⟩ := bdE hf
          refine scR (rest := []) C0 (c_Model_in l D ty ((a5).toInt64) (0 : Int64) (60 : Int64) x29 h30) k_845 cal_Model_in hK (va_P_nil) ⟨by rw [hR]; decide, by rw [hR]; decide⟩ rfl rfl rfl hl.1 rfl (Nat.le_of_ble_eq_true rfl) d_Model_note_40 ⟨Nat.zero_le _, Nat.zero_le _⟩ rfl ?_
          refine lv_if_ne (tgt := 51) hx hb d_Model_note_43 (by decide) (fun c31 => ?_) (fun c31 => ?_)
          · replace hf := iteF c31 hf
            refine lv_aload_n hx hb d_Model_note_51 rfl (lv_at hl 0 rfl) ?_
            refine va_get (D := D) (ci := 11) (v := .ref (mA 1)) (C := "BedFrontierModel") (T := T_Model) (N := 22) hx hb htt i_Model hown hK.1 hP 0 rfl rfl 0 (by decide) (htt _ k_772) (fun _ h9 => h9) rfl d_Model_note_52 ?_
            refine lv_bipush (v := (22 : Int32)) hx hb d_Model_note_55 (by decide) ?_
            refine ld_iald (j := 22) hx hb hK.1 hP 1 0 rfl rfl (okI_in (by decide)) rfl d_Model_note_57 ?_
            refine lv_bipush (v := (6 : Int32)) hx hb d_Model_note_58 (by decide) ?_
            refine lv_icmp_ne (tgt := 68) hx hb d_Model_note_60 (by decide) (fun c32 => ?_) (fun c32 => ?_)
            · replace hf := iteF c32 hf
              refine lv_bipush (v := (23 : Int32)) hx hb d_Model_note_68 (by decide) ?_
              refine lv_iconst (v := (5 : Int32)) hx hb d_Model_note_70 (by decide) ?_
              refine lv_aload_n hx hb d_Model_note_71 rfl (lv_at hl 0 rfl) ?_
              refine va_get (D := D) (ci := 11) (v := .ref (mA 1)) (C := "BedFrontierModel") (T := T_Model) (N := 22) hx hb htt i_Model hown hK.1 hP 0 rfl rfl 0 (by decide) (htt _ k_772) (fun _ h9 => h9) rfl d_Model_note_72 ?_
              refine lv_bipush (v := (22 : Int32)) hx hb d_Model_note_75 (by decide) ?_
              refine ld_iald (j := 22) hx hb hK.1 hP 1 0 rfl rfl (okI_in (by decide)) rfl d_Model_note_77 ?_
              refine lv_imul hx hb d_Model_note_78 ?_
              refine lv_iadd hx hb d_Model_note_79 ?_
              refine lv_topi (fun x33 e_x33 => ?_)
              replace hf := nmE hf e_x33
              refine lv_istore (lv' := [(6, .int x33), (0, .ref (mA 0)), (1, .int a1), (2, .int a2), (3, .int a3), (4, .int a4), (5, .int a5)]) hx hb d_Model_note_80 hl (by decide) rfl (fun ls hl => ?_)
              refine lv_aload_n hx hb d_Model_note_82 rfl (lv_at hl 1 rfl) ?_
              refine va_get (D := D) (ci := 11) (v := .ref (mA 1)) (C := "BedFrontierModel") (T := T_Model) (N := 22) hx hb htt i_Model hown hK.1 hP 0 rfl rfl 0 (by decide) (htt _ k_772) (fun _ h9 => h9) rfl d_Model_note_83 ?_
              refine lv_iload hx hb d_Model_note_86 (lv_at hl 0 rfl) ?_
              refine lv_iload_n hx hb d_Model_note_88 rfl (lv_at hl 2 rfl) ?_
              obtain ⟨g34, hf⟩ := gdE hf
              refine va_iast hx hb hK.1 hP hD hS 1 0 rfl rfl (okI_in g34) d_Model_note_89 (fun H locs hP hD hS => ?_)
              obtain ⟨sM35, e_sM35⟩ : ∃ z : PW, z = up sM 0 (upd (sM 0) ((x33).toNatClampNeg) a1) := ⟨_, rfl⟩
              replace hf := nmE hf e_sM35
              have hP : va_P D vwCl (L_m ty mA sM35 sN) H := by rw [e_sM35]; exact hP
              have hD : va_D A (L_m ty mA sM35 sN) := by rw [e_sM35]; exact hD
              refine lv_aload_n hx hb d_Model_note_90 rfl (lv_at hl 1 rfl) ?_
              refine va_get (D := D) (ci := 11) (v := .ref (mA 1)) (C := "BedFrontierModel") (T := T_Model) (N := 22) hx hb htt i_Model hown hK.1 hP 0 rfl rfl 0 (by decide) (htt _ k_772) (fun _ h9 => h9) rfl d_Model_note_91 ?_
              refine lv_iload hx hb d_Model_note_94 (lv_at hl 0 rfl) ?_
              refine lv_iconst (v := (1 : Int32)) hx hb d_Model_note_96 (by decide) ?_
              refine lv_iadd hx hb d_Model_note_97 ?_
              refine lv_iload_n hx hb d_Model_note_98 rfl (lv_at hl 3 rfl) ?_
              obtain ⟨g36, hf⟩ := gdE hf
              refine va_iast hx hb hK.1 hP hD hS 1 0 rfl rfl (okI_in g36) d_Model_note_99 (fun H locs hP hD hS => ?_)
              obtain ⟨sM37, e_sM37⟩ : ∃ z : PW, z = up sM35 0 (upd (sM35 0) (((x33 + (1 : Int32))).toNatClampNeg) a2) := ⟨_, rfl⟩
              replace hf := nmE hf e_sM37
              have hP : va_P D vwCl (L_m ty mA sM37 sN) H := by rw [e_sM37]; exact hP
              have hD : va_D A (L_m ty mA sM37 sN) := by rw [e_sM37]; exact hD
              refine lv_aload_n hx hb d_Model_note_100 rfl (lv_at hl 1 rfl) ?_
              refine va_get (D := D) (ci := 11) (v := .ref (mA 1)) (C := "BedFrontierModel") (T := T_Model) (N := 22) hx hb htt i_Model hown hK.1 hP 0 rfl rfl 0 (by decide) (htt _ k_772) (fun _ h9 => h9) rfl d_Model_note_101 ?_
              refine lv_iload hx hb d_Model_note_104 (lv_at hl 0 rfl) ?_
              refine lv_iconst (v := (2 : Int32)) hx hb d_Model_note_106 (by decide) ?_
              refine lv_iadd hx hb d_Model_note_107 ?_
              refine lv_iload_n hx hb d_Model_note_108 rfl (lv_at hl 4 rfl) ?_
              obtain ⟨g38, hf⟩ := gdE hf
              refine va_iast hx hb hK.1 hP hD hS 1 0 rfl rfl (okI_in g38) d_Model_note_109 (fun H locs hP hD hS => ?_)
              obtain ⟨sM39, e_sM39⟩ : ∃ z : PW, z = up sM37 0 (upd (sM37 0) (((x33 + (2 : Int32))).toNatClampNeg) a3) := ⟨_, rfl⟩
              replace hf := nmE hf e_sM39
              have hP : va_P D vwCl (L_m ty mA sM39 sN) H := by rw [e_sM39]; exact hP
              have hD : va_D A (L_m ty mA sM39 sN) := by rw [e_sM39]; exact hD
              refine lv_aload_n hx hb d_Model_note_110 rfl (lv_at hl 1 rfl) ?_
              refine va_get (D := D) (ci := 11) (v := .ref (mA 1)) (C := "BedFrontierModel") (T := T_Model) (N := 22) hx hb htt i_Model hown hK.1 hP 0 rfl rfl 0 (by decide) (htt _ k_772) (fun _ h9 => h9) rfl d_Model_note_111 ?_
              refine lv_iload hx hb d_Model_note_114 (lv_at hl 0 rfl) ?_
              refine lv_iconst (v := (3 : Int32)) hx hb d_Model_note_116 (by decide) ?_
              refine lv_iadd hx hb d_Model_note_117 ?_
              refine lv_iload hx hb d_Model_note_118 (lv_at hl 5 rfl) ?_
              obtain ⟨g40, hf⟩ := gdE hf
              refine va_iast hx hb hK.1 hP hD hS 1 0 rfl rfl (okI_in g40) d_Model_note_120 (fun H locs hP hD hS => ?_)
              obtain ⟨sM41, e_sM41⟩ : ∃ z : PW, z = up sM39 0 (upd (sM39 0) (((x33 + (3 : Int32))).toNatClampNeg) a4) := ⟨_, rfl⟩
              replace hf := nmE hf e_sM41
              have hP : va_P D vwCl (L_m ty mA sM41 sN) H := by rw [e_sM41]; exact hP
              have hD : va_D A (L_m ty mA sM41 sN) := by rw [e_sM41]; exact hD
              refine lv_aload_n hx hb d_Model_note_121 rfl (lv_at hl 1 rfl) ?_
              refine va_get (D := D) (ci := 11) (v := .ref (mA 1)) (C := "BedFrontierModel") (T := T_Model) (N := 22) hx hb htt i_Model hown hK.1 hP 0 rfl rfl 0 (by decide) (htt _ k_772) (fun _ h9 => h9) rfl d_Model_note_122 ?_
              refine lv_iload hx hb d_Model_note_125 (lv_at hl 0 rfl) ?_
              refine lv_iconst (v := (4 : Int32)) hx hb d_Model_note_127 (by decide) ?_
              refine lv_iadd hx hb d_Model_note_128 ?_
              refine lv_iload hx hb d_Model_note_129 (lv_at hl 6 rfl) ?_
              obtain ⟨g42, hf⟩ := gdE hf
              refine va_iast hx hb hK.1 hP hD hS 1 0 rfl rfl (okI_in g42) d_Model_note_131 (fun H locs hP hD hS => ?_)
              obtain ⟨sM43, e_sM43⟩ : ∃ z : PW, z = up sM41 0 (upd (sM41 0) (((x33 + (4 : Int32))).toNatClampNeg) a5) := ⟨_, rfl⟩
              replace hf := nmE hf e_sM43
              have hP : va_P D vwCl (L_m ty mA sM43 sN) H := by rw [e_sM43]; exact hP
              have hD : va_D A (L_m ty mA sM43 sN) := by rw [e_sM43]; exact hD
              refine lv_aload_n hx hb d_Model_note_132 rfl (lv_at hl 1 rfl) ?_
              refine va_get (D := D) (ci := 11) (v := .ref (mA 1)) (C := "BedFrontierModel") (T := T_Model) (N := 22) hx hb htt i_Model hown hK.1 hP 0 rfl rfl 0 (by decide) (htt _ k_772) (fun _ h9 => h9) rfl d_Model_note_133 ?_
              refine lv_bipush (v := (22 : Int32)) hx hb d_Model_note_136 (by decide) ?_
              refine lv_dup2_11 hx hb d_Model_note_138 rfl rfl ?_
              refine ld_iald (j := 22) hx hb hK.1 hP 1 0 rfl rfl (okI_in (by decide)) rfl d_Model_note_139 ?_
              refine lv_iconst (v := (1 : Int32)) hx hb d_Model_note_140 (by decide) ?_
              refine lv_iadd hx hb d_Model_note_141 ?_
              refine st_iast (j := 22) hx hb hK.1 hP hD hS 1 0 rfl rfl (okI_in (by decide)) rfl d_Model_note_142 (fun H locs hP hD hS => ?_)
              obtain ⟨sM44, e_sM44⟩ : ∃ z : PW, z = up sM43 0 (upd (sM43 0) 22 ((sM43 0 22) + (1 : Int32))) := ⟨_, rfl⟩
              replace hf := nmE hf e_sM44
              have hP : va_P D vwCl (L_m ty mA sM44 sN) H := by rw [e_sM44]; exact hP
              have hD : va_D A (L_m ty mA sM44 sN) := by rw [e_sM44]; exact hD
              refine lv_aload_n hx hb d_Model_note_143 rfl (lv_at hl 1 rfl) ?_
              refine va_get (D := D) (ci := 11) (v := .ref (mA 1)) (C := "BedFrontierModel") (T := T_Model) (N := 22) hx hb htt i_Model hown hK.1 hP 0 rfl rfl 0 (by decide) (htt _ k_772) (fun _ h9 => h9) rfl d_Model_note_144 ?_
              refine lv_bipush (v := (22 : Int32)) hx hb d_Model_note_147 (by decide) ?_
              refine ld_iald (j := 22) hx hb hK.1 hP 1 0 rfl rfl (okI_in (by decide)) rfl d_Model_note_149 ?_
              obtain ⟨rfl, rfl, rfl⟩ := sj3 hf
              exact retM C0 (narI _) hQ hP hD hS d_Model_note_150
            · replace hf := iteT c32 hf
              refine lv_aload_n hx hb d_Model_note_63 rfl (lv_at hl 0 rfl) ?_
              obtain ⟨x45, sM46, sN47, h48, hf⟩ := bd3E hf
              refine vM (Lc := (L_m ty mA sM sN)) (Lc' := (L_m ty mA sM46 sN47)) (L' := (L_m ty mA sM46 sN47)) (q0 := 0) (ci := 11) (rest := []) C0 (c_Model_full l D ty mA H.size sM sN x45 sM46 sN47 h48) k_870 cal_Model_full hK hP hD hS hAq [0, 1, 2, 3, 4, 5, 6, 7, 8, 9, 10, 11] [] [0, 1, 2, 3, 4, 5, 6, 7, 8, 9, 10, 11] [] rfl rfl (by decide) (by decide) (by decide) (by decide) rfl rfl rfl rfl ⟨by rw [hR]; decide, by rw [hR]; decide⟩ rfl rfl rfl hl.1 rfl (Nat.le_of_ble_eq_true rfl) d_Model_note_64 ⟨by rw [hR]; decide, by rw [hR]; decide⟩ rfl (fun H locs hP hD hS => ?_)
              obtain ⟨rfl, rfl, rfl⟩ := sj3 hf
              exact retM C0 (narI _) hQ hP hD hS d_Model_note_67
          · replace hf := iteT c31 hf
            refine lv_aload_n hx hb d_Model_note_46 rfl (lv_at hl 0 rfl) ?_
            obtain ⟨x49, sM50, sN51, h52, hf⟩ := bd3E hf
            refine vM (Lc := (L_m ty mA sM sN)) (Lc' := (L_m ty mA sM50 sN51)) (L' := (L_m ty mA sM50 sN51)) (q0 := 0) (ci := 11) (rest := []) C0 (c_Model_bad l D ty mA H.size sM sN x49 sM50 sN51 h52) k_848 cal_Model_bad hK hP hD hS hAq [0, 1, 2, 3, 4, 5, 6, 7, 8, 9, 10, 11] [] [0, 1, 2, 3, 4, 5, 6, 7, 8, 9, 10, 11] [] rfl rfl (by decide) (by decide) (by decide) (by decide) rfl rfl rfl rfl ⟨by rw [hR]; decide, by rw [hR]; decide⟩ rfl rfl rfl hl.1 rfl (Nat.le_of_ble_eq_true rfl) d_Model_note_47 ⟨by rw [hR]; decide, by rw [hR]; decide⟩ rfl (fun H locs hP hD hS => ?_)
            obtain ⟨rfl, rfl, rfl⟩ := sj3 hf
            exact retM C0 (narI _) hQ hP hD hS d_Model_note_50
def f_Model_forget (sM : PW) (sN : PL) : Option (Int32 × PW × PL) :=
  nm (sM 0 22) (fun x1 => nm (up sM 0 (upd (sM 0) 22 (0 : Int32))) (fun sM2 => some (x1, sM2, sN)))
set_option maxHeartbeats 4000000 in
set_option maxRecDepth 100000 in
theorem c_Model_forget (l : Launch) (D : va_G) (ty : Nat → ClassId) (mA : Nat → Nat) (sz : Nat) (sM : PW) (sN : PL) (rr : Int32) (tM : PW) (tN : PL) (hf : f_Model_forget sM sN = some (rr, tM, tN)) : Met l y_Model_forget (Cond.code y_Model_forget prog_13_method_54_code 2 ((Option.some FieldType.int)) :: lw_ok) { frames := 0, cells := 0, slots := 0, locals := 0 } (PcM D ty [.ref (mA 0)] sz (L_m ty mA sM sN)) (QM D (L_m ty mA tM tN) (va_A (L_m ty mA sM sN) sz) (some (.int rr))) 0 0 (va_A (L_m ty mA sM sN) sz) := by
  refine hdM (by decide) (Nat.le_of_ble_eq_true rfl) ?_
  intro p e s m below meth c ls R args Q A C0 hR hQ hnm hAq hP hK hD hS hl
  obtain ⟨hx, hb, hr, hlk, hml, hown, htt⟩ := id C0
  have hl : lv_has ls 2 [(0, .ref (mA 0))] := hl
  generalize hH0 : s.heap = H at hP hS ⊢
  have hS : va_S A s.heap H [] := by rw [hH0]; exact hS
  unfold f_Model_forget at hf
  refine lv_aload_n hx hb d_Model_forget_0 rfl (lv_at hl 0 rfl) ?_
  refine va_get (D := D) (ci := 11) (v := .ref (mA 1)) (C := "BedFrontierModel") (T := T_Model) (N := 22) hx hb htt i_Model hown hK.1 hP 0 rfl rfl 0 (by decide) (htt _ k_772) (fun _ h9 => h9) rfl d_Model_forget_1 ?_
  refine lv_bipush (v := (22 : Int32)) hx hb d_Model_forget_4 (by decide) ?_
  refine ld_iald (j := 22) hx hb hK.1 hP 1 0 rfl rfl (okI_in (by decide)) rfl d_Model_forget_6 ?_
  refine lv_topi (fun x1 e_x1 => ?_)
  replace hf := nmE hf e_x1
  refine lv_istore_n (lv' := [(1, .int x1), (0, .ref (mA 0))]) hx hb d_Model_forget_7 rfl hl (by decide) rfl (fun ls hl => ?_)
  refine lv_aload_n hx hb d_Model_forget_8 rfl (lv_at hl 1 rfl) ?_
  refine va_get (D := D) (ci := 11) (v := .ref (mA 1)) (C := "BedFrontierModel") (T := T_Model) (N := 22) hx hb htt i_Model hown hK.1 hP 0 rfl rfl 0 (by decide) (htt _ k_772) (fun _ h9 => h9) rfl d_Model_forget_9 ?_
  refine lv_bipush (v := (22 : Int32)) hx hb d_Model_forget_12 (by decide) ?_
  refine lv_iconst (v := (0 : Int32)) hx hb d_Model_forget_14 (by decide) ?_
  refine st_iast (j := 22) hx hb hK.1 hP hD hS 1 0 rfl rfl (okI_in (by decide)) rfl d_Model_forget_15 (fun H locs hP hD hS => ?_)
  obtain ⟨sM2, e_sM2⟩ : ∃ z : PW, z = up sM 0 (upd (sM 0) 22 (0 : Int32)) := ⟨_, rfl⟩
  replace hf := nmE hf e_sM2
  have hP : va_P D vwCl (L_m ty mA sM2 sN) H := by rw [e_sM2]; exact hP
  have hD : va_D A (L_m ty mA sM2 sN) := by rw [e_sM2]; exact hD
  refine lv_iload_n hx hb d_Model_forget_16 rfl (lv_at hl 0 rfl) ?_
  obtain ⟨rfl, rfl, rfl⟩ := sj3 hf
  exact retM C0 (narI _) hQ hP hD hS d_Model_forget_17
def f_Model_kindsOf_L15 (a1 : Int32) (sM : PW) (sN : PL) (x1 : Int32) (x2 : Int32) (K4 : Int32 × Int32 → Option (Int32)) (K15 : Int32 × Int32 → Option (Int32)) : Int32 × Int32 → Option (Int32)
  | (x4, x5) =>
  (if (sM 0 22) ≤ x5 then (if x4 = 0 then nm (x1 ||| (0 : Int32)) (fun x8 => nm (x2 + (1 : Int32)) (fun x9 => K4 (x8, x9))) else nm (x1 ||| ((1 : Int32) <<< (x2 &&& 31))) (fun x10 => nm (x2 + (1 : Int32)) (fun x11 => K4 (x10, x11)))) else nm ((23 : Int32) + ((5 : Int32) * x5)) (fun x12 => (if x4 = 0 then nm (x5 + (1 : Int32)) (fun x14 => K15 ((0 : Int32), x14)) else gd (okI x12 53) ((if (sM 0 (x12).toNatClampNeg) = a1 then gd (okI ((16 : Int32) + a1) 53) (gd (okI (x12 + (1 : Int32)) 53) (gd (okI (x12 + (2 : Int32)) 53) (gd (okI (x12 + (3 : Int32)) 53) (bd (f_Model_dueBy sM sN x2 (sM 0 (((16 : Int32) + a1)).toNatClampNeg) (sM 0 ((x12 + (1 : Int32))).toNatClampNeg) (sM 0 ((x12 + (2 : Int32))).toNatClampNeg) (sM 0 ((x12 + (3 : Int32))).toNatClampNeg)) (fun x22 => gd (okI (x12 + (4 : Int32)) 53) ((if x22 = (sM 0 ((x12 + (4 : Int32))).toNatClampNeg) then nm (x5 + (1 : Int32)) (fun x27 => K15 ((1 : Int32), x27)) else nm (x5 + (1 : Int32)) (fun x26 => K15 ((0 : Int32), x26))))))))) else nm (x5 + (1 : Int32)) (fun x17 => K15 ((1 : Int32), x17)))))))
def f_Model_kindsOf_L4 (a1 : Int32) (sM : PW) (sN : PL) (K4 : Int32 × Int32 → Option (Int32)) : Int32 × Int32 → Option (Int32)
  | (x1, x2) =>
  (if (5 : Int32) < x2 then some x1 else loopF (f_Model_kindsOf_L15 a1 sM sN x1 x2 K4) 4000 ((1 : Int32), (0 : Int32)))
def f_Model_kindsOf (sM : PW) (sN : PL) (a1 : Int32) : Option (Int32) :=
  loopF (f_Model_kindsOf_L4 a1 sM sN) 4000 ((0 : Int32), (0 : Int32))
set_option maxHeartbeats 4000000 in
set_option maxRecDepth 100000 in
theorem c_Model_kindsOf (l : Launch) (D : va_G) (ty : Nat → ClassId) (mA : Nat → Nat) (sM : PW) (sN : PL) (a1 : Int32) (rr : Int32) (hf : f_Model_kindsOf sM sN a1 = some rr) : Met l y_Model_kindsOf (Cond.code y_Model_kindsOf prog_13_method_55_code 7 ((Option.some FieldType.int)) :: lw_ok) { frames := 1, cells := 0, slots := 0, locals := 27 } (PcR D ty [.ref (mA 0), .int a1] (L_m ty mA sM sN)) (QR (some (.int rr))) 0 0 (fun _ => False) := by
  refine hdR (by decide) (Nat.le_of_ble_eq_true rfl) ?_
  intro p e s m below meth c ls R args Q C0 hR hQ hP hK hl
  obtain ⟨hx, hb, hr, hlk, hml, hown, htt⟩ := id C0
  have hl : lv_has ls 7 [(0, .ref (mA 0)), (1, .int a1)] := hl
  unfold f_Model_kindsOf at hf
  refine lv_iconst (v := (0 : Int32)) hx hb d_Model_kindsOf_0 (by decide) ?_
  refine lv_istore_n (lv' := [(2, .int (0 : Int32)), (0, .ref (mA 0)), (1, .int a1)]) hx hb d_Model_kindsOf_1 rfl hl (by decide) rfl (fun ls hl => ?_)
  refine lv_iconst (v := (0 : Int32)) hx hb d_Model_kindsOf_2 (by decide) ?_
  refine lv_istore_n (lv' := [(3, .int (0 : Int32)), (2, .int (0 : Int32)), (0, .ref (mA 0)), (1, .int a1)]) hx hb d_Model_kindsOf_3 rfl hl (by decide) rfl (fun ls hl => ?_)
  have B4 : ∀ (n : Nat) (x : Int32 × Int32), loopF (f_Model_kindsOf_L4 a1 sM sN) n x = some rr → ∀ ls : Array Slot, lv_has ls 7 [(0, .ref (mA 0)), (1, .int a1), (2, .int (x.1)), (3, .int (x.2))] → W p l e R s m args below meth c s.heap [] 0 0 Q (F0 m 4 ls []) := by
    refine loopW (fun (x : Int32 × Int32) => ∀ ls : Array Slot, lv_has ls 7 [(0, .ref (mA 0)), (1, .int a1), (2, .int (x.1)), (3, .int (x.2))] → W p l e R s m args below meth c s.heap [] 0 0 Q (F0 m 4 ls [])) ?_
    intro K4 hK4 x hf
    obtain ⟨x1, x2⟩ := x
    rw [f_Model_kindsOf_L4] at hf
    intro ls hl
    have hl : lv_has ls 7 [(0, .ref (mA 0)), (1, .int a1), (2, .int x1), (3, .int x2)] := hl
    show W p l e R s m args below meth c s.heap [] 0 0 Q (F0 m 4 ls [])
    refine lv_iload_n hx hb d_Model_kindsOf_4 rfl (lv_at hl 3 rfl) ?_
    refine lv_iconst (v := (5 : Int32)) hx hb d_Model_kindsOf_5 (by decide) ?_
    refine lv_icmp_gt (tgt := 139) hx hb d_Model_kindsOf_6 (by decide) (fun c3 => ?_) (fun c3 => ?_)
    · replace hf := iteT c3 hf
      refine lv_iload_n hx hb d_Model_kindsOf_139 rfl (lv_at hl 2 rfl) ?_
      obtain rfl := sj1 hf
      exact retR C0 (narI _) hQ d_Model_kindsOf_140
    · replace hf := iteF c3 hf
      refine lv_iconst (v := (1 : Int32)) hx hb d_Model_kindsOf_9 (by decide) ?_
      refine lv_istore (lv' := [(4, .int (1 : Int32)), (0, .ref (mA 0)), (1, .int a1), (2, .int x1), (3, .int x2)]) hx hb d_Model_kindsOf_10 hl (by decide) rfl (fun ls hl => ?_)
      refine lv_iconst (v := (0 : Int32)) hx hb d_Model_kindsOf_12 (by decide) ?_
      refine lv_istore (lv' := [(5, .int (0 : Int32)), (4, .int (1 : Int32)), (0, .ref (mA 0)), (1, .int a1), (2, .int x1), (3, .int x2)]) hx hb d_Model_kindsOf_13 hl (by decide) rfl (fun ls hl => ?_)
      have B15 : ∀ (n : Nat) (x : Int32 × Int32), loopF (f_Model_kindsOf_L15 a1 sM sN x1 x2 K4) n x = some rr → ∀ ls : Array Slot, lv_has ls 7 [(0, .ref (mA 0)), (1, .int a1), (2, .int x1), (3, .int x2), (4, .int (x.1)), (5, .int (x.2))] → W p l e R s m args below meth c s.heap [] 0 0 Q (F0 m 15 ls []) := by
        refine loopW (fun (x : Int32 × Int32) => ∀ ls : Array Slot, lv_has ls 7 [(0, .ref (mA 0)), (1, .int a1), (2, .int x1), (3, .int x2), (4, .int (x.1)), (5, .int (x.2))] → W p l e R s m args below meth c s.heap [] 0 0 Q (F0 m 15 ls [])) ?_
        intro K15 hK15 x hf
        obtain ⟨x4, x5⟩ := x
        rw [f_Model_kindsOf_L15] at hf
        intro ls hl
        have hl : lv_has ls 7 [(0, .ref (mA 0)), (1, .int a1), (2, .int x1), (3, .int x2), (4, .int x4), (5, .int x5)] := hl
        show W p l e R s m args below meth c s.heap [] 0 0 Q (F0 m 15 ls [])
        refine lv_iload hx hb d_Model_kindsOf_15 (lv_at hl 5 rfl) ?_
        refine lv_aload_n hx hb d_Model_kindsOf_17 rfl (lv_at hl 0 rfl) ?_
        refine va_get (D := D) (ci := 11) (v := .ref (mA 1)) (C := "BedFrontierModel") (T := T_Model) (N := 22) hx hb htt i_Model hown hK.1 hP 0 rfl rfl 0 (by decide) (htt _ k_772) (fun _ h9 => h9) rfl d_Model_kindsOf_18 ?_
        refine lv_bipush (v := (22 : Int32)) hx hb d_Model_kindsOf_21 (by decide) ?_
        refine ld_iald (j := 22) hx hb hK.1 hP 1 0 rfl rfl (okI_in (by decide)) rfl d_Model_kindsOf_23 ?_
        refine lv_icmp_ge (tgt := 118) hx hb d_Model_kindsOf_24 (by decide) (fun c6 => ?_) (fun c6 => ?_)
        · replace hf := iteT c6 hf
          refine lv_iload_n hx hb d_Model_kindsOf_118 rfl (lv_at hl 2 rfl) ?_
          refine lv_iload hx hb d_Model_kindsOf_119 (lv_at hl 4 rfl) ?_
          refine lv_if_eq (tgt := 130) hx hb d_Model_kindsOf_121 (by decide) (fun c7 => ?_) (fun c7 => ?_)
          · replace hf := iteT c7 hf
            refine lv_iconst (v := (0 : Int32)) hx hb d_Model_kindsOf_130 (by decide) ?_
            refine lv_ior hx hb d_Model_kindsOf_131 ?_
            refine lv_topi (fun x8 e_x8 => ?_)
            replace hf := nmE hf e_x8
            refine lv_istore_n (lv' := [(2, .int x8), (0, .ref (mA 0)), (1, .int a1), (3, .int x2), (4, .int x4), (5, .int x5)]) hx hb d_Model_kindsOf_132 rfl hl (by decide) rfl (fun ls hl => ?_)
            obtain ⟨x9, e_x9⟩ : ∃ z : Int32, z = (x2 + (1 : Int32)) := ⟨_, rfl⟩
            replace hf := nmE hf e_x9
            refine lv_iinc (v := x9) (lv' := [(3, .int x9), (2, .int x8), (0, .ref (mA 0)), (1, .int a1), (4, .int x4), (5, .int x5)]) hx hb d_Model_kindsOf_133 hl (k := 3) rfl (by rw [e_x9]; rfl) (by decide) rfl (fun ls hl => ?_)
            refine lv_goto (tgt := 4) hx hb d_Model_kindsOf_136 (by decide) ?_
            exact hK4 (x8, x9) hf ls (lv_sub hl [2, 3, 1, 0] rfl)
          · replace hf := iteF c7 hf
            refine lv_iconst (v := (1 : Int32)) hx hb d_Model_kindsOf_124 (by decide) ?_
            refine lv_iload_n hx hb d_Model_kindsOf_125 rfl (lv_at hl 3 rfl) ?_
            refine lv_ishl hx hb d_Model_kindsOf_126 ?_
            refine lv_goto (tgt := 131) hx hb d_Model_kindsOf_127 (by decide) ?_
            refine lv_ior hx hb d_Model_kindsOf_131 ?_
            refine lv_topi (fun x10 e_x10 => ?_)
            replace hf := nmE hf e_x10
            refine lv_istore_n (lv' := [(2, .int x10), (0, .ref (mA 0)), (1, .int a1), (3, .int x2), (4, .int x4), (5, .int x5)]) hx hb d_Model_kindsOf_132 rfl hl (by decide) rfl (fun ls hl => ?_)
            obtain ⟨x11, e_x11⟩ : ∃ z : Int32, z = (x2 + (1 : Int32)) := ⟨_, rfl⟩
            replace hf := nmE hf e_x11
            refine lv_iinc (v := x11) (lv' := [(3, .int x11), (2, .int x10), (0, .ref (mA 0)), (1, .int a1), (4, .int x4), (5, .int x5)]) hx hb d_Model_kindsOf_133 hl (k := 3) rfl (by rw [e_x11]; rfl) (by decide) rfl (fun ls hl => ?_)
            refine lv_goto (tgt := 4) hx hb d_Model_kindsOf_136 (by decide) ?_
            exact hK4 (x10, x11) hf ls (lv_sub hl [2, 3, 1, 0] rfl)
        · replace hf := iteF c6 hf
          refine lv_bipush (v := (23 : Int32)) hx hb d_Model_kindsOf_27 (by decide) ?_
          refine lv_iconst (v := (5 : Int32)) hx hb d_Model_kindsOf_29 (by decide) ?_
          refine lv_iload hx hb d_Model_kindsOf_30 (lv_at hl 5 rfl) ?_
          refine lv_imul hx hb d_Model_kindsOf_32 ?_
          refine lv_iadd hx hb d_Model_kindsOf_33 ?_
          refine lv_topi (fun x12 e_x12 => ?_)
          replace hf := nmE hf e_x12
          refine lv_istore (lv' := [(6, .int x12), (0, .ref (mA 0)), (1, .int a1), (2, .int x1), (3, .int x2), (4, .int x4), (5, .int x5)]) hx hb d_Model_kindsOf_34 hl (by decide) rfl (fun ls hl => ?_)
          refine lv_iload hx hb d_Model_kindsOf_36 (lv_at hl 5 rfl) ?_
          refine lv_if_eq (tgt := 109) hx hb d_Model_kindsOf_38 (by decide) (fun c13 => ?_) (fun c13 => ?_)
          · replace hf := iteT c13 hf
            refine lv_iconst (v := (0 : Int32)) hx hb d_Model_kindsOf_109 (by decide) ?_
            refine lv_istore (lv' := [(4, .int (0 : Int32)), (6, .int x12), (0, .ref (mA 0)), (1, .int a1), (2, .int x1), (3, .int x2), (5, .int x5)]) hx hb d_Model_kindsOf_110 hl (by decide) rfl (fun ls hl => ?_)
            obtain ⟨x14, e_x14⟩ : ∃ z : Int32, z = (x5 + (1 : Int32)) := ⟨_, rfl⟩
            replace hf := nmE hf e_x14
            refine lv_iinc (v := x14) (lv' := [(5, .int x14), (4, .int (0 : Int32)), (6, .int x12), (0, .ref (mA 0)), (1, .int a1), (2, .int x1), (3, .int x2)]) hx hb d_Model_kindsOf_112 hl (k := 6) rfl (by rw [e_x14]; rfl) (by decide) rfl (fun ls hl => ?_)
            refine lv_goto (tgt := 15) hx hb d_Model_kindsOf_115 (by decide) ?_
            exact hK15 ((0 : Int32), x14) hf ls (lv_sub hl [3, 4, 5, 6, 1, 0] rfl)
          · replace hf := iteF c13 hf
            refine lv_aload_n hx hb d_Model_kindsOf_41 rfl (lv_at hl 1 rfl) ?_
            refine va_get (D := D) (ci := 11) (v := .ref (mA 1)) (C := "BedFrontierModel") (T := T_Model) (N := 22) hx hb htt i_Model hown hK.1 hP 0 rfl rfl 0 (by decide) (htt _ k_772) (fun _ h9 => h9) rfl d_Model_kindsOf_42 ?_
            refine lv_iload hx hb d_Model_kindsOf_45 (lv_at hl 0 rfl) ?_
            obtain ⟨g15, hf⟩ := gdE hf
            refine va_iald hx hb hK.1 hP 1 0 rfl rfl (okI_in g15) d_Model_kindsOf_47 ?_
            refine lv_iload_n hx hb d_Model_kindsOf_48 rfl (lv_at hl 2 rfl) ?_
            refine lv_icmp_ne (tgt := 105) hx hb d_Model_kindsOf_49 (by decide) (fun c16 => ?_) (fun c16 => ?_)
            · replace hf := iteF c16 hf
              refine lv_iconst (v := (1 : Int32)) hx hb d_Model_kindsOf_105 (by decide) ?_
              refine lv_goto (tgt := 110) hx hb d_Model_kindsOf_106 (by decide) ?_
              refine lv_istore (lv' := [(4, .int (1 : Int32)), (6, .int x12), (0, .ref (mA 0)), (1, .int a1), (2, .int x1), (3, .int x2), (5, .int x5)]) hx hb d_Model_kindsOf_110 hl (by decide) rfl (fun ls hl => ?_)
              obtain ⟨x17, e_x17⟩ : ∃ z : Int32, z = (x5 + (1 : Int32)) := ⟨_, rfl⟩
              replace hf := nmE hf e_x17
              refine lv_iinc (v := x17) (lv' := [(5, .int x17), (4, .int (1 : Int32)), (6, .int x12), (0, .ref (mA 0)), (1, .int a1), (2, .int x1), (3, .int x2)]) hx hb d_Model_kindsOf_112 hl (k := 6) rfl (by rw [e_x17]; rfl) (by decide) rfl (fun ls hl => ?_)
              refine lv_goto (tgt := 15) hx hb d_Model_kindsOf_115 (by decide) ?_
              exact hK15 ((1 : Int32), x17) hf ls (lv_sub hl [3, 4, 5, 6, 1, 0] rfl)
            · replace hf := iteT c16 hf
              refine lv_aload_n hx hb d_Model_kindsOf_52 rfl (lv_at hl 1 rfl) ?_
              refine lv_iload_n hx hb d_Model_kindsOf_53 rfl (lv_at hl 4 rfl) ?_
              refine lv_aload_n hx hb d_Model_kindsOf_54 rfl (lv_at hl 1 rfl) ?_
              refine va_get (D := D) (ci := 11) (v := .ref (mA 1)) (C := "BedFrontierModel") (T := T_Model) (N := 22) hx hb htt i_Model hown hK.1 hP 0 rfl rfl 0 (by decide) (htt _ k_772) (fun _ h9 => h9) rfl d_Model_kindsOf_55 ?_
              refine lv_bipush (v := (16 : Int32)) hx hb d_Model_kindsOf_58 (by decide) ?_
              refine lv_iload_n hx hb d_Model_kindsOf_60 rfl (lv_at hl 2 rfl) ?_
              refine lv_iadd hx hb d_Model_kindsOf_61 ?_
              obtain ⟨g18, hf⟩ := gdE hf
              refine va_iald hx hb hK.1 hP 1 0 rfl rfl (okI_in g18) d_Model_kindsOf_62 ?_
              refine lv_aload_n hx hb d_Model_kindsOf_63 rfl (lv_at hl 1 rfl) ?_
              refine va_get (D := D) (ci := 11) (v := .ref (mA 1)) (C := "BedFrontierModel") (T := T_Model) (N := 22) hx hb htt i_Model hown hK.1 hP 0 rfl rfl 0 (by decide) (htt _ k_772) (fun _ h9 => h9) rfl d_Model_kindsOf_64 ?_
              refine lv_iload hx hb d_Model_kindsOf_67 (lv_at hl 0 rfl) ?_
              refine lv_iconst (v := (1 : Int32)) hx hb d_Model_kindsOf_69 (by decide) ?_
              refine lv_iadd hx hb d_Model_kindsOf_70 ?_
              obtain ⟨g19, hf⟩ := gdE hf
              refine va_iald hx hb hK.1 hP 1 0 rfl rfl (okI_in g19) d_Model_kindsOf_71 ?_
              refine lv_aload_n hx hb d_Model_kindsOf_72 rfl (lv_at hl 1 rfl) ?_
              refine va_get (D := D) (ci := 11) (v := .ref (mA 1)) (C := "BedFrontierModel") (T := T_Model) (N := 22) hx hb htt i_Model hown hK.1 hP 0 rfl rfl 0 (by decide) (htt _ k_772) (fun _ h9 => h9) rfl d_Model_kindsOf_73 ?_
              refine lv_iload hx hb d_Model_kindsOf_76 (lv_at hl 0 rfl) ?_
              refine lv_iconst (v := (2 : Int32)) hx hb d_Model_kindsOf_78 (by decide) ?_
              refine lv_iadd hx hb d_Model_kindsOf_79 ?_
              obtain ⟨g20, hf⟩ := gdE hf
              refine va_iald hx hb hK.1 hP 1 0 rfl rfl (okI_in g20) d_Model_kindsOf_80 ?_
              refine lv_aload_n hx hb d_Model_kindsOf_81 rfl (lv_at hl 1 rfl) ?_
              refine va_get (D := D) (ci := 11) (v := .ref (mA 1)) (C := "BedFrontierModel") (T := T_Model) (N := 22) hx hb htt i_Model hown hK.1 hP 0 rfl rfl 0 (by decide) (htt _ k_772) (fun _ h9 => h9) rfl d_Model_kindsOf_82 ?_
              refine lv_iload hx hb d_Model_kindsOf_85 (lv_at hl 0 rfl) ?_
              refine lv_iconst (v := (3 : Int32)) hx hb d_Model_kindsOf_87 (by decide) ?_
              refine lv_iadd hx hb d_Model_kindsOf_88 ?_
              obtain ⟨g21, hf⟩ := gdE hf
              refine va_iald hx hb hK.1 hP 1 0 rfl rfl (okI_in g21) d_Model_kindsOf_89 ?_
              obtain ⟨x22, h23, hf⟩ := bdE hf
              refine vR (q0 := 0) (ci := 11) (rest := []) C0 (c_Model_dueBy l D ty mA sM sN x2 (sM 0 (((16 : Int32) + a1)).toNatClampNeg) (sM 0 ((x12 + (1 : Int32))).toNatClampNeg) (sM 0 ((x12 + (2 : Int32))).toNatClampNeg) (sM 0 ((x12 + (3 : Int32))).toNatClampNeg) x22 h23) k_965 cal_Model_dueBy hK hP rfl rfl rfl ⟨by rw [hR]; decide, by rw [hR]; decide⟩ rfl rfl rfl hl.1 rfl (Nat.le_of_ble_eq_true rfl) d_Model_kindsOf_90 ⟨Nat.zero_le _, Nat.zero_le _⟩ rfl ?_
              refine lv_aload_n hx hb d_Model_kindsOf_93 rfl (lv_at hl 1 rfl) ?_
              refine va_get (D := D) (ci := 11) (v := .ref (mA 1)) (C := "BedFrontierModel") (T := T_Model) (N := 22) hx hb htt i_Model hown hK.1 hP 0 rfl rfl 0 (by decide) (htt _ k_772) (fun _ h9 => h9) rfl d_Model_kindsOf_94 ?_
              refine lv_iload hx hb d_Model_kindsOf_97 (lv_at hl 0 rfl) ?_
              refine lv_iconst (v := (4 : Int32)) hx hb d_Model_kindsOf_99 (by decide) ?_
              refine lv_iadd hx hb d_Model_kindsOf_100 ?_
              obtain ⟨g24, hf⟩ := gdE hf
              refine va_iald hx hb hK.1 hP 1 0 rfl rfl (okI_in g24) d_Model_kindsOf_101 ?_
              refine lv_icmp_ne (tgt := 109) hx hb d_Model_kindsOf_102 (by decide) (fun c25 => ?_) (fun c25 => ?_)
              · replace hf := iteF c25 hf
                refine lv_iconst (v := (0 : Int32)) hx hb d_Model_kindsOf_109 (by decide) ?_
                refine lv_istore (lv' := [(4, .int (0 : Int32)), (6, .int x12), (0, .ref (mA 0)), (1, .int a1), (2, .int x1), (3, .int x2), (5, .int x5)]) hx hb d_Model_kindsOf_110 hl (by decide) rfl (fun ls hl => ?_)
                obtain ⟨x26, e_x26⟩ : ∃ z : Int32, z = (x5 + (1 : Int32)) := ⟨_, rfl⟩
                replace hf := nmE hf e_x26
                refine lv_iinc (v := x26) (lv' := [(5, .int x26), (4, .int (0 : Int32)), (6, .int x12), (0, .ref (mA 0)), (1, .int a1), (2, .int x1), (3, .int x2)]) hx hb d_Model_kindsOf_112 hl (k := 6) rfl (by rw [e_x26]; rfl) (by decide) rfl (fun ls hl => ?_)
                refine lv_goto (tgt := 15) hx hb d_Model_kindsOf_115 (by decide) ?_
                exact hK15 ((0 : Int32), x26) hf ls (lv_sub hl [3, 4, 5, 6, 1, 0] rfl)
              · replace hf := iteT c25 hf
                refine lv_iconst (v := (1 : Int32)) hx hb d_Model_kindsOf_105 (by decide) ?_
                refine lv_goto (tgt := 110) hx hb d_Model_kindsOf_106 (by decide) ?_
                refine lv_istore (lv' := [(4, .int (1 : Int32)), (6, .int x12), (0, .ref (mA 0)), (1, .int a1), (2, .int x1), (3, .int x2), (5, .int x5)]) hx hb d_Model_kindsOf_110 hl (by decide) rfl (fun ls hl => ?_)
                obtain ⟨x27, e_x27⟩ : ∃ z : Int32, z = (x5 + (1 : Int32)) := ⟨_, rfl⟩
                replace hf := nmE hf e_x27
                refine lv_iinc (v := x27) (lv' := [(5, .int x27), (4, .int (1 : Int32)), (6, .int x12), (0, .ref (mA 0)), (1, .int a1), (2, .int x1), (3, .int x2)]) hx hb d_Model_kindsOf_112 hl (k := 6) rfl (by rw [e_x27]; rfl) (by decide) rfl (fun ls hl => ?_)
                refine lv_goto (tgt := 15) hx hb d_Model_kindsOf_115 (by decide) ?_
                exact hK15 ((1 : Int32), x27) hf ls (lv_sub hl [3, 4, 5, 6, 1, 0] rfl)
      exact B15 4000 ((1 : Int32), (0 : Int32)) hf ls (lv_sub hl [2, 3, 4, 5, 1, 0] rfl)
  exact B4 4000 ((0 : Int32), (0 : Int32)) hf ls (lv_sub hl [2, 3, 1, 0] rfl)
def f_Model_is (sM : PW) (sN : PL) (a1 : Int32) : Option (Int32 × PW × PL) :=
  bd (f_Model_isDoing sM sN a1) (fun x1 => (if x1 = 0 then bd3 (f_Model_bad sM sN) (fun x4 sM5 sN6 => some (x4, sM5, sN6)) else bd (f_Model_kindsOf sM sN a1) (fun x8 => some (x8, sM, sN))))
set_option maxHeartbeats 4000000 in
set_option maxRecDepth 100000 in
theorem c_Model_is (l : Launch) (D : va_G) (ty : Nat → ClassId) (mA : Nat → Nat) (sz : Nat) (sM : PW) (sN : PL) (a1 : Int32) (rr : Int32) (tM : PW) (tN : PL) (hf : f_Model_is sM sN a1 = some (rr, tM, tN)) : Met l y_Model_is (Cond.code y_Model_is prog_13_method_56_code 2 ((Option.some FieldType.int)) :: lw_ok) { frames := 2, cells := 0, slots := 0, locals := 53 } (PcM D ty [.ref (mA 0), .int a1] sz (L_m ty mA sM sN)) (QM D (L_m ty mA tM tN) (va_A (L_m ty mA sM sN) sz) (some (.int rr))) 0 0 (va_A (L_m ty mA sM sN) sz) := by
  refine hdM (by decide) (Nat.le_of_ble_eq_true rfl) ?_
  intro p e s m below meth c ls R args Q A C0 hR hQ hnm hAq hP hK hD hS hl
  obtain ⟨hx, hb, hr, hlk, hml, hown, htt⟩ := id C0
  have hl : lv_has ls 2 [(0, .ref (mA 0)), (1, .int a1)] := hl
  generalize hH0 : s.heap = H at hP hS ⊢
  have hS : va_S A s.heap H [] := by rw [hH0]; exact hS
  unfold f_Model_is at hf
  refine lv_aload_n hx hb d_Model_is_0 rfl (lv_at hl 0 rfl) ?_
  refine lv_iload_n hx hb d_Model_is_1 rfl (lv_at hl 1 rfl) ?_
  obtain ⟨x1, h2, hf⟩ := bdE hf
  refine vR (q0 := 0) (ci := 11) (rest := []) C0 (c_Model_isDoing l D ty mA sM sN a1 x1 h2) k_931 cal_Model_isDoing hK hP rfl rfl rfl ⟨by rw [hR]; decide, by rw [hR]; decide⟩ rfl rfl rfl hl.1 rfl (Nat.le_of_ble_eq_true rfl) d_Model_is_2 ⟨Nat.zero_le _, Nat.zero_le _⟩ rfl ?_
  refine lv_if_eq (tgt := 16) hx hb d_Model_is_5 (by decide) (fun c3 => ?_) (fun c3 => ?_)
  · replace hf := iteT c3 hf
    refine lv_aload_n hx hb d_Model_is_16 rfl (lv_at hl 0 rfl) ?_
    obtain ⟨x4, sM5, sN6, h7, hf⟩ := bd3E hf
    refine vM (Lc := (L_m ty mA sM sN)) (Lc' := (L_m ty mA sM5 sN6)) (L' := (L_m ty mA sM5 sN6)) (q0 := 0) (ci := 11) (rest := []) C0 (c_Model_bad l D ty mA H.size sM sN x4 sM5 sN6 h7) k_848 cal_Model_bad hK hP hD hS hAq [0, 1, 2, 3, 4, 5, 6, 7, 8, 9, 10, 11] [] [0, 1, 2, 3, 4, 5, 6, 7, 8, 9, 10, 11] [] rfl rfl (by decide) (by decide) (by decide) (by decide) rfl rfl rfl rfl ⟨by rw [hR]; decide, by rw [hR]; decide⟩ rfl rfl rfl hl.1 rfl (Nat.le_of_ble_eq_true rfl) d_Model_is_17 ⟨by rw [hR]; decide, by rw [hR]; decide⟩ rfl (fun H locs hP hD hS => ?_)
    obtain ⟨rfl, rfl, rfl⟩ := sj3 hf
    exact retM C0 (narI _) hQ hP hD hS d_Model_is_20
  · replace hf := iteF c3 hf
    refine lv_aload_n hx hb d_Model_is_8 rfl (lv_at hl 0 rfl) ?_
    refine lv_iload_n hx hb d_Model_is_9 rfl (lv_at hl 1 rfl) ?_
    obtain ⟨x8, h9, hf⟩ := bdE hf
    refine vR (q0 := 0) (ci := 11) (rest := []) C0 (c_Model_kindsOf l D ty mA sM sN a1 x8 h9) k_1060 cal_Model_kindsOf hK hP rfl rfl rfl ⟨by rw [hR]; decide, by rw [hR]; decide⟩ rfl rfl rfl hl.1 rfl (Nat.le_of_ble_eq_true rfl) d_Model_is_10 ⟨Nat.zero_le _, Nat.zero_le _⟩ rfl ?_
    refine lv_goto (tgt := 20) hx hb d_Model_is_13 (by decide) ?_
    obtain ⟨rfl, rfl, rfl⟩ := sj3 hf
    exact retM C0 (narI _) hQ hP hD hS d_Model_is_20
def f_Model_partBy_J70 (a1 : Int32) (x2 : Int32) (x4 : Int32) (x5 : Int32) (K18 : Int32 × Int32 → Option (Int32)) (x16 : Int32) : Option (Int32) :=
  bd (f_Model_has a1 x2) (fun x17 => (if x17 = 0 then nm (x4 + (0 : Int32)) (fun x20 => nm (x5 + (1 : Int32)) (fun x21 => K18 (x20, x21))) else bd (f_Model_has a1 x5) (fun x22 => (if x22 = 0 then nm (x4 + (0 : Int32)) (fun x25 => nm (x5 + (1 : Int32)) (fun x26 => K18 (x25, x26))) else (if x16 = 0 then nm (x4 + (0 : Int32)) (fun x28 => nm (x5 + (1 : Int32)) (fun x29 => K18 (x28, x29))) else nm (x4 + (1 : Int32)) (fun x30 => nm (x5 + (1 : Int32)) (fun x31 => K18 (x30, x31))))))))
def f_Model_partBy_L18 (a1 : Int32) (a2 : Int32) (a3 : Int32) (a4 : Int32) (sM : PW) (sN : PL) (x1 : Int32) (x2 : Int32) (K6 : Int32 × Int32 → Option (Int32)) (K18 : Int32 × Int32 → Option (Int32)) : Int32 × Int32 → Option (Int32)
  | (x4, x5) =>
  (if (5 : Int32) < x5 then (if x4 ≤ x1 then nm (x2 + (1 : Int32)) (fun x8 => K6 (x1, x8)) else nm (x2 + (1 : Int32)) (fun x9 => K6 (x4, x9))) else gd (okI ((16 : Int32) + a2) 53) (bd (f_Model_dueBy sM sN x2 (sM 0 (((16 : Int32) + a2)).toNatClampNeg) a3 a4 (0 : Int32)) (fun x11 => gd (okI ((16 : Int32) + a2) 53) (bd (f_Model_dueBy sM sN x5 (sM 0 (((16 : Int32) + a2)).toNatClampNeg) a3 a4 (0 : Int32)) (fun x14 => (if x11 = x14 then f_Model_partBy_J70 a1 x2 x4 x5 K18 (1 : Int32) else f_Model_partBy_J70 a1 x2 x4 x5 K18 (0 : Int32)))))))
def f_Model_partBy_L6 (a1 : Int32) (a2 : Int32) (a3 : Int32) (a4 : Int32) (sM : PW) (sN : PL) (K6 : Int32 × Int32 → Option (Int32)) : Int32 × Int32 → Option (Int32)
  | (x1, x2) =>
  (if (5 : Int32) < x2 then some x1 else loopF (f_Model_partBy_L18 a1 a2 a3 a4 sM sN x1 x2 K6) 4000 ((0 : Int32), (0 : Int32)))
def f_Model_partBy (sM : PW) (sN : PL) (a1 : Int32) (a2 : Int32) (a3 : Int32) (a4 : Int32) : Option (Int32) :=
  loopF (f_Model_partBy_L6 a1 a2 a3 a4 sM sN) 4000 ((0 : Int32), (0 : Int32))
set_option maxHeartbeats 4000000 in
set_option maxRecDepth 100000 in
theorem c_Model_partBy (l : Launch) (D : va_G) (ty : Nat → ClassId) (mA : Nat → Nat) (sM : PW) (sN : PL) (a1 : Int32) (a2 : Int32) (a3 : Int32) (a4 : Int32) (rr : Int32) (hf : f_Model_partBy sM sN a1 a2 a3 a4 = some rr) : Met l y_Model_partBy (Cond.code y_Model_partBy prog_13_method_57_code 10 ((Option.some FieldType.int)) :: lw_ok) { frames := 1, cells := 0, slots := 0, locals := 27 } (PcR D ty [.ref (mA 0), .int a1, .int a2, .int a3, .int a4] (L_m ty mA sM sN)) (QR (some (.int rr))) 0 0 (fun _ => False) := by
  refine hdR (by decide) (Nat.le_of_ble_eq_true rfl) ?_
  intro p e s m below meth c ls R args Q C0 hR hQ hP hK hl
  obtain ⟨hx, hb, hr, hlk, hml, hown, htt⟩ := id C0
  have hl : lv_has ls 10 [(0, .ref (mA 0)), (1, .int a1), (2, .int a2), (3, .int a3), (4, .int a4)] := hl
  unfold f_Model_partBy at hf
  refine lv_iconst (v := (0 : Int32)) hx hb d_Model_partBy_0 (by decide) ?_
  refine lv_istore (lv' := [(5, .int (0 : Int32)), (0, .ref (mA 0)), (1, .int a1), (2, .int a2), (3, .int a3), (4, .int a4)]) hx hb d_Model_partBy_1 hl (by decide) rfl (fun ls hl => ?_)
  refine lv_iconst (v := (0 : Int32)) hx hb d_Model_partBy_3 (by decide) ?_
  refine lv_istore (lv' := [(6, .int (0 : Int32)), (5, .int (0 : Int32)), (0, .ref (mA 0)), (1, .int a1), (2, .int a2), (3, .int a3), (4, .int a4)]) hx hb d_Model_partBy_4 hl (by decide) rfl (fun ls hl => ?_)
  have B6 : ∀ (n : Nat) (x : Int32 × Int32), loopF (f_Model_partBy_L6 a1 a2 a3 a4 sM sN) n x = some rr → ∀ ls : Array Slot, lv_has ls 10 [(0, .ref (mA 0)), (1, .int a1), (2, .int a2), (3, .int a3), (4, .int a4), (5, .int (x.1)), (6, .int (x.2))] → W p l e R s m args below meth c s.heap [] 0 0 Q (F0 m 6 ls []) := by
    refine loopW (fun (x : Int32 × Int32) => ∀ ls : Array Slot, lv_has ls 10 [(0, .ref (mA 0)), (1, .int a1), (2, .int a2), (3, .int a3), (4, .int a4), (5, .int (x.1)), (6, .int (x.2))] → W p l e R s m args below meth c s.heap [] 0 0 Q (F0 m 6 ls [])) ?_
    intro K6 hK6 x hf
    obtain ⟨x1, x2⟩ := x
    rw [f_Model_partBy_L6] at hf
    intro ls hl
    have hl : lv_has ls 10 [(0, .ref (mA 0)), (1, .int a1), (2, .int a2), (3, .int a3), (4, .int a4), (5, .int x1), (6, .int x2)] := hl
    show W p l e R s m args below meth c s.heap [] 0 0 Q (F0 m 6 ls [])
    refine lv_iload hx hb d_Model_partBy_6 (lv_at hl 6 rfl) ?_
    refine lv_iconst (v := (5 : Int32)) hx hb d_Model_partBy_8 (by decide) ?_
    refine lv_icmp_gt (tgt := 133) hx hb d_Model_partBy_9 (by decide) (fun c3 => ?_) (fun c3 => ?_)
    · replace hf := iteT c3 hf
      refine lv_iload hx hb d_Model_partBy_133 (lv_at hl 5 rfl) ?_
      obtain rfl := sj1 hf
      exact retR C0 (narI _) hQ d_Model_partBy_135
    · replace hf := iteF c3 hf
      refine lv_iconst (v := (0 : Int32)) hx hb d_Model_partBy_12 (by decide) ?_
      refine lv_istore (lv' := [(7, .int (0 : Int32)), (0, .ref (mA 0)), (1, .int a1), (2, .int a2), (3, .int a3), (4, .int a4), (5, .int x1), (6, .int x2)]) hx hb d_Model_partBy_13 hl (by decide) rfl (fun ls hl => ?_)
      refine lv_iconst (v := (0 : Int32)) hx hb d_Model_partBy_15 (by decide) ?_
      refine lv_istore (lv' := [(8, .int (0 : Int32)), (7, .int (0 : Int32)), (0, .ref (mA 0)), (1, .int a1), (2, .int a2), (3, .int a3), (4, .int a4), (5, .int x1), (6, .int x2)]) hx hb d_Model_partBy_16 hl (by decide) rfl (fun ls hl => ?_)
      have B18 : ∀ (n : Nat) (x : Int32 × Int32), loopF (f_Model_partBy_L18 a1 a2 a3 a4 sM sN x1 x2 K6) n x = some rr → ∀ ls : Array Slot, lv_has ls 10 [(0, .ref (mA 0)), (1, .int a1), (2, .int a2), (3, .int a3), (4, .int a4), (5, .int x1), (6, .int x2), (7, .int (x.1)), (8, .int (x.2))] → W p l e R s m args below meth c s.heap [] 0 0 Q (F0 m 18 ls []) := by
        refine loopW (fun (x : Int32 × Int32) => ∀ ls : Array Slot, lv_has ls 10 [(0, .ref (mA 0)), (1, .int a1), (2, .int a2), (3, .int a3), (4, .int a4), (5, .int x1), (6, .int x2), (7, .int (x.1)), (8, .int (x.2))] → W p l e R s m args below meth c s.heap [] 0 0 Q (F0 m 18 ls [])) ?_
        intro K18 hK18 x hf
        obtain ⟨x4, x5⟩ := x
        rw [f_Model_partBy_L18] at hf
        intro ls hl
        have hl : lv_has ls 10 [(0, .ref (mA 0)), (1, .int a1), (2, .int a2), (3, .int a3), (4, .int a4), (5, .int x1), (6, .int x2), (7, .int x4), (8, .int x5)] := hl
        show W p l e R s m args below meth c s.heap [] 0 0 Q (F0 m 18 ls [])
        refine lv_iload hx hb d_Model_partBy_18 (lv_at hl 8 rfl) ?_
        refine lv_iconst (v := (5 : Int32)) hx hb d_Model_partBy_20 (by decide) ?_
        refine lv_icmp_gt (tgt := 111) hx hb d_Model_partBy_21 (by decide) (fun c6 => ?_) (fun c6 => ?_)
        · replace hf := iteT c6 hf
          refine lv_iload hx hb d_Model_partBy_111 (lv_at hl 7 rfl) ?_
          refine lv_iload hx hb d_Model_partBy_113 (lv_at hl 5 rfl) ?_
          refine lv_icmp_le (tgt := 123) hx hb d_Model_partBy_115 (by decide) (fun c7 => ?_) (fun c7 => ?_)
          · replace hf := iteT c7 hf
            refine lv_iload hx hb d_Model_partBy_123 (lv_at hl 5 rfl) ?_
            refine lv_istore (lv' := [(5, .int x1), (0, .ref (mA 0)), (1, .int a1), (2, .int a2), (3, .int a3), (4, .int a4), (6, .int x2), (7, .int x4), (8, .int x5)]) hx hb d_Model_partBy_125 hl (by decide) rfl (fun ls hl => ?_)
            obtain ⟨x8, e_x8⟩ : ∃ z : Int32, z = (x2 + (1 : Int32)) := ⟨_, rfl⟩
            replace hf := nmE hf e_x8
            refine lv_iinc (v := x8) (lv' := [(6, .int x8), (5, .int x1), (0, .ref (mA 0)), (1, .int a1), (2, .int a2), (3, .int a3), (4, .int a4), (7, .int x4), (8, .int x5)]) hx hb d_Model_partBy_127 hl (k := 6) rfl (by rw [e_x8]; rfl) (by decide) rfl (fun ls hl => ?_)
            refine lv_goto (tgt := 6) hx hb d_Model_partBy_130 (by decide) ?_
            exact hK6 (x1, x8) hf ls (lv_sub hl [2, 3, 4, 5, 6, 1, 0] rfl)
          · replace hf := iteF c7 hf
            refine lv_iload hx hb d_Model_partBy_118 (lv_at hl 7 rfl) ?_
            refine lv_goto (tgt := 125) hx hb d_Model_partBy_120 (by decide) ?_
            refine lv_istore (lv' := [(5, .int x4), (0, .ref (mA 0)), (1, .int a1), (2, .int a2), (3, .int a3), (4, .int a4), (6, .int x2), (7, .int x4), (8, .int x5)]) hx hb d_Model_partBy_125 hl (by decide) rfl (fun ls hl => ?_)
            obtain ⟨x9, e_x9⟩ : ∃ z : Int32, z = (x2 + (1 : Int32)) := ⟨_, rfl⟩
            replace hf := nmE hf e_x9
            refine lv_iinc (v := x9) (lv' := [(6, .int x9), (5, .int x4), (0, .ref (mA 0)), (1, .int a1), (2, .int a2), (3, .int a3), (4, .int a4), (7, .int x4), (8, .int x5)]) hx hb d_Model_partBy_127 hl (k := 6) rfl (by rw [e_x9]; rfl) (by decide) rfl (fun ls hl => ?_)
            refine lv_goto (tgt := 6) hx hb d_Model_partBy_130 (by decide) ?_
            exact hK6 (x4, x9) hf ls (lv_sub hl [2, 3, 4, 5, 6, 1, 0] rfl)
        · replace hf := iteF c6 hf
          refine lv_aload_n hx hb d_Model_partBy_24 rfl (lv_at hl 0 rfl) ?_
          refine lv_iload hx hb d_Model_partBy_25 (lv_at hl 6 rfl) ?_
          refine lv_aload_n hx hb d_Model_partBy_27 rfl (lv_at hl 0 rfl) ?_
          refine va_get (D := D) (ci := 11) (v := .ref (mA 1)) (C := "BedFrontierModel") (T := T_Model) (N := 22) hx hb htt i_Model hown hK.1 hP 0 rfl rfl 0 (by decide) (htt _ k_772) (fun _ h9 => h9) rfl d_Model_partBy_28 ?_
          refine lv_bipush (v := (16 : Int32)) hx hb d_Model_partBy_31 (by decide) ?_
          refine lv_iload_n hx hb d_Model_partBy_33 rfl (lv_at hl 2 rfl) ?_
          refine lv_iadd hx hb d_Model_partBy_34 ?_
          obtain ⟨g10, hf⟩ := gdE hf
          refine va_iald hx hb hK.1 hP 1 0 rfl rfl (okI_in g10) d_Model_partBy_35 ?_
          refine lv_iload_n hx hb d_Model_partBy_36 rfl (lv_at hl 3 rfl) ?_
          refine lv_iload hx hb d_Model_partBy_37 (lv_at hl 4 rfl) ?_
          refine lv_iconst (v := (0 : Int32)) hx hb d_Model_partBy_39 (by decide) ?_
          obtain ⟨x11, h12, hf⟩ := bdE hf
          refine vR (q0 := 0) (ci := 11) (rest := []) C0 (c_Model_dueBy l D ty mA sM sN x2 (sM 0 (((16 : Int32) + a2)).toNatClampNeg) a3 a4 (0 : Int32) x11 h12) k_965 cal_Model_dueBy hK hP rfl rfl rfl ⟨by rw [hR]; decide, by rw [hR]; decide⟩ rfl rfl rfl hl.1 rfl (Nat.le_of_ble_eq_true rfl) d_Model_partBy_40 ⟨Nat.zero_le _, Nat.zero_le _⟩ rfl ?_
          refine lv_aload_n hx hb d_Model_partBy_43 rfl (lv_at hl 0 rfl) ?_
          refine lv_iload hx hb d_Model_partBy_44 (lv_at hl 8 rfl) ?_
          refine lv_aload_n hx hb d_Model_partBy_46 rfl (lv_at hl 0 rfl) ?_
          refine va_get (D := D) (ci := 11) (v := .ref (mA 1)) (C := "BedFrontierModel") (T := T_Model) (N := 22) hx hb htt i_Model hown hK.1 hP 0 rfl rfl 0 (by decide) (htt _ k_772) (fun _ h9 => h9) rfl d_Model_partBy_47 ?_
          refine lv_bipush (v := (16 : Int32)) hx hb d_Model_partBy_50 (by decide) ?_
          refine lv_iload_n hx hb d_Model_partBy_52 rfl (lv_at hl 2 rfl) ?_
          refine lv_iadd hx hb d_Model_partBy_53 ?_
          obtain ⟨g13, hf⟩ := gdE hf
          refine va_iald hx hb hK.1 hP 1 0 rfl rfl (okI_in g13) d_Model_partBy_54 ?_
          refine lv_iload_n hx hb d_Model_partBy_55 rfl (lv_at hl 3 rfl) ?_
          refine lv_iload hx hb d_Model_partBy_56 (lv_at hl 4 rfl) ?_
          refine lv_iconst (v := (0 : Int32)) hx hb d_Model_partBy_58 (by decide) ?_
          obtain ⟨x14, h15, hf⟩ := bdE hf
          refine vR (q0 := 0) (ci := 11) (rest := [.int x11]) C0 (c_Model_dueBy l D ty mA sM sN x5 (sM 0 (((16 : Int32) + a2)).toNatClampNeg) a3 a4 (0 : Int32) x14 h15) k_965 cal_Model_dueBy hK hP rfl rfl rfl ⟨by rw [hR]; decide, by rw [hR]; decide⟩ rfl rfl rfl hl.1 rfl (Nat.le_of_ble_eq_true rfl) d_Model_partBy_59 ⟨Nat.zero_le _, Nat.zero_le _⟩ rfl ?_
          have J70 : ∀ (x16 : Int32), f_Model_partBy_J70 a1 x2 x4 x5 K18 x16 = some rr → ∀ ls : Array Slot, lv_has ls 10 [(0, .ref (mA 0)), (1, .int a1), (2, .int a2), (3, .int a3), (4, .int a4), (5, .int x1), (6, .int x2), (7, .int x4), (8, .int x5)] → W p l e R s m args below meth c s.heap [] 0 0 Q (F0 m 70 ls [.int x16]) := by
            intro x16 hf ls hl
            unfold f_Model_partBy_J70 at hf
            refine lv_istore (lv' := [(9, .int x16), (0, .ref (mA 0)), (1, .int a1), (2, .int a2), (3, .int a3), (4, .int a4), (5, .int x1), (6, .int x2), (7, .int x4), (8, .int x5)]) hx hb d_Model_partBy_70 hl (by decide) rfl (fun ls hl => ?_)
            refine lv_iload hx hb d_Model_partBy_72 (lv_at hl 8 rfl) ?_
            refine lv_iload_n hx hb d_Model_partBy_74 rfl (lv_at hl 2 rfl) ?_
            refine lv_iload hx hb d_Model_partBy_75 (lv_at hl 7 rfl) ?_
            obtain ⟨x17, h18, hf⟩ := bdE hf
            refine scR (rest := [.int x4]) C0 (c_Model_has l D ty a1 x2 x17 h18) k_942 cal_Model_has hK (va_P_nil) ⟨by rw [hR]; decide, by rw [hR]; decide⟩ rfl rfl rfl hl.1 rfl (Nat.le_of_ble_eq_true rfl) d_Model_partBy_77 ⟨Nat.zero_le _, Nat.zero_le _⟩ rfl ?_
            refine lv_if_eq (tgt := 101) hx hb d_Model_partBy_80 (by decide) (fun c19 => ?_) (fun c19 => ?_)
            · replace hf := iteT c19 hf
              refine lv_iconst (v := (0 : Int32)) hx hb d_Model_partBy_101 (by decide) ?_
              refine lv_iadd hx hb d_Model_partBy_102 ?_
              refine lv_topi (fun x20 e_x20 => ?_)
              replace hf := nmE hf e_x20
              refine lv_istore (lv' := [(7, .int x20), (9, .int x16), (0, .ref (mA 0)), (1, .int a1), (2, .int a2), (3, .int a3), (4, .int a4), (5, .int x1), (6, .int x2), (8, .int x5)]) hx hb d_Model_partBy_103 hl (by decide) rfl (fun ls hl => ?_)
              obtain ⟨x21, e_x21⟩ : ∃ z : Int32, z = (x5 + (1 : Int32)) := ⟨_, rfl⟩
              replace hf := nmE hf e_x21
              refine lv_iinc (v := x21) (lv' := [(8, .int x21), (7, .int x20), (9, .int x16), (0, .ref (mA 0)), (1, .int a1), (2, .int a2), (3, .int a3), (4, .int a4), (5, .int x1), (6, .int x2)]) hx hb d_Model_partBy_105 hl (k := 9) rfl (by rw [e_x21]; rfl) (by decide) rfl (fun ls hl => ?_)
              refine lv_goto (tgt := 18) hx hb d_Model_partBy_108 (by decide) ?_
              exact hK18 (x20, x21) hf ls (lv_sub hl [3, 4, 5, 6, 7, 8, 9, 1, 0] rfl)
            · replace hf := iteF c19 hf
              refine lv_iload_n hx hb d_Model_partBy_83 rfl (lv_at hl 2 rfl) ?_
              refine lv_iload hx hb d_Model_partBy_84 (lv_at hl 9 rfl) ?_
              obtain ⟨x22, h23, hf⟩ := bdE hf
              refine scR (rest := [.int x4]) C0 (c_Model_has l D ty a1 x5 x22 h23) k_942 cal_Model_has hK (va_P_nil) ⟨by rw [hR]; decide, by rw [hR]; decide⟩ rfl rfl rfl hl.1 rfl (Nat.le_of_ble_eq_true rfl) d_Model_partBy_86 ⟨Nat.zero_le _, Nat.zero_le _⟩ rfl ?_
              refine lv_if_eq (tgt := 101) hx hb d_Model_partBy_89 (by decide) (fun c24 => ?_) (fun c24 => ?_)
              · replace hf := iteT c24 hf
                refine lv_iconst (v := (0 : Int32)) hx hb d_Model_partBy_101 (by decide) ?_
                refine lv_iadd hx hb d_Model_partBy_102 ?_
                refine lv_topi (fun x25 e_x25 => ?_)
                replace hf := nmE hf e_x25
                refine lv_istore (lv' := [(7, .int x25), (9, .int x16), (0, .ref (mA 0)), (1, .int a1), (2, .int a2), (3, .int a3), (4, .int a4), (5, .int x1), (6, .int x2), (8, .int x5)]) hx hb d_Model_partBy_103 hl (by decide) rfl (fun ls hl => ?_)
                obtain ⟨x26, e_x26⟩ : ∃ z : Int32, z = (x5 + (1 : Int32)) := ⟨_, rfl⟩
                replace hf := nmE hf e_x26
                refine lv_iinc (v := x26) (lv' := [(8, .int x26), (7, .int x25), (9, .int x16), (0, .ref (mA 0)), (1, .int a1), (2, .int a2), (3, .int a3), (4, .int a4), (5, .int x1), (6, .int x2)]) hx hb d_Model_partBy_105 hl (k := 9) rfl (by rw [e_x26]; rfl) (by decide) rfl (fun ls hl => ?_)
                refine lv_goto (tgt := 18) hx hb d_Model_partBy_108 (by decide) ?_
                exact hK18 (x25, x26) hf ls (lv_sub hl [3, 4, 5, 6, 7, 8, 9, 1, 0] rfl)
              · replace hf := iteF c24 hf
                refine lv_iload hx hb d_Model_partBy_92 (lv_at hl 0 rfl) ?_
                refine lv_if_eq (tgt := 101) hx hb d_Model_partBy_94 (by decide) (fun c27 => ?_) (fun c27 => ?_)
                · replace hf := iteT c27 hf
                  refine lv_iconst (v := (0 : Int32)) hx hb d_Model_partBy_101 (by decide) ?_
                  refine lv_iadd hx hb d_Model_partBy_102 ?_
                  refine lv_topi (fun x28 e_x28 => ?_)
                  replace hf := nmE hf e_x28
                  refine lv_istore (lv' := [(7, .int x28), (9, .int x16), (0, .ref (mA 0)), (1, .int a1), (2, .int a2), (3, .int a3), (4, .int a4), (5, .int x1), (6, .int x2), (8, .int x5)]) hx hb d_Model_partBy_103 hl (by decide) rfl (fun ls hl => ?_)
                  obtain ⟨x29, e_x29⟩ : ∃ z : Int32, z = (x5 + (1 : Int32)) := ⟨_, rfl⟩
                  replace hf := nmE hf e_x29
                  refine lv_iinc (v := x29) (lv' := [(8, .int x29), (7, .int x28), (9, .int x16), (0, .ref (mA 0)), (1, .int a1), (2, .int a2), (3, .int a3), (4, .int a4), (5, .int x1), (6, .int x2)]) hx hb d_Model_partBy_105 hl (k := 9) rfl (by rw [e_x29]; rfl) (by decide) rfl (fun ls hl => ?_)
                  refine lv_goto (tgt := 18) hx hb d_Model_partBy_108 (by decide) ?_
                  exact hK18 (x28, x29) hf ls (lv_sub hl [3, 4, 5, 6, 7, 8, 9, 1, 0] rfl)
                · replace hf := iteF c27 hf
                  refine lv_iconst (v := (1 : Int32)) hx hb d_Model_partBy_97 (by decide) ?_
                  refine lv_goto (tgt := 102) hx hb d_Model_partBy_98 (by decide) ?_
                  refine lv_iadd hx hb d_Model_partBy_102 ?_
                  refine lv_topi (fun x30 e_x30 => ?_)
                  replace hf := nmE hf e_x30
                  refine lv_istore (lv' := [(7, .int x30), (9, .int x16), (0, .ref (mA 0)), (1, .int a1), (2, .int a2), (3, .int a3), (4, .int a4), (5, .int x1), (6, .int x2), (8, .int x5)]) hx hb d_Model_partBy_103 hl (by decide) rfl (fun ls hl => ?_)
                  obtain ⟨x31, e_x31⟩ : ∃ z : Int32, z = (x5 + (1 : Int32)) := ⟨_, rfl⟩
                  replace hf := nmE hf e_x31
                  refine lv_iinc (v := x31) (lv' := [(8, .int x31), (7, .int x30), (9, .int x16), (0, .ref (mA 0)), (1, .int a1), (2, .int a2), (3, .int a3), (4, .int a4), (5, .int x1), (6, .int x2)]) hx hb d_Model_partBy_105 hl (k := 9) rfl (by rw [e_x31]; rfl) (by decide) rfl (fun ls hl => ?_)
                  refine lv_goto (tgt := 18) hx hb d_Model_partBy_108 (by decide) ?_
                  exact hK18 (x30, x31) hf ls (lv_sub hl [3, 4, 5, 6, 7, 8, 9, 1, 0] rfl)
          refine lv_icmp_ne (tgt := 69) hx hb d_Model_partBy_62 (by decide) (fun c32 => ?_) (fun c32 => ?_)
          · replace hf := iteF c32 hf
            refine lv_iconst (v := (0 : Int32)) hx hb d_Model_partBy_69 (by decide) ?_
            exact J70 (0 : Int32) hf ls (hl)
          · replace hf := iteT c32 hf
            refine lv_iconst (v := (1 : Int32)) hx hb d_Model_partBy_65 (by decide) ?_
            refine lv_goto (tgt := 70) hx hb d_Model_partBy_66 (by decide) ?_
            exact J70 (1 : Int32) hf ls (hl)
      exact B18 4000 ((0 : Int32), (0 : Int32)) hf ls (lv_sub hl [2, 3, 4, 5, 6, 7, 8, 1, 0] rfl)
  exact B6 4000 ((0 : Int32), (0 : Int32)) hf ls (lv_sub hl [2, 3, 4, 5, 6, 1, 0] rfl)
def f_Model_look_L32 (a1 : Int32) (a2 : Int32) (sM : PW) (sN : PL) (x11 : Int32) (K32 : Int32 × Int32 → Option (Int32 × PW × PL)) : Int32 × Int32 → Option (Int32 × PW × PL)
  | (x13, x14) =>
  (if (24 : Int32) ≤ x14 then some (x13, sM, sN) else (if x11 = 0 then some (x13, sM, sN) else (if x13 < 0 then nm (x14 + (1 : Int32)) (fun x18 => K32 (x14, x18)) else bd (f_Model_partBy sM sN x11 a1 a2 x14) (fun x19 => bd (f_Model_partBy sM sN x11 a1 a2 x13) (fun x21 => (if x21 ≤ x19 then nm (x14 + (1 : Int32)) (fun x24 => K32 (x13, x24)) else nm (x14 + (1 : Int32)) (fun x25 => K32 (x14, x25))))))))
def f_Model_look (sM : PW) (sN : PL) (a1 : Int32) (a2 : Int32) : Option (Int32 × PW × PL) :=
  bd (f_Model_isDoing sM sN a1) (fun x1 => (if x1 = 0 then bd3 (f_Model_bad sM sN) (fun x4 sM5 sN6 => some (x4, sM5, sN6)) else bd (f_Model_isSide a2) (fun x8 => (if x8 = 0 then bd3 (f_Model_bad sM sN) (fun x26 sM27 sN28 => some (x26, sM27, sN28)) else bd (f_Model_kindsOf sM sN a1) (fun x11 => loopF (f_Model_look_L32 a1 a2 sM sN x11) 4000 ((-1 : Int32), (0 : Int32)))))))
set_option maxHeartbeats 4000000 in
set_option maxRecDepth 100000 in
theorem c_Model_look (l : Launch) (D : va_G) (ty : Nat → ClassId) (mA : Nat → Nat) (sz : Nat) (sM : PW) (sN : PL) (a1 : Int32) (a2 : Int32) (rr : Int32) (tM : PW) (tN : PL) (hf : f_Model_look sM sN a1 a2 = some (rr, tM, tN)) : Met l y_Model_look (Cond.code y_Model_look prog_13_method_58_code 6 ((Option.some FieldType.int)) :: lw_ok) { frames := 2, cells := 0, slots := 0, locals := 56 } (PcM D ty [.ref (mA 0), .int a1, .int a2] sz (L_m ty mA sM sN)) (QM D (L_m ty mA tM tN) (va_A (L_m ty mA sM sN) sz) (some (.int rr))) 0 0 (va_A (L_m ty mA sM sN) sz) := by
  refine hdM (by decide) (Nat.le_of_ble_eq_true rfl) ?_
  intro p e s m below meth c ls R args Q A C0 hR hQ hnm hAq hP hK hD hS hl
  obtain ⟨hx, hb, hr, hlk, hml, hown, htt⟩ := id C0
  have hl : lv_has ls 6 [(0, .ref (mA 0)), (1, .int a1), (2, .int a2)] := hl
  generalize hH0 : s.heap = H at hP hS ⊢
  have hS : va_S A s.heap H [] := by rw [hH0]; exact hS
  unfold f_Model_look at hf
  refine lv_aload_n hx hb d_Model_look_0 rfl (lv_at hl 0 rfl) ?_
  refine lv_iload_n hx hb d_Model_look_1 rfl (lv_at hl 1 rfl) ?_
  obtain ⟨x1, h2, hf⟩ := bdE hf
  refine vR (q0 := 0) (ci := 11) (rest := []) C0 (c_Model_isDoing l D ty mA sM sN a1 x1 h2) k_931 cal_Model_isDoing hK hP rfl rfl rfl ⟨by rw [hR]; decide, by rw [hR]; decide⟩ rfl rfl rfl hl.1 rfl (Nat.le_of_ble_eq_true rfl) d_Model_look_2 ⟨Nat.zero_le _, Nat.zero_le _⟩ rfl ?_
  refine lv_if_eq (tgt := 15) hx hb d_Model_look_5 (by decide) (fun c3 => ?_) (fun c3 => ?_)
  · replace hf := iteT c3 hf
    refine lv_aload_n hx hb d_Model_look_15 rfl (lv_at hl 0 rfl) ?_
    obtain ⟨x4, sM5, sN6, h7, hf⟩ := bd3E hf
    refine vM (Lc := (L_m ty mA sM sN)) (Lc' := (L_m ty mA sM5 sN6)) (L' := (L_m ty mA sM5 sN6)) (q0 := 0) (ci := 11) (rest := []) C0 (c_Model_bad l D ty mA H.size sM sN x4 sM5 sN6 h7) k_848 cal_Model_bad hK hP hD hS hAq [0, 1, 2, 3, 4, 5, 6, 7, 8, 9, 10, 11] [] [0, 1, 2, 3, 4, 5, 6, 7, 8, 9, 10, 11] [] rfl rfl (by decide) (by decide) (by decide) (by decide) rfl rfl rfl rfl ⟨by rw [hR]; decide, by rw [hR]; decide⟩ rfl rfl rfl hl.1 rfl (Nat.le_of_ble_eq_true rfl) d_Model_look_16 ⟨by rw [hR]; decide, by rw [hR]; decide⟩ rfl (fun H locs hP hD hS => ?_)
    obtain ⟨rfl, rfl, rfl⟩ := sj3 hf
    exact retM C0 (narI _) hQ hP hD hS d_Model_look_19
  · replace hf := iteF c3 hf
    refine lv_iload_n hx hb d_Model_look_8 rfl (lv_at hl 2 rfl) ?_
    obtain ⟨x8, h9, hf⟩ := bdE hf
    refine scR (rest := []) C0 (c_Model_isSide l D ty a2 x8 h9) k_856 cal_Model_isSide hK (va_P_nil) ⟨by rw [hR]; decide, by rw [hR]; decide⟩ rfl rfl rfl hl.1 rfl (Nat.le_of_ble_eq_true rfl) d_Model_look_9 ⟨Nat.zero_le _, Nat.zero_le _⟩ rfl ?_
    refine lv_if_ne (tgt := 20) hx hb d_Model_look_12 (by decide) (fun c10 => ?_) (fun c10 => ?_)
    · replace hf := iteF c10 hf
      refine lv_aload_n hx hb d_Model_look_20 rfl (lv_at hl 0 rfl) ?_
      refine lv_iload_n hx hb d_Model_look_21 rfl (lv_at hl 1 rfl) ?_
      obtain ⟨x11, h12, hf⟩ := bdE hf
      refine vR (q0 := 0) (ci := 11) (rest := []) C0 (c_Model_kindsOf l D ty mA sM sN a1 x11 h12) k_1060 cal_Model_kindsOf hK hP rfl rfl rfl ⟨by rw [hR]; decide, by rw [hR]; decide⟩ rfl rfl rfl hl.1 rfl (Nat.le_of_ble_eq_true rfl) d_Model_look_22 ⟨Nat.zero_le _, Nat.zero_le _⟩ rfl ?_
      refine lv_istore_n (lv' := [(3, .int x11), (0, .ref (mA 0)), (1, .int a1), (2, .int a2)]) hx hb d_Model_look_25 rfl hl (by decide) rfl (fun ls hl => ?_)
      refine lv_iconst (v := (-1 : Int32)) hx hb d_Model_look_26 (by decide) ?_
      refine lv_istore (lv' := [(4, .int (-1 : Int32)), (3, .int x11), (0, .ref (mA 0)), (1, .int a1), (2, .int a2)]) hx hb d_Model_look_27 hl (by decide) rfl (fun ls hl => ?_)
      refine lv_iconst (v := (0 : Int32)) hx hb d_Model_look_29 (by decide) ?_
      refine lv_istore (lv' := [(5, .int (0 : Int32)), (4, .int (-1 : Int32)), (3, .int x11), (0, .ref (mA 0)), (1, .int a1), (2, .int a2)]) hx hb d_Model_look_30 hl (by decide) rfl (fun ls hl => ?_)
      have B32 : ∀ (n : Nat) (x : Int32 × Int32), loopF (f_Model_look_L32 a1 a2 sM sN x11) n x = some (rr, tM, tN) → ∀ (H : Heap) (locs : List Loc) (ls : Array Slot), va_P D vwCl (L_m ty mA sM sN) H → va_D A (L_m ty mA sM sN) → va_S A s.heap H locs → lv_has ls 6 [(0, .ref (mA 0)), (1, .int a1), (2, .int a2), (3, .int x11), (4, .int (x.1)), (5, .int (x.2))] → W p l e R s m args below meth c H locs 0 0 Q (F0 m 32 ls []) := by
        refine loopW (fun (x : Int32 × Int32) => ∀ (H : Heap) (locs : List Loc) (ls : Array Slot), va_P D vwCl (L_m ty mA sM sN) H → va_D A (L_m ty mA sM sN) → va_S A s.heap H locs → lv_has ls 6 [(0, .ref (mA 0)), (1, .int a1), (2, .int a2), (3, .int x11), (4, .int (x.1)), (5, .int (x.2))] → W p l e R s m args below meth c H locs 0 0 Q (F0 m 32 ls [])) ?_
        intro K32 hK32 x hf
        obtain ⟨x13, x14⟩ := x
        rw [f_Model_look_L32] at hf
        intro H locs ls hP hD hS hl
        have hl : lv_has ls 6 [(0, .ref (mA 0)), (1, .int a1), (2, .int a2), (3, .int x11), (4, .int x13), (5, .int x14)] := hl
        have hP : va_P D vwCl (L_m ty mA sM sN) H := hP
        have hD : va_D A (L_m ty mA sM sN) := hD
        show W p l e R s m args below meth c H locs 0 0 Q (F0 m 32 ls [])
        refine lv_iload hx hb d_Model_look_32 (lv_at hl 5 rfl) ?_
        refine lv_bipush (v := (24 : Int32)) hx hb d_Model_look_34 (by decide) ?_
        refine lv_icmp_ge (tgt := 84) hx hb d_Model_look_36 (by decide) (fun c15 => ?_) (fun c15 => ?_)
        · replace hf := iteT c15 hf
          refine lv_iload hx hb d_Model_look_84 (lv_at hl 4 rfl) ?_
          obtain ⟨rfl, rfl, rfl⟩ := sj3 hf
          exact retM C0 (narI _) hQ hP hD hS d_Model_look_86
        · replace hf := iteF c15 hf
          refine lv_iload_n hx hb d_Model_look_39 rfl (lv_at hl 3 rfl) ?_
          refine lv_if_eq (tgt := 84) hx hb d_Model_look_40 (by decide) (fun c16 => ?_) (fun c16 => ?_)
          · replace hf := iteT c16 hf
            refine lv_iload hx hb d_Model_look_84 (lv_at hl 4 rfl) ?_
            obtain ⟨rfl, rfl, rfl⟩ := sj3 hf
            exact retM C0 (narI _) hQ hP hD hS d_Model_look_86
          · replace hf := iteF c16 hf
            refine lv_iload hx hb d_Model_look_43 (lv_at hl 4 rfl) ?_
            refine lv_if_lt (tgt := 69) hx hb d_Model_look_45 (by decide) (fun c17 => ?_) (fun c17 => ?_)
            · replace hf := iteT c17 hf
              refine lv_iload hx hb d_Model_look_69 (lv_at hl 5 rfl) ?_
              refine lv_goto (tgt := 76) hx hb d_Model_look_71 (by decide) ?_
              refine lv_istore (lv' := [(4, .int x14), (0, .ref (mA 0)), (1, .int a1), (2, .int a2), (3, .int x11), (5, .int x14)]) hx hb d_Model_look_76 hl (by decide) rfl (fun ls hl => ?_)
              obtain ⟨x18, e_x18⟩ : ∃ z : Int32, z = (x14 + (1 : Int32)) := ⟨_, rfl⟩
              replace hf := nmE hf e_x18
              refine lv_iinc (v := x18) (lv' := [(5, .int x18), (4, .int x14), (0, .ref (mA 0)), (1, .int a1), (2, .int a2), (3, .int x11)]) hx hb d_Model_look_78 hl (k := 5) rfl (by rw [e_x18]; rfl) (by decide) rfl (fun ls hl => ?_)
              refine lv_goto (tgt := 32) hx hb d_Model_look_81 (by decide) ?_
              exact hK32 (x14, x18) hf _ _ ls hP hD hS (lv_sub hl [2, 3, 4, 5, 1, 0] rfl)
            · replace hf := iteF c17 hf
              refine lv_aload_n hx hb d_Model_look_48 rfl (lv_at hl 0 rfl) ?_
              refine lv_iload_n hx hb d_Model_look_49 rfl (lv_at hl 3 rfl) ?_
              refine lv_iload_n hx hb d_Model_look_50 rfl (lv_at hl 1 rfl) ?_
              refine lv_iload_n hx hb d_Model_look_51 rfl (lv_at hl 2 rfl) ?_
              refine lv_iload hx hb d_Model_look_52 (lv_at hl 5 rfl) ?_
              obtain ⟨x19, h20, hf⟩ := bdE hf
              refine vR (q0 := 0) (ci := 11) (rest := []) C0 (c_Model_partBy l D ty mA sM sN x11 a1 a2 x14 x19 h20) k_1068 cal_Model_partBy hK hP rfl rfl rfl ⟨by rw [hR]; decide, by rw [hR]; decide⟩ rfl rfl rfl hl.1 rfl (Nat.le_of_ble_eq_true rfl) d_Model_look_54 ⟨Nat.zero_le _, Nat.zero_le _⟩ rfl ?_
              refine lv_aload_n hx hb d_Model_look_57 rfl (lv_at hl 0 rfl) ?_
              refine lv_iload_n hx hb d_Model_look_58 rfl (lv_at hl 3 rfl) ?_
              refine lv_iload_n hx hb d_Model_look_59 rfl (lv_at hl 1 rfl) ?_
              refine lv_iload_n hx hb d_Model_look_60 rfl (lv_at hl 2 rfl) ?_
              refine lv_iload hx hb d_Model_look_61 (lv_at hl 4 rfl) ?_
              obtain ⟨x21, h22, hf⟩ := bdE hf
              refine vR (q0 := 0) (ci := 11) (rest := [.int x19]) C0 (c_Model_partBy l D ty mA sM sN x11 a1 a2 x13 x21 h22) k_1068 cal_Model_partBy hK hP rfl rfl rfl ⟨by rw [hR]; decide, by rw [hR]; decide⟩ rfl rfl rfl hl.1 rfl (Nat.le_of_ble_eq_true rfl) d_Model_look_63 ⟨Nat.zero_le _, Nat.zero_le _⟩ rfl ?_
              refine lv_icmp_ge (tgt := 74) hx hb d_Model_look_66 (by decide) (fun c23 => ?_) (fun c23 => ?_)
              · replace hf := iteT c23 hf
                refine lv_iload hx hb d_Model_look_74 (lv_at hl 4 rfl) ?_
                refine lv_istore (lv' := [(4, .int x13), (0, .ref (mA 0)), (1, .int a1), (2, .int a2), (3, .int x11), (5, .int x14)]) hx hb d_Model_look_76 hl (by decide) rfl (fun ls hl => ?_)
                obtain ⟨x24, e_x24⟩ : ∃ z : Int32, z = (x14 + (1 : Int32)) := ⟨_, rfl⟩
                replace hf := nmE hf e_x24
                refine lv_iinc (v := x24) (lv' := [(5, .int x24), (4, .int x13), (0, .ref (mA 0)), (1, .int a1), (2, .int a2), (3, .int x11)]) hx hb d_Model_look_78 hl (k := 5) rfl (by rw [e_x24]; rfl) (by decide) rfl (fun ls hl => ?_)
                refine lv_goto (tgt := 32) hx hb d_Model_look_81 (by decide) ?_
                exact hK32 (x13, x24) hf _ _ ls hP hD hS (lv_sub hl [2, 3, 4, 5, 1, 0] rfl)
              · replace hf := iteF c23 hf
                refine lv_iload hx hb d_Model_look_69 (lv_at hl 5 rfl) ?_
                refine lv_goto (tgt := 76) hx hb d_Model_look_71 (by decide) ?_
                refine lv_istore (lv' := [(4, .int x14), (0, .ref (mA 0)), (1, .int a1), (2, .int a2), (3, .int x11), (5, .int x14)]) hx hb d_Model_look_76 hl (by decide) rfl (fun ls hl => ?_)
                obtain ⟨x25, e_x25⟩ : ∃ z : Int32, z = (x14 + (1 : Int32)) := ⟨_, rfl⟩
                replace hf := nmE hf e_x25
                refine lv_iinc (v := x25) (lv' := [(5, .int x25), (4, .int x14), (0, .ref (mA 0)), (1, .int a1), (2, .int a2), (3, .int x11)]) hx hb d_Model_look_78 hl (k := 5) rfl (by rw [e_x25]; rfl) (by decide) rfl (fun ls hl => ?_)
                refine lv_goto (tgt := 32) hx hb d_Model_look_81 (by decide) ?_
                exact hK32 (x14, x25) hf _ _ ls hP hD hS (lv_sub hl [2, 3, 4, 5, 1, 0] rfl)
      exact B32 4000 ((-1 : Int32), (0 : Int32)) hf _ _ ls hP hD hS (lv_sub hl [3, 4, 5, 2, 1, 0] rfl)
    · replace hf := iteT c10 hf
      refine lv_aload_n hx hb d_Model_look_15 rfl (lv_at hl 0 rfl) ?_
      obtain ⟨x26, sM27, sN28, h29, hf⟩ := bd3E hf
      refine vM (Lc := (L_m ty mA sM sN)) (Lc' := (L_m ty mA sM27 sN28)) (L' := (L_m ty mA sM27 sN28)) (q0 := 0) (ci := 11) (rest := []) C0 (c_Model_bad l D ty mA H.size sM sN x26 sM27 sN28 h29) k_848 cal_Model_bad hK hP hD hS hAq [0, 1, 2, 3, 4, 5, 6, 7, 8, 9, 10, 11] [] [0, 1, 2, 3, 4, 5, 6, 7, 8, 9, 10, 11] [] rfl rfl (by decide) (by decide) (by decide) (by decide) rfl rfl rfl rfl ⟨by rw [hR]; decide, by rw [hR]; decide⟩ rfl rfl rfl hl.1 rfl (Nat.le_of_ble_eq_true rfl) d_Model_look_16 ⟨by rw [hR]; decide, by rw [hR]; decide⟩ rfl (fun H locs hP hD hS => ?_)
      obtain ⟨rfl, rfl, rfl⟩ := sj3 hf
      exact retM C0 (narI _) hQ hP hD hS d_Model_look_19
def f_Model_wars_L28 (a1 : Int32) (a2 : Int32) (sM : PW) (sN : PL) (K28 : Int32 × Int32 → Option (Int32 × PW × PL)) : Int32 × Int32 → Option (Int32 × PW × PL)
  | (x11, x12) =>
  (if (sM 0 9) ≤ x12 then some (x11, sM, sN) else bd (f_Model_clockOf a1 a2) (fun x14 => gd (okI ((10 : Int32) + x12) 53) (gd (okI ((16 : Int32) + x12) 53) (bd (f_Model_dueBy sM sN (sM 0 (((10 : Int32) + x12)).toNatClampNeg) (sM 0 (((16 : Int32) + x12)).toNatClampNeg) a1 x14 (1 : Int32)) (fun x18 => gd (okI ((10 : Int32) + x12) 53) (gd (okI ((16 : Int32) + x12) 53) (bd (f_Model_dueBy sM sN (sM 0 (((10 : Int32) + x12)).toNatClampNeg) (sM 0 (((16 : Int32) + x12)).toNatClampNeg) a1 x14 (0 : Int32)) (fun x22 => nm (x11 + (x18 - x22)) (fun x24 => nm (x12 + (1 : Int32)) (fun x25 => K28 (x24, x25)))))))))))
def f_Model_wars (sM : PW) (sN : PL) (a1 : Int32) (a2 : Int32) : Option (Int32 × PW × PL) :=
  bd (f_Model_isSide a1) (fun x1 => (if x1 = 0 then bd3 (f_Model_bad sM sN) (fun x4 sM5 sN6 => some ((-1000 : Int32), sM5, sN6)) else bd (f_Model_isHour a2) (fun x8 => (if x8 = 0 then bd3 (f_Model_bad sM sN) (fun x26 sM27 sN28 => some ((-1000 : Int32), sM27, sN28)) else loopF (f_Model_wars_L28 a1 a2 sM sN) 4000 ((0 : Int32), (0 : Int32))))))
set_option maxHeartbeats 4000000 in
set_option maxRecDepth 100000 in
theorem c_Model_wars (l : Launch) (D : va_G) (ty : Nat → ClassId) (mA : Nat → Nat) (sz : Nat) (sM : PW) (sN : PL) (a1 : Int32) (a2 : Int32) (rr : Int32) (tM : PW) (tN : PL) (hf : f_Model_wars sM sN a1 a2 = some (rr, tM, tN)) : Met l y_Model_wars (Cond.code y_Model_wars prog_13_method_59_code 6 ((Option.some FieldType.int)) :: lw_ok) { frames := 2, cells := 0, slots := 0, locals := 45 } (PcM D ty [.ref (mA 0), .int a1, .int a2] sz (L_m ty mA sM sN)) (QM D (L_m ty mA tM tN) (va_A (L_m ty mA sM sN) sz) (some (.int rr))) 0 0 (va_A (L_m ty mA sM sN) sz) := by
  refine hdM (by decide) (Nat.le_of_ble_eq_true rfl) ?_
  intro p e s m below meth c ls R args Q A C0 hR hQ hnm hAq hP hK hD hS hl
  obtain ⟨hx, hb, hr, hlk, hml, hown, htt⟩ := id C0
  have hl : lv_has ls 6 [(0, .ref (mA 0)), (1, .int a1), (2, .int a2)] := hl
  generalize hH0 : s.heap = H at hP hS ⊢
  have hS : va_S A s.heap H [] := by rw [hH0]; exact hS
  unfold f_Model_wars at hf
  refine lv_iload_n hx hb d_Model_wars_0 rfl (lv_at hl 1 rfl) ?_
  obtain ⟨x1, h2, hf⟩ := bdE hf
  refine scR (rest := []) C0 (c_Model_isSide l D ty a1 x1 h2) k_856 cal_Model_isSide hK (va_P_nil) ⟨by rw [hR]; decide, by rw [hR]; decide⟩ rfl rfl rfl hl.1 rfl (Nat.le_of_ble_eq_true rfl) d_Model_wars_1 ⟨Nat.zero_le _, Nat.zero_le _⟩ rfl ?_
  refine lv_if_eq (tgt := 14) hx hb d_Model_wars_4 (by decide) (fun c3 => ?_) (fun c3 => ?_)
  · replace hf := iteT c3 hf
    refine lv_aload_n hx hb d_Model_wars_14 rfl (lv_at hl 0 rfl) ?_
    obtain ⟨x4, sM5, sN6, h7, hf⟩ := bd3E hf
    refine vM (Lc := (L_m ty mA sM sN)) (Lc' := (L_m ty mA sM5 sN6)) (L' := (L_m ty mA sM5 sN6)) (q0 := 0) (ci := 11) (rest := []) C0 (c_Model_bad l D ty mA H.size sM sN x4 sM5 sN6 h7) k_848 cal_Model_bad hK hP hD hS hAq [0, 1, 2, 3, 4, 5, 6, 7, 8, 9, 10, 11] [] [0, 1, 2, 3, 4, 5, 6, 7, 8, 9, 10, 11] [] rfl rfl (by decide) (by decide) (by decide) (by decide) rfl rfl rfl rfl ⟨by rw [hR]; decide, by rw [hR]; decide⟩ rfl rfl rfl hl.1 rfl (Nat.le_of_ble_eq_true rfl) d_Model_wars_15 ⟨by rw [hR]; decide, by rw [hR]; decide⟩ rfl (fun H locs hP hD hS => ?_)
    refine lv_pop hx hb d_Model_wars_18 rfl ?_
    refine lv_sipush (v := (-1000 : Int32)) hx hb d_Model_wars_19 (by decide) ?_
    obtain ⟨rfl, rfl, rfl⟩ := sj3 hf
    exact retM C0 (narI _) hQ hP hD hS d_Model_wars_22
  · replace hf := iteF c3 hf
    refine lv_iload_n hx hb d_Model_wars_7 rfl (lv_at hl 2 rfl) ?_
    obtain ⟨x8, h9, hf⟩ := bdE hf
    refine scR (rest := []) C0 (c_Model_isHour l D ty a2 x8 h9) k_995 cal_Model_isHour hK (va_P_nil) ⟨by rw [hR]; decide, by rw [hR]; decide⟩ rfl rfl rfl hl.1 rfl (Nat.le_of_ble_eq_true rfl) d_Model_wars_8 ⟨Nat.zero_le _, Nat.zero_le _⟩ rfl ?_
    refine lv_if_ne (tgt := 23) hx hb d_Model_wars_11 (by decide) (fun c10 => ?_) (fun c10 => ?_)
    · replace hf := iteF c10 hf
      refine lv_iconst (v := (0 : Int32)) hx hb d_Model_wars_23 (by decide) ?_
      refine lv_istore_n (lv' := [(3, .int (0 : Int32)), (0, .ref (mA 0)), (1, .int a1), (2, .int a2)]) hx hb d_Model_wars_24 rfl hl (by decide) rfl (fun ls hl => ?_)
      refine lv_iconst (v := (0 : Int32)) hx hb d_Model_wars_25 (by decide) ?_
      refine lv_istore (lv' := [(4, .int (0 : Int32)), (3, .int (0 : Int32)), (0, .ref (mA 0)), (1, .int a1), (2, .int a2)]) hx hb d_Model_wars_26 hl (by decide) rfl (fun ls hl => ?_)
      have B28 : ∀ (n : Nat) (x : Int32 × Int32), loopF (f_Model_wars_L28 a1 a2 sM sN) n x = some (rr, tM, tN) → ∀ (H : Heap) (locs : List Loc) (ls : Array Slot), va_P D vwCl (L_m ty mA sM sN) H → va_D A (L_m ty mA sM sN) → va_S A s.heap H locs → lv_has ls 6 [(0, .ref (mA 0)), (1, .int a1), (2, .int a2), (3, .int (x.1)), (4, .int (x.2))] → W p l e R s m args below meth c H locs 0 0 Q (F0 m 28 ls []) := by
        refine loopW (fun (x : Int32 × Int32) => ∀ (H : Heap) (locs : List Loc) (ls : Array Slot), va_P D vwCl (L_m ty mA sM sN) H → va_D A (L_m ty mA sM sN) → va_S A s.heap H locs → lv_has ls 6 [(0, .ref (mA 0)), (1, .int a1), (2, .int a2), (3, .int (x.1)), (4, .int (x.2))] → W p l e R s m args below meth c H locs 0 0 Q (F0 m 28 ls [])) ?_
        intro K28 hK28 x hf
        obtain ⟨x11, x12⟩ := x
        rw [f_Model_wars_L28] at hf
        intro H locs ls hP hD hS hl
        have hl : lv_has ls 6 [(0, .ref (mA 0)), (1, .int a1), (2, .int a2), (3, .int x11), (4, .int x12)] := hl
        have hP : va_P D vwCl (L_m ty mA sM sN) H := hP
        have hD : va_D A (L_m ty mA sM sN) := hD
        show W p l e R s m args below meth c H locs 0 0 Q (F0 m 28 ls [])
        refine lv_iload hx hb d_Model_wars_28 (lv_at hl 4 rfl) ?_
        refine lv_aload_n hx hb d_Model_wars_30 rfl (lv_at hl 0 rfl) ?_
        refine va_get (D := D) (ci := 11) (v := .ref (mA 1)) (C := "BedFrontierModel") (T := T_Model) (N := 22) hx hb htt i_Model hown hK.1 hP 0 rfl rfl 0 (by decide) (htt _ k_772) (fun _ h9 => h9) rfl d_Model_wars_31 ?_
        refine lv_bipush (v := (9 : Int32)) hx hb d_Model_wars_34 (by decide) ?_
        refine ld_iald (j := 9) hx hb hK.1 hP 1 0 rfl rfl (okI_in (by decide)) rfl d_Model_wars_36 ?_
        refine lv_icmp_ge (tgt := 113) hx hb d_Model_wars_37 (by decide) (fun c13 => ?_) (fun c13 => ?_)
        · replace hf := iteT c13 hf
          refine lv_iload_n hx hb d_Model_wars_113 rfl (lv_at hl 3 rfl) ?_
          obtain ⟨rfl, rfl, rfl⟩ := sj3 hf
          exact retM C0 (narI _) hQ hP hD hS d_Model_wars_114
        · replace hf := iteF c13 hf
          refine lv_iload_n hx hb d_Model_wars_40 rfl (lv_at hl 1 rfl) ?_
          refine lv_iload_n hx hb d_Model_wars_41 rfl (lv_at hl 2 rfl) ?_
          obtain ⟨x14, h15, hf⟩ := bdE hf
          refine scR (rest := []) C0 (c_Model_clockOf l D ty a1 a2 x14 h15) k_939 cal_Model_clockOf hK (va_P_nil) ⟨by rw [hR]; decide, by rw [hR]; decide⟩ rfl rfl rfl hl.1 rfl (Nat.le_of_ble_eq_true rfl) d_Model_wars_42 ⟨Nat.zero_le _, Nat.zero_le _⟩ rfl ?_
          refine lv_istore (lv' := [(5, .int x14), (0, .ref (mA 0)), (1, .int a1), (2, .int a2), (3, .int x11), (4, .int x12)]) hx hb d_Model_wars_45 hl (by decide) rfl (fun ls hl => ?_)
          refine lv_iload_n hx hb d_Model_wars_47 rfl (lv_at hl 4 rfl) ?_
          refine lv_aload_n hx hb d_Model_wars_48 rfl (lv_at hl 1 rfl) ?_
          refine lv_aload_n hx hb d_Model_wars_49 rfl (lv_at hl 1 rfl) ?_
          refine va_get (D := D) (ci := 11) (v := .ref (mA 1)) (C := "BedFrontierModel") (T := T_Model) (N := 22) hx hb htt i_Model hown hK.1 hP 0 rfl rfl 0 (by decide) (htt _ k_772) (fun _ h9 => h9) rfl d_Model_wars_50 ?_
          refine lv_bipush (v := (10 : Int32)) hx hb d_Model_wars_53 (by decide) ?_
          refine lv_iload hx hb d_Model_wars_55 (lv_at hl 5 rfl) ?_
          refine lv_iadd hx hb d_Model_wars_57 ?_
          obtain ⟨g16, hf⟩ := gdE hf
          refine va_iald hx hb hK.1 hP 1 0 rfl rfl (okI_in g16) d_Model_wars_58 ?_
          refine lv_aload_n hx hb d_Model_wars_59 rfl (lv_at hl 1 rfl) ?_
          refine va_get (D := D) (ci := 11) (v := .ref (mA 1)) (C := "BedFrontierModel") (T := T_Model) (N := 22) hx hb htt i_Model hown hK.1 hP 0 rfl rfl 0 (by decide) (htt _ k_772) (fun _ h9 => h9) rfl d_Model_wars_60 ?_
          refine lv_bipush (v := (16 : Int32)) hx hb d_Model_wars_63 (by decide) ?_
          refine lv_iload hx hb d_Model_wars_65 (lv_at hl 5 rfl) ?_
          refine lv_iadd hx hb d_Model_wars_67 ?_
          obtain ⟨g17, hf⟩ := gdE hf
          refine va_iald hx hb hK.1 hP 1 0 rfl rfl (okI_in g17) d_Model_wars_68 ?_
          refine lv_iload_n hx hb d_Model_wars_69 rfl (lv_at hl 2 rfl) ?_
          refine lv_iload hx hb d_Model_wars_70 (lv_at hl 0 rfl) ?_
          refine lv_iconst (v := (1 : Int32)) hx hb d_Model_wars_72 (by decide) ?_
          obtain ⟨x18, h19, hf⟩ := bdE hf
          refine vR (q0 := 0) (ci := 11) (rest := [.int x11]) C0 (c_Model_dueBy l D ty mA sM sN (sM 0 (((10 : Int32) + x12)).toNatClampNeg) (sM 0 (((16 : Int32) + x12)).toNatClampNeg) a1 x14 (1 : Int32) x18 h19) k_965 cal_Model_dueBy hK hP rfl rfl rfl ⟨by rw [hR]; decide, by rw [hR]; decide⟩ rfl rfl rfl hl.1 rfl (Nat.le_of_ble_eq_true rfl) d_Model_wars_73 ⟨Nat.zero_le _, Nat.zero_le _⟩ rfl ?_
          refine lv_aload_n hx hb d_Model_wars_76 rfl (lv_at hl 1 rfl) ?_
          refine lv_aload_n hx hb d_Model_wars_77 rfl (lv_at hl 1 rfl) ?_
          refine va_get (D := D) (ci := 11) (v := .ref (mA 1)) (C := "BedFrontierModel") (T := T_Model) (N := 22) hx hb htt i_Model hown hK.1 hP 0 rfl rfl 0 (by decide) (htt _ k_772) (fun _ h9 => h9) rfl d_Model_wars_78 ?_
          refine lv_bipush (v := (10 : Int32)) hx hb d_Model_wars_81 (by decide) ?_
          refine lv_iload hx hb d_Model_wars_83 (lv_at hl 5 rfl) ?_
          refine lv_iadd hx hb d_Model_wars_85 ?_
          obtain ⟨g20, hf⟩ := gdE hf
          refine va_iald hx hb hK.1 hP 1 0 rfl rfl (okI_in g20) d_Model_wars_86 ?_
          refine lv_aload_n hx hb d_Model_wars_87 rfl (lv_at hl 1 rfl) ?_
          refine va_get (D := D) (ci := 11) (v := .ref (mA 1)) (C := "BedFrontierModel") (T := T_Model) (N := 22) hx hb htt i_Model hown hK.1 hP 0 rfl rfl 0 (by decide) (htt _ k_772) (fun _ h9 => h9) rfl d_Model_wars_88 ?_
          refine lv_bipush (v := (16 : Int32)) hx hb d_Model_wars_91 (by decide) ?_
          refine lv_iload hx hb d_Model_wars_93 (lv_at hl 5 rfl) ?_
          refine lv_iadd hx hb d_Model_wars_95 ?_
          obtain ⟨g21, hf⟩ := gdE hf
          refine va_iald hx hb hK.1 hP 1 0 rfl rfl (okI_in g21) d_Model_wars_96 ?_
          refine lv_iload_n hx hb d_Model_wars_97 rfl (lv_at hl 2 rfl) ?_
          refine lv_iload hx hb d_Model_wars_98 (lv_at hl 0 rfl) ?_
          refine lv_iconst (v := (0 : Int32)) hx hb d_Model_wars_100 (by decide) ?_
          obtain ⟨x22, h23, hf⟩ := bdE hf
          refine vR (q0 := 0) (ci := 11) (rest := [.int x18, .int x11]) C0 (c_Model_dueBy l D ty mA sM sN (sM 0 (((10 : Int32) + x12)).toNatClampNeg) (sM 0 (((16 : Int32) + x12)).toNatClampNeg) a1 x14 (0 : Int32) x22 h23) k_965 cal_Model_dueBy hK hP rfl rfl rfl ⟨by rw [hR]; decide, by rw [hR]; decide⟩ rfl rfl rfl hl.1 rfl (Nat.le_of_ble_eq_true rfl) d_Model_wars_101 ⟨Nat.zero_le _, Nat.zero_le _⟩ rfl ?_
          refine lv_isub hx hb d_Model_wars_104 ?_
          refine lv_iadd hx hb d_Model_wars_105 ?_
          refine lv_topi (fun x24 e_x24 => ?_)
          replace hf := nmE hf e_x24
          refine lv_istore_n (lv' := [(3, .int x24), (5, .int x14), (0, .ref (mA 0)), (1, .int a1), (2, .int a2), (4, .int x12)]) hx hb d_Model_wars_106 rfl hl (by decide) rfl (fun ls hl => ?_)
          obtain ⟨x25, e_x25⟩ : ∃ z : Int32, z = (x12 + (1 : Int32)) := ⟨_, rfl⟩
          replace hf := nmE hf e_x25
          refine lv_iinc (v := x25) (lv' := [(4, .int x25), (3, .int x24), (5, .int x14), (0, .ref (mA 0)), (1, .int a1), (2, .int a2)]) hx hb d_Model_wars_107 hl (k := 5) rfl (by rw [e_x25]; rfl) (by decide) rfl (fun ls hl => ?_)
          refine lv_goto (tgt := 28) hx hb d_Model_wars_110 (by decide) ?_
          exact hK28 (x24, x25) hf _ _ ls hP hD hS (lv_sub hl [3, 4, 5, 1, 0] rfl)
      exact B28 4000 ((0 : Int32), (0 : Int32)) hf _ _ ls hP hD hS (lv_sub hl [2, 3, 4, 1, 0] rfl)
    · replace hf := iteT c10 hf
      refine lv_aload_n hx hb d_Model_wars_14 rfl (lv_at hl 0 rfl) ?_
      obtain ⟨x26, sM27, sN28, h29, hf⟩ := bd3E hf
      refine vM (Lc := (L_m ty mA sM sN)) (Lc' := (L_m ty mA sM27 sN28)) (L' := (L_m ty mA sM27 sN28)) (q0 := 0) (ci := 11) (rest := []) C0 (c_Model_bad l D ty mA H.size sM sN x26 sM27 sN28 h29) k_848 cal_Model_bad hK hP hD hS hAq [0, 1, 2, 3, 4, 5, 6, 7, 8, 9, 10, 11] [] [0, 1, 2, 3, 4, 5, 6, 7, 8, 9, 10, 11] [] rfl rfl (by decide) (by decide) (by decide) (by decide) rfl rfl rfl rfl ⟨by rw [hR]; decide, by rw [hR]; decide⟩ rfl rfl rfl hl.1 rfl (Nat.le_of_ble_eq_true rfl) d_Model_wars_15 ⟨by rw [hR]; decide, by rw [hR]; decide⟩ rfl (fun H locs hP hD hS => ?_)
      refine lv_pop hx hb d_Model_wars_18 rfl ?_
      refine lv_sipush (v := (-1000 : Int32)) hx hb d_Model_wars_19 (by decide) ?_
      obtain ⟨rfl, rfl, rfl⟩ := sj3 hf
      exact retM C0 (narI _) hQ hP hD hS d_Model_wars_22
def f_Model_sentry_L30 (a1 : Int32) (a2 : Int32) (sM : PW) (sN : PL) (K30 : Int64 × Int32 → Option (Int32 × PW × PL)) : Int64 × Int32 → Option (Int32 × PW × PL)
  | (x11, x12) =>
  (if (2 : Int32) ≤ x12 then bd2 (f_Model_setFraction sM sN ((100 : Int64) - x11) (100 : Int64)) (fun sM14 sN15 => some ((1 : Int32), sM14, sN15)) else bd (f_Model_clockOf x12 (sM 0 1)) (fun x17 => bd (f_Model_passes sM sN a1 x17) (fun x19 => (if x19 = 0 then bd (f_Model_isThrough sM sN a1 x12 (sM 0 1)) (fun x22 => (if x22 = 0 then nm (x11 * (10 : Int64)) (fun x25 => nm (x12 + (1 : Int32)) (fun x26 => K30 (x25, x26))) else nm (x11 * (a2).toInt64) (fun x27 => nm (x12 + (1 : Int32)) (fun x28 => K30 (x27, x28))))) else nm (x11 * (0 : Int64)) (fun x29 => nm (x12 + (1 : Int32)) (fun x30 => K30 (x29, x30)))))))
def f_Model_sentry (sM : PW) (sN : PL) (a1 : Int32) (a2 : Int32) : Option (Int32 × PW × PL) :=
  bd (f_Model_isDoing sM sN a1) (fun x1 => (if x1 = 0 then bd3 (f_Model_bad sM sN) (fun x4 sM5 sN6 => some (x4, sM5, sN6)) else bd (f_Model_in ((a2).toInt64) (0 : Int64) (10 : Int64)) (fun x8 => (if x8 = 0 then bd3 (f_Model_bad sM sN) (fun x31 sM32 sN33 => some (x31, sM32, sN33)) else loopF (f_Model_sentry_L30 a1 a2 sM sN) 4000 ((1 : Int64), (0 : Int32))))))
set_option maxHeartbeats 4000000 in
set_option maxRecDepth 100000 in
theorem c_Model_sentry (l : Launch) (D : va_G) (ty : Nat → ClassId) (mA : Nat → Nat) (sz : Nat) (sM : PW) (sN : PL) (a1 : Int32) (a2 : Int32) (rr : Int32) (tM : PW) (tN : PL) (hf : f_Model_sentry sM sN a1 a2 = some (rr, tM, tN)) : Met l y_Model_sentry (Cond.code y_Model_sentry prog_13_method_60_code 7 ((Option.some FieldType.int)) :: lw_ok) { frames := 2, cells := 0, slots := 0, locals := 47 } (PcM D ty [.ref (mA 0), .int a1, .int a2] sz (L_m ty mA sM sN)) (QM D (L_m ty mA tM tN) (va_A (L_m ty mA sM sN) sz) (some (.int rr))) 0 0 (va_A (L_m ty mA sM sN) sz) := by
  refine hdM (by decide) (Nat.le_of_ble_eq_true rfl) ?_
  intro p e s m below meth c ls R args Q A C0 hR hQ hnm hAq hP hK hD hS hl
  obtain ⟨hx, hb, hr, hlk, hml, hown, htt⟩ := id C0
  have hl : lv_has ls 7 [(0, .ref (mA 0)), (1, .int a1), (2, .int a2)] := hl
  generalize hH0 : s.heap = H at hP hS ⊢
  have hS : va_S A s.heap H [] := by rw [hH0]; exact hS
  unfold f_Model_sentry at hf
  refine lv_aload_n hx hb d_Model_sentry_0 rfl (lv_at hl 0 rfl) ?_
  refine lv_iload_n hx hb d_Model_sentry_1 rfl (lv_at hl 1 rfl) ?_
  obtain ⟨x1, h2, hf⟩ := bdE hf
  refine vR (q0 := 0) (ci := 11) (rest := []) C0 (c_Model_isDoing l D ty mA sM sN a1 x1 h2) k_931 cal_Model_isDoing hK hP rfl rfl rfl ⟨by rw [hR]; decide, by rw [hR]; decide⟩ rfl rfl rfl hl.1 rfl (Nat.le_of_ble_eq_true rfl) d_Model_sentry_2 ⟨Nat.zero_le _, Nat.zero_le _⟩ rfl ?_
  refine lv_if_eq (tgt := 20) hx hb d_Model_sentry_5 (by decide) (fun c3 => ?_) (fun c3 => ?_)
  · replace hf := iteT c3 hf
    refine lv_aload_n hx hb d_Model_sentry_20 rfl (lv_at hl 0 rfl) ?_
    obtain ⟨x4, sM5, sN6, h7, hf⟩ := bd3E hf
    refine vM (Lc := (L_m ty mA sM sN)) (Lc' := (L_m ty mA sM5 sN6)) (L' := (L_m ty mA sM5 sN6)) (q0 := 0) (ci := 11) (rest := []) C0 (c_Model_bad l D ty mA H.size sM sN x4 sM5 sN6 h7) k_848 cal_Model_bad hK hP hD hS hAq [0, 1, 2, 3, 4, 5, 6, 7, 8, 9, 10, 11] [] [0, 1, 2, 3, 4, 5, 6, 7, 8, 9, 10, 11] [] rfl rfl (by decide) (by decide) (by decide) (by decide) rfl rfl rfl rfl ⟨by rw [hR]; decide, by rw [hR]; decide⟩ rfl rfl rfl hl.1 rfl (Nat.le_of_ble_eq_true rfl) d_Model_sentry_21 ⟨by rw [hR]; decide, by rw [hR]; decide⟩ rfl (fun H locs hP hD hS => ?_)
    obtain ⟨rfl, rfl, rfl⟩ := sj3 hf
    exact retM C0 (narI _) hQ hP hD hS d_Model_sentry_24
  · replace hf := iteF c3 hf
    refine lv_iload_n hx hb d_Model_sentry_8 rfl (lv_at hl 2 rfl) ?_
    refine lv_i2l hx hb d_Model_sentry_9 rfl ?_
    refine lv_lconst (v := (0 : Int64)) hx hb d_Model_sentry_10 (by decide) ?_
    refine lv_ldc2 (v := (10 : Int64)) hx hb hown (htt _ k_1080) d_Model_sentry_11 ?_
    obtain ⟨x8, h9, hf⟩ := bdE hf
    refine scR (rest := []) C0 (c_Model_in l D ty ((a2).toInt64) (0 : Int64) (10 : Int64) x8 h9) k_845 cal_Model_in hK (va_P_nil) ⟨by rw [hR]; decide, by rw [hR]; decide⟩ rfl rfl rfl hl.1 rfl (Nat.le_of_ble_eq_true rfl) d_Model_sentry_14 ⟨Nat.zero_le _, Nat.zero_le _⟩ rfl ?_
    refine lv_if_ne (tgt := 25) hx hb d_Model_sentry_17 (by decide) (fun c10 => ?_) (fun c10 => ?_)
    · replace hf := iteF c10 hf
      refine lv_lconst (v := (1 : Int64)) hx hb d_Model_sentry_25 (by decide) ?_
      refine lv_lstore_n (lv' := [(3, .long (1 : Int64)), (0, .ref (mA 0)), (1, .int a1), (2, .int a2)]) hx hb d_Model_sentry_26 rfl hl (by decide) rfl (fun ls hl => ?_)
      refine lv_iconst (v := (0 : Int32)) hx hb d_Model_sentry_27 (by decide) ?_
      refine lv_istore (lv' := [(5, .int (0 : Int32)), (3, .long (1 : Int64)), (0, .ref (mA 0)), (1, .int a1), (2, .int a2)]) hx hb d_Model_sentry_28 hl (by decide) rfl (fun ls hl => ?_)
      have B30 : ∀ (n : Nat) (x : Int64 × Int32), loopF (f_Model_sentry_L30 a1 a2 sM sN) n x = some (rr, tM, tN) → ∀ (H : Heap) (locs : List Loc) (ls : Array Slot), va_P D vwCl (L_m ty mA sM sN) H → va_D A (L_m ty mA sM sN) → va_S A s.heap H locs → lv_has ls 7 [(0, .ref (mA 0)), (1, .int a1), (2, .int a2), (3, .long (x.1)), (5, .int (x.2))] → W p l e R s m args below meth c H locs 0 0 Q (F0 m 30 ls []) := by
        refine loopW (fun (x : Int64 × Int32) => ∀ (H : Heap) (locs : List Loc) (ls : Array Slot), va_P D vwCl (L_m ty mA sM sN) H → va_D A (L_m ty mA sM sN) → va_S A s.heap H locs → lv_has ls 7 [(0, .ref (mA 0)), (1, .int a1), (2, .int a2), (3, .long (x.1)), (5, .int (x.2))] → W p l e R s m args below meth c H locs 0 0 Q (F0 m 30 ls [])) ?_
        intro K30 hK30 x hf
        obtain ⟨x11, x12⟩ := x
        rw [f_Model_sentry_L30] at hf
        intro H locs ls hP hD hS hl
        have hl : lv_has ls 7 [(0, .ref (mA 0)), (1, .int a1), (2, .int a2), (3, .long x11), (5, .int x12)] := hl
        have hP : va_P D vwCl (L_m ty mA sM sN) H := hP
        have hD : va_D A (L_m ty mA sM sN) := hD
        show W p l e R s m args below meth c H locs 0 0 Q (F0 m 30 ls [])
        refine lv_iload hx hb d_Model_sentry_30 (lv_at hl 4 rfl) ?_
        refine lv_iconst (v := (2 : Int32)) hx hb d_Model_sentry_32 (by decide) ?_
        refine lv_icmp_ge (tgt := 96) hx hb d_Model_sentry_33 (by decide) (fun c13 => ?_) (fun c13 => ?_)
        · replace hf := iteT c13 hf
          refine lv_aload_n hx hb d_Model_sentry_96 rfl (lv_at hl 0 rfl) ?_
          refine lv_ldc2 (v := (100 : Int64)) hx hb hown (htt _ k_1081) d_Model_sentry_97 ?_
          refine lv_lload_n hx hb d_Model_sentry_100 rfl (lv_at hl 3 rfl) ?_
          refine lv_lsub hx hb d_Model_sentry_101 ?_
          refine lv_ldc2 (v := (100 : Int64)) hx hb hown (htt _ k_1081) d_Model_sentry_102 ?_
          obtain ⟨sM14, sN15, h16, hf⟩ := bd2E hf
          refine vM (Lc := (L_m ty mA sM sN)) (Lc' := (L_m ty mA sM14 sN15)) (L' := (L_m ty mA sM14 sN15)) (q0 := 0) (ci := 11) (rest := []) C0 (c_Model_setFraction l D ty mA H.size sM sN ((100 : Int64) - x11) (100 : Int64) sM14 sN15 h16) k_1031 cal_Model_setFraction hK hP hD hS hAq [0, 1, 2, 3, 4, 5, 6, 7, 8, 9, 10, 11] [] [0, 1, 2, 3, 4, 5, 6, 7, 8, 9, 10, 11] [] rfl rfl (by decide) (by decide) (by decide) (by decide) rfl rfl rfl rfl ⟨by rw [hR]; decide, by rw [hR]; decide⟩ rfl rfl rfl hl.1 rfl (Nat.le_of_ble_eq_true rfl) d_Model_sentry_105 ⟨by rw [hR]; decide, by rw [hR]; decide⟩ rfl (fun H locs hP hD hS => ?_)
          refine lv_iconst (v := (1 : Int32)) hx hb d_Model_sentry_108 (by decide) ?_
          obtain ⟨rfl, rfl, rfl⟩ := sj3 hf
          exact retM C0 (narI _) hQ hP hD hS d_Model_sentry_109
        · replace hf := iteF c13 hf
          refine lv_aload_n hx hb d_Model_sentry_36 rfl (lv_at hl 0 rfl) ?_
          refine lv_iload_n hx hb d_Model_sentry_37 rfl (lv_at hl 1 rfl) ?_
          refine lv_iload hx hb d_Model_sentry_38 (lv_at hl 4 rfl) ?_
          refine lv_aload_n hx hb d_Model_sentry_40 rfl (lv_at hl 0 rfl) ?_
          refine va_get (D := D) (ci := 11) (v := .ref (mA 1)) (C := "BedFrontierModel") (T := T_Model) (N := 22) hx hb htt i_Model hown hK.1 hP 0 rfl rfl 0 (by decide) (htt _ k_772) (fun _ h9 => h9) rfl d_Model_sentry_41 ?_
          refine lv_iconst (v := (1 : Int32)) hx hb d_Model_sentry_44 (by decide) ?_
          refine ld_iald (j := 1) hx hb hK.1 hP 1 0 rfl rfl (okI_in (by decide)) rfl d_Model_sentry_45 ?_
          obtain ⟨x17, h18, hf⟩ := bdE hf
          refine scR (rest := [.int a1, .ref (mA 0)]) C0 (c_Model_clockOf l D ty x12 (sM 0 1) x17 h18) k_939 cal_Model_clockOf hK (va_P_nil) ⟨by rw [hR]; decide, by rw [hR]; decide⟩ rfl rfl rfl hl.1 rfl (Nat.le_of_ble_eq_true rfl) d_Model_sentry_46 ⟨Nat.zero_le _, Nat.zero_le _⟩ rfl ?_
          obtain ⟨x19, h20, hf⟩ := bdE hf
          refine vR (q0 := 0) (ci := 11) (rest := []) C0 (c_Model_passes l D ty mA sM sN a1 x17 x19 h20) k_945 cal_Model_passes hK hP rfl rfl rfl ⟨by rw [hR]; decide, by rw [hR]; decide⟩ rfl rfl rfl hl.1 rfl (Nat.le_of_ble_eq_true rfl) d_Model_sentry_49 ⟨Nat.zero_le _, Nat.zero_le _⟩ rfl ?_
          refine lv_istore (lv' := [(6, .int x19), (0, .ref (mA 0)), (1, .int a1), (2, .int a2), (3, .long x11), (5, .int x12)]) hx hb d_Model_sentry_52 hl (by decide) rfl (fun ls hl => ?_)
          refine lv_lload_n hx hb d_Model_sentry_54 rfl (lv_at hl 4 rfl) ?_
          refine lv_iload hx hb d_Model_sentry_55 (lv_at hl 0 rfl) ?_
          refine lv_if_eq (tgt := 64) hx hb d_Model_sentry_57 (by decide) (fun c21 => ?_) (fun c21 => ?_)
          · replace hf := iteT c21 hf
            refine lv_aload_n hx hb d_Model_sentry_64 rfl (lv_at hl 1 rfl) ?_
            refine lv_iload_n hx hb d_Model_sentry_65 rfl (lv_at hl 2 rfl) ?_
            refine lv_iload hx hb d_Model_sentry_66 (lv_at hl 5 rfl) ?_
            refine lv_aload_n hx hb d_Model_sentry_68 rfl (lv_at hl 1 rfl) ?_
            refine va_get (D := D) (ci := 11) (v := .ref (mA 1)) (C := "BedFrontierModel") (T := T_Model) (N := 22) hx hb htt i_Model hown hK.1 hP 0 rfl rfl 0 (by decide) (htt _ k_772) (fun _ h9 => h9) rfl d_Model_sentry_69 ?_
            refine lv_iconst (v := (1 : Int32)) hx hb d_Model_sentry_72 (by decide) ?_
            refine ld_iald (j := 1) hx hb hK.1 hP 1 0 rfl rfl (okI_in (by decide)) rfl d_Model_sentry_73 ?_
            obtain ⟨x22, h23, hf⟩ := bdE hf
            refine vR (q0 := 0) (ci := 11) (rest := [.long x11]) C0 (c_Model_isThrough l D ty mA sM sN a1 x12 (sM 0 1) x22 h23) k_935 cal_Model_isThrough hK hP rfl rfl rfl ⟨by rw [hR]; decide, by rw [hR]; decide⟩ rfl rfl rfl hl.1 rfl (Nat.le_of_ble_eq_true rfl) d_Model_sentry_74 ⟨Nat.zero_le _, Nat.zero_le _⟩ rfl ?_
            refine lv_if_eq (tgt := 85) hx hb d_Model_sentry_77 (by decide) (fun c24 => ?_) (fun c24 => ?_)
            · replace hf := iteT c24 hf
              refine lv_ldc2 (v := (10 : Int64)) hx hb hown (htt _ k_1080) d_Model_sentry_85 ?_
              refine lv_lmul hx hb d_Model_sentry_88 ?_
              refine lv_topl (fun x25 e_x25 => ?_)
              replace hf := nmE hf e_x25
              refine lv_lstore_n (lv' := [(3, .long x25), (6, .int x19), (0, .ref (mA 0)), (1, .int a1), (2, .int a2), (5, .int x12)]) hx hb d_Model_sentry_89 rfl hl (by decide) rfl (fun ls hl => ?_)
              obtain ⟨x26, e_x26⟩ : ∃ z : Int32, z = (x12 + (1 : Int32)) := ⟨_, rfl⟩
              replace hf := nmE hf e_x26
              refine lv_iinc (v := x26) (lv' := [(5, .int x26), (3, .long x25), (6, .int x19), (0, .ref (mA 0)), (1, .int a1), (2, .int a2)]) hx hb d_Model_sentry_90 hl (k := 5) rfl (by rw [e_x26]; rfl) (by decide) rfl (fun ls hl => ?_)
              refine lv_goto (tgt := 30) hx hb d_Model_sentry_93 (by decide) ?_
              exact hK30 (x25, x26) hf _ _ ls hP hD hS (lv_sub hl [3, 4, 5, 1, 0] rfl)
            · replace hf := iteF c24 hf
              refine lv_iload_n hx hb d_Model_sentry_80 rfl (lv_at hl 3 rfl) ?_
              refine lv_i2l hx hb d_Model_sentry_81 rfl ?_
              refine lv_goto (tgt := 88) hx hb d_Model_sentry_82 (by decide) ?_
              refine lv_lmul hx hb d_Model_sentry_88 ?_
              refine lv_topl (fun x27 e_x27 => ?_)
              replace hf := nmE hf e_x27
              refine lv_lstore_n (lv' := [(3, .long x27), (6, .int x19), (0, .ref (mA 0)), (1, .int a1), (2, .int a2), (5, .int x12)]) hx hb d_Model_sentry_89 rfl hl (by decide) rfl (fun ls hl => ?_)
              obtain ⟨x28, e_x28⟩ : ∃ z : Int32, z = (x12 + (1 : Int32)) := ⟨_, rfl⟩
              replace hf := nmE hf e_x28
              refine lv_iinc (v := x28) (lv' := [(5, .int x28), (3, .long x27), (6, .int x19), (0, .ref (mA 0)), (1, .int a1), (2, .int a2)]) hx hb d_Model_sentry_90 hl (k := 5) rfl (by rw [e_x28]; rfl) (by decide) rfl (fun ls hl => ?_)
              refine lv_goto (tgt := 30) hx hb d_Model_sentry_93 (by decide) ?_
              exact hK30 (x27, x28) hf _ _ ls hP hD hS (lv_sub hl [3, 4, 5, 1, 0] rfl)
          · replace hf := iteF c21 hf
            refine lv_lconst (v := (0 : Int64)) hx hb d_Model_sentry_60 (by decide) ?_
            refine lv_goto (tgt := 88) hx hb d_Model_sentry_61 (by decide) ?_
            refine lv_lmul hx hb d_Model_sentry_88 ?_
            refine lv_topl (fun x29 e_x29 => ?_)
            replace hf := nmE hf e_x29
            refine lv_lstore_n (lv' := [(3, .long x29), (6, .int x19), (0, .ref (mA 0)), (1, .int a1), (2, .int a2), (5, .int x12)]) hx hb d_Model_sentry_89 rfl hl (by decide) rfl (fun ls hl => ?_)
            obtain ⟨x30, e_x30⟩ : ∃ z : Int32, z = (x12 + (1 : Int32)) := ⟨_, rfl⟩
            replace hf := nmE hf e_x30
            refine lv_iinc (v := x30) (lv' := [(5, .int x30), (3, .long x29), (6, .int x19), (0, .ref (mA 0)), (1, .int a1), (2, .int a2)]) hx hb d_Model_sentry_90 hl (k := 5) rfl (by rw [e_x30]; rfl) (by decide) rfl (fun ls hl => ?_)
            refine lv_goto (tgt := 30) hx hb d_Model_sentry_93 (by decide) ?_
            exact hK30 (x29, x30) hf _ _ ls hP hD hS (lv_sub hl [3, 4, 5, 1, 0] rfl)
      exact B30 4000 ((1 : Int64), (0 : Int32)) hf _ _ ls hP hD hS (lv_sub hl [2, 3, 4, 1, 0] rfl)
    · replace hf := iteT c10 hf
      refine lv_aload_n hx hb d_Model_sentry_20 rfl (lv_at hl 0 rfl) ?_
      obtain ⟨x31, sM32, sN33, h34, hf⟩ := bd3E hf
      refine vM (Lc := (L_m ty mA sM sN)) (Lc' := (L_m ty mA sM32 sN33)) (L' := (L_m ty mA sM32 sN33)) (q0 := 0) (ci := 11) (rest := []) C0 (c_Model_bad l D ty mA H.size sM sN x31 sM32 sN33 h34) k_848 cal_Model_bad hK hP hD hS hAq [0, 1, 2, 3, 4, 5, 6, 7, 8, 9, 10, 11] [] [0, 1, 2, 3, 4, 5, 6, 7, 8, 9, 10, 11] [] rfl rfl (by decide) (by decide) (by decide) (by decide) rfl rfl rfl rfl ⟨by rw [hR]; decide, by rw [hR]; decide⟩ rfl rfl rfl hl.1 rfl (Nat.le_of_ble_eq_true rfl) d_Model_sentry_21 ⟨by rw [hR]; decide, by rw [hR]; decide⟩ rfl (fun H locs hP hD hS => ?_)
      obtain ⟨rfl, rfl, rfl⟩ := sj3 hf
      exact retM C0 (narI _) hQ hP hD hS d_Model_sentry_24
def f_Model_draw (sM : PW) (sN : PL) (a1 : Int32) : Option (Int32 × PW × PL) :=
  nm (upL sN 17 ((((sN 17) * (1103515245 : Int64)) + (12345 : Int64)) - (((sN 17) * (1103515245 : Int64)) + (12345 : Int64)) / (2147483648 : Int64) * (2147483648 : Int64))) (fun sN1 => gd ((a1).toInt64 != 0) (some (((((sN1 17) / (65536 : Int64)) - ((sN1 17) / (65536 : Int64)) / (a1).toInt64 * (a1).toInt64)).toInt32, sM, sN1)))
set_option maxHeartbeats 4000000 in
set_option maxRecDepth 100000 in
theorem c_Model_draw (l : Launch) (D : va_G) (ty : Nat → ClassId) (mA : Nat → Nat) (sz : Nat) (sM : PW) (sN : PL) (a1 : Int32) (rr : Int32) (tM : PW) (tN : PL) (hf : f_Model_draw sM sN a1 = some (rr, tM, tN)) : Met l y_Model_draw (Cond.code y_Model_draw prog_13_method_61_code 2 ((Option.some FieldType.int)) :: lw_ok) { frames := 0, cells := 0, slots := 0, locals := 0 } (PcM D ty [.ref (mA 0), .int a1] sz (L_m ty mA sM sN)) (QM D (L_m ty mA tM tN) (va_A (L_m ty mA sM sN) sz) (some (.int rr))) 0 0 (va_A (L_m ty mA sM sN) sz) := by
  refine hdM (by decide) (Nat.le_of_ble_eq_true rfl) ?_
  intro p e s m below meth c ls R args Q A C0 hR hQ hnm hAq hP hK hD hS hl
  obtain ⟨hx, hb, hr, hlk, hml, hown, htt⟩ := id C0
  have hl : lv_has ls 2 [(0, .ref (mA 0)), (1, .int a1)] := hl
  generalize hH0 : s.heap = H at hP hS ⊢
  have hS : va_S A s.heap H [] := by rw [hH0]; exact hS
  unfold f_Model_draw at hf
  refine lv_aload_n hx hb d_Model_draw_0 rfl (lv_at hl 0 rfl) ?_
  refine lv_aload_n hx hb d_Model_draw_1 rfl (lv_at hl 0 rfl) ?_
  refine va_get (D := D) (ci := 11) (v := .long (sN 17)) (C := "BedFrontierModel") (T := T_Model) (N := 22) hx hb htt i_Model hown hK.1 hP 0 rfl rfl 17 (by decide) (htt _ k_789) (fun _ h9 => h9) rfl d_Model_draw_2 ?_
  refine lv_ldc2 (v := (1103515245 : Int64)) hx hb hown (htt _ k_1091) d_Model_draw_5 ?_
  refine lv_lmul hx hb d_Model_draw_8 ?_
  refine lv_ldc2 (v := (12345 : Int64)) hx hb hown (htt _ k_1092) d_Model_draw_9 ?_
  refine lv_ladd hx hb d_Model_draw_12 ?_
  refine lv_ldc2 (v := (2147483648 : Int64)) hx hb hown (htt _ k_1093) d_Model_draw_13 ?_
  refine lv_lrem hx hb d_Model_draw_16 (by decide) ?_
  refine va_put (D := D) (ci := 11) (v := .long ((((sN 17) * (1103515245 : Int64)) + (12345 : Int64)) - (((sN 17) * (1103515245 : Int64)) + (12345 : Int64)) / (2147483648 : Int64) * (2147483648 : Int64))) (ty := .long) (C := "BedFrontierModel") (T := T_Model) (N := 22) hx hb htt i_Model t_Model t_Model_ok n_Model hown hK.1 hP hD hS 0 rfl rfl 17 (by decide) (htt _ k_789) (fun _ h9 => h9) rfl pfJ rfl rfl (Nat.le_of_ble_eq_true rfl) d_Model_draw_17 (fun H locs hP hD hS => ?_)
  obtain ⟨sN1, e_sN1⟩ : ∃ z : PL, z = upL sN 17 ((((sN 17) * (1103515245 : Int64)) + (12345 : Int64)) - (((sN 17) * (1103515245 : Int64)) + (12345 : Int64)) / (2147483648 : Int64) * (2147483648 : Int64)) := ⟨_, rfl⟩
  replace hf := nmE hf e_sN1
  have hP : va_P D vwCl (L_m ty mA sM sN1) H := by rw [e_sN1]; exact hP
  have hD : va_D A (L_m ty mA sM sN1) := by rw [e_sN1]; exact hD
  refine lv_aload_n hx hb d_Model_draw_20 rfl (lv_at hl 0 rfl) ?_
  refine va_get (D := D) (ci := 11) (v := .long (sN1 17)) (C := "BedFrontierModel") (T := T_Model) (N := 22) hx hb htt i_Model hown hK.1 hP 0 rfl rfl 17 (by decide) (htt _ k_789) (fun _ h9 => h9) rfl d_Model_draw_21 ?_
  refine lv_ldc2 (v := (65536 : Int64)) hx hb hown (htt _ k_1094) d_Model_draw_24 ?_
  refine lv_ldiv hx hb d_Model_draw_27 (by decide) ?_
  refine lv_iload_n hx hb d_Model_draw_28 rfl (lv_at hl 1 rfl) ?_
  refine lv_i2l hx hb d_Model_draw_29 rfl ?_
  obtain ⟨g2, hf⟩ := gdE hf
  refine lv_lrem hx hb d_Model_draw_30 (ne0_ofL g2) ?_
  refine lv_l2i hx hb d_Model_draw_31 rfl ?_
  obtain ⟨rfl, rfl, rfl⟩ := sj3 hf
  exact retM C0 (narI _) hQ hP hD hS d_Model_draw_32
def f_Model_days_L163 (x17 : Int32) (K163 : Int32 × PW × PL → Option (Int32 × PW × PL)) : Int32 × PW × PL → Option (Int32 × PW × PL)
  | (x22, sM23, sN24) =>
  (if (4 : Int32) ≤ x22 then some (x17, sM23, sN24) else gd (okI x22 4) (gd (okI x22 53) (nm (up sM23 0 (upd (sM23 0) ((x22).toNatClampNeg) (sM23 16 (x22).toNatClampNeg))) (fun sM28 => nm (x22 + (1 : Int32)) (fun x29 => K163 (x29, sM28, sN24))))))
def f_Model_days_L80 (a2 : Int32) (K80 : Int32 × Int32 × PW × PL → Option (Int32 × PW × PL)) : Int32 × Int32 × PW × PL → Option (Int32 × PW × PL)
  | (x17, x18, sM19, sN20) =>
  (if a2 ≤ x18 then loopF (f_Model_days_L163 x17) 4000 ((0 : Int32), sM19, sN20) else bd3 (f_Model_draw sM19 sN20 (sM19 0 9)) (fun x30 sM31 sN32 => bd3 (f_Model_draw sM31 sN32 (2 : Int32)) (fun x34 sM35 sN36 => bd (f_Model_isThrough sM35 sN36 x30 x34 (sM35 0 1)) (fun x38 => (if x38 = 0 then nm (up sM35 0 (upd (sM35 0) 1 (((sM35 0 1) + (1 : Int32)) - ((sM35 0 1) + (1 : Int32)) / (24 : Int32) * (24 : Int32)))) (fun sM41 => nm (x18 + (1 : Int32)) (fun x42 => K80 (x17, x42, sM41, sN36))) else bd3 (f_Model_isDone sM35 sN36 x30 x34) (fun x43 sM44 sN45 => nm (x17 + x43) (fun x47 => nm (x18 + (1 : Int32)) (fun x48 => K80 (x47, x48, sM44, sN45)))))))))
def f_Model_days_L46 (a1 : Int32) (a2 : Int32) (K46 : Int32 × PW × PL → Option (Int32 × PW × PL)) : Int32 × PW × PL → Option (Int32 × PW × PL)
  | (x12, sM13, sN14) =>
  (if (4 : Int32) ≤ x12 then nm (upL sN14 17 (a1).toInt64) (fun sN16 => loopF (f_Model_days_L80 a2) 4000 ((0 : Int32), (0 : Int32), sM13, sN16)) else gd (okI x12 53) (gd (okI x12 4) (nm (up sM13 16 (upd (sM13 16) ((x12).toNatClampNeg) (sM13 0 (x12).toNatClampNeg))) (fun sM51 => nm (x12 + (1 : Int32)) (fun x52 => K46 (x52, sM51, sN14))))))
def f_Model_days (sM : PW) (sN : PL) (a1 : Int32) (a2 : Int32) : Option (Int32 × PW × PL) :=
  bd (f_Model_in ((a1).toInt64) (0 : Int64) (999999 : Int64)) (fun x1 => (if x1 = 0 then bd3 (f_Model_bad sM sN) (fun x4 sM5 sN6 => some (x4, sM5, sN6)) else bd (f_Model_in ((a2).toInt64) (0 : Int64) (60 : Int64)) (fun x8 => (if x8 = 0 then bd3 (f_Model_bad sM sN) (fun x57 sM58 sN59 => some (x57, sM58, sN59)) else (if (sM 0 9) = 0 then bd3 (f_Model_no sM sN) (fun x53 sM54 sN55 => some (x53, sM54, sN55)) else loopF (f_Model_days_L46 a1 a2) 4000 ((0 : Int32), sM, sN))))))
set_option maxHeartbeats 4000000 in
set_option maxRecDepth 100000 in
theorem c_Model_days (l : Launch) (D : va_G) (ty : Nat → ClassId) (mA : Nat → Nat) (sz : Nat) (sM : PW) (sN : PL) (a1 : Int32) (a2 : Int32) (rr : Int32) (tM : PW) (tN : PL) (hf : f_Model_days sM sN a1 a2 = some (rr, tM, tN)) : Met l y_Model_days (Cond.code y_Model_days prog_13_method_62_code 7 ((Option.some FieldType.int)) :: lw_ok) { frames := 3, cells := 0, slots := 0, locals := 73 } (PcM D ty [.ref (mA 0), .int a1, .int a2] sz (L_m ty mA sM sN)) (QM D (L_m ty mA tM tN) (va_A (L_m ty mA sM sN) sz) (some (.int rr))) 0 0 (va_A (L_m ty mA sM sN) sz) := by
  refine hdM (by decide) (Nat.le_of_ble_eq_true rfl) ?_
  intro p e s m below meth c ls R args Q A C0 hR hQ hnm hAq hP hK hD hS hl
  obtain ⟨hx, hb, hr, hlk, hml, hown, htt⟩ := id C0
  have hl : lv_has ls 7 [(0, .ref (mA 0)), (1, .int a1), (2, .int a2)] := hl
  generalize hH0 : s.heap = H at hP hS ⊢
  have hS : va_S A s.heap H [] := by rw [hH0]; exact hS
  unfold f_Model_days at hf
  refine lv_iload_n hx hb d_Model_days_0 rfl (lv_at hl 1 rfl) ?_
  refine lv_i2l hx hb d_Model_days_1 rfl ?_
  refine lv_lconst (v := (0 : Int64)) hx hb d_Model_days_2 (by decide) ?_
  refine lv_ldc2 (v := (999999 : Int64)) hx hb hown (htt _ k_1086) d_Model_days_3 ?_
  obtain ⟨x1, h2, hf⟩ := bdE hf
  refine scR (rest := []) C0 (c_Model_in l D ty ((a1).toInt64) (0 : Int64) (999999 : Int64) x1 h2) k_845 cal_Model_in hK (va_P_nil) ⟨by rw [hR]; decide, by rw [hR]; decide⟩ rfl rfl rfl hl.1 rfl (Nat.le_of_ble_eq_true rfl) d_Model_days_6 ⟨Nat.zero_le _, Nat.zero_le _⟩ rfl ?_
  refine lv_if_eq (tgt := 24) hx hb d_Model_days_9 (by decide) (fun c3 => ?_) (fun c3 => ?_)
  · replace hf := iteT c3 hf
    refine lv_aload_n hx hb d_Model_days_24 rfl (lv_at hl 0 rfl) ?_
    obtain ⟨x4, sM5, sN6, h7, hf⟩ := bd3E hf
    refine vM (Lc := (L_m ty mA sM sN)) (Lc' := (L_m ty mA sM5 sN6)) (L' := (L_m ty mA sM5 sN6)) (q0 := 0) (ci := 11) (rest := []) C0 (c_Model_bad l D ty mA H.size sM sN x4 sM5 sN6 h7) k_848 cal_Model_bad hK hP hD hS hAq [0, 1, 2, 3, 4, 5, 6, 7, 8, 9, 10, 11] [] [0, 1, 2, 3, 4, 5, 6, 7, 8, 9, 10, 11] [] rfl rfl (by decide) (by decide) (by decide) (by decide) rfl rfl rfl rfl ⟨by rw [hR]; decide, by rw [hR]; decide⟩ rfl rfl rfl hl.1 rfl (Nat.le_of_ble_eq_true rfl) d_Model_days_25 ⟨by rw [hR]; decide, by rw [hR]; decide⟩ rfl (fun H locs hP hD hS => ?_)
    obtain ⟨rfl, rfl, rfl⟩ := sj3 hf
    exact retM C0 (narI _) hQ hP hD hS d_Model_days_28
  · replace hf := iteF c3 hf
    refine lv_iload_n hx hb d_Model_days_12 rfl (lv_at hl 2 rfl) ?_
    refine lv_i2l hx hb d_Model_days_13 rfl ?_
    refine lv_lconst (v := (0 : Int64)) hx hb d_Model_days_14 (by decide) ?_
    refine lv_ldc2 (v := (60 : Int64)) hx hb hown (htt _ k_1051) d_Model_days_15 ?_
    obtain ⟨x8, h9, hf⟩ := bdE hf
    refine scR (rest := []) C0 (c_Model_in l D ty ((a2).toInt64) (0 : Int64) (60 : Int64) x8 h9) k_845 cal_Model_in hK (va_P_nil) ⟨by rw [hR]; decide, by rw [hR]; decide⟩ rfl rfl rfl hl.1 rfl (Nat.le_of_ble_eq_true rfl) d_Model_days_18 ⟨Nat.zero_le _, Nat.zero_le _⟩ rfl ?_
    refine lv_if_ne (tgt := 29) hx hb d_Model_days_21 (by decide) (fun c10 => ?_) (fun c10 => ?_)
    · replace hf := iteF c10 hf
      refine lv_aload_n hx hb d_Model_days_29 rfl (lv_at hl 0 rfl) ?_
      refine va_get (D := D) (ci := 11) (v := .ref (mA 1)) (C := "BedFrontierModel") (T := T_Model) (N := 22) hx hb htt i_Model hown hK.1 hP 0 rfl rfl 0 (by decide) (htt _ k_772) (fun _ h9 => h9) rfl d_Model_days_30 ?_
      refine lv_bipush (v := (9 : Int32)) hx hb d_Model_days_33 (by decide) ?_
      refine ld_iald (j := 9) hx hb hK.1 hP 1 0 rfl rfl (okI_in (by decide)) rfl d_Model_days_35 ?_
      refine lv_if_ne (tgt := 44) hx hb d_Model_days_36 (by decide) (fun c11 => ?_) (fun c11 => ?_)
      · replace hf := iteF c11 hf
        refine lv_iconst (v := (0 : Int32)) hx hb d_Model_days_44 (by decide) ?_
        refine lv_istore_n (lv' := [(3, .int (0 : Int32)), (0, .ref (mA 0)), (1, .int a1), (2, .int a2)]) hx hb d_Model_days_45 rfl hl (by decide) rfl (fun ls hl => ?_)
        have B46 : ∀ (n : Nat) (x : Int32 × PW × PL), loopF (f_Model_days_L46 a1 a2) n x = some (rr, tM, tN) → ∀ (H : Heap) (locs : List Loc) (ls : Array Slot), va_P D vwCl (L_m ty mA (x.2.1) (x.2.2)) H → va_D A (L_m ty mA (x.2.1) (x.2.2)) → va_S A s.heap H locs → lv_has ls 7 [(0, .ref (mA 0)), (1, .int a1), (2, .int a2), (3, .int (x.1))] → W p l e R s m args below meth c H locs 0 0 Q (F0 m 46 ls []) := by
          refine loopW (fun (x : Int32 × PW × PL) => ∀ (H : Heap) (locs : List Loc) (ls : Array Slot), va_P D vwCl (L_m ty mA (x.2.1) (x.2.2)) H → va_D A (L_m ty mA (x.2.1) (x.2.2)) → va_S A s.heap H locs → lv_has ls 7 [(0, .ref (mA 0)), (1, .int a1), (2, .int a2), (3, .int (x.1))] → W p l e R s m args below meth c H locs 0 0 Q (F0 m 46 ls [])) ?_
          intro K46 hK46 x hf
          obtain ⟨x12, sM13, sN14⟩ := x
          rw [f_Model_days_L46] at hf
          intro H locs ls hP hD hS hl
          have hl : lv_has ls 7 [(0, .ref (mA 0)), (1, .int a1), (2, .int a2), (3, .int x12)] := hl
          have hP : va_P D vwCl (L_m ty mA sM13 sN14) H := hP
          have hD : va_D A (L_m ty mA sM13 sN14) := hD
          show W p l e R s m args below meth c H locs 0 0 Q (F0 m 46 ls [])
          refine lv_iload_n hx hb d_Model_days_46 rfl (lv_at hl 3 rfl) ?_
          refine lv_iconst (v := (4 : Int32)) hx hb d_Model_days_47 (by decide) ?_
          refine lv_icmp_ge (tgt := 69) hx hb d_Model_days_48 (by decide) (fun c15 => ?_) (fun c15 => ?_)
          · replace hf := iteT c15 hf
            refine lv_aload_n hx hb d_Model_days_69 rfl (lv_at hl 0 rfl) ?_
            refine lv_iload_n hx hb d_Model_days_70 rfl (lv_at hl 1 rfl) ?_
            refine lv_i2l hx hb d_Model_days_71 rfl ?_
            refine va_put (D := D) (ci := 11) (v := .long (a1).toInt64) (ty := .long) (C := "BedFrontierModel") (T := T_Model) (N := 22) hx hb htt i_Model t_Model t_Model_ok n_Model hown hK.1 hP hD hS 0 rfl rfl 17 (by decide) (htt _ k_789) (fun _ h9 => h9) rfl pfJ rfl rfl (Nat.le_of_ble_eq_true rfl) d_Model_days_72 (fun H locs hP hD hS => ?_)
            obtain ⟨sN16, e_sN16⟩ : ∃ z : PL, z = upL sN14 17 (a1).toInt64 := ⟨_, rfl⟩
            replace hf := nmE hf e_sN16
            have hP : va_P D vwCl (L_m ty mA sM13 sN16) H := by rw [e_sN16]; exact hP
            have hD : va_D A (L_m ty mA sM13 sN16) := by rw [e_sN16]; exact hD
            refine lv_iconst (v := (0 : Int32)) hx hb d_Model_days_75 (by decide) ?_
            refine lv_istore_n (lv' := [(3, .int (0 : Int32)), (0, .ref (mA 0)), (1, .int a1), (2, .int a2)]) hx hb d_Model_days_76 rfl hl (by decide) rfl (fun ls hl => ?_)
            refine lv_iconst (v := (0 : Int32)) hx hb d_Model_days_77 (by decide) ?_
            refine lv_istore (lv' := [(4, .int (0 : Int32)), (3, .int (0 : Int32)), (0, .ref (mA 0)), (1, .int a1), (2, .int a2)]) hx hb d_Model_days_78 hl (by decide) rfl (fun ls hl => ?_)
            have B80 : ∀ (n : Nat) (x : Int32 × Int32 × PW × PL), loopF (f_Model_days_L80 a2) n x = some (rr, tM, tN) → ∀ (H : Heap) (locs : List Loc) (ls : Array Slot), va_P D vwCl (L_m ty mA (x.2.2.1) (x.2.2.2)) H → va_D A (L_m ty mA (x.2.2.1) (x.2.2.2)) → va_S A s.heap H locs → lv_has ls 7 [(0, .ref (mA 0)), (2, .int a2), (3, .int (x.1)), (4, .int (x.2.1))] → W p l e R s m args below meth c H locs 0 0 Q (F0 m 80 ls []) := by
              refine loopW (fun (x : Int32 × Int32 × PW × PL) => ∀ (H : Heap) (locs : List Loc) (ls : Array Slot), va_P D vwCl (L_m ty mA (x.2.2.1) (x.2.2.2)) H → va_D A (L_m ty mA (x.2.2.1) (x.2.2.2)) → va_S A s.heap H locs → lv_has ls 7 [(0, .ref (mA 0)), (2, .int a2), (3, .int (x.1)), (4, .int (x.2.1))] → W p l e R s m args below meth c H locs 0 0 Q (F0 m 80 ls [])) ?_
              intro K80 hK80 x hf
              obtain ⟨x17, x18, sM19, sN20⟩ := x
              rw [f_Model_days_L80] at hf
              intro H locs ls hP hD hS hl
              have hl : lv_has ls 7 [(0, .ref (mA 0)), (2, .int a2), (3, .int x17), (4, .int x18)] := hl
              have hP : va_P D vwCl (L_m ty mA sM19 sN20) H := hP
              have hD : va_D A (L_m ty mA sM19 sN20) := hD
              show W p l e R s m args below meth c H locs 0 0 Q (F0 m 80 ls [])
              refine lv_iload hx hb d_Model_days_80 (lv_at hl 3 rfl) ?_
              refine lv_iload_n hx hb d_Model_days_82 rfl (lv_at hl 1 rfl) ?_
              refine lv_icmp_ge (tgt := 160) hx hb d_Model_days_83 (by decide) (fun c21 => ?_) (fun c21 => ?_)
              · replace hf := iteT c21 hf
                refine lv_iconst (v := (0 : Int32)) hx hb d_Model_days_160 (by decide) ?_
                refine lv_istore (lv' := [(4, .int (0 : Int32)), (0, .ref (mA 0)), (2, .int a2), (3, .int x17)]) hx hb d_Model_days_161 hl (by decide) rfl (fun ls hl => ?_)
                have B163 : ∀ (n : Nat) (x : Int32 × PW × PL), loopF (f_Model_days_L163 x17) n x = some (rr, tM, tN) → ∀ (H : Heap) (locs : List Loc) (ls : Array Slot), va_P D vwCl (L_m ty mA (x.2.1) (x.2.2)) H → va_D A (L_m ty mA (x.2.1) (x.2.2)) → va_S A s.heap H locs → lv_has ls 7 [(0, .ref (mA 0)), (3, .int x17), (4, .int (x.1))] → W p l e R s m args below meth c H locs 0 0 Q (F0 m 163 ls []) := by
                  refine loopW (fun (x : Int32 × PW × PL) => ∀ (H : Heap) (locs : List Loc) (ls : Array Slot), va_P D vwCl (L_m ty mA (x.2.1) (x.2.2)) H → va_D A (L_m ty mA (x.2.1) (x.2.2)) → va_S A s.heap H locs → lv_has ls 7 [(0, .ref (mA 0)), (3, .int x17), (4, .int (x.1))] → W p l e R s m args below meth c H locs 0 0 Q (F0 m 163 ls [])) ?_
                  intro K163 hK163 x hf
                  obtain ⟨x22, sM23, sN24⟩ := x
                  rw [f_Model_days_L163] at hf
                  intro H locs ls hP hD hS hl
                  have hl : lv_has ls 7 [(0, .ref (mA 0)), (3, .int x17), (4, .int x22)] := hl
                  have hP : va_P D vwCl (L_m ty mA sM23 sN24) H := hP
                  have hD : va_D A (L_m ty mA sM23 sN24) := hD
                  show W p l e R s m args below meth c H locs 0 0 Q (F0 m 163 ls [])
                  refine lv_iload hx hb d_Model_days_163 (lv_at hl 2 rfl) ?_
                  refine lv_iconst (v := (4 : Int32)) hx hb d_Model_days_165 (by decide) ?_
                  refine lv_icmp_ge (tgt := 189) hx hb d_Model_days_166 (by decide) (fun c25 => ?_) (fun c25 => ?_)
                  · replace hf := iteT c25 hf
                    refine lv_iload_n hx hb d_Model_days_189 rfl (lv_at hl 1 rfl) ?_
                    obtain ⟨rfl, rfl, rfl⟩ := sj3 hf
                    exact retM C0 (narI _) hQ hP hD hS d_Model_days_190
                  · replace hf := iteF c25 hf
                    refine lv_aload_n hx hb d_Model_days_169 rfl (lv_at hl 0 rfl) ?_
                    refine va_get (D := D) (ci := 11) (v := .ref (mA 1)) (C := "BedFrontierModel") (T := T_Model) (N := 22) hx hb htt i_Model hown hK.1 hP 0 rfl rfl 0 (by decide) (htt _ k_772) (fun _ h9 => h9) rfl d_Model_days_170 ?_
                    refine lv_iload hx hb d_Model_days_173 (lv_at hl 2 rfl) ?_
                    refine lv_aload_n hx hb d_Model_days_175 rfl (lv_at hl 0 rfl) ?_
                    refine va_get (D := D) (ci := 11) (v := .ref (mA 17)) (C := "BedFrontierModel") (T := T_Model) (N := 22) hx hb htt i_Model hown hK.1 hP 0 rfl rfl 16 (by decide) (htt _ k_788) (fun _ h9 => h9) rfl d_Model_days_176 ?_
                    refine lv_iload hx hb d_Model_days_179 (lv_at hl 2 rfl) ?_
                    obtain ⟨g26, hf⟩ := gdE hf
                    refine va_iald hx hb hK.1 hP 7 0 rfl rfl (okI_in g26) d_Model_days_181 ?_
                    obtain ⟨g27, hf⟩ := gdE hf
                    refine va_iast hx hb hK.1 hP hD hS 1 0 rfl rfl (okI_in g27) d_Model_days_182 (fun H locs hP hD hS => ?_)
                    obtain ⟨sM28, e_sM28⟩ : ∃ z : PW, z = up sM23 0 (upd (sM23 0) ((x22).toNatClampNeg) (sM23 16 (x22).toNatClampNeg)) := ⟨_, rfl⟩
                    replace hf := nmE hf e_sM28
                    have hP : va_P D vwCl (L_m ty mA sM28 sN24) H := by rw [e_sM28]; exact hP
                    have hD : va_D A (L_m ty mA sM28 sN24) := by rw [e_sM28]; exact hD
                    obtain ⟨x29, e_x29⟩ : ∃ z : Int32, z = (x22 + (1 : Int32)) := ⟨_, rfl⟩
                    replace hf := nmE hf e_x29
                    refine lv_iinc (v := x29) (lv' := [(4, .int x29), (0, .ref (mA 0)), (3, .int x17)]) hx hb d_Model_days_183 hl (k := 2) rfl (by rw [e_x29]; rfl) (by decide) rfl (fun ls hl => ?_)
                    refine lv_goto (tgt := 163) hx hb d_Model_days_186 (by decide) ?_
                    exact hK163 (x29, sM28, sN24) hf _ _ ls hP hD hS (lv_sub hl [1, 2, 0] rfl)
                exact B163 4000 ((0 : Int32), sM19, sN20) hf _ _ ls hP hD hS (lv_sub hl [1, 3, 0] rfl)
              · replace hf := iteF c21 hf
                refine lv_aload_n hx hb d_Model_days_86 rfl (lv_at hl 0 rfl) ?_
                refine lv_aload_n hx hb d_Model_days_87 rfl (lv_at hl 0 rfl) ?_
                refine va_get (D := D) (ci := 11) (v := .ref (mA 1)) (C := "BedFrontierModel") (T := T_Model) (N := 22) hx hb htt i_Model hown hK.1 hP 0 rfl rfl 0 (by decide) (htt _ k_772) (fun _ h9 => h9) rfl d_Model_days_88 ?_
                refine lv_bipush (v := (9 : Int32)) hx hb d_Model_days_91 (by decide) ?_
                refine ld_iald (j := 9) hx hb hK.1 hP 1 0 rfl rfl (okI_in (by decide)) rfl d_Model_days_93 ?_
                obtain ⟨x30, sM31, sN32, h33, hf⟩ := bd3E hf
                refine vM (Lc := (L_m ty mA sM19 sN20)) (Lc' := (L_m ty mA sM31 sN32)) (L' := (L_m ty mA sM31 sN32)) (q0 := 0) (ci := 11) (rest := []) C0 (c_Model_draw l D ty mA H.size sM19 sN20 (sM19 0 9) x30 sM31 sN32 h33) k_1087 cal_Model_draw hK hP hD hS hAq [0, 1, 2, 3, 4, 5, 6, 7, 8, 9, 10, 11] [] [0, 1, 2, 3, 4, 5, 6, 7, 8, 9, 10, 11] [] rfl rfl (by decide) (by decide) (by decide) (by decide) rfl rfl rfl rfl ⟨by rw [hR]; decide, by rw [hR]; decide⟩ rfl rfl rfl hl.1 rfl (Nat.le_of_ble_eq_true rfl) d_Model_days_94 ⟨by rw [hR]; decide, by rw [hR]; decide⟩ rfl (fun H locs hP hD hS => ?_)
                refine lv_istore (lv' := [(5, .int x30), (0, .ref (mA 0)), (2, .int a2), (3, .int x17), (4, .int x18)]) hx hb d_Model_days_97 hl (by decide) rfl (fun ls hl => ?_)
                refine lv_aload_n hx hb d_Model_days_99 rfl (lv_at hl 1 rfl) ?_
                refine lv_iconst (v := (2 : Int32)) hx hb d_Model_days_100 (by decide) ?_
                obtain ⟨x34, sM35, sN36, h37, hf⟩ := bd3E hf
                refine vM (Lc := (L_m ty mA sM31 sN32)) (Lc' := (L_m ty mA sM35 sN36)) (L' := (L_m ty mA sM35 sN36)) (q0 := 0) (ci := 11) (rest := []) C0 (c_Model_draw l D ty mA H.size sM31 sN32 (2 : Int32) x34 sM35 sN36 h37) k_1087 cal_Model_draw hK hP hD hS hAq [0, 1, 2, 3, 4, 5, 6, 7, 8, 9, 10, 11] [] [0, 1, 2, 3, 4, 5, 6, 7, 8, 9, 10, 11] [] rfl rfl (by decide) (by decide) (by decide) (by decide) rfl rfl rfl rfl ⟨by rw [hR]; decide, by rw [hR]; decide⟩ rfl rfl rfl hl.1 rfl (Nat.le_of_ble_eq_true rfl) d_Model_days_101 ⟨by rw [hR]; decide, by rw [hR]; decide⟩ rfl (fun H locs hP hD hS => ?_)
                refine lv_istore (lv' := [(6, .int x34), (5, .int x30), (0, .ref (mA 0)), (2, .int a2), (3, .int x17), (4, .int x18)]) hx hb d_Model_days_104 hl (by decide) rfl (fun ls hl => ?_)
                refine lv_aload_n hx hb d_Model_days_106 rfl (lv_at hl 2 rfl) ?_
                refine lv_iload hx hb d_Model_days_107 (lv_at hl 1 rfl) ?_
                refine lv_iload hx hb d_Model_days_109 (lv_at hl 0 rfl) ?_
                refine lv_aload_n hx hb d_Model_days_111 rfl (lv_at hl 2 rfl) ?_
                refine va_get (D := D) (ci := 11) (v := .ref (mA 1)) (C := "BedFrontierModel") (T := T_Model) (N := 22) hx hb htt i_Model hown hK.1 hP 0 rfl rfl 0 (by decide) (htt _ k_772) (fun _ h9 => h9) rfl d_Model_days_112 ?_
                refine lv_iconst (v := (1 : Int32)) hx hb d_Model_days_115 (by decide) ?_
                refine ld_iald (j := 1) hx hb hK.1 hP 1 0 rfl rfl (okI_in (by decide)) rfl d_Model_days_116 ?_
                obtain ⟨x38, h39, hf⟩ := bdE hf
                refine vR (q0 := 0) (ci := 11) (rest := []) C0 (c_Model_isThrough l D ty mA sM35 sN36 x30 x34 (sM35 0 1) x38 h39) k_935 cal_Model_isThrough hK hP rfl rfl rfl ⟨by rw [hR]; decide, by rw [hR]; decide⟩ rfl rfl rfl hl.1 rfl (Nat.le_of_ble_eq_true rfl) d_Model_days_117 ⟨Nat.zero_le _, Nat.zero_le _⟩ rfl ?_
                refine lv_if_eq (tgt := 137) hx hb d_Model_days_120 (by decide) (fun c40 => ?_) (fun c40 => ?_)
                · replace hf := iteT c40 hf
                  refine lv_aload_n hx hb d_Model_days_137 rfl (lv_at hl 2 rfl) ?_
                  refine va_get (D := D) (ci := 11) (v := .ref (mA 1)) (C := "BedFrontierModel") (T := T_Model) (N := 22) hx hb htt i_Model hown hK.1 hP 0 rfl rfl 0 (by decide) (htt _ k_772) (fun _ h9 => h9) rfl d_Model_days_138 ?_
                  refine lv_iconst (v := (1 : Int32)) hx hb d_Model_days_141 (by decide) ?_
                  refine lv_aload_n hx hb d_Model_days_142 rfl (lv_at hl 2 rfl) ?_
                  refine va_get (D := D) (ci := 11) (v := .ref (mA 1)) (C := "BedFrontierModel") (T := T_Model) (N := 22) hx hb htt i_Model hown hK.1 hP 0 rfl rfl 0 (by decide) (htt _ k_772) (fun _ h9 => h9) rfl d_Model_days_143 ?_
                  refine lv_iconst (v := (1 : Int32)) hx hb d_Model_days_146 (by decide) ?_
                  refine ld_iald (j := 1) hx hb hK.1 hP 1 0 rfl rfl (okI_in (by decide)) rfl d_Model_days_147 ?_
                  refine lv_iconst (v := (1 : Int32)) hx hb d_Model_days_148 (by decide) ?_
                  refine lv_iadd hx hb d_Model_days_149 ?_
                  refine lv_bipush (v := (24 : Int32)) hx hb d_Model_days_150 (by decide) ?_
                  refine lv_irem hx hb d_Model_days_152 (by decide) ?_
                  refine st_iast (j := 1) hx hb hK.1 hP hD hS 1 0 rfl rfl (okI_in (by decide)) rfl d_Model_days_153 (fun H locs hP hD hS => ?_)
                  obtain ⟨sM41, e_sM41⟩ : ∃ z : PW, z = up sM35 0 (upd (sM35 0) 1 (((sM35 0 1) + (1 : Int32)) - ((sM35 0 1) + (1 : Int32)) / (24 : Int32) * (24 : Int32))) := ⟨_, rfl⟩
                  replace hf := nmE hf e_sM41
                  have hP : va_P D vwCl (L_m ty mA sM41 sN36) H := by rw [e_sM41]; exact hP
                  have hD : va_D A (L_m ty mA sM41 sN36) := by rw [e_sM41]; exact hD
                  obtain ⟨x42, e_x42⟩ : ∃ z : Int32, z = (x18 + (1 : Int32)) := ⟨_, rfl⟩
                  replace hf := nmE hf e_x42
                  refine lv_iinc (v := x42) (lv' := [(4, .int x42), (6, .int x34), (5, .int x30), (0, .ref (mA 0)), (2, .int a2), (3, .int x17)]) hx hb d_Model_days_154 hl (k := 5) rfl (by rw [e_x42]; rfl) (by decide) rfl (fun ls hl => ?_)
                  refine lv_goto (tgt := 80) hx hb d_Model_days_157 (by decide) ?_
                  exact hK80 (x17, x42, sM41, sN36) hf _ _ ls hP hD hS (lv_sub hl [3, 4, 5, 0] rfl)
                · replace hf := iteF c40 hf
                  refine lv_iload_n hx hb d_Model_days_123 rfl (lv_at hl 4 rfl) ?_
                  refine lv_aload_n hx hb d_Model_days_124 rfl (lv_at hl 2 rfl) ?_
                  refine lv_iload hx hb d_Model_days_125 (lv_at hl 1 rfl) ?_
                  refine lv_iload hx hb d_Model_days_127 (lv_at hl 0 rfl) ?_
                  obtain ⟨x43, sM44, sN45, h46, hf⟩ := bd3E hf
                  refine vM (Lc := (L_m ty mA sM35 sN36)) (Lc' := (L_m ty mA sM44 sN45)) (L' := (L_m ty mA sM44 sN45)) (q0 := 0) (ci := 11) (rest := [.int x17]) C0 (c_Model_isDone l D ty mA H.size sM35 sN36 x30 x34 x43 sM44 sN45 h46) k_957 cal_Model_isDone hK hP hD hS hAq [0, 1, 2, 3, 4, 5, 6, 7, 8, 9, 10, 11] [] [0, 1, 2, 3, 4, 5, 6, 7, 8, 9, 10, 11] [] rfl rfl (by decide) (by decide) (by decide) (by decide) rfl rfl rfl rfl ⟨by rw [hR]; decide, by rw [hR]; decide⟩ rfl rfl rfl hl.1 rfl (Nat.le_of_ble_eq_true rfl) d_Model_days_129 ⟨by rw [hR]; decide, by rw [hR]; decide⟩ rfl (fun H locs hP hD hS => ?_)
                  refine lv_iadd hx hb d_Model_days_132 ?_
                  refine lv_topi (fun x47 e_x47 => ?_)
                  replace hf := nmE hf e_x47
                  refine lv_istore_n (lv' := [(3, .int x47), (6, .int x34), (5, .int x30), (0, .ref (mA 0)), (2, .int a2), (4, .int x18)]) hx hb d_Model_days_133 rfl hl (by decide) rfl (fun ls hl => ?_)
                  refine lv_goto (tgt := 154) hx hb d_Model_days_134 (by decide) ?_
                  obtain ⟨x48, e_x48⟩ : ∃ z : Int32, z = (x18 + (1 : Int32)) := ⟨_, rfl⟩
                  replace hf := nmE hf e_x48
                  refine lv_iinc (v := x48) (lv' := [(4, .int x48), (3, .int x47), (6, .int x34), (5, .int x30), (0, .ref (mA 0)), (2, .int a2)]) hx hb d_Model_days_154 hl (k := 5) rfl (by rw [e_x48]; rfl) (by decide) rfl (fun ls hl => ?_)
                  refine lv_goto (tgt := 80) hx hb d_Model_days_157 (by decide) ?_
                  exact hK80 (x47, x48, sM44, sN45) hf _ _ ls hP hD hS (lv_sub hl [4, 5, 1, 0] rfl)
            exact B80 4000 ((0 : Int32), (0 : Int32), sM13, sN16) hf _ _ ls hP hD hS (lv_sub hl [2, 4, 1, 0] rfl)
          · replace hf := iteF c15 hf
            refine lv_aload_n hx hb d_Model_days_51 rfl (lv_at hl 0 rfl) ?_
            refine va_get (D := D) (ci := 11) (v := .ref (mA 17)) (C := "BedFrontierModel") (T := T_Model) (N := 22) hx hb htt i_Model hown hK.1 hP 0 rfl rfl 16 (by decide) (htt _ k_788) (fun _ h9 => h9) rfl d_Model_days_52 ?_
            refine lv_iload_n hx hb d_Model_days_55 rfl (lv_at hl 3 rfl) ?_
            refine lv_aload_n hx hb d_Model_days_56 rfl (lv_at hl 0 rfl) ?_
            refine va_get (D := D) (ci := 11) (v := .ref (mA 1)) (C := "BedFrontierModel") (T := T_Model) (N := 22) hx hb htt i_Model hown hK.1 hP 0 rfl rfl 0 (by decide) (htt _ k_772) (fun _ h9 => h9) rfl d_Model_days_57 ?_
            refine lv_iload_n hx hb d_Model_days_60 rfl (lv_at hl 3 rfl) ?_
            obtain ⟨g49, hf⟩ := gdE hf
            refine va_iald hx hb hK.1 hP 1 0 rfl rfl (okI_in g49) d_Model_days_61 ?_
            obtain ⟨g50, hf⟩ := gdE hf
            refine va_iast hx hb hK.1 hP hD hS 7 0 rfl rfl (okI_in g50) d_Model_days_62 (fun H locs hP hD hS => ?_)
            obtain ⟨sM51, e_sM51⟩ : ∃ z : PW, z = up sM13 16 (upd (sM13 16) ((x12).toNatClampNeg) (sM13 0 (x12).toNatClampNeg)) := ⟨_, rfl⟩
            replace hf := nmE hf e_sM51
            have hP : va_P D vwCl (L_m ty mA sM51 sN14) H := by rw [e_sM51]; exact hP
            have hD : va_D A (L_m ty mA sM51 sN14) := by rw [e_sM51]; exact hD
            obtain ⟨x52, e_x52⟩ : ∃ z : Int32, z = (x12 + (1 : Int32)) := ⟨_, rfl⟩
            replace hf := nmE hf e_x52
            refine lv_iinc (v := x52) (lv' := [(3, .int x52), (0, .ref (mA 0)), (1, .int a1), (2, .int a2)]) hx hb d_Model_days_63 hl (k := 3) rfl (by rw [e_x52]; rfl) (by decide) rfl (fun ls hl => ?_)
            refine lv_goto (tgt := 46) hx hb d_Model_days_66 (by decide) ?_
            exact hK46 (x52, sM51, sN14) hf _ _ ls hP hD hS (lv_sub hl [1, 2, 3, 0] rfl)
        exact B46 4000 ((0 : Int32), sM, sN) hf _ _ ls hP hD hS (lv_sub hl [1, 2, 3, 0] rfl)
      · replace hf := iteT c11 hf
        refine lv_aload_n hx hb d_Model_days_39 rfl (lv_at hl 0 rfl) ?_
        obtain ⟨x53, sM54, sN55, h56, hf⟩ := bd3E hf
        refine vM (Lc := (L_m ty mA sM sN)) (Lc' := (L_m ty mA sM54 sN55)) (L' := (L_m ty mA sM54 sN55)) (q0 := 0) (ci := 11) (rest := []) C0 (c_Model_no l D ty mA H.size sM sN x53 sM54 sN55 h56) k_949 cal_Model_no hK hP hD hS hAq [0, 1, 2, 3, 4, 5, 6, 7, 8, 9, 10, 11] [] [0, 1, 2, 3, 4, 5, 6, 7, 8, 9, 10, 11] [] rfl rfl (by decide) (by decide) (by decide) (by decide) rfl rfl rfl rfl ⟨by rw [hR]; decide, by rw [hR]; decide⟩ rfl rfl rfl hl.1 rfl (Nat.le_of_ble_eq_true rfl) d_Model_days_40 ⟨by rw [hR]; decide, by rw [hR]; decide⟩ rfl (fun H locs hP hD hS => ?_)
        obtain ⟨rfl, rfl, rfl⟩ := sj3 hf
        exact retM C0 (narI _) hQ hP hD hS d_Model_days_43
    · replace hf := iteT c10 hf
      refine lv_aload_n hx hb d_Model_days_24 rfl (lv_at hl 0 rfl) ?_
      obtain ⟨x57, sM58, sN59, h60, hf⟩ := bd3E hf
      refine vM (Lc := (L_m ty mA sM sN)) (Lc' := (L_m ty mA sM58 sN59)) (L' := (L_m ty mA sM58 sN59)) (q0 := 0) (ci := 11) (rest := []) C0 (c_Model_bad l D ty mA H.size sM sN x57 sM58 sN59 h60) k_848 cal_Model_bad hK hP hD hS hAq [0, 1, 2, 3, 4, 5, 6, 7, 8, 9, 10, 11] [] [0, 1, 2, 3, 4, 5, 6, 7, 8, 9, 10, 11] [] rfl rfl (by decide) (by decide) (by decide) (by decide) rfl rfl rfl rfl ⟨by rw [hR]; decide, by rw [hR]; decide⟩ rfl rfl rfl hl.1 rfl (Nat.le_of_ble_eq_true rfl) d_Model_days_25 ⟨by rw [hR]; decide, by rw [hR]; decide⟩ rfl (fun H locs hP hD hS => ?_)
      obtain ⟨rfl, rfl, rfl⟩ := sj3 hf
      exact retM C0 (narI _) hQ hP hD hS d_Model_days_28
def f_Model_part (sM : PW) (sN : PL) (a1 : Int32) : Option (Int64 × PW × PL) :=
  (if a1 = 0 then some ((sN 1), sM, sN) else (if a1 = (1 : Int32) then some ((sN 2), sM, sN) else bd3 (f_Model_bad sM sN) (fun x3 sM4 sN5 => some ((x3).toInt64, sM4, sN5))))
set_option maxHeartbeats 4000000 in
set_option maxRecDepth 100000 in
theorem c_Model_part (l : Launch) (D : va_G) (ty : Nat → ClassId) (mA : Nat → Nat) (sz : Nat) (sM : PW) (sN : PL) (a1 : Int32) (rr : Int64) (tM : PW) (tN : PL) (hf : f_Model_part sM sN a1 = some (rr, tM, tN)) : Met l y_Model_part (Cond.code y_Model_part prog_13_method_63_code 2 ((Option.some FieldType.long)) :: lw_ok) { frames := 1, cells := 0, slots := 0, locals := 20 } (PcM D ty [.ref (mA 0), .int a1] sz (L_m ty mA sM sN)) (QM D (L_m ty mA tM tN) (va_A (L_m ty mA sM sN) sz) (some (.long rr))) 0 0 (va_A (L_m ty mA sM sN) sz) := by
  refine hdM (by decide) (Nat.le_of_ble_eq_true rfl) ?_
  intro p e s m below meth c ls R args Q A C0 hR hQ hnm hAq hP hK hD hS hl
  obtain ⟨hx, hb, hr, hlk, hml, hown, htt⟩ := id C0
  have hl : lv_has ls 2 [(0, .ref (mA 0)), (1, .int a1)] := hl
  generalize hH0 : s.heap = H at hP hS ⊢
  have hS : va_S A s.heap H [] := by rw [hH0]; exact hS
  unfold f_Model_part at hf
  refine lv_iload_n hx hb d_Model_part_0 rfl (lv_at hl 1 rfl) ?_
  refine lv_if_ne (tgt := 11) hx hb d_Model_part_1 (by decide) (fun c1 => ?_) (fun c1 => ?_)
  · replace hf := iteF c1 hf
    refine lv_iload_n hx hb d_Model_part_11 rfl (lv_at hl 1 rfl) ?_
    refine lv_iconst (v := (1 : Int32)) hx hb d_Model_part_12 (by decide) ?_
    refine lv_icmp_ne (tgt := 23) hx hb d_Model_part_13 (by decide) (fun c2 => ?_) (fun c2 => ?_)
    · replace hf := iteF c2 hf
      refine lv_aload_n hx hb d_Model_part_23 rfl (lv_at hl 0 rfl) ?_
      obtain ⟨x3, sM4, sN5, h6, hf⟩ := bd3E hf
      refine vM (Lc := (L_m ty mA sM sN)) (Lc' := (L_m ty mA sM4 sN5)) (L' := (L_m ty mA sM4 sN5)) (q0 := 0) (ci := 11) (rest := []) C0 (c_Model_bad l D ty mA H.size sM sN x3 sM4 sN5 h6) k_848 cal_Model_bad hK hP hD hS hAq [0, 1, 2, 3, 4, 5, 6, 7, 8, 9, 10, 11] [] [0, 1, 2, 3, 4, 5, 6, 7, 8, 9, 10, 11] [] rfl rfl (by decide) (by decide) (by decide) (by decide) rfl rfl rfl rfl ⟨by rw [hR]; decide, by rw [hR]; decide⟩ rfl rfl rfl hl.1 rfl (Nat.le_of_ble_eq_true rfl) d_Model_part_24 ⟨by rw [hR]; decide, by rw [hR]; decide⟩ rfl (fun H locs hP hD hS => ?_)
      refine lv_i2l hx hb d_Model_part_27 rfl ?_
      obtain ⟨rfl, rfl, rfl⟩ := sj3 hf
      exact retMl C0 hQ hP hD hS d_Model_part_28
    · replace hf := iteT c2 hf
      refine lv_aload_n hx hb d_Model_part_16 rfl (lv_at hl 0 rfl) ?_
      refine va_get (D := D) (ci := 11) (v := .long (sN 2)) (C := "BedFrontierModel") (T := T_Model) (N := 22) hx hb htt i_Model hown hK.1 hP 0 rfl rfl 2 (by decide) (htt _ k_774) (fun _ h9 => h9) rfl d_Model_part_17 ?_
      refine lv_goto (tgt := 28) hx hb d_Model_part_20 (by decide) ?_
      obtain ⟨rfl, rfl, rfl⟩ := sj3 hf
      exact retMl C0 hQ hP hD hS d_Model_part_28
  · replace hf := iteT c1 hf
    refine lv_aload_n hx hb d_Model_part_4 rfl (lv_at hl 0 rfl) ?_
    refine va_get (D := D) (ci := 11) (v := .long (sN 1)) (C := "BedFrontierModel") (T := T_Model) (N := 22) hx hb htt i_Model hown hK.1 hP 0 rfl rfl 1 (by decide) (htt _ k_773) (fun _ h9 => h9) rfl d_Model_part_5 ?_
    refine lv_goto (tgt := 28) hx hb d_Model_part_8 (by decide) ?_
    obtain ⟨rfl, rfl, rfl⟩ := sj3 hf
    exact retMl C0 hQ hP hD hS d_Model_part_28
def f_Model_image_L48 (a1 : Int32) (K48 : Int32 × PW × PL → Option (Int32 × PW × PL)) : Int32 × PW × PL → Option (Int32 × PW × PL)
  | (x8, sM9, sN10) =>
  (if (32 : Int32) ≤ x8 then gd (okI a1 2) (nm (up sM9 21 (upd (sM9 21) ((a1).toNatClampNeg) (sM9 14 0))) (fun sM13 => gd (okI a1 2) (nm (up sM13 18 (upd (sM13 18) ((a1).toNatClampNeg) (vp_nar .boolean (1 : Int32)))) (fun sM15 => some ((1 : Int32), sM15, sN10))))) else gd (okI x8 32) (gd (okI (((32 : Int32) * a1) + x8) 64) (nm (up sM9 20 (upd (sM9 20) (((((32 : Int32) * a1) + x8)).toNatClampNeg) (sM9 13 (x8).toNatClampNeg))) (fun sM18 => nm (x8 + (1 : Int32)) (fun x19 => K48 (x19, sM18, sN10))))))
def f_Model_image_L17 (a1 : Int32) (K17 : Int32 × PW × PL → Option (Int32 × PW × PL)) : Int32 × PW × PL → Option (Int32 × PW × PL)
  | (x4, sM5, sN6) =>
  (if (53 : Int32) ≤ x4 then loopF (f_Model_image_L48 a1) 4000 ((0 : Int32), sM5, sN6) else gd (okI x4 53) (gd (okI (((53 : Int32) * a1) + x4) 106) (nm (up sM5 19 (upd (sM5 19) (((((53 : Int32) * a1) + x4)).toNatClampNeg) (sM5 0 (x4).toNatClampNeg))) (fun sM22 => nm (x4 + (1 : Int32)) (fun x23 => K17 (x23, sM22, sN6))))))
def f_Model_image (sM : PW) (sN : PL) (a1 : Int32) : Option (Int32 × PW × PL) :=
  bd (f_Model_in ((a1).toInt64) (0 : Int64) (1 : Int64)) (fun x1 => (if x1 = 0 then bd3 (f_Model_bad sM sN) (fun x24 sM25 sN26 => some (x24, sM25, sN26)) else loopF (f_Model_image_L17 a1) 4000 ((0 : Int32), sM, sN)))
set_option maxHeartbeats 4000000 in
set_option maxRecDepth 100000 in
theorem c_Model_image (l : Launch) (D : va_G) (ty : Nat → ClassId) (mA : Nat → Nat) (sz : Nat) (sM : PW) (sN : PL) (a1 : Int32) (rr : Int32) (tM : PW) (tN : PL) (hf : f_Model_image sM sN a1 = some (rr, tM, tN)) : Met l y_Model_image (Cond.code y_Model_image prog_13_method_64_code 3 ((Option.some FieldType.int)) :: lw_ok) { frames := 1, cells := 0, slots := 0, locals := 25 } (PcM D ty [.ref (mA 0), .int a1] sz (L_m ty mA sM sN)) (QM D (L_m ty mA tM tN) (va_A (L_m ty mA sM sN) sz) (some (.int rr))) 0 0 (va_A (L_m ty mA sM sN) sz) := by
  refine hdM (by decide) (Nat.le_of_ble_eq_true rfl) ?_
  intro p e s m below meth c ls R args Q A C0 hR hQ hnm hAq hP hK hD hS hl
  obtain ⟨hx, hb, hr, hlk, hml, hown, htt⟩ := id C0
  have hl : lv_has ls 3 [(0, .ref (mA 0)), (1, .int a1)] := hl
  generalize hH0 : s.heap = H at hP hS ⊢
  have hS : va_S A s.heap H [] := by rw [hH0]; exact hS
  unfold f_Model_image at hf
  refine lv_iload_n hx hb d_Model_image_0 rfl (lv_at hl 1 rfl) ?_
  refine lv_i2l hx hb d_Model_image_1 rfl ?_
  refine lv_lconst (v := (0 : Int64)) hx hb d_Model_image_2 (by decide) ?_
  refine lv_lconst (v := (1 : Int64)) hx hb d_Model_image_3 (by decide) ?_
  obtain ⟨x1, h2, hf⟩ := bdE hf
  refine scR (rest := []) C0 (c_Model_in l D ty ((a1).toInt64) (0 : Int64) (1 : Int64) x1 h2) k_845 cal_Model_in hK (va_P_nil) ⟨by rw [hR]; decide, by rw [hR]; decide⟩ rfl rfl rfl hl.1 rfl (Nat.le_of_ble_eq_true rfl) d_Model_image_4 ⟨Nat.zero_le _, Nat.zero_le _⟩ rfl ?_
  refine lv_if_ne (tgt := 15) hx hb d_Model_image_7 (by decide) (fun c3 => ?_) (fun c3 => ?_)
  · replace hf := iteF c3 hf
    refine lv_iconst (v := (0 : Int32)) hx hb d_Model_image_15 (by decide) ?_
    refine lv_istore_n (lv' := [(2, .int (0 : Int32)), (0, .ref (mA 0)), (1, .int a1)]) hx hb d_Model_image_16 rfl hl (by decide) rfl (fun ls hl => ?_)
    have B17 : ∀ (n : Nat) (x : Int32 × PW × PL), loopF (f_Model_image_L17 a1) n x = some (rr, tM, tN) → ∀ (H : Heap) (locs : List Loc) (ls : Array Slot), va_P D vwCl (L_m ty mA (x.2.1) (x.2.2)) H → va_D A (L_m ty mA (x.2.1) (x.2.2)) → va_S A s.heap H locs → lv_has ls 3 [(0, .ref (mA 0)), (1, .int a1), (2, .int (x.1))] → W p l e R s m args below meth c H locs 0 0 Q (F0 m 17 ls []) := by
      refine loopW (fun (x : Int32 × PW × PL) => ∀ (H : Heap) (locs : List Loc) (ls : Array Slot), va_P D vwCl (L_m ty mA (x.2.1) (x.2.2)) H → va_D A (L_m ty mA (x.2.1) (x.2.2)) → va_S A s.heap H locs → lv_has ls 3 [(0, .ref (mA 0)), (1, .int a1), (2, .int (x.1))] → W p l e R s m args below meth c H locs 0 0 Q (F0 m 17 ls [])) ?_
      intro K17 hK17 x hf
      obtain ⟨x4, sM5, sN6⟩ := x
      rw [f_Model_image_L17] at hf
      intro H locs ls hP hD hS hl
      have hl : lv_has ls 3 [(0, .ref (mA 0)), (1, .int a1), (2, .int x4)] := hl
      have hP : va_P D vwCl (L_m ty mA sM5 sN6) H := hP
      have hD : va_D A (L_m ty mA sM5 sN6) := hD
      show W p l e R s m args below meth c H locs 0 0 Q (F0 m 17 ls [])
      refine lv_iload_n hx hb d_Model_image_17 rfl (lv_at hl 2 rfl) ?_
      refine lv_bipush (v := (53 : Int32)) hx hb d_Model_image_18 (by decide) ?_
      refine lv_icmp_ge (tgt := 46) hx hb d_Model_image_20 (by decide) (fun c7 => ?_) (fun c7 => ?_)
      · replace hf := iteT c7 hf
        refine lv_iconst (v := (0 : Int32)) hx hb d_Model_image_46 (by decide) ?_
        refine lv_istore_n (lv' := [(2, .int (0 : Int32)), (0, .ref (mA 0)), (1, .int a1)]) hx hb d_Model_image_47 rfl hl (by decide) rfl (fun ls hl => ?_)
        have B48 : ∀ (n : Nat) (x : Int32 × PW × PL), loopF (f_Model_image_L48 a1) n x = some (rr, tM, tN) → ∀ (H : Heap) (locs : List Loc) (ls : Array Slot), va_P D vwCl (L_m ty mA (x.2.1) (x.2.2)) H → va_D A (L_m ty mA (x.2.1) (x.2.2)) → va_S A s.heap H locs → lv_has ls 3 [(0, .ref (mA 0)), (1, .int a1), (2, .int (x.1))] → W p l e R s m args below meth c H locs 0 0 Q (F0 m 48 ls []) := by
          refine loopW (fun (x : Int32 × PW × PL) => ∀ (H : Heap) (locs : List Loc) (ls : Array Slot), va_P D vwCl (L_m ty mA (x.2.1) (x.2.2)) H → va_D A (L_m ty mA (x.2.1) (x.2.2)) → va_S A s.heap H locs → lv_has ls 3 [(0, .ref (mA 0)), (1, .int a1), (2, .int (x.1))] → W p l e R s m args below meth c H locs 0 0 Q (F0 m 48 ls [])) ?_
          intro K48 hK48 x hf
          obtain ⟨x8, sM9, sN10⟩ := x
          rw [f_Model_image_L48] at hf
          intro H locs ls hP hD hS hl
          have hl : lv_has ls 3 [(0, .ref (mA 0)), (1, .int a1), (2, .int x8)] := hl
          have hP : va_P D vwCl (L_m ty mA sM9 sN10) H := hP
          have hD : va_D A (L_m ty mA sM9 sN10) := hD
          show W p l e R s m args below meth c H locs 0 0 Q (F0 m 48 ls [])
          refine lv_iload_n hx hb d_Model_image_48 rfl (lv_at hl 2 rfl) ?_
          refine lv_bipush (v := (32 : Int32)) hx hb d_Model_image_49 (by decide) ?_
          refine lv_icmp_ge (tgt := 77) hx hb d_Model_image_51 (by decide) (fun c11 => ?_) (fun c11 => ?_)
          · replace hf := iteT c11 hf
            refine lv_aload_n hx hb d_Model_image_77 rfl (lv_at hl 0 rfl) ?_
            refine va_get (D := D) (ci := 11) (v := .ref (mA 22)) (C := "BedFrontierModel") (T := T_Model) (N := 22) hx hb htt i_Model hown hK.1 hP 0 rfl rfl 21 (by decide) (htt _ k_793) (fun _ h9 => h9) rfl d_Model_image_78 ?_
            refine lv_iload_n hx hb d_Model_image_81 rfl (lv_at hl 1 rfl) ?_
            refine lv_aload_n hx hb d_Model_image_82 rfl (lv_at hl 0 rfl) ?_
            refine va_get (D := D) (ci := 11) (v := .int (sM9 14 0)) (C := "BedFrontierModel") (T := T_Model) (N := 22) hx hb htt i_Model hown hK.1 hP 0 rfl rfl 14 (by decide) (htt _ k_786) (fun _ h9 => h9) rfl d_Model_image_83 ?_
            obtain ⟨g12, hf⟩ := gdE hf
            refine va_iast hx hb hK.1 hP hD hS 11 0 rfl rfl (okI_in g12) d_Model_image_86 (fun H locs hP hD hS => ?_)
            obtain ⟨sM13, e_sM13⟩ : ∃ z : PW, z = up sM9 21 (upd (sM9 21) ((a1).toNatClampNeg) (sM9 14 0)) := ⟨_, rfl⟩
            replace hf := nmE hf e_sM13
            have hP : va_P D vwCl (L_m ty mA sM13 sN10) H := by rw [e_sM13]; exact hP
            have hD : va_D A (L_m ty mA sM13 sN10) := by rw [e_sM13]; exact hD
            refine lv_aload_n hx hb d_Model_image_87 rfl (lv_at hl 0 rfl) ?_
            refine va_get (D := D) (ci := 11) (v := .ref (mA 19)) (C := "BedFrontierModel") (T := T_Model) (N := 22) hx hb htt i_Model hown hK.1 hP 0 rfl rfl 18 (by decide) (htt _ k_790) (fun _ h9 => h9) rfl d_Model_image_88 ?_
            refine lv_iload_n hx hb d_Model_image_91 rfl (lv_at hl 1 rfl) ?_
            refine lv_iconst (v := (1 : Int32)) hx hb d_Model_image_92 (by decide) ?_
            obtain ⟨g14, hf⟩ := gdE hf
            refine va_zast hx hb hK.1 hP hD hS 8 2 rfl rfl (okI_in g14) d_Model_image_93 (fun H locs hP hD hS => ?_)
            obtain ⟨sM15, e_sM15⟩ : ∃ z : PW, z = up sM13 18 (upd (sM13 18) ((a1).toNatClampNeg) (vp_nar .boolean (1 : Int32))) := ⟨_, rfl⟩
            replace hf := nmE hf e_sM15
            have hP : va_P D vwCl (L_m ty mA sM15 sN10) H := by rw [e_sM15]; exact hP
            have hD : va_D A (L_m ty mA sM15 sN10) := by rw [e_sM15]; exact hD
            refine lv_iconst (v := (1 : Int32)) hx hb d_Model_image_94 (by decide) ?_
            obtain ⟨rfl, rfl, rfl⟩ := sj3 hf
            exact retM C0 (narI _) hQ hP hD hS d_Model_image_95
          · replace hf := iteF c11 hf
            refine lv_aload_n hx hb d_Model_image_54 rfl (lv_at hl 0 rfl) ?_
            refine va_get (D := D) (ci := 11) (v := .ref (mA 21)) (C := "BedFrontierModel") (T := T_Model) (N := 22) hx hb htt i_Model hown hK.1 hP 0 rfl rfl 20 (by decide) (htt _ k_792) (fun _ h9 => h9) rfl d_Model_image_55 ?_
            refine lv_bipush (v := (32 : Int32)) hx hb d_Model_image_58 (by decide) ?_
            refine lv_iload_n hx hb d_Model_image_60 rfl (lv_at hl 1 rfl) ?_
            refine lv_imul hx hb d_Model_image_61 ?_
            refine lv_iload_n hx hb d_Model_image_62 rfl (lv_at hl 2 rfl) ?_
            refine lv_iadd hx hb d_Model_image_63 ?_
            refine lv_aload_n hx hb d_Model_image_64 rfl (lv_at hl 0 rfl) ?_
            refine va_get (D := D) (ci := 11) (v := .ref (mA 14)) (C := "BedFrontierModel") (T := T_Model) (N := 22) hx hb htt i_Model hown hK.1 hP 0 rfl rfl 13 (by decide) (htt _ k_785) (fun _ h9 => h9) rfl d_Model_image_65 ?_
            refine lv_iload_n hx hb d_Model_image_68 rfl (lv_at hl 2 rfl) ?_
            obtain ⟨g16, hf⟩ := gdE hf
            refine va_iald hx hb hK.1 hP 5 0 rfl rfl (okI_in g16) d_Model_image_69 ?_
            obtain ⟨g17, hf⟩ := gdE hf
            refine va_iast hx hb hK.1 hP hD hS 10 0 rfl rfl (okI_in g17) d_Model_image_70 (fun H locs hP hD hS => ?_)
            obtain ⟨sM18, e_sM18⟩ : ∃ z : PW, z = up sM9 20 (upd (sM9 20) (((((32 : Int32) * a1) + x8)).toNatClampNeg) (sM9 13 (x8).toNatClampNeg)) := ⟨_, rfl⟩
            replace hf := nmE hf e_sM18
            have hP : va_P D vwCl (L_m ty mA sM18 sN10) H := by rw [e_sM18]; exact hP
            have hD : va_D A (L_m ty mA sM18 sN10) := by rw [e_sM18]; exact hD
            obtain ⟨x19, e_x19⟩ : ∃ z : Int32, z = (x8 + (1 : Int32)) := ⟨_, rfl⟩
            replace hf := nmE hf e_x19
            refine lv_iinc (v := x19) (lv' := [(2, .int x19), (0, .ref (mA 0)), (1, .int a1)]) hx hb d_Model_image_71 hl (k := 2) rfl (by rw [e_x19]; rfl) (by decide) rfl (fun ls hl => ?_)
            refine lv_goto (tgt := 48) hx hb d_Model_image_74 (by decide) ?_
            exact hK48 (x19, sM18, sN10) hf _ _ ls hP hD hS (lv_sub hl [1, 2, 0] rfl)
        exact B48 4000 ((0 : Int32), sM5, sN6) hf _ _ ls hP hD hS (lv_sub hl [1, 2, 0] rfl)
      · replace hf := iteF c7 hf
        refine lv_aload_n hx hb d_Model_image_23 rfl (lv_at hl 0 rfl) ?_
        refine va_get (D := D) (ci := 11) (v := .ref (mA 20)) (C := "BedFrontierModel") (T := T_Model) (N := 22) hx hb htt i_Model hown hK.1 hP 0 rfl rfl 19 (by decide) (htt _ k_791) (fun _ h9 => h9) rfl d_Model_image_24 ?_
        refine lv_bipush (v := (53 : Int32)) hx hb d_Model_image_27 (by decide) ?_
        refine lv_iload_n hx hb d_Model_image_29 rfl (lv_at hl 1 rfl) ?_
        refine lv_imul hx hb d_Model_image_30 ?_
        refine lv_iload_n hx hb d_Model_image_31 rfl (lv_at hl 2 rfl) ?_
        refine lv_iadd hx hb d_Model_image_32 ?_
        refine lv_aload_n hx hb d_Model_image_33 rfl (lv_at hl 0 rfl) ?_
        refine va_get (D := D) (ci := 11) (v := .ref (mA 1)) (C := "BedFrontierModel") (T := T_Model) (N := 22) hx hb htt i_Model hown hK.1 hP 0 rfl rfl 0 (by decide) (htt _ k_772) (fun _ h9 => h9) rfl d_Model_image_34 ?_
        refine lv_iload_n hx hb d_Model_image_37 rfl (lv_at hl 2 rfl) ?_
        obtain ⟨g20, hf⟩ := gdE hf
        refine va_iald hx hb hK.1 hP 1 0 rfl rfl (okI_in g20) d_Model_image_38 ?_
        obtain ⟨g21, hf⟩ := gdE hf
        refine va_iast hx hb hK.1 hP hD hS 9 0 rfl rfl (okI_in g21) d_Model_image_39 (fun H locs hP hD hS => ?_)
        obtain ⟨sM22, e_sM22⟩ : ∃ z : PW, z = up sM5 19 (upd (sM5 19) (((((53 : Int32) * a1) + x4)).toNatClampNeg) (sM5 0 (x4).toNatClampNeg)) := ⟨_, rfl⟩
        replace hf := nmE hf e_sM22
        have hP : va_P D vwCl (L_m ty mA sM22 sN6) H := by rw [e_sM22]; exact hP
        have hD : va_D A (L_m ty mA sM22 sN6) := by rw [e_sM22]; exact hD
        obtain ⟨x23, e_x23⟩ : ∃ z : Int32, z = (x4 + (1 : Int32)) := ⟨_, rfl⟩
        replace hf := nmE hf e_x23
        refine lv_iinc (v := x23) (lv' := [(2, .int x23), (0, .ref (mA 0)), (1, .int a1)]) hx hb d_Model_image_40 hl (k := 2) rfl (by rw [e_x23]; rfl) (by decide) rfl (fun ls hl => ?_)
        refine lv_goto (tgt := 17) hx hb d_Model_image_43 (by decide) ?_
        exact hK17 (x23, sM22, sN6) hf _ _ ls hP hD hS (lv_sub hl [1, 2, 0] rfl)
    exact B17 4000 ((0 : Int32), sM, sN) hf _ _ ls hP hD hS (lv_sub hl [1, 2, 0] rfl)
  · replace hf := iteT c3 hf
    refine lv_aload_n hx hb d_Model_image_10 rfl (lv_at hl 0 rfl) ?_
    obtain ⟨x24, sM25, sN26, h27, hf⟩ := bd3E hf
    refine vM (Lc := (L_m ty mA sM sN)) (Lc' := (L_m ty mA sM25 sN26)) (L' := (L_m ty mA sM25 sN26)) (q0 := 0) (ci := 11) (rest := []) C0 (c_Model_bad l D ty mA H.size sM sN x24 sM25 sN26 h27) k_848 cal_Model_bad hK hP hD hS hAq [0, 1, 2, 3, 4, 5, 6, 7, 8, 9, 10, 11] [] [0, 1, 2, 3, 4, 5, 6, 7, 8, 9, 10, 11] [] rfl rfl (by decide) (by decide) (by decide) (by decide) rfl rfl rfl rfl ⟨by rw [hR]; decide, by rw [hR]; decide⟩ rfl rfl rfl hl.1 rfl (Nat.le_of_ble_eq_true rfl) d_Model_image_11 ⟨by rw [hR]; decide, by rw [hR]; decide⟩ rfl (fun H locs hP hD hS => ?_)
    obtain ⟨rfl, rfl, rfl⟩ := sj3 hf
    exact retM C0 (narI _) hQ hP hD hS d_Model_image_14
def f_Model_from_L62 (a1 : Int32) (K62 : Int32 × PW × PL → Option (Int32 × PW × PL)) : Int32 × PW × PL → Option (Int32 × PW × PL)
  | (x10, sM11, sN12) =>
  (if (32 : Int32) ≤ x10 then gd (okI a1 2) (nm (up sM11 14 (fun _ => (sM11 21 (a1).toNatClampNeg))) (fun sM15 => some ((1 : Int32), sM15, sN12))) else gd (okI (((32 : Int32) * a1) + x10) 64) (gd (okI x10 32) (nm (up sM11 13 (upd (sM11 13) ((x10).toNatClampNeg) (sM11 20 ((((32 : Int32) * a1) + x10)).toNatClampNeg))) (fun sM18 => nm (x10 + (1 : Int32)) (fun x19 => K62 (x19, sM18, sN12))))))
def f_Model_from_L31 (a1 : Int32) (K31 : Int32 × PW × PL → Option (Int32 × PW × PL)) : Int32 × PW × PL → Option (Int32 × PW × PL)
  | (x6, sM7, sN8) =>
  (if (53 : Int32) ≤ x6 then loopF (f_Model_from_L62 a1) 4000 ((0 : Int32), sM7, sN8) else gd (okI (((53 : Int32) * a1) + x6) 106) (gd (okI x6 53) (nm (up sM7 0 (upd (sM7 0) ((x6).toNatClampNeg) (sM7 19 ((((53 : Int32) * a1) + x6)).toNatClampNeg))) (fun sM22 => nm (x6 + (1 : Int32)) (fun x23 => K31 (x23, sM22, sN8))))))
def f_Model_from (sM : PW) (sN : PL) (a1 : Int32) : Option (Int32 × PW × PL) :=
  bd (f_Model_in ((a1).toInt64) (0 : Int64) (1 : Int64)) (fun x1 => (if x1 = 0 then bd3 (f_Model_bad sM sN) (fun x28 sM29 sN30 => some (x28, sM29, sN30)) else gd (okI a1 2) ((if (sM 18 (a1).toNatClampNeg) = 0 then bd3 (f_Model_no sM sN) (fun x24 sM25 sN26 => some (x24, sM25, sN26)) else loopF (f_Model_from_L31 a1) 4000 ((0 : Int32), sM, sN)))))
set_option maxHeartbeats 4000000 in
set_option maxRecDepth 100000 in
theorem c_Model_from (l : Launch) (D : va_G) (ty : Nat → ClassId) (mA : Nat → Nat) (sz : Nat) (sM : PW) (sN : PL) (a1 : Int32) (rr : Int32) (tM : PW) (tN : PL) (hf : f_Model_from sM sN a1 = some (rr, tM, tN)) : Met l y_Model_from (Cond.code y_Model_from prog_13_method_65_code 3 ((Option.some FieldType.int)) :: lw_ok) { frames := 1, cells := 0, slots := 0, locals := 25 } (PcM D ty [.ref (mA 0), .int a1] sz (L_m ty mA sM sN)) (QM D (L_m ty mA tM tN) (va_A (L_m ty mA sM sN) sz) (some (.int rr))) 0 0 (va_A (L_m ty mA sM sN) sz) := by
  refine hdM (by decide) (Nat.le_of_ble_eq_true rfl) ?_
  intro p e s m below meth c ls R args Q A C0 hR hQ hnm hAq hP hK hD hS hl
  obtain ⟨hx, hb, hr, hlk, hml, hown, htt⟩ := id C0
  have hl : lv_has ls 3 [(0, .ref (mA 0)), (1, .int a1)] := hl
  generalize hH0 : s.heap = H at hP hS ⊢
  have hS : va_S A s.heap H [] := by rw [hH0]; exact hS
  unfold f_Model_from at hf
  refine lv_iload_n hx hb d_Model_from_0 rfl (lv_at hl 1 rfl) ?_
  refine lv_i2l hx hb d_Model_from_1 rfl ?_
  refine lv_lconst (v := (0 : Int64)) hx hb d_Model_from_2 (by decide) ?_
  refine lv_lconst (v := (1 : Int64)) hx hb d_Model_from_3 (by decide) ?_
  obtain ⟨x1, h2, hf⟩ := bdE hf
  refine scR (rest := []) C0 (c_Model_in l D ty ((a1).toInt64) (0 : Int64) (1 : Int64) x1 h2) k_845 cal_Model_in hK (va_P_nil) ⟨by rw [hR]; decide, by rw [hR]; decide⟩ rfl rfl rfl hl.1 rfl (Nat.le_of_ble_eq_true rfl) d_Model_from_4 ⟨Nat.zero_le _, Nat.zero_le _⟩ rfl ?_
  refine lv_if_ne (tgt := 15) hx hb d_Model_from_7 (by decide) (fun c3 => ?_) (fun c3 => ?_)
  · replace hf := iteF c3 hf
    refine lv_aload_n hx hb d_Model_from_15 rfl (lv_at hl 0 rfl) ?_
    refine va_get (D := D) (ci := 11) (v := .ref (mA 19)) (C := "BedFrontierModel") (T := T_Model) (N := 22) hx hb htt i_Model hown hK.1 hP 0 rfl rfl 18 (by decide) (htt _ k_790) (fun _ h9 => h9) rfl d_Model_from_16 ?_
    refine lv_iload_n hx hb d_Model_from_19 rfl (lv_at hl 1 rfl) ?_
    obtain ⟨g4, hf⟩ := gdE hf
    refine va_zald hx hb hK.1 hP 8 2 rfl rfl (okI_in g4) d_Model_from_20 ?_
    refine lv_if_ne (tgt := 29) hx hb d_Model_from_21 (by decide) (fun c5 => ?_) (fun c5 => ?_)
    · replace hf := iteF c5 hf
      refine lv_iconst (v := (0 : Int32)) hx hb d_Model_from_29 (by decide) ?_
      refine lv_istore_n (lv' := [(2, .int (0 : Int32)), (0, .ref (mA 0)), (1, .int a1)]) hx hb d_Model_from_30 rfl hl (by decide) rfl (fun ls hl => ?_)
      have B31 : ∀ (n : Nat) (x : Int32 × PW × PL), loopF (f_Model_from_L31 a1) n x = some (rr, tM, tN) → ∀ (H : Heap) (locs : List Loc) (ls : Array Slot), va_P D vwCl (L_m ty mA (x.2.1) (x.2.2)) H → va_D A (L_m ty mA (x.2.1) (x.2.2)) → va_S A s.heap H locs → lv_has ls 3 [(0, .ref (mA 0)), (1, .int a1), (2, .int (x.1))] → W p l e R s m args below meth c H locs 0 0 Q (F0 m 31 ls []) := by
        refine loopW (fun (x : Int32 × PW × PL) => ∀ (H : Heap) (locs : List Loc) (ls : Array Slot), va_P D vwCl (L_m ty mA (x.2.1) (x.2.2)) H → va_D A (L_m ty mA (x.2.1) (x.2.2)) → va_S A s.heap H locs → lv_has ls 3 [(0, .ref (mA 0)), (1, .int a1), (2, .int (x.1))] → W p l e R s m args below meth c H locs 0 0 Q (F0 m 31 ls [])) ?_
        intro K31 hK31 x hf
        obtain ⟨x6, sM7, sN8⟩ := x
        rw [f_Model_from_L31] at hf
        intro H locs ls hP hD hS hl
        have hl : lv_has ls 3 [(0, .ref (mA 0)), (1, .int a1), (2, .int x6)] := hl
        have hP : va_P D vwCl (L_m ty mA sM7 sN8) H := hP
        have hD : va_D A (L_m ty mA sM7 sN8) := hD
        show W p l e R s m args below meth c H locs 0 0 Q (F0 m 31 ls [])
        refine lv_iload_n hx hb d_Model_from_31 rfl (lv_at hl 2 rfl) ?_
        refine lv_bipush (v := (53 : Int32)) hx hb d_Model_from_32 (by decide) ?_
        refine lv_icmp_ge (tgt := 60) hx hb d_Model_from_34 (by decide) (fun c9 => ?_) (fun c9 => ?_)
        · replace hf := iteT c9 hf
          refine lv_iconst (v := (0 : Int32)) hx hb d_Model_from_60 (by decide) ?_
          refine lv_istore_n (lv' := [(2, .int (0 : Int32)), (0, .ref (mA 0)), (1, .int a1)]) hx hb d_Model_from_61 rfl hl (by decide) rfl (fun ls hl => ?_)
          have B62 : ∀ (n : Nat) (x : Int32 × PW × PL), loopF (f_Model_from_L62 a1) n x = some (rr, tM, tN) → ∀ (H : Heap) (locs : List Loc) (ls : Array Slot), va_P D vwCl (L_m ty mA (x.2.1) (x.2.2)) H → va_D A (L_m ty mA (x.2.1) (x.2.2)) → va_S A s.heap H locs → lv_has ls 3 [(0, .ref (mA 0)), (1, .int a1), (2, .int (x.1))] → W p l e R s m args below meth c H locs 0 0 Q (F0 m 62 ls []) := by
            refine loopW (fun (x : Int32 × PW × PL) => ∀ (H : Heap) (locs : List Loc) (ls : Array Slot), va_P D vwCl (L_m ty mA (x.2.1) (x.2.2)) H → va_D A (L_m ty mA (x.2.1) (x.2.2)) → va_S A s.heap H locs → lv_has ls 3 [(0, .ref (mA 0)), (1, .int a1), (2, .int (x.1))] → W p l e R s m args below meth c H locs 0 0 Q (F0 m 62 ls [])) ?_
            intro K62 hK62 x hf
            obtain ⟨x10, sM11, sN12⟩ := x
            rw [f_Model_from_L62] at hf
            intro H locs ls hP hD hS hl
            have hl : lv_has ls 3 [(0, .ref (mA 0)), (1, .int a1), (2, .int x10)] := hl
            have hP : va_P D vwCl (L_m ty mA sM11 sN12) H := hP
            have hD : va_D A (L_m ty mA sM11 sN12) := hD
            show W p l e R s m args below meth c H locs 0 0 Q (F0 m 62 ls [])
            refine lv_iload_n hx hb d_Model_from_62 rfl (lv_at hl 2 rfl) ?_
            refine lv_bipush (v := (32 : Int32)) hx hb d_Model_from_63 (by decide) ?_
            refine lv_icmp_ge (tgt := 91) hx hb d_Model_from_65 (by decide) (fun c13 => ?_) (fun c13 => ?_)
            · replace hf := iteT c13 hf
              refine lv_aload_n hx hb d_Model_from_91 rfl (lv_at hl 0 rfl) ?_
              refine lv_aload_n hx hb d_Model_from_92 rfl (lv_at hl 0 rfl) ?_
              refine va_get (D := D) (ci := 11) (v := .ref (mA 22)) (C := "BedFrontierModel") (T := T_Model) (N := 22) hx hb htt i_Model hown hK.1 hP 0 rfl rfl 21 (by decide) (htt _ k_793) (fun _ h9 => h9) rfl d_Model_from_93 ?_
              refine lv_iload_n hx hb d_Model_from_96 rfl (lv_at hl 1 rfl) ?_
              obtain ⟨g14, hf⟩ := gdE hf
              refine va_iald hx hb hK.1 hP 11 0 rfl rfl (okI_in g14) d_Model_from_97 ?_
              refine va_put (D := D) (ci := 11) (v := .int (sM11 21 (a1).toNatClampNeg)) (ty := .int) (C := "BedFrontierModel") (T := T_Model) (N := 22) hx hb htt i_Model t_Model t_Model_ok n_Model hown hK.1 hP hD hS 0 rfl rfl 14 (by decide) (htt _ k_786) (fun _ h9 => h9) rfl pfI rfl rfl (Nat.le_of_ble_eq_true rfl) d_Model_from_98 (fun H locs hP hD hS => ?_)
              obtain ⟨sM15, e_sM15⟩ : ∃ z : PW, z = up sM11 14 (fun _ => (sM11 21 (a1).toNatClampNeg)) := ⟨_, rfl⟩
              replace hf := nmE hf e_sM15
              have hP : va_P D vwCl (L_m ty mA sM15 sN12) H := by rw [e_sM15]; exact hP
              have hD : va_D A (L_m ty mA sM15 sN12) := by rw [e_sM15]; exact hD
              refine lv_iconst (v := (1 : Int32)) hx hb d_Model_from_101 (by decide) ?_
              obtain ⟨rfl, rfl, rfl⟩ := sj3 hf
              exact retM C0 (narI _) hQ hP hD hS d_Model_from_102
            · replace hf := iteF c13 hf
              refine lv_aload_n hx hb d_Model_from_68 rfl (lv_at hl 0 rfl) ?_
              refine va_get (D := D) (ci := 11) (v := .ref (mA 14)) (C := "BedFrontierModel") (T := T_Model) (N := 22) hx hb htt i_Model hown hK.1 hP 0 rfl rfl 13 (by decide) (htt _ k_785) (fun _ h9 => h9) rfl d_Model_from_69 ?_
              refine lv_iload_n hx hb d_Model_from_72 rfl (lv_at hl 2 rfl) ?_
              refine lv_aload_n hx hb d_Model_from_73 rfl (lv_at hl 0 rfl) ?_
              refine va_get (D := D) (ci := 11) (v := .ref (mA 21)) (C := "BedFrontierModel") (T := T_Model) (N := 22) hx hb htt i_Model hown hK.1 hP 0 rfl rfl 20 (by decide) (htt _ k_792) (fun _ h9 => h9) rfl d_Model_from_74 ?_
              refine lv_bipush (v := (32 : Int32)) hx hb d_Model_from_77 (by decide) ?_
              refine lv_iload_n hx hb d_Model_from_79 rfl (lv_at hl 1 rfl) ?_
              refine lv_imul hx hb d_Model_from_80 ?_
              refine lv_iload_n hx hb d_Model_from_81 rfl (lv_at hl 2 rfl) ?_
              refine lv_iadd hx hb d_Model_from_82 ?_
              obtain ⟨g16, hf⟩ := gdE hf
              refine va_iald hx hb hK.1 hP 10 0 rfl rfl (okI_in g16) d_Model_from_83 ?_
              obtain ⟨g17, hf⟩ := gdE hf
              refine va_iast hx hb hK.1 hP hD hS 5 0 rfl rfl (okI_in g17) d_Model_from_84 (fun H locs hP hD hS => ?_)
              obtain ⟨sM18, e_sM18⟩ : ∃ z : PW, z = up sM11 13 (upd (sM11 13) ((x10).toNatClampNeg) (sM11 20 ((((32 : Int32) * a1) + x10)).toNatClampNeg)) := ⟨_, rfl⟩
              replace hf := nmE hf e_sM18
              have hP : va_P D vwCl (L_m ty mA sM18 sN12) H := by rw [e_sM18]; exact hP
              have hD : va_D A (L_m ty mA sM18 sN12) := by rw [e_sM18]; exact hD
              obtain ⟨x19, e_x19⟩ : ∃ z : Int32, z = (x10 + (1 : Int32)) := ⟨_, rfl⟩
              replace hf := nmE hf e_x19
              refine lv_iinc (v := x19) (lv' := [(2, .int x19), (0, .ref (mA 0)), (1, .int a1)]) hx hb d_Model_from_85 hl (k := 2) rfl (by rw [e_x19]; rfl) (by decide) rfl (fun ls hl => ?_)
              refine lv_goto (tgt := 62) hx hb d_Model_from_88 (by decide) ?_
              exact hK62 (x19, sM18, sN12) hf _ _ ls hP hD hS (lv_sub hl [1, 2, 0] rfl)
          exact B62 4000 ((0 : Int32), sM7, sN8) hf _ _ ls hP hD hS (lv_sub hl [1, 2, 0] rfl)
        · replace hf := iteF c9 hf
          refine lv_aload_n hx hb d_Model_from_37 rfl (lv_at hl 0 rfl) ?_
          refine va_get (D := D) (ci := 11) (v := .ref (mA 1)) (C := "BedFrontierModel") (T := T_Model) (N := 22) hx hb htt i_Model hown hK.1 hP 0 rfl rfl 0 (by decide) (htt _ k_772) (fun _ h9 => h9) rfl d_Model_from_38 ?_
          refine lv_iload_n hx hb d_Model_from_41 rfl (lv_at hl 2 rfl) ?_
          refine lv_aload_n hx hb d_Model_from_42 rfl (lv_at hl 0 rfl) ?_
          refine va_get (D := D) (ci := 11) (v := .ref (mA 20)) (C := "BedFrontierModel") (T := T_Model) (N := 22) hx hb htt i_Model hown hK.1 hP 0 rfl rfl 19 (by decide) (htt _ k_791) (fun _ h9 => h9) rfl d_Model_from_43 ?_
          refine lv_bipush (v := (53 : Int32)) hx hb d_Model_from_46 (by decide) ?_
          refine lv_iload_n hx hb d_Model_from_48 rfl (lv_at hl 1 rfl) ?_
          refine lv_imul hx hb d_Model_from_49 ?_
          refine lv_iload_n hx hb d_Model_from_50 rfl (lv_at hl 2 rfl) ?_
          refine lv_iadd hx hb d_Model_from_51 ?_
          obtain ⟨g20, hf⟩ := gdE hf
          refine va_iald hx hb hK.1 hP 9 0 rfl rfl (okI_in g20) d_Model_from_52 ?_
          obtain ⟨g21, hf⟩ := gdE hf
          refine va_iast hx hb hK.1 hP hD hS 1 0 rfl rfl (okI_in g21) d_Model_from_53 (fun H locs hP hD hS => ?_)
          obtain ⟨sM22, e_sM22⟩ : ∃ z : PW, z = up sM7 0 (upd (sM7 0) ((x6).toNatClampNeg) (sM7 19 ((((53 : Int32) * a1) + x6)).toNatClampNeg)) := ⟨_, rfl⟩
          replace hf := nmE hf e_sM22
          have hP : va_P D vwCl (L_m ty mA sM22 sN8) H := by rw [e_sM22]; exact hP
          have hD : va_D A (L_m ty mA sM22 sN8) := by rw [e_sM22]; exact hD
          obtain ⟨x23, e_x23⟩ : ∃ z : Int32, z = (x6 + (1 : Int32)) := ⟨_, rfl⟩
          replace hf := nmE hf e_x23
          refine lv_iinc (v := x23) (lv' := [(2, .int x23), (0, .ref (mA 0)), (1, .int a1)]) hx hb d_Model_from_54 hl (k := 2) rfl (by rw [e_x23]; rfl) (by decide) rfl (fun ls hl => ?_)
          refine lv_goto (tgt := 31) hx hb d_Model_from_57 (by decide) ?_
          exact hK31 (x23, sM22, sN8) hf _ _ ls hP hD hS (lv_sub hl [1, 2, 0] rfl)
      exact B31 4000 ((0 : Int32), sM, sN) hf _ _ ls hP hD hS (lv_sub hl [1, 2, 0] rfl)
    · replace hf := iteT c5 hf
      refine lv_aload_n hx hb d_Model_from_24 rfl (lv_at hl 0 rfl) ?_
      obtain ⟨x24, sM25, sN26, h27, hf⟩ := bd3E hf
      refine vM (Lc := (L_m ty mA sM sN)) (Lc' := (L_m ty mA sM25 sN26)) (L' := (L_m ty mA sM25 sN26)) (q0 := 0) (ci := 11) (rest := []) C0 (c_Model_no l D ty mA H.size sM sN x24 sM25 sN26 h27) k_949 cal_Model_no hK hP hD hS hAq [0, 1, 2, 3, 4, 5, 6, 7, 8, 9, 10, 11] [] [0, 1, 2, 3, 4, 5, 6, 7, 8, 9, 10, 11] [] rfl rfl (by decide) (by decide) (by decide) (by decide) rfl rfl rfl rfl ⟨by rw [hR]; decide, by rw [hR]; decide⟩ rfl rfl rfl hl.1 rfl (Nat.le_of_ble_eq_true rfl) d_Model_from_25 ⟨by rw [hR]; decide, by rw [hR]; decide⟩ rfl (fun H locs hP hD hS => ?_)
      obtain ⟨rfl, rfl, rfl⟩ := sj3 hf
      exact retM C0 (narI _) hQ hP hD hS d_Model_from_28
  · replace hf := iteT c3 hf
    refine lv_aload_n hx hb d_Model_from_10 rfl (lv_at hl 0 rfl) ?_
    obtain ⟨x28, sM29, sN30, h31, hf⟩ := bd3E hf
    refine vM (Lc := (L_m ty mA sM sN)) (Lc' := (L_m ty mA sM29 sN30)) (L' := (L_m ty mA sM29 sN30)) (q0 := 0) (ci := 11) (rest := []) C0 (c_Model_bad l D ty mA H.size sM sN x28 sM29 sN30 h31) k_848 cal_Model_bad hK hP hD hS hAq [0, 1, 2, 3, 4, 5, 6, 7, 8, 9, 10, 11] [] [0, 1, 2, 3, 4, 5, 6, 7, 8, 9, 10, 11] [] rfl rfl (by decide) (by decide) (by decide) (by decide) rfl rfl rfl rfl ⟨by rw [hR]; decide, by rw [hR]; decide⟩ rfl rfl rfl hl.1 rfl (Nat.le_of_ble_eq_true rfl) d_Model_from_11 ⟨by rw [hR]; decide, by rw [hR]; decide⟩ rfl (fun H locs hP hD hS => ?_)
    obtain ⟨rfl, rfl, rfl⟩ := sj3 hf
    exact retM C0 (narI _) hQ hP hD hS d_Model_from_14
def f_Model_status (sM : PW) (sN : PL) (a1 : Int32) : Option (Int32 × PW × PL) :=
  bd (f_Model_in ((a1).toInt64) (0 : Int64) (2 : Int64)) (fun x1 => (if x1 = 0 then bd3 (f_Model_bad sM sN) (fun x5 sM6 sN7 => some ((-1 : Int32), sM6, sN7)) else gd (okI a1 3) (some ((sM 3 (a1).toNatClampNeg), sM, sN))))
set_option maxHeartbeats 4000000 in
set_option maxRecDepth 100000 in
theorem c_Model_status (l : Launch) (D : va_G) (ty : Nat → ClassId) (mA : Nat → Nat) (sz : Nat) (sM : PW) (sN : PL) (a1 : Int32) (rr : Int32) (tM : PW) (tN : PL) (hf : f_Model_status sM sN a1 = some (rr, tM, tN)) : Met l y_Model_status (Cond.code y_Model_status prog_13_method_66_code 2 ((Option.some FieldType.int)) :: lw_ok) { frames := 1, cells := 0, slots := 0, locals := 25 } (PcM D ty [.ref (mA 0), .int a1] sz (L_m ty mA sM sN)) (QM D (L_m ty mA tM tN) (va_A (L_m ty mA sM sN) sz) (some (.int rr))) 0 0 (va_A (L_m ty mA sM sN) sz) := by
  refine hdM (by decide) (Nat.le_of_ble_eq_true rfl) ?_
  intro p e s m below meth c ls R args Q A C0 hR hQ hnm hAq hP hK hD hS hl
  obtain ⟨hx, hb, hr, hlk, hml, hown, htt⟩ := id C0
  have hl : lv_has ls 2 [(0, .ref (mA 0)), (1, .int a1)] := hl
  generalize hH0 : s.heap = H at hP hS ⊢
  have hS : va_S A s.heap H [] := by rw [hH0]; exact hS
  unfold f_Model_status at hf
  refine lv_iload_n hx hb d_Model_status_0 rfl (lv_at hl 1 rfl) ?_
  refine lv_i2l hx hb d_Model_status_1 rfl ?_
  refine lv_lconst (v := (0 : Int64)) hx hb d_Model_status_2 (by decide) ?_
  refine lv_ldc2 (v := (2 : Int64)) hx hb hown (htt _ k_1111) d_Model_status_3 ?_
  obtain ⟨x1, h2, hf⟩ := bdE hf
  refine scR (rest := []) C0 (c_Model_in l D ty ((a1).toInt64) (0 : Int64) (2 : Int64) x1 h2) k_845 cal_Model_in hK (va_P_nil) ⟨by rw [hR]; decide, by rw [hR]; decide⟩ rfl rfl rfl hl.1 rfl (Nat.le_of_ble_eq_true rfl) d_Model_status_6 ⟨Nat.zero_le _, Nat.zero_le _⟩ rfl ?_
  refine lv_if_ne (tgt := 19) hx hb d_Model_status_9 (by decide) (fun c3 => ?_) (fun c3 => ?_)
  · replace hf := iteF c3 hf
    refine lv_aload_n hx hb d_Model_status_19 rfl (lv_at hl 0 rfl) ?_
    refine va_get (D := D) (ci := 11) (v := .ref (mA 4)) (C := "BedFrontierModel") (T := T_Model) (N := 22) hx hb htt i_Model hown hK.1 hP 0 rfl rfl 3 (by decide) (htt _ k_775) (fun _ h9 => h9) rfl d_Model_status_20 ?_
    refine lv_iload_n hx hb d_Model_status_23 rfl (lv_at hl 1 rfl) ?_
    obtain ⟨g4, hf⟩ := gdE hf
    refine va_iald hx hb hK.1 hP 2 0 rfl rfl (okI_in g4) d_Model_status_24 ?_
    obtain ⟨rfl, rfl, rfl⟩ := sj3 hf
    exact retM C0 (narI _) hQ hP hD hS d_Model_status_25
  · replace hf := iteT c3 hf
    refine lv_aload_n hx hb d_Model_status_12 rfl (lv_at hl 0 rfl) ?_
    obtain ⟨x5, sM6, sN7, h8, hf⟩ := bd3E hf
    refine vM (Lc := (L_m ty mA sM sN)) (Lc' := (L_m ty mA sM6 sN7)) (L' := (L_m ty mA sM6 sN7)) (q0 := 0) (ci := 11) (rest := []) C0 (c_Model_bad l D ty mA H.size sM sN x5 sM6 sN7 h8) k_848 cal_Model_bad hK hP hD hS hAq [0, 1, 2, 3, 4, 5, 6, 7, 8, 9, 10, 11] [] [0, 1, 2, 3, 4, 5, 6, 7, 8, 9, 10, 11] [] rfl rfl (by decide) (by decide) (by decide) (by decide) rfl rfl rfl rfl ⟨by rw [hR]; decide, by rw [hR]; decide⟩ rfl rfl rfl hl.1 rfl (Nat.le_of_ble_eq_true rfl) d_Model_status_13 ⟨by rw [hR]; decide, by rw [hR]; decide⟩ rfl (fun H locs hP hD hS => ?_)
    refine lv_pop hx hb d_Model_status_16 rfl ?_
    refine lv_iconst (v := (-1 : Int32)) hx hb d_Model_status_17 (by decide) ?_
    obtain ⟨rfl, rfl, rfl⟩ := sj3 hf
    exact retM C0 (narI _) hQ hP hD hS d_Model_status_18
def f_Model_countOf (sM : PW) (sN : PL) (a1 : Int32) : Option (Int32) :=
  (if a1 = (0 : Int32) then some (sM 0 9) else (if a1 = (1 : Int32) then some (sM 0 1) else (if a1 = (2 : Int32) then some (sM 0 0) else (if a1 = (3 : Int32) then some (sM 0 2) else (if a1 = (4 : Int32) then some (sM 0 22) else (if a1 = (5 : Int32) then some (sM 14 0) else some (sM 5 0)))))))
set_option maxHeartbeats 4000000 in
set_option maxRecDepth 100000 in
theorem c_Model_countOf (l : Launch) (D : va_G) (ty : Nat → ClassId) (mA : Nat → Nat) (sM : PW) (sN : PL) (a1 : Int32) (rr : Int32) (hf : f_Model_countOf sM sN a1 = some rr) : Met l y_Model_countOf (Cond.code y_Model_countOf prog_13_method_67_code 2 ((Option.some FieldType.int)) :: lw_ok) { frames := 0, cells := 0, slots := 0, locals := 0 } (PcR D ty [.ref (mA 0), .int a1] (L_m ty mA sM sN)) (QR (some (.int rr))) 0 0 (fun _ => False) := by
  refine hdR (by decide) (Nat.le_of_ble_eq_true rfl) ?_
  intro p e s m below meth c ls R args Q C0 hR hQ hP hK hl
  obtain ⟨hx, hb, hr, hlk, hml, hown, htt⟩ := id C0
  have hl : lv_has ls 2 [(0, .ref (mA 0)), (1, .int a1)] := hl
  unfold f_Model_countOf at hf
  refine lv_iload_n hx hb d_Model_countOf_0 rfl (lv_at hl 1 rfl) ?_
  by_cases c1 : a1 = (0 : Int32)
  · replace hf := iteT c1 hf
    refine lv_tableIn (off := 39) (tgt := 40) hx hb d_Model_countOf_1 (by rw [c1]; decide) (by rw [c1]; decide) (by rw [c1]; rfl) (by decide) ?_
    refine lv_aload_n hx hb d_Model_countOf_40 rfl (lv_at hl 0 rfl) ?_
    refine va_get (D := D) (ci := 11) (v := .ref (mA 1)) (C := "BedFrontierModel") (T := T_Model) (N := 22) hx hb htt i_Model hown hK.1 hP 0 rfl rfl 0 (by decide) (htt _ k_772) (fun _ h9 => h9) rfl d_Model_countOf_41 ?_
    refine lv_bipush (v := (9 : Int32)) hx hb d_Model_countOf_44 (by decide) ?_
    refine ld_iald (j := 9) hx hb hK.1 hP 1 0 rfl rfl (okI_in (by decide)) rfl d_Model_countOf_46 ?_
    obtain rfl := sj1 hf
    exact retR C0 (narI _) hQ d_Model_countOf_47
  replace hf := iteF c1 hf
  by_cases c2 : a1 = (1 : Int32)
  · replace hf := iteT c2 hf
    refine lv_tableIn (off := 47) (tgt := 48) hx hb d_Model_countOf_1 (by rw [c2]; decide) (by rw [c2]; decide) (by rw [c2]; rfl) (by decide) ?_
    refine lv_aload_n hx hb d_Model_countOf_48 rfl (lv_at hl 0 rfl) ?_
    refine va_get (D := D) (ci := 11) (v := .ref (mA 1)) (C := "BedFrontierModel") (T := T_Model) (N := 22) hx hb htt i_Model hown hK.1 hP 0 rfl rfl 0 (by decide) (htt _ k_772) (fun _ h9 => h9) rfl d_Model_countOf_49 ?_
    refine lv_iconst (v := (1 : Int32)) hx hb d_Model_countOf_52 (by decide) ?_
    refine ld_iald (j := 1) hx hb hK.1 hP 1 0 rfl rfl (okI_in (by decide)) rfl d_Model_countOf_53 ?_
    obtain rfl := sj1 hf
    exact retR C0 (narI _) hQ d_Model_countOf_54
  replace hf := iteF c2 hf
  by_cases c3 : a1 = (2 : Int32)
  · replace hf := iteT c3 hf
    refine lv_tableIn (off := 54) (tgt := 55) hx hb d_Model_countOf_1 (by rw [c3]; decide) (by rw [c3]; decide) (by rw [c3]; rfl) (by decide) ?_
    refine lv_aload_n hx hb d_Model_countOf_55 rfl (lv_at hl 0 rfl) ?_
    refine va_get (D := D) (ci := 11) (v := .ref (mA 1)) (C := "BedFrontierModel") (T := T_Model) (N := 22) hx hb htt i_Model hown hK.1 hP 0 rfl rfl 0 (by decide) (htt _ k_772) (fun _ h9 => h9) rfl d_Model_countOf_56 ?_
    refine lv_iconst (v := (0 : Int32)) hx hb d_Model_countOf_59 (by decide) ?_
    refine ld_iald (j := 0) hx hb hK.1 hP 1 0 rfl rfl (okI_in (by decide)) rfl d_Model_countOf_60 ?_
    obtain rfl := sj1 hf
    exact retR C0 (narI _) hQ d_Model_countOf_61
  replace hf := iteF c3 hf
  by_cases c4 : a1 = (3 : Int32)
  · replace hf := iteT c4 hf
    refine lv_tableIn (off := 61) (tgt := 62) hx hb d_Model_countOf_1 (by rw [c4]; decide) (by rw [c4]; decide) (by rw [c4]; rfl) (by decide) ?_
    refine lv_aload_n hx hb d_Model_countOf_62 rfl (lv_at hl 0 rfl) ?_
    refine va_get (D := D) (ci := 11) (v := .ref (mA 1)) (C := "BedFrontierModel") (T := T_Model) (N := 22) hx hb htt i_Model hown hK.1 hP 0 rfl rfl 0 (by decide) (htt _ k_772) (fun _ h9 => h9) rfl d_Model_countOf_63 ?_
    refine lv_iconst (v := (2 : Int32)) hx hb d_Model_countOf_66 (by decide) ?_
    refine ld_iald (j := 2) hx hb hK.1 hP 1 0 rfl rfl (okI_in (by decide)) rfl d_Model_countOf_67 ?_
    obtain rfl := sj1 hf
    exact retR C0 (narI _) hQ d_Model_countOf_68
  replace hf := iteF c4 hf
  by_cases c5 : a1 = (4 : Int32)
  · replace hf := iteT c5 hf
    refine lv_tableIn (off := 68) (tgt := 69) hx hb d_Model_countOf_1 (by rw [c5]; decide) (by rw [c5]; decide) (by rw [c5]; rfl) (by decide) ?_
    refine lv_aload_n hx hb d_Model_countOf_69 rfl (lv_at hl 0 rfl) ?_
    refine va_get (D := D) (ci := 11) (v := .ref (mA 1)) (C := "BedFrontierModel") (T := T_Model) (N := 22) hx hb htt i_Model hown hK.1 hP 0 rfl rfl 0 (by decide) (htt _ k_772) (fun _ h9 => h9) rfl d_Model_countOf_70 ?_
    refine lv_bipush (v := (22 : Int32)) hx hb d_Model_countOf_73 (by decide) ?_
    refine ld_iald (j := 22) hx hb hK.1 hP 1 0 rfl rfl (okI_in (by decide)) rfl d_Model_countOf_75 ?_
    obtain rfl := sj1 hf
    exact retR C0 (narI _) hQ d_Model_countOf_76
  replace hf := iteF c5 hf
  by_cases c6 : a1 = (5 : Int32)
  · replace hf := iteT c6 hf
    refine lv_tableIn (off := 76) (tgt := 77) hx hb d_Model_countOf_1 (by rw [c6]; decide) (by rw [c6]; decide) (by rw [c6]; rfl) (by decide) ?_
    refine lv_aload_n hx hb d_Model_countOf_77 rfl (lv_at hl 0 rfl) ?_
    refine va_get (D := D) (ci := 11) (v := .int (sM 14 0)) (C := "BedFrontierModel") (T := T_Model) (N := 22) hx hb htt i_Model hown hK.1 hP 0 rfl rfl 14 (by decide) (htt _ k_786) (fun _ h9 => h9) rfl d_Model_countOf_78 ?_
    obtain rfl := sj1 hf
    exact retR C0 (narI _) hQ d_Model_countOf_81
  replace hf := iteF c6 hf
  refine lv_tableOut (tgt := 82) hx hb d_Model_countOf_1 (by have c1' := lv_neT (a := 0) c1 rfl; have c2' := lv_neT (a := 1) c2 rfl; have c3' := lv_neT (a := 2) c3 rfl; have c4' := lv_neT (a := 3) c4 rfl; have c5' := lv_neT (a := 4) c5 rfl; have c6' := lv_neT (a := 5) c6 rfl; omega) (by decide) ?_
  refine lv_aload_n hx hb d_Model_countOf_82 rfl (lv_at hl 0 rfl) ?_
  refine va_get (D := D) (ci := 11) (v := .int (sM 5 0)) (C := "BedFrontierModel") (T := T_Model) (N := 22) hx hb htt i_Model hown hK.1 hP 0 rfl rfl 5 (by decide) (htt _ k_777) (fun _ h9 => h9) rfl d_Model_countOf_83 ?_
  obtain rfl := sj1 hf
  exact retR C0 (narI _) hQ d_Model_countOf_86
def f_Model_count (sM : PW) (sN : PL) (a1 : Int32) : Option (Int32 × PW × PL) :=
  bd (f_Model_in ((a1).toInt64) (0 : Int64) (6 : Int64)) (fun x1 => (if x1 = 0 then bd3 (f_Model_bad sM sN) (fun x4 sM5 sN6 => some (x4, sM5, sN6)) else bd (f_Model_countOf sM sN a1) (fun x8 => some (x8, sM, sN))))
set_option maxHeartbeats 4000000 in
set_option maxRecDepth 100000 in
theorem c_Model_count (l : Launch) (D : va_G) (ty : Nat → ClassId) (mA : Nat → Nat) (sz : Nat) (sM : PW) (sN : PL) (a1 : Int32) (rr : Int32) (tM : PW) (tN : PL) (hf : f_Model_count sM sN a1 = some (rr, tM, tN)) : Met l y_Model_count (Cond.code y_Model_count prog_13_method_68_code 2 ((Option.some FieldType.int)) :: lw_ok) { frames := 1, cells := 0, slots := 0, locals := 25 } (PcM D ty [.ref (mA 0), .int a1] sz (L_m ty mA sM sN)) (QM D (L_m ty mA tM tN) (va_A (L_m ty mA sM sN) sz) (some (.int rr))) 0 0 (va_A (L_m ty mA sM sN) sz) := by
  refine hdM (by decide) (Nat.le_of_ble_eq_true rfl) ?_
  intro p e s m below meth c ls R args Q A C0 hR hQ hnm hAq hP hK hD hS hl
  obtain ⟨hx, hb, hr, hlk, hml, hown, htt⟩ := id C0
  have hl : lv_has ls 2 [(0, .ref (mA 0)), (1, .int a1)] := hl
  generalize hH0 : s.heap = H at hP hS ⊢
  have hS : va_S A s.heap H [] := by rw [hH0]; exact hS
  unfold f_Model_count at hf
  refine lv_iload_n hx hb d_Model_count_0 rfl (lv_at hl 1 rfl) ?_
  refine lv_i2l hx hb d_Model_count_1 rfl ?_
  refine lv_lconst (v := (0 : Int64)) hx hb d_Model_count_2 (by decide) ?_
  refine lv_ldc2 (v := (6 : Int64)) hx hb hown (htt _ k_1116) d_Model_count_3 ?_
  obtain ⟨x1, h2, hf⟩ := bdE hf
  refine scR (rest := []) C0 (c_Model_in l D ty ((a1).toInt64) (0 : Int64) (6 : Int64) x1 h2) k_845 cal_Model_in hK (va_P_nil) ⟨by rw [hR]; decide, by rw [hR]; decide⟩ rfl rfl rfl hl.1 rfl (Nat.le_of_ble_eq_true rfl) d_Model_count_6 ⟨Nat.zero_le _, Nat.zero_le _⟩ rfl ?_
  refine lv_if_eq (tgt := 20) hx hb d_Model_count_9 (by decide) (fun c3 => ?_) (fun c3 => ?_)
  · replace hf := iteT c3 hf
    refine lv_aload_n hx hb d_Model_count_20 rfl (lv_at hl 0 rfl) ?_
    obtain ⟨x4, sM5, sN6, h7, hf⟩ := bd3E hf
    refine vM (Lc := (L_m ty mA sM sN)) (Lc' := (L_m ty mA sM5 sN6)) (L' := (L_m ty mA sM5 sN6)) (q0 := 0) (ci := 11) (rest := []) C0 (c_Model_bad l D ty mA H.size sM sN x4 sM5 sN6 h7) k_848 cal_Model_bad hK hP hD hS hAq [0, 1, 2, 3, 4, 5, 6, 7, 8, 9, 10, 11] [] [0, 1, 2, 3, 4, 5, 6, 7, 8, 9, 10, 11] [] rfl rfl (by decide) (by decide) (by decide) (by decide) rfl rfl rfl rfl ⟨by rw [hR]; decide, by rw [hR]; decide⟩ rfl rfl rfl hl.1 rfl (Nat.le_of_ble_eq_true rfl) d_Model_count_21 ⟨by rw [hR]; decide, by rw [hR]; decide⟩ rfl (fun H locs hP hD hS => ?_)
    obtain ⟨rfl, rfl, rfl⟩ := sj3 hf
    exact retM C0 (narI _) hQ hP hD hS d_Model_count_24
  · replace hf := iteF c3 hf
    refine lv_aload_n hx hb d_Model_count_12 rfl (lv_at hl 0 rfl) ?_
    refine lv_iload_n hx hb d_Model_count_13 rfl (lv_at hl 1 rfl) ?_
    obtain ⟨x8, h9, hf⟩ := bdE hf
    refine vR (q0 := 0) (ci := 11) (rest := []) C0 (c_Model_countOf l D ty mA sM sN a1 x8 h9) k_1117 cal_Model_countOf hK hP rfl rfl rfl ⟨by rw [hR]; decide, by rw [hR]; decide⟩ rfl rfl rfl hl.1 rfl (Nat.le_of_ble_eq_true rfl) d_Model_count_14 ⟨Nat.zero_le _, Nat.zero_le _⟩ rfl ?_
    refine lv_goto (tgt := 24) hx hb d_Model_count_17 (by decide) ?_
    obtain ⟨rfl, rfl, rfl⟩ := sj3 hf
    exact retM C0 (narI _) hQ hP hD hS d_Model_count_24
def f_Model_digest_L160 (sM : PW) (sN : PL) (K160 : Int64 × Int32 → Option (Int64)) : Int64 × Int32 → Option (Int64)
  | (x12, x13) =>
  (if ((5 : Int32) * (sM 0 22)) ≤ x13 then nm (((31 : Int64) * x12) + (sN 1)) (fun x15 => some (((31 : Int64) * x15) + (sN 2))) else gd (okI ((23 : Int32) + x13) 53) (nm (((31 : Int64) * x12) + ((sM 0 (((23 : Int32) + x13)).toNatClampNeg)).toInt64) (fun x17 => nm (x13 + (1 : Int32)) (fun x18 => K160 (x17, x18)))))
def f_Model_digest_L107 (sM : PW) (sN : PL) (K107 : Int64 × Int32 → Option (Int64)) : Int64 × Int32 → Option (Int64)
  | (x9, x10) =>
  (if (sM 0 9) ≤ x10 then loopF (f_Model_digest_L160 sM sN) 4000 (x9, (0 : Int32)) else gd (okI ((10 : Int32) + x10) 53) (nm (((31 : Int64) * x9) + ((sM 0 (((10 : Int32) + x10)).toNatClampNeg)).toInt64) (fun x20 => gd (okI ((16 : Int32) + x10) 53) (nm (((31 : Int64) * x20) + ((sM 0 (((16 : Int32) + x10)).toNatClampNeg)).toInt64) (fun x22 => nm (x10 + (1 : Int32)) (fun x23 => K107 (x22, x23)))))))
def f_Model_digest_L61 (sM : PW) (sN : PL) (K61 : Int64 × Int32 → Option (Int64)) : Int64 × Int32 → Option (Int64)
  | (x6, x7) =>
  (if (2 : Int32) ≤ x7 then loopF (f_Model_digest_L107 sM sN) 4000 (x6, (0 : Int32)) else gd (okI ((5 : Int32) + x7) 53) (nm (((31 : Int64) * x6) + ((sM 0 (((5 : Int32) + x7)).toNatClampNeg)).toInt64) (fun x25 => gd (okI ((7 : Int32) + x7) 53) (nm (((31 : Int64) * x25) + ((sM 0 (((7 : Int32) + x7)).toNatClampNeg)).toInt64) (fun x27 => nm (x7 + (1 : Int32)) (fun x28 => K61 (x27, x28)))))))
def f_Model_digest_L6 (sM : PW) (sN : PL) (K6 : Int64 × Int32 → Option (Int64)) : Int64 × Int32 → Option (Int64)
  | (x1, x2) =>
  (if (7 : Int32) ≤ x2 then nm (((31 : Int64) * x1) + ((sM 0 4)).toInt64) (fun x4 => nm (((31 : Int64) * x4) + ((sM 0 3)).toInt64) (fun x5 => loopF (f_Model_digest_L61 sM sN) 4000 (x5, (0 : Int32)))) else bd (f_Model_countOf sM sN x2) (fun x29 => nm (((31 : Int64) * x1) + (x29).toInt64) (fun x31 => nm (x2 + (1 : Int32)) (fun x32 => K6 (x31, x32)))))
def f_Model_digest (sM : PW) (sN : PL) : Option (Int64) :=
  loopF (f_Model_digest_L6 sM sN) 4000 ((1217 : Int64), (0 : Int32))
set_option maxHeartbeats 4000000 in
set_option maxRecDepth 100000 in
theorem c_Model_digest (l : Launch) (D : va_G) (ty : Nat → ClassId) (mA : Nat → Nat) (sM : PW) (sN : PL) (rr : Int64) (hf : f_Model_digest sM sN = some rr) : Met l y_Model_digest (Cond.code y_Model_digest prog_13_method_69_code 4 ((Option.some FieldType.long)) :: lw_ok) { frames := 1, cells := 0, slots := 0, locals := 21 } (PcR D ty [.ref (mA 0)] (L_m ty mA sM sN)) (QR (some (.long rr))) 0 0 (fun _ => False) := by
  refine hdR (by decide) (Nat.le_of_ble_eq_true rfl) ?_
  intro p e s m below meth c ls R args Q C0 hR hQ hP hK hl
  obtain ⟨hx, hb, hr, hlk, hml, hown, htt⟩ := id C0
  have hl : lv_has ls 4 [(0, .ref (mA 0))] := hl
  unfold f_Model_digest at hf
  refine lv_ldc2 (v := (1217 : Int64)) hx hb hown (htt _ k_1125) d_Model_digest_0 ?_
  refine lv_lstore_n (lv' := [(1, .long (1217 : Int64)), (0, .ref (mA 0))]) hx hb d_Model_digest_3 rfl hl (by decide) rfl (fun ls hl => ?_)
  refine lv_iconst (v := (0 : Int32)) hx hb d_Model_digest_4 (by decide) ?_
  refine lv_istore_n (lv' := [(3, .int (0 : Int32)), (1, .long (1217 : Int64)), (0, .ref (mA 0))]) hx hb d_Model_digest_5 rfl hl (by decide) rfl (fun ls hl => ?_)
  have B6 : ∀ (n : Nat) (x : Int64 × Int32), loopF (f_Model_digest_L6 sM sN) n x = some rr → ∀ ls : Array Slot, lv_has ls 4 [(0, .ref (mA 0)), (1, .long (x.1)), (3, .int (x.2))] → W p l e R s m args below meth c s.heap [] 0 0 Q (F0 m 6 ls []) := by
    refine loopW (fun (x : Int64 × Int32) => ∀ ls : Array Slot, lv_has ls 4 [(0, .ref (mA 0)), (1, .long (x.1)), (3, .int (x.2))] → W p l e R s m args below meth c s.heap [] 0 0 Q (F0 m 6 ls [])) ?_
    intro K6 hK6 x hf
    obtain ⟨x1, x2⟩ := x
    rw [f_Model_digest_L6] at hf
    intro ls hl
    have hl : lv_has ls 4 [(0, .ref (mA 0)), (1, .long x1), (3, .int x2)] := hl
    show W p l e R s m args below meth c s.heap [] 0 0 Q (F0 m 6 ls [])
    refine lv_iload_n hx hb d_Model_digest_6 rfl (lv_at hl 2 rfl) ?_
    refine lv_bipush (v := (7 : Int32)) hx hb d_Model_digest_7 (by decide) ?_
    refine lv_icmp_ge (tgt := 31) hx hb d_Model_digest_9 (by decide) (fun c3 => ?_) (fun c3 => ?_)
    · replace hf := iteT c3 hf
      refine lv_ldc2 (v := (31 : Int64)) hx hb hown (htt _ k_1126) d_Model_digest_31 ?_
      refine lv_lload_n hx hb d_Model_digest_34 rfl (lv_at hl 1 rfl) ?_
      refine lv_lmul hx hb d_Model_digest_35 ?_
      refine lv_aload_n hx hb d_Model_digest_36 rfl (lv_at hl 0 rfl) ?_
      refine va_get (D := D) (ci := 11) (v := .ref (mA 1)) (C := "BedFrontierModel") (T := T_Model) (N := 22) hx hb htt i_Model hown hK.1 hP 0 rfl rfl 0 (by decide) (htt _ k_772) (fun _ h9 => h9) rfl d_Model_digest_37 ?_
      refine lv_iconst (v := (4 : Int32)) hx hb d_Model_digest_40 (by decide) ?_
      refine ld_iald (j := 4) hx hb hK.1 hP 1 0 rfl rfl (okI_in (by decide)) rfl d_Model_digest_41 ?_
      refine lv_i2l hx hb d_Model_digest_42 rfl ?_
      refine lv_ladd hx hb d_Model_digest_43 ?_
      refine lv_topl (fun x4 e_x4 => ?_)
      replace hf := nmE hf e_x4
      refine lv_lstore_n (lv' := [(1, .long x4), (0, .ref (mA 0)), (3, .int x2)]) hx hb d_Model_digest_44 rfl hl (by decide) rfl (fun ls hl => ?_)
      refine lv_ldc2 (v := (31 : Int64)) hx hb hown (htt _ k_1126) d_Model_digest_45 ?_
      refine lv_lload_n hx hb d_Model_digest_48 rfl (lv_at hl 0 rfl) ?_
      refine lv_lmul hx hb d_Model_digest_49 ?_
      refine lv_aload_n hx hb d_Model_digest_50 rfl (lv_at hl 1 rfl) ?_
      refine va_get (D := D) (ci := 11) (v := .ref (mA 1)) (C := "BedFrontierModel") (T := T_Model) (N := 22) hx hb htt i_Model hown hK.1 hP 0 rfl rfl 0 (by decide) (htt _ k_772) (fun _ h9 => h9) rfl d_Model_digest_51 ?_
      refine lv_iconst (v := (3 : Int32)) hx hb d_Model_digest_54 (by decide) ?_
      refine ld_iald (j := 3) hx hb hK.1 hP 1 0 rfl rfl (okI_in (by decide)) rfl d_Model_digest_55 ?_
      refine lv_i2l hx hb d_Model_digest_56 rfl ?_
      refine lv_ladd hx hb d_Model_digest_57 ?_
      refine lv_topl (fun x5 e_x5 => ?_)
      replace hf := nmE hf e_x5
      refine lv_lstore_n (lv' := [(1, .long x5), (0, .ref (mA 0)), (3, .int x2)]) hx hb d_Model_digest_58 rfl hl (by decide) rfl (fun ls hl => ?_)
      refine lv_iconst (v := (0 : Int32)) hx hb d_Model_digest_59 (by decide) ?_
      refine lv_istore_n (lv' := [(3, .int (0 : Int32)), (1, .long x5), (0, .ref (mA 0))]) hx hb d_Model_digest_60 rfl hl (by decide) rfl (fun ls hl => ?_)
      have B61 : ∀ (n : Nat) (x : Int64 × Int32), loopF (f_Model_digest_L61 sM sN) n x = some rr → ∀ ls : Array Slot, lv_has ls 4 [(0, .ref (mA 0)), (1, .long (x.1)), (3, .int (x.2))] → W p l e R s m args below meth c s.heap [] 0 0 Q (F0 m 61 ls []) := by
        refine loopW (fun (x : Int64 × Int32) => ∀ ls : Array Slot, lv_has ls 4 [(0, .ref (mA 0)), (1, .long (x.1)), (3, .int (x.2))] → W p l e R s m args below meth c s.heap [] 0 0 Q (F0 m 61 ls [])) ?_
        intro K61 hK61 x hf
        obtain ⟨x6, x7⟩ := x
        rw [f_Model_digest_L61] at hf
        intro ls hl
        have hl : lv_has ls 4 [(0, .ref (mA 0)), (1, .long x6), (3, .int x7)] := hl
        show W p l e R s m args below meth c s.heap [] 0 0 Q (F0 m 61 ls [])
        refine lv_iload_n hx hb d_Model_digest_61 rfl (lv_at hl 2 rfl) ?_
        refine lv_iconst (v := (2 : Int32)) hx hb d_Model_digest_62 (by decide) ?_
        refine lv_icmp_ge (tgt := 105) hx hb d_Model_digest_63 (by decide) (fun c8 => ?_) (fun c8 => ?_)
        · replace hf := iteT c8 hf
          refine lv_iconst (v := (0 : Int32)) hx hb d_Model_digest_105 (by decide) ?_
          refine lv_istore_n (lv' := [(3, .int (0 : Int32)), (0, .ref (mA 0)), (1, .long x6)]) hx hb d_Model_digest_106 rfl hl (by decide) rfl (fun ls hl => ?_)
          have B107 : ∀ (n : Nat) (x : Int64 × Int32), loopF (f_Model_digest_L107 sM sN) n x = some rr → ∀ ls : Array Slot, lv_has ls 4 [(0, .ref (mA 0)), (1, .long (x.1)), (3, .int (x.2))] → W p l e R s m args below meth c s.heap [] 0 0 Q (F0 m 107 ls []) := by
            refine loopW (fun (x : Int64 × Int32) => ∀ ls : Array Slot, lv_has ls 4 [(0, .ref (mA 0)), (1, .long (x.1)), (3, .int (x.2))] → W p l e R s m args below meth c s.heap [] 0 0 Q (F0 m 107 ls [])) ?_
            intro K107 hK107 x hf
            obtain ⟨x9, x10⟩ := x
            rw [f_Model_digest_L107] at hf
            intro ls hl
            have hl : lv_has ls 4 [(0, .ref (mA 0)), (1, .long x9), (3, .int x10)] := hl
            show W p l e R s m args below meth c s.heap [] 0 0 Q (F0 m 107 ls [])
            refine lv_iload_n hx hb d_Model_digest_107 rfl (lv_at hl 2 rfl) ?_
            refine lv_aload_n hx hb d_Model_digest_108 rfl (lv_at hl 0 rfl) ?_
            refine va_get (D := D) (ci := 11) (v := .ref (mA 1)) (C := "BedFrontierModel") (T := T_Model) (N := 22) hx hb htt i_Model hown hK.1 hP 0 rfl rfl 0 (by decide) (htt _ k_772) (fun _ h9 => h9) rfl d_Model_digest_109 ?_
            refine lv_bipush (v := (9 : Int32)) hx hb d_Model_digest_112 (by decide) ?_
            refine ld_iald (j := 9) hx hb hK.1 hP 1 0 rfl rfl (okI_in (by decide)) rfl d_Model_digest_114 ?_
            refine lv_icmp_ge (tgt := 158) hx hb d_Model_digest_115 (by decide) (fun c11 => ?_) (fun c11 => ?_)
            · replace hf := iteT c11 hf
              refine lv_iconst (v := (0 : Int32)) hx hb d_Model_digest_158 (by decide) ?_
              refine lv_istore_n (lv' := [(3, .int (0 : Int32)), (0, .ref (mA 0)), (1, .long x9)]) hx hb d_Model_digest_159 rfl hl (by decide) rfl (fun ls hl => ?_)
              have B160 : ∀ (n : Nat) (x : Int64 × Int32), loopF (f_Model_digest_L160 sM sN) n x = some rr → ∀ ls : Array Slot, lv_has ls 4 [(0, .ref (mA 0)), (1, .long (x.1)), (3, .int (x.2))] → W p l e R s m args below meth c s.heap [] 0 0 Q (F0 m 160 ls []) := by
                refine loopW (fun (x : Int64 × Int32) => ∀ ls : Array Slot, lv_has ls 4 [(0, .ref (mA 0)), (1, .long (x.1)), (3, .int (x.2))] → W p l e R s m args below meth c s.heap [] 0 0 Q (F0 m 160 ls [])) ?_
                intro K160 hK160 x hf
                obtain ⟨x12, x13⟩ := x
                rw [f_Model_digest_L160] at hf
                intro ls hl
                have hl : lv_has ls 4 [(0, .ref (mA 0)), (1, .long x12), (3, .int x13)] := hl
                show W p l e R s m args below meth c s.heap [] 0 0 Q (F0 m 160 ls [])
                refine lv_iload_n hx hb d_Model_digest_160 rfl (lv_at hl 2 rfl) ?_
                refine lv_iconst (v := (5 : Int32)) hx hb d_Model_digest_161 (by decide) ?_
                refine lv_aload_n hx hb d_Model_digest_162 rfl (lv_at hl 0 rfl) ?_
                refine va_get (D := D) (ci := 11) (v := .ref (mA 1)) (C := "BedFrontierModel") (T := T_Model) (N := 22) hx hb htt i_Model hown hK.1 hP 0 rfl rfl 0 (by decide) (htt _ k_772) (fun _ h9 => h9) rfl d_Model_digest_163 ?_
                refine lv_bipush (v := (22 : Int32)) hx hb d_Model_digest_166 (by decide) ?_
                refine ld_iald (j := 22) hx hb hK.1 hP 1 0 rfl rfl (okI_in (by decide)) rfl d_Model_digest_168 ?_
                refine lv_imul hx hb d_Model_digest_169 ?_
                refine lv_icmp_ge (tgt := 196) hx hb d_Model_digest_170 (by decide) (fun c14 => ?_) (fun c14 => ?_)
                · replace hf := iteT c14 hf
                  refine lv_ldc2 (v := (31 : Int64)) hx hb hown (htt _ k_1126) d_Model_digest_196 ?_
                  refine lv_lload_n hx hb d_Model_digest_199 rfl (lv_at hl 1 rfl) ?_
                  refine lv_lmul hx hb d_Model_digest_200 ?_
                  refine lv_aload_n hx hb d_Model_digest_201 rfl (lv_at hl 0 rfl) ?_
                  refine va_get (D := D) (ci := 11) (v := .long (sN 1)) (C := "BedFrontierModel") (T := T_Model) (N := 22) hx hb htt i_Model hown hK.1 hP 0 rfl rfl 1 (by decide) (htt _ k_773) (fun _ h9 => h9) rfl d_Model_digest_202 ?_
                  refine lv_ladd hx hb d_Model_digest_205 ?_
                  refine lv_topl (fun x15 e_x15 => ?_)
                  replace hf := nmE hf e_x15
                  refine lv_lstore_n (lv' := [(1, .long x15), (0, .ref (mA 0)), (3, .int x13)]) hx hb d_Model_digest_206 rfl hl (by decide) rfl (fun ls hl => ?_)
                  refine lv_ldc2 (v := (31 : Int64)) hx hb hown (htt _ k_1126) d_Model_digest_207 ?_
                  refine lv_lload_n hx hb d_Model_digest_210 rfl (lv_at hl 0 rfl) ?_
                  refine lv_lmul hx hb d_Model_digest_211 ?_
                  refine lv_aload_n hx hb d_Model_digest_212 rfl (lv_at hl 1 rfl) ?_
                  refine va_get (D := D) (ci := 11) (v := .long (sN 2)) (C := "BedFrontierModel") (T := T_Model) (N := 22) hx hb htt i_Model hown hK.1 hP 0 rfl rfl 2 (by decide) (htt _ k_774) (fun _ h9 => h9) rfl d_Model_digest_213 ?_
                  refine lv_ladd hx hb d_Model_digest_216 ?_
                  obtain rfl := sj1 hf
                  exact retRl C0 hQ d_Model_digest_217
                · replace hf := iteF c14 hf
                  refine lv_ldc2 (v := (31 : Int64)) hx hb hown (htt _ k_1126) d_Model_digest_173 ?_
                  refine lv_lload_n hx hb d_Model_digest_176 rfl (lv_at hl 1 rfl) ?_
                  refine lv_lmul hx hb d_Model_digest_177 ?_
                  refine lv_aload_n hx hb d_Model_digest_178 rfl (lv_at hl 0 rfl) ?_
                  refine va_get (D := D) (ci := 11) (v := .ref (mA 1)) (C := "BedFrontierModel") (T := T_Model) (N := 22) hx hb htt i_Model hown hK.1 hP 0 rfl rfl 0 (by decide) (htt _ k_772) (fun _ h9 => h9) rfl d_Model_digest_179 ?_
                  refine lv_bipush (v := (23 : Int32)) hx hb d_Model_digest_182 (by decide) ?_
                  refine lv_iload_n hx hb d_Model_digest_184 rfl (lv_at hl 2 rfl) ?_
                  refine lv_iadd hx hb d_Model_digest_185 ?_
                  obtain ⟨g16, hf⟩ := gdE hf
                  refine va_iald hx hb hK.1 hP 1 0 rfl rfl (okI_in g16) d_Model_digest_186 ?_
                  refine lv_i2l hx hb d_Model_digest_187 rfl ?_
                  refine lv_ladd hx hb d_Model_digest_188 ?_
                  refine lv_topl (fun x17 e_x17 => ?_)
                  replace hf := nmE hf e_x17
                  refine lv_lstore_n (lv' := [(1, .long x17), (0, .ref (mA 0)), (3, .int x13)]) hx hb d_Model_digest_189 rfl hl (by decide) rfl (fun ls hl => ?_)
                  obtain ⟨x18, e_x18⟩ : ∃ z : Int32, z = (x13 + (1 : Int32)) := ⟨_, rfl⟩
                  replace hf := nmE hf e_x18
                  refine lv_iinc (v := x18) (lv' := [(3, .int x18), (1, .long x17), (0, .ref (mA 0))]) hx hb d_Model_digest_190 hl (k := 2) rfl (by rw [e_x18]; rfl) (by decide) rfl (fun ls hl => ?_)
                  refine lv_goto (tgt := 160) hx hb d_Model_digest_193 (by decide) ?_
                  exact hK160 (x17, x18) hf ls (lv_sub hl [2, 1, 0] rfl)
              exact B160 4000 (x9, (0 : Int32)) hf ls (lv_sub hl [1, 2, 0] rfl)
            · replace hf := iteF c11 hf
              refine lv_ldc2 (v := (31 : Int64)) hx hb hown (htt _ k_1126) d_Model_digest_118 ?_
              refine lv_lload_n hx hb d_Model_digest_121 rfl (lv_at hl 1 rfl) ?_
              refine lv_lmul hx hb d_Model_digest_122 ?_
              refine lv_aload_n hx hb d_Model_digest_123 rfl (lv_at hl 0 rfl) ?_
              refine va_get (D := D) (ci := 11) (v := .ref (mA 1)) (C := "BedFrontierModel") (T := T_Model) (N := 22) hx hb htt i_Model hown hK.1 hP 0 rfl rfl 0 (by decide) (htt _ k_772) (fun _ h9 => h9) rfl d_Model_digest_124 ?_
              refine lv_bipush (v := (10 : Int32)) hx hb d_Model_digest_127 (by decide) ?_
              refine lv_iload_n hx hb d_Model_digest_129 rfl (lv_at hl 2 rfl) ?_
              refine lv_iadd hx hb d_Model_digest_130 ?_
              obtain ⟨g19, hf⟩ := gdE hf
              refine va_iald hx hb hK.1 hP 1 0 rfl rfl (okI_in g19) d_Model_digest_131 ?_
              refine lv_i2l hx hb d_Model_digest_132 rfl ?_
              refine lv_ladd hx hb d_Model_digest_133 ?_
              refine lv_topl (fun x20 e_x20 => ?_)
              replace hf := nmE hf e_x20
              refine lv_lstore_n (lv' := [(1, .long x20), (0, .ref (mA 0)), (3, .int x10)]) hx hb d_Model_digest_134 rfl hl (by decide) rfl (fun ls hl => ?_)
              refine lv_ldc2 (v := (31 : Int64)) hx hb hown (htt _ k_1126) d_Model_digest_135 ?_
              refine lv_lload_n hx hb d_Model_digest_138 rfl (lv_at hl 0 rfl) ?_
              refine lv_lmul hx hb d_Model_digest_139 ?_
              refine lv_aload_n hx hb d_Model_digest_140 rfl (lv_at hl 1 rfl) ?_
              refine va_get (D := D) (ci := 11) (v := .ref (mA 1)) (C := "BedFrontierModel") (T := T_Model) (N := 22) hx hb htt i_Model hown hK.1 hP 0 rfl rfl 0 (by decide) (htt _ k_772) (fun _ h9 => h9) rfl d_Model_digest_141 ?_
              refine lv_bipush (v := (16 : Int32)) hx hb d_Model_digest_144 (by decide) ?_
              refine lv_iload_n hx hb d_Model_digest_146 rfl (lv_at hl 2 rfl) ?_
              refine lv_iadd hx hb d_Model_digest_147 ?_
              obtain ⟨g21, hf⟩ := gdE hf
              refine va_iald hx hb hK.1 hP 1 0 rfl rfl (okI_in g21) d_Model_digest_148 ?_
              refine lv_i2l hx hb d_Model_digest_149 rfl ?_
              refine lv_ladd hx hb d_Model_digest_150 ?_
              refine lv_topl (fun x22 e_x22 => ?_)
              replace hf := nmE hf e_x22
              refine lv_lstore_n (lv' := [(1, .long x22), (0, .ref (mA 0)), (3, .int x10)]) hx hb d_Model_digest_151 rfl hl (by decide) rfl (fun ls hl => ?_)
              obtain ⟨x23, e_x23⟩ : ∃ z : Int32, z = (x10 + (1 : Int32)) := ⟨_, rfl⟩
              replace hf := nmE hf e_x23
              refine lv_iinc (v := x23) (lv' := [(3, .int x23), (1, .long x22), (0, .ref (mA 0))]) hx hb d_Model_digest_152 hl (k := 2) rfl (by rw [e_x23]; rfl) (by decide) rfl (fun ls hl => ?_)
              refine lv_goto (tgt := 107) hx hb d_Model_digest_155 (by decide) ?_
              exact hK107 (x22, x23) hf ls (lv_sub hl [2, 1, 0] rfl)
          exact B107 4000 (x6, (0 : Int32)) hf ls (lv_sub hl [1, 2, 0] rfl)
        · replace hf := iteF c8 hf
          refine lv_ldc2 (v := (31 : Int64)) hx hb hown (htt _ k_1126) d_Model_digest_66 ?_
          refine lv_lload_n hx hb d_Model_digest_69 rfl (lv_at hl 1 rfl) ?_
          refine lv_lmul hx hb d_Model_digest_70 ?_
          refine lv_aload_n hx hb d_Model_digest_71 rfl (lv_at hl 0 rfl) ?_
          refine va_get (D := D) (ci := 11) (v := .ref (mA 1)) (C := "BedFrontierModel") (T := T_Model) (N := 22) hx hb htt i_Model hown hK.1 hP 0 rfl rfl 0 (by decide) (htt _ k_772) (fun _ h9 => h9) rfl d_Model_digest_72 ?_
          refine lv_iconst (v := (5 : Int32)) hx hb d_Model_digest_75 (by decide) ?_
          refine lv_iload_n hx hb d_Model_digest_76 rfl (lv_at hl 2 rfl) ?_
          refine lv_iadd hx hb d_Model_digest_77 ?_
          obtain ⟨g24, hf⟩ := gdE hf
          refine va_iald hx hb hK.1 hP 1 0 rfl rfl (okI_in g24) d_Model_digest_78 ?_
          refine lv_i2l hx hb d_Model_digest_79 rfl ?_
          refine lv_ladd hx hb d_Model_digest_80 ?_
          refine lv_topl (fun x25 e_x25 => ?_)
          replace hf := nmE hf e_x25
          refine lv_lstore_n (lv' := [(1, .long x25), (0, .ref (mA 0)), (3, .int x7)]) hx hb d_Model_digest_81 rfl hl (by decide) rfl (fun ls hl => ?_)
          refine lv_ldc2 (v := (31 : Int64)) hx hb hown (htt _ k_1126) d_Model_digest_82 ?_
          refine lv_lload_n hx hb d_Model_digest_85 rfl (lv_at hl 0 rfl) ?_
          refine lv_lmul hx hb d_Model_digest_86 ?_
          refine lv_aload_n hx hb d_Model_digest_87 rfl (lv_at hl 1 rfl) ?_
          refine va_get (D := D) (ci := 11) (v := .ref (mA 1)) (C := "BedFrontierModel") (T := T_Model) (N := 22) hx hb htt i_Model hown hK.1 hP 0 rfl rfl 0 (by decide) (htt _ k_772) (fun _ h9 => h9) rfl d_Model_digest_88 ?_
          refine lv_bipush (v := (7 : Int32)) hx hb d_Model_digest_91 (by decide) ?_
          refine lv_iload_n hx hb d_Model_digest_93 rfl (lv_at hl 2 rfl) ?_
          refine lv_iadd hx hb d_Model_digest_94 ?_
          obtain ⟨g26, hf⟩ := gdE hf
          refine va_iald hx hb hK.1 hP 1 0 rfl rfl (okI_in g26) d_Model_digest_95 ?_
          refine lv_i2l hx hb d_Model_digest_96 rfl ?_
          refine lv_ladd hx hb d_Model_digest_97 ?_
          refine lv_topl (fun x27 e_x27 => ?_)
          replace hf := nmE hf e_x27
          refine lv_lstore_n (lv' := [(1, .long x27), (0, .ref (mA 0)), (3, .int x7)]) hx hb d_Model_digest_98 rfl hl (by decide) rfl (fun ls hl => ?_)
          obtain ⟨x28, e_x28⟩ : ∃ z : Int32, z = (x7 + (1 : Int32)) := ⟨_, rfl⟩
          replace hf := nmE hf e_x28
          refine lv_iinc (v := x28) (lv' := [(3, .int x28), (1, .long x27), (0, .ref (mA 0))]) hx hb d_Model_digest_99 hl (k := 2) rfl (by rw [e_x28]; rfl) (by decide) rfl (fun ls hl => ?_)
          refine lv_goto (tgt := 61) hx hb d_Model_digest_102 (by decide) ?_
          exact hK61 (x27, x28) hf ls (lv_sub hl [2, 1, 0] rfl)
      exact B61 4000 (x5, (0 : Int32)) hf ls (lv_sub hl [2, 1, 0] rfl)
    · replace hf := iteF c3 hf
      refine lv_ldc2 (v := (31 : Int64)) hx hb hown (htt _ k_1126) d_Model_digest_12 ?_
      refine lv_lload_n hx hb d_Model_digest_15 rfl (lv_at hl 1 rfl) ?_
      refine lv_lmul hx hb d_Model_digest_16 ?_
      refine lv_aload_n hx hb d_Model_digest_17 rfl (lv_at hl 0 rfl) ?_
      refine lv_iload_n hx hb d_Model_digest_18 rfl (lv_at hl 2 rfl) ?_
      obtain ⟨x29, h30, hf⟩ := bdE hf
      refine vR (q0 := 0) (ci := 11) (rest := [.long ((31 : Int64) * x1)]) C0 (c_Model_countOf l D ty mA sM sN x2 x29 h30) k_1117 cal_Model_countOf hK hP rfl rfl rfl ⟨by rw [hR]; decide, by rw [hR]; decide⟩ rfl rfl rfl hl.1 rfl (Nat.le_of_ble_eq_true rfl) d_Model_digest_19 ⟨Nat.zero_le _, Nat.zero_le _⟩ rfl ?_
      refine lv_i2l hx hb d_Model_digest_22 rfl ?_
      refine lv_ladd hx hb d_Model_digest_23 ?_
      refine lv_topl (fun x31 e_x31 => ?_)
      replace hf := nmE hf e_x31
      refine lv_lstore_n (lv' := [(1, .long x31), (0, .ref (mA 0)), (3, .int x2)]) hx hb d_Model_digest_24 rfl hl (by decide) rfl (fun ls hl => ?_)
      obtain ⟨x32, e_x32⟩ : ∃ z : Int32, z = (x2 + (1 : Int32)) := ⟨_, rfl⟩
      replace hf := nmE hf e_x32
      refine lv_iinc (v := x32) (lv' := [(3, .int x32), (1, .long x31), (0, .ref (mA 0))]) hx hb d_Model_digest_25 hl (k := 2) rfl (by rw [e_x32]; rfl) (by decide) rfl (fun ls hl => ?_)
      refine lv_goto (tgt := 6) hx hb d_Model_digest_28 (by decide) ?_
      exact hK6 (x31, x32) hf ls (lv_sub hl [2, 1, 0] rfl)
  exact B6 4000 ((1217 : Int64), (0 : Int32)) hf ls (lv_sub hl [2, 1, 0] rfl)
