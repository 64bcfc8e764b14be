def f_Face_within (a1 : Int32) (a2 : Int32) : Option (Int32) :=
  (if a1 < 0 then some (0 : Int32) else (if a2 < a1 then some (0 : Int32) else some (1 : Int32)))
set_option maxHeartbeats 4000000 in
set_option maxRecDepth 100000 in
theorem c_Face_within (l : Launch) (D : va_G) (ty : Nat → ClassId) (a1 : Int32) (a2 : Int32) (rr : Int32) (hf : f_Face_within a1 a2 = some rr) : Met l y_Face_within (Cond.code y_Face_within prog_1_method_42_code 2 ((Option.some FieldType.boolean)) :: lw_ok) { frames := 0, cells := 0, slots := 0, locals := 0 } (PcR D ty [.int a1, .int a2] ([] : va_W)) (QR (some (.int rr))) 0 0 (fun _ => False) := by
  refine hdR (by decide) (Nat.le_of_ble_eq_true rfl) ?_
  intro p e s m below meth c ls R args Q C0 hR hQ hP hK hl
  obtain ⟨hx, hb, hr, hlk, hml, hown, htt⟩ := id C0
  have hl : lv_has ls 2 [(0, .int a1), (1, .int a2)] := hl
  unfold f_Face_within at hf
  refine lv_iload_n hx hb d_Face_within_0 rfl (lv_at hl 0 rfl) ?_
  refine lv_if_lt (tgt := 13) hx hb d_Face_within_1 (by decide) (fun c1 => ?_) (fun c1 => ?_)
  · replace hf := iteT c1 hf
    refine lv_iconst (v := (0 : Int32)) hx hb d_Face_within_13 (by decide) ?_
    obtain rfl := sj1 hf
    exact retR C0 rfl hQ d_Face_within_14
  · replace hf := iteF c1 hf
    refine lv_iload_n hx hb d_Face_within_4 rfl (lv_at hl 0 rfl) ?_
    refine lv_iload_n hx hb d_Face_within_5 rfl (lv_at hl 1 rfl) ?_
    refine lv_icmp_gt (tgt := 13) hx hb d_Face_within_6 (by decide) (fun c2 => ?_) (fun c2 => ?_)
    · replace hf := iteT c2 hf
      refine lv_iconst (v := (0 : Int32)) hx hb d_Face_within_13 (by decide) ?_
      obtain rfl := sj1 hf
      exact retR C0 rfl hQ d_Face_within_14
    · replace hf := iteF c2 hf
      refine lv_iconst (v := (1 : Int32)) hx hb d_Face_within_9 (by decide) ?_
      refine lv_goto (tgt := 14) hx hb d_Face_within_10 (by decide) ?_
      obtain rfl := sj1 hf
      exact retR C0 rfl hQ d_Face_within_14
def f_Face_isSide (a1 : Int32) : Option (Int32) :=
  bd (f_Face_within a1 (1 : Int32)) (fun x1 => gd (isZ x1) (some x1))
set_option maxHeartbeats 4000000 in
set_option maxRecDepth 100000 in
theorem c_Face_isSide (l : Launch) (D : va_G) (ty : Nat → ClassId) (a1 : Int32) (rr : Int32) (hf : f_Face_isSide a1 = some rr) : Met l y_Face_isSide (Cond.code y_Face_isSide prog_1_method_40_code 1 ((Option.some FieldType.boolean)) :: lw_ok) { frames := 1, cells := 0, slots := 0, locals := 21 } (PcR D ty [.int a1] ([] : va_W)) (QR (some (.int rr))) 0 0 (fun _ => False) := by
  refine hdR (by decide) (Nat.le_of_ble_eq_true rfl) ?_
  intro p e s m below meth c ls R args Q C0 hR hQ hP hK hl
  obtain ⟨hx, hb, hr, hlk, hml, hown, htt⟩ := id C0
  have hl : lv_has ls 1 [(0, .int a1)] := hl
  unfold f_Face_isSide at hf
  refine lv_iload_n hx hb d_Face_isSide_0 rfl (lv_at hl 0 rfl) ?_
  refine lv_iconst (v := (1 : Int32)) hx hb d_Face_isSide_1 (by decide) ?_
  obtain ⟨x1, h2, hf⟩ := bdE hf
  refine scR (rest := []) C0 (c_Face_within l D ty a1 (1 : Int32) x1 h2) k_234 cal_Face_within hK (va_P_nil) ⟨by rw [hR]; decide, by rw [hR]; decide⟩ rfl rfl rfl hl.1 rfl (Nat.le_of_ble_eq_true rfl) d_Face_isSide_2 ⟨Nat.zero_le _, Nat.zero_le _⟩ rfl ?_
  obtain ⟨g3, hf⟩ := gdE hf
  obtain rfl := sj1 hf
  exact retR C0 (isZ_nar g3) hQ d_Face_isSide_5
def f_Face_isHour (a1 : Int32) : Option (Int32) :=
  bd (f_Face_within a1 (23 : Int32)) (fun x1 => gd (isZ x1) (some x1))
set_option maxHeartbeats 4000000 in
set_option maxRecDepth 100000 in
theorem c_Face_isHour (l : Launch) (D : va_G) (ty : Nat → ClassId) (a1 : Int32) (rr : Int32) (hf : f_Face_isHour a1 = some rr) : Met l y_Face_isHour (Cond.code y_Face_isHour prog_1_method_41_code 1 ((Option.some FieldType.boolean)) :: lw_ok) { frames := 1, cells := 0, slots := 0, locals := 21 } (PcR D ty [.int a1] ([] : va_W)) (QR (some (.int rr))) 0 0 (fun _ => False) := by
  refine hdR (by decide) (Nat.le_of_ble_eq_true rfl) ?_
  intro p e s m below meth c ls R args Q C0 hR hQ hP hK hl
  obtain ⟨hx, hb, hr, hlk, hml, hown, htt⟩ := id C0
  have hl : lv_has ls 1 [(0, .int a1)] := hl
  unfold f_Face_isHour at hf
  refine lv_iload_n hx hb d_Face_isHour_0 rfl (lv_at hl 0 rfl) ?_
  refine lv_bipush (v := (23 : Int32)) hx hb d_Face_isHour_1 (by decide) ?_
  obtain ⟨x1, h2, hf⟩ := bdE hf
  refine scR (rest := []) C0 (c_Face_within l D ty a1 (23 : Int32) x1 h2) k_234 cal_Face_within hK (va_P_nil) ⟨by rw [hR]; decide, by rw [hR]; decide⟩ rfl rfl rfl hl.1 rfl (Nat.le_of_ble_eq_true rfl) d_Face_isHour_3 ⟨Nat.zero_le _, Nat.zero_le _⟩ rfl ?_
  obtain ⟨g3, hf⟩ := gdE hf
  obtain rfl := sj1 hf
  exact retR C0 (isZ_nar g3) hQ d_Face_isHour_6
def f_Face_ownHour (a1 : Int32) (a2 : Int32) : Option (Int32) :=
  (if a1 = 0 then some a2 else some ((a2 + (1 : Int32)) - (a2 + (1 : Int32)) / (24 : Int32) * (24 : Int32)))
set_option maxHeartbeats 4000000 in
set_option maxRecDepth 100000 in
theorem c_Face_ownHour (l : Launch) (D : va_G) (ty : Nat → ClassId) (a1 : Int32) (a2 : Int32) (rr : Int32) (hf : f_Face_ownHour a1 a2 = some rr) : Met l y_Face_ownHour (Cond.code y_Face_ownHour prog_1_method_44_code 2 ((Option.some FieldType.int)) :: lw_ok) { frames := 0, cells := 0, slots := 0, locals := 0 } (PcR D ty [.int a1, .int a2] ([] : va_W)) (QR (some (.int rr))) 0 0 (fun _ => False) := by
  refine hdR (by decide) (Nat.le_of_ble_eq_true rfl) ?_
  intro p e s m below meth c ls R args Q C0 hR hQ hP hK hl
  obtain ⟨hx, hb, hr, hlk, hml, hown, htt⟩ := id C0
  have hl : lv_has ls 2 [(0, .int a1), (1, .int a2)] := hl
  unfold f_Face_ownHour at hf
  refine lv_iload_n hx hb d_Face_ownHour_0 rfl (lv_at hl 0 rfl) ?_
  refine lv_if_ne (tgt := 8) hx hb d_Face_ownHour_1 (by decide) (fun c1 => ?_) (fun c1 => ?_)
  · replace hf := iteF c1 hf
    refine lv_iload_n hx hb d_Face_ownHour_8 rfl (lv_at hl 1 rfl) ?_
    refine lv_iconst (v := (1 : Int32)) hx hb d_Face_ownHour_9 (by decide) ?_
    refine lv_iadd hx hb d_Face_ownHour_10 ?_
    refine lv_bipush (v := (24 : Int32)) hx hb d_Face_ownHour_11 (by decide) ?_
    refine lv_irem hx hb d_Face_ownHour_13 (by decide) ?_
    obtain rfl := sj1 hf
    exact retR C0 (narI _) hQ d_Face_ownHour_14
  · replace hf := iteT c1 hf
    refine lv_iload_n hx hb d_Face_ownHour_4 rfl (lv_at hl 1 rfl) ?_
    refine lv_goto (tgt := 14) hx hb d_Face_ownHour_5 (by decide) ?_
    obtain rfl := sj1 hf
    exact retR C0 (narI _) hQ d_Face_ownHour_14
def f_Face_hisHour (a1 : Int32) (a2 : Int32) : Option (Int32) :=
  (if a1 = 0 then some a2 else some (((a2 + (24 : Int32)) - (1 : Int32)) - ((a2 + (24 : Int32)) - (1 : Int32)) / (24 : Int32) * (24 : Int32)))
set_option maxHeartbeats 4000000 in
set_option maxRecDepth 100000 in
theorem c_Face_hisHour (l : Launch) (D : va_G) (ty : Nat → ClassId) (a1 : Int32) (a2 : Int32) (rr : Int32) (hf : f_Face_hisHour a1 a2 = some rr) : Met l y_Face_hisHour (Cond.code y_Face_hisHour prog_1_method_43_code 2 ((Option.some FieldType.int)) :: lw_ok) { frames := 0, cells := 0, slots := 0, locals := 0 } (PcR D ty [.int a1, .int a2] ([] : va_W)) (QR (some (.int rr))) 0 0 (fun _ => False) := by
  refine hdR (by decide) (Nat.le_of_ble_eq_true rfl) ?_
  intro p e s m below meth c ls R args Q C0 hR hQ hP hK hl
  obtain ⟨hx, hb, hr, hlk, hml, hown, htt⟩ := id C0
  have hl : lv_has ls 2 [(0, .int a1), (1, .int a2)] := hl
  unfold f_Face_hisHour at hf
  refine lv_iload_n hx hb d_Face_hisHour_0 rfl (lv_at hl 0 rfl) ?_
  refine lv_if_ne (tgt := 8) hx hb d_Face_hisHour_1 (by decide) (fun c1 => ?_) (fun c1 => ?_)
  · replace hf := iteF c1 hf
    refine lv_iload_n hx hb d_Face_hisHour_8 rfl (lv_at hl 1 rfl) ?_
    refine lv_bipush (v := (24 : Int32)) hx hb d_Face_hisHour_9 (by decide) ?_
    refine lv_iadd hx hb d_Face_hisHour_11 ?_
    refine lv_iconst (v := (1 : Int32)) hx hb d_Face_hisHour_12 (by decide) ?_
    refine lv_isub hx hb d_Face_hisHour_13 ?_
    refine lv_bipush (v := (24 : Int32)) hx hb d_Face_hisHour_14 (by decide) ?_
    refine lv_irem hx hb d_Face_hisHour_16 (by decide) ?_
    obtain rfl := sj1 hf
    exact retR C0 (narI _) hQ d_Face_hisHour_17
  · replace hf := iteT c1 hf
    refine lv_iload_n hx hb d_Face_hisHour_4 rfl (lv_at hl 1 rfl) ?_
    refine lv_goto (tgt := 17) hx hb d_Face_hisHour_5 (by decide) ?_
    obtain rfl := sj1 hf
    exact retR C0 (narI _) hQ d_Face_hisHour_17
