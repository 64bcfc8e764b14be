theorem kMmax : Cond.code Lib.Math.max.name Lib.Math.max.code 2 (some .int) ∈ lw_ok := k_457
theorem kMmin : Cond.code Lib.Math.min.name Lib.Math.min.code 2 (some .int) ∈ lw_ok := k_578
theorem cab_Plain_price : CalB y_Plain_price prog_7_method_2_code 6 ((Option.some FieldType.int)) 5 := ⟨k_441, k_2, k_463, by decide, by decide, by decide +kernel⟩
def f_Plain_price (a1 : Int32) (a2 : Int32) (a3 : Int32) (a4 : Int32) (a5 : Int32) : Option (Int32) :=
  some (a3 + (a1 / (5 : Int32)))
set_option maxHeartbeats 4000000 in
set_option maxRecDepth 100000 in
theorem c_Plain_price (l : Launch) (D : va_G) (ty : Nat → ClassId) (zA zi : Nat) (zq : vw_C) (hz : vwCl[zi]? = some zq) (a1 : Int32) (a2 : Int32) (a3 : Int32) (a4 : Int32) (a5 : Int32) (rr : Int32) (hf : f_Plain_price a1 a2 a3 a4 a5 = some rr) : Met l y_Plain_price (Cond.code y_Plain_price prog_7_method_2_code 6 ((Option.some FieldType.int)) :: lw_ok) { frames := 0, cells := 0, slots := 0, locals := 0 } (PcR D ty [.ref (zA), .int a1, .int a2, .int a3, .int a4, .int a5] [(zA, .inr (zi, []))]) (QR (some (.int rr))) 0 0 (fun _ => False) := by
  refine hdR (by decide) (Nat.le_of_ble_eq_true rfl) ?_
  intro p e s m below meth c ls R args Q C0 hR hQ hP hK hl
  obtain ⟨hx, hb, hr, hlk, hml, hown, htt⟩ := id C0
  have hl : lv_has ls 6 [(0, .ref (zA)), (1, .int a1), (2, .int a2), (3, .int a3), (4, .int a4), (5, .int a5)] := hl
  unfold f_Plain_price at hf
  refine lv_iload_n hx hb d_Plain_price_0 rfl (lv_at hl 3 rfl) ?_
  refine lv_iload_n hx hb d_Plain_price_1 rfl (lv_at hl 1 rfl) ?_
  refine lv_iconst (v := (5 : Int32)) hx hb d_Plain_price_2 (by decide) ?_
  refine lv_idiv hx hb d_Plain_price_3 (by decide) ?_
  refine lv_iadd hx hb d_Plain_price_4 ?_
  obtain rfl := sj1 hf
  exact retR C0 (narI _) hQ d_Plain_price_5
theorem cab_Plain_passes : CalB y_Plain_passes prog_7_method_3_code 3 ((Option.some FieldType.boolean)) 2 := ⟨k_412, k_2, k_427, by decide, by decide, by decide +kernel⟩
def f_Plain_passes (a1 : Int32) (a2 : Int32) : Option (Int32) :=
  some (0 : Int32)
set_option maxHeartbeats 4000000 in
set_option maxRecDepth 100000 in
theorem c_Plain_passes (l : Launch) (D : va_G) (ty : Nat → ClassId) (zA zi : Nat) (zq : vw_C) (hz : vwCl[zi]? = some zq) (a1 : Int32) (a2 : Int32) (rr : Int32) (hf : f_Plain_passes a1 a2 = some rr) : Met l y_Plain_passes (Cond.code y_Plain_passes prog_7_method_3_code 3 ((Option.some FieldType.boolean)) :: lw_ok) { frames := 0, cells := 0, slots := 0, locals := 0 } (PcR D ty [.ref (zA), .int a1, .int a2] [(zA, .inr (zi, []))]) (QR (some (.int rr))) 0 0 (fun _ => False) := by
  refine hdR (by decide) (Nat.le_of_ble_eq_true rfl) ?_
  intro p e s m below meth c ls R args Q C0 hR hQ hP hK hl
  obtain ⟨hx, hb, hr, hlk, hml, hown, htt⟩ := id C0
  have hl : lv_has ls 3 [(0, .ref (zA)), (1, .int a1), (2, .int a2)] := hl
  unfold f_Plain_passes at hf
  refine lv_iconst (v := (0 : Int32)) hx hb d_Plain_passes_0 (by decide) ?_
  obtain rfl := sj1 hf
  exact retR C0 rfl hQ d_Plain_passes_1
theorem cab_Kiss_price : CalB y_Kiss_price prog_5_method_2_code 6 ((Option.some FieldType.int)) 5 := ⟨k_445, k_3, k_446, by decide, by decide, by decide +kernel⟩
def f_Kiss_price (a1 : Int32) (a2 : Int32) (a3 : Int32) (a4 : Int32) (a5 : Int32) : Option (Int32) :=
  some (0 : Int32)
set_option maxHeartbeats 4000000 in
set_option maxRecDepth 100000 in
theorem c_Kiss_price (l : Launch) (D : va_G) (ty : Nat → ClassId) (zA zi : Nat) (zq : vw_C) (hz : vwCl[zi]? = some zq) (a1 : Int32) (a2 : Int32) (a3 : Int32) (a4 : Int32) (a5 : Int32) (rr : Int32) (hf : f_Kiss_price a1 a2 a3 a4 a5 = some rr) : Met l y_Kiss_price (Cond.code y_Kiss_price prog_5_method_2_code 6 ((Option.some FieldType.int)) :: lw_ok) { frames := 0, cells := 0, slots := 0, locals := 0 } (PcR D ty [.ref (zA), .int a1, .int a2, .int a3, .int a4, .int a5] [(zA, .inr (zi, []))]) (QR (some (.int rr))) 0 0 (fun _ => False) := by
  refine hdR (by decide) (Nat.le_of_ble_eq_true rfl) ?_
  intro p e s m below meth c ls R args Q C0 hR hQ hP hK hl
  obtain ⟨hx, hb, hr, hlk, hml, hown, htt⟩ := id C0
  have hl : lv_has ls 6 [(0, .ref (zA)), (1, .int a1), (2, .int a2), (3, .int a3), (4, .int a4), (5, .int a5)] := hl
  unfold f_Kiss_price at hf
  refine lv_iconst (v := (0 : Int32)) hx hb d_Kiss_price_0 (by decide) ?_
  obtain rfl := sj1 hf
  exact retR C0 (narI _) hQ d_Kiss_price_1
theorem cab_Quarrel_price : CalB y_Quarrel_price prog_9_method_2_code 7 ((Option.some FieldType.int)) 5 := ⟨k_459, k_4, k_460, by decide, by decide, by decide +kernel⟩
def f_Quarrel_price (a1 : Int32) (a2 : Int32) (a3 : Int32) (a4 : Int32) (a5 : Int32) : Option (Int32) :=
  bd (f_Plain_price a1 a2 a3 a4 a5) (fun x1 => (if a5 = 0 then some x1 else some ((2 : Int32) * x1)))
set_option maxHeartbeats 4000000 in
set_option maxRecDepth 100000 in
theorem c_Quarrel_price (l : Launch) (D : va_G) (ty : Nat → ClassId) (zA zi : Nat) (zq : vw_C) (hz : vwCl[zi]? = some zq) (a1 : Int32) (a2 : Int32) (a3 : Int32) (a4 : Int32) (a5 : Int32) (rr : Int32) (hf : f_Quarrel_price a1 a2 a3 a4 a5 = some rr) : Met l y_Quarrel_price (Cond.code y_Quarrel_price prog_9_method_2_code 7 ((Option.some FieldType.int)) :: lw_ok) { frames := 1, cells := 0, slots := 0, locals := 25 } (PcR D ty [.ref (zA), .int a1, .int a2, .int a3, .int a4, .int a5] [(zA, .inr (zi, []))]) (QR (some (.int rr))) 0 0 (fun _ => False) := by
  refine hdR (by decide) (Nat.le_of_ble_eq_true rfl) ?_
  intro p e s m below meth c ls R args Q C0 hR hQ hP hK hl
  obtain ⟨hx, hb, hr, hlk, hml, hown, htt⟩ := id C0
  have hl : lv_has ls 7 [(0, .ref (zA)), (1, .int a1), (2, .int a2), (3, .int a3), (4, .int a4), (5, .int a5)] := hl
  unfold f_Quarrel_price at hf
  refine lv_aload_n hx hb d_Quarrel_price_0 rfl (lv_at hl 0 rfl) ?_
  refine lv_iload_n hx hb d_Quarrel_price_1 rfl (lv_at hl 1 rfl) ?_
  refine lv_iload_n hx hb d_Quarrel_price_2 rfl (lv_at hl 2 rfl) ?_
  refine lv_iload_n hx hb d_Quarrel_price_3 rfl (lv_at hl 3 rfl) ?_
  refine lv_iload hx hb d_Quarrel_price_4 (lv_at hl 4 rfl) ?_
  refine lv_iload hx hb d_Quarrel_price_6 (lv_at hl 5 rfl) ?_
  obtain ⟨x1, h2, hf⟩ := bdE hf
  refine suR (q0 := 0) (ci := zi) (rest := []) C0 (c_Plain_price l D ty zA zi zq hz a1 a2 a3 a4 a5 x1 h2) k_461 k_443 k_48 cab_Plain_price (by decide) hK hP hz rfl ⟨by rw [hR]; decide, by rw [hR]; decide⟩ rfl rfl rfl hl.1 rfl (Nat.le_of_ble_eq_true rfl) d_Quarrel_price_8 ⟨Nat.zero_le _, Nat.zero_le _⟩ rfl ?_
  refine lv_istore (lv' := [(6, .int x1), (0, .ref (zA)), (1, .int a1), (2, .int a2), (3, .int a3), (4, .int a4), (5, .int a5)]) hx hb d_Quarrel_price_11 hl (by decide) rfl (fun ls hl => ?_)
  refine lv_iload hx hb d_Quarrel_price_13 (lv_at hl 6 rfl) ?_
  refine lv_if_eq (tgt := 25) hx hb d_Quarrel_price_15 (by decide) (fun c3 => ?_) (fun c3 => ?_)
  · replace hf := iteT c3 hf
    refine lv_iload hx hb d_Quarrel_price_25 (lv_at hl 0 rfl) ?_
    obtain rfl := sj1 hf
    exact retR C0 (narI _) hQ d_Quarrel_price_27
  · replace hf := iteF c3 hf
    refine lv_iconst (v := (2 : Int32)) hx hb d_Quarrel_price_18 (by decide) ?_
    refine lv_iload hx hb d_Quarrel_price_19 (lv_at hl 0 rfl) ?_
    refine lv_imul hx hb d_Quarrel_price_21 ?_
    refine lv_goto (tgt := 27) hx hb d_Quarrel_price_22 (by decide) ?_
    obtain rfl := sj1 hf
    exact retR C0 (narI _) hQ d_Quarrel_price_27
theorem cab_Snoring_price : CalB y_Snoring_price prog_11_method_2_code 7 ((Option.some FieldType.int)) 5 := ⟨k_452, k_5, k_453, by decide, by decide, by decide +kernel⟩
def f_Snoring_price (a1 : Int32) (a2 : Int32) (a3 : Int32) (a4 : Int32) (a5 : Int32) : Option (Int32) :=
  bd (f_Plain_price a1 a2 a3 a4 a5) (fun x1 => (if (22 : Int32) ≤ a4 then some (x1 + (2 : Int32)) else (if (6 : Int32) ≤ a4 then some x1 else some (x1 + (2 : Int32)))))
set_option maxHeartbeats 4000000 in
set_option maxRecDepth 100000 in
theorem c_Snoring_price (l : Launch) (D : va_G) (ty : Nat → ClassId) (zA zi : Nat) (zq : vw_C) (hz : vwCl[zi]? = some zq) (a1 : Int32) (a2 : Int32) (a3 : Int32) (a4 : Int32) (a5 : Int32) (rr : Int32) (hf : f_Snoring_price a1 a2 a3 a4 a5 = some rr) : Met l y_Snoring_price (Cond.code y_Snoring_price prog_11_method_2_code 7 ((Option.some FieldType.int)) :: lw_ok) { frames := 1, cells := 0, slots := 0, locals := 25 } (PcR D ty [.ref (zA), .int a1, .int a2, .int a3, .int a4, .int a5] [(zA, .inr (zi, []))]) (QR (some (.int rr))) 0 0 (fun _ => False) := by
  refine hdR (by decide) (Nat.le_of_ble_eq_true rfl) ?_
  intro p e s m below meth c ls R args Q C0 hR hQ hP hK hl
  obtain ⟨hx, hb, hr, hlk, hml, hown, htt⟩ := id C0
  have hl : lv_has ls 7 [(0, .ref (zA)), (1, .int a1), (2, .int a2), (3, .int a3), (4, .int a4), (5, .int a5)] := hl
  unfold f_Snoring_price at hf
  refine lv_aload_n hx hb d_Snoring_price_0 rfl (lv_at hl 0 rfl) ?_
  refine lv_iload_n hx hb d_Snoring_price_1 rfl (lv_at hl 1 rfl) ?_
  refine lv_iload_n hx hb d_Snoring_price_2 rfl (lv_at hl 2 rfl) ?_
  refine lv_iload_n hx hb d_Snoring_price_3 rfl (lv_at hl 3 rfl) ?_
  refine lv_iload hx hb d_Snoring_price_4 (lv_at hl 4 rfl) ?_
  refine lv_iload hx hb d_Snoring_price_6 (lv_at hl 5 rfl) ?_
  obtain ⟨x1, h2, hf⟩ := bdE hf
  refine suR (q0 := 0) (ci := zi) (rest := []) C0 (c_Plain_price l D ty zA zi zq hz a1 a2 a3 a4 a5 x1 h2) k_454 k_443 k_55 cab_Plain_price (by decide) hK hP hz rfl ⟨by rw [hR]; decide, by rw [hR]; decide⟩ rfl rfl rfl hl.1 rfl (Nat.le_of_ble_eq_true rfl) d_Snoring_price_8 ⟨Nat.zero_le _, Nat.zero_le _⟩ rfl ?_
  refine lv_istore (lv' := [(6, .int x1), (0, .ref (zA)), (1, .int a1), (2, .int a2), (3, .int a3), (4, .int a4), (5, .int a5)]) hx hb d_Snoring_price_11 hl (by decide) rfl (fun ls hl => ?_)
  refine lv_iload hx hb d_Snoring_price_13 (lv_at hl 5 rfl) ?_
  refine lv_bipush (v := (22 : Int32)) hx hb d_Snoring_price_15 (by decide) ?_
  refine lv_icmp_ge (tgt := 27) hx hb d_Snoring_price_17 (by decide) (fun c3 => ?_) (fun c3 => ?_)
  · replace hf := iteT c3 hf
    refine lv_iload hx hb d_Snoring_price_27 (lv_at hl 0 rfl) ?_
    refine lv_iconst (v := (2 : Int32)) hx hb d_Snoring_price_29 (by decide) ?_
    refine lv_iadd hx hb d_Snoring_price_30 ?_
    refine lv_goto (tgt := 36) hx hb d_Snoring_price_31 (by decide) ?_
    obtain rfl := sj1 hf
    exact retR C0 (narI _) hQ d_Snoring_price_36
  · replace hf := iteF c3 hf
    refine lv_iload hx hb d_Snoring_price_20 (lv_at hl 5 rfl) ?_
    refine lv_bipush (v := (6 : Int32)) hx hb d_Snoring_price_22 (by decide) ?_
    refine lv_icmp_ge (tgt := 34) hx hb d_Snoring_price_24 (by decide) (fun c4 => ?_) (fun c4 => ?_)
    · replace hf := iteT c4 hf
      refine lv_iload hx hb d_Snoring_price_34 (lv_at hl 0 rfl) ?_
      obtain rfl := sj1 hf
      exact retR C0 (narI _) hQ d_Snoring_price_36
    · replace hf := iteF c4 hf
      refine lv_iload hx hb d_Snoring_price_27 (lv_at hl 0 rfl) ?_
      refine lv_iconst (v := (2 : Int32)) hx hb d_Snoring_price_29 (by decide) ?_
      refine lv_iadd hx hb d_Snoring_price_30 ?_
      refine lv_goto (tgt := 36) hx hb d_Snoring_price_31 (by decide) ?_
      obtain rfl := sj1 hf
      exact retR C0 (narI _) hQ d_Snoring_price_36
theorem cab_Snoring_passes : CalB y_Snoring_passes prog_11_method_3_code 3 ((Option.some FieldType.boolean)) 2 := ⟨k_423, k_5, k_424, by decide, by decide, by decide +kernel⟩
def f_Snoring_passes (a1 : Int32) (a2 : Int32) : Option (Int32) :=
  (if a1 < (22 : Int32) then some (0 : Int32) else some (1 : Int32))
set_option maxHeartbeats 4000000 in
set_option maxRecDepth 100000 in
theorem c_Snoring_passes (l : Launch) (D : va_G) (ty : Nat → ClassId) (zA zi : Nat) (zq : vw_C) (hz : vwCl[zi]? = some zq) (a1 : Int32) (a2 : Int32) (rr : Int32) (hf : f_Snoring_passes a1 a2 = some rr) : Met l y_Snoring_passes (Cond.code y_Snoring_passes prog_11_method_3_code 3 ((Option.some FieldType.boolean)) :: lw_ok) { frames := 0, cells := 0, slots := 0, locals := 0 } (PcR D ty [.ref (zA), .int a1, .int a2] [(zA, .inr (zi, []))]) (QR (some (.int rr))) 0 0 (fun _ => False) := by
  refine hdR (by decide) (Nat.le_of_ble_eq_true rfl) ?_
  intro p e s m below meth c ls R args Q C0 hR hQ hP hK hl
  obtain ⟨hx, hb, hr, hlk, hml, hown, htt⟩ := id C0
  have hl : lv_has ls 3 [(0, .ref (zA)), (1, .int a1), (2, .int a2)] := hl
  unfold f_Snoring_passes at hf
  refine lv_iload_n hx hb d_Snoring_passes_0 rfl (lv_at hl 1 rfl) ?_
  refine lv_bipush (v := (22 : Int32)) hx hb d_Snoring_passes_1 (by decide) ?_
  refine lv_icmp_lt (tgt := 10) hx hb d_Snoring_passes_3 (by decide) (fun c1 => ?_) (fun c1 => ?_)
  · replace hf := iteT c1 hf
    refine lv_iconst (v := (0 : Int32)) hx hb d_Snoring_passes_10 (by decide) ?_
    obtain rfl := sj1 hf
    exact retR C0 rfl hQ d_Snoring_passes_11
  · replace hf := iteF c1 hf
    refine lv_iconst (v := (1 : Int32)) hx hb d_Snoring_passes_6 (by decide) ?_
    refine lv_goto (tgt := 11) hx hb d_Snoring_passes_7 (by decide) ?_
    obtain rfl := sj1 hf
    exact retR C0 rfl hQ d_Snoring_passes_11
theorem cab_Cat_passes : CalB y_Cat_passes prog_2_method_2_code 3 ((Option.some FieldType.boolean)) 2 := ⟨k_416, k_6, k_417, by decide, by decide, by decide +kernel⟩
def f_Cat_passes (a1 : Int32) (a2 : Int32) : Option (Int32) :=
  some (1 : Int32)
set_option maxHeartbeats 4000000 in
set_option maxRecDepth 100000 in
theorem c_Cat_passes (l : Launch) (D : va_G) (ty : Nat → ClassId) (zA zi : Nat) (zq : vw_C) (hz : vwCl[zi]? = some zq) (a1 : Int32) (a2 : Int32) (rr : Int32) (hf : f_Cat_passes a1 a2 = some rr) : Met l y_Cat_passes (Cond.code y_Cat_passes prog_2_method_2_code 3 ((Option.some FieldType.boolean)) :: lw_ok) { frames := 0, cells := 0, slots := 0, locals := 0 } (PcR D ty [.ref (zA), .int a1, .int a2] [(zA, .inr (zi, []))]) (QR (some (.int rr))) 0 0 (fun _ => False) := by
  refine hdR (by decide) (Nat.le_of_ble_eq_true rfl) ?_
  intro p e s m below meth c ls R args Q C0 hR hQ hP hK hl
  obtain ⟨hx, hb, hr, hlk, hml, hown, htt⟩ := id C0
  have hl : lv_has ls 3 [(0, .ref (zA)), (1, .int a1), (2, .int a2)] := hl
  unfold f_Cat_passes at hf
  refine lv_iconst (v := (1 : Int32)) hx hb d_Cat_passes_0 (by decide) ?_
  obtain rfl := sj1 hf
  exact retR C0 rfl hQ d_Cat_passes_1
theorem cab_Lamp_price : CalB y_Lamp_price prog_6_method_2_code 7 ((Option.some FieldType.int)) 5 := ⟨k_449, k_7, k_450, by decide, by decide, by decide +kernel⟩
def f_Lamp_price (a1 : Int32) (a2 : Int32) (a3 : Int32) (a4 : Int32) (a5 : Int32) : Option (Int32) :=
  bd (f_Snoring_price a1 a2 a3 a4 a5) (fun x1 => (if a2 = (1 : Int32) then some (if (x1 - (1 : Int32)) < (0 : Int32) then (0 : Int32) else (x1 - (1 : Int32))) else some x1))
set_option maxHeartbeats 4000000 in
set_option maxRecDepth 100000 in
theorem c_Lamp_price (l : Launch) (D : va_G) (ty : Nat → ClassId) (zA zi : Nat) (zq : vw_C) (hz : vwCl[zi]? = some zq) (a1 : Int32) (a2 : Int32) (a3 : Int32) (a4 : Int32) (a5 : Int32) (rr : Int32) (hf : f_Lamp_price a1 a2 a3 a4 a5 = some rr) : Met l y_Lamp_price (Cond.code y_Lamp_price prog_6_method_2_code 7 ((Option.some FieldType.int)) :: lw_ok) { frames := 2, cells := 0, slots := 0, locals := 51 } (PcR D ty [.ref (zA), .int a1, .int a2, .int a3, .int a4, .int a5] [(zA, .inr (zi, []))]) (QR (some (.int rr))) 0 0 (fun _ => False) := by
  refine hdR (by decide) (Nat.le_of_ble_eq_true rfl) ?_
  intro p e s m below meth c ls R args Q C0 hR hQ hP hK hl
  obtain ⟨hx, hb, hr, hlk, hml, hown, htt⟩ := id C0
  have hl : lv_has ls 7 [(0, .ref (zA)), (1, .int a1), (2, .int a2), (3, .int a3), (4, .int a4), (5, .int a5)] := hl
  unfold f_Lamp_price at hf
  refine lv_aload_n hx hb d_Lamp_price_0 rfl (lv_at hl 0 rfl) ?_
  refine lv_iload_n hx hb d_Lamp_price_1 rfl (lv_at hl 1 rfl) ?_
  refine lv_iload_n hx hb d_Lamp_price_2 rfl (lv_at hl 2 rfl) ?_
  refine lv_iload_n hx hb d_Lamp_price_3 rfl (lv_at hl 3 rfl) ?_
  refine lv_iload hx hb d_Lamp_price_4 (lv_at hl 4 rfl) ?_
  refine lv_iload hx hb d_Lamp_price_6 (lv_at hl 5 rfl) ?_
  obtain ⟨x1, h2, hf⟩ := bdE hf
  refine suR (q0 := 0) (ci := zi) (rest := []) C0 (c_Snoring_price l D ty zA zi zq hz a1 a2 a3 a4 a5 x1 h2) k_451 k_1128 k_69 cab_Snoring_price (by decide) hK hP hz rfl ⟨by rw [hR]; decide, by rw [hR]; decide⟩ rfl rfl rfl hl.1 rfl (Nat.le_of_ble_eq_true rfl) d_Lamp_price_8 ⟨Nat.zero_le _, Nat.zero_le _⟩ rfl ?_
  refine lv_istore (lv' := [(6, .int x1), (0, .ref (zA)), (1, .int a1), (2, .int a2), (3, .int a3), (4, .int a4), (5, .int a5)]) hx hb d_Lamp_price_11 hl (by decide) rfl (fun ls hl => ?_)
  refine lv_iload_n hx hb d_Lamp_price_13 rfl (lv_at hl 3 rfl) ?_
  refine lv_iconst (v := (1 : Int32)) hx hb d_Lamp_price_14 (by decide) ?_
  refine lv_icmp_ne (tgt := 29) hx hb d_Lamp_price_15 (by decide) (fun c3 => ?_) (fun c3 => ?_)
  · replace hf := iteF c3 hf
    refine lv_iload hx hb d_Lamp_price_29 (lv_at hl 0 rfl) ?_
    obtain rfl := sj1 hf
    exact retR C0 (narI _) hQ d_Lamp_price_31
  · replace hf := iteT c3 hf
    refine lv_iload hx hb d_Lamp_price_18 (lv_at hl 0 rfl) ?_
    refine lv_iconst (v := (1 : Int32)) hx hb d_Lamp_price_20 (by decide) ?_
    refine lv_isub hx hb d_Lamp_price_21 ?_
    refine lv_iconst (v := (0 : Int32)) hx hb d_Lamp_price_22 (by decide) ?_
    refine va_mmax hx hb (hml.trans hl.1.symm) hown (htt _ k_455) (htt _ k_456) (htt _ k_17) (htt _ kMmax) (by rw [hR]; decide) (by rw [hR]; exact Nat.le_of_ble_eq_true rfl) (Nat.zero_le _) (Nat.zero_le _) d_Lamp_price_23 ?_
    refine lv_goto (tgt := 31) hx hb d_Lamp_price_26 (by decide) ?_
    obtain rfl := sj1 hf
    exact retR C0 (narI _) hQ d_Lamp_price_31
theorem cab_Lamp_passes : CalB y_Lamp_passes prog_6_method_3_code 3 ((Option.some FieldType.boolean)) 2 := ⟨k_420, k_7, k_421, by decide, by decide, by decide +kernel⟩
def f_Lamp_passes (a1 : Int32) (a2 : Int32) : Option (Int32) :=
  (if a2 = 0 then bd (f_Snoring_passes a1 a2) (fun x2 => (if x2 = 0 then some (0 : Int32) else some (1 : Int32))) else some (0 : Int32))
set_option maxHeartbeats 4000000 in
set_option maxRecDepth 100000 in
theorem c_Lamp_passes (l : Launch) (D : va_G) (ty : Nat → ClassId) (zA zi : Nat) (zq : vw_C) (hz : vwCl[zi]? = some zq) (a1 : Int32) (a2 : Int32) (rr : Int32) (hf : f_Lamp_passes a1 a2 = some rr) : Met l y_Lamp_passes (Cond.code y_Lamp_passes prog_6_method_3_code 3 ((Option.some FieldType.boolean)) :: lw_ok) { frames := 1, cells := 0, slots := 0, locals := 22 } (PcR D ty [.ref (zA), .int a1, .int a2] [(zA, .inr (zi, []))]) (QR (some (.int rr))) 0 0 (fun _ => False) := by
  refine hdR (by decide) (Nat.le_of_ble_eq_true rfl) ?_
  intro p e s m below meth c ls R args Q C0 hR hQ hP hK hl
  obtain ⟨hx, hb, hr, hlk, hml, hown, htt⟩ := id C0
  have hl : lv_has ls 3 [(0, .ref (zA)), (1, .int a1), (2, .int a2)] := hl
  unfold f_Lamp_passes at hf
  refine lv_iload_n hx hb d_Lamp_passes_0 rfl (lv_at hl 2 rfl) ?_
  refine lv_if_ne (tgt := 17) hx hb d_Lamp_passes_1 (by decide) (fun c1 => ?_) (fun c1 => ?_)
  · replace hf := iteF c1 hf
    refine lv_iconst (v := (0 : Int32)) hx hb d_Lamp_passes_17 (by decide) ?_
    obtain rfl := sj1 hf
    exact retR C0 rfl hQ d_Lamp_passes_18
  · replace hf := iteT c1 hf
    refine lv_aload_n hx hb d_Lamp_passes_4 rfl (lv_at hl 0 rfl) ?_
    refine lv_iload_n hx hb d_Lamp_passes_5 rfl (lv_at hl 1 rfl) ?_
    refine lv_iload_n hx hb d_Lamp_passes_6 rfl (lv_at hl 2 rfl) ?_
    obtain ⟨x2, h3, hf⟩ := bdE hf
    refine suR (q0 := 0) (ci := zi) (rest := []) C0 (c_Snoring_passes l D ty zA zi zq hz a1 a2 x2 h3) k_422 k_1127 k_69 cab_Snoring_passes (by decide) hK hP hz rfl ⟨by rw [hR]; decide, by rw [hR]; decide⟩ rfl rfl rfl hl.1 rfl (Nat.le_of_ble_eq_true rfl) d_Lamp_passes_7 ⟨Nat.zero_le _, Nat.zero_le _⟩ rfl ?_
    refine lv_if_eq (tgt := 17) hx hb d_Lamp_passes_10 (by decide) (fun c4 => ?_) (fun c4 => ?_)
    · replace hf := iteT c4 hf
      refine lv_iconst (v := (0 : Int32)) hx hb d_Lamp_passes_17 (by decide) ?_
      obtain rfl := sj1 hf
      exact retR C0 rfl hQ d_Lamp_passes_18
    · replace hf := iteF c4 hf
      refine lv_iconst (v := (1 : Int32)) hx hb d_Lamp_passes_13 (by decide) ?_
      refine lv_goto (tgt := 18) hx hb d_Lamp_passes_14 (by decide) ?_
      obtain rfl := sj1 hf
      exact retR C0 rfl hQ d_Lamp_passes_18
def f_k_price (k : Nat) (a1 a2 a3 a4 a5 : Int32) : Option Int32 := match k with
  | 0 => f_Plain_price a1 a2 a3 a4 a5
  | 1 => f_Kiss_price a1 a2 a3 a4 a5
  | 2 => f_Quarrel_price a1 a2 a3 a4 a5
  | 3 => f_Snoring_price a1 a2 a3 a4 a5
  | 4 => f_Kiss_price a1 a2 a3 a4 a5
  | _ => f_Lamp_price a1 a2 a3 a4 a5
set_option maxHeartbeats 4000000 in
theorem k_price_W {p : Program} {l : Launch} {e : Env} {R : Room} {s : State} {m : MethodId} {args : Array Value} {below : List Frame} {meth : Method} {c : Code} {H : Heap} {locs : List Loc} {Q : State → Prop} {D : va_G} {ty : Nat → ClassId} {own : String} {cc : ByteArray} {nL index pc : Nat} {rc : Option FieldType} {rest : List Value} {ls : Array Slot} {L : va_W} {kA : Nat → Nat} {i x a1 a2 a3 a4 a5 : Int32}
    (C0 : Cx p s m args meth c own cc nL rc) (hK : KK D ty s) (hP : va_P D vwCl L H) (q0 : Nat) (h0 : L[q0 + 0]? = some (kA 1, .inr (0, []))) (h1 : L[q0 + 1]? = some (kA 2, .inr (1, []))) (h2 : L[q0 + 2]? = some (kA 3, .inr (2, []))) (h3 : L[q0 + 3]? = some (kA 4, .inr (3, []))) (h4 : L[q0 + 4]? = some (kA 5, .inr (4, []))) (h5 : L[q0 + 5]? = some (kA 6, .inr (5, []))) (hin : vp_in i 6) (hf : f_k_price i.toNatClampNeg a1 a2 a3 a4 a5 = some x) (hRf : 4 ≤ R.frames) (hRl : 120 ≤ R.locals) (hsize : ls.size = nL) (hW : (rest.map fun v => v.category).sum ≤ 8) (k1 : Cond.methodLink own index ⟨"BedFrontier$Plain", "price", "(IIIIZ)I"⟩ ∈ lw_ok) (hdg : decode cc pc = .ok (.invokevirtual index, 3))
    (kk : W p l e R s m args below meth c H locs 0 0 Q (F0 m (pc + 3) ls (.int x :: rest))) : W p l e R s m args below meth c H locs 0 0 Q (F0 m pc ls (.int a5 :: .int a4 :: .int a3 :: .int a2 :: .int a1 :: .ref (kA (i.toNatClampNeg + 1)) :: rest)) := by
  have hlt : i.toNatClampNeg < 6 := Nat.not_le.mp fun q => hin (Or.inr q)
  generalize i.toNatClampNeg = k at hlt hf ⊢
  match k, hlt, hf with
  | 0, _, hf => exact oR (q0 := 0) (ci := 0) (rest := rest) (Lc := [(kA 1, .inr (0, []))]) C0 (c_Plain_price l D ty (kA 1) 0 _ rfl a1 a2 a3 a4 a5 x hf) k1 k_443 k_442 cab_Plain_price cab_Plain_price hK (sub1 hP h0) rfl rfl ⟨by show 1 ≤ _; omega, by show 25 ≤ _; omega⟩ rfl rfl rfl hsize rfl hW hdg ⟨Nat.zero_le _, Nat.zero_le _⟩ rfl kk
  | 1, _, hf => exact oR (q0 := 0) (ci := 1) (rest := rest) (Lc := [(kA 2, .inr (1, []))]) C0 (c_Kiss_price l D ty (kA 2) 1 _ rfl a1 a2 a3 a4 a5 x hf) k1 k_443 k_447 cab_Kiss_price cab_Plain_price hK (sub1 hP h1) rfl rfl ⟨by show 1 ≤ _; omega, by show 25 ≤ _; omega⟩ rfl rfl rfl hsize rfl hW hdg ⟨Nat.zero_le _, Nat.zero_le _⟩ rfl kk
  | 2, _, hf => exact oR (q0 := 0) (ci := 2) (rest := rest) (Lc := [(kA 3, .inr (2, []))]) C0 (c_Quarrel_price l D ty (kA 3) 2 _ rfl a1 a2 a3 a4 a5 x hf) k1 k_443 k_458 cab_Quarrel_price cab_Plain_price hK (sub1 hP h2) rfl rfl ⟨by show 2 ≤ _; omega, by show 51 ≤ _; omega⟩ rfl rfl rfl hsize rfl hW hdg ⟨Nat.zero_le _, Nat.zero_le _⟩ rfl kk
  | 3, _, hf => exact oR (q0 := 0) (ci := 3) (rest := rest) (Lc := [(kA 4, .inr (3, []))]) C0 (c_Snoring_price l D ty (kA 4) 3 _ rfl a1 a2 a3 a4 a5 x hf) k1 k_443 k_462 cab_Snoring_price cab_Plain_price hK (sub1 hP h3) rfl rfl ⟨by show 2 ≤ _; omega, by show 51 ≤ _; omega⟩ rfl rfl rfl hsize rfl hW hdg ⟨Nat.zero_le _, Nat.zero_le _⟩ rfl kk
  | 4, _, hf => exact oR (q0 := 0) (ci := 4) (rest := rest) (Lc := [(kA 5, .inr (4, []))]) C0 (c_Kiss_price l D ty (kA 5) 4 _ rfl a1 a2 a3 a4 a5 x hf) k1 k_443 k_444 cab_Kiss_price cab_Plain_price hK (sub1 hP h4) rfl rfl ⟨by show 1 ≤ _; omega, by show 25 ≤ _; omega⟩ rfl rfl rfl hsize rfl hW hdg ⟨Nat.zero_le _, Nat.zero_le _⟩ rfl kk
  | 5, _, hf => exact oR (q0 := 0) (ci := 5) (rest := rest) (Lc := [(kA 6, .inr (5, []))]) C0 (c_Lamp_price l D ty (kA 6) 5 _ rfl a1 a2 a3 a4 a5 x hf) k1 k_443 k_448 cab_Lamp_price cab_Plain_price hK (sub1 hP h5) rfl rfl ⟨by show 3 ≤ _; omega, by show 77 ≤ _; omega⟩ rfl rfl rfl hsize rfl hW hdg ⟨Nat.zero_le _, Nat.zero_le _⟩ rfl kk
  | k + 6, h, _ => exact absurd h (by omega)
def f_k_passes (k : Nat) (a1 a2 : Int32) : Option Int32 := match k with
  | 0 => f_Plain_passes a1 a2
  | 1 => f_Plain_passes a1 a2
  | 2 => f_Plain_passes a1 a2
  | 3 => f_Snoring_passes a1 a2
  | 4 => f_Cat_passes a1 a2
  | _ => f_Lamp_passes a1 a2
set_option maxHeartbeats 4000000 in
theorem k_passes_W {p : Program} {l : Launch} {e : Env} {R : Room} {s : State} {m : MethodId} {args : Array Value} {below : List Frame} {meth : Method} {c : Code} {H : Heap} {locs : List Loc} {Q : State → Prop} {D : va_G} {ty : Nat → ClassId} {own : String} {cc : ByteArray} {nL index pc : Nat} {rc : Option FieldType} {rest : List Value} {ls : Array Slot} {L : va_W} {kA : Nat → Nat} {i x a1 a2 : Int32}
    (C0 : Cx p s m args meth c own cc nL rc) (hK : KK D ty s) (hP : va_P D vwCl L H) (q0 : Nat) (h0 : L[q0 + 0]? = some (kA 1, .inr (0, []))) (h1 : L[q0 + 1]? = some (kA 2, .inr (1, []))) (h2 : L[q0 + 2]? = some (kA 3, .inr (2, []))) (h3 : L[q0 + 3]? = some (kA 4, .inr (3, []))) (h4 : L[q0 + 4]? = some (kA 5, .inr (4, []))) (h5 : L[q0 + 5]? = some (kA 6, .inr (5, []))) (hin : vp_in i 6) (hf : f_k_passes i.toNatClampNeg a1 a2 = some x) (hRf : 4 ≤ R.frames) (hRl : 120 ≤ R.locals) (hsize : ls.size = nL) (hW : (rest.map fun v => v.category).sum ≤ 8) (k1 : Cond.methodLink own index ⟨"BedFrontier$Plain", "passes", "(IZ)Z"⟩ ∈ lw_ok) (hdg : decode cc pc = .ok (.invokevirtual index, 3))
    (kk : W p l e R s m args below meth c H locs 0 0 Q (F0 m (pc + 3) ls (.int x :: rest))) : W p l e R s m args below meth c H locs 0 0 Q (F0 m pc ls (.int a2 :: .int a1 :: .ref (kA (i.toNatClampNeg + 1)) :: rest)) := by
  have hlt : i.toNatClampNeg < 6 := Nat.not_le.mp fun q => hin (Or.inr q)
  generalize i.toNatClampNeg = k at hlt hf ⊢
  match k, hlt, hf with
  | 0, _, hf => exact oR (q0 := 0) (ci := 0) (rest := rest) (Lc := [(kA 1, .inr (0, []))]) C0 (c_Plain_passes l D ty (kA 1) 0 _ rfl a1 a2 x hf) k1 k_414 k_413 cab_Plain_passes cab_Plain_passes hK (sub1 hP h0) rfl rfl ⟨by show 1 ≤ _; omega, by show 22 ≤ _; omega⟩ rfl rfl rfl hsize rfl hW hdg ⟨Nat.zero_le _, Nat.zero_le _⟩ rfl kk
  | 1, _, hf => exact oR (q0 := 0) (ci := 1) (rest := rest) (Lc := [(kA 2, .inr (1, []))]) C0 (c_Plain_passes l D ty (kA 2) 1 _ rfl a1 a2 x hf) k1 k_414 k_418 cab_Plain_passes cab_Plain_passes hK (sub1 hP h1) rfl rfl ⟨by show 1 ≤ _; omega, by show 22 ≤ _; omega⟩ rfl rfl rfl hsize rfl hW hdg ⟨Nat.zero_le _, Nat.zero_le _⟩ rfl kk
  | 2, _, hf => exact oR (q0 := 0) (ci := 2) (rest := rest) (Lc := [(kA 3, .inr (2, []))]) C0 (c_Plain_passes l D ty (kA 3) 2 _ rfl a1 a2 x hf) k1 k_414 k_425 cab_Plain_passes cab_Plain_passes hK (sub1 hP h2) rfl rfl ⟨by show 1 ≤ _; omega, by show 22 ≤ _; omega⟩ rfl rfl rfl hsize rfl hW hdg ⟨Nat.zero_le _, Nat.zero_le _⟩ rfl kk
  | 3, _, hf => exact oR (q0 := 0) (ci := 3) (rest := rest) (Lc := [(kA 4, .inr (3, []))]) C0 (c_Snoring_passes l D ty (kA 4) 3 _ rfl a1 a2 x hf) k1 k_414 k_426 cab_Snoring_passes cab_Plain_passes hK (sub1 hP h3) rfl rfl ⟨by show 1 ≤ _; omega, by show 22 ≤ _; omega⟩ rfl rfl rfl hsize rfl hW hdg ⟨Nat.zero_le _, Nat.zero_le _⟩ rfl kk
  | 4, _, hf => exact oR (q0 := 0) (ci := 4) (rest := rest) (Lc := [(kA 5, .inr (4, []))]) C0 (c_Cat_passes l D ty (kA 5) 4 _ rfl a1 a2 x hf) k1 k_414 k_415 cab_Cat_passes cab_Plain_passes hK (sub1 hP h4) rfl rfl ⟨by show 1 ≤ _; omega, by show 22 ≤ _; omega⟩ rfl rfl rfl hsize rfl hW hdg ⟨Nat.zero_le _, Nat.zero_le _⟩ rfl kk
  | 5, _, hf => exact oR (q0 := 0) (ci := 5) (rest := rest) (Lc := [(kA 6, .inr (5, []))]) C0 (c_Lamp_passes l D ty (kA 6) 5 _ rfl a1 a2 x hf) k1 k_414 k_419 cab_Lamp_passes cab_Plain_passes hK (sub1 hP h5) rfl rfl ⟨by show 2 ≤ _; omega, by show 44 ≤ _; omega⟩ rfl rfl rfl hsize rfl hW hdg ⟨Nat.zero_le _, Nat.zero_le _⟩ rfl kk
  | k + 6, h, _ => exact absurd h (by omega)
