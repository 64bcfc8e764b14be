def f_House_isBarred (sH : PW) (a1 : Int32) (a2 : Int32) : Option (Int32) :=
  gd (okI a1 2) (bd (f_Face_ownHour a1 a2) (fun x2 => (if (((sH 2 (a1).toNatClampNeg) >>> (x2 &&& 31)) &&& (1 : Int32)) = (1 : Int32) then some (1 : Int32) else some (0 : Int32))))
set_option maxHeartbeats 4000000 in
set_option maxRecDepth 100000 in
theorem c_House_isBarred (l : Launch) (D : va_G) (ty : Nat → ClassId) (hA kA : Nat → Nat) (sH : PW) (a1 : Int32) (a2 : Int32) (rr : Int32) (hf : f_House_isBarred sH a1 a2 = some rr) : Met l y_House_isBarred (Cond.code y_House_isBarred prog_4_method_8_code 3 ((Option.some FieldType.boolean)) :: lw_ok) { frames := 1, cells := 0, slots := 0, locals := 21 } (PcR D ty [.ref (hA 0), .int a1, .int a2] (L_h ty hA kA sH)) (QR (some (.int rr))) 0 0 (fun _ => False) := by
  refine hdR (by decide) (Nat.le_of_ble_eq_true rfl) ?_
  intro p e s m below meth c ls R args Q C0 hR hQ hP hK hl
  obtain ⟨hx, hb, hr, hlk, hml, hown, htt⟩ := id C0
  have hl : lv_has ls 3 [(0, .ref (hA 0)), (1, .int a1), (2, .int a2)] := hl
  unfold f_House_isBarred at hf
  refine lv_aload_n hx hb d_House_isBarred_0 rfl (lv_at hl 0 rfl) ?_
  refine va_get (D := D) (ci := 6) (v := .ref (hA 3)) (C := "BedFrontier$House") (T := T_House) (N := 15) hx hb htt i_House hown hK.1 hP 0 rfl rfl 2 (by decide) (htt _ k_85) (fun _ h9 => h9) rfl d_House_isBarred_1 ?_
  refine lv_iload_n hx hb d_House_isBarred_4 rfl (lv_at hl 1 rfl) ?_
  obtain ⟨g1, hf⟩ := gdE hf
  refine va_iald hx hb hK.1 hP 2 0 rfl rfl (okI_in g1) d_House_isBarred_5 ?_
  refine lv_iload_n hx hb d_House_isBarred_6 rfl (lv_at hl 1 rfl) ?_
  refine lv_iload_n hx hb d_House_isBarred_7 rfl (lv_at hl 2 rfl) ?_
  obtain ⟨x2, h3, hf⟩ := bdE hf
  refine snR (host := "BedFrontier") (rest := [.int (sH 2 (a1).toNatClampNeg)]) C0 (c_Face_ownHour l D ty a1 a2 x2 h3) (by decide) cal_Face_ownHour hK (va_P_nil) ⟨by rw [hR]; decide, by rw [hR]; decide⟩ rfl rfl rfl hl.1 rfl (Nat.le_of_ble_eq_true rfl) d_House_isBarred_8 ⟨Nat.zero_le _, Nat.zero_le _⟩ rfl ?_
  refine lv_ishr hx hb d_House_isBarred_11 ?_
  refine lv_iconst (v := (1 : Int32)) hx hb d_House_isBarred_12 (by decide) ?_
  refine lv_iand hx hb d_House_isBarred_13 ?_
  refine lv_iconst (v := (1 : Int32)) hx hb d_House_isBarred_14 (by decide) ?_
  refine lv_icmp_ne (tgt := 22) hx hb d_House_isBarred_15 (by decide) (fun c4 => ?_) (fun c4 => ?_)
  · replace hf := iteF c4 hf
    refine lv_iconst (v := (0 : Int32)) hx hb d_House_isBarred_22 (by decide) ?_
    obtain rfl := sj1 hf
    exact retR C0 rfl hQ d_House_isBarred_23
  · replace hf := iteT c4 hf
    refine lv_iconst (v := (1 : Int32)) hx hb d_House_isBarred_18 (by decide) ?_
    refine lv_goto (tgt := 23) hx hb d_House_isBarred_19 (by decide) ?_
    obtain rfl := sj1 hf
    exact retR C0 rfl hQ d_House_isBarred_23
def f_House_passesBarred (sH : PW) (a1 : Int32) (a2 : Int32) (a3 : Int32) : Option (Int32) :=
  gd (okI a1 6) (gd (okI (sH 3 (a1).toNatClampNeg) 6) (bd (f_Face_ownHour a2 a3) (fun x3 => bd (f_k_passes ((sH 3 (a1).toNatClampNeg)).toNatClampNeg x3 (sH 8 0)) (fun x5 => gd (isZ x5) (some x5)))))
set_option maxHeartbeats 4000000 in
set_option maxRecDepth 100000 in
theorem c_House_passesBarred (l : Launch) (D : va_G) (ty : Nat → ClassId) (hA kA : Nat → Nat) (sH : PW) (a1 : Int32) (a2 : Int32) (a3 : Int32) (rr : Int32) (hf : f_House_passesBarred sH a1 a2 a3 = some rr) : Met l y_House_passesBarred (Cond.code y_House_passesBarred prog_4_method_7_code 4 ((Option.some FieldType.boolean)) :: lw_ok) { frames := 4, cells := 0, slots := 0, locals := 120 } (PcR D ty [.ref (hA 0), .int a1, .int a2, .int a3] (L_hk ty hA kA sH)) (QR (some (.int rr))) 0 0 (fun _ => False) := by
  refine hdR (by decide) (Nat.le_of_ble_eq_true rfl) ?_
  intro p e s m below meth c ls R args Q C0 hR hQ hP hK hl
  obtain ⟨hx, hb, hr, hlk, hml, hown, htt⟩ := id C0
  have hl : lv_has ls 4 [(0, .ref (hA 0)), (1, .int a1), (2, .int a2), (3, .int a3)] := hl
  unfold f_House_passesBarred at hf
  refine lv_aload_n hx hb d_House_passesBarred_0 rfl (lv_at hl 0 rfl) ?_
  refine va_get (D := D) (ci := 6) (v := .ref (kA 0)) (C := "BedFrontier$House") (T := T_House) (N := 15) hx hb htt i_House hown hK.1 hP 0 rfl rfl 0 (by decide) (htt _ k_80) (fun _ h9 => h9) rfl d_House_passesBarred_1 ?_
  refine lv_aload_n hx hb d_House_passesBarred_4 rfl (lv_at hl 0 rfl) ?_
  refine va_get (D := D) (ci := 6) (v := .ref (hA 4)) (C := "BedFrontier$House") (T := T_House) (N := 15) hx hb htt i_House hown hK.1 hP 0 rfl rfl 3 (by decide) (htt _ k_88) (fun _ h9 => h9) rfl d_House_passesBarred_5 ?_
  refine lv_iload_n hx hb d_House_passesBarred_8 rfl (lv_at hl 1 rfl) ?_
  obtain ⟨g1, hf⟩ := gdE hf
  refine va_iald hx hb hK.1 hP 3 0 rfl rfl (okI_in g1) d_House_passesBarred_9 ?_
  obtain ⟨g2, hf⟩ := gdE hf
  refine aldK hx hb hK.1 hP 7 3 rfl rfl (okI_in g2) d_House_passesBarred_10 ?_
  refine lv_iload_n hx hb d_House_passesBarred_11 rfl (lv_at hl 2 rfl) ?_
  refine lv_iload_n hx hb d_House_passesBarred_12 rfl (lv_at hl 3 rfl) ?_
  obtain ⟨x3, h4, hf⟩ := bdE hf
  refine snR (host := "BedFrontier") (rest := [.ref (kA (((sH 3 (a1).toNatClampNeg)).toNatClampNeg + 1))]) C0 (c_Face_ownHour l D ty a2 a3 x3 h4) (by decide) cal_Face_ownHour hK (va_P_nil) ⟨by rw [hR]; decide, by rw [hR]; decide⟩ rfl rfl rfl hl.1 rfl (Nat.le_of_ble_eq_true rfl) d_House_passesBarred_13 ⟨Nat.zero_le _, Nat.zero_le _⟩ rfl ?_
  refine lv_aload_n hx hb d_House_passesBarred_16 rfl (lv_at hl 0 rfl) ?_
  refine va_get (D := D) (ci := 6) (v := .int (sH 8 0)) (C := "BedFrontier$House") (T := T_House) (N := 15) hx hb htt i_House hown hK.1 hP 0 rfl rfl 8 (by decide) (htt _ k_99) (fun _ h9 => h9) rfl d_House_passesBarred_17 ?_
  obtain ⟨x5, h_x5, hf⟩ := bdE hf
  refine k_passes_W (rest := []) C0 hK hP 8 rfl rfl rfl rfl rfl rfl (okI_in g2) h_x5 (by rw [hR]; decide) (by rw [hR]; decide) hl.1 (Nat.le_of_ble_eq_true rfl) k_411 d_House_passesBarred_20 ?_
  obtain ⟨g6, hf⟩ := gdE hf
  obtain rfl := sj1 hf
  exact retR C0 (isZ_nar g6) hQ d_House_passesBarred_23
def f_House_lets (sH : PW) (a1 : Int32) (a2 : Int32) (a3 : Int32) : Option (Int32) :=
  bd (f_House_isBarred sH a2 a3) (fun x1 => (if x1 = 0 then some (1 : Int32) else bd (f_House_passesBarred sH a1 a2 a3) (fun x4 => (if x4 = 0 then some (0 : Int32) else some (1 : Int32)))))
set_option maxHeartbeats 4000000 in
set_option maxRecDepth 100000 in
theorem c_House_lets (l : Launch) (D : va_G) (ty : Nat → ClassId) (hA kA : Nat → Nat) (sH : PW) (a1 : Int32) (a2 : Int32) (a3 : Int32) (rr : Int32) (hf : f_House_lets sH a1 a2 a3 = some rr) : Met l y_House_lets (Cond.code y_House_lets prog_4_method_9_code 4 ((Option.some FieldType.boolean)) :: lw_ok) { frames := 5, cells := 0, slots := 0, locals := 143 } (PcR D ty [.ref (hA 0), .int a1, .int a2, .int a3] (L_hk ty hA kA sH)) (QR (some (.int rr))) 0 0 (fun _ => False) := by
  refine hdR (by decide) (Nat.le_of_ble_eq_true rfl) ?_
  intro p e s m below meth c ls R args Q C0 hR hQ hP hK hl
  obtain ⟨hx, hb, hr, hlk, hml, hown, htt⟩ := id C0
  have hl : lv_has ls 4 [(0, .ref (hA 0)), (1, .int a1), (2, .int a2), (3, .int a3)] := hl
  unfold f_House_lets at hf
  refine lv_aload_n hx hb d_House_lets_0 rfl (lv_at hl 0 rfl) ?_
  refine lv_iload_n hx hb d_House_lets_1 rfl (lv_at hl 2 rfl) ?_
  refine lv_iload_n hx hb d_House_lets_2 rfl (lv_at hl 3 rfl) ?_
  obtain ⟨x1, h2, hf⟩ := bdE hf
  refine vR (q0 := 0) (ci := 6) (rest := []) C0 (c_House_isBarred l D ty hA kA sH a2 a3 x1 h2) k_400 cal_House_isBarred hK (hP.sub (ws' := (L_h ty hA kA sH)) [0, 1, 2, 3, 4, 5, 6] rfl) rfl rfl rfl ⟨by rw [hR]; decide, by rw [hR]; decide⟩ rfl rfl rfl hl.1 rfl (Nat.le_of_ble_eq_true rfl) d_House_lets_3 ⟨Nat.zero_le _, Nat.zero_le _⟩ rfl ?_
  refine lv_if_eq (tgt := 19) hx hb d_House_lets_6 (by decide) (fun c3 => ?_) (fun c3 => ?_)
  · replace hf := iteT c3 hf
    refine lv_iconst (v := (1 : Int32)) hx hb d_House_lets_19 (by decide) ?_
    refine lv_goto (tgt := 24) hx hb d_House_lets_20 (by decide) ?_
    obtain rfl := sj1 hf
    exact retR C0 rfl hQ d_House_lets_24
  · replace hf := iteF c3 hf
    refine lv_aload_n hx hb d_House_lets_9 rfl (lv_at hl 0 rfl) ?_
    refine lv_iload_n hx hb d_House_lets_10 rfl (lv_at hl 1 rfl) ?_
    refine lv_iload_n hx hb d_House_lets_11 rfl (lv_at hl 2 rfl) ?_
    refine lv_iload_n hx hb d_House_lets_12 rfl (lv_at hl 3 rfl) ?_
    obtain ⟨x4, h5, hf⟩ := bdE hf
    refine vR (q0 := 0) (ci := 6) (rest := []) C0 (c_House_passesBarred l D ty hA kA sH a1 a2 a3 x4 h5) k_407 cal_House_passesBarred hK hP rfl rfl rfl ⟨by rw [hR]; decide, by rw [hR]; decide⟩ rfl rfl rfl hl.1 rfl (Nat.le_of_ble_eq_true rfl) d_House_lets_13 ⟨Nat.zero_le _, Nat.zero_le _⟩ rfl ?_
    refine lv_if_eq (tgt := 23) hx hb d_House_lets_16 (by decide) (fun c6 => ?_) (fun c6 => ?_)
    · replace hf := iteT c6 hf
      refine lv_iconst (v := (0 : Int32)) hx hb d_House_lets_23 (by decide) ?_
      obtain rfl := sj1 hf
      exact retR C0 rfl hQ d_House_lets_24
    · replace hf := iteF c6 hf
      refine lv_iconst (v := (1 : Int32)) hx hb d_House_lets_19 (by decide) ?_
      refine lv_goto (tgt := 24) hx hb d_House_lets_20 (by decide) ?_
      obtain rfl := sj1 hf
      exact retR C0 rfl hQ d_House_lets_24
def f_House_owed (sH : PW) (a1 : Int32) (a2 : Int32) (a3 : Int32) : Option (Int32) :=
  gd (okI a1 6) (gd (okI (sH 3 (a1).toNatClampNeg) 6) (gd (okI a1 6) (gd (okI a2 2) (bd (f_Face_ownHour a2 a3) (fun x5 => bd (f_k_price ((sH 3 (a1).toNatClampNeg)).toNatClampNeg (sH 4 (a1).toNatClampNeg) a2 (sH 1 (a2).toNatClampNeg) x5 (sH 8 0)) (fun x7 => some x7))))))
set_option maxHeartbeats 4000000 in
set_option maxRecDepth 100000 in
theorem c_House_owed (l : Launch) (D : va_G) (ty : Nat → ClassId) (hA kA : Nat → Nat) (sH : PW) (a1 : Int32) (a2 : Int32) (a3 : Int32) (rr : Int32) (hf : f_House_owed sH a1 a2 a3 = some rr) : Met l y_House_owed (Cond.code y_House_owed prog_4_method_10_code 4 ((Option.some FieldType.int)) :: lw_ok) { frames := 4, cells := 0, slots := 0, locals := 120 } (PcR D ty [.ref (hA 0), .int a1, .int a2, .int a3] (L_hk ty hA kA sH)) (QR (some (.int rr))) 0 0 (fun _ => False) := by
  refine hdR (by decide) (Nat.le_of_ble_eq_true rfl) ?_
  intro p e s m below meth c ls R args Q C0 hR hQ hP hK hl
  obtain ⟨hx, hb, hr, hlk, hml, hown, htt⟩ := id C0
  have hl : lv_has ls 4 [(0, .ref (hA 0)), (1, .int a1), (2, .int a2), (3, .int a3)] := hl
  unfold f_House_owed at hf
  refine lv_aload_n hx hb d_House_owed_0 rfl (lv_at hl 0 rfl) ?_
  refine va_get (D := D) (ci := 6) (v := .ref (kA 0)) (C := "BedFrontier$House") (T := T_House) (N := 15) hx hb htt i_House hown hK.1 hP 0 rfl rfl 0 (by decide) (htt _ k_80) (fun _ h9 => h9) rfl d_House_owed_1 ?_
  refine lv_aload_n hx hb d_House_owed_4 rfl (lv_at hl 0 rfl) ?_
  refine va_get (D := D) (ci := 6) (v := .ref (hA 4)) (C := "BedFrontier$House") (T := T_House) (N := 15) hx hb htt i_House hown hK.1 hP 0 rfl rfl 3 (by decide) (htt _ k_88) (fun _ h9 => h9) rfl d_House_owed_5 ?_
  refine lv_iload_n hx hb d_House_owed_8 rfl (lv_at hl 1 rfl) ?_
  obtain ⟨g1, hf⟩ := gdE hf
  refine va_iald hx hb hK.1 hP 3 0 rfl rfl (okI_in g1) d_House_owed_9 ?_
  obtain ⟨g2, hf⟩ := gdE hf
  refine aldK hx hb hK.1 hP 7 3 rfl rfl (okI_in g2) d_House_owed_10 ?_
  refine lv_aload_n hx hb d_House_owed_11 rfl (lv_at hl 0 rfl) ?_
  refine va_get (D := D) (ci := 6) (v := .ref (hA 5)) (C := "BedFrontier$House") (T := T_House) (N := 15) hx hb htt i_House hown hK.1 hP 0 rfl rfl 4 (by decide) (htt _ k_91) (fun _ h9 => h9) rfl d_House_owed_12 ?_
  refine lv_iload_n hx hb d_House_owed_15 rfl (lv_at hl 1 rfl) ?_
  obtain ⟨g3, hf⟩ := gdE hf
  refine va_iald hx hb hK.1 hP 4 0 rfl rfl (okI_in g3) d_House_owed_16 ?_
  refine lv_iload_n hx hb d_House_owed_17 rfl (lv_at hl 2 rfl) ?_
  refine lv_aload_n hx hb d_House_owed_18 rfl (lv_at hl 0 rfl) ?_
  refine va_get (D := D) (ci := 6) (v := .ref (hA 2)) (C := "BedFrontier$House") (T := T_House) (N := 15) hx hb htt i_House hown hK.1 hP 0 rfl rfl 1 (by decide) (htt _ k_82) (fun _ h9 => h9) rfl d_House_owed_19 ?_
  refine lv_iload_n hx hb d_House_owed_22 rfl (lv_at hl 2 rfl) ?_
  obtain ⟨g4, hf⟩ := gdE hf
  refine va_iald hx hb hK.1 hP 1 0 rfl rfl (okI_in g4) d_House_owed_23 ?_
  refine lv_iload_n hx hb d_House_owed_24 rfl (lv_at hl 2 rfl) ?_
  refine lv_iload_n hx hb d_House_owed_25 rfl (lv_at hl 3 rfl) ?_
  obtain ⟨x5, h6, hf⟩ := bdE hf
  refine snR (host := "BedFrontier") (rest := [.int (sH 1 (a2).toNatClampNeg), .int a2, .int (sH 4 (a1).toNatClampNeg), .ref (kA (((sH 3 (a1).toNatClampNeg)).toNatClampNeg + 1))]) C0 (c_Face_ownHour l D ty a2 a3 x5 h6) (by decide) cal_Face_ownHour hK (va_P_nil) ⟨by rw [hR]; decide, by rw [hR]; decide⟩ rfl rfl rfl hl.1 rfl (Nat.le_of_ble_eq_true rfl) d_House_owed_26 ⟨Nat.zero_le _, Nat.zero_le _⟩ rfl ?_
  refine lv_aload_n hx hb d_House_owed_29 rfl (lv_at hl 0 rfl) ?_
  refine va_get (D := D) (ci := 6) (v := .int (sH 8 0)) (C := "BedFrontier$House") (T := T_House) (N := 15) hx hb htt i_House hown hK.1 hP 0 rfl rfl 8 (by decide) (htt _ k_99) (fun _ h9 => h9) rfl d_House_owed_30 ?_
  obtain ⟨x7, h_x7, hf⟩ := bdE hf
  refine k_price_W (rest := []) C0 hK hP 8 rfl rfl rfl rfl rfl rfl (okI_in g2) h_x7 (by rw [hR]; decide) (by rw [hR]; decide) hl.1 (Nat.le_of_ble_eq_true rfl) k_440 d_House_owed_33 ?_
  obtain rfl := sj1 hf
  exact retR C0 (narI _) hQ d_House_owed_36
def f_House_priceAs (sH : PW) (a1 : Int32) (a2 : Int32) (a3 : Int32) (a4 : Int32) (a5 : Int32) : Option (Int32) :=
  gd (okI a1 6) (gd (okI a2 6) (gd (okI a3 2) (bd (f_k_price (a1).toNatClampNeg (sH 4 (a2).toNatClampNeg) a3 (sH 1 (a3).toNatClampNeg) a4 a5) (fun x4 => some x4))))
set_option maxHeartbeats 4000000 in
set_option maxRecDepth 100000 in
theorem c_House_priceAs (l : Launch) (D : va_G) (ty : Nat → ClassId) (hA kA : Nat → Nat) (sH : PW) (a1 : Int32) (a2 : Int32) (a3 : Int32) (a4 : Int32) (a5 : Int32) (rr : Int32) (hf : f_House_priceAs sH a1 a2 a3 a4 a5 = some rr) : Met l y_House_priceAs (Cond.code y_House_priceAs prog_4_method_11_code 6 ((Option.some FieldType.int)) :: lw_ok) { frames := 4, cells := 0, slots := 0, locals := 120 } (PcR D ty [.ref (hA 0), .int a1, .int a2, .int a3, .int a4, .int a5] (L_hk ty hA kA sH)) (QR (some (.int rr))) 0 0 (fun _ => False) := by
  refine hdR (by decide) (Nat.le_of_ble_eq_true rfl) ?_
  intro p e s m below meth c ls R args Q C0 hR hQ hP hK hl
  obtain ⟨hx, hb, hr, hlk, hml, hown, htt⟩ := id C0
  have hl : lv_has ls 6 [(0, .ref (hA 0)), (1, .int a1), (2, .int a2), (3, .int a3), (4, .int a4), (5, .int a5)] := hl
  unfold f_House_priceAs at hf
  refine lv_aload_n hx hb d_House_priceAs_0 rfl (lv_at hl 0 rfl) ?_
  refine va_get (D := D) (ci := 6) (v := .ref (kA 0)) (C := "BedFrontier$House") (T := T_House) (N := 15) hx hb htt i_House hown hK.1 hP 0 rfl rfl 0 (by decide) (htt _ k_80) (fun _ h9 => h9) rfl d_House_priceAs_1 ?_
  refine lv_iload_n hx hb d_House_priceAs_4 rfl (lv_at hl 1 rfl) ?_
  obtain ⟨g1, hf⟩ := gdE hf
  refine aldK hx hb hK.1 hP 7 3 rfl rfl (okI_in g1) d_House_priceAs_5 ?_
  refine lv_aload_n hx hb d_House_priceAs_6 rfl (lv_at hl 0 rfl) ?_
  refine va_get (D := D) (ci := 6) (v := .ref (hA 5)) (C := "BedFrontier$House") (T := T_House) (N := 15) hx hb htt i_House hown hK.1 hP 0 rfl rfl 4 (by decide) (htt _ k_91) (fun _ h9 => h9) rfl d_House_priceAs_7 ?_
  refine lv_iload_n hx hb d_House_priceAs_10 rfl (lv_at hl 2 rfl) ?_
  obtain ⟨g2, hf⟩ := gdE hf
  refine va_iald hx hb hK.1 hP 4 0 rfl rfl (okI_in g2) d_House_priceAs_11 ?_
  refine lv_iload_n hx hb d_House_priceAs_12 rfl (lv_at hl 3 rfl) ?_
  refine lv_aload_n hx hb d_House_priceAs_13 rfl (lv_at hl 0 rfl) ?_
  refine va_get (D := D) (ci := 6) (v := .ref (hA 2)) (C := "BedFrontier$House") (T := T_House) (N := 15) hx hb htt i_House hown hK.1 hP 0 rfl rfl 1 (by decide) (htt _ k_82) (fun _ h9 => h9) rfl d_House_priceAs_14 ?_
  refine lv_iload_n hx hb d_House_priceAs_17 rfl (lv_at hl 3 rfl) ?_
  obtain ⟨g3, hf⟩ := gdE hf
  refine va_iald hx hb hK.1 hP 1 0 rfl rfl (okI_in g3) d_House_priceAs_18 ?_
  refine lv_iload hx hb d_House_priceAs_19 (lv_at hl 4 rfl) ?_
  refine lv_iload hx hb d_House_priceAs_21 (lv_at hl 5 rfl) ?_
  obtain ⟨x4, h_x4, hf⟩ := bdE hf
  refine k_price_W (rest := []) C0 hK hP 8 rfl rfl rfl rfl rfl rfl (okI_in g1) h_x4 (by rw [hR]; decide) (by rw [hR]; decide) hl.1 (Nat.le_of_ble_eq_true rfl) k_440 d_House_priceAs_23 ?_
  obtain rfl := sj1 hf
  exact retR C0 (narI _) hQ d_House_priceAs_26
def f_House_tollTo (sH : PW) (a1 : Int32) (a2 : Int32) : Option (Int32) :=
  (if a1 = a2 then some (0 : Int32) else some (sH 7 0))
set_option maxHeartbeats 4000000 in
set_option maxRecDepth 100000 in
theorem c_House_tollTo (l : Launch) (D : va_G) (ty : Nat → ClassId) (hA kA : Nat → Nat) (sH : PW) (a1 : Int32) (a2 : Int32) (rr : Int32) (hf : f_House_tollTo sH a1 a2 = some rr) : Met l y_House_tollTo (Cond.code y_House_tollTo prog_4_method_12_code 3 ((Option.some FieldType.int)) :: lw_ok) { frames := 0, cells := 0, slots := 0, locals := 0 } (PcR D ty [.ref (hA 0), .int a1, .int a2] (L_h ty hA kA sH)) (QR (some (.int rr))) 0 0 (fun _ => False) := by
  refine hdR (by decide) (Nat.le_of_ble_eq_true rfl) ?_
  intro p e s m below meth c ls R args Q C0 hR hQ hP hK hl
  obtain ⟨hx, hb, hr, hlk, hml, hown, htt⟩ := id C0
  have hl : lv_has ls 3 [(0, .ref (hA 0)), (1, .int a1), (2, .int a2)] := hl
  unfold f_House_tollTo at hf
  refine lv_iload_n hx hb d_House_tollTo_0 rfl (lv_at hl 1 rfl) ?_
  refine lv_iload_n hx hb d_House_tollTo_1 rfl (lv_at hl 2 rfl) ?_
  refine lv_icmp_ne (tgt := 9) hx hb d_House_tollTo_2 (by decide) (fun c1 => ?_) (fun c1 => ?_)
  · replace hf := iteF c1 hf
    refine lv_aload_n hx hb d_House_tollTo_9 rfl (lv_at hl 0 rfl) ?_
    refine va_get (D := D) (ci := 6) (v := .int (sH 7 0)) (C := "BedFrontier$House") (T := T_House) (N := 15) hx hb htt i_House hown hK.1 hP 0 rfl rfl 7 (by decide) (htt _ k_96) (fun _ h9 => h9) rfl d_House_tollTo_10 ?_
    obtain rfl := sj1 hf
    exact retR C0 (narI _) hQ d_House_tollTo_13
  · replace hf := iteT c1 hf
    refine lv_iconst (v := (0 : Int32)) hx hb d_House_tollTo_5 (by decide) ?_
    refine lv_goto (tgt := 13) hx hb d_House_tollTo_6 (by decide) ?_
    obtain rfl := sj1 hf
    exact retR C0 (narI _) hQ d_House_tollTo_13
def f_House_warBit (sH : PW) : Option (Int32) :=
  (if (sH 8 0) = 0 then some (0 : Int32) else some (1 : Int32))
set_option maxHeartbeats 4000000 in
set_option maxRecDepth 100000 in
theorem c_House_warBit (l : Launch) (D : va_G) (ty : Nat → ClassId) (hA kA : Nat → Nat) (sH : PW) (rr : Int32) (hf : f_House_warBit sH = some rr) : Met l y_House_warBit (Cond.code y_House_warBit prog_4_method_4_code 1 ((Option.some FieldType.int)) :: lw_ok) { frames := 0, cells := 0, slots := 0, locals := 0 } (PcR D ty [.ref (hA 0)] (L_h ty hA kA sH)) (QR (some (.int rr))) 0 0 (fun _ => False) := by
  refine hdR (by decide) (Nat.le_of_ble_eq_true rfl) ?_
  intro p e s m below meth c ls R args Q C0 hR hQ hP hK hl
  obtain ⟨hx, hb, hr, hlk, hml, hown, htt⟩ := id C0
  have hl : lv_has ls 1 [(0, .ref (hA 0))] := hl
  unfold f_House_warBit at hf
  refine lv_aload_n hx hb d_House_warBit_0 rfl (lv_at hl 0 rfl) ?_
  refine va_get (D := D) (ci := 6) (v := .int (sH 8 0)) (C := "BedFrontier$House") (T := T_House) (N := 15) hx hb htt i_House hown hK.1 hP 0 rfl rfl 8 (by decide) (htt _ k_99) (fun _ h9 => h9) rfl d_House_warBit_1 ?_
  refine lv_if_eq (tgt := 11) hx hb d_House_warBit_4 (by decide) (fun c1 => ?_) (fun c1 => ?_)
  · replace hf := iteT c1 hf
    refine lv_iconst (v := (0 : Int32)) hx hb d_House_warBit_11 (by decide) ?_
    obtain rfl := sj1 hf
    exact retR C0 (narI _) hQ d_House_warBit_12
  · replace hf := iteF c1 hf
    refine lv_iconst (v := (1 : Int32)) hx hb d_House_warBit_7 (by decide) ?_
    refine lv_goto (tgt := 12) hx hb d_House_warBit_8 (by decide) ?_
    obtain rfl := sj1 hf
    exact retR C0 (narI _) hQ d_House_warBit_12
def f_House_keepStep_J39 (sH1 : PW) : Option (PW) :=
  nm ((sH1 14 0) * (4 : Int32)) (fun x2 => gd (okI x2 32) (nm (up sH1 6 (upd (sH1 6) ((x2).toNatClampNeg) (sH1 9 0))) (fun sH4 => gd (okI (x2 + (1 : Int32)) 32) (nm (up sH4 6 (upd (sH4 6) (((x2 + (1 : Int32))).toNatClampNeg) (sH4 10 0))) (fun sH6 => gd (okI (x2 + (2 : Int32)) 32) (nm (up sH6 6 (upd (sH6 6) (((x2 + (2 : Int32))).toNatClampNeg) (sH6 11 0))) (fun sH8 => bd (f_House_warBit sH8) (fun x9 => gd (okI (x2 + (3 : Int32)) 32) (nm (up sH8 6 (upd (sH8 6) (((x2 + (3 : Int32))).toNatClampNeg) x9)) (fun sH12 => nm (up sH12 14 (fun _ => ((sH12 14 0) + (1 : Int32)))) (fun sH13 => some sH13)))))))))))
def f_House_keepStep (sH : PW) : Option (PW) :=
  (if (sH 14 0) = (8 : Int32) then nm (up sH 6 (va_cpy (sH 6) (sH 6) 4 0 28)) (fun sH15 => nm (up sH15 14 (fun _ => ((sH15 14 0) - (1 : Int32)))) (fun sH16 => f_House_keepStep_J39 sH16)) else f_House_keepStep_J39 sH)
set_option maxHeartbeats 4000000 in
set_option maxRecDepth 100000 in
theorem c_House_keepStep (l : Launch) (D : va_G) (ty : Nat → ClassId) (hA kA : Nat → Nat) (sz : Nat) (sH : PW) (tH : PW) (hf : f_House_keepStep sH = some tH) : Met l y_House_keepStep (Cond.code y_House_keepStep prog_4_method_14_code 2 none :: lw_ok) { frames := 1, cells := 0, slots := 0, locals := 60 } (PcM D ty [.ref (hA 0)] sz (L_h ty hA kA sH)) (QM D (L_h ty hA kA tH) (va_A (L_h ty hA kA sH) sz) (none)) 0 0 (va_A (L_h ty hA kA sH) sz) := by
  refine hdM (by decide) (Nat.le_of_ble_eq_true rfl) ?_
  intro p e s m below meth c ls R args Q A C0 hR hQ hnm hAq hP hK hD hS hl
  obtain ⟨hx, hb, hr, hlk, hml, hown, htt⟩ := id C0
  have hl : lv_has ls 2 [(0, .ref (hA 0))] := hl
  generalize hH0 : s.heap = H at hP hS ⊢
  have hS : va_S A s.heap H [] := by rw [hH0]; exact hS
  unfold f_House_keepStep at hf
  refine lv_aload_n hx hb d_House_keepStep_0 rfl (lv_at hl 0 rfl) ?_
  refine va_get (D := D) (ci := 6) (v := .int (sH 14 0)) (C := "BedFrontier$House") (T := T_House) (N := 15) hx hb htt i_House hown hK.1 hP 0 rfl rfl 14 (by decide) (htt _ k_120) (fun _ h9 => h9) rfl d_House_keepStep_1 ?_
  refine lv_bipush (v := (8 : Int32)) hx hb d_House_keepStep_4 (by decide) ?_
  have J39 : ∀ (sH1 : PW), f_House_keepStep_J39 sH1 = some tH → ∀ (H : Heap) (locs : List Loc) (ls : Array Slot), va_P D vwCl (L_h ty hA kA sH1) H → va_D A (L_h ty hA kA sH1) → va_S A s.heap H locs → lv_has ls 2 [(0, .ref (hA 0))] → W p l e R s m args below meth c H locs 0 0 Q (F0 m 39 ls []) := by
    intro sH1 hf H locs ls hP hD hS hl
    unfold f_House_keepStep_J39 at hf
    refine lv_aload_n hx hb d_House_keepStep_39 rfl (lv_at hl 0 rfl) ?_
    refine va_get (D := D) (ci := 6) (v := .int (sH1 14 0)) (C := "BedFrontier$House") (T := T_House) (N := 15) hx hb htt i_House hown hK.1 hP 0 rfl rfl 14 (by decide) (htt _ k_120) (fun _ h9 => h9) rfl d_House_keepStep_40 ?_
    refine lv_iconst (v := (4 : Int32)) hx hb d_House_keepStep_43 (by decide) ?_
    refine lv_imul hx hb d_House_keepStep_44 ?_
    refine lv_topi (fun x2 e_x2 => ?_)
    replace hf := nmE hf e_x2
    refine lv_istore_n (lv' := [(1, .int x2), (0, .ref (hA 0))]) hx hb d_House_keepStep_45 rfl hl (by decide) rfl (fun ls hl => ?_)
    refine lv_aload_n hx hb d_House_keepStep_46 rfl (lv_at hl 1 rfl) ?_
    refine va_get (D := D) (ci := 6) (v := .ref (hA 7)) (C := "BedFrontier$House") (T := T_House) (N := 15) hx hb htt i_House hown hK.1 hP 0 rfl rfl 6 (by decide) (htt _ k_95) (fun _ h9 => h9) rfl d_House_keepStep_47 ?_
    refine lv_iload_n hx hb d_House_keepStep_50 rfl (lv_at hl 0 rfl) ?_
    refine lv_aload_n hx hb d_House_keepStep_51 rfl (lv_at hl 1 rfl) ?_
    refine va_get (D := D) (ci := 6) (v := .int (sH1 9 0)) (C := "BedFrontier$House") (T := T_House) (N := 15) hx hb htt i_House hown hK.1 hP 0 rfl rfl 9 (by decide) (htt _ k_102) (fun _ h9 => h9) rfl d_House_keepStep_52 ?_
    obtain ⟨g3, hf⟩ := gdE hf
    refine va_iast hx hb hK.1 hP hD hS 6 0 rfl rfl (okI_in g3) d_House_keepStep_55 (fun H locs hP hD hS => ?_)
    obtain ⟨sH4, e_sH4⟩ : ∃ z : PW, z = up sH1 6 (upd (sH1 6) ((x2).toNatClampNeg) (sH1 9 0)) := ⟨_, rfl⟩
    replace hf := nmE hf e_sH4
    have hP : va_P D vwCl (L_h ty hA kA sH4) H := by rw [e_sH4]; exact hP
    have hD : va_D A (L_h ty hA kA sH4) := by rw [e_sH4]; exact hD
    refine lv_aload_n hx hb d_House_keepStep_56 rfl (lv_at hl 1 rfl) ?_
    refine va_get (D := D) (ci := 6) (v := .ref (hA 7)) (C := "BedFrontier$House") (T := T_House) (N := 15) hx hb htt i_House hown hK.1 hP 0 rfl rfl 6 (by decide) (htt _ k_95) (fun _ h9 => h9) rfl d_House_keepStep_57 ?_
    refine lv_iload_n hx hb d_House_keepStep_60 rfl (lv_at hl 0 rfl) ?_
    refine lv_iconst (v := (1 : Int32)) hx hb d_House_keepStep_61 (by decide) ?_
    refine lv_iadd hx hb d_House_keepStep_62 ?_
    refine lv_aload_n hx hb d_House_keepStep_63 rfl (lv_at hl 1 rfl) ?_
    refine va_get (D := D) (ci := 6) (v := .int (sH4 10 0)) (C := "BedFrontier$House") (T := T_House) (N := 15) hx hb htt i_House hown hK.1 hP 0 rfl rfl 10 (by decide) (htt _ k_107) (fun _ h9 => h9) rfl d_House_keepStep_64 ?_
    obtain ⟨g5, hf⟩ := gdE hf
    refine va_iast hx hb hK.1 hP hD hS 6 0 rfl rfl (okI_in g5) d_House_keepStep_67 (fun H locs hP hD hS => ?_)
    obtain ⟨sH6, e_sH6⟩ : ∃ z : PW, z = up sH4 6 (upd (sH4 6) (((x2 + (1 : Int32))).toNatClampNeg) (sH4 10 0)) := ⟨_, rfl⟩
    replace hf := nmE hf e_sH6
    have hP : va_P D vwCl (L_h ty hA kA sH6) H := by rw [e_sH6]; exact hP
    have hD : va_D A (L_h ty hA kA sH6) := by rw [e_sH6]; exact hD
    refine lv_aload_n hx hb d_House_keepStep_68 rfl (lv_at hl 1 rfl) ?_
    refine va_get (D := D) (ci := 6) (v := .ref (hA 7)) (C := "BedFrontier$House") (T := T_House) (N := 15) hx hb htt i_House hown hK.1 hP 0 rfl rfl 6 (by decide) (htt _ k_95) (fun _ h9 => h9) rfl d_House_keepStep_69 ?_
    refine lv_iload_n hx hb d_House_keepStep_72 rfl (lv_at hl 0 rfl) ?_
    refine lv_iconst (v := (2 : Int32)) hx hb d_House_keepStep_73 (by decide) ?_
    refine lv_iadd hx hb d_House_keepStep_74 ?_
    refine lv_aload_n hx hb d_House_keepStep_75 rfl (lv_at hl 1 rfl) ?_
    refine va_get (D := D) (ci := 6) (v := .int (sH6 11 0)) (C := "BedFrontier$House") (T := T_House) (N := 15) hx hb htt i_House hown hK.1 hP 0 rfl rfl 11 (by decide) (htt _ k_110) (fun _ h9 => h9) rfl d_House_keepStep_76 ?_
    obtain ⟨g7, hf⟩ := gdE hf
    refine va_iast hx hb hK.1 hP hD hS 6 0 rfl rfl (okI_in g7) d_House_keepStep_79 (fun H locs hP hD hS => ?_)
    obtain ⟨sH8, e_sH8⟩ : ∃ z : PW, z = up sH6 6 (upd (sH6 6) (((x2 + (2 : Int32))).toNatClampNeg) (sH6 11 0)) := ⟨_, rfl⟩
    replace hf := nmE hf e_sH8
    have hP : va_P D vwCl (L_h ty hA kA sH8) H := by rw [e_sH8]; exact hP
    have hD : va_D A (L_h ty hA kA sH8) := by rw [e_sH8]; exact hD
    refine lv_aload_n hx hb d_House_keepStep_80 rfl (lv_at hl 1 rfl) ?_
    refine va_get (D := D) (ci := 6) (v := .ref (hA 7)) (C := "BedFrontier$House") (T := T_House) (N := 15) hx hb htt i_House hown hK.1 hP 0 rfl rfl 6 (by decide) (htt _ k_95) (fun _ h9 => h9) rfl d_House_keepStep_81 ?_
    refine lv_iload_n hx hb d_House_keepStep_84 rfl (lv_at hl 0 rfl) ?_
    refine lv_iconst (v := (3 : Int32)) hx hb d_House_keepStep_85 (by decide) ?_
    refine lv_iadd hx hb d_House_keepStep_86 ?_
    refine lv_aload_n hx hb d_House_keepStep_87 rfl (lv_at hl 1 rfl) ?_
    obtain ⟨x9, h10, hf⟩ := bdE hf
    refine vR (q0 := 0) (ci := 6) (rest := [.int (x2 + (3 : Int32)), .ref (hA 7)]) C0 (c_House_warBit l D ty hA kA sH8 x9 h10) k_472 cal_House_warBit hK hP rfl rfl rfl ⟨by rw [hR]; decide, by rw [hR]; decide⟩ rfl rfl rfl hl.1 rfl (Nat.le_of_ble_eq_true rfl) d_House_keepStep_88 ⟨Nat.zero_le _, Nat.zero_le _⟩ rfl ?_
    obtain ⟨g11, hf⟩ := gdE hf
    refine va_iast hx hb hK.1 hP hD hS 6 0 rfl rfl (okI_in g11) d_House_keepStep_91 (fun H locs hP hD hS => ?_)
    obtain ⟨sH12, e_sH12⟩ : ∃ z : PW, z = up sH8 6 (upd (sH8 6) (((x2 + (3 : Int32))).toNatClampNeg) x9) := ⟨_, rfl⟩
    replace hf := nmE hf e_sH12
    have hP : va_P D vwCl (L_h ty hA kA sH12) H := by rw [e_sH12]; exact hP
    have hD : va_D A (L_h ty hA kA sH12) := by rw [e_sH12]; exact hD
    refine lv_aload_n hx hb d_House_keepStep_92 rfl (lv_at hl 1 rfl) ?_
    refine lv_dup hx hb d_House_keepStep_93 rfl ?_
    refine va_get (D := D) (ci := 6) (v := .int (sH12 14 0)) (C := "BedFrontier$House") (T := T_House) (N := 15) hx hb htt i_House hown hK.1 hP 0 rfl rfl 14 (by decide) (htt _ k_120) (fun _ h9 => h9) rfl d_House_keepStep_94 ?_
    refine lv_iconst (v := (1 : Int32)) hx hb d_House_keepStep_97 (by decide) ?_
    refine lv_iadd hx hb d_House_keepStep_98 ?_
    refine va_put (D := D) (ci := 6) (v := .int ((sH12 14 0) + (1 : Int32))) (ty := .int) (C := "BedFrontier$House") (T := T_House) (N := 15) hx hb htt i_House t_House t_House_ok n_House hown hK.1 hP hD hS 0 rfl rfl 14 (by decide) (htt _ k_120) (fun _ h9 => h9) rfl pfI rfl rfl (Nat.le_of_ble_eq_true rfl) d_House_keepStep_99 (fun H locs hP hD hS => ?_)
    obtain ⟨sH13, e_sH13⟩ : ∃ z : PW, z = up sH12 14 (fun _ => ((sH12 14 0) + (1 : Int32))) := ⟨_, rfl⟩
    replace hf := nmE hf e_sH13
    have hP : va_P D vwCl (L_h ty hA kA sH13) H := by rw [e_sH13]; exact hP
    have hD : va_D A (L_h ty hA kA sH13) := by rw [e_sH13]; exact hD
    obtain rfl := sj1 hf
    exact retMv C0 hQ hP hD hS d_House_keepStep_102
  refine lv_icmp_ne (tgt := 39) hx hb d_House_keepStep_6 (by decide) (fun c14 => ?_) (fun c14 => ?_)
  · replace hf := iteF c14 hf
    exact J39 sH hf _ _ ls hP hD hS (hl)
  · replace hf := iteT c14 hf
    refine lv_aload_n hx hb d_House_keepStep_9 rfl (lv_at hl 0 rfl) ?_
    refine va_get (D := D) (ci := 6) (v := .ref (hA 7)) (C := "BedFrontier$House") (T := T_House) (N := 15) hx hb htt i_House hown hK.1 hP 0 rfl rfl 6 (by decide) (htt _ k_95) (fun _ h9 => h9) rfl d_House_keepStep_10 ?_
    refine lv_iconst (v := (4 : Int32)) hx hb d_House_keepStep_13 (by decide) ?_
    refine lv_aload_n hx hb d_House_keepStep_14 rfl (lv_at hl 0 rfl) ?_
    refine va_get (D := D) (ci := 6) (v := .ref (hA 7)) (C := "BedFrontier$House") (T := T_House) (N := 15) hx hb htt i_House hown hK.1 hP 0 rfl rfl 6 (by decide) (htt _ k_95) (fun _ h9 => h9) rfl d_House_keepStep_15 ?_
    refine lv_iconst (v := (0 : Int32)) hx hb d_House_keepStep_18 (by decide) ?_
    refine lv_aload_n hx hb d_House_keepStep_19 rfl (lv_at hl 0 rfl) ?_
    refine va_get (D := D) (ci := 6) (v := .ref (hA 7)) (C := "BedFrontier$House") (T := T_House) (N := 15) hx hb htt i_House hown hK.1 hP 0 rfl rfl 6 (by decide) (htt _ k_95) (fun _ h9 => h9) rfl d_House_keepStep_20 ?_
    refine va_alen (v := (32 : Int32)) hx hb hK.1 hP 6 0 rfl rfl rfl d_House_keepStep_23 ?_
    refine lv_iconst (v := (4 : Int32)) hx hb d_House_keepStep_24 (by decide) ?_
    refine lv_isub hx hb d_House_keepStep_25 ?_
    refine cpI (sp' := 4) (dp' := 0) (n' := 28) hx hb (hml.trans hl.1.symm) hown (htt _ k_385) (htt _ k_387) (htt _ k_386) (htt _ k_16) hK.1 hP hD hS 6 6 0 0 rfl rfl rfl rfl (by decide) (by decide) (by decide) rfl rfl rfl (Nat.le_of_ble_eq_true rfl) (Nat.le_of_ble_eq_true rfl) (by rw [hR]; decide) (by rw [hR]; exact Nat.le_of_ble_eq_true rfl) d_House_keepStep_26 (fun H locs hP hD hS => ?_)
    obtain ⟨sH15, e_sH15⟩ : ∃ z : PW, z = up sH 6 (va_cpy (sH 6) (sH 6) 4 0 28) := ⟨_, rfl⟩
    replace hf := nmE hf e_sH15
    have hP : va_P D vwCl (L_h ty hA kA sH15) H := by rw [e_sH15]; exact hP
    have hD : va_D A (L_h ty hA kA sH15) := by rw [e_sH15]; exact hD
    refine lv_aload_n hx hb d_House_keepStep_29 rfl (lv_at hl 0 rfl) ?_
    refine lv_dup hx hb d_House_keepStep_30 rfl ?_
    refine va_get (D := D) (ci := 6) (v := .int (sH15 14 0)) (C := "BedFrontier$House") (T := T_House) (N := 15) hx hb htt i_House hown hK.1 hP 0 rfl rfl 14 (by decide) (htt _ k_120) (fun _ h9 => h9) rfl d_House_keepStep_31 ?_
    refine lv_iconst (v := (1 : Int32)) hx hb d_House_keepStep_34 (by decide) ?_
    refine lv_isub hx hb d_House_keepStep_35 ?_
    refine va_put (D := D) (ci := 6) (v := .int ((sH15 14 0) - (1 : Int32))) (ty := .int) (C := "BedFrontier$House") (T := T_House) (N := 15) hx hb htt i_House t_House t_House_ok n_House hown hK.1 hP hD hS 0 rfl rfl 14 (by decide) (htt _ k_120) (fun _ h9 => h9) rfl pfI rfl rfl (Nat.le_of_ble_eq_true rfl) d_House_keepStep_36 (fun H locs hP hD hS => ?_)
    obtain ⟨sH16, e_sH16⟩ : ∃ z : PW, z = up sH15 14 (fun _ => ((sH15 14 0) - (1 : Int32))) := ⟨_, rfl⟩
    replace hf := nmE hf e_sH16
    have hP : va_P D vwCl (L_h ty hA kA sH16) H := by rw [e_sH16]; exact hP
    have hD : va_D A (L_h ty hA kA sH16) := by rw [e_sH16]; exact hD
    exact J39 sH16 hf _ _ ls hP hD hS (hl)
def f_House_takeBack (sH : PW) : Option (PW) :=
  nm (up sH 14 (fun _ => ((sH 14 0) - (1 : Int32)))) (fun sH1 => nm ((sH1 14 0) * (4 : Int32)) (fun x2 => gd (okI x2 32) (nm (up sH1 9 (fun _ => (sH1 6 (x2).toNatClampNeg))) (fun sH4 => gd (okI (x2 + (1 : Int32)) 32) (nm (up sH4 10 (fun _ => (sH4 6 ((x2 + (1 : Int32))).toNatClampNeg))) (fun sH6 => gd (okI (x2 + (2 : Int32)) 32) (nm (up sH6 11 (fun _ => (sH6 6 ((x2 + (2 : Int32))).toNatClampNeg))) (fun sH8 => gd (okI (x2 + (3 : Int32)) 32) ((if (sH8 6 ((x2 + (3 : Int32))).toNatClampNeg) = (1 : Int32) then nm (up sH8 8 (fun _ => (1 : Int32))) (fun sH12 => some sH12) else nm (up sH8 8 (fun _ => (0 : Int32))) (fun sH11 => some sH11)))))))))))
set_option maxHeartbeats 4000000 in
set_option maxRecDepth 100000 in
theorem c_House_takeBack (l : Launch) (D : va_G) (ty : Nat → ClassId) (hA kA : Nat → Nat) (sz : Nat) (sH : PW) (tH : PW) (hf : f_House_takeBack sH = some tH) : Met l y_House_takeBack (Cond.code y_House_takeBack prog_4_method_15_code 2 none :: lw_ok) { frames := 0, cells := 0, slots := 0, locals := 0 } (PcM D ty [.ref (hA 0)] sz (L_h ty hA kA sH)) (QM D (L_h ty hA kA tH) (va_A (L_h ty hA kA sH) sz) (none)) 0 0 (va_A (L_h ty hA kA sH) sz) := by
  refine hdM (by decide) (Nat.le_of_ble_eq_true rfl) ?_
  intro p e s m below meth c ls R args Q A C0 hR hQ hnm hAq hP hK hD hS hl
  obtain ⟨hx, hb, hr, hlk, hml, hown, htt⟩ := id C0
  have hl : lv_has ls 2 [(0, .ref (hA 0))] := hl
  generalize hH0 : s.heap = H at hP hS ⊢
  have hS : va_S A s.heap H [] := by rw [hH0]; exact hS
  unfold f_House_takeBack at hf
  refine lv_aload_n hx hb d_House_takeBack_0 rfl (lv_at hl 0 rfl) ?_
  refine lv_dup hx hb d_House_takeBack_1 rfl ?_
  refine va_get (D := D) (ci := 6) (v := .int (sH 14 0)) (C := "BedFrontier$House") (T := T_House) (N := 15) hx hb htt i_House hown hK.1 hP 0 rfl rfl 14 (by decide) (htt _ k_120) (fun _ h9 => h9) rfl d_House_takeBack_2 ?_
  refine lv_iconst (v := (1 : Int32)) hx hb d_House_takeBack_5 (by decide) ?_
  refine lv_isub hx hb d_House_takeBack_6 ?_
  refine va_put (D := D) (ci := 6) (v := .int ((sH 14 0) - (1 : Int32))) (ty := .int) (C := "BedFrontier$House") (T := T_House) (N := 15) hx hb htt i_House t_House t_House_ok n_House hown hK.1 hP hD hS 0 rfl rfl 14 (by decide) (htt _ k_120) (fun _ h9 => h9) rfl pfI rfl rfl (Nat.le_of_ble_eq_true rfl) d_House_takeBack_7 (fun H locs hP hD hS => ?_)
  obtain ⟨sH1, e_sH1⟩ : ∃ z : PW, z = up sH 14 (fun _ => ((sH 14 0) - (1 : Int32))) := ⟨_, rfl⟩
  replace hf := nmE hf e_sH1
  have hP : va_P D vwCl (L_h ty hA kA sH1) H := by rw [e_sH1]; exact hP
  have hD : va_D A (L_h ty hA kA sH1) := by rw [e_sH1]; exact hD
  refine lv_aload_n hx hb d_House_takeBack_10 rfl (lv_at hl 0 rfl) ?_
  refine va_get (D := D) (ci := 6) (v := .int (sH1 14 0)) (C := "BedFrontier$House") (T := T_House) (N := 15) hx hb htt i_House hown hK.1 hP 0 rfl rfl 14 (by decide) (htt _ k_120) (fun _ h9 => h9) rfl d_House_takeBack_11 ?_
  refine lv_iconst (v := (4 : Int32)) hx hb d_House_takeBack_14 (by decide) ?_
  refine lv_imul hx hb d_House_takeBack_15 ?_
  refine lv_topi (fun x2 e_x2 => ?_)
  replace hf := nmE hf e_x2
  refine lv_istore_n (lv' := [(1, .int x2), (0, .ref (hA 0))]) hx hb d_House_takeBack_16 rfl hl (by decide) rfl (fun ls hl => ?_)
  refine lv_aload_n hx hb d_House_takeBack_17 rfl (lv_at hl 1 rfl) ?_
  refine lv_aload_n hx hb d_House_takeBack_18 rfl (lv_at hl 1 rfl) ?_
  refine va_get (D := D) (ci := 6) (v := .ref (hA 7)) (C := "BedFrontier$House") (T := T_House) (N := 15) hx hb htt i_House hown hK.1 hP 0 rfl rfl 6 (by decide) (htt _ k_95) (fun _ h9 => h9) rfl d_House_takeBack_19 ?_
  refine lv_iload_n hx hb d_House_takeBack_22 rfl (lv_at hl 0 rfl) ?_
  obtain ⟨g3, hf⟩ := gdE hf
  refine va_iald hx hb hK.1 hP 6 0 rfl rfl (okI_in g3) d_House_takeBack_23 ?_
  refine va_put (D := D) (ci := 6) (v := .int (sH1 6 (x2).toNatClampNeg)) (ty := .int) (C := "BedFrontier$House") (T := T_House) (N := 15) hx hb htt i_House t_House t_House_ok n_House hown hK.1 hP hD hS 0 rfl rfl 9 (by decide) (htt _ k_102) (fun _ h9 => h9) rfl pfI rfl rfl (Nat.le_of_ble_eq_true rfl) d_House_takeBack_24 (fun H locs hP hD hS => ?_)
  obtain ⟨sH4, e_sH4⟩ : ∃ z : PW, z = up sH1 9 (fun _ => (sH1 6 (x2).toNatClampNeg)) := ⟨_, rfl⟩
  replace hf := nmE hf e_sH4
  have hP : va_P D vwCl (L_h ty hA kA sH4) H := by rw [e_sH4]; exact hP
  have hD : va_D A (L_h ty hA kA sH4) := by rw [e_sH4]; exact hD
  refine lv_aload_n hx hb d_House_takeBack_27 rfl (lv_at hl 1 rfl) ?_
  refine lv_aload_n hx hb d_House_takeBack_28 rfl (lv_at hl 1 rfl) ?_
  refine va_get (D := D) (ci := 6) (v := .ref (hA 7)) (C := "BedFrontier$House") (T := T_House) (N := 15) hx hb htt i_House hown hK.1 hP 0 rfl rfl 6 (by decide) (htt _ k_95) (fun _ h9 => h9) rfl d_House_takeBack_29 ?_
  refine lv_iload_n hx hb d_House_takeBack_32 rfl (lv_at hl 0 rfl) ?_
  refine lv_iconst (v := (1 : Int32)) hx hb d_House_takeBack_33 (by decide) ?_
  refine lv_iadd hx hb d_House_takeBack_34 ?_
  obtain ⟨g5, hf⟩ := gdE hf
  refine va_iald hx hb hK.1 hP 6 0 rfl rfl (okI_in g5) d_House_takeBack_35 ?_
  refine va_put (D := D) (ci := 6) (v := .int (sH4 6 ((x2 + (1 : Int32))).toNatClampNeg)) (ty := .int) (C := "BedFrontier$House") (T := T_House) (N := 15) hx hb htt i_House t_House t_House_ok n_House hown hK.1 hP hD hS 0 rfl rfl 10 (by decide) (htt _ k_107) (fun _ h9 => h9) rfl pfI rfl rfl (Nat.le_of_ble_eq_true rfl) d_House_takeBack_36 (fun H locs hP hD hS => ?_)
  obtain ⟨sH6, e_sH6⟩ : ∃ z : PW, z = up sH4 10 (fun _ => (sH4 6 ((x2 + (1 : Int32))).toNatClampNeg)) := ⟨_, rfl⟩
  replace hf := nmE hf e_sH6
  have hP : va_P D vwCl (L_h ty hA kA sH6) H := by rw [e_sH6]; exact hP
  have hD : va_D A (L_h ty hA kA sH6) := by rw [e_sH6]; exact hD
  refine lv_aload_n hx hb d_House_takeBack_39 rfl (lv_at hl 1 rfl) ?_
  refine lv_aload_n hx hb d_House_takeBack_40 rfl (lv_at hl 1 rfl) ?_
  refine va_get (D := D) (ci := 6) (v := .ref (hA 7)) (C := "BedFrontier$House") (T := T_House) (N := 15) hx hb htt i_House hown hK.1 hP 0 rfl rfl 6 (by decide) (htt _ k_95) (fun _ h9 => h9) rfl d_House_takeBack_41 ?_
  refine lv_iload_n hx hb d_House_takeBack_44 rfl (lv_at hl 0 rfl) ?_
  refine lv_iconst (v := (2 : Int32)) hx hb d_House_takeBack_45 (by decide) ?_
  refine lv_iadd hx hb d_House_takeBack_46 ?_
  obtain ⟨g7, hf⟩ := gdE hf
  refine va_iald hx hb hK.1 hP 6 0 rfl rfl (okI_in g7) d_House_takeBack_47 ?_
  refine va_put (D := D) (ci := 6) (v := .int (sH6 6 ((x2 + (2 : Int32))).toNatClampNeg)) (ty := .int) (C := "BedFrontier$House") (T := T_House) (N := 15) hx hb htt i_House t_House t_House_ok n_House hown hK.1 hP hD hS 0 rfl rfl 11 (by decide) (htt _ k_110) (fun _ h9 => h9) rfl pfI rfl rfl (Nat.le_of_ble_eq_true rfl) d_House_takeBack_48 (fun H locs hP hD hS => ?_)
  obtain ⟨sH8, e_sH8⟩ : ∃ z : PW, z = up sH6 11 (fun _ => (sH6 6 ((x2 + (2 : Int32))).toNatClampNeg)) := ⟨_, rfl⟩
  replace hf := nmE hf e_sH8
  have hP : va_P D vwCl (L_h ty hA kA sH8) H := by rw [e_sH8]; exact hP
  have hD : va_D A (L_h ty hA kA sH8) := by rw [e_sH8]; exact hD
  refine lv_aload_n hx hb d_House_takeBack_51 rfl (lv_at hl 1 rfl) ?_
  refine lv_aload_n hx hb d_House_takeBack_52 rfl (lv_at hl 1 rfl) ?_
  refine va_get (D := D) (ci := 6) (v := .ref (hA 7)) (C := "BedFrontier$House") (T := T_House) (N := 15) hx hb htt i_House hown hK.1 hP 0 rfl rfl 6 (by decide) (htt _ k_95) (fun _ h9 => h9) rfl d_House_takeBack_53 ?_
  refine lv_iload_n hx hb d_House_takeBack_56 rfl (lv_at hl 0 rfl) ?_
  refine lv_iconst (v := (3 : Int32)) hx hb d_House_takeBack_57 (by decide) ?_
  refine lv_iadd hx hb d_House_takeBack_58 ?_
  obtain ⟨g9, hf⟩ := gdE hf
  refine va_iald hx hb hK.1 hP 6 0 rfl rfl (okI_in g9) d_House_takeBack_59 ?_
  refine lv_iconst (v := (1 : Int32)) hx hb d_House_takeBack_60 (by decide) ?_
  refine lv_icmp_ne (tgt := 68) hx hb d_House_takeBack_61 (by decide) (fun c10 => ?_) (fun c10 => ?_)
  · replace hf := iteF c10 hf
    refine lv_iconst (v := (0 : Int32)) hx hb d_House_takeBack_68 (by decide) ?_
    refine va_put (D := D) (ci := 6) (v := .int (0 : Int32)) (ty := .boolean) (C := "BedFrontier$House") (T := T_House) (N := 15) hx hb htt i_House t_House t_House_ok n_House hown hK.1 hP hD hS 0 rfl rfl 8 (by decide) (htt _ k_99) (fun _ h9 => h9) rfl pfZ rfl rfl (Nat.le_of_ble_eq_true rfl) d_House_takeBack_69 (fun H locs hP hD hS => ?_)
    obtain ⟨sH11, e_sH11⟩ : ∃ z : PW, z = up sH8 8 (fun _ => (0 : Int32)) := ⟨_, rfl⟩
    replace hf := nmE hf e_sH11
    have hP : va_P D vwCl (L_h ty hA kA sH11) H := by rw [e_sH11]; exact hP
    have hD : va_D A (L_h ty hA kA sH11) := by rw [e_sH11]; exact hD
    obtain rfl := sj1 hf
    exact retMv C0 hQ hP hD hS d_House_takeBack_72
  · replace hf := iteT c10 hf
    refine lv_iconst (v := (1 : Int32)) hx hb d_House_takeBack_64 (by decide) ?_
    refine lv_goto (tgt := 69) hx hb d_House_takeBack_65 (by decide) ?_
    refine va_put (D := D) (ci := 6) (v := .int (1 : Int32)) (ty := .boolean) (C := "BedFrontier$House") (T := T_House) (N := 15) hx hb htt i_House t_House t_House_ok n_House hown hK.1 hP hD hS 0 rfl rfl 8 (by decide) (htt _ k_99) (fun _ h9 => h9) rfl pfZ rfl rfl (Nat.le_of_ble_eq_true rfl) d_House_takeBack_69 (fun H locs hP hD hS => ?_)
    obtain ⟨sH12, e_sH12⟩ : ∃ z : PW, z = up sH8 8 (fun _ => (1 : Int32)) := ⟨_, rfl⟩
    replace hf := nmE hf e_sH12
    have hP : va_P D vwCl (L_h ty hA kA sH12) H := by rw [e_sH12]; exact hP
    have hD : va_D A (L_h ty hA kA sH12) := by rw [e_sH12]; exact hD
    obtain rfl := sj1 hf
    exact retMv C0 hQ hP hD hS d_House_takeBack_72
def f_House_start_L42 (K42 : Int32 × PW → Option (PW)) : Int32 × PW → Option (PW)
  | (x9, sH10) =>
  (if (2 : Int32) ≤ x9 then some sH10 else gd (okI x9 2) (nm (up sH10 1 (upd (sH10 1) ((x9).toNatClampNeg) (1 : Int32))) (fun sH13 => gd (okI x9 2) (nm (up sH13 2 (upd (sH13 2) ((x9).toNatClampNeg) (0 : Int32))) (fun sH15 => nm (x9 + (1 : Int32)) (fun x16 => K42 (x16, sH15)))))))
def f_House_start (sH : PW) (a1 : Int32) : Option (PW) :=
  nm (up sH 7 (fun _ => a1)) (fun sH1 => nm (up sH1 8 (fun _ => (0 : Int32))) (fun sH2 => nm (up sH2 9 (fun _ => (0 : Int32))) (fun sH3 => nm (up sH3 10 (fun _ => (0 : Int32))) (fun sH4 => nm (up sH4 11 (fun _ => (0 : Int32))) (fun sH5 => nm (up sH5 12 (fun _ => (0 : Int32))) (fun sH6 => nm (up sH6 13 (fun _ => (0 : Int32))) (fun sH7 => nm (up sH7 14 (fun _ => (0 : Int32))) (fun sH8 => loopF f_House_start_L42 4000 ((0 : Int32), sH8)))))))))
set_option maxHeartbeats 4000000 in
set_option maxRecDepth 100000 in
theorem c_House_start (l : Launch) (D : va_G) (ty : Nat → ClassId) (hA kA : Nat → Nat) (sz : Nat) (sH : PW) (a1 : Int32) (tH : PW) (hf : f_House_start sH a1 = some tH) : Met l y_House_start (Cond.code y_House_start prog_4_method_2_code 3 none :: lw_ok) { frames := 0, cells := 0, slots := 0, locals := 0 } (PcM D ty [.ref (hA 0), .int a1] sz (L_h ty hA kA sH)) (QM D (L_h ty hA kA tH) (va_A (L_h ty hA kA sH) sz) (none)) 0 0 (va_A (L_h ty hA kA sH) sz) := by
  refine hdM (by decide) (Nat.le_of_ble_eq_true rfl) ?_
  intro p e s m below meth c ls R args Q A C0 hR hQ hnm hAq hP hK hD hS hl
  obtain ⟨hx, hb, hr, hlk, hml, hown, htt⟩ := id C0
  have hl : lv_has ls 3 [(0, .ref (hA 0)), (1, .int a1)] := hl
  generalize hH0 : s.heap = H at hP hS ⊢
  have hS : va_S A s.heap H [] := by rw [hH0]; exact hS
  unfold f_House_start at hf
  refine lv_aload_n hx hb d_House_start_0 rfl (lv_at hl 0 rfl) ?_
  refine lv_iload_n hx hb d_House_start_1 rfl (lv_at hl 1 rfl) ?_
  refine va_put (D := D) (ci := 6) (v := .int a1) (ty := .int) (C := "BedFrontier$House") (T := T_House) (N := 15) hx hb htt i_House t_House t_House_ok n_House hown hK.1 hP hD hS 0 rfl rfl 7 (by decide) (htt _ k_96) (fun _ h9 => h9) rfl pfI rfl rfl (Nat.le_of_ble_eq_true rfl) d_House_start_2 (fun H locs hP hD hS => ?_)
  obtain ⟨sH1, e_sH1⟩ : ∃ z : PW, z = up sH 7 (fun _ => a1) := ⟨_, rfl⟩
  replace hf := nmE hf e_sH1
  have hP : va_P D vwCl (L_h ty hA kA sH1) H := by rw [e_sH1]; exact hP
  have hD : va_D A (L_h ty hA kA sH1) := by rw [e_sH1]; exact hD
  refine lv_aload_n hx hb d_House_start_5 rfl (lv_at hl 0 rfl) ?_
  refine lv_iconst (v := (0 : Int32)) hx hb d_House_start_6 (by decide) ?_
  refine va_put (D := D) (ci := 6) (v := .int (0 : Int32)) (ty := .boolean) (C := "BedFrontier$House") (T := T_House) (N := 15) hx hb htt i_House t_House t_House_ok n_House hown hK.1 hP hD hS 0 rfl rfl 8 (by decide) (htt _ k_99) (fun _ h9 => h9) rfl pfZ rfl rfl (Nat.le_of_ble_eq_true rfl) d_House_start_7 (fun H locs hP hD hS => ?_)
  obtain ⟨sH2, e_sH2⟩ : ∃ z : PW, z = up sH1 8 (fun _ => (0 : Int32)) := ⟨_, rfl⟩
  replace hf := nmE hf e_sH2
  have hP : va_P D vwCl (L_h ty hA kA sH2) H := by rw [e_sH2]; exact hP
  have hD : va_D A (L_h ty hA kA sH2) := by rw [e_sH2]; exact hD
  refine lv_aload_n hx hb d_House_start_10 rfl (lv_at hl 0 rfl) ?_
  refine lv_iconst (v := (0 : Int32)) hx hb d_House_start_11 (by decide) ?_
  refine va_put (D := D) (ci := 6) (v := .int (0 : Int32)) (ty := .int) (C := "BedFrontier$House") (T := T_House) (N := 15) hx hb htt i_House t_House t_House_ok n_House hown hK.1 hP hD hS 0 rfl rfl 9 (by decide) (htt _ k_102) (fun _ h9 => h9) rfl pfI rfl rfl (Nat.le_of_ble_eq_true rfl) d_House_start_12 (fun H locs hP hD hS => ?_)
  obtain ⟨sH3, e_sH3⟩ : ∃ z : PW, z = up sH2 9 (fun _ => (0 : Int32)) := ⟨_, rfl⟩
  replace hf := nmE hf e_sH3
  have hP : va_P D vwCl (L_h ty hA kA sH3) H := by rw [e_sH3]; exact hP
  have hD : va_D A (L_h ty hA kA sH3) := by rw [e_sH3]; exact hD
  refine lv_aload_n hx hb d_House_start_15 rfl (lv_at hl 0 rfl) ?_
  refine lv_iconst (v := (0 : Int32)) hx hb d_House_start_16 (by decide) ?_
  refine va_put (D := D) (ci := 6) (v := .int (0 : Int32)) (ty := .int) (C := "BedFrontier$House") (T := T_House) (N := 15) hx hb htt i_House t_House t_House_ok n_House hown hK.1 hP hD hS 0 rfl rfl 10 (by decide) (htt _ k_107) (fun _ h9 => h9) rfl pfI rfl rfl (Nat.le_of_ble_eq_true rfl) d_House_start_17 (fun H locs hP hD hS => ?_)
  obtain ⟨sH4, e_sH4⟩ : ∃ z : PW, z = up sH3 10 (fun _ => (0 : Int32)) := ⟨_, rfl⟩
  replace hf := nmE hf e_sH4
  have hP : va_P D vwCl (L_h ty hA kA sH4) H := by rw [e_sH4]; exact hP
  have hD : va_D A (L_h ty hA kA sH4) := by rw [e_sH4]; exact hD
  refine lv_aload_n hx hb d_House_start_20 rfl (lv_at hl 0 rfl) ?_
  refine lv_iconst (v := (0 : Int32)) hx hb d_House_start_21 (by decide) ?_
  refine va_put (D := D) (ci := 6) (v := .int (0 : Int32)) (ty := .int) (C := "BedFrontier$House") (T := T_House) (N := 15) hx hb htt i_House t_House t_House_ok n_House hown hK.1 hP hD hS 0 rfl rfl 11 (by decide) (htt _ k_110) (fun _ h9 => h9) rfl pfI rfl rfl (Nat.le_of_ble_eq_true rfl) d_House_start_22 (fun H locs hP hD hS => ?_)
  obtain ⟨sH5, e_sH5⟩ : ∃ z : PW, z = up sH4 11 (fun _ => (0 : Int32)) := ⟨_, rfl⟩
  replace hf := nmE hf e_sH5
  have hP : va_P D vwCl (L_h ty hA kA sH5) H := by rw [e_sH5]; exact hP
  have hD : va_D A (L_h ty hA kA sH5) := by rw [e_sH5]; exact hD
  refine lv_aload_n hx hb d_House_start_25 rfl (lv_at hl 0 rfl) ?_
  refine lv_iconst (v := (0 : Int32)) hx hb d_House_start_26 (by decide) ?_
  refine va_put (D := D) (ci := 6) (v := .int (0 : Int32)) (ty := .int) (C := "BedFrontier$House") (T := T_House) (N := 15) hx hb htt i_House t_House t_House_ok n_House hown hK.1 hP hD hS 0 rfl rfl 12 (by decide) (htt _ k_113) (fun _ h9 => h9) rfl pfI rfl rfl (Nat.le_of_ble_eq_true rfl) d_House_start_27 (fun H locs hP hD hS => ?_)
  obtain ⟨sH6, e_sH6⟩ : ∃ z : PW, z = up sH5 12 (fun _ => (0 : Int32)) := ⟨_, rfl⟩
  replace hf := nmE hf e_sH6
  have hP : va_P D vwCl (L_h ty hA kA sH6) H := by rw [e_sH6]; exact hP
  have hD : va_D A (L_h ty hA kA sH6) := by rw [e_sH6]; exact hD
  refine lv_aload_n hx hb d_House_start_30 rfl (lv_at hl 0 rfl) ?_
  refine lv_iconst (v := (0 : Int32)) hx hb d_House_start_31 (by decide) ?_
  refine va_put (D := D) (ci := 6) (v := .int (0 : Int32)) (ty := .int) (C := "BedFrontier$House") (T := T_House) (N := 15) hx hb htt i_House t_House t_House_ok n_House hown hK.1 hP hD hS 0 rfl rfl 13 (by decide) (htt _ k_117) (fun _ h9 => h9) rfl pfI rfl rfl (Nat.le_of_ble_eq_true rfl) d_House_start_32 (fun H locs hP hD hS => ?_)
  obtain ⟨sH7, e_sH7⟩ : ∃ z : PW, z = up sH6 13 (fun _ => (0 : Int32)) := ⟨_, rfl⟩
  replace hf := nmE hf e_sH7
  have hP : va_P D vwCl (L_h ty hA kA sH7) H := by rw [e_sH7]; exact hP
  have hD : va_D A (L_h ty hA kA sH7) := by rw [e_sH7]; exact hD
  refine lv_aload_n hx hb d_House_start_35 rfl (lv_at hl 0 rfl) ?_
  refine lv_iconst (v := (0 : Int32)) hx hb d_House_start_36 (by decide) ?_
  refine va_put (D := D) (ci := 6) (v := .int (0 : Int32)) (ty := .int) (C := "BedFrontier$House") (T := T_House) (N := 15) hx hb htt i_House t_House t_House_ok n_House hown hK.1 hP hD hS 0 rfl rfl 14 (by decide) (htt _ k_120) (fun _ h9 => h9) rfl pfI rfl rfl (Nat.le_of_ble_eq_true rfl) d_House_start_37 (fun H locs hP hD hS => ?_)
  obtain ⟨sH8, e_sH8⟩ : ∃ z : PW, z = up sH7 14 (fun _ => (0 : Int32)) := ⟨_, rfl⟩
  replace hf := nmE hf e_sH8
  have hP : va_P D vwCl (L_h ty hA kA sH8) H := by rw [e_sH8]; exact hP
  have hD : va_D A (L_h ty hA kA sH8) := by rw [e_sH8]; exact hD
  refine lv_iconst (v := (0 : Int32)) hx hb d_House_start_40 (by decide) ?_
  refine lv_istore_n (lv' := [(2, .int (0 : Int32)), (0, .ref (hA 0)), (1, .int a1)]) hx hb d_House_start_41 rfl hl (by decide) rfl (fun ls hl => ?_)
  have B42 : ∀ (n : Nat) (x : Int32 × PW), loopF f_House_start_L42 n x = some tH → ∀ (H : Heap) (locs : List Loc) (ls : Array Slot), va_P D vwCl (L_h ty hA kA (x.2)) H → va_D A (L_h ty hA kA (x.2)) → va_S A s.heap H locs → lv_has ls 3 [(0, .ref (hA 0)), (2, .int (x.1))] → W p l e R s m args below meth c H locs 0 0 Q (F0 m 42 ls []) := by
    refine loopW (fun (x : Int32 × PW) => ∀ (H : Heap) (locs : List Loc) (ls : Array Slot), va_P D vwCl (L_h ty hA kA (x.2)) H → va_D A (L_h ty hA kA (x.2)) → va_S A s.heap H locs → lv_has ls 3 [(0, .ref (hA 0)), (2, .int (x.1))] → W p l e R s m args below meth c H locs 0 0 Q (F0 m 42 ls [])) ?_
    intro K42 hK42 x hf
    obtain ⟨x9, sH10⟩ := x
    rw [f_House_start_L42] at hf
    intro H locs ls hP hD hS hl
    have hl : lv_has ls 3 [(0, .ref (hA 0)), (2, .int x9)] := hl
    have hP : va_P D vwCl (L_h ty hA kA sH10) H := hP
    have hD : va_D A (L_h ty hA kA sH10) := hD
    show W p l e R s m args below meth c H locs 0 0 Q (F0 m 42 ls [])
    refine lv_iload_n hx hb d_House_start_42 rfl (lv_at hl 1 rfl) ?_
    refine lv_iconst (v := (2 : Int32)) hx hb d_House_start_43 (by decide) ?_
    refine lv_icmp_ge (tgt := 67) hx hb d_House_start_44 (by decide) (fun c11 => ?_) (fun c11 => ?_)
    · replace hf := iteT c11 hf
      obtain rfl := sj1 hf
      exact retMv C0 hQ hP hD hS d_House_start_67
    · replace hf := iteF c11 hf
      refine lv_aload_n hx hb d_House_start_47 rfl (lv_at hl 0 rfl) ?_
      refine va_get (D := D) (ci := 6) (v := .ref (hA 2)) (C := "BedFrontier$House") (T := T_House) (N := 15) hx hb htt i_House hown hK.1 hP 0 rfl rfl 1 (by decide) (htt _ k_82) (fun _ h9 => h9) rfl d_House_start_48 ?_
      refine lv_iload_n hx hb d_House_start_51 rfl (lv_at hl 1 rfl) ?_
      refine lv_iconst (v := (1 : Int32)) hx hb d_House_start_52 (by decide) ?_
      obtain ⟨g12, hf⟩ := gdE hf
      refine va_iast hx hb hK.1 hP hD hS 1 0 rfl rfl (okI_in g12) d_House_start_53 (fun H locs hP hD hS => ?_)
      obtain ⟨sH13, e_sH13⟩ : ∃ z : PW, z = up sH10 1 (upd (sH10 1) ((x9).toNatClampNeg) (1 : Int32)) := ⟨_, rfl⟩
      replace hf := nmE hf e_sH13
      have hP : va_P D vwCl (L_h ty hA kA sH13) H := by rw [e_sH13]; exact hP
      have hD : va_D A (L_h ty hA kA sH13) := by rw [e_sH13]; exact hD
      refine lv_aload_n hx hb d_House_start_54 rfl (lv_at hl 0 rfl) ?_
      refine va_get (D := D) (ci := 6) (v := .ref (hA 3)) (C := "BedFrontier$House") (T := T_House) (N := 15) hx hb htt i_House hown hK.1 hP 0 rfl rfl 2 (by decide) (htt _ k_85) (fun _ h9 => h9) rfl d_House_start_55 ?_
      refine lv_iload_n hx hb d_House_start_58 rfl (lv_at hl 1 rfl) ?_
      refine lv_iconst (v := (0 : Int32)) hx hb d_House_start_59 (by decide) ?_
      obtain ⟨g14, hf⟩ := gdE hf
      refine va_iast hx hb hK.1 hP hD hS 2 0 rfl rfl (okI_in g14) d_House_start_60 (fun H locs hP hD hS => ?_)
      obtain ⟨sH15, e_sH15⟩ : ∃ z : PW, z = up sH13 2 (upd (sH13 2) ((x9).toNatClampNeg) (0 : Int32)) := ⟨_, rfl⟩
      replace hf := nmE hf e_sH15
      have hP : va_P D vwCl (L_h ty hA kA sH15) H := by rw [e_sH15]; exact hP
      have hD : va_D A (L_h ty hA kA sH15) := by rw [e_sH15]; exact hD
      obtain ⟨x16, e_x16⟩ : ∃ z : Int32, z = (x9 + (1 : Int32)) := ⟨_, rfl⟩
      replace hf := nmE hf e_x16
      refine lv_iinc (v := x16) (lv' := [(2, .int x16), (0, .ref (hA 0))]) hx hb d_House_start_61 hl (k := 1) rfl (by rw [e_x16]; rfl) (by decide) rfl (fun ls hl => ?_)
      refine lv_goto (tgt := 42) hx hb d_House_start_64 (by decide) ?_
      exact hK42 (x16, sH15) hf _ _ ls hP hD hS (lv_sub hl [1, 0] rfl)
  exact B42 4000 ((0 : Int32), sH8) hf _ _ ls hP hD hS (lv_sub hl [1, 0] rfl)
def f_House_addDoing (sH : PW) (a1 : Int32) (a2 : Int32) : Option (Int32 × PW) :=
  gd (okI (sH 12 0) 6) (nm (up sH 3 (upd (sH 3) (((sH 12 0)).toNatClampNeg) a1)) (fun sH2 => gd (okI (sH2 12 0) 6) (nm (up sH2 4 (upd (sH2 4) (((sH2 12 0)).toNatClampNeg) a2)) (fun sH4 => nm (up sH4 12 (fun _ => ((sH4 12 0) + (1 : Int32)))) (fun sH5 => nm (up sH5 14 (fun _ => (0 : Int32))) (fun sH6 => some (((sH6 12 0) - (1 : Int32)), sH6)))))))
set_option maxHeartbeats 4000000 in
set_option maxRecDepth 100000 in
theorem c_House_addDoing (l : Launch) (D : va_G) (ty : Nat → ClassId) (hA kA : Nat → Nat) (sz : Nat) (sH : PW) (a1 : Int32) (a2 : Int32) (rr : Int32) (tH : PW) (hf : f_House_addDoing sH a1 a2 = some (rr, tH)) : Met l y_House_addDoing (Cond.code y_House_addDoing prog_4_method_5_code 3 ((Option.some FieldType.int)) :: lw_ok) { frames := 0, cells := 0, slots := 0, locals := 0 } (PcM D ty [.ref (hA 0), .int a1, .int a2] sz (L_h ty hA kA sH)) (QM D (L_h ty hA kA tH) (va_A (L_h ty hA kA sH) sz) (some (.int rr))) 0 0 (va_A (L_h ty hA kA sH) sz) := by
  refine hdM (by decide) (Nat.le_of_ble_eq_true rfl) ?_
  intro p e s m below meth c ls R args Q A C0 hR hQ hnm hAq hP hK hD hS hl
  obtain ⟨hx, hb, hr, hlk, hml, hown, htt⟩ := id C0
  have hl : lv_has ls 3 [(0, .ref (hA 0)), (1, .int a1), (2, .int a2)] := hl
  generalize hH0 : s.heap = H at hP hS ⊢
  have hS : va_S A s.heap H [] := by rw [hH0]; exact hS
  unfold f_House_addDoing at hf
  refine lv_aload_n hx hb d_House_addDoing_0 rfl (lv_at hl 0 rfl) ?_
  refine va_get (D := D) (ci := 6) (v := .ref (hA 4)) (C := "BedFrontier$House") (T := T_House) (N := 15) hx hb htt i_House hown hK.1 hP 0 rfl rfl 3 (by decide) (htt _ k_88) (fun _ h9 => h9) rfl d_House_addDoing_1 ?_
  refine lv_aload_n hx hb d_House_addDoing_4 rfl (lv_at hl 0 rfl) ?_
  refine va_get (D := D) (ci := 6) (v := .int (sH 12 0)) (C := "BedFrontier$House") (T := T_House) (N := 15) hx hb htt i_House hown hK.1 hP 0 rfl rfl 12 (by decide) (htt _ k_113) (fun _ h9 => h9) rfl d_House_addDoing_5 ?_
  refine lv_iload_n hx hb d_House_addDoing_8 rfl (lv_at hl 1 rfl) ?_
  obtain ⟨g1, hf⟩ := gdE hf
  refine va_iast hx hb hK.1 hP hD hS 3 0 rfl rfl (okI_in g1) d_House_addDoing_9 (fun H locs hP hD hS => ?_)
  obtain ⟨sH2, e_sH2⟩ : ∃ z : PW, z = up sH 3 (upd (sH 3) (((sH 12 0)).toNatClampNeg) a1) := ⟨_, rfl⟩
  replace hf := nmE hf e_sH2
  have hP : va_P D vwCl (L_h ty hA kA sH2) H := by rw [e_sH2]; exact hP
  have hD : va_D A (L_h ty hA kA sH2) := by rw [e_sH2]; exact hD
  refine lv_aload_n hx hb d_House_addDoing_10 rfl (lv_at hl 0 rfl) ?_
  refine va_get (D := D) (ci := 6) (v := .ref (hA 5)) (C := "BedFrontier$House") (T := T_House) (N := 15) hx hb htt i_House hown hK.1 hP 0 rfl rfl 4 (by decide) (htt _ k_91) (fun _ h9 => h9) rfl d_House_addDoing_11 ?_
  refine lv_aload_n hx hb d_House_addDoing_14 rfl (lv_at hl 0 rfl) ?_
  refine va_get (D := D) (ci := 6) (v := .int (sH2 12 0)) (C := "BedFrontier$House") (T := T_House) (N := 15) hx hb htt i_House hown hK.1 hP 0 rfl rfl 12 (by decide) (htt _ k_113) (fun _ h9 => h9) rfl d_House_addDoing_15 ?_
  refine lv_iload_n hx hb d_House_addDoing_18 rfl (lv_at hl 2 rfl) ?_
  obtain ⟨g3, hf⟩ := gdE hf
  refine va_iast hx hb hK.1 hP hD hS 4 0 rfl rfl (okI_in g3) d_House_addDoing_19 (fun H locs hP hD hS => ?_)
  obtain ⟨sH4, e_sH4⟩ : ∃ z : PW, z = up sH2 4 (upd (sH2 4) (((sH2 12 0)).toNatClampNeg) a2) := ⟨_, rfl⟩
  replace hf := nmE hf e_sH4
  have hP : va_P D vwCl (L_h ty hA kA sH4) H := by rw [e_sH4]; exact hP
  have hD : va_D A (L_h ty hA kA sH4) := by rw [e_sH4]; exact hD
  refine lv_aload_n hx hb d_House_addDoing_20 rfl (lv_at hl 0 rfl) ?_
  refine lv_dup hx hb d_House_addDoing_21 rfl ?_
  refine va_get (D := D) (ci := 6) (v := .int (sH4 12 0)) (C := "BedFrontier$House") (T := T_House) (N := 15) hx hb htt i_House hown hK.1 hP 0 rfl rfl 12 (by decide) (htt _ k_113) (fun _ h9 => h9) rfl d_House_addDoing_22 ?_
  refine lv_iconst (v := (1 : Int32)) hx hb d_House_addDoing_25 (by decide) ?_
  refine lv_iadd hx hb d_House_addDoing_26 ?_
  refine va_put (D := D) (ci := 6) (v := .int ((sH4 12 0) + (1 : Int32))) (ty := .int) (C := "BedFrontier$House") (T := T_House) (N := 15) hx hb htt i_House t_House t_House_ok n_House hown hK.1 hP hD hS 0 rfl rfl 12 (by decide) (htt _ k_113) (fun _ h9 => h9) rfl pfI rfl rfl (Nat.le_of_ble_eq_true rfl) d_House_addDoing_27 (fun H locs hP hD hS => ?_)
  obtain ⟨sH5, e_sH5⟩ : ∃ z : PW, z = up sH4 12 (fun _ => ((sH4 12 0) + (1 : Int32))) := ⟨_, rfl⟩
  replace hf := nmE hf e_sH5
  have hP : va_P D vwCl (L_h ty hA kA sH5) H := by rw [e_sH5]; exact hP
  have hD : va_D A (L_h ty hA kA sH5) := by rw [e_sH5]; exact hD
  refine lv_aload_n hx hb d_House_addDoing_30 rfl (lv_at hl 0 rfl) ?_
  refine lv_iconst (v := (0 : Int32)) hx hb d_House_addDoing_31 (by decide) ?_
  refine va_put (D := D) (ci := 6) (v := .int (0 : Int32)) (ty := .int) (C := "BedFrontier$House") (T := T_House) (N := 15) hx hb htt i_House t_House t_House_ok n_House hown hK.1 hP hD hS 0 rfl rfl 14 (by decide) (htt _ k_120) (fun _ h9 => h9) rfl pfI rfl rfl (Nat.le_of_ble_eq_true rfl) d_House_addDoing_32 (fun H locs hP hD hS => ?_)
  obtain ⟨sH6, e_sH6⟩ : ∃ z : PW, z = up sH5 14 (fun _ => (0 : Int32)) := ⟨_, rfl⟩
  replace hf := nmE hf e_sH6
  have hP : va_P D vwCl (L_h ty hA kA sH6) H := by rw [e_sH6]; exact hP
  have hD : va_D A (L_h ty hA kA sH6) := by rw [e_sH6]; exact hD
  refine lv_aload_n hx hb d_House_addDoing_35 rfl (lv_at hl 0 rfl) ?_
  refine va_get (D := D) (ci := 6) (v := .int (sH6 12 0)) (C := "BedFrontier$House") (T := T_House) (N := 15) hx hb htt i_House hown hK.1 hP 0 rfl rfl 12 (by decide) (htt _ k_113) (fun _ h9 => h9) rfl d_House_addDoing_36 ?_
  refine lv_iconst (v := (1 : Int32)) hx hb d_House_addDoing_39 (by decide) ?_
  refine lv_isub hx hb d_House_addDoing_40 ?_
  obtain ⟨rfl, rfl⟩ := sj2 hf
  exact retM C0 (narI _) hQ hP hD hS d_House_addDoing_41
def f_House_addNote (sH : PW) (a1 : Int32) (a2 : Int32) (a3 : Int32) (a4 : Int32) (a5 : Int32) : Option (Int32 × PW) :=
  nm ((sH 13 0) * (5 : Int32)) (fun x1 => gd (okI x1 30) (nm (up sH 5 (upd (sH 5) ((x1).toNatClampNeg) a1)) (fun sH3 => gd (okI (x1 + (1 : Int32)) 30) (nm (up sH3 5 (upd (sH3 5) (((x1 + (1 : Int32))).toNatClampNeg) a2)) (fun sH5 => gd (okI (x1 + (2 : Int32)) 30) (nm (up sH5 5 (upd (sH5 5) (((x1 + (2 : Int32))).toNatClampNeg) a3)) (fun sH7 => gd (okI (x1 + (3 : Int32)) 30) (nm (up sH7 5 (upd (sH7 5) (((x1 + (3 : Int32))).toNatClampNeg) a4)) (fun sH9 => gd (okI (x1 + (4 : Int32)) 30) (nm (up sH9 5 (upd (sH9 5) (((x1 + (4 : Int32))).toNatClampNeg) a5)) (fun sH11 => nm (up sH11 13 (fun _ => ((sH11 13 0) + (1 : Int32)))) (fun sH12 => some ((sH12 13 0), sH12)))))))))))))
set_option maxHeartbeats 4000000 in
set_option maxRecDepth 100000 in
theorem c_House_addNote (l : Launch) (D : va_G) (ty : Nat → ClassId) (hA kA : Nat → Nat) (sz : Nat) (sH : PW) (a1 : Int32) (a2 : Int32) (a3 : Int32) (a4 : Int32) (a5 : Int32) (rr : Int32) (tH : PW) (hf : f_House_addNote sH a1 a2 a3 a4 a5 = some (rr, tH)) : Met l y_House_addNote (Cond.code y_House_addNote prog_4_method_6_code 7 ((Option.some FieldType.int)) :: lw_ok) { frames := 0, cells := 0, slots := 0, locals := 0 } (PcM D ty [.ref (hA 0), .int a1, .int a2, .int a3, .int a4, .int a5] sz (L_h ty hA kA sH)) (QM D (L_h ty hA kA tH) (va_A (L_h ty hA kA sH) sz) (some (.int rr))) 0 0 (va_A (L_h ty hA kA sH) sz) := by
  refine hdM (by decide) (Nat.le_of_ble_eq_true rfl) ?_
  intro p e s m below meth c ls R args Q A C0 hR hQ hnm hAq hP hK hD hS hl
  obtain ⟨hx, hb, hr, hlk, hml, hown, htt⟩ := id C0
  have hl : lv_has ls 7 [(0, .ref (hA 0)), (1, .int a1), (2, .int a2), (3, .int a3), (4, .int a4), (5, .int a5)] := hl
  generalize hH0 : s.heap = H at hP hS ⊢
  have hS : va_S A s.heap H [] := by rw [hH0]; exact hS
  unfold f_House_addNote at hf
  refine lv_aload_n hx hb d_House_addNote_0 rfl (lv_at hl 0 rfl) ?_
  refine va_get (D := D) (ci := 6) (v := .int (sH 13 0)) (C := "BedFrontier$House") (T := T_House) (N := 15) hx hb htt i_House hown hK.1 hP 0 rfl rfl 13 (by decide) (htt _ k_117) (fun _ h9 => h9) rfl d_House_addNote_1 ?_
  refine lv_iconst (v := (5 : Int32)) hx hb d_House_addNote_4 (by decide) ?_
  refine lv_imul hx hb d_House_addNote_5 ?_
  refine lv_topi (fun x1 e_x1 => ?_)
  replace hf := nmE hf e_x1
  refine lv_istore (lv' := [(6, .int x1), (0, .ref (hA 0)), (1, .int a1), (2, .int a2), (3, .int a3), (4, .int a4), (5, .int a5)]) hx hb d_House_addNote_6 hl (by decide) rfl (fun ls hl => ?_)
  refine lv_aload_n hx hb d_House_addNote_8 rfl (lv_at hl 1 rfl) ?_
  refine va_get (D := D) (ci := 6) (v := .ref (hA 6)) (C := "BedFrontier$House") (T := T_House) (N := 15) hx hb htt i_House hown hK.1 hP 0 rfl rfl 5 (by decide) (htt _ k_93) (fun _ h9 => h9) rfl d_House_addNote_9 ?_
  refine lv_iload hx hb d_House_addNote_12 (lv_at hl 0 rfl) ?_
  refine lv_iload_n hx hb d_House_addNote_14 rfl (lv_at hl 2 rfl) ?_
  obtain ⟨g2, hf⟩ := gdE hf
  refine va_iast hx hb hK.1 hP hD hS 5 0 rfl rfl (okI_in g2) d_House_addNote_15 (fun H locs hP hD hS => ?_)
  obtain ⟨sH3, e_sH3⟩ : ∃ z : PW, z = up sH 5 (upd (sH 5) ((x1).toNatClampNeg) a1) := ⟨_, rfl⟩
  replace hf := nmE hf e_sH3
  have hP : va_P D vwCl (L_h ty hA kA sH3) H := by rw [e_sH3]; exact hP
  have hD : va_D A (L_h ty hA kA sH3) := by rw [e_sH3]; exact hD
  refine lv_aload_n hx hb d_House_addNote_16 rfl (lv_at hl 1 rfl) ?_
  refine va_get (D := D) (ci := 6) (v := .ref (hA 6)) (C := "BedFrontier$House") (T := T_House) (N := 15) hx hb htt i_House hown hK.1 hP 0 rfl rfl 5 (by decide) (htt _ k_93) (fun _ h9 => h9) rfl d_House_addNote_17 ?_
  refine lv_iload hx hb d_House_addNote_20 (lv_at hl 0 rfl) ?_
  refine lv_iconst (v := (1 : Int32)) hx hb d_House_addNote_22 (by decide) ?_
  refine lv_iadd hx hb d_House_addNote_23 ?_
  refine lv_iload_n hx hb d_House_addNote_24 rfl (lv_at hl 3 rfl) ?_
  obtain ⟨g4, hf⟩ := gdE hf
  refine va_iast hx hb hK.1 hP hD hS 5 0 rfl rfl (okI_in g4) d_House_addNote_25 (fun H locs hP hD hS => ?_)
  obtain ⟨sH5, e_sH5⟩ : ∃ z : PW, z = up sH3 5 (upd (sH3 5) (((x1 + (1 : Int32))).toNatClampNeg) a2) := ⟨_, rfl⟩
  replace hf := nmE hf e_sH5
  have hP : va_P D vwCl (L_h ty hA kA sH5) H := by rw [e_sH5]; exact hP
  have hD : va_D A (L_h ty hA kA sH5) := by rw [e_sH5]; exact hD
  refine lv_aload_n hx hb d_House_addNote_26 rfl (lv_at hl 1 rfl) ?_
  refine va_get (D := D) (ci := 6) (v := .ref (hA 6)) (C := "BedFrontier$House") (T := T_House) (N := 15) hx hb htt i_House hown hK.1 hP 0 rfl rfl 5 (by decide) (htt _ k_93) (fun _ h9 => h9) rfl d_House_addNote_27 ?_
  refine lv_iload hx hb d_House_addNote_30 (lv_at hl 0 rfl) ?_
  refine lv_iconst (v := (2 : Int32)) hx hb d_House_addNote_32 (by decide) ?_
  refine lv_iadd hx hb d_House_addNote_33 ?_
  refine lv_iload_n hx hb d_House_addNote_34 rfl (lv_at hl 4 rfl) ?_
  obtain ⟨g6, hf⟩ := gdE hf
  refine va_iast hx hb hK.1 hP hD hS 5 0 rfl rfl (okI_in g6) d_House_addNote_35 (fun H locs hP hD hS => ?_)
  obtain ⟨sH7, e_sH7⟩ : ∃ z : PW, z = up sH5 5 (upd (sH5 5) (((x1 + (2 : Int32))).toNatClampNeg) a3) := ⟨_, rfl⟩
  replace hf := nmE hf e_sH7
  have hP : va_P D vwCl (L_h ty hA kA sH7) H := by rw [e_sH7]; exact hP
  have hD : va_D A (L_h ty hA kA sH7) := by rw [e_sH7]; exact hD
  refine lv_aload_n hx hb d_House_addNote_36 rfl (lv_at hl 1 rfl) ?_
  refine va_get (D := D) (ci := 6) (v := .ref (hA 6)) (C := "BedFrontier$House") (T := T_House) (N := 15) hx hb htt i_House hown hK.1 hP 0 rfl rfl 5 (by decide) (htt _ k_93) (fun _ h9 => h9) rfl d_House_addNote_37 ?_
  refine lv_iload hx hb d_House_addNote_40 (lv_at hl 0 rfl) ?_
  refine lv_iconst (v := (3 : Int32)) hx hb d_House_addNote_42 (by decide) ?_
  refine lv_iadd hx hb d_House_addNote_43 ?_
  refine lv_iload hx hb d_House_addNote_44 (lv_at hl 5 rfl) ?_
  obtain ⟨g8, hf⟩ := gdE hf
  refine va_iast hx hb hK.1 hP hD hS 5 0 rfl rfl (okI_in g8) d_House_addNote_46 (fun H locs hP hD hS => ?_)
  obtain ⟨sH9, e_sH9⟩ : ∃ z : PW, z = up sH7 5 (upd (sH7 5) (((x1 + (3 : Int32))).toNatClampNeg) a4) := ⟨_, rfl⟩
  replace hf := nmE hf e_sH9
  have hP : va_P D vwCl (L_h ty hA kA sH9) H := by rw [e_sH9]; exact hP
  have hD : va_D A (L_h ty hA kA sH9) := by rw [e_sH9]; exact hD
  refine lv_aload_n hx hb d_House_addNote_47 rfl (lv_at hl 1 rfl) ?_
  refine va_get (D := D) (ci := 6) (v := .ref (hA 6)) (C := "BedFrontier$House") (T := T_House) (N := 15) hx hb htt i_House hown hK.1 hP 0 rfl rfl 5 (by decide) (htt _ k_93) (fun _ h9 => h9) rfl d_House_addNote_48 ?_
  refine lv_iload hx hb d_House_addNote_51 (lv_at hl 0 rfl) ?_
  refine lv_iconst (v := (4 : Int32)) hx hb d_House_addNote_53 (by decide) ?_
  refine lv_iadd hx hb d_House_addNote_54 ?_
  refine lv_iload hx hb d_House_addNote_55 (lv_at hl 6 rfl) ?_
  obtain ⟨g10, hf⟩ := gdE hf
  refine va_iast hx hb hK.1 hP hD hS 5 0 rfl rfl (okI_in g10) d_House_addNote_57 (fun H locs hP hD hS => ?_)
  obtain ⟨sH11, e_sH11⟩ : ∃ z : PW, z = up sH9 5 (upd (sH9 5) (((x1 + (4 : Int32))).toNatClampNeg) a5) := ⟨_, rfl⟩
  replace hf := nmE hf e_sH11
  have hP : va_P D vwCl (L_h ty hA kA sH11) H := by rw [e_sH11]; exact hP
  have hD : va_D A (L_h ty hA kA sH11) := by rw [e_sH11]; exact hD
  refine lv_aload_n hx hb d_House_addNote_58 rfl (lv_at hl 1 rfl) ?_
  refine lv_dup hx hb d_House_addNote_59 rfl ?_
  refine va_get (D := D) (ci := 6) (v := .int (sH11 13 0)) (C := "BedFrontier$House") (T := T_House) (N := 15) hx hb htt i_House hown hK.1 hP 0 rfl rfl 13 (by decide) (htt _ k_117) (fun _ h9 => h9) rfl d_House_addNote_60 ?_
  refine lv_iconst (v := (1 : Int32)) hx hb d_House_addNote_63 (by decide) ?_
  refine lv_iadd hx hb d_House_addNote_64 ?_
  refine va_put (D := D) (ci := 6) (v := .int ((sH11 13 0) + (1 : Int32))) (ty := .int) (C := "BedFrontier$House") (T := T_House) (N := 15) hx hb htt i_House t_House t_House_ok n_House hown hK.1 hP hD hS 0 rfl rfl 13 (by decide) (htt _ k_117) (fun _ h9 => h9) rfl pfI rfl rfl (Nat.le_of_ble_eq_true rfl) d_House_addNote_65 (fun H locs hP hD hS => ?_)
  obtain ⟨sH12, e_sH12⟩ : ∃ z : PW, z = up sH11 13 (fun _ => ((sH11 13 0) + (1 : Int32))) := ⟨_, rfl⟩
  replace hf := nmE hf e_sH12
  have hP : va_P D vwCl (L_h ty hA kA sH12) H := by rw [e_sH12]; exact hP
  have hD : va_D A (L_h ty hA kA sH12) := by rw [e_sH12]; exact hD
  refine lv_aload_n hx hb d_House_addNote_68 rfl (lv_at hl 1 rfl) ?_
  refine va_get (D := D) (ci := 6) (v := .int (sH12 13 0)) (C := "BedFrontier$House") (T := T_House) (N := 15) hx hb htt i_House hown hK.1 hP 0 rfl rfl 13 (by decide) (htt _ k_117) (fun _ h9 => h9) rfl d_House_addNote_69 ?_
  obtain ⟨rfl, rfl⟩ := sj2 hf
  exact retM C0 (narI _) hQ hP hD hS d_House_addNote_72
def f_House_perform (sH : PW) (a1 : Int32) (a2 : Int32) : Option (Int32 × PW) :=
  bd (f_House_owed sH a1 a2 (sH 10 0)) (fun x1 => bd (f_House_tollTo sH (sH 9 0) a2) (fun x3 => nm (x1 + x3) (fun x5 => bd (f_House_keepStep sH) (fun sH6 => nm (up sH6 9 (fun _ => a2)) (fun sH8 => nm (up sH8 10 (fun _ => (((sH8 10 0) + (1 : Int32)) - ((sH8 10 0) + (1 : Int32)) / (24 : Int32) * (24 : Int32)))) (fun sH9 => nm (up sH9 11 (fun _ => ((sH9 11 0) + x5))) (fun sH10 => some (x5, sH10))))))))
set_option maxHeartbeats 4000000 in
set_option maxRecDepth 100000 in
theorem c_House_perform (l : Launch) (D : va_G) (ty : Nat → ClassId) (hA kA : Nat → Nat) (sz : Nat) (sH : PW) (a1 : Int32) (a2 : Int32) (rr : Int32) (tH : PW) (hf : f_House_perform sH a1 a2 = some (rr, tH)) : Met l y_House_perform (Cond.code y_House_perform prog_4_method_13_code 4 ((Option.some FieldType.int)) :: lw_ok) { frames := 5, cells := 0, slots := 0, locals := 143 } (PcM D ty [.ref (hA 0), .int a1, .int a2] sz (L_hk ty hA kA sH)) (QM D (L_hk ty hA kA tH) (va_A (L_hk ty hA kA sH) sz) (some (.int rr))) 0 0 (va_A (L_hk ty hA kA sH) sz) := by
  refine hdM (by decide) (Nat.le_of_ble_eq_true rfl) ?_
  intro p e s m below meth c ls R args Q A C0 hR hQ hnm hAq hP hK hD hS hl
  obtain ⟨hx, hb, hr, hlk, hml, hown, htt⟩ := id C0
  have hl : lv_has ls 4 [(0, .ref (hA 0)), (1, .int a1), (2, .int a2)] := hl
  generalize hH0 : s.heap = H at hP hS ⊢
  have hS : va_S A s.heap H [] := by rw [hH0]; exact hS
  unfold f_House_perform at hf
  refine lv_aload_n hx hb d_House_perform_0 rfl (lv_at hl 0 rfl) ?_
  refine lv_iload_n hx hb d_House_perform_1 rfl (lv_at hl 1 rfl) ?_
  refine lv_iload_n hx hb d_House_perform_2 rfl (lv_at hl 2 rfl) ?_
  refine lv_aload_n hx hb d_House_perform_3 rfl (lv_at hl 0 rfl) ?_
  refine va_get (D := D) (ci := 6) (v := .int (sH 10 0)) (C := "BedFrontier$House") (T := T_House) (N := 15) hx hb htt i_House hown hK.1 hP 0 rfl rfl 10 (by decide) (htt _ k_107) (fun _ h9 => h9) rfl d_House_perform_4 ?_
  obtain ⟨x1, h2, hf⟩ := bdE hf
  refine vR (q0 := 0) (ci := 6) (rest := []) C0 (c_House_owed l D ty hA kA sH a1 a2 (sH 10 0) x1 h2) k_436 cal_House_owed hK hP rfl rfl rfl ⟨by rw [hR]; decide, by rw [hR]; decide⟩ rfl rfl rfl hl.1 rfl (Nat.le_of_ble_eq_true rfl) d_House_perform_7 ⟨Nat.zero_le _, Nat.zero_le _⟩ rfl ?_
  refine lv_aload_n hx hb d_House_perform_10 rfl (lv_at hl 0 rfl) ?_
  refine lv_aload_n hx hb d_House_perform_11 rfl (lv_at hl 0 rfl) ?_
  refine va_get (D := D) (ci := 6) (v := .int (sH 9 0)) (C := "BedFrontier$House") (T := T_House) (N := 15) hx hb htt i_House hown hK.1 hP 0 rfl rfl 9 (by decide) (htt _ k_102) (fun _ h9 => h9) rfl d_House_perform_12 ?_
  refine lv_iload_n hx hb d_House_perform_15 rfl (lv_at hl 2 rfl) ?_
  obtain ⟨x3, h4, hf⟩ := bdE hf
  refine vR (q0 := 0) (ci := 6) (rest := [.int x1]) C0 (c_House_tollTo l D ty hA kA sH (sH 9 0) a2 x3 h4) k_464 cal_House_tollTo hK (hP.sub (ws' := (L_h ty hA kA sH)) [0, 1, 2, 3, 4, 5, 6] rfl) rfl rfl rfl ⟨by rw [hR]; decide, by rw [hR]; decide⟩ rfl rfl rfl hl.1 rfl (Nat.le_of_ble_eq_true rfl) d_House_perform_16 ⟨Nat.zero_le _, Nat.zero_le _⟩ rfl ?_
  refine lv_iadd hx hb d_House_perform_19 ?_
  refine lv_topi (fun x5 e_x5 => ?_)
  replace hf := nmE hf e_x5
  refine lv_istore_n (lv' := [(3, .int x5), (0, .ref (hA 0)), (1, .int a1), (2, .int a2)]) hx hb d_House_perform_20 rfl hl (by decide) rfl (fun ls hl => ?_)
  refine lv_aload_n hx hb d_House_perform_21 rfl (lv_at hl 1 rfl) ?_
  obtain ⟨sH6, h7, hf⟩ := bdE hf
  refine vM (Lc := (L_h ty hA kA sH)) (Lc' := (L_h ty hA kA sH6)) (L' := (L_hk ty hA kA sH6)) (q0 := 0) (ci := 6) (rest := []) C0 (c_House_keepStep l D ty hA kA H.size sH sH6 h7) k_468 cal_House_keepStep hK hP hD hS hAq [0, 1, 2, 3, 4, 5, 6] [7, 8, 9, 10, 11, 12, 13] [7, 8, 9, 10, 11, 12, 13, 0, 1, 2, 3, 4, 5, 6] [(kA 0, .inl (ty 3, 6, .inr (.inr (.inr (.inr (fun i => some (kA (i + 1)))))))), (kA 1, .inr (0, [])), (kA 2, .inr (1, [])), (kA 3, .inr (2, [])), (kA 4, .inr (3, [])), (kA 5, .inr (4, [])), (kA 6, .inr (5, []))] rfl rfl (by decide) (by decide) (by decide) (by decide) rfl rfl rfl rfl ⟨by rw [hR]; decide, by rw [hR]; decide⟩ rfl rfl rfl hl.1 rfl (Nat.le_of_ble_eq_true rfl) d_House_perform_22 ⟨by rw [hR]; decide, by rw [hR]; decide⟩ rfl (fun H locs hP hD hS => ?_)
  refine lv_aload_n hx hb d_House_perform_25 rfl (lv_at hl 1 rfl) ?_
  refine lv_iload_n hx hb d_House_perform_26 rfl (lv_at hl 3 rfl) ?_
  refine va_put (D := D) (ci := 6) (v := .int a2) (ty := .int) (C := "BedFrontier$House") (T := T_House) (N := 15) hx hb htt i_House t_House t_House_ok n_House hown hK.1 hP hD hS 0 rfl rfl 9 (by decide) (htt _ k_102) (fun _ h9 => h9) rfl pfI rfl rfl (Nat.le_of_ble_eq_true rfl) d_House_perform_27 (fun H locs hP hD hS => ?_)
  obtain ⟨sH8, e_sH8⟩ : ∃ z : PW, z = up sH6 9 (fun _ => a2) := ⟨_, rfl⟩
  replace hf := nmE hf e_sH8
  have hP : va_P D vwCl (L_hk ty hA kA sH8) H := by rw [e_sH8]; exact hP
  have hD : va_D A (L_hk ty hA kA sH8) := by rw [e_sH8]; exact hD
  refine lv_aload_n hx hb d_House_perform_30 rfl (lv_at hl 1 rfl) ?_
  refine lv_aload_n hx hb d_House_perform_31 rfl (lv_at hl 1 rfl) ?_
  refine va_get (D := D) (ci := 6) (v := .int (sH8 10 0)) (C := "BedFrontier$House") (T := T_House) (N := 15) hx hb htt i_House hown hK.1 hP 0 rfl rfl 10 (by decide) (htt _ k_107) (fun _ h9 => h9) rfl d_House_perform_32 ?_
  refine lv_iconst (v := (1 : Int32)) hx hb d_House_perform_35 (by decide) ?_
  refine lv_iadd hx hb d_House_perform_36 ?_
  refine lv_bipush (v := (24 : Int32)) hx hb d_House_perform_37 (by decide) ?_
  refine lv_irem hx hb d_House_perform_39 (by decide) ?_
  refine va_put (D := D) (ci := 6) (v := .int (((sH8 10 0) + (1 : Int32)) - ((sH8 10 0) + (1 : Int32)) / (24 : Int32) * (24 : Int32))) (ty := .int) (C := "BedFrontier$House") (T := T_House) (N := 15) hx hb htt i_House t_House t_House_ok n_House hown hK.1 hP hD hS 0 rfl rfl 10 (by decide) (htt _ k_107) (fun _ h9 => h9) rfl pfI rfl rfl (Nat.le_of_ble_eq_true rfl) d_House_perform_40 (fun H locs hP hD hS => ?_)
  obtain ⟨sH9, e_sH9⟩ : ∃ z : PW, z = up sH8 10 (fun _ => (((sH8 10 0) + (1 : Int32)) - ((sH8 10 0) + (1 : Int32)) / (24 : Int32) * (24 : Int32))) := ⟨_, rfl⟩
  replace hf := nmE hf e_sH9
  have hP : va_P D vwCl (L_hk ty hA kA sH9) H := by rw [e_sH9]; exact hP
  have hD : va_D A (L_hk ty hA kA sH9) := by rw [e_sH9]; exact hD
  refine lv_aload_n hx hb d_House_perform_43 rfl (lv_at hl 1 rfl) ?_
  refine lv_dup hx hb d_House_perform_44 rfl ?_
  refine va_get (D := D) (ci := 6) (v := .int (sH9 11 0)) (C := "BedFrontier$House") (T := T_House) (N := 15) hx hb htt i_House hown hK.1 hP 0 rfl rfl 11 (by decide) (htt _ k_110) (fun _ h9 => h9) rfl d_House_perform_45 ?_
  refine lv_iload_n hx hb d_House_perform_48 rfl (lv_at hl 0 rfl) ?_
  refine lv_iadd hx hb d_House_perform_49 ?_
  refine va_put (D := D) (ci := 6) (v := .int ((sH9 11 0) + x5)) (ty := .int) (C := "BedFrontier$House") (T := T_House) (N := 15) hx hb htt i_House t_House t_House_ok n_House hown hK.1 hP hD hS 0 rfl rfl 11 (by decide) (htt _ k_110) (fun _ h9 => h9) rfl pfI rfl rfl (Nat.le_of_ble_eq_true rfl) d_House_perform_50 (fun H locs hP hD hS => ?_)
  obtain ⟨sH10, e_sH10⟩ : ∃ z : PW, z = up sH9 11 (fun _ => ((sH9 11 0) + x5)) := ⟨_, rfl⟩
  replace hf := nmE hf e_sH10
  have hP : va_P D vwCl (L_hk ty hA kA sH10) H := by rw [e_sH10]; exact hP
  have hD : va_D A (L_hk ty hA kA sH10) := by rw [e_sH10]; exact hD
  refine lv_iload_n hx hb d_House_perform_53 rfl (lv_at hl 0 rfl) ?_
  obtain ⟨rfl, rfl⟩ := sj2 hf
  exact retM C0 (narI _) hQ hP hD hS d_House_perform_54
def f_House_addedTo_L120 (sH : PW) (K120 : Int64 × Int32 → Option (Int64)) : Int64 × Int32 → Option (Int64)
  | (x11, x12) =>
  (if ((sH 13 0) * (5 : Int32)) ≤ x12 then some x11 else gd (okI x12 30) (nm (((31 : Int64) * x11) + ((sH 5 (x12).toNatClampNeg)).toInt64) (fun x15 => nm (x12 + (1 : Int32)) (fun x16 => K120 (x15, x16)))))
def f_House_addedTo_L72 (sH : PW) (K72 : Int64 × Int32 → Option (Int64)) : Int64 × Int32 → Option (Int64)
  | (x8, x9) =>
  (if (sH 12 0) ≤ x9 then loopF (f_House_addedTo_L120 sH) 4000 (x8, (0 : Int32)) else gd (okI x9 6) (nm (((31 : Int64) * x8) + ((sH 3 (x9).toNatClampNeg)).toInt64) (fun x18 => gd (okI x9 6) (nm (((31 : Int64) * x18) + ((sH 4 (x9).toNatClampNeg)).toInt64) (fun x20 => nm (x9 + (1 : Int32)) (fun x21 => K72 (x20, x21)))))))
def f_House_addedTo_L27 (sH : PW) (K27 : Int64 × Int32 → Option (Int64)) : Int64 × Int32 → Option (Int64)
  | (x5, x6) =>
  (if (2 : Int32) ≤ x6 then loopF (f_House_addedTo_L72 sH) 4000 (x5, (0 : Int32)) else gd (okI x6 2) (nm (((31 : Int64) * x5) + ((sH 1 (x6).toNatClampNeg)).toInt64) (fun x23 => gd (okI x6 2) (nm (((31 : Int64) * x23) + ((sH 2 (x6).toNatClampNeg)).toInt64) (fun x25 => nm (x6 + (1 : Int32)) (fun x26 => K27 (x25, x26)))))))
def f_House_addedTo (sH : PW) (a1 : Int64) : Option (Int64) :=
  nm (((31 : Int64) * a1) + ((sH 7 0)).toInt64) (fun x1 => bd (f_House_warBit sH) (fun x2 => nm (((31 : Int64) * x1) + (x2).toInt64) (fun x4 => loopF (f_House_addedTo_L27 sH) 4000 (x4, (0 : Int32)))))
set_option maxHeartbeats 4000000 in
set_option maxRecDepth 100000 in
theorem c_House_addedTo (l : Launch) (D : va_G) (ty : Nat → ClassId) (hA kA : Nat → Nat) (sH : PW) (a1 : Int64) (rr : Int64) (hf : f_House_addedTo sH a1 = some rr) : Met l y_House_addedTo (Cond.code y_House_addedTo prog_4_method_16_code 6 ((Option.some FieldType.long)) :: lw_ok) { frames := 1, cells := 0, slots := 0, locals := 20 } (PcR D ty [.ref (hA 0), .long a1] (L_h ty hA kA sH)) (QR (some (.long rr))) 0 0 (fun _ => False) := by
  refine hdR (by decide) (Nat.le_of_ble_eq_true rfl) ?_
  intro p e s m below meth c ls R args Q C0 hR hQ hP hK hl
  obtain ⟨hx, hb, hr, hlk, hml, hown, htt⟩ := id C0
  have hl : lv_has ls 6 [(0, .ref (hA 0)), (1, .long a1)] := hl
  unfold f_House_addedTo at hf
  refine lv_ldc2 (v := (31 : Int64)) hx hb hown (htt _ k_761) d_House_addedTo_0 ?_
  refine lv_lload_n hx hb d_House_addedTo_3 rfl (lv_at hl 1 rfl) ?_
  refine lv_lmul hx hb d_House_addedTo_4 ?_
  refine lv_aload_n hx hb d_House_addedTo_5 rfl (lv_at hl 0 rfl) ?_
  refine va_get (D := D) (ci := 6) (v := .int (sH 7 0)) (C := "BedFrontier$House") (T := T_House) (N := 15) hx hb htt i_House hown hK.1 hP 0 rfl rfl 7 (by decide) (htt _ k_96) (fun _ h9 => h9) rfl d_House_addedTo_6 ?_
  refine lv_i2l hx hb d_House_addedTo_9 rfl ?_
  refine lv_ladd hx hb d_House_addedTo_10 ?_
  refine lv_topl (fun x1 e_x1 => ?_)
  replace hf := nmE hf e_x1
  refine lv_lstore_n (lv' := [(3, .long x1), (0, .ref (hA 0)), (1, .long a1)]) hx hb d_House_addedTo_11 rfl hl (by decide) rfl (fun ls hl => ?_)
  refine lv_ldc2 (v := (31 : Int64)) hx hb hown (htt _ k_761) d_House_addedTo_12 ?_
  refine lv_lload_n hx hb d_House_addedTo_15 rfl (lv_at hl 0 rfl) ?_
  refine lv_lmul hx hb d_House_addedTo_16 ?_
  refine lv_aload_n hx hb d_House_addedTo_17 rfl (lv_at hl 1 rfl) ?_
  obtain ⟨x2, h3, hf⟩ := bdE hf
  refine vR (q0 := 0) (ci := 6) (rest := [.long ((31 : Int64) * x1)]) C0 (c_House_warBit l D ty hA kA sH x2 h3) k_472 cal_House_warBit hK hP rfl rfl rfl ⟨by rw [hR]; decide, by rw [hR]; decide⟩ rfl rfl rfl hl.1 rfl (Nat.le_of_ble_eq_true rfl) d_House_addedTo_18 ⟨Nat.zero_le _, Nat.zero_le _⟩ rfl ?_
  refine lv_i2l hx hb d_House_addedTo_21 rfl ?_
  refine lv_ladd hx hb d_House_addedTo_22 ?_
  refine lv_topl (fun x4 e_x4 => ?_)
  replace hf := nmE hf e_x4
  refine lv_lstore_n (lv' := [(3, .long x4), (0, .ref (hA 0)), (1, .long a1)]) hx hb d_House_addedTo_23 rfl hl (by decide) rfl (fun ls hl => ?_)
  refine lv_iconst (v := (0 : Int32)) hx hb d_House_addedTo_24 (by decide) ?_
  refine lv_istore (lv' := [(5, .int (0 : Int32)), (3, .long x4), (0, .ref (hA 0)), (1, .long a1)]) hx hb d_House_addedTo_25 hl (by decide) rfl (fun ls hl => ?_)
  have B27 : ∀ (n : Nat) (x : Int64 × Int32), loopF (f_House_addedTo_L27 sH) n x = some rr → ∀ ls : Array Slot, lv_has ls 6 [(0, .ref (hA 0)), (3, .long (x.1)), (5, .int (x.2))] → W p l e R s m args below meth c s.heap [] 0 0 Q (F0 m 27 ls []) := by
    refine loopW (fun (x : Int64 × Int32) => ∀ ls : Array Slot, lv_has ls 6 [(0, .ref (hA 0)), (3, .long (x.1)), (5, .int (x.2))] → W p l e R s m args below meth c s.heap [] 0 0 Q (F0 m 27 ls [])) ?_
    intro K27 hK27 x hf
    obtain ⟨x5, x6⟩ := x
    rw [f_House_addedTo_L27] at hf
    intro ls hl
    have hl : lv_has ls 6 [(0, .ref (hA 0)), (3, .long x5), (5, .int x6)] := hl
    show W p l e R s m args below meth c s.heap [] 0 0 Q (F0 m 27 ls [])
    refine lv_iload hx hb d_House_addedTo_27 (lv_at hl 2 rfl) ?_
    refine lv_iconst (v := (2 : Int32)) hx hb d_House_addedTo_29 (by decide) ?_
    refine lv_icmp_ge (tgt := 69) hx hb d_House_addedTo_30 (by decide) (fun c7 => ?_) (fun c7 => ?_)
    · replace hf := iteT c7 hf
      refine lv_iconst (v := (0 : Int32)) hx hb d_House_addedTo_69 (by decide) ?_
      refine lv_istore (lv' := [(5, .int (0 : Int32)), (0, .ref (hA 0)), (3, .long x5)]) hx hb d_House_addedTo_70 hl (by decide) rfl (fun ls hl => ?_)
      have B72 : ∀ (n : Nat) (x : Int64 × Int32), loopF (f_House_addedTo_L72 sH) n x = some rr → ∀ ls : Array Slot, lv_has ls 6 [(0, .ref (hA 0)), (3, .long (x.1)), (5, .int (x.2))] → W p l e R s m args below meth c s.heap [] 0 0 Q (F0 m 72 ls []) := by
        refine loopW (fun (x : Int64 × Int32) => ∀ ls : Array Slot, lv_has ls 6 [(0, .ref (hA 0)), (3, .long (x.1)), (5, .int (x.2))] → W p l e R s m args below meth c s.heap [] 0 0 Q (F0 m 72 ls [])) ?_
        intro K72 hK72 x hf
        obtain ⟨x8, x9⟩ := x
        rw [f_House_addedTo_L72] at hf
        intro ls hl
        have hl : lv_has ls 6 [(0, .ref (hA 0)), (3, .long x8), (5, .int x9)] := hl
        show W p l e R s m args below meth c s.heap [] 0 0 Q (F0 m 72 ls [])
        refine lv_iload hx hb d_House_addedTo_72 (lv_at hl 2 rfl) ?_
        refine lv_aload_n hx hb d_House_addedTo_74 rfl (lv_at hl 0 rfl) ?_
        refine va_get (D := D) (ci := 6) (v := .int (sH 12 0)) (C := "BedFrontier$House") (T := T_House) (N := 15) hx hb htt i_House hown hK.1 hP 0 rfl rfl 12 (by decide) (htt _ k_113) (fun _ h9 => h9) rfl d_House_addedTo_75 ?_
        refine lv_icmp_ge (tgt := 117) hx hb d_House_addedTo_78 (by decide) (fun c10 => ?_) (fun c10 => ?_)
        · replace hf := iteT c10 hf
          refine lv_iconst (v := (0 : Int32)) hx hb d_House_addedTo_117 (by decide) ?_
          refine lv_istore (lv' := [(5, .int (0 : Int32)), (0, .ref (hA 0)), (3, .long x8)]) hx hb d_House_addedTo_118 hl (by decide) rfl (fun ls hl => ?_)
          have B120 : ∀ (n : Nat) (x : Int64 × Int32), loopF (f_House_addedTo_L120 sH) n x = some rr → ∀ ls : Array Slot, lv_has ls 6 [(0, .ref (hA 0)), (3, .long (x.1)), (5, .int (x.2))] → W p l e R s m args below meth c s.heap [] 0 0 Q (F0 m 120 ls []) := by
            refine loopW (fun (x : Int64 × Int32) => ∀ ls : Array Slot, lv_has ls 6 [(0, .ref (hA 0)), (3, .long (x.1)), (5, .int (x.2))] → W p l e R s m args below meth c s.heap [] 0 0 Q (F0 m 120 ls [])) ?_
            intro K120 hK120 x hf
            obtain ⟨x11, x12⟩ := x
            rw [f_House_addedTo_L120] at hf
            intro ls hl
            have hl : lv_has ls 6 [(0, .ref (hA 0)), (3, .long x11), (5, .int x12)] := hl
            show W p l e R s m args below meth c s.heap [] 0 0 Q (F0 m 120 ls [])
            refine lv_iload hx hb d_House_addedTo_120 (lv_at hl 2 rfl) ?_
            refine lv_aload_n hx hb d_House_addedTo_122 rfl (lv_at hl 0 rfl) ?_
            refine va_get (D := D) (ci := 6) (v := .int (sH 13 0)) (C := "BedFrontier$House") (T := T_House) (N := 15) hx hb htt i_House hown hK.1 hP 0 rfl rfl 13 (by decide) (htt _ k_117) (fun _ h9 => h9) rfl d_House_addedTo_123 ?_
            refine lv_iconst (v := (5 : Int32)) hx hb d_House_addedTo_126 (by decide) ?_
            refine lv_imul hx hb d_House_addedTo_127 ?_
            refine lv_icmp_ge (tgt := 152) hx hb d_House_addedTo_128 (by decide) (fun c13 => ?_) (fun c13 => ?_)
            · replace hf := iteT c13 hf
              refine lv_lload_n hx hb d_House_addedTo_152 rfl (lv_at hl 1 rfl) ?_
              obtain rfl := sj1 hf
              exact retRl C0 hQ d_House_addedTo_153
            · replace hf := iteF c13 hf
              refine lv_ldc2 (v := (31 : Int64)) hx hb hown (htt _ k_761) d_House_addedTo_131 ?_
              refine lv_lload_n hx hb d_House_addedTo_134 rfl (lv_at hl 1 rfl) ?_
              refine lv_lmul hx hb d_House_addedTo_135 ?_
              refine lv_aload_n hx hb d_House_addedTo_136 rfl (lv_at hl 0 rfl) ?_
              refine va_get (D := D) (ci := 6) (v := .ref (hA 6)) (C := "BedFrontier$House") (T := T_House) (N := 15) hx hb htt i_House hown hK.1 hP 0 rfl rfl 5 (by decide) (htt _ k_93) (fun _ h9 => h9) rfl d_House_addedTo_137 ?_
              refine lv_iload hx hb d_House_addedTo_140 (lv_at hl 2 rfl) ?_
              obtain ⟨g14, hf⟩ := gdE hf
              refine va_iald hx hb hK.1 hP 5 0 rfl rfl (okI_in g14) d_House_addedTo_142 ?_
              refine lv_i2l hx hb d_House_addedTo_143 rfl ?_
              refine lv_ladd hx hb d_House_addedTo_144 ?_
              refine lv_topl (fun x15 e_x15 => ?_)
              replace hf := nmE hf e_x15
              refine lv_lstore_n (lv' := [(3, .long x15), (0, .ref (hA 0)), (5, .int x12)]) hx hb d_House_addedTo_145 rfl hl (by decide) rfl (fun ls hl => ?_)
              obtain ⟨x16, e_x16⟩ : ∃ z : Int32, z = (x12 + (1 : Int32)) := ⟨_, rfl⟩
              replace hf := nmE hf e_x16
              refine lv_iinc (v := x16) (lv' := [(5, .int x16), (3, .long x15), (0, .ref (hA 0))]) hx hb d_House_addedTo_146 hl (k := 2) rfl (by rw [e_x16]; rfl) (by decide) rfl (fun ls hl => ?_)
              refine lv_goto (tgt := 120) hx hb d_House_addedTo_149 (by decide) ?_
              exact hK120 (x15, x16) hf ls (lv_sub hl [2, 1, 0] rfl)
          exact B120 4000 (x8, (0 : Int32)) hf ls (lv_sub hl [1, 2, 0] rfl)
        · replace hf := iteF c10 hf
          refine lv_ldc2 (v := (31 : Int64)) hx hb hown (htt _ k_761) d_House_addedTo_81 ?_
          refine lv_lload_n hx hb d_House_addedTo_84 rfl (lv_at hl 1 rfl) ?_
          refine lv_lmul hx hb d_House_addedTo_85 ?_
          refine lv_aload_n hx hb d_House_addedTo_86 rfl (lv_at hl 0 rfl) ?_
          refine va_get (D := D) (ci := 6) (v := .ref (hA 4)) (C := "BedFrontier$House") (T := T_House) (N := 15) hx hb htt i_House hown hK.1 hP 0 rfl rfl 3 (by decide) (htt _ k_88) (fun _ h9 => h9) rfl d_House_addedTo_87 ?_
          refine lv_iload hx hb d_House_addedTo_90 (lv_at hl 2 rfl) ?_
          obtain ⟨g17, hf⟩ := gdE hf
          refine va_iald hx hb hK.1 hP 3 0 rfl rfl (okI_in g17) d_House_addedTo_92 ?_
          refine lv_i2l hx hb d_House_addedTo_93 rfl ?_
          refine lv_ladd hx hb d_House_addedTo_94 ?_
          refine lv_topl (fun x18 e_x18 => ?_)
          replace hf := nmE hf e_x18
          refine lv_lstore_n (lv' := [(3, .long x18), (0, .ref (hA 0)), (5, .int x9)]) hx hb d_House_addedTo_95 rfl hl (by decide) rfl (fun ls hl => ?_)
          refine lv_ldc2 (v := (31 : Int64)) hx hb hown (htt _ k_761) d_House_addedTo_96 ?_
          refine lv_lload_n hx hb d_House_addedTo_99 rfl (lv_at hl 0 rfl) ?_
          refine lv_lmul hx hb d_House_addedTo_100 ?_
          refine lv_aload_n hx hb d_House_addedTo_101 rfl (lv_at hl 1 rfl) ?_
          refine va_get (D := D) (ci := 6) (v := .ref (hA 5)) (C := "BedFrontier$House") (T := T_House) (N := 15) hx hb htt i_House hown hK.1 hP 0 rfl rfl 4 (by decide) (htt _ k_91) (fun _ h9 => h9) rfl d_House_addedTo_102 ?_
          refine lv_iload hx hb d_House_addedTo_105 (lv_at hl 2 rfl) ?_
          obtain ⟨g19, hf⟩ := gdE hf
          refine va_iald hx hb hK.1 hP 4 0 rfl rfl (okI_in g19) d_House_addedTo_107 ?_
          refine lv_i2l hx hb d_House_addedTo_108 rfl ?_
          refine lv_ladd hx hb d_House_addedTo_109 ?_
          refine lv_topl (fun x20 e_x20 => ?_)
          replace hf := nmE hf e_x20
          refine lv_lstore_n (lv' := [(3, .long x20), (0, .ref (hA 0)), (5, .int x9)]) hx hb d_House_addedTo_110 rfl hl (by decide) rfl (fun ls hl => ?_)
          obtain ⟨x21, e_x21⟩ : ∃ z : Int32, z = (x9 + (1 : Int32)) := ⟨_, rfl⟩
          replace hf := nmE hf e_x21
          refine lv_iinc (v := x21) (lv' := [(5, .int x21), (3, .long x20), (0, .ref (hA 0))]) hx hb d_House_addedTo_111 hl (k := 2) rfl (by rw [e_x21]; rfl) (by decide) rfl (fun ls hl => ?_)
          refine lv_goto (tgt := 72) hx hb d_House_addedTo_114 (by decide) ?_
          exact hK72 (x20, x21) hf ls (lv_sub hl [2, 1, 0] rfl)
      exact B72 4000 (x5, (0 : Int32)) hf ls (lv_sub hl [1, 2, 0] rfl)
    · replace hf := iteF c7 hf
      refine lv_ldc2 (v := (31 : Int64)) hx hb hown (htt _ k_761) d_House_addedTo_33 ?_
      refine lv_lload_n hx hb d_House_addedTo_36 rfl (lv_at hl 1 rfl) ?_
      refine lv_lmul hx hb d_House_addedTo_37 ?_
      refine lv_aload_n hx hb d_House_addedTo_38 rfl (lv_at hl 0 rfl) ?_
      refine va_get (D := D) (ci := 6) (v := .ref (hA 2)) (C := "BedFrontier$House") (T := T_House) (N := 15) hx hb htt i_House hown hK.1 hP 0 rfl rfl 1 (by decide) (htt _ k_82) (fun _ h9 => h9) rfl d_House_addedTo_39 ?_
      refine lv_iload hx hb d_House_addedTo_42 (lv_at hl 2 rfl) ?_
      obtain ⟨g22, hf⟩ := gdE hf
      refine va_iald hx hb hK.1 hP 1 0 rfl rfl (okI_in g22) d_House_addedTo_44 ?_
      refine lv_i2l hx hb d_House_addedTo_45 rfl ?_
      refine lv_ladd hx hb d_House_addedTo_46 ?_
      refine lv_topl (fun x23 e_x23 => ?_)
      replace hf := nmE hf e_x23
      refine lv_lstore_n (lv' := [(3, .long x23), (0, .ref (hA 0)), (5, .int x6)]) hx hb d_House_addedTo_47 rfl hl (by decide) rfl (fun ls hl => ?_)
      refine lv_ldc2 (v := (31 : Int64)) hx hb hown (htt _ k_761) d_House_addedTo_48 ?_
      refine lv_lload_n hx hb d_House_addedTo_51 rfl (lv_at hl 0 rfl) ?_
      refine lv_lmul hx hb d_House_addedTo_52 ?_
      refine lv_aload_n hx hb d_House_addedTo_53 rfl (lv_at hl 1 rfl) ?_
      refine va_get (D := D) (ci := 6) (v := .ref (hA 3)) (C := "BedFrontier$House") (T := T_House) (N := 15) hx hb htt i_House hown hK.1 hP 0 rfl rfl 2 (by decide) (htt _ k_85) (fun _ h9 => h9) rfl d_House_addedTo_54 ?_
      refine lv_iload hx hb d_House_addedTo_57 (lv_at hl 2 rfl) ?_
      obtain ⟨g24, hf⟩ := gdE hf
      refine va_iald hx hb hK.1 hP 2 0 rfl rfl (okI_in g24) d_House_addedTo_59 ?_
      refine lv_i2l hx hb d_House_addedTo_60 rfl ?_
      refine lv_ladd hx hb d_House_addedTo_61 ?_
      refine lv_topl (fun x25 e_x25 => ?_)
      replace hf := nmE hf e_x25
      refine lv_lstore_n (lv' := [(3, .long x25), (0, .ref (hA 0)), (5, .int x6)]) hx hb d_House_addedTo_62 rfl hl (by decide) rfl (fun ls hl => ?_)
      obtain ⟨x26, e_x26⟩ : ∃ z : Int32, z = (x6 + (1 : Int32)) := ⟨_, rfl⟩
      replace hf := nmE hf e_x26
      refine lv_iinc (v := x26) (lv' := [(5, .int x26), (3, .long x25), (0, .ref (hA 0))]) hx hb d_House_addedTo_63 hl (k := 2) rfl (by rw [e_x26]; rfl) (by decide) rfl (fun ls hl => ?_)
      refine lv_goto (tgt := 27) hx hb d_House_addedTo_66 (by decide) ?_
      exact hK27 (x25, x26) hf ls (lv_sub hl [2, 1, 0] rfl)
  exact B27 4000 (x4, (0 : Int32)) hf ls (lv_sub hl [2, 1, 0] rfl)
def f_House_takeFrom (sH : PW) (sO : PW) : Option (PW) :=
  nm (up sH 7 (fun _ => (sO 7 0))) (fun sH1 => gd (isZ (sO 8 0)) (nm (up sH1 8 (fun _ => (sO 8 0))) (fun sH3 => nm (up sH3 9 (fun _ => (sO 9 0))) (fun sH4 => nm (up sH4 10 (fun _ => (sO 10 0))) (fun sH5 => nm (up sH5 11 (fun _ => (sO 11 0))) (fun sH6 => nm (up sH6 12 (fun _ => (sO 12 0))) (fun sH7 => nm (up sH7 13 (fun _ => (sO 13 0))) (fun sH8 => nm (up sH8 14 (fun _ => (sO 14 0))) (fun sH9 => nm (up sH9 1 (va_cpy (sO 1) (sH9 1) 0 0 2)) (fun sH10 => nm (up sH10 2 (va_cpy (sO 2) (sH10 2) 0 0 2)) (fun sH11 => nm (up sH11 3 (va_cpy (sO 3) (sH11 3) 0 0 6)) (fun sH12 => nm (up sH12 4 (va_cpy (sO 4) (sH12 4) 0 0 6)) (fun sH13 => nm (up sH13 5 (va_cpy (sO 5) (sH13 5) 0 0 30)) (fun sH14 => nm (up sH14 6 (va_cpy (sO 6) (sH14 6) 0 0 32)) (fun sH15 => some sH15)))))))))))))))
set_option maxHeartbeats 4000000 in
set_option maxRecDepth 100000 in
theorem c_House_takeFrom (l : Launch) (D : va_G) (ty : Nat → ClassId) (hA oA kA : Nat → Nat) (sz : Nat) (sH : PW) (sO : PW) (tH : PW) (hf : f_House_takeFrom sH sO = some tH) : Met l y_House_takeFrom (Cond.code y_House_takeFrom prog_4_method_3_code 2 none :: lw_ok) { frames := 1, cells := 0, slots := 0, locals := 60 } (PcM D ty [.ref (hA 0), .ref (oA 0)] sz (L_ho ty hA oA kA sH sO)) (QM D (L_ho ty hA oA kA tH sO) (va_A (L_ho ty hA oA kA sH sO) sz) (none)) 0 0 (va_A (L_ho ty hA oA kA sH sO) sz) := by
  refine hdM (by decide) (Nat.le_of_ble_eq_true rfl) ?_
  intro p e s m below meth c ls R args Q A C0 hR hQ hnm hAq hP hK hD hS hl
  obtain ⟨hx, hb, hr, hlk, hml, hown, htt⟩ := id C0
  have hl : lv_has ls 2 [(0, .ref (hA 0)), (1, .ref (oA 0))] := hl
  generalize hH0 : s.heap = H at hP hS ⊢
  have hS : va_S A s.heap H [] := by rw [hH0]; exact hS
  unfold f_House_takeFrom at hf
  refine lv_aload_n hx hb d_House_takeFrom_0 rfl (lv_at hl 0 rfl) ?_
  refine lv_aload_n hx hb d_House_takeFrom_1 rfl (lv_at hl 1 rfl) ?_
  refine va_get (D := D) (ci := 6) (v := .int (sO 7 0)) (C := "BedFrontier$House") (T := T_House) (N := 15) hx hb htt i_House hown hK.1 hP 7 rfl rfl 7 (by decide) (htt _ k_96) (fun _ h9 => h9) rfl d_House_takeFrom_2 ?_
  refine va_put (D := D) (ci := 6) (v := .int (sO 7 0)) (ty := .int) (C := "BedFrontier$House") (T := T_House) (N := 15) hx hb htt i_House t_House t_House_ok n_House hown hK.1 hP hD hS 0 rfl rfl 7 (by decide) (htt _ k_96) (fun _ h9 => h9) rfl pfI rfl rfl (Nat.le_of_ble_eq_true rfl) d_House_takeFrom_5 (fun H locs hP hD hS => ?_)
  obtain ⟨sH1, e_sH1⟩ : ∃ z : PW, z = up sH 7 (fun _ => (sO 7 0)) := ⟨_, rfl⟩
  replace hf := nmE hf e_sH1
  have hP : va_P D vwCl (L_ho ty hA oA kA sH1 sO) H := by rw [e_sH1]; exact hP
  have hD : va_D A (L_ho ty hA oA kA sH1 sO) := by rw [e_sH1]; exact hD
  refine lv_aload_n hx hb d_House_takeFrom_8 rfl (lv_at hl 0 rfl) ?_
  refine lv_aload_n hx hb d_House_takeFrom_9 rfl (lv_at hl 1 rfl) ?_
  refine va_get (D := D) (ci := 6) (v := .int (sO 8 0)) (C := "BedFrontier$House") (T := T_House) (N := 15) hx hb htt i_House hown hK.1 hP 7 rfl rfl 8 (by decide) (htt _ k_99) (fun _ h9 => h9) rfl d_House_takeFrom_10 ?_
  obtain ⟨g2, hf⟩ := gdE hf
  refine va_put (D := D) (ci := 6) (v := .int (sO 8 0)) (ty := .boolean) (C := "BedFrontier$House") (T := T_House) (N := 15) hx hb htt i_House t_House t_House_ok n_House hown hK.1 hP hD hS 0 rfl rfl 8 (by decide) (htt _ k_99) (fun _ h9 => h9) rfl pfZ (isZ_nar g2) (isZ_fit g2) (Nat.le_of_ble_eq_true rfl) d_House_takeFrom_13 (fun H locs hP hD hS => ?_)
  obtain ⟨sH3, e_sH3⟩ : ∃ z : PW, z = up sH1 8 (fun _ => (sO 8 0)) := ⟨_, rfl⟩
  replace hf := nmE hf e_sH3
  have hP : va_P D vwCl (L_ho ty hA oA kA sH3 sO) H := by rw [e_sH3]; exact hP
  have hD : va_D A (L_ho ty hA oA kA sH3 sO) := by rw [e_sH3]; exact hD
  refine lv_aload_n hx hb d_House_takeFrom_16 rfl (lv_at hl 0 rfl) ?_
  refine lv_aload_n hx hb d_House_takeFrom_17 rfl (lv_at hl 1 rfl) ?_
  refine va_get (D := D) (ci := 6) (v := .int (sO 9 0)) (C := "BedFrontier$House") (T := T_House) (N := 15) hx hb htt i_House hown hK.1 hP 7 rfl rfl 9 (by decide) (htt _ k_102) (fun _ h9 => h9) rfl d_House_takeFrom_18 ?_
  refine va_put (D := D) (ci := 6) (v := .int (sO 9 0)) (ty := .int) (C := "BedFrontier$House") (T := T_House) (N := 15) hx hb htt i_House t_House t_House_ok n_House hown hK.1 hP hD hS 0 rfl rfl 9 (by decide) (htt _ k_102) (fun _ h9 => h9) rfl pfI rfl rfl (Nat.le_of_ble_eq_true rfl) d_House_takeFrom_21 (fun H locs hP hD hS => ?_)
  obtain ⟨sH4, e_sH4⟩ : ∃ z : PW, z = up sH3 9 (fun _ => (sO 9 0)) := ⟨_, rfl⟩
  replace hf := nmE hf e_sH4
  have hP : va_P D vwCl (L_ho ty hA oA kA sH4 sO) H := by rw [e_sH4]; exact hP
  have hD : va_D A (L_ho ty hA oA kA sH4 sO) := by rw [e_sH4]; exact hD
  refine lv_aload_n hx hb d_House_takeFrom_24 rfl (lv_at hl 0 rfl) ?_
  refine lv_aload_n hx hb d_House_takeFrom_25 rfl (lv_at hl 1 rfl) ?_
  refine va_get (D := D) (ci := 6) (v := .int (sO 10 0)) (C := "BedFrontier$House") (T := T_House) (N := 15) hx hb htt i_House hown hK.1 hP 7 rfl rfl 10 (by decide) (htt _ k_107) (fun _ h9 => h9) rfl d_House_takeFrom_26 ?_
  refine va_put (D := D) (ci := 6) (v := .int (sO 10 0)) (ty := .int) (C := "BedFrontier$House") (T := T_House) (N := 15) hx hb htt i_House t_House t_House_ok n_House hown hK.1 hP hD hS 0 rfl rfl 10 (by decide) (htt _ k_107) (fun _ h9 => h9) rfl pfI rfl rfl (Nat.le_of_ble_eq_true rfl) d_House_takeFrom_29 (fun H locs hP hD hS => ?_)
  obtain ⟨sH5, e_sH5⟩ : ∃ z : PW, z = up sH4 10 (fun _ => (sO 10 0)) := ⟨_, rfl⟩
  replace hf := nmE hf e_sH5
  have hP : va_P D vwCl (L_ho ty hA oA kA sH5 sO) H := by rw [e_sH5]; exact hP
  have hD : va_D A (L_ho ty hA oA kA sH5 sO) := by rw [e_sH5]; exact hD
  refine lv_aload_n hx hb d_House_takeFrom_32 rfl (lv_at hl 0 rfl) ?_
  refine lv_aload_n hx hb d_House_takeFrom_33 rfl (lv_at hl 1 rfl) ?_
  refine va_get (D := D) (ci := 6) (v := .int (sO 11 0)) (C := "BedFrontier$House") (T := T_House) (N := 15) hx hb htt i_House hown hK.1 hP 7 rfl rfl 11 (by decide) (htt _ k_110) (fun _ h9 => h9) rfl d_House_takeFrom_34 ?_
  refine va_put (D := D) (ci := 6) (v := .int (sO 11 0)) (ty := .int) (C := "BedFrontier$House") (T := T_House) (N := 15) hx hb htt i_House t_House t_House_ok n_House hown hK.1 hP hD hS 0 rfl rfl 11 (by decide) (htt _ k_110) (fun _ h9 => h9) rfl pfI rfl rfl (Nat.le_of_ble_eq_true rfl) d_House_takeFrom_37 (fun H locs hP hD hS => ?_)
  obtain ⟨sH6, e_sH6⟩ : ∃ z : PW, z = up sH5 11 (fun _ => (sO 11 0)) := ⟨_, rfl⟩
  replace hf := nmE hf e_sH6
  have hP : va_P D vwCl (L_ho ty hA oA kA sH6 sO) H := by rw [e_sH6]; exact hP
  have hD : va_D A (L_ho ty hA oA kA sH6 sO) := by rw [e_sH6]; exact hD
  refine lv_aload_n hx hb d_House_takeFrom_40 rfl (lv_at hl 0 rfl) ?_
  refine lv_aload_n hx hb d_House_takeFrom_41 rfl (lv_at hl 1 rfl) ?_
  refine va_get (D := D) (ci := 6) (v := .int (sO 12 0)) (C := "BedFrontier$House") (T := T_House) (N := 15) hx hb htt i_House hown hK.1 hP 7 rfl rfl 12 (by decide) (htt _ k_113) (fun _ h9 => h9) rfl d_House_takeFrom_42 ?_
  refine va_put (D := D) (ci := 6) (v := .int (sO 12 0)) (ty := .int) (C := "BedFrontier$House") (T := T_House) (N := 15) hx hb htt i_House t_House t_House_ok n_House hown hK.1 hP hD hS 0 rfl rfl 12 (by decide) (htt _ k_113) (fun _ h9 => h9) rfl pfI rfl rfl (Nat.le_of_ble_eq_true rfl) d_House_takeFrom_45 (fun H locs hP hD hS => ?_)
  obtain ⟨sH7, e_sH7⟩ : ∃ z : PW, z = up sH6 12 (fun _ => (sO 12 0)) := ⟨_, rfl⟩
  replace hf := nmE hf e_sH7
  have hP : va_P D vwCl (L_ho ty hA oA kA sH7 sO) H := by rw [e_sH7]; exact hP
  have hD : va_D A (L_ho ty hA oA kA sH7 sO) := by rw [e_sH7]; exact hD
  refine lv_aload_n hx hb d_House_takeFrom_48 rfl (lv_at hl 0 rfl) ?_
  refine lv_aload_n hx hb d_House_takeFrom_49 rfl (lv_at hl 1 rfl) ?_
  refine va_get (D := D) (ci := 6) (v := .int (sO 13 0)) (C := "BedFrontier$House") (T := T_House) (N := 15) hx hb htt i_House hown hK.1 hP 7 rfl rfl 13 (by decide) (htt _ k_117) (fun _ h9 => h9) rfl d_House_takeFrom_50 ?_
  refine va_put (D := D) (ci := 6) (v := .int (sO 13 0)) (ty := .int) (C := "BedFrontier$House") (T := T_House) (N := 15) hx hb htt i_House t_House t_House_ok n_House hown hK.1 hP hD hS 0 rfl rfl 13 (by decide) (htt _ k_117) (fun _ h9 => h9) rfl pfI rfl rfl (Nat.le_of_ble_eq_true rfl) d_House_takeFrom_53 (fun H locs hP hD hS => ?_)
  obtain ⟨sH8, e_sH8⟩ : ∃ z : PW, z = up sH7 13 (fun _ => (sO 13 0)) := ⟨_, rfl⟩
  replace hf := nmE hf e_sH8
  have hP : va_P D vwCl (L_ho ty hA oA kA sH8 sO) H := by rw [e_sH8]; exact hP
  have hD : va_D A (L_ho ty hA oA kA sH8 sO) := by rw [e_sH8]; exact hD
  refine lv_aload_n hx hb d_House_takeFrom_56 rfl (lv_at hl 0 rfl) ?_
  refine lv_aload_n hx hb d_House_takeFrom_57 rfl (lv_at hl 1 rfl) ?_
  refine va_get (D := D) (ci := 6) (v := .int (sO 14 0)) (C := "BedFrontier$House") (T := T_House) (N := 15) hx hb htt i_House hown hK.1 hP 7 rfl rfl 14 (by decide) (htt _ k_120) (fun _ h9 => h9) rfl d_House_takeFrom_58 ?_
  refine va_put (D := D) (ci := 6) (v := .int (sO 14 0)) (ty := .int) (C := "BedFrontier$House") (T := T_House) (N := 15) hx hb htt i_House t_House t_House_ok n_House hown hK.1 hP hD hS 0 rfl rfl 14 (by decide) (htt _ k_120) (fun _ h9 => h9) rfl pfI rfl rfl (Nat.le_of_ble_eq_true rfl) d_House_takeFrom_61 (fun H locs hP hD hS => ?_)
  obtain ⟨sH9, e_sH9⟩ : ∃ z : PW, z = up sH8 14 (fun _ => (sO 14 0)) := ⟨_, rfl⟩
  replace hf := nmE hf e_sH9
  have hP : va_P D vwCl (L_ho ty hA oA kA sH9 sO) H := by rw [e_sH9]; exact hP
  have hD : va_D A (L_ho ty hA oA kA sH9 sO) := by rw [e_sH9]; exact hD
  refine lv_aload_n hx hb d_House_takeFrom_64 rfl (lv_at hl 1 rfl) ?_
  refine va_get (D := D) (ci := 6) (v := .ref (oA 2)) (C := "BedFrontier$House") (T := T_House) (N := 15) hx hb htt i_House hown hK.1 hP 7 rfl rfl 1 (by decide) (htt _ k_82) (fun _ h9 => h9) rfl d_House_takeFrom_65 ?_
  refine lv_iconst (v := (0 : Int32)) hx hb d_House_takeFrom_68 (by decide) ?_
  refine lv_aload_n hx hb d_House_takeFrom_69 rfl (lv_at hl 0 rfl) ?_
  refine va_get (D := D) (ci := 6) (v := .ref (hA 2)) (C := "BedFrontier$House") (T := T_House) (N := 15) hx hb htt i_House hown hK.1 hP 0 rfl rfl 1 (by decide) (htt _ k_82) (fun _ h9 => h9) rfl d_House_takeFrom_70 ?_
  refine lv_iconst (v := (0 : Int32)) hx hb d_House_takeFrom_73 (by decide) ?_
  refine lv_aload_n hx hb d_House_takeFrom_74 rfl (lv_at hl 0 rfl) ?_
  refine va_get (D := D) (ci := 6) (v := .ref (hA 2)) (C := "BedFrontier$House") (T := T_House) (N := 15) hx hb htt i_House hown hK.1 hP 0 rfl rfl 1 (by decide) (htt _ k_82) (fun _ h9 => h9) rfl d_House_takeFrom_75 ?_
  refine va_alen (v := (2 : Int32)) hx hb hK.1 hP 1 0 rfl rfl rfl d_House_takeFrom_78 ?_
  refine cpI (sp' := 0) (dp' := 0) (n' := 2) hx hb (hml.trans hl.1.symm) hown (htt _ k_385) (htt _ k_387) (htt _ k_386) (htt _ k_16) hK.1 hP hD hS 8 1 0 0 rfl rfl rfl rfl (by decide) (by decide) (by decide) rfl rfl rfl (Nat.le_of_ble_eq_true rfl) (Nat.le_of_ble_eq_true rfl) (by rw [hR]; decide) (by rw [hR]; exact Nat.le_of_ble_eq_true rfl) d_House_takeFrom_79 (fun H locs hP hD hS => ?_)
  obtain ⟨sH10, e_sH10⟩ : ∃ z : PW, z = up sH9 1 (va_cpy (sO 1) (sH9 1) 0 0 2) := ⟨_, rfl⟩
  replace hf := nmE hf e_sH10
  have hP : va_P D vwCl (L_ho ty hA oA kA sH10 sO) H := by rw [e_sH10]; exact hP
  have hD : va_D A (L_ho ty hA oA kA sH10 sO) := by rw [e_sH10]; exact hD
  refine lv_aload_n hx hb d_House_takeFrom_82 rfl (lv_at hl 1 rfl) ?_
  refine va_get (D := D) (ci := 6) (v := .ref (oA 3)) (C := "BedFrontier$House") (T := T_House) (N := 15) hx hb htt i_House hown hK.1 hP 7 rfl rfl 2 (by decide) (htt _ k_85) (fun _ h9 => h9) rfl d_House_takeFrom_83 ?_
  refine lv_iconst (v := (0 : Int32)) hx hb d_House_takeFrom_86 (by decide) ?_
  refine lv_aload_n hx hb d_House_takeFrom_87 rfl (lv_at hl 0 rfl) ?_
  refine va_get (D := D) (ci := 6) (v := .ref (hA 3)) (C := "BedFrontier$House") (T := T_House) (N := 15) hx hb htt i_House hown hK.1 hP 0 rfl rfl 2 (by decide) (htt _ k_85) (fun _ h9 => h9) rfl d_House_takeFrom_88 ?_
  refine lv_iconst (v := (0 : Int32)) hx hb d_House_takeFrom_91 (by decide) ?_
  refine lv_aload_n hx hb d_House_takeFrom_92 rfl (lv_at hl 0 rfl) ?_
  refine va_get (D := D) (ci := 6) (v := .ref (hA 3)) (C := "BedFrontier$House") (T := T_House) (N := 15) hx hb htt i_House hown hK.1 hP 0 rfl rfl 2 (by decide) (htt _ k_85) (fun _ h9 => h9) rfl d_House_takeFrom_93 ?_
  refine va_alen (v := (2 : Int32)) hx hb hK.1 hP 2 0 rfl rfl rfl d_House_takeFrom_96 ?_
  refine cpI (sp' := 0) (dp' := 0) (n' := 2) hx hb (hml.trans hl.1.symm) hown (htt _ k_385) (htt _ k_387) (htt _ k_386) (htt _ k_16) hK.1 hP hD hS 9 2 0 0 rfl rfl rfl rfl (by decide) (by decide) (by decide) rfl rfl rfl (Nat.le_of_ble_eq_true rfl) (Nat.le_of_ble_eq_true rfl) (by rw [hR]; decide) (by rw [hR]; exact Nat.le_of_ble_eq_true rfl) d_House_takeFrom_97 (fun H locs hP hD hS => ?_)
  obtain ⟨sH11, e_sH11⟩ : ∃ z : PW, z = up sH10 2 (va_cpy (sO 2) (sH10 2) 0 0 2) := ⟨_, rfl⟩
  replace hf := nmE hf e_sH11
  have hP : va_P D vwCl (L_ho ty hA oA kA sH11 sO) H := by rw [e_sH11]; exact hP
  have hD : va_D A (L_ho ty hA oA kA sH11 sO) := by rw [e_sH11]; exact hD
  refine lv_aload_n hx hb d_House_takeFrom_100 rfl (lv_at hl 1 rfl) ?_
  refine va_get (D := D) (ci := 6) (v := .ref (oA 4)) (C := "BedFrontier$House") (T := T_House) (N := 15) hx hb htt i_House hown hK.1 hP 7 rfl rfl 3 (by decide) (htt _ k_88) (fun _ h9 => h9) rfl d_House_takeFrom_101 ?_
  refine lv_iconst (v := (0 : Int32)) hx hb d_House_takeFrom_104 (by decide) ?_
  refine lv_aload_n hx hb d_House_takeFrom_105 rfl (lv_at hl 0 rfl) ?_
  refine va_get (D := D) (ci := 6) (v := .ref (hA 4)) (C := "BedFrontier$House") (T := T_House) (N := 15) hx hb htt i_House hown hK.1 hP 0 rfl rfl 3 (by decide) (htt _ k_88) (fun _ h9 => h9) rfl d_House_takeFrom_106 ?_
  refine lv_iconst (v := (0 : Int32)) hx hb d_House_takeFrom_109 (by decide) ?_
  refine lv_aload_n hx hb d_House_takeFrom_110 rfl (lv_at hl 0 rfl) ?_
  refine va_get (D := D) (ci := 6) (v := .ref (hA 4)) (C := "BedFrontier$House") (T := T_House) (N := 15) hx hb htt i_House hown hK.1 hP 0 rfl rfl 3 (by decide) (htt _ k_88) (fun _ h9 => h9) rfl d_House_takeFrom_111 ?_
  refine va_alen (v := (6 : Int32)) hx hb hK.1 hP 3 0 rfl rfl rfl d_House_takeFrom_114 ?_
  refine cpI (sp' := 0) (dp' := 0) (n' := 6) hx hb (hml.trans hl.1.symm) hown (htt _ k_385) (htt _ k_387) (htt _ k_386) (htt _ k_16) hK.1 hP hD hS 10 3 0 0 rfl rfl rfl rfl (by decide) (by decide) (by decide) rfl rfl rfl (Nat.le_of_ble_eq_true rfl) (Nat.le_of_ble_eq_true rfl) (by rw [hR]; decide) (by rw [hR]; exact Nat.le_of_ble_eq_true rfl) d_House_takeFrom_115 (fun H locs hP hD hS => ?_)
  obtain ⟨sH12, e_sH12⟩ : ∃ z : PW, z = up sH11 3 (va_cpy (sO 3) (sH11 3) 0 0 6) := ⟨_, rfl⟩
  replace hf := nmE hf e_sH12
  have hP : va_P D vwCl (L_ho ty hA oA kA sH12 sO) H := by rw [e_sH12]; exact hP
  have hD : va_D A (L_ho ty hA oA kA sH12 sO) := by rw [e_sH12]; exact hD
  refine lv_aload_n hx hb d_House_takeFrom_118 rfl (lv_at hl 1 rfl) ?_
  refine va_get (D := D) (ci := 6) (v := .ref (oA 5)) (C := "BedFrontier$House") (T := T_House) (N := 15) hx hb htt i_House hown hK.1 hP 7 rfl rfl 4 (by decide) (htt _ k_91) (fun _ h9 => h9) rfl d_House_takeFrom_119 ?_
  refine lv_iconst (v := (0 : Int32)) hx hb d_House_takeFrom_122 (by decide) ?_
  refine lv_aload_n hx hb d_House_takeFrom_123 rfl (lv_at hl 0 rfl) ?_
  refine va_get (D := D) (ci := 6) (v := .ref (hA 5)) (C := "BedFrontier$House") (T := T_House) (N := 15) hx hb htt i_House hown hK.1 hP 0 rfl rfl 4 (by decide) (htt _ k_91) (fun _ h9 => h9) rfl d_House_takeFrom_124 ?_
  refine lv_iconst (v := (0 : Int32)) hx hb d_House_takeFrom_127 (by decide) ?_
  refine lv_aload_n hx hb d_House_takeFrom_128 rfl (lv_at hl 0 rfl) ?_
  refine va_get (D := D) (ci := 6) (v := .ref (hA 5)) (C := "BedFrontier$House") (T := T_House) (N := 15) hx hb htt i_House hown hK.1 hP 0 rfl rfl 4 (by decide) (htt _ k_91) (fun _ h9 => h9) rfl d_House_takeFrom_129 ?_
  refine va_alen (v := (6 : Int32)) hx hb hK.1 hP 4 0 rfl rfl rfl d_House_takeFrom_132 ?_
  refine cpI (sp' := 0) (dp' := 0) (n' := 6) hx hb (hml.trans hl.1.symm) hown (htt _ k_385) (htt _ k_387) (htt _ k_386) (htt _ k_16) hK.1 hP hD hS 11 4 0 0 rfl rfl rfl rfl (by decide) (by decide) (by decide) rfl rfl rfl (Nat.le_of_ble_eq_true rfl) (Nat.le_of_ble_eq_true rfl) (by rw [hR]; decide) (by rw [hR]; exact Nat.le_of_ble_eq_true rfl) d_House_takeFrom_133 (fun H locs hP hD hS => ?_)
  obtain ⟨sH13, e_sH13⟩ : ∃ z : PW, z = up sH12 4 (va_cpy (sO 4) (sH12 4) 0 0 6) := ⟨_, rfl⟩
  replace hf := nmE hf e_sH13
  have hP : va_P D vwCl (L_ho ty hA oA kA sH13 sO) H := by rw [e_sH13]; exact hP
  have hD : va_D A (L_ho ty hA oA kA sH13 sO) := by rw [e_sH13]; exact hD
  refine lv_aload_n hx hb d_House_takeFrom_136 rfl (lv_at hl 1 rfl) ?_
  refine va_get (D := D) (ci := 6) (v := .ref (oA 6)) (C := "BedFrontier$House") (T := T_House) (N := 15) hx hb htt i_House hown hK.1 hP 7 rfl rfl 5 (by decide) (htt _ k_93) (fun _ h9 => h9) rfl d_House_takeFrom_137 ?_
  refine lv_iconst (v := (0 : Int32)) hx hb d_House_takeFrom_140 (by decide) ?_
  refine lv_aload_n hx hb d_House_takeFrom_141 rfl (lv_at hl 0 rfl) ?_
  refine va_get (D := D) (ci := 6) (v := .ref (hA 6)) (C := "BedFrontier$House") (T := T_House) (N := 15) hx hb htt i_House hown hK.1 hP 0 rfl rfl 5 (by decide) (htt _ k_93) (fun _ h9 => h9) rfl d_House_takeFrom_142 ?_
  refine lv_iconst (v := (0 : Int32)) hx hb d_House_takeFrom_145 (by decide) ?_
  refine lv_aload_n hx hb d_House_takeFrom_146 rfl (lv_at hl 0 rfl) ?_
  refine va_get (D := D) (ci := 6) (v := .ref (hA 6)) (C := "BedFrontier$House") (T := T_House) (N := 15) hx hb htt i_House hown hK.1 hP 0 rfl rfl 5 (by decide) (htt _ k_93) (fun _ h9 => h9) rfl d_House_takeFrom_147 ?_
  refine va_alen (v := (30 : Int32)) hx hb hK.1 hP 5 0 rfl rfl rfl d_House_takeFrom_150 ?_
  refine cpI (sp' := 0) (dp' := 0) (n' := 30) hx hb (hml.trans hl.1.symm) hown (htt _ k_385) (htt _ k_387) (htt _ k_386) (htt _ k_16) hK.1 hP hD hS 12 5 0 0 rfl rfl rfl rfl (by decide) (by decide) (by decide) rfl rfl rfl (Nat.le_of_ble_eq_true rfl) (Nat.le_of_ble_eq_true rfl) (by rw [hR]; decide) (by rw [hR]; exact Nat.le_of_ble_eq_true rfl) d_House_takeFrom_151 (fun H locs hP hD hS => ?_)
  obtain ⟨sH14, e_sH14⟩ : ∃ z : PW, z = up sH13 5 (va_cpy (sO 5) (sH13 5) 0 0 30) := ⟨_, rfl⟩
  replace hf := nmE hf e_sH14
  have hP : va_P D vwCl (L_ho ty hA oA kA sH14 sO) H := by rw [e_sH14]; exact hP
  have hD : va_D A (L_ho ty hA oA kA sH14 sO) := by rw [e_sH14]; exact hD
  refine lv_aload_n hx hb d_House_takeFrom_154 rfl (lv_at hl 1 rfl) ?_
  refine va_get (D := D) (ci := 6) (v := .ref (oA 7)) (C := "BedFrontier$House") (T := T_House) (N := 15) hx hb htt i_House hown hK.1 hP 7 rfl rfl 6 (by decide) (htt _ k_95) (fun _ h9 => h9) rfl d_House_takeFrom_155 ?_
  refine lv_iconst (v := (0 : Int32)) hx hb d_House_takeFrom_158 (by decide) ?_
  refine lv_aload_n hx hb d_House_takeFrom_159 rfl (lv_at hl 0 rfl) ?_
  refine va_get (D := D) (ci := 6) (v := .ref (hA 7)) (C := "BedFrontier$House") (T := T_House) (N := 15) hx hb htt i_House hown hK.1 hP 0 rfl rfl 6 (by decide) (htt _ k_95) (fun _ h9 => h9) rfl d_House_takeFrom_160 ?_
  refine lv_iconst (v := (0 : Int32)) hx hb d_House_takeFrom_163 (by decide) ?_
  refine lv_aload_n hx hb d_House_takeFrom_164 rfl (lv_at hl 0 rfl) ?_
  refine va_get (D := D) (ci := 6) (v := .ref (hA 7)) (C := "BedFrontier$House") (T := T_House) (N := 15) hx hb htt i_House hown hK.1 hP 0 rfl rfl 6 (by decide) (htt _ k_95) (fun _ h9 => h9) rfl d_House_takeFrom_165 ?_
  refine va_alen (v := (32 : Int32)) hx hb hK.1 hP 6 0 rfl rfl rfl d_House_takeFrom_168 ?_
  refine cpI (sp' := 0) (dp' := 0) (n' := 32) hx hb (hml.trans hl.1.symm) hown (htt _ k_385) (htt _ k_387) (htt _ k_386) (htt _ k_16) hK.1 hP hD hS 13 6 0 0 rfl rfl rfl rfl (by decide) (by decide) (by decide) rfl rfl rfl (Nat.le_of_ble_eq_true rfl) (Nat.le_of_ble_eq_true rfl) (by rw [hR]; decide) (by rw [hR]; exact Nat.le_of_ble_eq_true rfl) d_House_takeFrom_169 (fun H locs hP hD hS => ?_)
  obtain ⟨sH15, e_sH15⟩ : ∃ z : PW, z = up sH14 6 (va_cpy (sO 6) (sH14 6) 0 0 32) := ⟨_, rfl⟩
  replace hf := nmE hf e_sH15
  have hP : va_P D vwCl (L_ho ty hA oA kA sH15 sO) H := by rw [e_sH15]; exact hP
  have hD : va_D A (L_ho ty hA oA kA sH15 sO) := by rw [e_sH15]; exact hD
  obtain rfl := sj1 hf
  exact retMv C0 hQ hP hD hS d_House_takeFrom_172
