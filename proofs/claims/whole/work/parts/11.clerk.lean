def f_Clerk_hoursBothBar_L4 (a1 : Int32) (sH : PW) (K4 : Int32 × Int32 → Option (Int32)) : Int32 × Int32 → Option (Int32)
  | (x1, x2) =>
  (if (24 : Int32) ≤ x2 then some x1 else bd (f_House_lets sH a1 (0 : Int32) x2) (fun x4 => (if x4 = 0 then bd (f_House_lets sH a1 (1 : Int32) x2) (fun x8 => (if x8 = 0 then nm (x1 ||| ((1 : Int32) <<< (x2 &&& 31))) (fun x12 => nm (x2 + (1 : Int32)) (fun x13 => K4 (x12, x13))) else nm (x2 + (1 : Int32)) (fun x11 => K4 (x1, x11)))) else nm (x2 + (1 : Int32)) (fun x7 => K4 (x1, x7)))))
def f_Clerk_hoursBothBar (sC : PW) (sH : PW) (a1 : Int32) : Option (Int32) :=
  loopF (f_Clerk_hoursBothBar_L4 a1 sH) 4000 ((0 : Int32), (0 : Int32))
set_option maxHeartbeats 4000000 in
set_option maxRecDepth 100000 in
theorem c_Clerk_hoursBothBar (l : Launch) (D : va_G) (ty : Nat → ClassId) (cA hA kA : Nat → Nat) (sC : PW) (sH : PW) (a1 : Int32) (rr : Int32) (hf : f_Clerk_hoursBothBar sC sH a1 = some rr) : Met l y_Clerk_hoursBothBar (Cond.code y_Clerk_hoursBothBar prog_3_method_2_code 4 ((Option.some FieldType.int)) :: lw_ok) { frames := 6, cells := 0, slots := 0, locals := 166 } (PcR D ty [.ref (cA 0), .int a1] (L_chk ty cA hA kA sC sH)) (QR (some (.int rr))) 0 0 (fun _ => False) := by
  refine hdR (by decide) (Nat.le_of_ble_eq_true rfl) ?_
  intro p e s m below meth c ls R args Q C0 hR hQ hP hK hl
  obtain ⟨hx, hb, hr, hlk, hml, hown, htt⟩ := id C0
  have hl : lv_has ls 4 [(0, .ref (cA 0)), (1, .int a1)] := hl
  unfold f_Clerk_hoursBothBar at hf
  refine lv_iconst (v := (0 : Int32)) hx hb d_Clerk_hoursBothBar_0 (by decide) ?_
  refine lv_istore_n (lv' := [(2, .int (0 : Int32)), (0, .ref (cA 0)), (1, .int a1)]) hx hb d_Clerk_hoursBothBar_1 rfl hl (by decide) rfl (fun ls hl => ?_)
  refine lv_iconst (v := (0 : Int32)) hx hb d_Clerk_hoursBothBar_2 (by decide) ?_
  refine lv_istore_n (lv' := [(3, .int (0 : Int32)), (2, .int (0 : Int32)), (0, .ref (cA 0)), (1, .int a1)]) hx hb d_Clerk_hoursBothBar_3 rfl hl (by decide) rfl (fun ls hl => ?_)
  have B4 : ∀ (n : Nat) (x : Int32 × Int32), loopF (f_Clerk_hoursBothBar_L4 a1 sH) n x = some rr → ∀ ls : Array Slot, lv_has ls 4 [(0, .ref (cA 0)), (1, .int a1), (2, .int (x.1)), (3, .int (x.2))] → W p l e R s m args below meth c s.heap [] 0 0 Q (F0 m 4 ls []) := by
    refine loopW (fun (x : Int32 × Int32) => ∀ ls : Array Slot, lv_has ls 4 [(0, .ref (cA 0)), (1, .int a1), (2, .int (x.1)), (3, .int (x.2))] → W p l e R s m args below meth c s.heap [] 0 0 Q (F0 m 4 ls [])) ?_
    intro K4 hK4 x hf
    obtain ⟨x1, x2⟩ := x
    rw [f_Clerk_hoursBothBar_L4] at hf
    intro ls hl
    have hl : lv_has ls 4 [(0, .ref (cA 0)), (1, .int a1), (2, .int x1), (3, .int x2)] := hl
    show W p l e R s m args below meth c s.heap [] 0 0 Q (F0 m 4 ls [])
    refine lv_iload_n hx hb d_Clerk_hoursBothBar_4 rfl (lv_at hl 3 rfl) ?_
    refine lv_bipush (v := (24 : Int32)) hx hb d_Clerk_hoursBothBar_5 (by decide) ?_
    refine lv_icmp_ge (tgt := 48) hx hb d_Clerk_hoursBothBar_7 (by decide) (fun c3 => ?_) (fun c3 => ?_)
    · replace hf := iteT c3 hf
      refine lv_iload_n hx hb d_Clerk_hoursBothBar_48 rfl (lv_at hl 2 rfl) ?_
      obtain rfl := sj1 hf
      exact retR C0 (narI _) hQ d_Clerk_hoursBothBar_49
    · replace hf := iteF c3 hf
      refine lv_aload_n hx hb d_Clerk_hoursBothBar_10 rfl (lv_at hl 0 rfl) ?_
      refine va_get (D := D) (ci := 8) (v := .ref (hA 0)) (C := "BedFrontier$Clerk") (T := T_Clerk) (N := 2) hx hb htt i_Clerk hown hK.1 hP 0 rfl rfl 0 (by decide) (htt _ k_191) (fun _ h9 => h9) rfl d_Clerk_hoursBothBar_11 ?_
      refine lv_iload_n hx hb d_Clerk_hoursBothBar_14 rfl (lv_at hl 1 rfl) ?_
      refine lv_iconst (v := (0 : Int32)) hx hb d_Clerk_hoursBothBar_15 (by decide) ?_
      refine lv_iload_n hx hb d_Clerk_hoursBothBar_16 rfl (lv_at hl 3 rfl) ?_
      obtain ⟨x4, h5, hf⟩ := bdE hf
      refine vR (q0 := 0) (ci := 6) (rest := []) C0 (c_House_lets l D ty hA kA sH a1 (0 : Int32) x2 x4 h5) k_518 cal_House_lets hK (hP.sub (ws' := (L_hk ty hA kA sH)) [2, 3, 4, 5, 6, 7, 8, 9, 10, 11, 12, 13, 14, 15] rfl) rfl rfl rfl ⟨by rw [hR]; decide, by rw [hR]; decide⟩ rfl rfl rfl hl.1 rfl (Nat.le_of_ble_eq_true rfl) d_Clerk_hoursBothBar_17 ⟨Nat.zero_le _, Nat.zero_le _⟩ rfl ?_
      refine lv_if_ne (tgt := 42) hx hb d_Clerk_hoursBothBar_20 (by decide) (fun c6 => ?_) (fun c6 => ?_)
      · replace hf := iteF c6 hf
        obtain ⟨x7, e_x7⟩ : ∃ z : Int32, z = (x2 + (1 : Int32)) := ⟨_, rfl⟩
        replace hf := nmE hf e_x7
        refine lv_iinc (v := x7) (lv' := [(3, .int x7), (0, .ref (cA 0)), (1, .int a1), (2, .int x1)]) hx hb d_Clerk_hoursBothBar_42 hl (k := 3) rfl (by rw [e_x7]; rfl) (by decide) rfl (fun ls hl => ?_)
        refine lv_goto (tgt := 4) hx hb d_Clerk_hoursBothBar_45 (by decide) ?_
        exact hK4 (x1, x7) hf ls (lv_sub hl [1, 2, 3, 0] rfl)
      · replace hf := iteT c6 hf
        refine lv_aload_n hx hb d_Clerk_hoursBothBar_23 rfl (lv_at hl 0 rfl) ?_
        refine va_get (D := D) (ci := 8) (v := .ref (hA 0)) (C := "BedFrontier$Clerk") (T := T_Clerk) (N := 2) hx hb htt i_Clerk hown hK.1 hP 0 rfl rfl 0 (by decide) (htt _ k_191) (fun _ h9 => h9) rfl d_Clerk_hoursBothBar_24 ?_
        refine lv_iload_n hx hb d_Clerk_hoursBothBar_27 rfl (lv_at hl 1 rfl) ?_
        refine lv_iconst (v := (1 : Int32)) hx hb d_Clerk_hoursBothBar_28 (by decide) ?_
        refine lv_iload_n hx hb d_Clerk_hoursBothBar_29 rfl (lv_at hl 3 rfl) ?_
        obtain ⟨x8, h9, hf⟩ := bdE hf
        refine vR (q0 := 0) (ci := 6) (rest := []) C0 (c_House_lets l D ty hA kA sH a1 (1 : Int32) x2 x8 h9) k_518 cal_House_lets hK (hP.sub (ws' := (L_hk ty hA kA sH)) [2, 3, 4, 5, 6, 7, 8, 9, 10, 11, 12, 13, 14, 15] rfl) rfl rfl rfl ⟨by rw [hR]; decide, by rw [hR]; decide⟩ rfl rfl rfl hl.1 rfl (Nat.le_of_ble_eq_true rfl) d_Clerk_hoursBothBar_30 ⟨Nat.zero_le _, Nat.zero_le _⟩ rfl ?_
        refine lv_if_ne (tgt := 42) hx hb d_Clerk_hoursBothBar_33 (by decide) (fun c10 => ?_) (fun c10 => ?_)
        · replace hf := iteF c10 hf
          obtain ⟨x11, e_x11⟩ : ∃ z : Int32, z = (x2 + (1 : Int32)) := ⟨_, rfl⟩
          replace hf := nmE hf e_x11
          refine lv_iinc (v := x11) (lv' := [(3, .int x11), (0, .ref (cA 0)), (1, .int a1), (2, .int x1)]) hx hb d_Clerk_hoursBothBar_42 hl (k := 3) rfl (by rw [e_x11]; rfl) (by decide) rfl (fun ls hl => ?_)
          refine lv_goto (tgt := 4) hx hb d_Clerk_hoursBothBar_45 (by decide) ?_
          exact hK4 (x1, x11) hf ls (lv_sub hl [1, 2, 3, 0] rfl)
        · replace hf := iteT c10 hf
          refine lv_iload_n hx hb d_Clerk_hoursBothBar_36 rfl (lv_at hl 2 rfl) ?_
          refine lv_iconst (v := (1 : Int32)) hx hb d_Clerk_hoursBothBar_37 (by decide) ?_
          refine lv_iload_n hx hb d_Clerk_hoursBothBar_38 rfl (lv_at hl 3 rfl) ?_
          refine lv_ishl hx hb d_Clerk_hoursBothBar_39 ?_
          refine lv_ior hx hb d_Clerk_hoursBothBar_40 ?_
          refine lv_topi (fun x12 e_x12 => ?_)
          replace hf := nmE hf e_x12
          refine lv_istore_n (lv' := [(2, .int x12), (0, .ref (cA 0)), (1, .int a1), (3, .int x2)]) hx hb d_Clerk_hoursBothBar_41 rfl hl (by decide) rfl (fun ls hl => ?_)
          obtain ⟨x13, e_x13⟩ : ∃ z : Int32, z = (x2 + (1 : Int32)) := ⟨_, rfl⟩
          replace hf := nmE hf e_x13
          refine lv_iinc (v := x13) (lv' := [(3, .int x13), (2, .int x12), (0, .ref (cA 0)), (1, .int a1)]) hx hb d_Clerk_hoursBothBar_42 hl (k := 3) rfl (by rw [e_x13]; rfl) (by decide) rfl (fun ls hl => ?_)
          refine lv_goto (tgt := 4) hx hb d_Clerk_hoursBothBar_45 (by decide) ?_
          exact hK4 (x12, x13) hf ls (lv_sub hl [2, 3, 1, 0] rfl)
  exact B4 4000 ((0 : Int32), (0 : Int32)) hf ls (lv_sub hl [2, 3, 1, 0] rfl)
def f_Clerk_firstFromNow_L2 (a1 : Int32) (sH : PW) (K2 : Int32 → Option (Int32)) : Int32 → Option (Int32)
  | x1 =>
  (if (24 : Int32) ≤ x1 then some (-1 : Int32) else nm (((sH 10 0) + x1) - ((sH 10 0) + x1) / (24 : Int32) * (24 : Int32)) (fun x3 => (if ((a1 >>> (x3 &&& 31)) &&& (1 : Int32)) = (1 : Int32) then some x3 else nm (x1 + (1 : Int32)) (fun x5 => K2 x5))))
def f_Clerk_firstFromNow (sC : PW) (sH : PW) (a1 : Int32) : Option (Int32) :=
  loopF (f_Clerk_firstFromNow_L2 a1 sH) 4000 (0 : Int32)
set_option maxHeartbeats 4000000 in
set_option maxRecDepth 100000 in
theorem c_Clerk_firstFromNow (l : Launch) (D : va_G) (ty : Nat → ClassId) (cA hA kA : Nat → Nat) (sC : PW) (sH : PW) (a1 : Int32) (rr : Int32) (hf : f_Clerk_firstFromNow sC sH a1 = some rr) : Met l y_Clerk_firstFromNow (Cond.code y_Clerk_firstFromNow prog_3_method_3_code 4 ((Option.some FieldType.int)) :: lw_ok) { frames := 0, cells := 0, slots := 0, locals := 0 } (PcR D ty [.ref (cA 0), .int a1] (L_ch ty cA hA kA sC sH)) (QR (some (.int rr))) 0 0 (fun _ => False) := by
  refine hdR (by decide) (Nat.le_of_ble_eq_true rfl) ?_
  intro p e s m below meth c ls R args Q C0 hR hQ hP hK hl
  obtain ⟨hx, hb, hr, hlk, hml, hown, htt⟩ := id C0
  have hl : lv_has ls 4 [(0, .ref (cA 0)), (1, .int a1)] := hl
  unfold f_Clerk_firstFromNow at hf
  refine lv_iconst (v := (0 : Int32)) hx hb d_Clerk_firstFromNow_0 (by decide) ?_
  refine lv_istore_n (lv' := [(2, .int (0 : Int32)), (0, .ref (cA 0)), (1, .int a1)]) hx hb d_Clerk_firstFromNow_1 rfl hl (by decide) rfl (fun ls hl => ?_)
  have B2 : ∀ (n : Nat) (x : Int32), loopF (f_Clerk_firstFromNow_L2 a1 sH) n x = some rr → ∀ ls : Array Slot, lv_has ls 4 [(0, .ref (cA 0)), (1, .int a1), (2, .int x)] → W p l e R s m args below meth c s.heap [] 0 0 Q (F0 m 2 ls []) := by
    refine loopW (fun (x : Int32) => ∀ ls : Array Slot, lv_has ls 4 [(0, .ref (cA 0)), (1, .int a1), (2, .int x)] → W p l e R s m args below meth c s.heap [] 0 0 Q (F0 m 2 ls [])) ?_
    intro K2 hK2 x1 hf
    rw [f_Clerk_firstFromNow_L2] at hf
    intro ls hl
    have hl : lv_has ls 4 [(0, .ref (cA 0)), (1, .int a1), (2, .int x1)] := hl
    show W p l e R s m args below meth c s.heap [] 0 0 Q (F0 m 2 ls [])
    refine lv_iload_n hx hb d_Clerk_firstFromNow_2 rfl (lv_at hl 2 rfl) ?_
    refine lv_bipush (v := (24 : Int32)) hx hb d_Clerk_firstFromNow_3 (by decide) ?_
    refine lv_icmp_ge (tgt := 38) hx hb d_Clerk_firstFromNow_5 (by decide) (fun c2 => ?_) (fun c2 => ?_)
    · replace hf := iteT c2 hf
      refine lv_iconst (v := (-1 : Int32)) hx hb d_Clerk_firstFromNow_38 (by decide) ?_
      obtain rfl := sj1 hf
      exact retR C0 (narI _) hQ d_Clerk_firstFromNow_39
    · replace hf := iteF c2 hf
      refine lv_aload_n hx hb d_Clerk_firstFromNow_8 rfl (lv_at hl 0 rfl) ?_
      refine va_get (D := D) (ci := 8) (v := .ref (hA 0)) (C := "BedFrontier$Clerk") (T := T_Clerk) (N := 2) hx hb htt i_Clerk hown hK.1 hP 0 rfl rfl 0 (by decide) (htt _ k_191) (fun _ h9 => h9) rfl d_Clerk_firstFromNow_9 ?_
      refine va_get (D := D) (ci := 6) (v := .int (sH 10 0)) (C := "BedFrontier$House") (T := T_House) (N := 15) hx hb htt i_House hown hK.1 hP 2 rfl rfl 10 (by decide) (htt _ k_108) (fun _ h9 => h9) rfl d_Clerk_firstFromNow_12 ?_
      refine lv_iload_n hx hb d_Clerk_firstFromNow_15 rfl (lv_at hl 2 rfl) ?_
      refine lv_iadd hx hb d_Clerk_firstFromNow_16 ?_
      refine lv_bipush (v := (24 : Int32)) hx hb d_Clerk_firstFromNow_17 (by decide) ?_
      refine lv_irem hx hb d_Clerk_firstFromNow_19 (by decide) ?_
      refine lv_topi (fun x3 e_x3 => ?_)
      replace hf := nmE hf e_x3
      refine lv_istore_n (lv' := [(3, .int x3), (0, .ref (cA 0)), (1, .int a1), (2, .int x1)]) hx hb d_Clerk_firstFromNow_20 rfl hl (by decide) rfl (fun ls hl => ?_)
      refine lv_iload_n hx hb d_Clerk_firstFromNow_21 rfl (lv_at hl 2 rfl) ?_
      refine lv_iload_n hx hb d_Clerk_firstFromNow_22 rfl (lv_at hl 0 rfl) ?_
      refine lv_ishr hx hb d_Clerk_firstFromNow_23 ?_
      refine lv_iconst (v := (1 : Int32)) hx hb d_Clerk_firstFromNow_24 (by decide) ?_
      refine lv_iand hx hb d_Clerk_firstFromNow_25 ?_
      refine lv_iconst (v := (1 : Int32)) hx hb d_Clerk_firstFromNow_26 (by decide) ?_
      refine lv_icmp_ne (tgt := 32) hx hb d_Clerk_firstFromNow_27 (by decide) (fun c4 => ?_) (fun c4 => ?_)
      · replace hf := iteF c4 hf
        obtain ⟨x5, e_x5⟩ : ∃ z : Int32, z = (x1 + (1 : Int32)) := ⟨_, rfl⟩
        replace hf := nmE hf e_x5
        refine lv_iinc (v := x5) (lv' := [(2, .int x5), (3, .int x3), (0, .ref (cA 0)), (1, .int a1)]) hx hb d_Clerk_firstFromNow_32 hl (k := 3) rfl (by rw [e_x5]; rfl) (by decide) rfl (fun ls hl => ?_)
        refine lv_goto (tgt := 2) hx hb d_Clerk_firstFromNow_35 (by decide) ?_
        exact hK2 x5 hf ls (lv_sub hl [2, 3, 0] rfl)
      · replace hf := iteT c4 hf
        refine lv_iload_n hx hb d_Clerk_firstFromNow_30 rfl (lv_at hl 0 rfl) ?_
        obtain rfl := sj1 hf
        exact retR C0 (narI _) hQ d_Clerk_firstFromNow_31
  exact B2 4000 (0 : Int32) hf ls (lv_sub hl [1, 2, 0] rfl)
def f_Clerk_cellsOfHers (a1 : Int32) : Option (Int32) :=
  some (if (0 : Int32) < (if ((a1 + (3 : Int32)) - (5 : Int32)) < (3 : Int32) then ((a1 + (3 : Int32)) - (5 : Int32)) else (3 : Int32)) then (if ((a1 + (3 : Int32)) - (5 : Int32)) < (3 : Int32) then ((a1 + (3 : Int32)) - (5 : Int32)) else (3 : Int32)) else (0 : Int32))
set_option maxHeartbeats 4000000 in
set_option maxRecDepth 100000 in
theorem c_Clerk_cellsOfHers (l : Launch) (D : va_G) (ty : Nat → ClassId) (a1 : Int32) (rr : Int32) (hf : f_Clerk_cellsOfHers a1 = some rr) : Met l y_Clerk_cellsOfHers (Cond.code y_Clerk_cellsOfHers prog_3_method_4_code 1 ((Option.some FieldType.int)) :: lw_ok) { frames := 1, cells := 0, slots := 0, locals := 40 } (PcR D ty [.int a1] ([] : va_W)) (QR (some (.int rr))) 0 0 (fun _ => False) := by
  refine hdR (by decide) (Nat.le_of_ble_eq_true rfl) ?_
  intro p e s m below meth c ls R args Q C0 hR hQ hP hK hl
  obtain ⟨hx, hb, hr, hlk, hml, hown, htt⟩ := id C0
  have hl : lv_has ls 1 [(0, .int a1)] := hl
  unfold f_Clerk_cellsOfHers at hf
  refine lv_iconst (v := (0 : Int32)) hx hb d_Clerk_cellsOfHers_0 (by decide) ?_
  refine lv_iconst (v := (3 : Int32)) hx hb d_Clerk_cellsOfHers_1 (by decide) ?_
  refine lv_iload_n hx hb d_Clerk_cellsOfHers_2 rfl (lv_at hl 0 rfl) ?_
  refine lv_iconst (v := (3 : Int32)) hx hb d_Clerk_cellsOfHers_3 (by decide) ?_
  refine lv_iadd hx hb d_Clerk_cellsOfHers_4 ?_
  refine lv_iconst (v := (5 : Int32)) hx hb d_Clerk_cellsOfHers_5 (by decide) ?_
  refine lv_isub hx hb d_Clerk_cellsOfHers_6 ?_
  refine va_mmin hx hb (hml.trans hl.1.symm) hown (htt _ k_602) (htt _ k_577) (htt _ k_17) (htt _ kMmin) (by rw [hR]; decide) (by rw [hR]; exact Nat.le_of_ble_eq_true rfl) (Nat.zero_le _) (Nat.zero_le _) d_Clerk_cellsOfHers_7 ?_
  refine va_mmax hx hb (hml.trans hl.1.symm) hown (htt _ k_603) (htt _ k_456) (htt _ k_17) (htt _ kMmax) (by rw [hR]; decide) (by rw [hR]; exact Nat.le_of_ble_eq_true rfl) (Nat.zero_le _) (Nat.zero_le _) d_Clerk_cellsOfHers_10 ?_
  obtain rfl := sj1 hf
  exact retR C0 (narI _) hQ d_Clerk_cellsOfHers_13
def f_Clerk_priceOfCell (sC : PW) (sH : PW) (a1 : Int32) (a2 : Int32) : Option (Int32) :=
  bd (f_House_lets sH a1 a2 (sH 10 0)) (fun x1 => (if x1 = 0 then some (99 : Int32) else bd (f_House_owed sH a1 a2 (sH 10 0)) (fun x4 => some x4)))
set_option maxHeartbeats 4000000 in
set_option maxRecDepth 100000 in
theorem c_Clerk_priceOfCell (l : Launch) (D : va_G) (ty : Nat → ClassId) (cA hA kA : Nat → Nat) (sC : PW) (sH : PW) (a1 : Int32) (a2 : Int32) (rr : Int32) (hf : f_Clerk_priceOfCell sC sH a1 a2 = some rr) : Met l y_Clerk_priceOfCell (Cond.code y_Clerk_priceOfCell prog_3_method_6_code 3 ((Option.some FieldType.int)) :: lw_ok) { frames := 6, cells := 0, slots := 0, locals := 166 } (PcR D ty [.ref (cA 0), .int a1, .int a2] (L_chk ty cA hA kA sC sH)) (QR (some (.int rr))) 0 0 (fun _ => False) := by
  refine hdR (by decide) (Nat.le_of_ble_eq_true rfl) ?_
  intro p e s m below meth c ls R args Q C0 hR hQ hP hK hl
  obtain ⟨hx, hb, hr, hlk, hml, hown, htt⟩ := id C0
  have hl : lv_has ls 3 [(0, .ref (cA 0)), (1, .int a1), (2, .int a2)] := hl
  unfold f_Clerk_priceOfCell at hf
  refine lv_aload_n hx hb d_Clerk_priceOfCell_0 rfl (lv_at hl 0 rfl) ?_
  refine va_get (D := D) (ci := 8) (v := .ref (hA 0)) (C := "BedFrontier$Clerk") (T := T_Clerk) (N := 2) hx hb htt i_Clerk hown hK.1 hP 0 rfl rfl 0 (by decide) (htt _ k_191) (fun _ h9 => h9) rfl d_Clerk_priceOfCell_1 ?_
  refine lv_iload_n hx hb d_Clerk_priceOfCell_4 rfl (lv_at hl 1 rfl) ?_
  refine lv_iload_n hx hb d_Clerk_priceOfCell_5 rfl (lv_at hl 2 rfl) ?_
  refine lv_aload_n hx hb d_Clerk_priceOfCell_6 rfl (lv_at hl 0 rfl) ?_
  refine va_get (D := D) (ci := 8) (v := .ref (hA 0)) (C := "BedFrontier$Clerk") (T := T_Clerk) (N := 2) hx hb htt i_Clerk hown hK.1 hP 0 rfl rfl 0 (by decide) (htt _ k_191) (fun _ h9 => h9) rfl d_Clerk_priceOfCell_7 ?_
  refine va_get (D := D) (ci := 6) (v := .int (sH 10 0)) (C := "BedFrontier$House") (T := T_House) (N := 15) hx hb htt i_House hown hK.1 hP 2 rfl rfl 10 (by decide) (htt _ k_108) (fun _ h9 => h9) rfl d_Clerk_priceOfCell_10 ?_
  obtain ⟨x1, h2, hf⟩ := bdE hf
  refine vR (q0 := 0) (ci := 6) (rest := []) C0 (c_House_lets l D ty hA kA sH a1 a2 (sH 10 0) x1 h2) k_518 cal_House_lets hK (hP.sub (ws' := (L_hk ty hA kA sH)) [2, 3, 4, 5, 6, 7, 8, 9, 10, 11, 12, 13, 14, 15] rfl) rfl rfl rfl ⟨by rw [hR]; decide, by rw [hR]; decide⟩ rfl rfl rfl hl.1 rfl (Nat.le_of_ble_eq_true rfl) d_Clerk_priceOfCell_13 ⟨Nat.zero_le _, Nat.zero_le _⟩ rfl ?_
  refine lv_if_eq (tgt := 38) hx hb d_Clerk_priceOfCell_16 (by decide) (fun c3 => ?_) (fun c3 => ?_)
  · replace hf := iteT c3 hf
    refine lv_bipush (v := (99 : Int32)) hx hb d_Clerk_priceOfCell_38 (by decide) ?_
    obtain rfl := sj1 hf
    exact retR C0 (narI _) hQ d_Clerk_priceOfCell_40
  · replace hf := iteF c3 hf
    refine lv_aload_n hx hb d_Clerk_priceOfCell_19 rfl (lv_at hl 0 rfl) ?_
    refine va_get (D := D) (ci := 8) (v := .ref (hA 0)) (C := "BedFrontier$Clerk") (T := T_Clerk) (N := 2) hx hb htt i_Clerk hown hK.1 hP 0 rfl rfl 0 (by decide) (htt _ k_191) (fun _ h9 => h9) rfl d_Clerk_priceOfCell_20 ?_
    refine lv_iload_n hx hb d_Clerk_priceOfCell_23 rfl (lv_at hl 1 rfl) ?_
    refine lv_iload_n hx hb d_Clerk_priceOfCell_24 rfl (lv_at hl 2 rfl) ?_
    refine lv_aload_n hx hb d_Clerk_priceOfCell_25 rfl (lv_at hl 0 rfl) ?_
    refine va_get (D := D) (ci := 8) (v := .ref (hA 0)) (C := "BedFrontier$Clerk") (T := T_Clerk) (N := 2) hx hb htt i_Clerk hown hK.1 hP 0 rfl rfl 0 (by decide) (htt _ k_191) (fun _ h9 => h9) rfl d_Clerk_priceOfCell_26 ?_
    refine va_get (D := D) (ci := 6) (v := .int (sH 10 0)) (C := "BedFrontier$House") (T := T_House) (N := 15) hx hb htt i_House hown hK.1 hP 2 rfl rfl 10 (by decide) (htt _ k_108) (fun _ h9 => h9) rfl d_Clerk_priceOfCell_29 ?_
    obtain ⟨x4, h5, hf⟩ := bdE hf
    refine vR (q0 := 0) (ci := 6) (rest := []) C0 (c_House_owed l D ty hA kA sH a1 a2 (sH 10 0) x4 h5) k_624 cal_House_owed hK (hP.sub (ws' := (L_hk ty hA kA sH)) [2, 3, 4, 5, 6, 7, 8, 9, 10, 11, 12, 13, 14, 15] rfl) rfl rfl rfl ⟨by rw [hR]; decide, by rw [hR]; decide⟩ rfl rfl rfl hl.1 rfl (Nat.le_of_ble_eq_true rfl) d_Clerk_priceOfCell_32 ⟨Nat.zero_le _, Nat.zero_le _⟩ rfl ?_
    refine lv_goto (tgt := 40) hx hb d_Clerk_priceOfCell_35 (by decide) ?_
    obtain rfl := sj1 hf
    exact retR C0 (narI _) hQ d_Clerk_priceOfCell_40
def f_Clerk_bestCell_L25 (x1 : Int32) (x3 : Int32) (K25 : Int32 × Int32 × Int32 → Option (Int32)) : Int32 × Int32 × Int32 → Option (Int32)
  | (x6, x7, x8) =>
  (if (7 : Int32) < x8 then some x6 else bd (f_Clerk_cellsOfHers x8) (fun x10 => nm ((((3 : Int32) - x10) * x1) + (x10 * x3)) (fun x12 => (if x7 ≤ x12 then nm (x8 + (1 : Int32)) (fun x14 => K25 (x6, x7, x14)) else nm (x8 + (1 : Int32)) (fun x15 => K25 (x8, x12, x15))))))
def f_Clerk_bestCell (sC : PW) (sH : PW) (a1 : Int32) : Option (Int32) :=
  bd (f_Clerk_priceOfCell sC sH a1 (0 : Int32)) (fun x1 => bd (f_Clerk_priceOfCell sC sH a1 (1 : Int32)) (fun x3 => nm ((3 : Int32) * x1) (fun x5 => loopF (f_Clerk_bestCell_L25 x1 x3) 4000 ((0 : Int32), x5, (1 : Int32)))))
set_option maxHeartbeats 4000000 in
set_option maxRecDepth 100000 in
theorem c_Clerk_bestCell (l : Launch) (D : va_G) (ty : Nat → ClassId) (cA hA kA : Nat → Nat) (sC : PW) (sH : PW) (a1 : Int32) (rr : Int32) (hf : f_Clerk_bestCell sC sH a1 = some rr) : Met l y_Clerk_bestCell (Cond.code y_Clerk_bestCell prog_3_method_5_code 9 ((Option.some FieldType.int)) :: lw_ok) { frames := 7, cells := 0, slots := 0, locals := 188 } (PcR D ty [.ref (cA 0), .int a1] (L_chk ty cA hA kA sC sH)) (QR (some (.int rr))) 0 0 (fun _ => False) := by
  refine hdR (by decide) (Nat.le_of_ble_eq_true rfl) ?_
  intro p e s m below meth c ls R args Q C0 hR hQ hP hK hl
  obtain ⟨hx, hb, hr, hlk, hml, hown, htt⟩ := id C0
  have hl : lv_has ls 9 [(0, .ref (cA 0)), (1, .int a1)] := hl
  unfold f_Clerk_bestCell at hf
  refine lv_aload_n hx hb d_Clerk_bestCell_0 rfl (lv_at hl 0 rfl) ?_
  refine lv_iload_n hx hb d_Clerk_bestCell_1 rfl (lv_at hl 1 rfl) ?_
  refine lv_iconst (v := (0 : Int32)) hx hb d_Clerk_bestCell_2 (by decide) ?_
  obtain ⟨x1, h2, hf⟩ := bdE hf
  refine vR (q0 := 0) (ci := 8) (rest := []) C0 (c_Clerk_priceOfCell l D ty cA hA kA sC sH a1 (0 : Int32) x1 h2) k_620 cal_Clerk_priceOfCell hK hP rfl rfl rfl ⟨by rw [hR]; decide, by rw [hR]; decide⟩ rfl rfl rfl hl.1 rfl (Nat.le_of_ble_eq_true rfl) d_Clerk_bestCell_3 ⟨Nat.zero_le _, Nat.zero_le _⟩ rfl ?_
  refine lv_istore_n (lv' := [(2, .int x1), (0, .ref (cA 0)), (1, .int a1)]) hx hb d_Clerk_bestCell_6 rfl hl (by decide) rfl (fun ls hl => ?_)
  refine lv_aload_n hx hb d_Clerk_bestCell_7 rfl (lv_at hl 1 rfl) ?_
  refine lv_iload_n hx hb d_Clerk_bestCell_8 rfl (lv_at hl 2 rfl) ?_
  refine lv_iconst (v := (1 : Int32)) hx hb d_Clerk_bestCell_9 (by decide) ?_
  obtain ⟨x3, h4, hf⟩ := bdE hf
  refine vR (q0 := 0) (ci := 8) (rest := []) C0 (c_Clerk_priceOfCell l D ty cA hA kA sC sH a1 (1 : Int32) x3 h4) k_620 cal_Clerk_priceOfCell hK hP rfl rfl rfl ⟨by rw [hR]; decide, by rw [hR]; decide⟩ rfl rfl rfl hl.1 rfl (Nat.le_of_ble_eq_true rfl) d_Clerk_bestCell_10 ⟨Nat.zero_le _, Nat.zero_le _⟩ rfl ?_
  refine lv_istore_n (lv' := [(3, .int x3), (2, .int x1), (0, .ref (cA 0)), (1, .int a1)]) hx hb d_Clerk_bestCell_13 rfl hl (by decide) rfl (fun ls hl => ?_)
  refine lv_iconst (v := (0 : Int32)) hx hb d_Clerk_bestCell_14 (by decide) ?_
  refine lv_istore (lv' := [(4, .int (0 : Int32)), (3, .int x3), (2, .int x1), (0, .ref (cA 0)), (1, .int a1)]) hx hb d_Clerk_bestCell_15 hl (by decide) rfl (fun ls hl => ?_)
  refine lv_iconst (v := (3 : Int32)) hx hb d_Clerk_bestCell_17 (by decide) ?_
  refine lv_iload_n hx hb d_Clerk_bestCell_18 rfl (lv_at hl 2 rfl) ?_
  refine lv_imul hx hb d_Clerk_bestCell_19 ?_
  refine lv_topi (fun x5 e_x5 => ?_)
  replace hf := nmE hf e_x5
  refine lv_istore (lv' := [(5, .int x5), (4, .int (0 : Int32)), (3, .int x3), (2, .int x1), (0, .ref (cA 0)), (1, .int a1)]) hx hb d_Clerk_bestCell_20 hl (by decide) rfl (fun ls hl => ?_)
  refine lv_iconst (v := (1 : Int32)) hx hb d_Clerk_bestCell_22 (by decide) ?_
  refine lv_istore (lv' := [(6, .int (1 : Int32)), (5, .int x5), (4, .int (0 : Int32)), (3, .int x3), (2, .int x1), (0, .ref (cA 0)), (1, .int a1)]) hx hb d_Clerk_bestCell_23 hl (by decide) rfl (fun ls hl => ?_)
  have B25 : ∀ (n : Nat) (x : Int32 × Int32 × Int32), loopF (f_Clerk_bestCell_L25 x1 x3) n x = some rr → ∀ ls : Array Slot, lv_has ls 9 [(2, .int x1), (3, .int x3), (4, .int (x.1)), (5, .int (x.2.1)), (6, .int (x.2.2))] → W p l e R s m args below meth c s.heap [] 0 0 Q (F0 m 25 ls []) := by
    refine loopW (fun (x : Int32 × Int32 × Int32) => ∀ ls : Array Slot, lv_has ls 9 [(2, .int x1), (3, .int x3), (4, .int (x.1)), (5, .int (x.2.1)), (6, .int (x.2.2))] → W p l e R s m args below meth c s.heap [] 0 0 Q (F0 m 25 ls [])) ?_
    intro K25 hK25 x hf
    obtain ⟨x6, x7, x8⟩ := x
    rw [f_Clerk_bestCell_L25] at hf
    intro ls hl
    have hl : lv_has ls 9 [(2, .int x1), (3, .int x3), (4, .int x6), (5, .int x7), (6, .int x8)] := hl
    show W p l e R s m args below meth c s.heap [] 0 0 Q (F0 m 25 ls [])
    refine lv_iload hx hb d_Clerk_bestCell_25 (lv_at hl 4 rfl) ?_
    refine lv_bipush (v := (7 : Int32)) hx hb d_Clerk_bestCell_27 (by decide) ?_
    refine lv_icmp_gt (tgt := 73) hx hb d_Clerk_bestCell_29 (by decide) (fun c9 => ?_) (fun c9 => ?_)
    · replace hf := iteT c9 hf
      refine lv_iload hx hb d_Clerk_bestCell_73 (lv_at hl 2 rfl) ?_
      obtain rfl := sj1 hf
      exact retR C0 (narI _) hQ d_Clerk_bestCell_75
    · replace hf := iteF c9 hf
      refine lv_iload hx hb d_Clerk_bestCell_32 (lv_at hl 4 rfl) ?_
      obtain ⟨x10, h11, hf⟩ := bdE hf
      refine scR (rest := []) C0 (c_Clerk_cellsOfHers l D ty x8 x10 h11) k_625 cal_Clerk_cellsOfHers hK (va_P_nil) ⟨by rw [hR]; decide, by rw [hR]; decide⟩ rfl rfl rfl hl.1 rfl (Nat.le_of_ble_eq_true rfl) d_Clerk_bestCell_34 ⟨Nat.zero_le _, Nat.zero_le _⟩ rfl ?_
      refine lv_istore (lv' := [(7, .int x10), (2, .int x1), (3, .int x3), (4, .int x6), (5, .int x7), (6, .int x8)]) hx hb d_Clerk_bestCell_37 hl (by decide) rfl (fun ls hl => ?_)
      refine lv_iconst (v := (3 : Int32)) hx hb d_Clerk_bestCell_39 (by decide) ?_
      refine lv_iload hx hb d_Clerk_bestCell_40 (lv_at hl 0 rfl) ?_
      refine lv_isub hx hb d_Clerk_bestCell_42 ?_
      refine lv_iload_n hx hb d_Clerk_bestCell_43 rfl (lv_at hl 1 rfl) ?_
      refine lv_imul hx hb d_Clerk_bestCell_44 ?_
      refine lv_iload hx hb d_Clerk_bestCell_45 (lv_at hl 0 rfl) ?_
      refine lv_iload_n hx hb d_Clerk_bestCell_47 rfl (lv_at hl 2 rfl) ?_
      refine lv_imul hx hb d_Clerk_bestCell_48 ?_
      refine lv_iadd hx hb d_Clerk_bestCell_49 ?_
      refine lv_topi (fun x12 e_x12 => ?_)
      replace hf := nmE hf e_x12
      refine lv_istore (lv' := [(8, .int x12), (7, .int x10), (2, .int x1), (3, .int x3), (4, .int x6), (5, .int x7), (6, .int x8)]) hx hb d_Clerk_bestCell_50 hl (by decide) rfl (fun ls hl => ?_)
      refine lv_iload hx hb d_Clerk_bestCell_52 (lv_at hl 0 rfl) ?_
      refine lv_iload hx hb d_Clerk_bestCell_54 (lv_at hl 5 rfl) ?_
      refine lv_icmp_ge (tgt := 67) hx hb d_Clerk_bestCell_56 (by decide) (fun c13 => ?_) (fun c13 => ?_)
      · replace hf := iteT c13 hf
        obtain ⟨x14, e_x14⟩ : ∃ z : Int32, z = (x8 + (1 : Int32)) := ⟨_, rfl⟩
        replace hf := nmE hf e_x14
        refine lv_iinc (v := x14) (lv' := [(6, .int x14), (8, .int x12), (7, .int x10), (2, .int x1), (3, .int x3), (4, .int x6), (5, .int x7)]) hx hb d_Clerk_bestCell_67 hl (k := 6) rfl (by rw [e_x14]; rfl) (by decide) rfl (fun ls hl => ?_)
        refine lv_goto (tgt := 25) hx hb d_Clerk_bestCell_70 (by decide) ?_
        exact hK25 (x6, x7, x14) hf ls (lv_sub hl [3, 4, 5, 6, 0] rfl)
      · replace hf := iteF c13 hf
        refine lv_iload hx hb d_Clerk_bestCell_59 (lv_at hl 0 rfl) ?_
        refine lv_istore (lv' := [(5, .int x12), (8, .int x12), (7, .int x10), (2, .int x1), (3, .int x3), (4, .int x6), (6, .int x8)]) hx hb d_Clerk_bestCell_61 hl (by decide) rfl (fun ls hl => ?_)
        refine lv_iload hx hb d_Clerk_bestCell_63 (lv_at hl 6 rfl) ?_
        refine lv_istore (lv' := [(4, .int x8), (5, .int x12), (8, .int x12), (7, .int x10), (2, .int x1), (3, .int x3), (6, .int x8)]) hx hb d_Clerk_bestCell_65 hl (by decide) rfl (fun ls hl => ?_)
        obtain ⟨x15, e_x15⟩ : ∃ z : Int32, z = (x8 + (1 : Int32)) := ⟨_, rfl⟩
        replace hf := nmE hf e_x15
        refine lv_iinc (v := x15) (lv' := [(6, .int x15), (4, .int x8), (5, .int x12), (8, .int x12), (7, .int x10), (2, .int x1), (3, .int x3)]) hx hb d_Clerk_bestCell_67 hl (k := 6) rfl (by rw [e_x15]; rfl) (by decide) rfl (fun ls hl => ?_)
        refine lv_goto (tgt := 25) hx hb d_Clerk_bestCell_70 (by decide) ?_
        exact hK25 (x8, x12, x15) hf ls (lv_sub hl [5, 6, 1, 2, 0] rfl)
  exact B25 4000 ((0 : Int32), x5, (1 : Int32)) hf ls (lv_sub hl [4, 3, 2, 1, 0] rfl)
def f_Clerk_isOpen (sC : PW) (sH : PW) (a1 : Int32) (a2 : Int32) (a3 : Int32) : Option (Int32) :=
  (if ((a3 >>> (a2 &&& 31)) &&& (1 : Int32)) = 0 then some (1 : Int32) else bd (f_House_passesBarred sH a1 a2 (sH 10 0)) (fun x2 => (if x2 = 0 then some (0 : Int32) else some (1 : Int32))))
set_option maxHeartbeats 4000000 in
set_option maxRecDepth 100000 in
theorem c_Clerk_isOpen (l : Launch) (D : va_G) (ty : Nat → ClassId) (cA hA kA : Nat → Nat) (sC : PW) (sH : PW) (a1 : Int32) (a2 : Int32) (a3 : Int32) (rr : Int32) (hf : f_Clerk_isOpen sC sH a1 a2 a3 = some rr) : Met l y_Clerk_isOpen (Cond.code y_Clerk_isOpen prog_3_method_10_code 4 ((Option.some FieldType.boolean)) :: lw_ok) { frames := 5, cells := 0, slots := 0, locals := 143 } (PcR D ty [.ref (cA 0), .int a1, .int a2, .int a3] (L_chk ty cA hA kA sC sH)) (QR (some (.int rr))) 0 0 (fun _ => False) := by
  refine hdR (by decide) (Nat.le_of_ble_eq_true rfl) ?_
  intro p e s m below meth c ls R args Q C0 hR hQ hP hK hl
  obtain ⟨hx, hb, hr, hlk, hml, hown, htt⟩ := id C0
  have hl : lv_has ls 4 [(0, .ref (cA 0)), (1, .int a1), (2, .int a2), (3, .int a3)] := hl
  unfold f_Clerk_isOpen at hf
  refine lv_iload_n hx hb d_Clerk_isOpen_0 rfl (lv_at hl 3 rfl) ?_
  refine lv_iload_n hx hb d_Clerk_isOpen_1 rfl (lv_at hl 2 rfl) ?_
  refine lv_ishr hx hb d_Clerk_isOpen_2 ?_
  refine lv_iconst (v := (1 : Int32)) hx hb d_Clerk_isOpen_3 (by decide) ?_
  refine lv_iand hx hb d_Clerk_isOpen_4 ?_
  refine lv_if_eq (tgt := 27) hx hb d_Clerk_isOpen_5 (by decide) (fun c1 => ?_) (fun c1 => ?_)
  · replace hf := iteT c1 hf
    refine lv_iconst (v := (1 : Int32)) hx hb d_Clerk_isOpen_27 (by decide) ?_
    refine lv_goto (tgt := 32) hx hb d_Clerk_isOpen_28 (by decide) ?_
    obtain rfl := sj1 hf
    exact retR C0 rfl hQ d_Clerk_isOpen_32
  · replace hf := iteF c1 hf
    refine lv_aload_n hx hb d_Clerk_isOpen_8 rfl (lv_at hl 0 rfl) ?_
    refine va_get (D := D) (ci := 8) (v := .ref (hA 0)) (C := "BedFrontier$Clerk") (T := T_Clerk) (N := 2) hx hb htt i_Clerk hown hK.1 hP 0 rfl rfl 0 (by decide) (htt _ k_191) (fun _ h9 => h9) rfl d_Clerk_isOpen_9 ?_
    refine lv_iload_n hx hb d_Clerk_isOpen_12 rfl (lv_at hl 1 rfl) ?_
    refine lv_iload_n hx hb d_Clerk_isOpen_13 rfl (lv_at hl 2 rfl) ?_
    refine lv_aload_n hx hb d_Clerk_isOpen_14 rfl (lv_at hl 0 rfl) ?_
    refine va_get (D := D) (ci := 8) (v := .ref (hA 0)) (C := "BedFrontier$Clerk") (T := T_Clerk) (N := 2) hx hb htt i_Clerk hown hK.1 hP 0 rfl rfl 0 (by decide) (htt _ k_191) (fun _ h9 => h9) rfl d_Clerk_isOpen_15 ?_
    refine va_get (D := D) (ci := 6) (v := .int (sH 10 0)) (C := "BedFrontier$House") (T := T_House) (N := 15) hx hb htt i_House hown hK.1 hP 2 rfl rfl 10 (by decide) (htt _ k_108) (fun _ h9 => h9) rfl d_Clerk_isOpen_18 ?_
    obtain ⟨x2, h3, hf⟩ := bdE hf
    refine vR (q0 := 0) (ci := 6) (rest := []) C0 (c_House_passesBarred l D ty hA kA sH a1 a2 (sH 10 0) x2 h3) k_642 cal_House_passesBarred hK (hP.sub (ws' := (L_hk ty hA kA sH)) [2, 3, 4, 5, 6, 7, 8, 9, 10, 11, 12, 13, 14, 15] rfl) rfl rfl rfl ⟨by rw [hR]; decide, by rw [hR]; decide⟩ rfl rfl rfl hl.1 rfl (Nat.le_of_ble_eq_true rfl) d_Clerk_isOpen_21 ⟨Nat.zero_le _, Nat.zero_le _⟩ rfl ?_
    refine lv_if_eq (tgt := 31) hx hb d_Clerk_isOpen_24 (by decide) (fun c4 => ?_) (fun c4 => ?_)
    · replace hf := iteT c4 hf
      refine lv_iconst (v := (0 : Int32)) hx hb d_Clerk_isOpen_31 (by decide) ?_
      obtain rfl := sj1 hf
      exact retR C0 rfl hQ d_Clerk_isOpen_32
    · replace hf := iteF c4 hf
      refine lv_iconst (v := (1 : Int32)) hx hb d_Clerk_isOpen_27 (by decide) ?_
      refine lv_goto (tgt := 32) hx hb d_Clerk_isOpen_28 (by decide) ?_
      obtain rfl := sj1 hf
      exact retR C0 rfl hQ d_Clerk_isOpen_32
def f_Clerk_gainOfHis_J52 (a1 : Int32) (a2 : Int32) (sC : PW) (sH : PW) (x1 : Int32) (x5 : Int32) : Option (Int32) :=
  bd (f_Clerk_isOpen sC sH a1 (0 : Int32) a2) (fun x6 => (if x6 = 0 then some (0 : Int32) else (if x5 = 0 then some x1 else some (0 : Int32))))
def f_Clerk_gainOfHis_J51 (a1 : Int32) (a2 : Int32) (sC : PW) (sH : PW) (x1 : Int32) : Option (Int32) :=
  f_Clerk_gainOfHis_J52 a1 a2 sC sH x1 (0 : Int32)
def f_Clerk_gainOfHis (sC : PW) (sH : PW) (a1 : Int32) (a2 : Int32) : Option (Int32) :=
  bd (f_House_owed sH a1 (0 : Int32) (sH 10 0)) (fun x1 => bd (f_Clerk_isOpen sC sH a1 (1 : Int32) a2) (fun x3 => (if x3 = 0 then f_Clerk_gainOfHis_J51 a1 a2 sC sH x1 else bd (f_House_owed sH a1 (1 : Int32) (sH 10 0)) (fun x11 => (if x1 ≤ x11 then f_Clerk_gainOfHis_J51 a1 a2 sC sH x1 else f_Clerk_gainOfHis_J52 a1 a2 sC sH x1 (1 : Int32))))))
set_option maxHeartbeats 4000000 in
set_option maxRecDepth 100000 in
theorem c_Clerk_gainOfHis (l : Launch) (D : va_G) (ty : Nat → ClassId) (cA hA kA : Nat → Nat) (sC : PW) (sH : PW) (a1 : Int32) (a2 : Int32) (rr : Int32) (hf : f_Clerk_gainOfHis sC sH a1 a2 = some rr) : Met l y_Clerk_gainOfHis (Cond.code y_Clerk_gainOfHis prog_3_method_8_code 5 ((Option.some FieldType.int)) :: lw_ok) { frames := 6, cells := 0, slots := 0, locals := 166 } (PcR D ty [.ref (cA 0), .int a1, .int a2] (L_chk ty cA hA kA sC sH)) (QR (some (.int rr))) 0 0 (fun _ => False) := by
  refine hdR (by decide) (Nat.le_of_ble_eq_true rfl) ?_
  intro p e s m below meth c ls R args Q C0 hR hQ hP hK hl
  obtain ⟨hx, hb, hr, hlk, hml, hown, htt⟩ := id C0
  have hl : lv_has ls 5 [(0, .ref (cA 0)), (1, .int a1), (2, .int a2)] := hl
  unfold f_Clerk_gainOfHis at hf
  refine lv_aload_n hx hb d_Clerk_gainOfHis_0 rfl (lv_at hl 0 rfl) ?_
  refine va_get (D := D) (ci := 8) (v := .ref (hA 0)) (C := "BedFrontier$Clerk") (T := T_Clerk) (N := 2) hx hb htt i_Clerk hown hK.1 hP 0 rfl rfl 0 (by decide) (htt _ k_191) (fun _ h9 => h9) rfl d_Clerk_gainOfHis_1 ?_
  refine lv_iload_n hx hb d_Clerk_gainOfHis_4 rfl (lv_at hl 1 rfl) ?_
  refine lv_iconst (v := (0 : Int32)) hx hb d_Clerk_gainOfHis_5 (by decide) ?_
  refine lv_aload_n hx hb d_Clerk_gainOfHis_6 rfl (lv_at hl 0 rfl) ?_
  refine va_get (D := D) (ci := 8) (v := .ref (hA 0)) (C := "BedFrontier$Clerk") (T := T_Clerk) (N := 2) hx hb htt i_Clerk hown hK.1 hP 0 rfl rfl 0 (by decide) (htt _ k_191) (fun _ h9 => h9) rfl d_Clerk_gainOfHis_7 ?_
  refine va_get (D := D) (ci := 6) (v := .int (sH 10 0)) (C := "BedFrontier$House") (T := T_House) (N := 15) hx hb htt i_House hown hK.1 hP 2 rfl rfl 10 (by decide) (htt _ k_108) (fun _ h9 => h9) rfl d_Clerk_gainOfHis_10 ?_
  obtain ⟨x1, h2, hf⟩ := bdE hf
  refine vR (q0 := 0) (ci := 6) (rest := []) C0 (c_House_owed l D ty hA kA sH a1 (0 : Int32) (sH 10 0) x1 h2) k_624 cal_House_owed hK (hP.sub (ws' := (L_hk ty hA kA sH)) [2, 3, 4, 5, 6, 7, 8, 9, 10, 11, 12, 13, 14, 15] rfl) rfl rfl rfl ⟨by rw [hR]; decide, by rw [hR]; decide⟩ rfl rfl rfl hl.1 rfl (Nat.le_of_ble_eq_true rfl) d_Clerk_gainOfHis_13 ⟨Nat.zero_le _, Nat.zero_le _⟩ rfl ?_
  refine lv_istore_n (lv' := [(3, .int x1), (0, .ref (cA 0)), (1, .int a1), (2, .int a2)]) hx hb d_Clerk_gainOfHis_16 rfl hl (by decide) rfl (fun ls hl => ?_)
  refine lv_aload_n hx hb d_Clerk_gainOfHis_17 rfl (lv_at hl 1 rfl) ?_
  refine lv_iload_n hx hb d_Clerk_gainOfHis_18 rfl (lv_at hl 2 rfl) ?_
  refine lv_iconst (v := (1 : Int32)) hx hb d_Clerk_gainOfHis_19 (by decide) ?_
  refine lv_iload_n hx hb d_Clerk_gainOfHis_20 rfl (lv_at hl 3 rfl) ?_
  obtain ⟨x3, h4, hf⟩ := bdE hf
  refine vR (q0 := 0) (ci := 8) (rest := []) C0 (c_Clerk_isOpen l D ty cA hA kA sC sH a1 (1 : Int32) a2 x3 h4) k_638 cal_Clerk_isOpen hK hP rfl rfl rfl ⟨by rw [hR]; decide, by rw [hR]; decide⟩ rfl rfl rfl hl.1 rfl (Nat.le_of_ble_eq_true rfl) d_Clerk_gainOfHis_21 ⟨Nat.zero_le _, Nat.zero_le _⟩ rfl ?_
  have J52 : ∀ (x5 : Int32), f_Clerk_gainOfHis_J52 a1 a2 sC sH x1 x5 = some rr → ∀ ls : Array Slot, lv_has ls 5 [(0, .ref (cA 0)), (1, .int a1), (2, .int a2), (3, .int x1)] → W p l e R s m args below meth c s.heap [] 0 0 Q (F0 m 52 ls [.int x5]) := by
    intro x5 hf ls hl
    unfold f_Clerk_gainOfHis_J52 at hf
    refine lv_istore (lv' := [(4, .int x5), (0, .ref (cA 0)), (1, .int a1), (2, .int a2), (3, .int x1)]) hx hb d_Clerk_gainOfHis_52 hl (by decide) rfl (fun ls hl => ?_)
    refine lv_aload_n hx hb d_Clerk_gainOfHis_54 rfl (lv_at hl 1 rfl) ?_
    refine lv_iload_n hx hb d_Clerk_gainOfHis_55 rfl (lv_at hl 2 rfl) ?_
    refine lv_iconst (v := (0 : Int32)) hx hb d_Clerk_gainOfHis_56 (by decide) ?_
    refine lv_iload_n hx hb d_Clerk_gainOfHis_57 rfl (lv_at hl 3 rfl) ?_
    obtain ⟨x6, h7, hf⟩ := bdE hf
    refine vR (q0 := 0) (ci := 8) (rest := []) C0 (c_Clerk_isOpen l D ty cA hA kA sC sH a1 (0 : Int32) a2 x6 h7) k_638 cal_Clerk_isOpen hK hP rfl rfl rfl ⟨by rw [hR]; decide, by rw [hR]; decide⟩ rfl rfl rfl hl.1 rfl (Nat.le_of_ble_eq_true rfl) d_Clerk_gainOfHis_58 ⟨Nat.zero_le _, Nat.zero_le _⟩ rfl ?_
    refine lv_if_eq (tgt := 73) hx hb d_Clerk_gainOfHis_61 (by decide) (fun c8 => ?_) (fun c8 => ?_)
    · replace hf := iteT c8 hf
      refine lv_iconst (v := (0 : Int32)) hx hb d_Clerk_gainOfHis_73 (by decide) ?_
      obtain rfl := sj1 hf
      exact retR C0 (narI _) hQ d_Clerk_gainOfHis_74
    · replace hf := iteF c8 hf
      refine lv_iload hx hb d_Clerk_gainOfHis_64 (lv_at hl 0 rfl) ?_
      refine lv_if_ne (tgt := 73) hx hb d_Clerk_gainOfHis_66 (by decide) (fun c9 => ?_) (fun c9 => ?_)
      · replace hf := iteF c9 hf
        refine lv_iconst (v := (0 : Int32)) hx hb d_Clerk_gainOfHis_73 (by decide) ?_
        obtain rfl := sj1 hf
        exact retR C0 (narI _) hQ d_Clerk_gainOfHis_74
      · replace hf := iteT c9 hf
        refine lv_iload_n hx hb d_Clerk_gainOfHis_69 rfl (lv_at hl 4 rfl) ?_
        refine lv_goto (tgt := 74) hx hb d_Clerk_gainOfHis_70 (by decide) ?_
        obtain rfl := sj1 hf
        exact retR C0 (narI _) hQ d_Clerk_gainOfHis_74
  have J51 : ∀ (_ : Unit), f_Clerk_gainOfHis_J51 a1 a2 sC sH x1 = some rr → ∀ ls : Array Slot, lv_has ls 5 [(0, .ref (cA 0)), (1, .int a1), (2, .int a2), (3, .int x1)] → W p l e R s m args below meth c s.heap [] 0 0 Q (F0 m 51 ls []) := by
    intro _ hf ls hl
    unfold f_Clerk_gainOfHis_J51 at hf
    refine lv_iconst (v := (0 : Int32)) hx hb d_Clerk_gainOfHis_51 (by decide) ?_
    exact J52 (0 : Int32) hf ls (hl)
  refine lv_if_eq (tgt := 51) hx hb d_Clerk_gainOfHis_24 (by decide) (fun c10 => ?_) (fun c10 => ?_)
  · replace hf := iteT c10 hf
    exact J51 () hf ls (lv_sub hl [1, 2, 3, 0] rfl)
  · replace hf := iteF c10 hf
    refine lv_aload_n hx hb d_Clerk_gainOfHis_27 rfl (lv_at hl 1 rfl) ?_
    refine va_get (D := D) (ci := 8) (v := .ref (hA 0)) (C := "BedFrontier$Clerk") (T := T_Clerk) (N := 2) hx hb htt i_Clerk hown hK.1 hP 0 rfl rfl 0 (by decide) (htt _ k_191) (fun _ h9 => h9) rfl d_Clerk_gainOfHis_28 ?_
    refine lv_iload_n hx hb d_Clerk_gainOfHis_31 rfl (lv_at hl 2 rfl) ?_
    refine lv_iconst (v := (1 : Int32)) hx hb d_Clerk_gainOfHis_32 (by decide) ?_
    refine lv_aload_n hx hb d_Clerk_gainOfHis_33 rfl (lv_at hl 1 rfl) ?_
    refine va_get (D := D) (ci := 8) (v := .ref (hA 0)) (C := "BedFrontier$Clerk") (T := T_Clerk) (N := 2) hx hb htt i_Clerk hown hK.1 hP 0 rfl rfl 0 (by decide) (htt _ k_191) (fun _ h9 => h9) rfl d_Clerk_gainOfHis_34 ?_
    refine va_get (D := D) (ci := 6) (v := .int (sH 10 0)) (C := "BedFrontier$House") (T := T_House) (N := 15) hx hb htt i_House hown hK.1 hP 2 rfl rfl 10 (by decide) (htt _ k_108) (fun _ h9 => h9) rfl d_Clerk_gainOfHis_37 ?_
    obtain ⟨x11, h12, hf⟩ := bdE hf
    refine vR (q0 := 0) (ci := 6) (rest := []) C0 (c_House_owed l D ty hA kA sH a1 (1 : Int32) (sH 10 0) x11 h12) k_624 cal_House_owed hK (hP.sub (ws' := (L_hk ty hA kA sH)) [2, 3, 4, 5, 6, 7, 8, 9, 10, 11, 12, 13, 14, 15] rfl) rfl rfl rfl ⟨by rw [hR]; decide, by rw [hR]; decide⟩ rfl rfl rfl hl.1 rfl (Nat.le_of_ble_eq_true rfl) d_Clerk_gainOfHis_40 ⟨Nat.zero_le _, Nat.zero_le _⟩ rfl ?_
    refine lv_iload_n hx hb d_Clerk_gainOfHis_43 rfl (lv_at hl 0 rfl) ?_
    refine lv_icmp_ge (tgt := 51) hx hb d_Clerk_gainOfHis_44 (by decide) (fun c13 => ?_) (fun c13 => ?_)
    · replace hf := iteT c13 hf
      exact J51 () hf ls (lv_sub hl [1, 2, 3, 0] rfl)
    · replace hf := iteF c13 hf
      refine lv_iconst (v := (1 : Int32)) hx hb d_Clerk_gainOfHis_47 (by decide) ?_
      refine lv_goto (tgt := 52) hx hb d_Clerk_gainOfHis_48 (by decide) ?_
      exact J52 (1 : Int32) hf ls (lv_sub hl [1, 2, 3, 0] rfl)
def f_Clerk_gainOfHers_J52 (a1 : Int32) (a2 : Int32) (sC : PW) (sH : PW) (x1 : Int32) (x5 : Int32) : Option (Int32) :=
  bd (f_Clerk_isOpen sC sH a1 (1 : Int32) a2) (fun x6 => (if x6 = 0 then some (0 : Int32) else (if x5 = 0 then some x1 else some (0 : Int32))))
def f_Clerk_gainOfHers_J51 (a1 : Int32) (a2 : Int32) (sC : PW) (sH : PW) (x1 : Int32) : Option (Int32) :=
  f_Clerk_gainOfHers_J52 a1 a2 sC sH x1 (0 : Int32)
def f_Clerk_gainOfHers (sC : PW) (sH : PW) (a1 : Int32) (a2 : Int32) : Option (Int32) :=
  bd (f_House_owed sH a1 (1 : Int32) (sH 10 0)) (fun x1 => bd (f_Clerk_isOpen sC sH a1 (0 : Int32) a2) (fun x3 => (if x3 = 0 then f_Clerk_gainOfHers_J51 a1 a2 sC sH x1 else bd (f_House_owed sH a1 (0 : Int32) (sH 10 0)) (fun x11 => (if x1 < x11 then f_Clerk_gainOfHers_J51 a1 a2 sC sH x1 else f_Clerk_gainOfHers_J52 a1 a2 sC sH x1 (1 : Int32))))))
set_option maxHeartbeats 4000000 in
set_option maxRecDepth 100000 in
theorem c_Clerk_gainOfHers (l : Launch) (D : va_G) (ty : Nat → ClassId) (cA hA kA : Nat → Nat) (sC : PW) (sH : PW) (a1 : Int32) (a2 : Int32) (rr : Int32) (hf : f_Clerk_gainOfHers sC sH a1 a2 = some rr) : Met l y_Clerk_gainOfHers (Cond.code y_Clerk_gainOfHers prog_3_method_9_code 5 ((Option.some FieldType.int)) :: lw_ok) { frames := 6, cells := 0, slots := 0, locals := 166 } (PcR D ty [.ref (cA 0), .int a1, .int a2] (L_chk ty cA hA kA sC sH)) (QR (some (.int rr))) 0 0 (fun _ => False) := by
  refine hdR (by decide) (Nat.le_of_ble_eq_true rfl) ?_
  intro p e s m below meth c ls R args Q C0 hR hQ hP hK hl
  obtain ⟨hx, hb, hr, hlk, hml, hown, htt⟩ := id C0
  have hl : lv_has ls 5 [(0, .ref (cA 0)), (1, .int a1), (2, .int a2)] := hl
  unfold f_Clerk_gainOfHers at hf
  refine lv_aload_n hx hb d_Clerk_gainOfHers_0 rfl (lv_at hl 0 rfl) ?_
  refine va_get (D := D) (ci := 8) (v := .ref (hA 0)) (C := "BedFrontier$Clerk") (T := T_Clerk) (N := 2) hx hb htt i_Clerk hown hK.1 hP 0 rfl rfl 0 (by decide) (htt _ k_191) (fun _ h9 => h9) rfl d_Clerk_gainOfHers_1 ?_
  refine lv_iload_n hx hb d_Clerk_gainOfHers_4 rfl (lv_at hl 1 rfl) ?_
  refine lv_iconst (v := (1 : Int32)) hx hb d_Clerk_gainOfHers_5 (by decide) ?_
  refine lv_aload_n hx hb d_Clerk_gainOfHers_6 rfl (lv_at hl 0 rfl) ?_
  refine va_get (D := D) (ci := 8) (v := .ref (hA 0)) (C := "BedFrontier$Clerk") (T := T_Clerk) (N := 2) hx hb htt i_Clerk hown hK.1 hP 0 rfl rfl 0 (by decide) (htt _ k_191) (fun _ h9 => h9) rfl d_Clerk_gainOfHers_7 ?_
  refine va_get (D := D) (ci := 6) (v := .int (sH 10 0)) (C := "BedFrontier$House") (T := T_House) (N := 15) hx hb htt i_House hown hK.1 hP 2 rfl rfl 10 (by decide) (htt _ k_108) (fun _ h9 => h9) rfl d_Clerk_gainOfHers_10 ?_
  obtain ⟨x1, h2, hf⟩ := bdE hf
  refine vR (q0 := 0) (ci := 6) (rest := []) C0 (c_House_owed l D ty hA kA sH a1 (1 : Int32) (sH 10 0) x1 h2) k_624 cal_House_owed hK (hP.sub (ws' := (L_hk ty hA kA sH)) [2, 3, 4, 5, 6, 7, 8, 9, 10, 11, 12, 13, 14, 15] rfl) rfl rfl rfl ⟨by rw [hR]; decide, by rw [hR]; decide⟩ rfl rfl rfl hl.1 rfl (Nat.le_of_ble_eq_true rfl) d_Clerk_gainOfHers_13 ⟨Nat.zero_le _, Nat.zero_le _⟩ rfl ?_
  refine lv_istore_n (lv' := [(3, .int x1), (0, .ref (cA 0)), (1, .int a1), (2, .int a2)]) hx hb d_Clerk_gainOfHers_16 rfl hl (by decide) rfl (fun ls hl => ?_)
  refine lv_aload_n hx hb d_Clerk_gainOfHers_17 rfl (lv_at hl 1 rfl) ?_
  refine lv_iload_n hx hb d_Clerk_gainOfHers_18 rfl (lv_at hl 2 rfl) ?_
  refine lv_iconst (v := (0 : Int32)) hx hb d_Clerk_gainOfHers_19 (by decide) ?_
  refine lv_iload_n hx hb d_Clerk_gainOfHers_20 rfl (lv_at hl 3 rfl) ?_
  obtain ⟨x3, h4, hf⟩ := bdE hf
  refine vR (q0 := 0) (ci := 8) (rest := []) C0 (c_Clerk_isOpen l D ty cA hA kA sC sH a1 (0 : Int32) a2 x3 h4) k_638 cal_Clerk_isOpen hK hP rfl rfl rfl ⟨by rw [hR]; decide, by rw [hR]; decide⟩ rfl rfl rfl hl.1 rfl (Nat.le_of_ble_eq_true rfl) d_Clerk_gainOfHers_21 ⟨Nat.zero_le _, Nat.zero_le _⟩ rfl ?_
  have J52 : ∀ (x5 : Int32), f_Clerk_gainOfHers_J52 a1 a2 sC sH x1 x5 = some rr → ∀ ls : Array Slot, lv_has ls 5 [(0, .ref (cA 0)), (1, .int a1), (2, .int a2), (3, .int x1)] → W p l e R s m args below meth c s.heap [] 0 0 Q (F0 m 52 ls [.int x5]) := by
    intro x5 hf ls hl
    unfold f_Clerk_gainOfHers_J52 at hf
    refine lv_istore (lv' := [(4, .int x5), (0, .ref (cA 0)), (1, .int a1), (2, .int a2), (3, .int x1)]) hx hb d_Clerk_gainOfHers_52 hl (by decide) rfl (fun ls hl => ?_)
    refine lv_aload_n hx hb d_Clerk_gainOfHers_54 rfl (lv_at hl 1 rfl) ?_
    refine lv_iload_n hx hb d_Clerk_gainOfHers_55 rfl (lv_at hl 2 rfl) ?_
    refine lv_iconst (v := (1 : Int32)) hx hb d_Clerk_gainOfHers_56 (by decide) ?_
    refine lv_iload_n hx hb d_Clerk_gainOfHers_57 rfl (lv_at hl 3 rfl) ?_
    obtain ⟨x6, h7, hf⟩ := bdE hf
    refine vR (q0 := 0) (ci := 8) (rest := []) C0 (c_Clerk_isOpen l D ty cA hA kA sC sH a1 (1 : Int32) a2 x6 h7) k_638 cal_Clerk_isOpen hK hP rfl rfl rfl ⟨by rw [hR]; decide, by rw [hR]; decide⟩ rfl rfl rfl hl.1 rfl (Nat.le_of_ble_eq_true rfl) d_Clerk_gainOfHers_58 ⟨Nat.zero_le _, Nat.zero_le _⟩ rfl ?_
    refine lv_if_eq (tgt := 73) hx hb d_Clerk_gainOfHers_61 (by decide) (fun c8 => ?_) (fun c8 => ?_)
    · replace hf := iteT c8 hf
      refine lv_iconst (v := (0 : Int32)) hx hb d_Clerk_gainOfHers_73 (by decide) ?_
      obtain rfl := sj1 hf
      exact retR C0 (narI _) hQ d_Clerk_gainOfHers_74
    · replace hf := iteF c8 hf
      refine lv_iload hx hb d_Clerk_gainOfHers_64 (lv_at hl 0 rfl) ?_
      refine lv_if_ne (tgt := 73) hx hb d_Clerk_gainOfHers_66 (by decide) (fun c9 => ?_) (fun c9 => ?_)
      · replace hf := iteF c9 hf
        refine lv_iconst (v := (0 : Int32)) hx hb d_Clerk_gainOfHers_73 (by decide) ?_
        obtain rfl := sj1 hf
        exact retR C0 (narI _) hQ d_Clerk_gainOfHers_74
      · replace hf := iteT c9 hf
        refine lv_iload_n hx hb d_Clerk_gainOfHers_69 rfl (lv_at hl 4 rfl) ?_
        refine lv_goto (tgt := 74) hx hb d_Clerk_gainOfHers_70 (by decide) ?_
        obtain rfl := sj1 hf
        exact retR C0 (narI _) hQ d_Clerk_gainOfHers_74
  have J51 : ∀ (_ : Unit), f_Clerk_gainOfHers_J51 a1 a2 sC sH x1 = some rr → ∀ ls : Array Slot, lv_has ls 5 [(0, .ref (cA 0)), (1, .int a1), (2, .int a2), (3, .int x1)] → W p l e R s m args below meth c s.heap [] 0 0 Q (F0 m 51 ls []) := by
    intro _ hf ls hl
    unfold f_Clerk_gainOfHers_J51 at hf
    refine lv_iconst (v := (0 : Int32)) hx hb d_Clerk_gainOfHers_51 (by decide) ?_
    exact J52 (0 : Int32) hf ls (hl)
  refine lv_if_eq (tgt := 51) hx hb d_Clerk_gainOfHers_24 (by decide) (fun c10 => ?_) (fun c10 => ?_)
  · replace hf := iteT c10 hf
    exact J51 () hf ls (lv_sub hl [1, 2, 3, 0] rfl)
  · replace hf := iteF c10 hf
    refine lv_aload_n hx hb d_Clerk_gainOfHers_27 rfl (lv_at hl 1 rfl) ?_
    refine va_get (D := D) (ci := 8) (v := .ref (hA 0)) (C := "BedFrontier$Clerk") (T := T_Clerk) (N := 2) hx hb htt i_Clerk hown hK.1 hP 0 rfl rfl 0 (by decide) (htt _ k_191) (fun _ h9 => h9) rfl d_Clerk_gainOfHers_28 ?_
    refine lv_iload_n hx hb d_Clerk_gainOfHers_31 rfl (lv_at hl 2 rfl) ?_
    refine lv_iconst (v := (0 : Int32)) hx hb d_Clerk_gainOfHers_32 (by decide) ?_
    refine lv_aload_n hx hb d_Clerk_gainOfHers_33 rfl (lv_at hl 1 rfl) ?_
    refine va_get (D := D) (ci := 8) (v := .ref (hA 0)) (C := "BedFrontier$Clerk") (T := T_Clerk) (N := 2) hx hb htt i_Clerk hown hK.1 hP 0 rfl rfl 0 (by decide) (htt _ k_191) (fun _ h9 => h9) rfl d_Clerk_gainOfHers_34 ?_
    refine va_get (D := D) (ci := 6) (v := .int (sH 10 0)) (C := "BedFrontier$House") (T := T_House) (N := 15) hx hb htt i_House hown hK.1 hP 2 rfl rfl 10 (by decide) (htt _ k_108) (fun _ h9 => h9) rfl d_Clerk_gainOfHers_37 ?_
    obtain ⟨x11, h12, hf⟩ := bdE hf
    refine vR (q0 := 0) (ci := 6) (rest := []) C0 (c_House_owed l D ty hA kA sH a1 (0 : Int32) (sH 10 0) x11 h12) k_624 cal_House_owed hK (hP.sub (ws' := (L_hk ty hA kA sH)) [2, 3, 4, 5, 6, 7, 8, 9, 10, 11, 12, 13, 14, 15] rfl) rfl rfl rfl ⟨by rw [hR]; decide, by rw [hR]; decide⟩ rfl rfl rfl hl.1 rfl (Nat.le_of_ble_eq_true rfl) d_Clerk_gainOfHers_40 ⟨Nat.zero_le _, Nat.zero_le _⟩ rfl ?_
    refine lv_iload_n hx hb d_Clerk_gainOfHers_43 rfl (lv_at hl 0 rfl) ?_
    refine lv_icmp_gt (tgt := 51) hx hb d_Clerk_gainOfHers_44 (by decide) (fun c13 => ?_) (fun c13 => ?_)
    · replace hf := iteT c13 hf
      exact J51 () hf ls (lv_sub hl [1, 2, 3, 0] rfl)
    · replace hf := iteF c13 hf
      refine lv_iconst (v := (1 : Int32)) hx hb d_Clerk_gainOfHers_47 (by decide) ?_
      refine lv_goto (tgt := 52) hx hb d_Clerk_gainOfHers_48 (by decide) ?_
      exact J52 (1 : Int32) hf ls (lv_sub hl [1, 2, 3, 0] rfl)
def f_Clerk_restingPairs_J55 (x1 : Int32) (x2 : Int32) (K4 : Int32 × Int32 → Option (Int32)) (x8 : Int32) (x13 : Int32) : Option (Int32) :=
  (if x8 = 0 then nm (x2 + (1 : Int32)) (fun x15 => K4 (x1, x15)) else (if x13 = 0 then nm (x2 + (1 : Int32)) (fun x17 => K4 (x1, x17)) else nm (x1 ||| ((1 : Int32) <<< (x2 &&& 31))) (fun x18 => nm (x2 + (1 : Int32)) (fun x19 => K4 (x18, x19)))))
def f_Clerk_restingPairs_J31 (a1 : Int32) (sC : PW) (sH : PW) (x1 : Int32) (x2 : Int32) (K4 : Int32 × Int32 → Option (Int32)) (x8 : Int32) : Option (Int32) :=
  bd (f_Clerk_gainOfHers sC sH a1 x2) (fun x9 => bd (f_Clerk_gainOfHers sC sH a1 (x2 ^^^ (2 : Int32))) (fun x11 => (if x9 < x11 then f_Clerk_restingPairs_J55 x1 x2 K4 x8 (0 : Int32) else f_Clerk_restingPairs_J55 x1 x2 K4 x8 (1 : Int32))))
def f_Clerk_restingPairs_L4 (a1 : Int32) (sC : PW) (sH : PW) (K4 : Int32 × Int32 → Option (Int32)) : Int32 × Int32 → Option (Int32)
  | (x1, x2) =>
  (if (4 : Int32) ≤ x2 then some x1 else bd (f_Clerk_gainOfHis sC sH a1 x2) (fun x4 => bd (f_Clerk_gainOfHis sC sH a1 (x2 ^^^ (1 : Int32))) (fun x6 => (if x4 < x6 then f_Clerk_restingPairs_J31 a1 sC sH x1 x2 K4 (0 : Int32) else f_Clerk_restingPairs_J31 a1 sC sH x1 x2 K4 (1 : Int32)))))
def f_Clerk_restingPairs (sC : PW) (sH : PW) (a1 : Int32) : Option (Int32) :=
  loopF (f_Clerk_restingPairs_L4 a1 sC sH) 4000 ((0 : Int32), (0 : Int32))
set_option maxHeartbeats 4000000 in
set_option maxRecDepth 100000 in
theorem c_Clerk_restingPairs (l : Launch) (D : va_G) (ty : Nat → ClassId) (cA hA kA : Nat → Nat) (sC : PW) (sH : PW) (a1 : Int32) (rr : Int32) (hf : f_Clerk_restingPairs sC sH a1 = some rr) : Met l y_Clerk_restingPairs (Cond.code y_Clerk_restingPairs prog_3_method_7_code 6 ((Option.some FieldType.int)) :: lw_ok) { frames := 7, cells := 0, slots := 0, locals := 190 } (PcR D ty [.ref (cA 0), .int a1] (L_chk ty cA hA kA sC sH)) (QR (some (.int rr))) 0 0 (fun _ => False) := by
  refine hdR (by decide) (Nat.le_of_ble_eq_true rfl) ?_
  intro p e s m below meth c ls R args Q C0 hR hQ hP hK hl
  obtain ⟨hx, hb, hr, hlk, hml, hown, htt⟩ := id C0
  have hl : lv_has ls 6 [(0, .ref (cA 0)), (1, .int a1)] := hl
  unfold f_Clerk_restingPairs at hf
  refine lv_iconst (v := (0 : Int32)) hx hb d_Clerk_restingPairs_0 (by decide) ?_
  refine lv_istore_n (lv' := [(2, .int (0 : Int32)), (0, .ref (cA 0)), (1, .int a1)]) hx hb d_Clerk_restingPairs_1 rfl hl (by decide) rfl (fun ls hl => ?_)
  refine lv_iconst (v := (0 : Int32)) hx hb d_Clerk_restingPairs_2 (by decide) ?_
  refine lv_istore_n (lv' := [(3, .int (0 : Int32)), (2, .int (0 : Int32)), (0, .ref (cA 0)), (1, .int a1)]) hx hb d_Clerk_restingPairs_3 rfl hl (by decide) rfl (fun ls hl => ?_)
  have B4 : ∀ (n : Nat) (x : Int32 × Int32), loopF (f_Clerk_restingPairs_L4 a1 sC sH) n x = some rr → ∀ ls : Array Slot, lv_has ls 6 [(0, .ref (cA 0)), (1, .int a1), (2, .int (x.1)), (3, .int (x.2))] → W p l e R s m args below meth c s.heap [] 0 0 Q (F0 m 4 ls []) := by
    refine loopW (fun (x : Int32 × Int32) => ∀ ls : Array Slot, lv_has ls 6 [(0, .ref (cA 0)), (1, .int a1), (2, .int (x.1)), (3, .int (x.2))] → W p l e R s m args below meth c s.heap [] 0 0 Q (F0 m 4 ls [])) ?_
    intro K4 hK4 x hf
    obtain ⟨x1, x2⟩ := x
    rw [f_Clerk_restingPairs_L4] at hf
    intro ls hl
    have hl : lv_has ls 6 [(0, .ref (cA 0)), (1, .int a1), (2, .int x1), (3, .int x2)] := hl
    show W p l e R s m args below meth c s.heap [] 0 0 Q (F0 m 4 ls [])
    refine lv_iload_n hx hb d_Clerk_restingPairs_4 rfl (lv_at hl 3 rfl) ?_
    refine lv_iconst (v := (4 : Int32)) hx hb d_Clerk_restingPairs_5 (by decide) ?_
    refine lv_icmp_ge (tgt := 79) hx hb d_Clerk_restingPairs_6 (by decide) (fun c3 => ?_) (fun c3 => ?_)
    · replace hf := iteT c3 hf
      refine lv_iload_n hx hb d_Clerk_restingPairs_79 rfl (lv_at hl 2 rfl) ?_
      obtain rfl := sj1 hf
      exact retR C0 (narI _) hQ d_Clerk_restingPairs_80
    · replace hf := iteF c3 hf
      refine lv_aload_n hx hb d_Clerk_restingPairs_9 rfl (lv_at hl 0 rfl) ?_
      refine lv_iload_n hx hb d_Clerk_restingPairs_10 rfl (lv_at hl 1 rfl) ?_
      refine lv_iload_n hx hb d_Clerk_restingPairs_11 rfl (lv_at hl 3 rfl) ?_
      obtain ⟨x4, h5, hf⟩ := bdE hf
      refine vR (q0 := 0) (ci := 8) (rest := []) C0 (c_Clerk_gainOfHis l D ty cA hA kA sC sH a1 x2 x4 h5) k_634 cal_Clerk_gainOfHis hK hP rfl rfl rfl ⟨by rw [hR]; decide, by rw [hR]; decide⟩ rfl rfl rfl hl.1 rfl (Nat.le_of_ble_eq_true rfl) d_Clerk_restingPairs_12 ⟨Nat.zero_le _, Nat.zero_le _⟩ rfl ?_
      refine lv_aload_n hx hb d_Clerk_restingPairs_15 rfl (lv_at hl 0 rfl) ?_
      refine lv_iload_n hx hb d_Clerk_restingPairs_16 rfl (lv_at hl 1 rfl) ?_
      refine lv_iload_n hx hb d_Clerk_restingPairs_17 rfl (lv_at hl 3 rfl) ?_
      refine lv_iconst (v := (1 : Int32)) hx hb d_Clerk_restingPairs_18 (by decide) ?_
      refine lv_ixor hx hb d_Clerk_restingPairs_19 ?_
      obtain ⟨x6, h7, hf⟩ := bdE hf
      refine vR (q0 := 0) (ci := 8) (rest := [.int x4]) C0 (c_Clerk_gainOfHis l D ty cA hA kA sC sH a1 (x2 ^^^ (1 : Int32)) x6 h7) k_634 cal_Clerk_gainOfHis hK hP rfl rfl rfl ⟨by rw [hR]; decide, by rw [hR]; decide⟩ rfl rfl rfl hl.1 rfl (Nat.le_of_ble_eq_true rfl) d_Clerk_restingPairs_20 ⟨Nat.zero_le _, Nat.zero_le _⟩ rfl ?_
      have J31 : ∀ (x8 : Int32), f_Clerk_restingPairs_J31 a1 sC sH x1 x2 K4 x8 = some rr → ∀ ls : Array Slot, lv_has ls 6 [(0, .ref (cA 0)), (1, .int a1), (2, .int x1), (3, .int x2)] → W p l e R s m args below meth c s.heap [] 0 0 Q (F0 m 31 ls [.int x8]) := by
        intro x8 hf ls hl
        unfold f_Clerk_restingPairs_J31 at hf
        refine lv_istore (lv' := [(4, .int x8), (0, .ref (cA 0)), (1, .int a1), (2, .int x1), (3, .int x2)]) hx hb d_Clerk_restingPairs_31 hl (by decide) rfl (fun ls hl => ?_)
        refine lv_aload_n hx hb d_Clerk_restingPairs_33 rfl (lv_at hl 1 rfl) ?_
        refine lv_iload_n hx hb d_Clerk_restingPairs_34 rfl (lv_at hl 2 rfl) ?_
        refine lv_iload_n hx hb d_Clerk_restingPairs_35 rfl (lv_at hl 4 rfl) ?_
        obtain ⟨x9, h10, hf⟩ := bdE hf
        refine vR (q0 := 0) (ci := 8) (rest := []) C0 (c_Clerk_gainOfHers l D ty cA hA kA sC sH a1 x2 x9 h10) k_643 cal_Clerk_gainOfHers hK hP rfl rfl rfl ⟨by rw [hR]; decide, by rw [hR]; decide⟩ rfl rfl rfl hl.1 rfl (Nat.le_of_ble_eq_true rfl) d_Clerk_restingPairs_36 ⟨Nat.zero_le _, Nat.zero_le _⟩ rfl ?_
        refine lv_aload_n hx hb d_Clerk_restingPairs_39 rfl (lv_at hl 1 rfl) ?_
        refine lv_iload_n hx hb d_Clerk_restingPairs_40 rfl (lv_at hl 2 rfl) ?_
        refine lv_iload_n hx hb d_Clerk_restingPairs_41 rfl (lv_at hl 4 rfl) ?_
        refine lv_iconst (v := (2 : Int32)) hx hb d_Clerk_restingPairs_42 (by decide) ?_
        refine lv_ixor hx hb d_Clerk_restingPairs_43 ?_
        obtain ⟨x11, h12, hf⟩ := bdE hf
        refine vR (q0 := 0) (ci := 8) (rest := [.int x9]) C0 (c_Clerk_gainOfHers l D ty cA hA kA sC sH a1 (x2 ^^^ (2 : Int32)) x11 h12) k_643 cal_Clerk_gainOfHers hK hP rfl rfl rfl ⟨by rw [hR]; decide, by rw [hR]; decide⟩ rfl rfl rfl hl.1 rfl (Nat.le_of_ble_eq_true rfl) d_Clerk_restingPairs_44 ⟨Nat.zero_le _, Nat.zero_le _⟩ rfl ?_
        have J55 : ∀ (x13 : Int32), f_Clerk_restingPairs_J55 x1 x2 K4 x8 x13 = some rr → ∀ ls : Array Slot, lv_has ls 6 [(0, .ref (cA 0)), (1, .int a1), (2, .int x1), (3, .int x2), (4, .int x8)] → W p l e R s m args below meth c s.heap [] 0 0 Q (F0 m 55 ls [.int x13]) := by
          intro x13 hf ls hl
          unfold f_Clerk_restingPairs_J55 at hf
          refine lv_istore (lv' := [(5, .int x13), (0, .ref (cA 0)), (1, .int a1), (2, .int x1), (3, .int x2), (4, .int x8)]) hx hb d_Clerk_restingPairs_55 hl (by decide) rfl (fun ls hl => ?_)
          refine lv_iload hx hb d_Clerk_restingPairs_57 (lv_at hl 5 rfl) ?_
          refine lv_if_eq (tgt := 73) hx hb d_Clerk_restingPairs_59 (by decide) (fun c14 => ?_) (fun c14 => ?_)
          · replace hf := iteT c14 hf
            obtain ⟨x15, e_x15⟩ : ∃ z : Int32, z = (x2 + (1 : Int32)) := ⟨_, rfl⟩
            replace hf := nmE hf e_x15
            refine lv_iinc (v := x15) (lv' := [(3, .int x15), (5, .int x13), (0, .ref (cA 0)), (1, .int a1), (2, .int x1), (4, .int x8)]) hx hb d_Clerk_restingPairs_73 hl (k := 4) rfl (by rw [e_x15]; rfl) (by decide) rfl (fun ls hl => ?_)
            refine lv_goto (tgt := 4) hx hb d_Clerk_restingPairs_76 (by decide) ?_
            exact hK4 (x1, x15) hf ls (lv_sub hl [2, 3, 4, 0] rfl)
          · replace hf := iteF c14 hf
            refine lv_iload hx hb d_Clerk_restingPairs_62 (lv_at hl 0 rfl) ?_
            refine lv_if_eq (tgt := 73) hx hb d_Clerk_restingPairs_64 (by decide) (fun c16 => ?_) (fun c16 => ?_)
            · replace hf := iteT c16 hf
              obtain ⟨x17, e_x17⟩ : ∃ z : Int32, z = (x2 + (1 : Int32)) := ⟨_, rfl⟩
              replace hf := nmE hf e_x17
              refine lv_iinc (v := x17) (lv' := [(3, .int x17), (5, .int x13), (0, .ref (cA 0)), (1, .int a1), (2, .int x1), (4, .int x8)]) hx hb d_Clerk_restingPairs_73 hl (k := 4) rfl (by rw [e_x17]; rfl) (by decide) rfl (fun ls hl => ?_)
              refine lv_goto (tgt := 4) hx hb d_Clerk_restingPairs_76 (by decide) ?_
              exact hK4 (x1, x17) hf ls (lv_sub hl [2, 3, 4, 0] rfl)
            · replace hf := iteF c16 hf
              refine lv_iload_n hx hb d_Clerk_restingPairs_67 rfl (lv_at hl 3 rfl) ?_
              refine lv_iconst (v := (1 : Int32)) hx hb d_Clerk_restingPairs_68 (by decide) ?_
              refine lv_iload_n hx hb d_Clerk_restingPairs_69 rfl (lv_at hl 4 rfl) ?_
              refine lv_ishl hx hb d_Clerk_restingPairs_70 ?_
              refine lv_ior hx hb d_Clerk_restingPairs_71 ?_
              refine lv_topi (fun x18 e_x18 => ?_)
              replace hf := nmE hf e_x18
              refine lv_istore_n (lv' := [(2, .int x18), (5, .int x13), (0, .ref (cA 0)), (1, .int a1), (3, .int x2), (4, .int x8)]) hx hb d_Clerk_restingPairs_72 rfl hl (by decide) rfl (fun ls hl => ?_)
              obtain ⟨x19, e_x19⟩ : ∃ z : Int32, z = (x2 + (1 : Int32)) := ⟨_, rfl⟩
              replace hf := nmE hf e_x19
              refine lv_iinc (v := x19) (lv' := [(3, .int x19), (2, .int x18), (5, .int x13), (0, .ref (cA 0)), (1, .int a1), (4, .int x8)]) hx hb d_Clerk_restingPairs_73 hl (k := 4) rfl (by rw [e_x19]; rfl) (by decide) rfl (fun ls hl => ?_)
              refine lv_goto (tgt := 4) hx hb d_Clerk_restingPairs_76 (by decide) ?_
              exact hK4 (x18, x19) hf ls (lv_sub hl [3, 4, 1, 0] rfl)
        refine lv_icmp_lt (tgt := 54) hx hb d_Clerk_restingPairs_47 (by decide) (fun c20 => ?_) (fun c20 => ?_)
        · replace hf := iteT c20 hf
          refine lv_iconst (v := (0 : Int32)) hx hb d_Clerk_restingPairs_54 (by decide) ?_
          exact J55 (0 : Int32) hf ls (lv_sub hl [1, 2, 3, 4, 0] rfl)
        · replace hf := iteF c20 hf
          refine lv_iconst (v := (1 : Int32)) hx hb d_Clerk_restingPairs_50 (by decide) ?_
          refine lv_goto (tgt := 55) hx hb d_Clerk_restingPairs_51 (by decide) ?_
          exact J55 (1 : Int32) hf ls (lv_sub hl [1, 2, 3, 4, 0] rfl)
      refine lv_icmp_lt (tgt := 30) hx hb d_Clerk_restingPairs_23 (by decide) (fun c21 => ?_) (fun c21 => ?_)
      · replace hf := iteT c21 hf
        refine lv_iconst (v := (0 : Int32)) hx hb d_Clerk_restingPairs_30 (by decide) ?_
        exact J31 (0 : Int32) hf ls (hl)
      · replace hf := iteF c21 hf
        refine lv_iconst (v := (1 : Int32)) hx hb d_Clerk_restingPairs_26 (by decide) ?_
        refine lv_goto (tgt := 31) hx hb d_Clerk_restingPairs_27 (by decide) ?_
        exact J31 (1 : Int32) hf ls (hl)
  exact B4 4000 ((0 : Int32), (0 : Int32)) hf ls (lv_sub hl [2, 3, 1, 0] rfl)
def f_Clerk_fitsNotes_J53 (a1 : Int32) (a2 : Int32) (sH : PW) (x1 : Int32) (K2 : Int32 → Option (Int32)) (x3 : Int32) (x8 : Int32) : Option (Int32) :=
  gd (okI (x3 + (1 : Int32)) 30) (gd (okI (x3 + (2 : Int32)) 30) (bd (f_House_priceAs sH a1 a2 (sH 5 ((x3 + (1 : Int32))).toNatClampNeg) (sH 5 ((x3 + (2 : Int32))).toNatClampNeg) x8) (fun x11 => gd (okI (x3 + (4 : Int32)) 30) ((if x11 = (sH 5 ((x3 + (4 : Int32))).toNatClampNeg) then nm (x1 + (1 : Int32)) (fun x15 => K2 x15) else some (0 : Int32))))))
def f_Clerk_fitsNotes_L2 (a1 : Int32) (a2 : Int32) (sH : PW) (K2 : Int32 → Option (Int32)) : Int32 → Option (Int32)
  | x1 =>
  (if (sH 13 0) ≤ x1 then some (1 : Int32) else nm (x1 * (5 : Int32)) (fun x3 => gd (okI x3 30) ((if (sH 5 (x3).toNatClampNeg) = a2 then gd (okI (x3 + (3 : Int32)) 30) ((if (sH 5 ((x3 + (3 : Int32))).toNatClampNeg) = (1 : Int32) then f_Clerk_fitsNotes_J53 a1 a2 sH x1 K2 x3 (1 : Int32) else f_Clerk_fitsNotes_J53 a1 a2 sH x1 K2 x3 (0 : Int32))) else nm (x1 + (1 : Int32)) (fun x6 => K2 x6)))))
def f_Clerk_fitsNotes (sC : PW) (sH : PW) (a1 : Int32) (a2 : Int32) : Option (Int32) :=
  loopF (f_Clerk_fitsNotes_L2 a1 a2 sH) 4000 (0 : Int32)
set_option maxHeartbeats 4000000 in
set_option maxRecDepth 100000 in
theorem c_Clerk_fitsNotes (l : Launch) (D : va_G) (ty : Nat → ClassId) (cA hA kA : Nat → Nat) (sC : PW) (sH : PW) (a1 : Int32) (a2 : Int32) (rr : Int32) (hf : f_Clerk_fitsNotes sC sH a1 a2 = some rr) : Met l y_Clerk_fitsNotes (Cond.code y_Clerk_fitsNotes prog_3_method_12_code 7 ((Option.some FieldType.boolean)) :: lw_ok) { frames := 5, cells := 0, slots := 0, locals := 145 } (PcR D ty [.ref (cA 0), .int a1, .int a2] (L_chk ty cA hA kA sC sH)) (QR (some (.int rr))) 0 0 (fun _ => False) := by
  refine hdR (by decide) (Nat.le_of_ble_eq_true rfl) ?_
  intro p e s m below meth c ls R args Q C0 hR hQ hP hK hl
  obtain ⟨hx, hb, hr, hlk, hml, hown, htt⟩ := id C0
  have hl : lv_has ls 7 [(0, .ref (cA 0)), (1, .int a1), (2, .int a2)] := hl
  unfold f_Clerk_fitsNotes at hf
  refine lv_iconst (v := (0 : Int32)) hx hb d_Clerk_fitsNotes_0 (by decide) ?_
  refine lv_istore_n (lv' := [(3, .int (0 : Int32)), (0, .ref (cA 0)), (1, .int a1), (2, .int a2)]) hx hb d_Clerk_fitsNotes_1 rfl hl (by decide) rfl (fun ls hl => ?_)
  have B2 : ∀ (n : Nat) (x : Int32), loopF (f_Clerk_fitsNotes_L2 a1 a2 sH) n x = some rr → ∀ ls : Array Slot, lv_has ls 7 [(0, .ref (cA 0)), (1, .int a1), (2, .int a2), (3, .int x)] → W p l e R s m args below meth c s.heap [] 0 0 Q (F0 m 2 ls []) := by
    refine loopW (fun (x : Int32) => ∀ ls : Array Slot, lv_has ls 7 [(0, .ref (cA 0)), (1, .int a1), (2, .int a2), (3, .int x)] → W p l e R s m args below meth c s.heap [] 0 0 Q (F0 m 2 ls [])) ?_
    intro K2 hK2 x1 hf
    rw [f_Clerk_fitsNotes_L2] at hf
    intro ls hl
    have hl : lv_has ls 7 [(0, .ref (cA 0)), (1, .int a1), (2, .int a2), (3, .int x1)] := hl
    show W p l e R s m args below meth c s.heap [] 0 0 Q (F0 m 2 ls [])
    refine lv_iload_n hx hb d_Clerk_fitsNotes_2 rfl (lv_at hl 3 rfl) ?_
    refine lv_aload_n hx hb d_Clerk_fitsNotes_3 rfl (lv_at hl 0 rfl) ?_
    refine va_get (D := D) (ci := 8) (v := .ref (hA 0)) (C := "BedFrontier$Clerk") (T := T_Clerk) (N := 2) hx hb htt i_Clerk hown hK.1 hP 0 rfl rfl 0 (by decide) (htt _ k_191) (fun _ h9 => h9) rfl d_Clerk_fitsNotes_4 ?_
    refine va_get (D := D) (ci := 6) (v := .int (sH 13 0)) (C := "BedFrontier$House") (T := T_House) (N := 15) hx hb htt i_House hown hK.1 hP 2 rfl rfl 13 (by decide) (htt _ k_118) (fun _ h9 => h9) rfl d_Clerk_fitsNotes_7 ?_
    refine lv_icmp_ge (tgt := 117) hx hb d_Clerk_fitsNotes_10 (by decide) (fun c2 => ?_) (fun c2 => ?_)
    · replace hf := iteT c2 hf
      refine lv_iconst (v := (1 : Int32)) hx hb d_Clerk_fitsNotes_117 (by decide) ?_
      obtain rfl := sj1 hf
      exact retR C0 rfl hQ d_Clerk_fitsNotes_118
    · replace hf := iteF c2 hf
      refine lv_iload_n hx hb d_Clerk_fitsNotes_13 rfl (lv_at hl 3 rfl) ?_
      refine lv_iconst (v := (5 : Int32)) hx hb d_Clerk_fitsNotes_14 (by decide) ?_
      refine lv_imul hx hb d_Clerk_fitsNotes_15 ?_
      refine lv_topi (fun x3 e_x3 => ?_)
      replace hf := nmE hf e_x3
      refine lv_istore (lv' := [(4, .int x3), (0, .ref (cA 0)), (1, .int a1), (2, .int a2), (3, .int x1)]) hx hb d_Clerk_fitsNotes_16 hl (by decide) rfl (fun ls hl => ?_)
      refine lv_aload_n hx hb d_Clerk_fitsNotes_18 rfl (lv_at hl 1 rfl) ?_
      refine va_get (D := D) (ci := 8) (v := .ref (hA 0)) (C := "BedFrontier$Clerk") (T := T_Clerk) (N := 2) hx hb htt i_Clerk hown hK.1 hP 0 rfl rfl 0 (by decide) (htt _ k_191) (fun _ h9 => h9) rfl d_Clerk_fitsNotes_19 ?_
      refine va_get (D := D) (ci := 6) (v := .ref (hA 6)) (C := "BedFrontier$House") (T := T_House) (N := 15) hx hb htt i_House hown hK.1 hP 2 rfl rfl 5 (by decide) (htt _ k_94) (fun _ h9 => h9) rfl d_Clerk_fitsNotes_22 ?_
      refine lv_iload hx hb d_Clerk_fitsNotes_25 (lv_at hl 0 rfl) ?_
      obtain ⟨g4, hf⟩ := gdE hf
      refine va_iald hx hb hK.1 hP 7 0 rfl rfl (okI_in g4) d_Clerk_fitsNotes_27 ?_
      refine lv_iload_n hx hb d_Clerk_fitsNotes_28 rfl (lv_at hl 3 rfl) ?_
      refine lv_icmp_ne (tgt := 111) hx hb d_Clerk_fitsNotes_29 (by decide) (fun c5 => ?_) (fun c5 => ?_)
      · replace hf := iteF c5 hf
        obtain ⟨x6, e_x6⟩ : ∃ z : Int32, z = (x1 + (1 : Int32)) := ⟨_, rfl⟩
        replace hf := nmE hf e_x6
        refine lv_iinc (v := x6) (lv' := [(3, .int x6), (4, .int x3), (0, .ref (cA 0)), (1, .int a1), (2, .int a2)]) hx hb d_Clerk_fitsNotes_111 hl (k := 4) rfl (by rw [e_x6]; rfl) (by decide) rfl (fun ls hl => ?_)
        refine lv_goto (tgt := 2) hx hb d_Clerk_fitsNotes_114 (by decide) ?_
        exact hK2 x6 hf ls (lv_sub hl [2, 3, 4, 0] rfl)
      · replace hf := iteT c5 hf
        refine lv_aload_n hx hb d_Clerk_fitsNotes_32 rfl (lv_at hl 1 rfl) ?_
        refine va_get (D := D) (ci := 8) (v := .ref (hA 0)) (C := "BedFrontier$Clerk") (T := T_Clerk) (N := 2) hx hb htt i_Clerk hown hK.1 hP 0 rfl rfl 0 (by decide) (htt _ k_191) (fun _ h9 => h9) rfl d_Clerk_fitsNotes_33 ?_
        refine va_get (D := D) (ci := 6) (v := .ref (hA 6)) (C := "BedFrontier$House") (T := T_House) (N := 15) hx hb htt i_House hown hK.1 hP 2 rfl rfl 5 (by decide) (htt _ k_94) (fun _ h9 => h9) rfl d_Clerk_fitsNotes_36 ?_
        refine lv_iload hx hb d_Clerk_fitsNotes_39 (lv_at hl 0 rfl) ?_
        refine lv_iconst (v := (3 : Int32)) hx hb d_Clerk_fitsNotes_41 (by decide) ?_
        refine lv_iadd hx hb d_Clerk_fitsNotes_42 ?_
        obtain ⟨g7, hf⟩ := gdE hf
        refine va_iald hx hb hK.1 hP 7 0 rfl rfl (okI_in g7) d_Clerk_fitsNotes_43 ?_
        refine lv_iconst (v := (1 : Int32)) hx hb d_Clerk_fitsNotes_44 (by decide) ?_
        have J53 : ∀ (x8 : Int32), f_Clerk_fitsNotes_J53 a1 a2 sH x1 K2 x3 x8 = some rr → ∀ ls : Array Slot, lv_has ls 7 [(0, .ref (cA 0)), (1, .int a1), (2, .int a2), (3, .int x1), (4, .int x3)] → W p l e R s m args below meth c s.heap [] 0 0 Q (F0 m 53 ls [.int x8]) := by
          intro x8 hf ls hl
          unfold f_Clerk_fitsNotes_J53 at hf
          refine lv_istore (lv' := [(5, .int x8), (0, .ref (cA 0)), (1, .int a1), (2, .int a2), (3, .int x1), (4, .int x3)]) hx hb d_Clerk_fitsNotes_53 hl (by decide) rfl (fun ls hl => ?_)
          refine lv_aload_n hx hb d_Clerk_fitsNotes_55 rfl (lv_at hl 1 rfl) ?_
          refine va_get (D := D) (ci := 8) (v := .ref (hA 0)) (C := "BedFrontier$Clerk") (T := T_Clerk) (N := 2) hx hb htt i_Clerk hown hK.1 hP 0 rfl rfl 0 (by decide) (htt _ k_191) (fun _ h9 => h9) rfl d_Clerk_fitsNotes_56 ?_
          refine lv_iload_n hx hb d_Clerk_fitsNotes_59 rfl (lv_at hl 2 rfl) ?_
          refine lv_iload_n hx hb d_Clerk_fitsNotes_60 rfl (lv_at hl 3 rfl) ?_
          refine lv_aload_n hx hb d_Clerk_fitsNotes_61 rfl (lv_at hl 1 rfl) ?_
          refine va_get (D := D) (ci := 8) (v := .ref (hA 0)) (C := "BedFrontier$Clerk") (T := T_Clerk) (N := 2) hx hb htt i_Clerk hown hK.1 hP 0 rfl rfl 0 (by decide) (htt _ k_191) (fun _ h9 => h9) rfl d_Clerk_fitsNotes_62 ?_
          refine va_get (D := D) (ci := 6) (v := .ref (hA 6)) (C := "BedFrontier$House") (T := T_House) (N := 15) hx hb htt i_House hown hK.1 hP 2 rfl rfl 5 (by decide) (htt _ k_94) (fun _ h9 => h9) rfl d_Clerk_fitsNotes_65 ?_
          refine lv_iload hx hb d_Clerk_fitsNotes_68 (lv_at hl 5 rfl) ?_
          refine lv_iconst (v := (1 : Int32)) hx hb d_Clerk_fitsNotes_70 (by decide) ?_
          refine lv_iadd hx hb d_Clerk_fitsNotes_71 ?_
          obtain ⟨g9, hf⟩ := gdE hf
          refine va_iald hx hb hK.1 hP 7 0 rfl rfl (okI_in g9) d_Clerk_fitsNotes_72 ?_
          refine lv_aload_n hx hb d_Clerk_fitsNotes_73 rfl (lv_at hl 1 rfl) ?_
          refine va_get (D := D) (ci := 8) (v := .ref (hA 0)) (C := "BedFrontier$Clerk") (T := T_Clerk) (N := 2) hx hb htt i_Clerk hown hK.1 hP 0 rfl rfl 0 (by decide) (htt _ k_191) (fun _ h9 => h9) rfl d_Clerk_fitsNotes_74 ?_
          refine va_get (D := D) (ci := 6) (v := .ref (hA 6)) (C := "BedFrontier$House") (T := T_House) (N := 15) hx hb htt i_House hown hK.1 hP 2 rfl rfl 5 (by decide) (htt _ k_94) (fun _ h9 => h9) rfl d_Clerk_fitsNotes_77 ?_
          refine lv_iload hx hb d_Clerk_fitsNotes_80 (lv_at hl 5 rfl) ?_
          refine lv_iconst (v := (2 : Int32)) hx hb d_Clerk_fitsNotes_82 (by decide) ?_
          refine lv_iadd hx hb d_Clerk_fitsNotes_83 ?_
          obtain ⟨g10, hf⟩ := gdE hf
          refine va_iald hx hb hK.1 hP 7 0 rfl rfl (okI_in g10) d_Clerk_fitsNotes_84 ?_
          refine lv_iload hx hb d_Clerk_fitsNotes_85 (lv_at hl 0 rfl) ?_
          obtain ⟨x11, h12, hf⟩ := bdE hf
          refine vR (q0 := 0) (ci := 6) (rest := []) C0 (c_House_priceAs l D ty hA kA sH a1 a2 (sH 5 ((x3 + (1 : Int32))).toNatClampNeg) (sH 5 ((x3 + (2 : Int32))).toNatClampNeg) x8 x11 h12) k_671 cal_House_priceAs hK (hP.sub (ws' := (L_hk ty hA kA sH)) [2, 3, 4, 5, 6, 7, 8, 9, 10, 11, 12, 13, 14, 15] rfl) rfl rfl rfl ⟨by rw [hR]; decide, by rw [hR]; decide⟩ rfl rfl rfl hl.1 rfl (Nat.le_of_ble_eq_true rfl) d_Clerk_fitsNotes_87 ⟨Nat.zero_le _, Nat.zero_le _⟩ rfl ?_
          refine lv_istore (lv' := [(6, .int x11), (5, .int x8), (0, .ref (cA 0)), (1, .int a1), (2, .int a2), (3, .int x1), (4, .int x3)]) hx hb d_Clerk_fitsNotes_90 hl (by decide) rfl (fun ls hl => ?_)
          refine lv_iload hx hb d_Clerk_fitsNotes_92 (lv_at hl 0 rfl) ?_
          refine lv_aload_n hx hb d_Clerk_fitsNotes_94 rfl (lv_at hl 2 rfl) ?_
          refine va_get (D := D) (ci := 8) (v := .ref (hA 0)) (C := "BedFrontier$Clerk") (T := T_Clerk) (N := 2) hx hb htt i_Clerk hown hK.1 hP 0 rfl rfl 0 (by decide) (htt _ k_191) (fun _ h9 => h9) rfl d_Clerk_fitsNotes_95 ?_
          refine va_get (D := D) (ci := 6) (v := .ref (hA 6)) (C := "BedFrontier$House") (T := T_House) (N := 15) hx hb htt i_House hown hK.1 hP 2 rfl rfl 5 (by decide) (htt _ k_94) (fun _ h9 => h9) rfl d_Clerk_fitsNotes_98 ?_
          refine lv_iload hx hb d_Clerk_fitsNotes_101 (lv_at hl 6 rfl) ?_
          refine lv_iconst (v := (4 : Int32)) hx hb d_Clerk_fitsNotes_103 (by decide) ?_
          refine lv_iadd hx hb d_Clerk_fitsNotes_104 ?_
          obtain ⟨g13, hf⟩ := gdE hf
          refine va_iald hx hb hK.1 hP 7 0 rfl rfl (okI_in g13) d_Clerk_fitsNotes_105 ?_
          refine lv_icmp_eq (tgt := 111) hx hb d_Clerk_fitsNotes_106 (by decide) (fun c14 => ?_) (fun c14 => ?_)
          · replace hf := iteT c14 hf
            obtain ⟨x15, e_x15⟩ : ∃ z : Int32, z = (x1 + (1 : Int32)) := ⟨_, rfl⟩
            replace hf := nmE hf e_x15
            refine lv_iinc (v := x15) (lv' := [(3, .int x15), (6, .int x11), (5, .int x8), (0, .ref (cA 0)), (1, .int a1), (2, .int a2), (4, .int x3)]) hx hb d_Clerk_fitsNotes_111 hl (k := 5) rfl (by rw [e_x15]; rfl) (by decide) rfl (fun ls hl => ?_)
            refine lv_goto (tgt := 2) hx hb d_Clerk_fitsNotes_114 (by decide) ?_
            exact hK2 x15 hf ls (lv_sub hl [3, 4, 5, 0] rfl)
          · replace hf := iteF c14 hf
            refine lv_iconst (v := (0 : Int32)) hx hb d_Clerk_fitsNotes_109 (by decide) ?_
            obtain rfl := sj1 hf
            exact retR C0 rfl hQ d_Clerk_fitsNotes_110
        refine lv_icmp_ne (tgt := 52) hx hb d_Clerk_fitsNotes_45 (by decide) (fun c16 => ?_) (fun c16 => ?_)
        · replace hf := iteF c16 hf
          refine lv_iconst (v := (0 : Int32)) hx hb d_Clerk_fitsNotes_52 (by decide) ?_
          exact J53 (0 : Int32) hf ls (lv_sub hl [1, 2, 3, 4, 0] rfl)
        · replace hf := iteT c16 hf
          refine lv_iconst (v := (1 : Int32)) hx hb d_Clerk_fitsNotes_48 (by decide) ?_
          refine lv_goto (tgt := 53) hx hb d_Clerk_fitsNotes_49 (by decide) ?_
          exact J53 (1 : Int32) hf ls (lv_sub hl [1, 2, 3, 4, 0] rfl)
  exact B2 4000 (0 : Int32) hf ls (lv_sub hl [1, 2, 3, 0] rfl)
def f_Clerk_kindsThatFit_L4 (a1 : Int32) (sC : PW) (sH : PW) (K4 : Int32 × Int32 → Option (Int32)) : Int32 × Int32 → Option (Int32)
  | (x1, x2) =>
  (if (6 : Int32) ≤ x2 then some x1 else bd (f_Clerk_fitsNotes sC sH x2 a1) (fun x4 => (if x4 = 0 then nm (x2 + (1 : Int32)) (fun x7 => K4 (x1, x7)) else nm (x1 ||| ((1 : Int32) <<< (x2 &&& 31))) (fun x8 => nm (x2 + (1 : Int32)) (fun x9 => K4 (x8, x9))))))
def f_Clerk_kindsThatFit (sC : PW) (sH : PW) (a1 : Int32) : Option (Int32) :=
  loopF (f_Clerk_kindsThatFit_L4 a1 sC sH) 4000 ((0 : Int32), (0 : Int32))
set_option maxHeartbeats 4000000 in
set_option maxRecDepth 100000 in
theorem c_Clerk_kindsThatFit (l : Launch) (D : va_G) (ty : Nat → ClassId) (cA hA kA : Nat → Nat) (sC : PW) (sH : PW) (a1 : Int32) (rr : Int32) (hf : f_Clerk_kindsThatFit sC sH a1 = some rr) : Met l y_Clerk_kindsThatFit (Cond.code y_Clerk_kindsThatFit prog_3_method_11_code 4 ((Option.some FieldType.int)) :: lw_ok) { frames := 6, cells := 0, slots := 0, locals := 171 } (PcR D ty [.ref (cA 0), .int a1] (L_chk ty cA hA kA sC sH)) (QR (some (.int rr))) 0 0 (fun _ => False) := by
  refine hdR (by decide) (Nat.le_of_ble_eq_true rfl) ?_
  intro p e s m below meth c ls R args Q C0 hR hQ hP hK hl
  obtain ⟨hx, hb, hr, hlk, hml, hown, htt⟩ := id C0
  have hl : lv_has ls 4 [(0, .ref (cA 0)), (1, .int a1)] := hl
  unfold f_Clerk_kindsThatFit at hf
  refine lv_iconst (v := (0 : Int32)) hx hb d_Clerk_kindsThatFit_0 (by decide) ?_
  refine lv_istore_n (lv' := [(2, .int (0 : Int32)), (0, .ref (cA 0)), (1, .int a1)]) hx hb d_Clerk_kindsThatFit_1 rfl hl (by decide) rfl (fun ls hl => ?_)
  refine lv_iconst (v := (0 : Int32)) hx hb d_Clerk_kindsThatFit_2 (by decide) ?_
  refine lv_istore_n (lv' := [(3, .int (0 : Int32)), (2, .int (0 : Int32)), (0, .ref (cA 0)), (1, .int a1)]) hx hb d_Clerk_kindsThatFit_3 rfl hl (by decide) rfl (fun ls hl => ?_)
  have B4 : ∀ (n : Nat) (x : Int32 × Int32), loopF (f_Clerk_kindsThatFit_L4 a1 sC sH) n x = some rr → ∀ ls : Array Slot, lv_has ls 4 [(0, .ref (cA 0)), (1, .int a1), (2, .int (x.1)), (3, .int (x.2))] → W p l e R s m args below meth c s.heap [] 0 0 Q (F0 m 4 ls []) := by
    refine loopW (fun (x : Int32 × Int32) => ∀ ls : Array Slot, lv_has ls 4 [(0, .ref (cA 0)), (1, .int a1), (2, .int (x.1)), (3, .int (x.2))] → W p l e R s m args below meth c s.heap [] 0 0 Q (F0 m 4 ls [])) ?_
    intro K4 hK4 x hf
    obtain ⟨x1, x2⟩ := x
    rw [f_Clerk_kindsThatFit_L4] at hf
    intro ls hl
    have hl : lv_has ls 4 [(0, .ref (cA 0)), (1, .int a1), (2, .int x1), (3, .int x2)] := hl
    show W p l e R s m args below meth c s.heap [] 0 0 Q (F0 m 4 ls [])
    refine lv_iload_n hx hb d_Clerk_kindsThatFit_4 rfl (lv_at hl 3 rfl) ?_
    refine lv_bipush (v := (6 : Int32)) hx hb d_Clerk_kindsThatFit_5 (by decide) ?_
    refine lv_icmp_ge (tgt := 31) hx hb d_Clerk_kindsThatFit_7 (by decide) (fun c3 => ?_) (fun c3 => ?_)
    · replace hf := iteT c3 hf
      refine lv_iload_n hx hb d_Clerk_kindsThatFit_31 rfl (lv_at hl 2 rfl) ?_
      obtain rfl := sj1 hf
      exact retR C0 (narI _) hQ d_Clerk_kindsThatFit_32
    · replace hf := iteF c3 hf
      refine lv_aload_n hx hb d_Clerk_kindsThatFit_10 rfl (lv_at hl 0 rfl) ?_
      refine lv_iload_n hx hb d_Clerk_kindsThatFit_11 rfl (lv_at hl 3 rfl) ?_
      refine lv_iload_n hx hb d_Clerk_kindsThatFit_12 rfl (lv_at hl 1 rfl) ?_
      obtain ⟨x4, h5, hf⟩ := bdE hf
      refine vR (q0 := 0) (ci := 8) (rest := []) C0 (c_Clerk_fitsNotes l D ty cA hA kA sC sH x2 a1 x4 h5) k_667 cal_Clerk_fitsNotes hK hP rfl rfl rfl ⟨by rw [hR]; decide, by rw [hR]; decide⟩ rfl rfl rfl hl.1 rfl (Nat.le_of_ble_eq_true rfl) d_Clerk_kindsThatFit_13 ⟨Nat.zero_le _, Nat.zero_le _⟩ rfl ?_
      refine lv_if_eq (tgt := 25) hx hb d_Clerk_kindsThatFit_16 (by decide) (fun c6 => ?_) (fun c6 => ?_)
      · replace hf := iteT c6 hf
        obtain ⟨x7, e_x7⟩ : ∃ z : Int32, z = (x2 + (1 : Int32)) := ⟨_, rfl⟩
        replace hf := nmE hf e_x7
        refine lv_iinc (v := x7) (lv' := [(3, .int x7), (0, .ref (cA 0)), (1, .int a1), (2, .int x1)]) hx hb d_Clerk_kindsThatFit_25 hl (k := 3) rfl (by rw [e_x7]; rfl) (by decide) rfl (fun ls hl => ?_)
        refine lv_goto (tgt := 4) hx hb d_Clerk_kindsThatFit_28 (by decide) ?_
        exact hK4 (x1, x7) hf ls (lv_sub hl [1, 2, 3, 0] rfl)
      · replace hf := iteF c6 hf
        refine lv_iload_n hx hb d_Clerk_kindsThatFit_19 rfl (lv_at hl 2 rfl) ?_
        refine lv_iconst (v := (1 : Int32)) hx hb d_Clerk_kindsThatFit_20 (by decide) ?_
        refine lv_iload_n hx hb d_Clerk_kindsThatFit_21 rfl (lv_at hl 3 rfl) ?_
        refine lv_ishl hx hb d_Clerk_kindsThatFit_22 ?_
        refine lv_ior hx hb d_Clerk_kindsThatFit_23 ?_
        refine lv_topi (fun x8 e_x8 => ?_)
        replace hf := nmE hf e_x8
        refine lv_istore_n (lv' := [(2, .int x8), (0, .ref (cA 0)), (1, .int a1), (3, .int x2)]) hx hb d_Clerk_kindsThatFit_24 rfl hl (by decide) rfl (fun ls hl => ?_)
        obtain ⟨x9, e_x9⟩ : ∃ z : Int32, z = (x2 + (1 : Int32)) := ⟨_, rfl⟩
        replace hf := nmE hf e_x9
        refine lv_iinc (v := x9) (lv' := [(3, .int x9), (2, .int x8), (0, .ref (cA 0)), (1, .int a1)]) hx hb d_Clerk_kindsThatFit_25 hl (k := 3) rfl (by rw [e_x9]; rfl) (by decide) rfl (fun ls hl => ?_)
        refine lv_goto (tgt := 4) hx hb d_Clerk_kindsThatFit_28 (by decide) ?_
        exact hK4 (x8, x9) hf ls (lv_sub hl [2, 3, 1, 0] rfl)
  exact B4 4000 ((0 : Int32), (0 : Int32)) hf ls (lv_sub hl [2, 3, 1, 0] rfl)
def f_Clerk_mostAlike_L16 (a1 : Int32) (sC : PW) (x1 : Int32) (x2 : Int32) (K4 : Int32 × Int32 → Option (Int32)) (K16 : Int32 × Int32 → Option (Int32)) : Int32 × Int32 → Option (Int32)
  | (x4, x5) =>
  (if (6 : Int32) ≤ x5 then nm (if x1 < x4 then x4 else x1) (fun x7 => nm (x2 + (1 : Int32)) (fun x8 => K4 (x7, x8))) else (if ((a1 >>> (x5 &&& 31)) &&& (1 : Int32)) = (1 : Int32) then gd (okI x5 6) (gd (okI x2 6) ((if (sC 1 (x5).toNatClampNeg) = (sC 1 (x2).toNatClampNeg) then nm (x4 + (1 : Int32)) (fun x15 => nm (x5 + (1 : Int32)) (fun x16 => K16 (x15, x16))) else nm (x5 + (1 : Int32)) (fun x14 => K16 (x4, x14))))) else nm (x5 + (1 : Int32)) (fun x10 => K16 (x4, x10))))
def f_Clerk_mostAlike_L4 (a1 : Int32) (sC : PW) (K4 : Int32 × Int32 → Option (Int32)) : Int32 × Int32 → Option (Int32)
  | (x1, x2) =>
  (if (6 : Int32) ≤ x2 then some x1 else loopF (f_Clerk_mostAlike_L16 a1 sC x1 x2 K4) 4000 ((0 : Int32), (0 : Int32)))
def f_Clerk_mostAlike (sC : PW) (a1 : Int32) : Option (Int32) :=
  loopF (f_Clerk_mostAlike_L4 a1 sC) 4000 ((0 : Int32), (0 : Int32))
set_option maxHeartbeats 4000000 in
set_option maxRecDepth 100000 in
theorem c_Clerk_mostAlike (l : Launch) (D : va_G) (ty : Nat → ClassId) (cA hA : Nat → Nat) (sC : PW) (a1 : Int32) (rr : Int32) (hf : f_Clerk_mostAlike sC a1 = some rr) : Met l y_Clerk_mostAlike (Cond.code y_Clerk_mostAlike prog_3_method_14_code 6 ((Option.some FieldType.int)) :: lw_ok) { frames := 1, cells := 0, slots := 0, locals := 40 } (PcR D ty [.ref (cA 0), .int a1] (L_c ty cA hA sC)) (QR (some (.int rr))) 0 0 (fun _ => False) := by
  refine hdR (by decide) (Nat.le_of_ble_eq_true rfl) ?_
  intro p e s m below meth c ls R args Q C0 hR hQ hP hK hl
  obtain ⟨hx, hb, hr, hlk, hml, hown, htt⟩ := id C0
  have hl : lv_has ls 6 [(0, .ref (cA 0)), (1, .int a1)] := hl
  unfold f_Clerk_mostAlike at hf
  refine lv_iconst (v := (0 : Int32)) hx hb d_Clerk_mostAlike_0 (by decide) ?_
  refine lv_istore_n (lv' := [(2, .int (0 : Int32)), (0, .ref (cA 0)), (1, .int a1)]) hx hb d_Clerk_mostAlike_1 rfl hl (by decide) rfl (fun ls hl => ?_)
  refine lv_iconst (v := (0 : Int32)) hx hb d_Clerk_mostAlike_2 (by decide) ?_
  refine lv_istore_n (lv' := [(3, .int (0 : Int32)), (2, .int (0 : Int32)), (0, .ref (cA 0)), (1, .int a1)]) hx hb d_Clerk_mostAlike_3 rfl hl (by decide) rfl (fun ls hl => ?_)
  have B4 : ∀ (n : Nat) (x : Int32 × Int32), loopF (f_Clerk_mostAlike_L4 a1 sC) n x = some rr → ∀ ls : Array Slot, lv_has ls 6 [(0, .ref (cA 0)), (1, .int a1), (2, .int (x.1)), (3, .int (x.2))] → W p l e R s m args below meth c s.heap [] 0 0 Q (F0 m 4 ls []) := by
    refine loopW (fun (x : Int32 × Int32) => ∀ ls : Array Slot, lv_has ls 6 [(0, .ref (cA 0)), (1, .int a1), (2, .int (x.1)), (3, .int (x.2))] → W p l e R s m args below meth c s.heap [] 0 0 Q (F0 m 4 ls [])) ?_
    intro K4 hK4 x hf
    obtain ⟨x1, x2⟩ := x
    rw [f_Clerk_mostAlike_L4] at hf
    intro ls hl
    have hl : lv_has ls 6 [(0, .ref (cA 0)), (1, .int a1), (2, .int x1), (3, .int x2)] := hl
    show W p l e R s m args below meth c s.heap [] 0 0 Q (F0 m 4 ls [])
    refine lv_iload_n hx hb d_Clerk_mostAlike_4 rfl (lv_at hl 3 rfl) ?_
    refine lv_bipush (v := (6 : Int32)) hx hb d_Clerk_mostAlike_5 (by decide) ?_
    refine lv_icmp_ge (tgt := 71) hx hb d_Clerk_mostAlike_7 (by decide) (fun c3 => ?_) (fun c3 => ?_)
    · replace hf := iteT c3 hf
      refine lv_iload_n hx hb d_Clerk_mostAlike_71 rfl (lv_at hl 2 rfl) ?_
      obtain rfl := sj1 hf
      exact retR C0 (narI _) hQ d_Clerk_mostAlike_72
    · replace hf := iteF c3 hf
      refine lv_iconst (v := (0 : Int32)) hx hb d_Clerk_mostAlike_10 (by decide) ?_
      refine lv_istore (lv' := [(4, .int (0 : Int32)), (0, .ref (cA 0)), (1, .int a1), (2, .int x1), (3, .int x2)]) hx hb d_Clerk_mostAlike_11 hl (by decide) rfl (fun ls hl => ?_)
      refine lv_iconst (v := (0 : Int32)) hx hb d_Clerk_mostAlike_13 (by decide) ?_
      refine lv_istore (lv' := [(5, .int (0 : Int32)), (4, .int (0 : Int32)), (0, .ref (cA 0)), (1, .int a1), (2, .int x1), (3, .int x2)]) hx hb d_Clerk_mostAlike_14 hl (by decide) rfl (fun ls hl => ?_)
      have B16 : ∀ (n : Nat) (x : Int32 × Int32), loopF (f_Clerk_mostAlike_L16 a1 sC x1 x2 K4) n x = some rr → ∀ ls : Array Slot, lv_has ls 6 [(0, .ref (cA 0)), (1, .int a1), (2, .int x1), (3, .int x2), (4, .int (x.1)), (5, .int (x.2))] → W p l e R s m args below meth c s.heap [] 0 0 Q (F0 m 16 ls []) := by
        refine loopW (fun (x : Int32 × Int32) => ∀ ls : Array Slot, lv_has ls 6 [(0, .ref (cA 0)), (1, .int a1), (2, .int x1), (3, .int x2), (4, .int (x.1)), (5, .int (x.2))] → W p l e R s m args below meth c s.heap [] 0 0 Q (F0 m 16 ls [])) ?_
        intro K16 hK16 x hf
        obtain ⟨x4, x5⟩ := x
        rw [f_Clerk_mostAlike_L16] at hf
        intro ls hl
        have hl : lv_has ls 6 [(0, .ref (cA 0)), (1, .int a1), (2, .int x1), (3, .int x2), (4, .int x4), (5, .int x5)] := hl
        show W p l e R s m args below meth c s.heap [] 0 0 Q (F0 m 16 ls [])
        refine lv_iload hx hb d_Clerk_mostAlike_16 (lv_at hl 5 rfl) ?_
        refine lv_bipush (v := (6 : Int32)) hx hb d_Clerk_mostAlike_18 (by decide) ?_
        refine lv_icmp_ge (tgt := 58) hx hb d_Clerk_mostAlike_20 (by decide) (fun c6 => ?_) (fun c6 => ?_)
        · replace hf := iteT c6 hf
          refine lv_iload_n hx hb d_Clerk_mostAlike_58 rfl (lv_at hl 2 rfl) ?_
          refine lv_iload hx hb d_Clerk_mostAlike_59 (lv_at hl 4 rfl) ?_
          refine va_mmax hx hb (hml.trans hl.1.symm) hown (htt _ k_603) (htt _ k_456) (htt _ k_17) (htt _ kMmax) (by rw [hR]; decide) (by rw [hR]; exact Nat.le_of_ble_eq_true rfl) (Nat.zero_le _) (Nat.zero_le _) d_Clerk_mostAlike_61 ?_
          refine lv_topi (fun x7 e_x7 => ?_)
          replace hf := nmE hf e_x7
          refine lv_istore_n (lv' := [(2, .int x7), (0, .ref (cA 0)), (1, .int a1), (3, .int x2), (4, .int x4), (5, .int x5)]) hx hb d_Clerk_mostAlike_64 rfl hl (by decide) rfl (fun ls hl => ?_)
          obtain ⟨x8, e_x8⟩ : ∃ z : Int32, z = (x2 + (1 : Int32)) := ⟨_, rfl⟩
          replace hf := nmE hf e_x8
          refine lv_iinc (v := x8) (lv' := [(3, .int x8), (2, .int x7), (0, .ref (cA 0)), (1, .int a1), (4, .int x4), (5, .int x5)]) hx hb d_Clerk_mostAlike_65 hl (k := 3) rfl (by rw [e_x8]; rfl) (by decide) rfl (fun ls hl => ?_)
          refine lv_goto (tgt := 4) hx hb d_Clerk_mostAlike_68 (by decide) ?_
          exact hK4 (x7, x8) hf ls (lv_sub hl [2, 3, 1, 0] rfl)
        · replace hf := iteF c6 hf
          refine lv_iload_n hx hb d_Clerk_mostAlike_23 rfl (lv_at hl 1 rfl) ?_
          refine lv_iload hx hb d_Clerk_mostAlike_24 (lv_at hl 5 rfl) ?_
          refine lv_ishr hx hb d_Clerk_mostAlike_26 ?_
          refine lv_iconst (v := (1 : Int32)) hx hb d_Clerk_mostAlike_27 (by decide) ?_
          refine lv_iand hx hb d_Clerk_mostAlike_28 ?_
          refine lv_iconst (v := (1 : Int32)) hx hb d_Clerk_mostAlike_29 (by decide) ?_
          refine lv_icmp_ne (tgt := 52) hx hb d_Clerk_mostAlike_30 (by decide) (fun c9 => ?_) (fun c9 => ?_)
          · replace hf := iteF c9 hf
            obtain ⟨x10, e_x10⟩ : ∃ z : Int32, z = (x5 + (1 : Int32)) := ⟨_, rfl⟩
            replace hf := nmE hf e_x10
            refine lv_iinc (v := x10) (lv' := [(5, .int x10), (0, .ref (cA 0)), (1, .int a1), (2, .int x1), (3, .int x2), (4, .int x4)]) hx hb d_Clerk_mostAlike_52 hl (k := 5) rfl (by rw [e_x10]; rfl) (by decide) rfl (fun ls hl => ?_)
            refine lv_goto (tgt := 16) hx hb d_Clerk_mostAlike_55 (by decide) ?_
            exact hK16 (x4, x10) hf ls (lv_sub hl [1, 2, 3, 4, 5, 0] rfl)
          · replace hf := iteT c9 hf
            refine lv_aload_n hx hb d_Clerk_mostAlike_33 rfl (lv_at hl 0 rfl) ?_
            refine va_get (D := D) (ci := 8) (v := .ref (cA 2)) (C := "BedFrontier$Clerk") (T := T_Clerk) (N := 2) hx hb htt i_Clerk hown hK.1 hP 0 rfl rfl 1 (by decide) (htt _ k_192) (fun _ h9 => h9) rfl d_Clerk_mostAlike_34 ?_
            refine lv_iload hx hb d_Clerk_mostAlike_37 (lv_at hl 5 rfl) ?_
            obtain ⟨g11, hf⟩ := gdE hf
            refine va_iald hx hb hK.1 hP 1 0 rfl rfl (okI_in g11) d_Clerk_mostAlike_39 ?_
            refine lv_aload_n hx hb d_Clerk_mostAlike_40 rfl (lv_at hl 0 rfl) ?_
            refine va_get (D := D) (ci := 8) (v := .ref (cA 2)) (C := "BedFrontier$Clerk") (T := T_Clerk) (N := 2) hx hb htt i_Clerk hown hK.1 hP 0 rfl rfl 1 (by decide) (htt _ k_192) (fun _ h9 => h9) rfl d_Clerk_mostAlike_41 ?_
            refine lv_iload_n hx hb d_Clerk_mostAlike_44 rfl (lv_at hl 3 rfl) ?_
            obtain ⟨g12, hf⟩ := gdE hf
            refine va_iald hx hb hK.1 hP 1 0 rfl rfl (okI_in g12) d_Clerk_mostAlike_45 ?_
            refine lv_icmp_ne (tgt := 52) hx hb d_Clerk_mostAlike_46 (by decide) (fun c13 => ?_) (fun c13 => ?_)
            · replace hf := iteF c13 hf
              obtain ⟨x14, e_x14⟩ : ∃ z : Int32, z = (x5 + (1 : Int32)) := ⟨_, rfl⟩
              replace hf := nmE hf e_x14
              refine lv_iinc (v := x14) (lv' := [(5, .int x14), (0, .ref (cA 0)), (1, .int a1), (2, .int x1), (3, .int x2), (4, .int x4)]) hx hb d_Clerk_mostAlike_52 hl (k := 5) rfl (by rw [e_x14]; rfl) (by decide) rfl (fun ls hl => ?_)
              refine lv_goto (tgt := 16) hx hb d_Clerk_mostAlike_55 (by decide) ?_
              exact hK16 (x4, x14) hf ls (lv_sub hl [1, 2, 3, 4, 5, 0] rfl)
            · replace hf := iteT c13 hf
              obtain ⟨x15, e_x15⟩ : ∃ z : Int32, z = (x4 + (1 : Int32)) := ⟨_, rfl⟩
              replace hf := nmE hf e_x15
              refine lv_iinc (v := x15) (lv' := [(4, .int x15), (0, .ref (cA 0)), (1, .int a1), (2, .int x1), (3, .int x2), (5, .int x5)]) hx hb d_Clerk_mostAlike_49 hl (k := 4) rfl (by rw [e_x15]; rfl) (by decide) rfl (fun ls hl => ?_)
              obtain ⟨x16, e_x16⟩ : ∃ z : Int32, z = (x5 + (1 : Int32)) := ⟨_, rfl⟩
              replace hf := nmE hf e_x16
              refine lv_iinc (v := x16) (lv' := [(5, .int x16), (4, .int x15), (0, .ref (cA 0)), (1, .int a1), (2, .int x1), (3, .int x2)]) hx hb d_Clerk_mostAlike_52 hl (k := 5) rfl (by rw [e_x16]; rfl) (by decide) rfl (fun ls hl => ?_)
              refine lv_goto (tgt := 16) hx hb d_Clerk_mostAlike_55 (by decide) ?_
              exact hK16 (x15, x16) hf ls (lv_sub hl [2, 3, 4, 5, 1, 0] rfl)
      exact B16 4000 ((0 : Int32), (0 : Int32)) hf ls (lv_sub hl [2, 3, 4, 5, 1, 0] rfl)
  exact B4 4000 ((0 : Int32), (0 : Int32)) hf ls (lv_sub hl [2, 3, 1, 0] rfl)
def f_Clerk_hourToLook_L26 (a1 : Int32) (a2 : Int32) (a3 : Int32) (sH : PW) (x2 : Int32) (x3 : Int32) (x4 : Int32) (K16 : Int32 × Int32 × Int32 × PW → Option (Int32 × PW)) (K26 : Int32 × PW → Option (Int32 × PW)) : Int32 × PW → Option (Int32 × PW)
  | (x7, sC8) =>
  (if (6 : Int32) ≤ x7 then bd (f_Clerk_mostAlike sC8 a3) (fun x10 => (if x3 ≤ x10 then nm (x4 + (1 : Int32)) (fun x13 => K16 (x2, x3, x13, sC8)) else nm (x4 + (1 : Int32)) (fun x14 => K16 (x4, x10, x14, sC8)))) else bd (f_House_priceAs sH x7 a1 a2 x4 (0 : Int32)) (fun x15 => gd (okI x7 6) (nm (up sC8 1 (upd (sC8 1) ((x7).toNatClampNeg) x15)) (fun sC18 => nm (x7 + (1 : Int32)) (fun x19 => K26 (x19, sC18))))))
def f_Clerk_hourToLook_L16 (a1 : Int32) (a2 : Int32) (a3 : Int32) (sH : PW) (K16 : Int32 × Int32 × Int32 × PW → Option (Int32 × PW)) : Int32 × Int32 × Int32 × PW → Option (Int32 × PW)
  | (x2, x3, x4, sC5) =>
  (if (24 : Int32) ≤ x4 then some (x2, sC5) else loopF (f_Clerk_hourToLook_L26 a1 a2 a3 sH x2 x3 x4 K16) 4000 ((0 : Int32), sC5))
def f_Clerk_hourToLook (sC : PW) (sH : PW) (a1 : Int32) (a2 : Int32) (a3 : Int32) : Option (Int32 × PW) :=
  (if a3 = 0 then some ((-1 : Int32), sC) else loopF (f_Clerk_hourToLook_L16 a1 a2 a3 sH) 4000 ((0 : Int32), (7 : Int32), (0 : Int32), sC))
set_option maxHeartbeats 4000000 in
set_option maxRecDepth 100000 in
theorem c_Clerk_hourToLook (l : Launch) (D : va_G) (ty : Nat → ClassId) (cA hA kA : Nat → Nat) (sz : Nat) (sC : PW) (sH : PW) (a1 : Int32) (a2 : Int32) (a3 : Int32) (rr : Int32) (tC : PW) (hf : f_Clerk_hourToLook sC sH a1 a2 a3 = some (rr, tC)) : Met l y_Clerk_hourToLook (Cond.code y_Clerk_hourToLook prog_3_method_13_code 8 ((Option.some FieldType.int)) :: lw_ok) { frames := 5, cells := 0, slots := 0, locals := 145 } (PcM D ty [.ref (cA 0), .int a1, .int a2, .int a3] sz (L_chk ty cA hA kA sC sH)) (QM D (L_chk ty cA hA kA tC sH) (va_A (L_chk ty cA hA kA sC sH) sz) (some (.int rr))) 0 0 (va_A (L_chk ty cA hA kA sC sH) sz) := by
  refine hdM (by decide) (Nat.le_of_ble_eq_true rfl) ?_
  intro p e s m below meth c ls R args Q A C0 hR hQ hnm hAq hP hK hD hS hl
  obtain ⟨hx, hb, hr, hlk, hml, hown, htt⟩ := id C0
  have hl : lv_has ls 8 [(0, .ref (cA 0)), (1, .int a1), (2, .int a2), (3, .int a3)] := hl
  generalize hH0 : s.heap = H at hP hS ⊢
  have hS : va_S A s.heap H [] := by rw [hH0]; exact hS
  unfold f_Clerk_hourToLook at hf
  refine lv_iload_n hx hb d_Clerk_hourToLook_0 rfl (lv_at hl 3 rfl) ?_
  refine lv_if_ne (tgt := 6) hx hb d_Clerk_hourToLook_1 (by decide) (fun c1 => ?_) (fun c1 => ?_)
  · replace hf := iteF c1 hf
    refine lv_iconst (v := (0 : Int32)) hx hb d_Clerk_hourToLook_6 (by decide) ?_
    refine lv_istore (lv' := [(4, .int (0 : Int32)), (0, .ref (cA 0)), (1, .int a1), (2, .int a2), (3, .int a3)]) hx hb d_Clerk_hourToLook_7 hl (by decide) rfl (fun ls hl => ?_)
    refine lv_bipush (v := (7 : Int32)) hx hb d_Clerk_hourToLook_9 (by decide) ?_
    refine lv_istore (lv' := [(5, .int (7 : Int32)), (4, .int (0 : Int32)), (0, .ref (cA 0)), (1, .int a1), (2, .int a2), (3, .int a3)]) hx hb d_Clerk_hourToLook_11 hl (by decide) rfl (fun ls hl => ?_)
    refine lv_iconst (v := (0 : Int32)) hx hb d_Clerk_hourToLook_13 (by decide) ?_
    refine lv_istore (lv' := [(6, .int (0 : Int32)), (5, .int (7 : Int32)), (4, .int (0 : Int32)), (0, .ref (cA 0)), (1, .int a1), (2, .int a2), (3, .int a3)]) hx hb d_Clerk_hourToLook_14 hl (by decide) rfl (fun ls hl => ?_)
    have B16 : ∀ (n : Nat) (x : Int32 × Int32 × Int32 × PW), loopF (f_Clerk_hourToLook_L16 a1 a2 a3 sH) n x = some (rr, tC) → ∀ (H : Heap) (locs : List Loc) (ls : Array Slot), va_P D vwCl (L_chk ty cA hA kA (x.2.2.2) sH) H → va_D A (L_chk ty cA hA kA (x.2.2.2) sH) → va_S A s.heap H locs → lv_has ls 8 [(0, .ref (cA 0)), (1, .int a1), (2, .int a2), (3, .int a3), (4, .int (x.1)), (5, .int (x.2.1)), (6, .int (x.2.2.1))] → W p l e R s m args below meth c H locs 0 0 Q (F0 m 16 ls []) := by
      refine loopW (fun (x : Int32 × Int32 × Int32 × PW) => ∀ (H : Heap) (locs : List Loc) (ls : Array Slot), va_P D vwCl (L_chk ty cA hA kA (x.2.2.2) sH) H → va_D A (L_chk ty cA hA kA (x.2.2.2) sH) → va_S A s.heap H locs → lv_has ls 8 [(0, .ref (cA 0)), (1, .int a1), (2, .int a2), (3, .int a3), (4, .int (x.1)), (5, .int (x.2.1)), (6, .int (x.2.2.1))] → W p l e R s m args below meth c H locs 0 0 Q (F0 m 16 ls [])) ?_
      intro K16 hK16 x hf
      obtain ⟨x2, x3, x4, sC5⟩ := x
      rw [f_Clerk_hourToLook_L16] at hf
      intro H locs ls hP hD hS hl
      have hl : lv_has ls 8 [(0, .ref (cA 0)), (1, .int a1), (2, .int a2), (3, .int a3), (4, .int x2), (5, .int x3), (6, .int x4)] := hl
      have hP : va_P D vwCl (L_chk ty cA hA kA sC5 sH) H := hP
      have hD : va_D A (L_chk ty cA hA kA sC5 sH) := hD
      show W p l e R s m args below meth c H locs 0 0 Q (F0 m 16 ls [])
      refine lv_iload hx hb d_Clerk_hourToLook_16 (lv_at hl 6 rfl) ?_
      refine lv_bipush (v := (24 : Int32)) hx hb d_Clerk_hourToLook_18 (by decide) ?_
      refine lv_icmp_ge (tgt := 88) hx hb d_Clerk_hourToLook_20 (by decide) (fun c6 => ?_) (fun c6 => ?_)
      · replace hf := iteT c6 hf
        refine lv_iload hx hb d_Clerk_hourToLook_88 (lv_at hl 4 rfl) ?_
        obtain ⟨rfl, rfl⟩ := sj2 hf
        exact retM C0 (narI _) hQ hP hD hS d_Clerk_hourToLook_90
      · replace hf := iteF c6 hf
        refine lv_iconst (v := (0 : Int32)) hx hb d_Clerk_hourToLook_23 (by decide) ?_
        refine lv_istore (lv' := [(7, .int (0 : Int32)), (0, .ref (cA 0)), (1, .int a1), (2, .int a2), (3, .int a3), (4, .int x2), (5, .int x3), (6, .int x4)]) hx hb d_Clerk_hourToLook_24 hl (by decide) rfl (fun ls hl => ?_)
        have B26 : ∀ (n : Nat) (x : Int32 × PW), loopF (f_Clerk_hourToLook_L26 a1 a2 a3 sH x2 x3 x4 K16) n x = some (rr, tC) → ∀ (H : Heap) (locs : List Loc) (ls : Array Slot), va_P D vwCl (L_chk ty cA hA kA (x.2) sH) H → va_D A (L_chk ty cA hA kA (x.2) sH) → va_S A s.heap H locs → lv_has ls 8 [(0, .ref (cA 0)), (1, .int a1), (2, .int a2), (3, .int a3), (4, .int x2), (5, .int x3), (6, .int x4), (7, .int (x.1))] → W p l e R s m args below meth c H locs 0 0 Q (F0 m 26 ls []) := by
          refine loopW (fun (x : Int32 × PW) => ∀ (H : Heap) (locs : List Loc) (ls : Array Slot), va_P D vwCl (L_chk ty cA hA kA (x.2) sH) H → va_D A (L_chk ty cA hA kA (x.2) sH) → va_S A s.heap H locs → lv_has ls 8 [(0, .ref (cA 0)), (1, .int a1), (2, .int a2), (3, .int a3), (4, .int x2), (5, .int x3), (6, .int x4), (7, .int (x.1))] → W p l e R s m args below meth c H locs 0 0 Q (F0 m 26 ls [])) ?_
          intro K26 hK26 x hf
          obtain ⟨x7, sC8⟩ := x
          rw [f_Clerk_hourToLook_L26] at hf
          intro H locs ls hP hD hS hl
          have hl : lv_has ls 8 [(0, .ref (cA 0)), (1, .int a1), (2, .int a2), (3, .int a3), (4, .int x2), (5, .int x3), (6, .int x4), (7, .int x7)] := hl
          have hP : va_P D vwCl (L_chk ty cA hA kA sC8 sH) H := hP
          have hD : va_D A (L_chk ty cA hA kA sC8 sH) := hD
          show W p l e R s m args below meth c H locs 0 0 Q (F0 m 26 ls [])
          refine lv_iload hx hb d_Clerk_hourToLook_26 (lv_at hl 7 rfl) ?_
          refine lv_bipush (v := (6 : Int32)) hx hb d_Clerk_hourToLook_28 (by decide) ?_
          refine lv_icmp_ge (tgt := 60) hx hb d_Clerk_hourToLook_30 (by decide) (fun c9 => ?_) (fun c9 => ?_)
          · replace hf := iteT c9 hf
            refine lv_aload_n hx hb d_Clerk_hourToLook_60 rfl (lv_at hl 0 rfl) ?_
            refine lv_iload_n hx hb d_Clerk_hourToLook_61 rfl (lv_at hl 3 rfl) ?_
            obtain ⟨x10, h11, hf⟩ := bdE hf
            refine vR (q0 := 0) (ci := 8) (rest := []) C0 (c_Clerk_mostAlike l D ty cA hA sC8 a3 x10 h11) k_683 cal_Clerk_mostAlike hK (hP.sub (ws' := (L_c ty cA hA sC8)) [0, 1] rfl) rfl rfl rfl ⟨by rw [hR]; decide, by rw [hR]; decide⟩ rfl rfl rfl hl.1 rfl (Nat.le_of_ble_eq_true rfl) d_Clerk_hourToLook_62 ⟨Nat.zero_le _, Nat.zero_le _⟩ rfl ?_
            refine lv_istore (lv' := [(7, .int x10), (0, .ref (cA 0)), (1, .int a1), (2, .int a2), (3, .int a3), (4, .int x2), (5, .int x3), (6, .int x4)]) hx hb d_Clerk_hourToLook_65 hl (by decide) rfl (fun ls hl => ?_)
            refine lv_iload hx hb d_Clerk_hourToLook_67 (lv_at hl 0 rfl) ?_
            refine lv_iload hx hb d_Clerk_hourToLook_69 (lv_at hl 6 rfl) ?_
            refine lv_icmp_ge (tgt := 82) hx hb d_Clerk_hourToLook_71 (by decide) (fun c12 => ?_) (fun c12 => ?_)
            · replace hf := iteT c12 hf
              obtain ⟨x13, e_x13⟩ : ∃ z : Int32, z = (x4 + (1 : Int32)) := ⟨_, rfl⟩
              replace hf := nmE hf e_x13
              refine lv_iinc (v := x13) (lv' := [(6, .int x13), (7, .int x10), (0, .ref (cA 0)), (1, .int a1), (2, .int a2), (3, .int a3), (4, .int x2), (5, .int x3)]) hx hb d_Clerk_hourToLook_82 hl (k := 7) rfl (by rw [e_x13]; rfl) (by decide) rfl (fun ls hl => ?_)
              refine lv_goto (tgt := 16) hx hb d_Clerk_hourToLook_85 (by decide) ?_
              exact hK16 (x2, x3, x13, sC8) hf _ _ ls hP hD hS (lv_sub hl [2, 3, 4, 5, 6, 7, 0] rfl)
            · replace hf := iteF c12 hf
              refine lv_iload hx hb d_Clerk_hourToLook_74 (lv_at hl 0 rfl) ?_
              refine lv_istore (lv' := [(5, .int x10), (7, .int x10), (0, .ref (cA 0)), (1, .int a1), (2, .int a2), (3, .int a3), (4, .int x2), (6, .int x4)]) hx hb d_Clerk_hourToLook_76 hl (by decide) rfl (fun ls hl => ?_)
              refine lv_iload hx hb d_Clerk_hourToLook_78 (lv_at hl 7 rfl) ?_
              refine lv_istore (lv' := [(4, .int x4), (5, .int x10), (7, .int x10), (0, .ref (cA 0)), (1, .int a1), (2, .int a2), (3, .int a3), (6, .int x4)]) hx hb d_Clerk_hourToLook_80 hl (by decide) rfl (fun ls hl => ?_)
              obtain ⟨x14, e_x14⟩ : ∃ z : Int32, z = (x4 + (1 : Int32)) := ⟨_, rfl⟩
              replace hf := nmE hf e_x14
              refine lv_iinc (v := x14) (lv' := [(6, .int x14), (4, .int x4), (5, .int x10), (7, .int x10), (0, .ref (cA 0)), (1, .int a1), (2, .int a2), (3, .int a3)]) hx hb d_Clerk_hourToLook_82 hl (k := 7) rfl (by rw [e_x14]; rfl) (by decide) rfl (fun ls hl => ?_)
              refine lv_goto (tgt := 16) hx hb d_Clerk_hourToLook_85 (by decide) ?_
              exact hK16 (x4, x10, x14, sC8) hf _ _ ls hP hD hS (lv_sub hl [4, 5, 6, 7, 1, 2, 0] rfl)
          · replace hf := iteF c9 hf
            refine lv_aload_n hx hb d_Clerk_hourToLook_33 rfl (lv_at hl 0 rfl) ?_
            refine va_get (D := D) (ci := 8) (v := .ref (cA 2)) (C := "BedFrontier$Clerk") (T := T_Clerk) (N := 2) hx hb htt i_Clerk hown hK.1 hP 0 rfl rfl 1 (by decide) (htt _ k_192) (fun _ h9 => h9) rfl d_Clerk_hourToLook_34 ?_
            refine lv_iload hx hb d_Clerk_hourToLook_37 (lv_at hl 7 rfl) ?_
            refine lv_aload_n hx hb d_Clerk_hourToLook_39 rfl (lv_at hl 0 rfl) ?_
            refine va_get (D := D) (ci := 8) (v := .ref (hA 0)) (C := "BedFrontier$Clerk") (T := T_Clerk) (N := 2) hx hb htt i_Clerk hown hK.1 hP 0 rfl rfl 0 (by decide) (htt _ k_191) (fun _ h9 => h9) rfl d_Clerk_hourToLook_40 ?_
            refine lv_iload hx hb d_Clerk_hourToLook_43 (lv_at hl 7 rfl) ?_
            refine lv_iload_n hx hb d_Clerk_hourToLook_45 rfl (lv_at hl 1 rfl) ?_
            refine lv_iload_n hx hb d_Clerk_hourToLook_46 rfl (lv_at hl 2 rfl) ?_
            refine lv_iload hx hb d_Clerk_hourToLook_47 (lv_at hl 6 rfl) ?_
            refine lv_iconst (v := (0 : Int32)) hx hb d_Clerk_hourToLook_49 (by decide) ?_
            obtain ⟨x15, h16, hf⟩ := bdE hf
            refine vR (q0 := 0) (ci := 6) (rest := [.int x7, .ref (cA 2)]) C0 (c_House_priceAs l D ty hA kA sH x7 a1 a2 x4 (0 : Int32) x15 h16) k_671 cal_House_priceAs hK (hP.sub (ws' := (L_hk ty hA kA sH)) [2, 3, 4, 5, 6, 7, 8, 9, 10, 11, 12, 13, 14, 15] rfl) rfl rfl rfl ⟨by rw [hR]; decide, by rw [hR]; decide⟩ rfl rfl rfl hl.1 rfl (Nat.le_of_ble_eq_true rfl) d_Clerk_hourToLook_50 ⟨Nat.zero_le _, Nat.zero_le _⟩ rfl ?_
            obtain ⟨g17, hf⟩ := gdE hf
            refine va_iast hx hb hK.1 hP hD hS 1 0 rfl rfl (okI_in g17) d_Clerk_hourToLook_53 (fun H locs hP hD hS => ?_)
            obtain ⟨sC18, e_sC18⟩ : ∃ z : PW, z = up sC8 1 (upd (sC8 1) ((x7).toNatClampNeg) x15) := ⟨_, rfl⟩
            replace hf := nmE hf e_sC18
            have hP : va_P D vwCl (L_chk ty cA hA kA sC18 sH) H := by rw [e_sC18]; exact hP
            have hD : va_D A (L_chk ty cA hA kA sC18 sH) := by rw [e_sC18]; exact hD
            obtain ⟨x19, e_x19⟩ : ∃ z : Int32, z = (x7 + (1 : Int32)) := ⟨_, rfl⟩
            replace hf := nmE hf e_x19
            refine lv_iinc (v := x19) (lv' := [(7, .int x19), (0, .ref (cA 0)), (1, .int a1), (2, .int a2), (3, .int a3), (4, .int x2), (5, .int x3), (6, .int x4)]) hx hb d_Clerk_hourToLook_54 hl (k := 7) rfl (by rw [e_x19]; rfl) (by decide) rfl (fun ls hl => ?_)
            refine lv_goto (tgt := 26) hx hb d_Clerk_hourToLook_57 (by decide) ?_
            exact hK26 (x19, sC18) hf _ _ ls hP hD hS (lv_sub hl [1, 2, 3, 4, 5, 6, 7, 0] rfl)
        exact B26 4000 ((0 : Int32), sC5) hf _ _ ls hP hD hS (lv_sub hl [1, 2, 3, 4, 5, 6, 7, 0] rfl)
    exact B16 4000 ((0 : Int32), (7 : Int32), (0 : Int32), sC) hf _ _ ls hP hD hS (lv_sub hl [3, 4, 5, 6, 2, 1, 0] rfl)
  · replace hf := iteT c1 hf
    refine lv_iconst (v := (-1 : Int32)) hx hb d_Clerk_hourToLook_4 (by decide) ?_
    obtain ⟨rfl, rfl⟩ := sj2 hf
    exact retM C0 (narI _) hQ hP hD hS d_Clerk_hourToLook_5
def f_Clerk_moreInWar_L12 (a1 : Int32) (sH : PW) (x1 : Int32) (K12 : Int32 × Int32 → Option (Int32)) : Int32 × Int32 → Option (Int32)
  | (x3, x4) =>
  (if (sH 12 0) ≤ x4 then some x3 else gd (okI x4 6) (nm (sH 3 (x4).toNatClampNeg) (fun x7 => bd (f_House_priceAs sH x7 x4 a1 x1 (1 : Int32)) (fun x8 => bd (f_House_priceAs sH x7 x4 a1 x1 (0 : Int32)) (fun x10 => nm (x3 + (x8 - x10)) (fun x12 => nm (x4 + (1 : Int32)) (fun x13 => K12 (x12, x13))))))))
def f_Clerk_moreInWar (sC : PW) (sH : PW) (a1 : Int32) (a2 : Int32) : Option (Int32) :=
  bd (f_Face_ownHour a1 a2) (fun x1 => loopF (f_Clerk_moreInWar_L12 a1 sH x1) 4000 ((0 : Int32), (0 : Int32)))
set_option maxHeartbeats 4000000 in
set_option maxRecDepth 100000 in
theorem c_Clerk_moreInWar (l : Launch) (D : va_G) (ty : Nat → ClassId) (cA hA kA : Nat → Nat) (sC : PW) (sH : PW) (a1 : Int32) (a2 : Int32) (rr : Int32) (hf : f_Clerk_moreInWar sC sH a1 a2 = some rr) : Met l y_Clerk_moreInWar (Cond.code y_Clerk_moreInWar prog_3_method_15_code 7 ((Option.some FieldType.int)) :: lw_ok) { frames := 5, cells := 0, slots := 0, locals := 145 } (PcR D ty [.ref (cA 0), .int a1, .int a2] (L_chk ty cA hA kA sC sH)) (QR (some (.int rr))) 0 0 (fun _ => False) := by
  refine hdR (by decide) (Nat.le_of_ble_eq_true rfl) ?_
  intro p e s m below meth c ls R args Q C0 hR hQ hP hK hl
  obtain ⟨hx, hb, hr, hlk, hml, hown, htt⟩ := id C0
  have hl : lv_has ls 7 [(0, .ref (cA 0)), (1, .int a1), (2, .int a2)] := hl
  unfold f_Clerk_moreInWar at hf
  refine lv_iload_n hx hb d_Clerk_moreInWar_0 rfl (lv_at hl 1 rfl) ?_
  refine lv_iload_n hx hb d_Clerk_moreInWar_1 rfl (lv_at hl 2 rfl) ?_
  obtain ⟨x1, h2, hf⟩ := bdE hf
  refine snR (host := "BedFrontier") (rest := []) C0 (c_Face_ownHour l D ty a1 a2 x1 h2) (by decide) cal_Face_ownHour hK (va_P_nil) ⟨by rw [hR]; decide, by rw [hR]; decide⟩ rfl rfl rfl hl.1 rfl (Nat.le_of_ble_eq_true rfl) d_Clerk_moreInWar_2 ⟨Nat.zero_le _, Nat.zero_le _⟩ rfl ?_
  refine lv_istore_n (lv' := [(3, .int x1), (0, .ref (cA 0)), (1, .int a1), (2, .int a2)]) hx hb d_Clerk_moreInWar_5 rfl hl (by decide) rfl (fun ls hl => ?_)
  refine lv_iconst (v := (0 : Int32)) hx hb d_Clerk_moreInWar_6 (by decide) ?_
  refine lv_istore (lv' := [(4, .int (0 : Int32)), (3, .int x1), (0, .ref (cA 0)), (1, .int a1), (2, .int a2)]) hx hb d_Clerk_moreInWar_7 hl (by decide) rfl (fun ls hl => ?_)
  refine lv_iconst (v := (0 : Int32)) hx hb d_Clerk_moreInWar_9 (by decide) ?_
  refine lv_istore (lv' := [(5, .int (0 : Int32)), (4, .int (0 : Int32)), (3, .int x1), (0, .ref (cA 0)), (1, .int a1), (2, .int a2)]) hx hb d_Clerk_moreInWar_10 hl (by decide) rfl (fun ls hl => ?_)
  have B12 : ∀ (n : Nat) (x : Int32 × Int32), loopF (f_Clerk_moreInWar_L12 a1 sH x1) n x = some rr → ∀ ls : Array Slot, lv_has ls 7 [(0, .ref (cA 0)), (1, .int a1), (3, .int x1), (4, .int (x.1)), (5, .int (x.2))] → W p l e R s m args below meth c s.heap [] 0 0 Q (F0 m 12 ls []) := by
    refine loopW (fun (x : Int32 × Int32) => ∀ ls : Array Slot, lv_has ls 7 [(0, .ref (cA 0)), (1, .int a1), (3, .int x1), (4, .int (x.1)), (5, .int (x.2))] → W p l e R s m args below meth c s.heap [] 0 0 Q (F0 m 12 ls [])) ?_
    intro K12 hK12 x hf
    obtain ⟨x3, x4⟩ := x
    rw [f_Clerk_moreInWar_L12] at hf
    intro ls hl
    have hl : lv_has ls 7 [(0, .ref (cA 0)), (1, .int a1), (3, .int x1), (4, .int x3), (5, .int x4)] := hl
    show W p l e R s m args below meth c s.heap [] 0 0 Q (F0 m 12 ls [])
    refine lv_iload hx hb d_Clerk_moreInWar_12 (lv_at hl 4 rfl) ?_
    refine lv_aload_n hx hb d_Clerk_moreInWar_14 rfl (lv_at hl 0 rfl) ?_
    refine va_get (D := D) (ci := 8) (v := .ref (hA 0)) (C := "BedFrontier$Clerk") (T := T_Clerk) (N := 2) hx hb htt i_Clerk hown hK.1 hP 0 rfl rfl 0 (by decide) (htt _ k_191) (fun _ h9 => h9) rfl d_Clerk_moreInWar_15 ?_
    refine va_get (D := D) (ci := 6) (v := .int (sH 12 0)) (C := "BedFrontier$House") (T := T_House) (N := 15) hx hb htt i_House hown hK.1 hP 2 rfl rfl 12 (by decide) (htt _ k_116) (fun _ h9 => h9) rfl d_Clerk_moreInWar_18 ?_
    refine lv_icmp_ge (tgt := 76) hx hb d_Clerk_moreInWar_21 (by decide) (fun c5 => ?_) (fun c5 => ?_)
    · replace hf := iteT c5 hf
      refine lv_iload hx hb d_Clerk_moreInWar_76 (lv_at hl 3 rfl) ?_
      obtain rfl := sj1 hf
      exact retR C0 (narI _) hQ d_Clerk_moreInWar_78
    · replace hf := iteF c5 hf
      refine lv_aload_n hx hb d_Clerk_moreInWar_24 rfl (lv_at hl 0 rfl) ?_
      refine va_get (D := D) (ci := 8) (v := .ref (hA 0)) (C := "BedFrontier$Clerk") (T := T_Clerk) (N := 2) hx hb htt i_Clerk hown hK.1 hP 0 rfl rfl 0 (by decide) (htt _ k_191) (fun _ h9 => h9) rfl d_Clerk_moreInWar_25 ?_
      refine va_get (D := D) (ci := 6) (v := .ref (hA 4)) (C := "BedFrontier$House") (T := T_House) (N := 15) hx hb htt i_House hown hK.1 hP 2 rfl rfl 3 (by decide) (htt _ k_90) (fun _ h9 => h9) rfl d_Clerk_moreInWar_28 ?_
      refine lv_iload hx hb d_Clerk_moreInWar_31 (lv_at hl 4 rfl) ?_
      obtain ⟨g6, hf⟩ := gdE hf
      refine va_iald hx hb hK.1 hP 5 0 rfl rfl (okI_in g6) d_Clerk_moreInWar_33 ?_
      refine lv_topi (fun x7 e_x7 => ?_)
      replace hf := nmE hf e_x7
      refine lv_istore (lv' := [(6, .int x7), (0, .ref (cA 0)), (1, .int a1), (3, .int x1), (4, .int x3), (5, .int x4)]) hx hb d_Clerk_moreInWar_34 hl (by decide) rfl (fun ls hl => ?_)
      refine lv_iload hx hb d_Clerk_moreInWar_36 (lv_at hl 4 rfl) ?_
      refine lv_aload_n hx hb d_Clerk_moreInWar_38 rfl (lv_at hl 1 rfl) ?_
      refine va_get (D := D) (ci := 8) (v := .ref (hA 0)) (C := "BedFrontier$Clerk") (T := T_Clerk) (N := 2) hx hb htt i_Clerk hown hK.1 hP 0 rfl rfl 0 (by decide) (htt _ k_191) (fun _ h9 => h9) rfl d_Clerk_moreInWar_39 ?_
      refine lv_iload hx hb d_Clerk_moreInWar_42 (lv_at hl 0 rfl) ?_
      refine lv_iload hx hb d_Clerk_moreInWar_44 (lv_at hl 5 rfl) ?_
      refine lv_iload_n hx hb d_Clerk_moreInWar_46 rfl (lv_at hl 2 rfl) ?_
      refine lv_iload_n hx hb d_Clerk_moreInWar_47 rfl (lv_at hl 3 rfl) ?_
      refine lv_iconst (v := (1 : Int32)) hx hb d_Clerk_moreInWar_48 (by decide) ?_
      obtain ⟨x8, h9, hf⟩ := bdE hf
      refine vR (q0 := 0) (ci := 6) (rest := [.int x3]) C0 (c_House_priceAs l D ty hA kA sH x7 x4 a1 x1 (1 : Int32) x8 h9) k_671 cal_House_priceAs hK (hP.sub (ws' := (L_hk ty hA kA sH)) [2, 3, 4, 5, 6, 7, 8, 9, 10, 11, 12, 13, 14, 15] rfl) rfl rfl rfl ⟨by rw [hR]; decide, by rw [hR]; decide⟩ rfl rfl rfl hl.1 rfl (Nat.le_of_ble_eq_true rfl) d_Clerk_moreInWar_49 ⟨Nat.zero_le _, Nat.zero_le _⟩ rfl ?_
      refine lv_aload_n hx hb d_Clerk_moreInWar_52 rfl (lv_at hl 1 rfl) ?_
      refine va_get (D := D) (ci := 8) (v := .ref (hA 0)) (C := "BedFrontier$Clerk") (T := T_Clerk) (N := 2) hx hb htt i_Clerk hown hK.1 hP 0 rfl rfl 0 (by decide) (htt _ k_191) (fun _ h9 => h9) rfl d_Clerk_moreInWar_53 ?_
      refine lv_iload hx hb d_Clerk_moreInWar_56 (lv_at hl 0 rfl) ?_
      refine lv_iload hx hb d_Clerk_moreInWar_58 (lv_at hl 5 rfl) ?_
      refine lv_iload_n hx hb d_Clerk_moreInWar_60 rfl (lv_at hl 2 rfl) ?_
      refine lv_iload_n hx hb d_Clerk_moreInWar_61 rfl (lv_at hl 3 rfl) ?_
      refine lv_iconst (v := (0 : Int32)) hx hb d_Clerk_moreInWar_62 (by decide) ?_
      obtain ⟨x10, h11, hf⟩ := bdE hf
      refine vR (q0 := 0) (ci := 6) (rest := [.int x8, .int x3]) C0 (c_House_priceAs l D ty hA kA sH x7 x4 a1 x1 (0 : Int32) x10 h11) k_671 cal_House_priceAs hK (hP.sub (ws' := (L_hk ty hA kA sH)) [2, 3, 4, 5, 6, 7, 8, 9, 10, 11, 12, 13, 14, 15] rfl) rfl rfl rfl ⟨by rw [hR]; decide, by rw [hR]; decide⟩ rfl rfl rfl hl.1 rfl (Nat.le_of_ble_eq_true rfl) d_Clerk_moreInWar_63 ⟨Nat.zero_le _, Nat.zero_le _⟩ rfl ?_
      refine lv_isub hx hb d_Clerk_moreInWar_66 ?_
      refine lv_iadd hx hb d_Clerk_moreInWar_67 ?_
      refine lv_topi (fun x12 e_x12 => ?_)
      replace hf := nmE hf e_x12
      refine lv_istore (lv' := [(4, .int x12), (6, .int x7), (0, .ref (cA 0)), (1, .int a1), (3, .int x1), (5, .int x4)]) hx hb d_Clerk_moreInWar_68 hl (by decide) rfl (fun ls hl => ?_)
      obtain ⟨x13, e_x13⟩ : ∃ z : Int32, z = (x4 + (1 : Int32)) := ⟨_, rfl⟩
      replace hf := nmE hf e_x13
      refine lv_iinc (v := x13) (lv' := [(5, .int x13), (4, .int x12), (6, .int x7), (0, .ref (cA 0)), (1, .int a1), (3, .int x1)]) hx hb d_Clerk_moreInWar_70 hl (k := 5) rfl (by rw [e_x13]; rfl) (by decide) rfl (fun ls hl => ?_)
      refine lv_goto (tgt := 12) hx hb d_Clerk_moreInWar_73 (by decide) ?_
      exact hK12 (x12, x13) hf ls (lv_sub hl [3, 4, 5, 1, 0] rfl)
  exact B12 4000 ((0 : Int32), (0 : Int32)) hf ls (lv_sub hl [3, 4, 2, 1, 0] rfl)
def f_Clerk_tenthsShut (sC : PW) (sH : PW) (a1 : Int32) (a2 : Int32) (a3 : Int32) : Option (Int32) :=
  bd (f_House_passesBarred sH a1 a2 (sH 10 0)) (fun x1 => (if x1 = 0 then bd (f_House_isBarred sH a2 (sH 10 0)) (fun x4 => (if x4 = 0 then some a3 else some (10 : Int32))) else some (0 : Int32)))
set_option maxHeartbeats 4000000 in
set_option maxRecDepth 100000 in
theorem c_Clerk_tenthsShut (l : Launch) (D : va_G) (ty : Nat → ClassId) (cA hA kA : Nat → Nat) (sC : PW) (sH : PW) (a1 : Int32) (a2 : Int32) (a3 : Int32) (rr : Int32) (hf : f_Clerk_tenthsShut sC sH a1 a2 a3 = some rr) : Met l y_Clerk_tenthsShut (Cond.code y_Clerk_tenthsShut prog_3_method_17_code 4 ((Option.some FieldType.int)) :: lw_ok) { frames := 5, cells := 0, slots := 0, locals := 143 } (PcR D ty [.ref (cA 0), .int a1, .int a2, .int a3] (L_chk ty cA hA kA sC sH)) (QR (some (.int rr))) 0 0 (fun _ => False) := by
  refine hdR (by decide) (Nat.le_of_ble_eq_true rfl) ?_
  intro p e s m below meth c ls R args Q C0 hR hQ hP hK hl
  obtain ⟨hx, hb, hr, hlk, hml, hown, htt⟩ := id C0
  have hl : lv_has ls 4 [(0, .ref (cA 0)), (1, .int a1), (2, .int a2), (3, .int a3)] := hl
  unfold f_Clerk_tenthsShut at hf
  refine lv_aload_n hx hb d_Clerk_tenthsShut_0 rfl (lv_at hl 0 rfl) ?_
  refine va_get (D := D) (ci := 8) (v := .ref (hA 0)) (C := "BedFrontier$Clerk") (T := T_Clerk) (N := 2) hx hb htt i_Clerk hown hK.1 hP 0 rfl rfl 0 (by decide) (htt _ k_191) (fun _ h9 => h9) rfl d_Clerk_tenthsShut_1 ?_
  refine lv_iload_n hx hb d_Clerk_tenthsShut_4 rfl (lv_at hl 1 rfl) ?_
  refine lv_iload_n hx hb d_Clerk_tenthsShut_5 rfl (lv_at hl 2 rfl) ?_
  refine lv_aload_n hx hb d_Clerk_tenthsShut_6 rfl (lv_at hl 0 rfl) ?_
  refine va_get (D := D) (ci := 8) (v := .ref (hA 0)) (C := "BedFrontier$Clerk") (T := T_Clerk) (N := 2) hx hb htt i_Clerk hown hK.1 hP 0 rfl rfl 0 (by decide) (htt _ k_191) (fun _ h9 => h9) rfl d_Clerk_tenthsShut_7 ?_
  refine va_get (D := D) (ci := 6) (v := .int (sH 10 0)) (C := "BedFrontier$House") (T := T_House) (N := 15) hx hb htt i_House hown hK.1 hP 2 rfl rfl 10 (by decide) (htt _ k_108) (fun _ h9 => h9) rfl d_Clerk_tenthsShut_10 ?_
  obtain ⟨x1, h2, hf⟩ := bdE hf
  refine vR (q0 := 0) (ci := 6) (rest := []) C0 (c_House_passesBarred l D ty hA kA sH a1 a2 (sH 10 0) x1 h2) k_642 cal_House_passesBarred hK (hP.sub (ws' := (L_hk ty hA kA sH)) [2, 3, 4, 5, 6, 7, 8, 9, 10, 11, 12, 13, 14, 15] rfl) rfl rfl rfl ⟨by rw [hR]; decide, by rw [hR]; decide⟩ rfl rfl rfl hl.1 rfl (Nat.le_of_ble_eq_true rfl) d_Clerk_tenthsShut_13 ⟨Nat.zero_le _, Nat.zero_le _⟩ rfl ?_
  refine lv_if_eq (tgt := 21) hx hb d_Clerk_tenthsShut_16 (by decide) (fun c3 => ?_) (fun c3 => ?_)
  · replace hf := iteT c3 hf
    refine lv_aload_n hx hb d_Clerk_tenthsShut_21 rfl (lv_at hl 0 rfl) ?_
    refine va_get (D := D) (ci := 8) (v := .ref (hA 0)) (C := "BedFrontier$Clerk") (T := T_Clerk) (N := 2) hx hb htt i_Clerk hown hK.1 hP 0 rfl rfl 0 (by decide) (htt _ k_191) (fun _ h9 => h9) rfl d_Clerk_tenthsShut_22 ?_
    refine lv_iload_n hx hb d_Clerk_tenthsShut_25 rfl (lv_at hl 2 rfl) ?_
    refine lv_aload_n hx hb d_Clerk_tenthsShut_26 rfl (lv_at hl 0 rfl) ?_
    refine va_get (D := D) (ci := 8) (v := .ref (hA 0)) (C := "BedFrontier$Clerk") (T := T_Clerk) (N := 2) hx hb htt i_Clerk hown hK.1 hP 0 rfl rfl 0 (by decide) (htt _ k_191) (fun _ h9 => h9) rfl d_Clerk_tenthsShut_27 ?_
    refine va_get (D := D) (ci := 6) (v := .int (sH 10 0)) (C := "BedFrontier$House") (T := T_House) (N := 15) hx hb htt i_House hown hK.1 hP 2 rfl rfl 10 (by decide) (htt _ k_108) (fun _ h9 => h9) rfl d_Clerk_tenthsShut_30 ?_
    obtain ⟨x4, h5, hf⟩ := bdE hf
    refine vR (q0 := 0) (ci := 6) (rest := []) C0 (c_House_isBarred l D ty hA kA sH a2 (sH 10 0) x4 h5) k_708 cal_House_isBarred hK (hP.sub (ws' := (L_h ty hA kA sH)) [2, 3, 4, 5, 6, 7, 8] rfl) rfl rfl rfl ⟨by rw [hR]; decide, by rw [hR]; decide⟩ rfl rfl rfl hl.1 rfl (Nat.le_of_ble_eq_true rfl) d_Clerk_tenthsShut_33 ⟨Nat.zero_le _, Nat.zero_le _⟩ rfl ?_
    refine lv_if_eq (tgt := 44) hx hb d_Clerk_tenthsShut_36 (by decide) (fun c6 => ?_) (fun c6 => ?_)
    · replace hf := iteT c6 hf
      refine lv_iload_n hx hb d_Clerk_tenthsShut_44 rfl (lv_at hl 3 rfl) ?_
      obtain rfl := sj1 hf
      exact retR C0 (narI _) hQ d_Clerk_tenthsShut_45
    · replace hf := iteF c6 hf
      refine lv_bipush (v := (10 : Int32)) hx hb d_Clerk_tenthsShut_39 (by decide) ?_
      refine lv_goto (tgt := 45) hx hb d_Clerk_tenthsShut_41 (by decide) ?_
      obtain rfl := sj1 hf
      exact retR C0 (narI _) hQ d_Clerk_tenthsShut_45
  · replace hf := iteF c3 hf
    refine lv_iconst (v := (0 : Int32)) hx hb d_Clerk_tenthsShut_19 (by decide) ?_
    obtain rfl := sj1 hf
    exact retR C0 (narI _) hQ d_Clerk_tenthsShut_20
def f_Clerk_hundredthsShut (sC : PW) (sH : PW) (a1 : Int32) (a2 : Int32) : Option (Int32) :=
  bd (f_Clerk_tenthsShut sC sH a1 (0 : Int32) a2) (fun x1 => bd (f_Clerk_tenthsShut sC sH a1 (1 : Int32) a2) (fun x3 => some (x1 * x3)))
set_option maxHeartbeats 4000000 in
set_option maxRecDepth 100000 in
theorem c_Clerk_hundredthsShut (l : Launch) (D : va_G) (ty : Nat → ClassId) (cA hA kA : Nat → Nat) (sC : PW) (sH : PW) (a1 : Int32) (a2 : Int32) (rr : Int32) (hf : f_Clerk_hundredthsShut sC sH a1 a2 = some rr) : Met l y_Clerk_hundredthsShut (Cond.code y_Clerk_hundredthsShut prog_3_method_16_code 3 ((Option.some FieldType.int)) :: lw_ok) { frames := 6, cells := 0, slots := 0, locals := 166 } (PcR D ty [.ref (cA 0), .int a1, .int a2] (L_chk ty cA hA kA sC sH)) (QR (some (.int rr))) 0 0 (fun _ => False) := by
  refine hdR (by decide) (Nat.le_of_ble_eq_true rfl) ?_
  intro p e s m below meth c ls R args Q C0 hR hQ hP hK hl
  obtain ⟨hx, hb, hr, hlk, hml, hown, htt⟩ := id C0
  have hl : lv_has ls 3 [(0, .ref (cA 0)), (1, .int a1), (2, .int a2)] := hl
  unfold f_Clerk_hundredthsShut at hf
  refine lv_aload_n hx hb d_Clerk_hundredthsShut_0 rfl (lv_at hl 0 rfl) ?_
  refine lv_iload_n hx hb d_Clerk_hundredthsShut_1 rfl (lv_at hl 1 rfl) ?_
  refine lv_iconst (v := (0 : Int32)) hx hb d_Clerk_hundredthsShut_2 (by decide) ?_
  refine lv_iload_n hx hb d_Clerk_hundredthsShut_3 rfl (lv_at hl 2 rfl) ?_
  obtain ⟨x1, h2, hf⟩ := bdE hf
  refine vR (q0 := 0) (ci := 8) (rest := []) C0 (c_Clerk_tenthsShut l D ty cA hA kA sC sH a1 (0 : Int32) a2 x1 h2) k_704 cal_Clerk_tenthsShut hK hP rfl rfl rfl ⟨by rw [hR]; decide, by rw [hR]; decide⟩ rfl rfl rfl hl.1 rfl (Nat.le_of_ble_eq_true rfl) d_Clerk_hundredthsShut_4 ⟨Nat.zero_le _, Nat.zero_le _⟩ rfl ?_
  refine lv_aload_n hx hb d_Clerk_hundredthsShut_7 rfl (lv_at hl 0 rfl) ?_
  refine lv_iload_n hx hb d_Clerk_hundredthsShut_8 rfl (lv_at hl 1 rfl) ?_
  refine lv_iconst (v := (1 : Int32)) hx hb d_Clerk_hundredthsShut_9 (by decide) ?_
  refine lv_iload_n hx hb d_Clerk_hundredthsShut_10 rfl (lv_at hl 2 rfl) ?_
  obtain ⟨x3, h4, hf⟩ := bdE hf
  refine vR (q0 := 0) (ci := 8) (rest := [.int x1]) C0 (c_Clerk_tenthsShut l D ty cA hA kA sC sH a1 (1 : Int32) a2 x3 h4) k_704 cal_Clerk_tenthsShut hK hP rfl rfl rfl ⟨by rw [hR]; decide, by rw [hR]; decide⟩ rfl rfl rfl hl.1 rfl (Nat.le_of_ble_eq_true rfl) d_Clerk_hundredthsShut_11 ⟨Nat.zero_le _, Nat.zero_le _⟩ rfl ?_
  refine lv_imul hx hb d_Clerk_hundredthsShut_14 ?_
  obtain rfl := sj1 hf
  exact retR C0 (narI _) hQ d_Clerk_hundredthsShut_15
def f_Clerk_nextChance (a1 : Int64) : Option (Int64) :=
  some (((a1 * (1103515245 : Int64)) + (12345 : Int64)) - ((a1 * (1103515245 : Int64)) + (12345 : Int64)) / (2147483648 : Int64) * (2147483648 : Int64))
set_option maxHeartbeats 4000000 in
set_option maxRecDepth 100000 in
theorem c_Clerk_nextChance (l : Launch) (D : va_G) (ty : Nat → ClassId) (a1 : Int64) (rr : Int64) (hf : f_Clerk_nextChance a1 = some rr) : Met l y_Clerk_nextChance (Cond.code y_Clerk_nextChance prog_3_method_19_code 2 ((Option.some FieldType.long)) :: lw_ok) { frames := 0, cells := 0, slots := 0, locals := 0 } (PcR D ty [.long a1] ([] : va_W)) (QR (some (.long rr))) 0 0 (fun _ => False) := by
  refine hdR (by decide) (Nat.le_of_ble_eq_true rfl) ?_
  intro p e s m below meth c ls R args Q C0 hR hQ hP hK hl
  obtain ⟨hx, hb, hr, hlk, hml, hown, htt⟩ := id C0
  have hl : lv_has ls 2 [(0, .long a1)] := hl
  unfold f_Clerk_nextChance at hf
  refine lv_lload_n hx hb d_Clerk_nextChance_0 rfl (lv_at hl 0 rfl) ?_
  refine lv_ldc2 (v := (1103515245 : Int64)) hx hb hown (htt _ k_721) d_Clerk_nextChance_1 ?_
  refine lv_lmul hx hb d_Clerk_nextChance_4 ?_
  refine lv_ldc2 (v := (12345 : Int64)) hx hb hown (htt _ k_722) d_Clerk_nextChance_5 ?_
  refine lv_ladd hx hb d_Clerk_nextChance_8 ?_
  refine lv_ldc2 (v := (2147483648 : Int64)) hx hb hown (htt _ k_723) d_Clerk_nextChance_9 ?_
  refine lv_lrem hx hb d_Clerk_nextChance_12 (by decide) ?_
  obtain rfl := sj1 hf
  exact retRl C0 hQ d_Clerk_nextChance_13
def f_Clerk_paidByChance_L27 (a2 : Int32) (sH : PW) (K27 : Int64 × Int32 × Int32 × Int32 × Int32 → Option (Int32)) : Int64 × Int32 × Int32 × Int32 × Int32 → Option (Int32)
  | (x4, x5, x6, x7, x8) =>
  (if a2 ≤ x8 then some x7 else bd (f_Clerk_nextChance x4) (fun x10 => gd (((sH 12 0)).toInt64 != 0) (nm (((x10 / (65536 : Int64)) - (x10 / (65536 : Int64)) / ((sH 12 0)).toInt64 * ((sH 12 0)).toInt64)).toInt32 (fun x13 => bd (f_Clerk_nextChance x10) (fun x14 => nm (((x14 / (65536 : Int64)) - (x14 / (65536 : Int64)) / (2 : Int64) * (2 : Int64))).toInt32 (fun x16 => bd (f_House_lets sH x13 x16 x6) (fun x17 => (if x17 = 0 then nm ((x6 + (1 : Int32)) - (x6 + (1 : Int32)) / (24 : Int32) * (24 : Int32)) (fun x20 => nm (x8 + (1 : Int32)) (fun x21 => K27 (x14, x5, x20, x7, x21))) else bd (f_House_owed sH x13 x16 x6) (fun x22 => bd (f_House_tollTo sH x5 x16) (fun x24 => nm (x7 + (x22 + x24)) (fun x26 => nm ((x6 + (1 : Int32)) - (x6 + (1 : Int32)) / (24 : Int32) * (24 : Int32)) (fun x27 => nm (x8 + (1 : Int32)) (fun x28 => K27 (x14, x16, x27, x26, x28))))))))))))))
def f_Clerk_paidByChance (sC : PW) (sH : PW) (a1 : Int32) (a2 : Int32) : Option (Int32) :=
  nm (a1).toInt64 (fun x1 => nm (sH 9 0) (fun x2 => nm (sH 10 0) (fun x3 => loopF (f_Clerk_paidByChance_L27 a2 sH) 4000 (x1, x2, x3, (0 : Int32), (0 : Int32)))))
set_option maxHeartbeats 4000000 in
set_option maxRecDepth 100000 in
theorem c_Clerk_paidByChance (l : Launch) (D : va_G) (ty : Nat → ClassId) (cA hA kA : Nat → Nat) (sC : PW) (sH : PW) (a1 : Int32) (a2 : Int32) (rr : Int32) (hf : f_Clerk_paidByChance sC sH a1 a2 = some rr) : Met l y_Clerk_paidByChance (Cond.code y_Clerk_paidByChance prog_3_method_18_code 11 ((Option.some FieldType.int)) :: lw_ok) { frames := 6, cells := 0, slots := 0, locals := 166 } (PcR D ty [.ref (cA 0), .int a1, .int a2] (L_chk ty cA hA kA sC sH)) (QR (some (.int rr))) 0 0 (fun _ => False) := by
  refine hdR (by decide) (Nat.le_of_ble_eq_true rfl) ?_
  intro p e s m below meth c ls R args Q C0 hR hQ hP hK hl
  obtain ⟨hx, hb, hr, hlk, hml, hown, htt⟩ := id C0
  have hl : lv_has ls 11 [(0, .ref (cA 0)), (1, .int a1), (2, .int a2)] := hl
  unfold f_Clerk_paidByChance at hf
  refine lv_iload_n hx hb d_Clerk_paidByChance_0 rfl (lv_at hl 1 rfl) ?_
  refine lv_i2l hx hb d_Clerk_paidByChance_1 rfl ?_
  refine lv_topl (fun x1 e_x1 => ?_)
  replace hf := nmE hf e_x1
  refine lv_lstore_n (lv' := [(3, .long x1), (0, .ref (cA 0)), (1, .int a1), (2, .int a2)]) hx hb d_Clerk_paidByChance_2 rfl hl (by decide) rfl (fun ls hl => ?_)
  refine lv_aload_n hx hb d_Clerk_paidByChance_3 rfl (lv_at hl 1 rfl) ?_
  refine va_get (D := D) (ci := 8) (v := .ref (hA 0)) (C := "BedFrontier$Clerk") (T := T_Clerk) (N := 2) hx hb htt i_Clerk hown hK.1 hP 0 rfl rfl 0 (by decide) (htt _ k_191) (fun _ h9 => h9) rfl d_Clerk_paidByChance_4 ?_
  refine va_get (D := D) (ci := 6) (v := .int (sH 9 0)) (C := "BedFrontier$House") (T := T_House) (N := 15) hx hb htt i_House hown hK.1 hP 2 rfl rfl 9 (by decide) (htt _ k_105) (fun _ h9 => h9) rfl d_Clerk_paidByChance_7 ?_
  refine lv_topi (fun x2 e_x2 => ?_)
  replace hf := nmE hf e_x2
  refine lv_istore (lv' := [(5, .int x2), (3, .long x1), (0, .ref (cA 0)), (1, .int a1), (2, .int a2)]) hx hb d_Clerk_paidByChance_10 hl (by decide) rfl (fun ls hl => ?_)
  refine lv_aload_n hx hb d_Clerk_paidByChance_12 rfl (lv_at hl 2 rfl) ?_
  refine va_get (D := D) (ci := 8) (v := .ref (hA 0)) (C := "BedFrontier$Clerk") (T := T_Clerk) (N := 2) hx hb htt i_Clerk hown hK.1 hP 0 rfl rfl 0 (by decide) (htt _ k_191) (fun _ h9 => h9) rfl d_Clerk_paidByChance_13 ?_
  refine va_get (D := D) (ci := 6) (v := .int (sH 10 0)) (C := "BedFrontier$House") (T := T_House) (N := 15) hx hb htt i_House hown hK.1 hP 2 rfl rfl 10 (by decide) (htt _ k_108) (fun _ h9 => h9) rfl d_Clerk_paidByChance_16 ?_
  refine lv_topi (fun x3 e_x3 => ?_)
  replace hf := nmE hf e_x3
  refine lv_istore (lv' := [(6, .int x3), (5, .int x2), (3, .long x1), (0, .ref (cA 0)), (1, .int a1), (2, .int a2)]) hx hb d_Clerk_paidByChance_19 hl (by decide) rfl (fun ls hl => ?_)
  refine lv_iconst (v := (0 : Int32)) hx hb d_Clerk_paidByChance_21 (by decide) ?_
  refine lv_istore (lv' := [(7, .int (0 : Int32)), (6, .int x3), (5, .int x2), (3, .long x1), (0, .ref (cA 0)), (1, .int a1), (2, .int a2)]) hx hb d_Clerk_paidByChance_22 hl (by decide) rfl (fun ls hl => ?_)
  refine lv_iconst (v := (0 : Int32)) hx hb d_Clerk_paidByChance_24 (by decide) ?_
  refine lv_istore (lv' := [(8, .int (0 : Int32)), (7, .int (0 : Int32)), (6, .int x3), (5, .int x2), (3, .long x1), (0, .ref (cA 0)), (1, .int a1), (2, .int a2)]) hx hb d_Clerk_paidByChance_25 hl (by decide) rfl (fun ls hl => ?_)
  have B27 : ∀ (n : Nat) (x : Int64 × Int32 × Int32 × Int32 × Int32), loopF (f_Clerk_paidByChance_L27 a2 sH) n x = some rr → ∀ ls : Array Slot, lv_has ls 11 [(0, .ref (cA 0)), (2, .int a2), (3, .long (x.1)), (5, .int (x.2.1)), (6, .int (x.2.2.1)), (7, .int (x.2.2.2.1)), (8, .int (x.2.2.2.2))] → W p l e R s m args below meth c s.heap [] 0 0 Q (F0 m 27 ls []) := by
    refine loopW (fun (x : Int64 × Int32 × Int32 × Int32 × Int32) => ∀ ls : Array Slot, lv_has ls 11 [(0, .ref (cA 0)), (2, .int a2), (3, .long (x.1)), (5, .int (x.2.1)), (6, .int (x.2.2.1)), (7, .int (x.2.2.2.1)), (8, .int (x.2.2.2.2))] → W p l e R s m args below meth c s.heap [] 0 0 Q (F0 m 27 ls [])) ?_
    intro K27 hK27 x hf
    obtain ⟨x4, x5, x6, x7, x8⟩ := x
    rw [f_Clerk_paidByChance_L27] at hf
    intro ls hl
    have hl : lv_has ls 11 [(0, .ref (cA 0)), (2, .int a2), (3, .long x4), (5, .int x5), (6, .int x6), (7, .int x7), (8, .int x8)] := hl
    show W p l e R s m args below meth c s.heap [] 0 0 Q (F0 m 27 ls [])
    refine lv_iload hx hb d_Clerk_paidByChance_27 (lv_at hl 6 rfl) ?_
    refine lv_iload_n hx hb d_Clerk_paidByChance_29 rfl (lv_at hl 1 rfl) ?_
    refine lv_icmp_ge (tgt := 137) hx hb d_Clerk_paidByChance_30 (by decide) (fun c9 => ?_) (fun c9 => ?_)
    · replace hf := iteT c9 hf
      refine lv_iload hx hb d_Clerk_paidByChance_137 (lv_at hl 5 rfl) ?_
      obtain rfl := sj1 hf
      exact retR C0 (narI _) hQ d_Clerk_paidByChance_139
    · replace hf := iteF c9 hf
      refine lv_lload_n hx hb d_Clerk_paidByChance_33 rfl (lv_at hl 2 rfl) ?_
      obtain ⟨x10, h11, hf⟩ := bdE hf
      refine scR (rest := []) C0 (c_Clerk_nextChance l D ty x4 x10 h11) k_718 cal_Clerk_nextChance hK (va_P_nil) ⟨by rw [hR]; decide, by rw [hR]; decide⟩ rfl rfl rfl hl.1 rfl (Nat.le_of_ble_eq_true rfl) d_Clerk_paidByChance_34 ⟨Nat.zero_le _, Nat.zero_le _⟩ rfl ?_
      refine lv_lstore_n (lv' := [(3, .long x10), (0, .ref (cA 0)), (2, .int a2), (5, .int x5), (6, .int x6), (7, .int x7), (8, .int x8)]) hx hb d_Clerk_paidByChance_37 rfl hl (by decide) rfl (fun ls hl => ?_)
      refine lv_lload_n hx hb d_Clerk_paidByChance_38 rfl (lv_at hl 0 rfl) ?_
      refine lv_ldc2 (v := (65536 : Int64)) hx hb hown (htt _ k_724) d_Clerk_paidByChance_39 ?_
      refine lv_ldiv hx hb d_Clerk_paidByChance_42 (by decide) ?_
      refine lv_aload_n hx hb d_Clerk_paidByChance_43 rfl (lv_at hl 1 rfl) ?_
      refine va_get (D := D) (ci := 8) (v := .ref (hA 0)) (C := "BedFrontier$Clerk") (T := T_Clerk) (N := 2) hx hb htt i_Clerk hown hK.1 hP 0 rfl rfl 0 (by decide) (htt _ k_191) (fun _ h9 => h9) rfl d_Clerk_paidByChance_44 ?_
      refine va_get (D := D) (ci := 6) (v := .int (sH 12 0)) (C := "BedFrontier$House") (T := T_House) (N := 15) hx hb htt i_House hown hK.1 hP 2 rfl rfl 12 (by decide) (htt _ k_116) (fun _ h9 => h9) rfl d_Clerk_paidByChance_47 ?_
      refine lv_i2l hx hb d_Clerk_paidByChance_50 rfl ?_
      obtain ⟨g12, hf⟩ := gdE hf
      refine lv_lrem hx hb d_Clerk_paidByChance_51 (ne0_ofL g12) ?_
      refine lv_l2i hx hb d_Clerk_paidByChance_52 rfl ?_
      refine lv_topi (fun x13 e_x13 => ?_)
      replace hf := nmE hf e_x13
      refine lv_istore (lv' := [(9, .int x13), (3, .long x10), (0, .ref (cA 0)), (2, .int a2), (5, .int x5), (6, .int x6), (7, .int x7), (8, .int x8)]) hx hb d_Clerk_paidByChance_53 hl (by decide) rfl (fun ls hl => ?_)
      refine lv_lload_n hx hb d_Clerk_paidByChance_55 rfl (lv_at hl 1 rfl) ?_
      obtain ⟨x14, h15, hf⟩ := bdE hf
      refine scR (rest := []) C0 (c_Clerk_nextChance l D ty x10 x14 h15) k_718 cal_Clerk_nextChance hK (va_P_nil) ⟨by rw [hR]; decide, by rw [hR]; decide⟩ rfl rfl rfl hl.1 rfl (Nat.le_of_ble_eq_true rfl) d_Clerk_paidByChance_56 ⟨Nat.zero_le _, Nat.zero_le _⟩ rfl ?_
      refine lv_lstore_n (lv' := [(3, .long x14), (9, .int x13), (0, .ref (cA 0)), (2, .int a2), (5, .int x5), (6, .int x6), (7, .int x7), (8, .int x8)]) hx hb d_Clerk_paidByChance_59 rfl hl (by decide) rfl (fun ls hl => ?_)
      refine lv_lload_n hx hb d_Clerk_paidByChance_60 rfl (lv_at hl 0 rfl) ?_
      refine lv_ldc2 (v := (65536 : Int64)) hx hb hown (htt _ k_724) d_Clerk_paidByChance_61 ?_
      refine lv_ldiv hx hb d_Clerk_paidByChance_64 (by decide) ?_
      refine lv_ldc2 (v := (2 : Int64)) hx hb hown (htt _ k_725) d_Clerk_paidByChance_65 ?_
      refine lv_lrem hx hb d_Clerk_paidByChance_68 (by decide) ?_
      refine lv_l2i hx hb d_Clerk_paidByChance_69 rfl ?_
      refine lv_topi (fun x16 e_x16 => ?_)
      replace hf := nmE hf e_x16
      refine lv_istore (lv' := [(10, .int x16), (3, .long x14), (9, .int x13), (0, .ref (cA 0)), (2, .int a2), (5, .int x5), (6, .int x6), (7, .int x7), (8, .int x8)]) hx hb d_Clerk_paidByChance_70 hl (by decide) rfl (fun ls hl => ?_)
      refine lv_aload_n hx hb d_Clerk_paidByChance_72 rfl (lv_at hl 3 rfl) ?_
      refine va_get (D := D) (ci := 8) (v := .ref (hA 0)) (C := "BedFrontier$Clerk") (T := T_Clerk) (N := 2) hx hb htt i_Clerk hown hK.1 hP 0 rfl rfl 0 (by decide) (htt _ k_191) (fun _ h9 => h9) rfl d_Clerk_paidByChance_73 ?_
      refine lv_iload hx hb d_Clerk_paidByChance_76 (lv_at hl 2 rfl) ?_
      refine lv_iload hx hb d_Clerk_paidByChance_78 (lv_at hl 0 rfl) ?_
      refine lv_iload hx hb d_Clerk_paidByChance_80 (lv_at hl 6 rfl) ?_
      obtain ⟨x17, h18, hf⟩ := bdE hf
      refine vR (q0 := 0) (ci := 6) (rest := []) C0 (c_House_lets l D ty hA kA sH x13 x16 x6 x17 h18) k_518 cal_House_lets hK (hP.sub (ws' := (L_hk ty hA kA sH)) [2, 3, 4, 5, 6, 7, 8, 9, 10, 11, 12, 13, 14, 15] rfl) rfl rfl rfl ⟨by rw [hR]; decide, by rw [hR]; decide⟩ rfl rfl rfl hl.1 rfl (Nat.le_of_ble_eq_true rfl) d_Clerk_paidByChance_82 ⟨Nat.zero_le _, Nat.zero_le _⟩ rfl ?_
      refine lv_if_eq (tgt := 122) hx hb d_Clerk_paidByChance_85 (by decide) (fun c19 => ?_) (fun c19 => ?_)
      · replace hf := iteT c19 hf
        refine lv_iload hx hb d_Clerk_paidByChance_122 (lv_at hl 6 rfl) ?_
        refine lv_iconst (v := (1 : Int32)) hx hb d_Clerk_paidByChance_124 (by decide) ?_
        refine lv_iadd hx hb d_Clerk_paidByChance_125 ?_
        refine lv_bipush (v := (24 : Int32)) hx hb d_Clerk_paidByChance_126 (by decide) ?_
        refine lv_irem hx hb d_Clerk_paidByChance_128 (by decide) ?_
        refine lv_topi (fun x20 e_x20 => ?_)
        replace hf := nmE hf e_x20
        refine lv_istore (lv' := [(6, .int x20), (10, .int x16), (3, .long x14), (9, .int x13), (0, .ref (cA 0)), (2, .int a2), (5, .int x5), (7, .int x7), (8, .int x8)]) hx hb d_Clerk_paidByChance_129 hl (by decide) rfl (fun ls hl => ?_)
        obtain ⟨x21, e_x21⟩ : ∃ z : Int32, z = (x8 + (1 : Int32)) := ⟨_, rfl⟩
        replace hf := nmE hf e_x21
        refine lv_iinc (v := x21) (lv' := [(8, .int x21), (6, .int x20), (10, .int x16), (3, .long x14), (9, .int x13), (0, .ref (cA 0)), (2, .int a2), (5, .int x5), (7, .int x7)]) hx hb d_Clerk_paidByChance_131 hl (k := 8) rfl (by rw [e_x21]; rfl) (by decide) rfl (fun ls hl => ?_)
        refine lv_goto (tgt := 27) hx hb d_Clerk_paidByChance_134 (by decide) ?_
        exact hK27 (x14, x5, x20, x7, x21) hf ls (lv_sub hl [5, 6, 3, 7, 1, 8, 0] rfl)
      · replace hf := iteF c19 hf
        refine lv_iload hx hb d_Clerk_paidByChance_88 (lv_at hl 7 rfl) ?_
        refine lv_aload_n hx hb d_Clerk_paidByChance_90 rfl (lv_at hl 3 rfl) ?_
        refine va_get (D := D) (ci := 8) (v := .ref (hA 0)) (C := "BedFrontier$Clerk") (T := T_Clerk) (N := 2) hx hb htt i_Clerk hown hK.1 hP 0 rfl rfl 0 (by decide) (htt _ k_191) (fun _ h9 => h9) rfl d_Clerk_paidByChance_91 ?_
        refine lv_iload hx hb d_Clerk_paidByChance_94 (lv_at hl 2 rfl) ?_
        refine lv_iload hx hb d_Clerk_paidByChance_96 (lv_at hl 0 rfl) ?_
        refine lv_iload hx hb d_Clerk_paidByChance_98 (lv_at hl 6 rfl) ?_
        obtain ⟨x22, h23, hf⟩ := bdE hf
        refine vR (q0 := 0) (ci := 6) (rest := [.int x7]) C0 (c_House_owed l D ty hA kA sH x13 x16 x6 x22 h23) k_624 cal_House_owed hK (hP.sub (ws' := (L_hk ty hA kA sH)) [2, 3, 4, 5, 6, 7, 8, 9, 10, 11, 12, 13, 14, 15] rfl) rfl rfl rfl ⟨by rw [hR]; decide, by rw [hR]; decide⟩ rfl rfl rfl hl.1 rfl (Nat.le_of_ble_eq_true rfl) d_Clerk_paidByChance_100 ⟨Nat.zero_le _, Nat.zero_le _⟩ rfl ?_
        refine lv_aload_n hx hb d_Clerk_paidByChance_103 rfl (lv_at hl 3 rfl) ?_
        refine va_get (D := D) (ci := 8) (v := .ref (hA 0)) (C := "BedFrontier$Clerk") (T := T_Clerk) (N := 2) hx hb htt i_Clerk hown hK.1 hP 0 rfl rfl 0 (by decide) (htt _ k_191) (fun _ h9 => h9) rfl d_Clerk_paidByChance_104 ?_
        refine lv_iload hx hb d_Clerk_paidByChance_107 (lv_at hl 5 rfl) ?_
        refine lv_iload hx hb d_Clerk_paidByChance_109 (lv_at hl 0 rfl) ?_
        obtain ⟨x24, h25, hf⟩ := bdE hf
        refine vR (q0 := 0) (ci := 6) (rest := [.int x22, .int x7]) C0 (c_House_tollTo l D ty hA kA sH x5 x16 x24 h25) k_726 cal_House_tollTo hK (hP.sub (ws' := (L_h ty hA kA sH)) [2, 3, 4, 5, 6, 7, 8] rfl) rfl rfl rfl ⟨by rw [hR]; decide, by rw [hR]; decide⟩ rfl rfl rfl hl.1 rfl (Nat.le_of_ble_eq_true rfl) d_Clerk_paidByChance_111 ⟨Nat.zero_le _, Nat.zero_le _⟩ rfl ?_
        refine lv_iadd hx hb d_Clerk_paidByChance_114 ?_
        refine lv_iadd hx hb d_Clerk_paidByChance_115 ?_
        refine lv_topi (fun x26 e_x26 => ?_)
        replace hf := nmE hf e_x26
        refine lv_istore (lv' := [(7, .int x26), (10, .int x16), (3, .long x14), (9, .int x13), (0, .ref (cA 0)), (2, .int a2), (5, .int x5), (6, .int x6), (8, .int x8)]) hx hb d_Clerk_paidByChance_116 hl (by decide) rfl (fun ls hl => ?_)
        refine lv_iload hx hb d_Clerk_paidByChance_118 (lv_at hl 1 rfl) ?_
        refine lv_istore (lv' := [(5, .int x16), (7, .int x26), (10, .int x16), (3, .long x14), (9, .int x13), (0, .ref (cA 0)), (2, .int a2), (6, .int x6), (8, .int x8)]) hx hb d_Clerk_paidByChance_120 hl (by decide) rfl (fun ls hl => ?_)
        refine lv_iload hx hb d_Clerk_paidByChance_122 (lv_at hl 7 rfl) ?_
        refine lv_iconst (v := (1 : Int32)) hx hb d_Clerk_paidByChance_124 (by decide) ?_
        refine lv_iadd hx hb d_Clerk_paidByChance_125 ?_
        refine lv_bipush (v := (24 : Int32)) hx hb d_Clerk_paidByChance_126 (by decide) ?_
        refine lv_irem hx hb d_Clerk_paidByChance_128 (by decide) ?_
        refine lv_topi (fun x27 e_x27 => ?_)
        replace hf := nmE hf e_x27
        refine lv_istore (lv' := [(6, .int x27), (5, .int x16), (7, .int x26), (10, .int x16), (3, .long x14), (9, .int x13), (0, .ref (cA 0)), (2, .int a2), (8, .int x8)]) hx hb d_Clerk_paidByChance_129 hl (by decide) rfl (fun ls hl => ?_)
        obtain ⟨x28, e_x28⟩ : ∃ z : Int32, z = (x8 + (1 : Int32)) := ⟨_, rfl⟩
        replace hf := nmE hf e_x28
        refine lv_iinc (v := x28) (lv' := [(8, .int x28), (6, .int x27), (5, .int x16), (7, .int x26), (10, .int x16), (3, .long x14), (9, .int x13), (0, .ref (cA 0)), (2, .int a2)]) hx hb d_Clerk_paidByChance_131 hl (k := 8) rfl (by rw [e_x28]; rfl) (by decide) rfl (fun ls hl => ?_)
        refine lv_goto (tgt := 27) hx hb d_Clerk_paidByChance_134 (by decide) ?_
        exact hK27 (x14, x16, x27, x26, x28) hf ls (lv_sub hl [7, 8, 5, 2, 1, 3, 0] rfl)
  exact B27 4000 (x1, x2, x3, (0 : Int32), (0 : Int32)) hf ls (lv_sub hl [5, 7, 4, 3, 2, 1, 0] rfl)
