def f_Planner_costAt (a1 : Int32) (a2 : Int32) : Option (Int32) :=
  some (((a1 * (2 : Int32)) + a2) * (64 : Int32))
set_option maxHeartbeats 4000000 in
set_option maxRecDepth 100000 in
theorem c_Planner_costAt (l : Launch) (D : va_G) (ty : Nat → ClassId) (a1 : Int32) (a2 : Int32) (rr : Int32) (hf : f_Planner_costAt a1 a2 = some rr) : Met l y_Planner_costAt (Cond.code y_Planner_costAt prog_8_method_8_code 2 ((Option.some FieldType.int)) :: lw_ok) { frames := 0, cells := 0, slots := 0, locals := 0 } (PcR D ty [.int a1, .int a2] ([] : va_W)) (QR (some (.int rr))) 0 0 (fun _ => False) := by
  refine hdR (by decide) (Nat.le_of_ble_eq_true rfl) ?_
  intro p e s m below meth c ls R args Q C0 hR hQ hP hK hl
  obtain ⟨hx, hb, hr, hlk, hml, hown, htt⟩ := id C0
  have hl : lv_has ls 2 [(0, .int a1), (1, .int a2)] := hl
  unfold f_Planner_costAt at hf
  refine lv_iload_n hx hb d_Planner_costAt_0 rfl (lv_at hl 0 rfl) ?_
  refine lv_iconst (v := (2 : Int32)) hx hb d_Planner_costAt_1 (by decide) ?_
  refine lv_imul hx hb d_Planner_costAt_2 ?_
  refine lv_iload_n hx hb d_Planner_costAt_3 rfl (lv_at hl 1 rfl) ?_
  refine lv_iadd hx hb d_Planner_costAt_4 ?_
  refine lv_bipush (v := (64 : Int32)) hx hb d_Planner_costAt_5 (by decide) ?_
  refine lv_imul hx hb d_Planner_costAt_7 ?_
  obtain rfl := sj1 hf
  exact retR C0 (narI _) hQ d_Planner_costAt_8
def f_Planner_priceAt (a1 : Int32) (a2 : Int32) : Option (Int32) :=
  some (((a1 * (2 : Int32)) + a2) * (6 : Int32))
set_option maxHeartbeats 4000000 in
set_option maxRecDepth 100000 in
theorem c_Planner_priceAt (l : Launch) (D : va_G) (ty : Nat → ClassId) (a1 : Int32) (a2 : Int32) (rr : Int32) (hf : f_Planner_priceAt a1 a2 = some rr) : Met l y_Planner_priceAt (Cond.code y_Planner_priceAt prog_8_method_9_code 2 ((Option.some FieldType.int)) :: lw_ok) { frames := 0, cells := 0, slots := 0, locals := 0 } (PcR D ty [.int a1, .int a2] ([] : va_W)) (QR (some (.int rr))) 0 0 (fun _ => False) := by
  refine hdR (by decide) (Nat.le_of_ble_eq_true rfl) ?_
  intro p e s m below meth c ls R args Q C0 hR hQ hP hK hl
  obtain ⟨hx, hb, hr, hlk, hml, hown, htt⟩ := id C0
  have hl : lv_has ls 2 [(0, .int a1), (1, .int a2)] := hl
  unfold f_Planner_priceAt at hf
  refine lv_iload_n hx hb d_Planner_priceAt_0 rfl (lv_at hl 0 rfl) ?_
  refine lv_iconst (v := (2 : Int32)) hx hb d_Planner_priceAt_1 (by decide) ?_
  refine lv_imul hx hb d_Planner_priceAt_2 ?_
  refine lv_iload_n hx hb d_Planner_priceAt_3 rfl (lv_at hl 1 rfl) ?_
  refine lv_iadd hx hb d_Planner_priceAt_4 ?_
  refine lv_bipush (v := (6 : Int32)) hx hb d_Planner_priceAt_5 (by decide) ?_
  refine lv_imul hx hb d_Planner_priceAt_7 ?_
  obtain rfl := sj1 hf
  exact retR C0 (narI _) hQ d_Planner_priceAt_8
def f_Planner_allDone (sP : PW) (sH : PW) : Option (Int32) :=
  some (((1 : Int32) <<< ((sH 12 0) &&& 31)) - (1 : Int32))
set_option maxHeartbeats 4000000 in
set_option maxRecDepth 100000 in
theorem c_Planner_allDone (l : Launch) (D : va_G) (ty : Nat → ClassId) (pA hA kA : Nat → Nat) (sP : PW) (sH : PW) (rr : Int32) (hf : f_Planner_allDone sP sH = some rr) : Met l y_Planner_allDone (Cond.code y_Planner_allDone prog_8_method_3_code 1 ((Option.some FieldType.int)) :: lw_ok) { frames := 0, cells := 0, slots := 0, locals := 0 } (PcR D ty [.ref (pA 0)] (L_ph ty pA hA kA sP sH)) (QR (some (.int rr))) 0 0 (fun _ => False) := by
  refine hdR (by decide) (Nat.le_of_ble_eq_true rfl) ?_
  intro p e s m below meth c ls R args Q C0 hR hQ hP hK hl
  obtain ⟨hx, hb, hr, hlk, hml, hown, htt⟩ := id C0
  have hl : lv_has ls 1 [(0, .ref (pA 0))] := hl
  unfold f_Planner_allDone at hf
  refine lv_iconst (v := (1 : Int32)) hx hb d_Planner_allDone_0 (by decide) ?_
  refine lv_aload_n hx hb d_Planner_allDone_1 rfl (lv_at hl 0 rfl) ?_
  refine va_get (D := D) (ci := 9) (v := .ref (hA 0)) (C := "BedFrontier$Planner") (T := T_Planner) (N := 3) hx hb htt i_Planner hown hK.1 hP 0 rfl rfl 0 (by decide) (htt _ k_533) (fun _ h9 => h9) rfl d_Planner_allDone_2 ?_
  refine va_get (D := D) (ci := 6) (v := .int (sH 12 0)) (C := "BedFrontier$House") (T := T_House) (N := 15) hx hb htt i_House hown hK.1 hP 3 rfl rfl 12 (by decide) (htt _ k_114) (fun _ h9 => h9) rfl d_Planner_allDone_5 ?_
  refine lv_ishl hx hb d_Planner_allDone_8 ?_
  refine lv_iconst (v := (1 : Int32)) hx hb d_Planner_allDone_9 (by decide) ?_
  refine lv_isub hx hb d_Planner_allDone_10 ?_
  obtain rfl := sj1 hf
  exact retR C0 (narI _) hQ d_Planner_allDone_11
def f_Planner_endOfDay_L14 (x1 : Int32) (x3 : Int32) (K7 : Int32 × PW → Option (PW)) (K14 : Int32 × PW → Option (PW)) : Int32 × PW → Option (PW)
  | (x6, sP7) =>
  (if x1 < x6 then nm (x3 + (1 : Int32)) (fun x9 => K7 (x9, sP7)) else bd (f_Planner_costAt (24 : Int32) x3) (fun x10 => (if x6 = x1 then gd (okI (x10 + x6) 3200) (nm (up sP7 1 (upd (sP7 1) (((x10 + x6)).toNatClampNeg) (0 : Int32))) (fun sP17 => nm (x6 + (1 : Int32)) (fun x18 => K14 (x18, sP17)))) else gd (okI (x10 + x6) 3200) (nm (up sP7 1 (upd (sP7 1) (((x10 + x6)).toNatClampNeg) (1000000 : Int32))) (fun sP14 => nm (x6 + (1 : Int32)) (fun x15 => K14 (x15, sP14)))))))
def f_Planner_endOfDay_L7 (x1 : Int32) (K7 : Int32 × PW → Option (PW)) : Int32 × PW → Option (PW)
  | (x3, sP4) =>
  (if (2 : Int32) ≤ x3 then some sP4 else loopF (f_Planner_endOfDay_L14 x1 x3 K7) 4000 ((0 : Int32), sP4))
def f_Planner_endOfDay (sP : PW) (sH : PW) : Option (PW) :=
  bd (f_Planner_allDone sP sH) (fun x1 => loopF (f_Planner_endOfDay_L7 x1) 4000 ((0 : Int32), sP))
set_option maxHeartbeats 4000000 in
set_option maxRecDepth 100000 in
theorem c_Planner_endOfDay (l : Launch) (D : va_G) (ty : Nat → ClassId) (pA hA kA : Nat → Nat) (sz : Nat) (sP : PW) (sH : PW) (tP : PW) (hf : f_Planner_endOfDay sP sH = some tP) : Met l y_Planner_endOfDay (Cond.code y_Planner_endOfDay prog_8_method_4_code 4 none :: lw_ok) { frames := 1, cells := 0, slots := 0, locals := 21 } (PcM D ty [.ref (pA 0)] sz (L_ph ty pA hA kA sP sH)) (QM D (L_ph ty pA hA kA tP sH) (va_A (L_ph ty pA hA kA sP sH) sz) (none)) 0 0 (va_A (L_ph ty pA hA kA sP sH) sz) := by
  refine hdM (by decide) (Nat.le_of_ble_eq_true rfl) ?_
  intro p e s m below meth c ls R args Q A C0 hR hQ hnm hAq hP hK hD hS hl
  obtain ⟨hx, hb, hr, hlk, hml, hown, htt⟩ := id C0
  have hl : lv_has ls 4 [(0, .ref (pA 0))] := hl
  generalize hH0 : s.heap = H at hP hS ⊢
  have hS : va_S A s.heap H [] := by rw [hH0]; exact hS
  unfold f_Planner_endOfDay at hf
  refine lv_aload_n hx hb d_Planner_endOfDay_0 rfl (lv_at hl 0 rfl) ?_
  obtain ⟨x1, h2, hf⟩ := bdE hf
  refine vR (q0 := 0) (ci := 9) (rest := []) C0 (c_Planner_allDone l D ty pA hA kA sP sH x1 h2) k_551 cal_Planner_allDone hK hP rfl rfl rfl ⟨by rw [hR]; decide, by rw [hR]; decide⟩ rfl rfl rfl hl.1 rfl (Nat.le_of_ble_eq_true rfl) d_Planner_endOfDay_1 ⟨Nat.zero_le _, Nat.zero_le _⟩ rfl ?_
  refine lv_istore_n (lv' := [(1, .int x1), (0, .ref (pA 0))]) hx hb d_Planner_endOfDay_4 rfl hl (by decide) rfl (fun ls hl => ?_)
  refine lv_iconst (v := (0 : Int32)) hx hb d_Planner_endOfDay_5 (by decide) ?_
  refine lv_istore_n (lv' := [(2, .int (0 : Int32)), (1, .int x1), (0, .ref (pA 0))]) hx hb d_Planner_endOfDay_6 rfl hl (by decide) rfl (fun ls hl => ?_)
  have B7 : ∀ (n : Nat) (x : Int32 × PW), loopF (f_Planner_endOfDay_L7 x1) n x = some tP → ∀ (H : Heap) (locs : List Loc) (ls : Array Slot), va_P D vwCl (L_ph ty pA hA kA (x.2) sH) H → va_D A (L_ph ty pA hA kA (x.2) sH) → va_S A s.heap H locs → lv_has ls 4 [(0, .ref (pA 0)), (1, .int x1), (2, .int (x.1))] → W p l e R s m args below meth c H locs 0 0 Q (F0 m 7 ls []) := by
    refine loopW (fun (x : Int32 × PW) => ∀ (H : Heap) (locs : List Loc) (ls : Array Slot), va_P D vwCl (L_ph ty pA hA kA (x.2) sH) H → va_D A (L_ph ty pA hA kA (x.2) sH) → va_S A s.heap H locs → lv_has ls 4 [(0, .ref (pA 0)), (1, .int x1), (2, .int (x.1))] → W p l e R s m args below meth c H locs 0 0 Q (F0 m 7 ls [])) ?_
    intro K7 hK7 x hf
    obtain ⟨x3, sP4⟩ := x
    rw [f_Planner_endOfDay_L7] at hf
    intro H locs ls hP hD hS hl
    have hl : lv_has ls 4 [(0, .ref (pA 0)), (1, .int x1), (2, .int x3)] := hl
    have hP : va_P D vwCl (L_ph ty pA hA kA sP4 sH) H := hP
    have hD : va_D A (L_ph ty pA hA kA sP4 sH) := hD
    show W p l e R s m args below meth c H locs 0 0 Q (F0 m 7 ls [])
    refine lv_iload_n hx hb d_Planner_endOfDay_7 rfl (lv_at hl 2 rfl) ?_
    refine lv_iconst (v := (2 : Int32)) hx hb d_Planner_endOfDay_8 (by decide) ?_
    refine lv_icmp_ge (tgt := 55) hx hb d_Planner_endOfDay_9 (by decide) (fun c5 => ?_) (fun c5 => ?_)
    · replace hf := iteT c5 hf
      obtain rfl := sj1 hf
      exact retMv C0 hQ hP hD hS d_Planner_endOfDay_55
    · replace hf := iteF c5 hf
      refine lv_iconst (v := (0 : Int32)) hx hb d_Planner_endOfDay_12 (by decide) ?_
      refine lv_istore_n (lv' := [(3, .int (0 : Int32)), (0, .ref (pA 0)), (1, .int x1), (2, .int x3)]) hx hb d_Planner_endOfDay_13 rfl hl (by decide) rfl (fun ls hl => ?_)
      have B14 : ∀ (n : Nat) (x : Int32 × PW), loopF (f_Planner_endOfDay_L14 x1 x3 K7) n x = some tP → ∀ (H : Heap) (locs : List Loc) (ls : Array Slot), va_P D vwCl (L_ph ty pA hA kA (x.2) sH) H → va_D A (L_ph ty pA hA kA (x.2) sH) → va_S A s.heap H locs → lv_has ls 4 [(0, .ref (pA 0)), (1, .int x1), (2, .int x3), (3, .int (x.1))] → W p l e R s m args below meth c H locs 0 0 Q (F0 m 14 ls []) := by
        refine loopW (fun (x : Int32 × PW) => ∀ (H : Heap) (locs : List Loc) (ls : Array Slot), va_P D vwCl (L_ph ty pA hA kA (x.2) sH) H → va_D A (L_ph ty pA hA kA (x.2) sH) → va_S A s.heap H locs → lv_has ls 4 [(0, .ref (pA 0)), (1, .int x1), (2, .int x3), (3, .int (x.1))] → W p l e R s m args below meth c H locs 0 0 Q (F0 m 14 ls [])) ?_
        intro K14 hK14 x hf
        obtain ⟨x6, sP7⟩ := x
        rw [f_Planner_endOfDay_L14] at hf
        intro H locs ls hP hD hS hl
        have hl : lv_has ls 4 [(0, .ref (pA 0)), (1, .int x1), (2, .int x3), (3, .int x6)] := hl
        have hP : va_P D vwCl (L_ph ty pA hA kA sP7 sH) H := hP
        have hD : va_D A (L_ph ty pA hA kA sP7 sH) := hD
        show W p l e R s m args below meth c H locs 0 0 Q (F0 m 14 ls [])
        refine lv_iload_n hx hb d_Planner_endOfDay_14 rfl (lv_at hl 3 rfl) ?_
        refine lv_iload_n hx hb d_Planner_endOfDay_15 rfl (lv_at hl 1 rfl) ?_
        refine lv_icmp_gt (tgt := 49) hx hb d_Planner_endOfDay_16 (by decide) (fun c8 => ?_) (fun c8 => ?_)
        · replace hf := iteT c8 hf
          obtain ⟨x9, e_x9⟩ : ∃ z : Int32, z = (x3 + (1 : Int32)) := ⟨_, rfl⟩
          replace hf := nmE hf e_x9
          refine lv_iinc (v := x9) (lv' := [(2, .int x9), (0, .ref (pA 0)), (1, .int x1), (3, .int x6)]) hx hb d_Planner_endOfDay_49 hl (k := 2) rfl (by rw [e_x9]; rfl) (by decide) rfl (fun ls hl => ?_)
          refine lv_goto (tgt := 7) hx hb d_Planner_endOfDay_52 (by decide) ?_
          exact hK7 (x9, sP7) hf _ _ ls hP hD hS (lv_sub hl [1, 2, 0] rfl)
        · replace hf := iteF c8 hf
          refine lv_aload_n hx hb d_Planner_endOfDay_19 rfl (lv_at hl 0 rfl) ?_
          refine va_get (D := D) (ci := 9) (v := .ref (pA 2)) (C := "BedFrontier$Planner") (T := T_Planner) (N := 3) hx hb htt i_Planner hown hK.1 hP 0 rfl rfl 1 (by decide) (htt _ k_534) (fun _ h9 => h9) rfl d_Planner_endOfDay_20 ?_
          refine lv_bipush (v := (24 : Int32)) hx hb d_Planner_endOfDay_23 (by decide) ?_
          refine lv_iload_n hx hb d_Planner_endOfDay_25 rfl (lv_at hl 2 rfl) ?_
          obtain ⟨x10, h11, hf⟩ := bdE hf
          refine scR (rest := [.ref (pA 2)]) C0 (c_Planner_costAt l D ty (24 : Int32) x3 x10 h11) k_555 cal_Planner_costAt hK (va_P_nil) ⟨by rw [hR]; decide, by rw [hR]; decide⟩ rfl rfl rfl hl.1 rfl (Nat.le_of_ble_eq_true rfl) d_Planner_endOfDay_26 ⟨Nat.zero_le _, Nat.zero_le _⟩ rfl ?_
          refine lv_iload_n hx hb d_Planner_endOfDay_29 rfl (lv_at hl 3 rfl) ?_
          refine lv_iadd hx hb d_Planner_endOfDay_30 ?_
          refine lv_iload_n hx hb d_Planner_endOfDay_31 rfl (lv_at hl 3 rfl) ?_
          refine lv_iload_n hx hb d_Planner_endOfDay_32 rfl (lv_at hl 1 rfl) ?_
          refine lv_icmp_ne (tgt := 40) hx hb d_Planner_endOfDay_33 (by decide) (fun c12 => ?_) (fun c12 => ?_)
          · replace hf := iteF c12 hf
            refine lv_ldc (v := (1000000 : Int32)) hx hb hown (htt _ k_558) d_Planner_endOfDay_40 ?_
            obtain ⟨g13, hf⟩ := gdE hf
            refine va_iast hx hb hK.1 hP hD hS 1 0 rfl rfl (okI_in g13) d_Planner_endOfDay_42 (fun H locs hP hD hS => ?_)
            obtain ⟨sP14, e_sP14⟩ : ∃ z : PW, z = up sP7 1 (upd (sP7 1) (((x10 + x6)).toNatClampNeg) (1000000 : Int32)) := ⟨_, rfl⟩
            replace hf := nmE hf e_sP14
            have hP : va_P D vwCl (L_ph ty pA hA kA sP14 sH) H := by rw [e_sP14]; exact hP
            have hD : va_D A (L_ph ty pA hA kA sP14 sH) := by rw [e_sP14]; exact hD
            obtain ⟨x15, e_x15⟩ : ∃ z : Int32, z = (x6 + (1 : Int32)) := ⟨_, rfl⟩
            replace hf := nmE hf e_x15
            refine lv_iinc (v := x15) (lv' := [(3, .int x15), (0, .ref (pA 0)), (1, .int x1), (2, .int x3)]) hx hb d_Planner_endOfDay_43 hl (k := 3) rfl (by rw [e_x15]; rfl) (by decide) rfl (fun ls hl => ?_)
            refine lv_goto (tgt := 14) hx hb d_Planner_endOfDay_46 (by decide) ?_
            exact hK14 (x15, sP14) hf _ _ ls hP hD hS (lv_sub hl [1, 2, 3, 0] rfl)
          · replace hf := iteT c12 hf
            refine lv_iconst (v := (0 : Int32)) hx hb d_Planner_endOfDay_36 (by decide) ?_
            refine lv_goto (tgt := 42) hx hb d_Planner_endOfDay_37 (by decide) ?_
            obtain ⟨g16, hf⟩ := gdE hf
            refine va_iast hx hb hK.1 hP hD hS 1 0 rfl rfl (okI_in g16) d_Planner_endOfDay_42 (fun H locs hP hD hS => ?_)
            obtain ⟨sP17, e_sP17⟩ : ∃ z : PW, z = up sP7 1 (upd (sP7 1) (((x10 + x6)).toNatClampNeg) (0 : Int32)) := ⟨_, rfl⟩
            replace hf := nmE hf e_sP17
            have hP : va_P D vwCl (L_ph ty pA hA kA sP17 sH) H := by rw [e_sP17]; exact hP
            have hD : va_D A (L_ph ty pA hA kA sP17 sH) := by rw [e_sP17]; exact hD
            obtain ⟨x18, e_x18⟩ : ∃ z : Int32, z = (x6 + (1 : Int32)) := ⟨_, rfl⟩
            replace hf := nmE hf e_x18
            refine lv_iinc (v := x18) (lv' := [(3, .int x18), (0, .ref (pA 0)), (1, .int x1), (2, .int x3)]) hx hb d_Planner_endOfDay_43 hl (k := 3) rfl (by rw [e_x18]; rfl) (by decide) rfl (fun ls hl => ?_)
            refine lv_goto (tgt := 14) hx hb d_Planner_endOfDay_46 (by decide) ?_
            exact hK14 (x18, sP17) hf _ _ ls hP hD hS (lv_sub hl [1, 2, 3, 0] rfl)
      exact B14 4000 ((0 : Int32), sP4) hf _ _ ls hP hD hS (lv_sub hl [1, 2, 3, 0] rfl)
  exact B7 4000 ((0 : Int32), sP) hf _ _ ls hP hD hS (lv_sub hl [2, 1, 0] rfl)
def f_Planner_priceHour_L9 (a1 : Int32) (sH : PW) (x1 : Int32) (K2 : Int32 × PW → Option (PW)) (K9 : Int32 × PW → Option (PW)) : Int32 × PW → Option (PW)
  | (x4, sP5) =>
  (if (sH 12 0) ≤ x4 then nm (x1 + (1 : Int32)) (fun x7 => K2 (x7, sP5)) else bd (f_House_lets sH x4 x1 a1) (fun x8 => bd (f_Planner_priceAt a1 x1) (fun x10 => (if x8 = 0 then gd (okI (x10 + x4) 288) (nm (up sP5 2 (upd (sP5 2) (((x10 + x4)).toNatClampNeg) (1000000 : Int32))) (fun sP14 => nm (x4 + (1 : Int32)) (fun x15 => K9 (x15, sP14)))) else bd (f_House_owed sH x4 x1 a1) (fun x16 => gd (okI (x10 + x4) 288) (nm (up sP5 2 (upd (sP5 2) (((x10 + x4)).toNatClampNeg) x16)) (fun sP19 => nm (x4 + (1 : Int32)) (fun x20 => K9 (x20, sP19)))))))))
def f_Planner_priceHour_L2 (a1 : Int32) (sH : PW) (K2 : Int32 × PW → Option (PW)) : Int32 × PW → Option (PW)
  | (x1, sP2) =>
  (if (2 : Int32) ≤ x1 then some sP2 else loopF (f_Planner_priceHour_L9 a1 sH x1 K2) 4000 ((0 : Int32), sP2))
def f_Planner_priceHour (sP : PW) (sH : PW) (a1 : Int32) : Option (PW) :=
  loopF (f_Planner_priceHour_L2 a1 sH) 4000 ((0 : Int32), sP)
set_option maxHeartbeats 4000000 in
set_option maxRecDepth 100000 in
theorem c_Planner_priceHour (l : Launch) (D : va_G) (ty : Nat → ClassId) (pA hA kA : Nat → Nat) (sz : Nat) (sP : PW) (sH : PW) (a1 : Int32) (tP : PW) (hf : f_Planner_priceHour sP sH a1 = some tP) : Met l y_Planner_priceHour (Cond.code y_Planner_priceHour prog_8_method_5_code 5 none :: lw_ok) { frames := 6, cells := 0, slots := 0, locals := 166 } (PcM D ty [.ref (pA 0), .int a1] sz (L_phk ty pA hA kA sP sH)) (QM D (L_phk ty pA hA kA tP sH) (va_A (L_phk ty pA hA kA sP sH) sz) (none)) 0 0 (va_A (L_phk ty pA hA kA sP sH) sz) := by
  refine hdM (by decide) (Nat.le_of_ble_eq_true rfl) ?_
  intro p e s m below meth c ls R args Q A C0 hR hQ hnm hAq hP hK hD hS hl
  obtain ⟨hx, hb, hr, hlk, hml, hown, htt⟩ := id C0
  have hl : lv_has ls 5 [(0, .ref (pA 0)), (1, .int a1)] := hl
  generalize hH0 : s.heap = H at hP hS ⊢
  have hS : va_S A s.heap H [] := by rw [hH0]; exact hS
  unfold f_Planner_priceHour at hf
  refine lv_iconst (v := (0 : Int32)) hx hb d_Planner_priceHour_0 (by decide) ?_
  refine lv_istore_n (lv' := [(2, .int (0 : Int32)), (0, .ref (pA 0)), (1, .int a1)]) hx hb d_Planner_priceHour_1 rfl hl (by decide) rfl (fun ls hl => ?_)
  have B2 : ∀ (n : Nat) (x : Int32 × PW), loopF (f_Planner_priceHour_L2 a1 sH) n x = some tP → ∀ (H : Heap) (locs : List Loc) (ls : Array Slot), va_P D vwCl (L_phk ty pA hA kA (x.2) sH) H → va_D A (L_phk ty pA hA kA (x.2) sH) → va_S A s.heap H locs → lv_has ls 5 [(0, .ref (pA 0)), (1, .int a1), (2, .int (x.1))] → W p l e R s m args below meth c H locs 0 0 Q (F0 m 2 ls []) := by
    refine loopW (fun (x : Int32 × PW) => ∀ (H : Heap) (locs : List Loc) (ls : Array Slot), va_P D vwCl (L_phk ty pA hA kA (x.2) sH) H → va_D A (L_phk ty pA hA kA (x.2) sH) → va_S A s.heap H locs → lv_has ls 5 [(0, .ref (pA 0)), (1, .int a1), (2, .int (x.1))] → W p l e R s m args below meth c H locs 0 0 Q (F0 m 2 ls [])) ?_
    intro K2 hK2 x hf
    obtain ⟨x1, sP2⟩ := x
    rw [f_Planner_priceHour_L2] at hf
    intro H locs ls hP hD hS hl
    have hl : lv_has ls 5 [(0, .ref (pA 0)), (1, .int a1), (2, .int x1)] := hl
    have hP : va_P D vwCl (L_phk ty pA hA kA sP2 sH) H := hP
    have hD : va_D A (L_phk ty pA hA kA sP2 sH) := hD
    show W p l e R s m args below meth c H locs 0 0 Q (F0 m 2 ls [])
    refine lv_iload_n hx hb d_Planner_priceHour_2 rfl (lv_at hl 2 rfl) ?_
    refine lv_iconst (v := (2 : Int32)) hx hb d_Planner_priceHour_3 (by decide) ?_
    refine lv_icmp_ge (tgt := 76) hx hb d_Planner_priceHour_4 (by decide) (fun c3 => ?_) (fun c3 => ?_)
    · replace hf := iteT c3 hf
      obtain rfl := sj1 hf
      exact retMv C0 hQ hP hD hS d_Planner_priceHour_76
    · replace hf := iteF c3 hf
      refine lv_iconst (v := (0 : Int32)) hx hb d_Planner_priceHour_7 (by decide) ?_
      refine lv_istore_n (lv' := [(3, .int (0 : Int32)), (0, .ref (pA 0)), (1, .int a1), (2, .int x1)]) hx hb d_Planner_priceHour_8 rfl hl (by decide) rfl (fun ls hl => ?_)
      have B9 : ∀ (n : Nat) (x : Int32 × PW), loopF (f_Planner_priceHour_L9 a1 sH x1 K2) n x = some tP → ∀ (H : Heap) (locs : List Loc) (ls : Array Slot), va_P D vwCl (L_phk ty pA hA kA (x.2) sH) H → va_D A (L_phk ty pA hA kA (x.2) sH) → va_S A s.heap H locs → lv_has ls 5 [(0, .ref (pA 0)), (1, .int a1), (2, .int x1), (3, .int (x.1))] → W p l e R s m args below meth c H locs 0 0 Q (F0 m 9 ls []) := by
        refine loopW (fun (x : Int32 × PW) => ∀ (H : Heap) (locs : List Loc) (ls : Array Slot), va_P D vwCl (L_phk ty pA hA kA (x.2) sH) H → va_D A (L_phk ty pA hA kA (x.2) sH) → va_S A s.heap H locs → lv_has ls 5 [(0, .ref (pA 0)), (1, .int a1), (2, .int x1), (3, .int (x.1))] → W p l e R s m args below meth c H locs 0 0 Q (F0 m 9 ls [])) ?_
        intro K9 hK9 x hf
        obtain ⟨x4, sP5⟩ := x
        rw [f_Planner_priceHour_L9] at hf
        intro H locs ls hP hD hS hl
        have hl : lv_has ls 5 [(0, .ref (pA 0)), (1, .int a1), (2, .int x1), (3, .int x4)] := hl
        have hP : va_P D vwCl (L_phk ty pA hA kA sP5 sH) H := hP
        have hD : va_D A (L_phk ty pA hA kA sP5 sH) := hD
        show W p l e R s m args below meth c H locs 0 0 Q (F0 m 9 ls [])
        refine lv_iload_n hx hb d_Planner_priceHour_9 rfl (lv_at hl 3 rfl) ?_
        refine lv_aload_n hx hb d_Planner_priceHour_10 rfl (lv_at hl 0 rfl) ?_
        refine va_get (D := D) (ci := 9) (v := .ref (hA 0)) (C := "BedFrontier$Planner") (T := T_Planner) (N := 3) hx hb htt i_Planner hown hK.1 hP 0 rfl rfl 0 (by decide) (htt _ k_533) (fun _ h9 => h9) rfl d_Planner_priceHour_11 ?_
        refine va_get (D := D) (ci := 6) (v := .int (sH 12 0)) (C := "BedFrontier$House") (T := T_House) (N := 15) hx hb htt i_House hown hK.1 hP 3 rfl rfl 12 (by decide) (htt _ k_114) (fun _ h9 => h9) rfl d_Planner_priceHour_14 ?_
        refine lv_icmp_ge (tgt := 70) hx hb d_Planner_priceHour_17 (by decide) (fun c6 => ?_) (fun c6 => ?_)
        · replace hf := iteT c6 hf
          obtain ⟨x7, e_x7⟩ : ∃ z : Int32, z = (x1 + (1 : Int32)) := ⟨_, rfl⟩
          replace hf := nmE hf e_x7
          refine lv_iinc (v := x7) (lv' := [(2, .int x7), (0, .ref (pA 0)), (1, .int a1), (3, .int x4)]) hx hb d_Planner_priceHour_70 hl (k := 2) rfl (by rw [e_x7]; rfl) (by decide) rfl (fun ls hl => ?_)
          refine lv_goto (tgt := 2) hx hb d_Planner_priceHour_73 (by decide) ?_
          exact hK2 (x7, sP5) hf _ _ ls hP hD hS (lv_sub hl [1, 2, 0] rfl)
        · replace hf := iteF c6 hf
          refine lv_aload_n hx hb d_Planner_priceHour_20 rfl (lv_at hl 0 rfl) ?_
          refine va_get (D := D) (ci := 9) (v := .ref (hA 0)) (C := "BedFrontier$Planner") (T := T_Planner) (N := 3) hx hb htt i_Planner hown hK.1 hP 0 rfl rfl 0 (by decide) (htt _ k_533) (fun _ h9 => h9) rfl d_Planner_priceHour_21 ?_
          refine lv_iload_n hx hb d_Planner_priceHour_24 rfl (lv_at hl 3 rfl) ?_
          refine lv_iload_n hx hb d_Planner_priceHour_25 rfl (lv_at hl 2 rfl) ?_
          refine lv_iload_n hx hb d_Planner_priceHour_26 rfl (lv_at hl 1 rfl) ?_
          obtain ⟨x8, h9, hf⟩ := bdE hf
          refine vR (q0 := 0) (ci := 6) (rest := []) C0 (c_House_lets l D ty hA kA sH x4 x1 a1 x8 h9) k_563 cal_House_lets hK (hP.sub (ws' := (L_hk ty hA kA sH)) [3, 4, 5, 6, 7, 8, 9, 10, 11, 12, 13, 14, 15, 16] rfl) rfl rfl rfl ⟨by rw [hR]; decide, by rw [hR]; decide⟩ rfl rfl rfl hl.1 rfl (Nat.le_of_ble_eq_true rfl) d_Planner_priceHour_27 ⟨Nat.zero_le _, Nat.zero_le _⟩ rfl ?_
          refine lv_istore (lv' := [(4, .int x8), (0, .ref (pA 0)), (1, .int a1), (2, .int x1), (3, .int x4)]) hx hb d_Planner_priceHour_30 hl (by decide) rfl (fun ls hl => ?_)
          refine lv_aload_n hx hb d_Planner_priceHour_32 rfl (lv_at hl 1 rfl) ?_
          refine va_get (D := D) (ci := 9) (v := .ref (pA 3)) (C := "BedFrontier$Planner") (T := T_Planner) (N := 3) hx hb htt i_Planner hown hK.1 hP 0 rfl rfl 2 (by decide) (htt _ k_535) (fun _ h9 => h9) rfl d_Planner_priceHour_33 ?_
          refine lv_iload_n hx hb d_Planner_priceHour_36 rfl (lv_at hl 2 rfl) ?_
          refine lv_iload_n hx hb d_Planner_priceHour_37 rfl (lv_at hl 3 rfl) ?_
          obtain ⟨x10, h11, hf⟩ := bdE hf
          refine scR (rest := [.ref (pA 3)]) C0 (c_Planner_priceAt l D ty a1 x1 x10 h11) k_564 cal_Planner_priceAt hK (va_P_nil) ⟨by rw [hR]; decide, by rw [hR]; decide⟩ rfl rfl rfl hl.1 rfl (Nat.le_of_ble_eq_true rfl) d_Planner_priceHour_38 ⟨Nat.zero_le _, Nat.zero_le _⟩ rfl ?_
          refine lv_iload_n hx hb d_Planner_priceHour_41 rfl (lv_at hl 4 rfl) ?_
          refine lv_iadd hx hb d_Planner_priceHour_42 ?_
          refine lv_iload hx hb d_Planner_priceHour_43 (lv_at hl 0 rfl) ?_
          refine lv_if_eq (tgt := 61) hx hb d_Planner_priceHour_45 (by decide) (fun c12 => ?_) (fun c12 => ?_)
          · replace hf := iteT c12 hf
            refine lv_ldc (v := (1000000 : Int32)) hx hb hown (htt _ k_558) d_Planner_priceHour_61 ?_
            obtain ⟨g13, hf⟩ := gdE hf
            refine va_iast hx hb hK.1 hP hD hS 2 0 rfl rfl (okI_in g13) d_Planner_priceHour_63 (fun H locs hP hD hS => ?_)
            obtain ⟨sP14, e_sP14⟩ : ∃ z : PW, z = up sP5 2 (upd (sP5 2) (((x10 + x4)).toNatClampNeg) (1000000 : Int32)) := ⟨_, rfl⟩
            replace hf := nmE hf e_sP14
            have hP : va_P D vwCl (L_phk ty pA hA kA sP14 sH) H := by rw [e_sP14]; exact hP
            have hD : va_D A (L_phk ty pA hA kA sP14 sH) := by rw [e_sP14]; exact hD
            obtain ⟨x15, e_x15⟩ : ∃ z : Int32, z = (x4 + (1 : Int32)) := ⟨_, rfl⟩
            replace hf := nmE hf e_x15
            refine lv_iinc (v := x15) (lv' := [(3, .int x15), (4, .int x8), (0, .ref (pA 0)), (1, .int a1), (2, .int x1)]) hx hb d_Planner_priceHour_64 hl (k := 4) rfl (by rw [e_x15]; rfl) (by decide) rfl (fun ls hl => ?_)
            refine lv_goto (tgt := 9) hx hb d_Planner_priceHour_67 (by decide) ?_
            exact hK9 (x15, sP14) hf _ _ ls hP hD hS (lv_sub hl [2, 3, 4, 0] rfl)
          · replace hf := iteF c12 hf
            refine lv_aload_n hx hb d_Planner_priceHour_48 rfl (lv_at hl 1 rfl) ?_
            refine va_get (D := D) (ci := 9) (v := .ref (hA 0)) (C := "BedFrontier$Planner") (T := T_Planner) (N := 3) hx hb htt i_Planner hown hK.1 hP 0 rfl rfl 0 (by decide) (htt _ k_533) (fun _ h9 => h9) rfl d_Planner_priceHour_49 ?_
            refine lv_iload_n hx hb d_Planner_priceHour_52 rfl (lv_at hl 4 rfl) ?_
            refine lv_iload_n hx hb d_Planner_priceHour_53 rfl (lv_at hl 3 rfl) ?_
            refine lv_iload_n hx hb d_Planner_priceHour_54 rfl (lv_at hl 2 rfl) ?_
            obtain ⟨x16, h17, hf⟩ := bdE hf
            refine vR (q0 := 0) (ci := 6) (rest := [.int (x10 + x4), .ref (pA 3)]) C0 (c_House_owed l D ty hA kA sH x4 x1 a1 x16 h17) k_567 cal_House_owed hK (hP.sub (ws' := (L_hk ty hA kA sH)) [3, 4, 5, 6, 7, 8, 9, 10, 11, 12, 13, 14, 15, 16] rfl) rfl rfl rfl ⟨by rw [hR]; decide, by rw [hR]; decide⟩ rfl rfl rfl hl.1 rfl (Nat.le_of_ble_eq_true rfl) d_Planner_priceHour_55 ⟨Nat.zero_le _, Nat.zero_le _⟩ rfl ?_
            refine lv_goto (tgt := 63) hx hb d_Planner_priceHour_58 (by decide) ?_
            obtain ⟨g18, hf⟩ := gdE hf
            refine va_iast hx hb hK.1 hP hD hS 2 0 rfl rfl (okI_in g18) d_Planner_priceHour_63 (fun H locs hP hD hS => ?_)
            obtain ⟨sP19, e_sP19⟩ : ∃ z : PW, z = up sP5 2 (upd (sP5 2) (((x10 + x4)).toNatClampNeg) x16) := ⟨_, rfl⟩
            replace hf := nmE hf e_sP19
            have hP : va_P D vwCl (L_phk ty pA hA kA sP19 sH) H := by rw [e_sP19]; exact hP
            have hD : va_D A (L_phk ty pA hA kA sP19 sH) := by rw [e_sP19]; exact hD
            obtain ⟨x20, e_x20⟩ : ∃ z : Int32, z = (x4 + (1 : Int32)) := ⟨_, rfl⟩
            replace hf := nmE hf e_x20
            refine lv_iinc (v := x20) (lv' := [(3, .int x20), (4, .int x8), (0, .ref (pA 0)), (1, .int a1), (2, .int x1)]) hx hb d_Planner_priceHour_64 hl (k := 4) rfl (by rw [e_x20]; rfl) (by decide) rfl (fun ls hl => ?_)
            refine lv_goto (tgt := 9) hx hb d_Planner_priceHour_67 (by decide) ?_
            exact hK9 (x20, sP19) hf _ _ ls hP hD hS (lv_sub hl [2, 3, 4, 0] rfl)
      exact B9 4000 ((0 : Int32), sP2) hf _ _ ls hP hD hS (lv_sub hl [1, 2, 3, 0] rfl)
  exact B2 4000 ((0 : Int32), sP) hf _ _ ls hP hD hS (lv_sub hl [1, 2, 0] rfl)
def f_Planner_cheapestOn_L23 (a3 : Int32) (sP : PW) (sH : PW) (x1 : Int32) (x3 : Int32) (K23 : Int32 × Int32 → Option (Int32)) : Int32 × Int32 → Option (Int32)
  | (x5, x6) =>
  (if (sH 12 0) ≤ x6 then some x5 else (if ((a3 >>> (x6 &&& 31)) &&& (1 : Int32)) = 0 then gd (okI (x3 + x6) 288) (gd (okI (x1 + (a3 ||| ((1 : Int32) <<< (x6 &&& 31)))) 3200) (nm (if ((sP 2 ((x3 + x6)).toNatClampNeg) + (sP 1 ((x1 + (a3 ||| ((1 : Int32) <<< (x6 &&& 31))))).toNatClampNeg)) < x5 then ((sP 2 ((x3 + x6)).toNatClampNeg) + (sP 1 ((x1 + (a3 ||| ((1 : Int32) <<< (x6 &&& 31))))).toNatClampNeg)) else x5) (fun x12 => nm (x6 + (1 : Int32)) (fun x13 => K23 (x12, x13))))) else nm (x6 + (1 : Int32)) (fun x9 => K23 (x5, x9))))
def f_Planner_cheapestOn (sP : PW) (sH : PW) (a1 : Int32) (a2 : Int32) (a3 : Int32) : Option (Int32) :=
  bd (f_Planner_costAt (a2 + (1 : Int32)) a1) (fun x1 => bd (f_Planner_priceAt a2 a1) (fun x3 => loopF (f_Planner_cheapestOn_L23 a3 sP sH x1 x3) 4000 ((1000000 : Int32), (0 : Int32))))
set_option maxHeartbeats 4000000 in
set_option maxRecDepth 100000 in
theorem c_Planner_cheapestOn (l : Launch) (D : va_G) (ty : Nat → ClassId) (pA hA kA : Nat → Nat) (sP : PW) (sH : PW) (a1 : Int32) (a2 : Int32) (a3 : Int32) (rr : Int32) (hf : f_Planner_cheapestOn sP sH a1 a2 a3 = some rr) : Met l y_Planner_cheapestOn (Cond.code y_Planner_cheapestOn prog_8_method_7_code 8 ((Option.some FieldType.int)) :: lw_ok) { frames := 1, cells := 0, slots := 0, locals := 40 } (PcR D ty [.ref (pA 0), .int a1, .int a2, .int a3] (L_ph ty pA hA kA sP sH)) (QR (some (.int rr))) 0 0 (fun _ => False) := by
  refine hdR (by decide) (Nat.le_of_ble_eq_true rfl) ?_
  intro p e s m below meth c ls R args Q C0 hR hQ hP hK hl
  obtain ⟨hx, hb, hr, hlk, hml, hown, htt⟩ := id C0
  have hl : lv_has ls 8 [(0, .ref (pA 0)), (1, .int a1), (2, .int a2), (3, .int a3)] := hl
  unfold f_Planner_cheapestOn at hf
  refine lv_iload_n hx hb d_Planner_cheapestOn_0 rfl (lv_at hl 2 rfl) ?_
  refine lv_iconst (v := (1 : Int32)) hx hb d_Planner_cheapestOn_1 (by decide) ?_
  refine lv_iadd hx hb d_Planner_cheapestOn_2 ?_
  refine lv_iload_n hx hb d_Planner_cheapestOn_3 rfl (lv_at hl 1 rfl) ?_
  obtain ⟨x1, h2, hf⟩ := bdE hf
  refine scR (rest := []) C0 (c_Planner_costAt l D ty (a2 + (1 : Int32)) a1 x1 h2) k_555 cal_Planner_costAt hK (va_P_nil) ⟨by rw [hR]; decide, by rw [hR]; decide⟩ rfl rfl rfl hl.1 rfl (Nat.le_of_ble_eq_true rfl) d_Planner_cheapestOn_4 ⟨Nat.zero_le _, Nat.zero_le _⟩ rfl ?_
  refine lv_istore (lv' := [(4, .int x1), (0, .ref (pA 0)), (1, .int a1), (2, .int a2), (3, .int a3)]) hx hb d_Planner_cheapestOn_7 hl (by decide) rfl (fun ls hl => ?_)
  refine lv_iload_n hx hb d_Planner_cheapestOn_9 rfl (lv_at hl 3 rfl) ?_
  refine lv_iload_n hx hb d_Planner_cheapestOn_10 rfl (lv_at hl 2 rfl) ?_
  obtain ⟨x3, h4, hf⟩ := bdE hf
  refine scR (rest := []) C0 (c_Planner_priceAt l D ty a2 a1 x3 h4) k_564 cal_Planner_priceAt hK (va_P_nil) ⟨by rw [hR]; decide, by rw [hR]; decide⟩ rfl rfl rfl hl.1 rfl (Nat.le_of_ble_eq_true rfl) d_Planner_cheapestOn_11 ⟨Nat.zero_le _, Nat.zero_le _⟩ rfl ?_
  refine lv_istore (lv' := [(5, .int x3), (4, .int x1), (0, .ref (pA 0)), (1, .int a1), (2, .int a2), (3, .int a3)]) hx hb d_Planner_cheapestOn_14 hl (by decide) rfl (fun ls hl => ?_)
  refine lv_ldc (v := (1000000 : Int32)) hx hb hown (htt _ k_558) d_Planner_cheapestOn_16 ?_
  refine lv_istore (lv' := [(6, .int (1000000 : Int32)), (5, .int x3), (4, .int x1), (0, .ref (pA 0)), (1, .int a1), (2, .int a2), (3, .int a3)]) hx hb d_Planner_cheapestOn_18 hl (by decide) rfl (fun ls hl => ?_)
  refine lv_iconst (v := (0 : Int32)) hx hb d_Planner_cheapestOn_20 (by decide) ?_
  refine lv_istore (lv' := [(7, .int (0 : Int32)), (6, .int (1000000 : Int32)), (5, .int x3), (4, .int x1), (0, .ref (pA 0)), (1, .int a1), (2, .int a2), (3, .int a3)]) hx hb d_Planner_cheapestOn_21 hl (by decide) rfl (fun ls hl => ?_)
  have B23 : ∀ (n : Nat) (x : Int32 × Int32), loopF (f_Planner_cheapestOn_L23 a3 sP sH x1 x3) n x = some rr → ∀ ls : Array Slot, lv_has ls 8 [(0, .ref (pA 0)), (3, .int a3), (4, .int x1), (5, .int x3), (6, .int (x.1)), (7, .int (x.2))] → W p l e R s m args below meth c s.heap [] 0 0 Q (F0 m 23 ls []) := by
    refine loopW (fun (x : Int32 × Int32) => ∀ ls : Array Slot, lv_has ls 8 [(0, .ref (pA 0)), (3, .int a3), (4, .int x1), (5, .int x3), (6, .int (x.1)), (7, .int (x.2))] → W p l e R s m args below meth c s.heap [] 0 0 Q (F0 m 23 ls [])) ?_
    intro K23 hK23 x hf
    obtain ⟨x5, x6⟩ := x
    rw [f_Planner_cheapestOn_L23] at hf
    intro ls hl
    have hl : lv_has ls 8 [(0, .ref (pA 0)), (3, .int a3), (4, .int x1), (5, .int x3), (6, .int x5), (7, .int x6)] := hl
    show W p l e R s m args below meth c s.heap [] 0 0 Q (F0 m 23 ls [])
    refine lv_iload hx hb d_Planner_cheapestOn_23 (lv_at hl 5 rfl) ?_
    refine lv_aload_n hx hb d_Planner_cheapestOn_25 rfl (lv_at hl 0 rfl) ?_
    refine va_get (D := D) (ci := 9) (v := .ref (hA 0)) (C := "BedFrontier$Planner") (T := T_Planner) (N := 3) hx hb htt i_Planner hown hK.1 hP 0 rfl rfl 0 (by decide) (htt _ k_533) (fun _ h9 => h9) rfl d_Planner_cheapestOn_26 ?_
    refine va_get (D := D) (ci := 6) (v := .int (sH 12 0)) (C := "BedFrontier$House") (T := T_House) (N := 15) hx hb htt i_House hown hK.1 hP 3 rfl rfl 12 (by decide) (htt _ k_114) (fun _ h9 => h9) rfl d_Planner_cheapestOn_29 ?_
    refine lv_icmp_ge (tgt := 82) hx hb d_Planner_cheapestOn_32 (by decide) (fun c7 => ?_) (fun c7 => ?_)
    · replace hf := iteT c7 hf
      refine lv_iload hx hb d_Planner_cheapestOn_82 (lv_at hl 4 rfl) ?_
      obtain rfl := sj1 hf
      exact retR C0 (narI _) hQ d_Planner_cheapestOn_84
    · replace hf := iteF c7 hf
      refine lv_iload_n hx hb d_Planner_cheapestOn_35 rfl (lv_at hl 1 rfl) ?_
      refine lv_iload hx hb d_Planner_cheapestOn_36 (lv_at hl 5 rfl) ?_
      refine lv_ishr hx hb d_Planner_cheapestOn_38 ?_
      refine lv_iconst (v := (1 : Int32)) hx hb d_Planner_cheapestOn_39 (by decide) ?_
      refine lv_iand hx hb d_Planner_cheapestOn_40 ?_
      refine lv_if_ne (tgt := 76) hx hb d_Planner_cheapestOn_41 (by decide) (fun c8 => ?_) (fun c8 => ?_)
      · replace hf := iteF c8 hf
        obtain ⟨x9, e_x9⟩ : ∃ z : Int32, z = (x6 + (1 : Int32)) := ⟨_, rfl⟩
        replace hf := nmE hf e_x9
        refine lv_iinc (v := x9) (lv' := [(7, .int x9), (0, .ref (pA 0)), (3, .int a3), (4, .int x1), (5, .int x3), (6, .int x5)]) hx hb d_Planner_cheapestOn_76 hl (k := 5) rfl (by rw [e_x9]; rfl) (by decide) rfl (fun ls hl => ?_)
        refine lv_goto (tgt := 23) hx hb d_Planner_cheapestOn_79 (by decide) ?_
        exact hK23 (x5, x9) hf ls (lv_sub hl [1, 2, 3, 4, 5, 0] rfl)
      · replace hf := iteT c8 hf
        refine lv_iload hx hb d_Planner_cheapestOn_44 (lv_at hl 4 rfl) ?_
        refine lv_aload_n hx hb d_Planner_cheapestOn_46 rfl (lv_at hl 0 rfl) ?_
        refine va_get (D := D) (ci := 9) (v := .ref (pA 3)) (C := "BedFrontier$Planner") (T := T_Planner) (N := 3) hx hb htt i_Planner hown hK.1 hP 0 rfl rfl 2 (by decide) (htt _ k_535) (fun _ h9 => h9) rfl d_Planner_cheapestOn_47 ?_
        refine lv_iload hx hb d_Planner_cheapestOn_50 (lv_at hl 3 rfl) ?_
        refine lv_iload hx hb d_Planner_cheapestOn_52 (lv_at hl 5 rfl) ?_
        refine lv_iadd hx hb d_Planner_cheapestOn_54 ?_
        obtain ⟨g10, hf⟩ := gdE hf
        refine va_iald hx hb hK.1 hP 2 0 rfl rfl (okI_in g10) d_Planner_cheapestOn_55 ?_
        refine lv_aload_n hx hb d_Planner_cheapestOn_56 rfl (lv_at hl 0 rfl) ?_
        refine va_get (D := D) (ci := 9) (v := .ref (pA 2)) (C := "BedFrontier$Planner") (T := T_Planner) (N := 3) hx hb htt i_Planner hown hK.1 hP 0 rfl rfl 1 (by decide) (htt _ k_534) (fun _ h9 => h9) rfl d_Planner_cheapestOn_57 ?_
        refine lv_iload hx hb d_Planner_cheapestOn_60 (lv_at hl 2 rfl) ?_
        refine lv_iload_n hx hb d_Planner_cheapestOn_62 rfl (lv_at hl 1 rfl) ?_
        refine lv_iconst (v := (1 : Int32)) hx hb d_Planner_cheapestOn_63 (by decide) ?_
        refine lv_iload hx hb d_Planner_cheapestOn_64 (lv_at hl 5 rfl) ?_
        refine lv_ishl hx hb d_Planner_cheapestOn_66 ?_
        refine lv_ior hx hb d_Planner_cheapestOn_67 ?_
        refine lv_iadd hx hb d_Planner_cheapestOn_68 ?_
        obtain ⟨g11, hf⟩ := gdE hf
        refine va_iald hx hb hK.1 hP 1 0 rfl rfl (okI_in g11) d_Planner_cheapestOn_69 ?_
        refine lv_iadd hx hb d_Planner_cheapestOn_70 ?_
        refine va_mmin hx hb (hml.trans hl.1.symm) hown (htt _ k_576) (htt _ k_577) (htt _ k_17) (htt _ kMmin) (by rw [hR]; decide) (by rw [hR]; exact Nat.le_of_ble_eq_true rfl) (Nat.zero_le _) (Nat.zero_le _) d_Planner_cheapestOn_71 ?_
        refine lv_topi (fun x12 e_x12 => ?_)
        replace hf := nmE hf e_x12
        refine lv_istore (lv' := [(6, .int x12), (0, .ref (pA 0)), (3, .int a3), (4, .int x1), (5, .int x3), (7, .int x6)]) hx hb d_Planner_cheapestOn_74 hl (by decide) rfl (fun ls hl => ?_)
        obtain ⟨x13, e_x13⟩ : ∃ z : Int32, z = (x6 + (1 : Int32)) := ⟨_, rfl⟩
        replace hf := nmE hf e_x13
        refine lv_iinc (v := x13) (lv' := [(7, .int x13), (6, .int x12), (0, .ref (pA 0)), (3, .int a3), (4, .int x1), (5, .int x3)]) hx hb d_Planner_cheapestOn_76 hl (k := 5) rfl (by rw [e_x13]; rfl) (by decide) rfl (fun ls hl => ?_)
        refine lv_goto (tgt := 23) hx hb d_Planner_cheapestOn_79 (by decide) ?_
        exact hK23 (x12, x13) hf ls (lv_sub hl [2, 3, 4, 5, 1, 0] rfl)
  exact B23 4000 ((1000000 : Int32), (0 : Int32)) hf ls (lv_sub hl [4, 7, 3, 2, 1, 0] rfl)
def f_Planner_fillHour_L7 (a1 : Int32) (sH : PW) (x1 : Int32) (K7 : Int32 × PW → Option (PW)) : Int32 × PW → Option (PW)
  | (x3, sP4) =>
  (if x1 < x3 then some sP4 else bd (f_Planner_cheapestOn sP4 sH (0 : Int32) a1 x3) (fun x6 => bd (f_Planner_cheapestOn sP4 sH (1 : Int32) a1 x3) (fun x8 => bd (f_Planner_costAt a1 (0 : Int32)) (fun x10 => bd (f_Planner_costAt (a1 + (1 : Int32)) (0 : Int32)) (fun x12 => gd (okI (x12 + x3) 3200) (gd (okI (x10 + x3) 3200) (nm (up sP4 1 (upd (sP4 1) (((x10 + x3)).toNatClampNeg) (if (if (x8 + (sH 7 0)) < x6 then (x8 + (sH 7 0)) else x6) < (sP4 1 ((x12 + x3)).toNatClampNeg) then (if (x8 + (sH 7 0)) < x6 then (x8 + (sH 7 0)) else x6) else (sP4 1 ((x12 + x3)).toNatClampNeg)))) (fun sP16 => bd (f_Planner_costAt a1 (1 : Int32)) (fun x17 => bd (f_Planner_costAt (a1 + (1 : Int32)) (1 : Int32)) (fun x19 => gd (okI (x19 + x3) 3200) (gd (okI (x17 + x3) 3200) (nm (up sP16 1 (upd (sP16 1) (((x17 + x3)).toNatClampNeg) (if (if (x6 + (sH 7 0)) < x8 then (x6 + (sH 7 0)) else x8) < (sP16 1 ((x19 + x3)).toNatClampNeg) then (if (x6 + (sH 7 0)) < x8 then (x6 + (sH 7 0)) else x8) else (sP16 1 ((x19 + x3)).toNatClampNeg)))) (fun sP23 => nm (x3 + (1 : Int32)) (fun x24 => K7 (x24, sP23)))))))))))))))
def f_Planner_fillHour (sP : PW) (sH : PW) (a1 : Int32) : Option (PW) :=
  bd (f_Planner_allDone sP sH) (fun x1 => loopF (f_Planner_fillHour_L7 a1 sH x1) 4000 ((0 : Int32), sP))
set_option maxHeartbeats 4000000 in
set_option maxRecDepth 100000 in
theorem c_Planner_fillHour (l : Launch) (D : va_G) (ty : Nat → ClassId) (pA hA kA : Nat → Nat) (sz : Nat) (sP : PW) (sH : PW) (a1 : Int32) (tP : PW) (hf : f_Planner_fillHour sP sH a1 = some tP) : Met l y_Planner_fillHour (Cond.code y_Planner_fillHour prog_8_method_6_code 6 none :: lw_ok) { frames := 2, cells := 0, slots := 0, locals := 67 } (PcM D ty [.ref (pA 0), .int a1] sz (L_ph ty pA hA kA sP sH)) (QM D (L_ph ty pA hA kA tP sH) (va_A (L_ph ty pA hA kA sP sH) sz) (none)) 0 0 (va_A (L_ph ty pA hA kA sP sH) sz) := by
  refine hdM (by decide) (Nat.le_of_ble_eq_true rfl) ?_
  intro p e s m below meth c ls R args Q A C0 hR hQ hnm hAq hP hK hD hS hl
  obtain ⟨hx, hb, hr, hlk, hml, hown, htt⟩ := id C0
  have hl : lv_has ls 6 [(0, .ref (pA 0)), (1, .int a1)] := hl
  generalize hH0 : s.heap = H at hP hS ⊢
  have hS : va_S A s.heap H [] := by rw [hH0]; exact hS
  unfold f_Planner_fillHour at hf
  refine lv_aload_n hx hb d_Planner_fillHour_0 rfl (lv_at hl 0 rfl) ?_
  obtain ⟨x1, h2, hf⟩ := bdE hf
  refine vR (q0 := 0) (ci := 9) (rest := []) C0 (c_Planner_allDone l D ty pA hA kA sP sH x1 h2) k_551 cal_Planner_allDone hK hP rfl rfl rfl ⟨by rw [hR]; decide, by rw [hR]; decide⟩ rfl rfl rfl hl.1 rfl (Nat.le_of_ble_eq_true rfl) d_Planner_fillHour_1 ⟨Nat.zero_le _, Nat.zero_le _⟩ rfl ?_
  refine lv_istore_n (lv' := [(2, .int x1), (0, .ref (pA 0)), (1, .int a1)]) hx hb d_Planner_fillHour_4 rfl hl (by decide) rfl (fun ls hl => ?_)
  refine lv_iconst (v := (0 : Int32)) hx hb d_Planner_fillHour_5 (by decide) ?_
  refine lv_istore_n (lv' := [(3, .int (0 : Int32)), (2, .int x1), (0, .ref (pA 0)), (1, .int a1)]) hx hb d_Planner_fillHour_6 rfl hl (by decide) rfl (fun ls hl => ?_)
  have B7 : ∀ (n : Nat) (x : Int32 × PW), loopF (f_Planner_fillHour_L7 a1 sH x1) n x = some tP → ∀ (H : Heap) (locs : List Loc) (ls : Array Slot), va_P D vwCl (L_ph ty pA hA kA (x.2) sH) H → va_D A (L_ph ty pA hA kA (x.2) sH) → va_S A s.heap H locs → lv_has ls 6 [(0, .ref (pA 0)), (1, .int a1), (2, .int x1), (3, .int (x.1))] → W p l e R s m args below meth c H locs 0 0 Q (F0 m 7 ls []) := by
    refine loopW (fun (x : Int32 × PW) => ∀ (H : Heap) (locs : List Loc) (ls : Array Slot), va_P D vwCl (L_ph ty pA hA kA (x.2) sH) H → va_D A (L_ph ty pA hA kA (x.2) sH) → va_S A s.heap H locs → lv_has ls 6 [(0, .ref (pA 0)), (1, .int a1), (2, .int x1), (3, .int (x.1))] → W p l e R s m args below meth c H locs 0 0 Q (F0 m 7 ls [])) ?_
    intro K7 hK7 x hf
    obtain ⟨x3, sP4⟩ := x
    rw [f_Planner_fillHour_L7] at hf
    intro H locs ls hP hD hS hl
    have hl : lv_has ls 6 [(0, .ref (pA 0)), (1, .int a1), (2, .int x1), (3, .int x3)] := hl
    have hP : va_P D vwCl (L_ph ty pA hA kA sP4 sH) H := hP
    have hD : va_D A (L_ph ty pA hA kA sP4 sH) := hD
    show W p l e R s m args below meth c H locs 0 0 Q (F0 m 7 ls [])
    refine lv_iload_n hx hb d_Planner_fillHour_7 rfl (lv_at hl 3 rfl) ?_
    refine lv_iload_n hx hb d_Planner_fillHour_8 rfl (lv_at hl 2 rfl) ?_
    refine lv_icmp_gt (tgt := 124) hx hb d_Planner_fillHour_9 (by decide) (fun c5 => ?_) (fun c5 => ?_)
    · replace hf := iteT c5 hf
      obtain rfl := sj1 hf
      exact retMv C0 hQ hP hD hS d_Planner_fillHour_124
    · replace hf := iteF c5 hf
      refine lv_aload_n hx hb d_Planner_fillHour_12 rfl (lv_at hl 0 rfl) ?_
      refine lv_iconst (v := (0 : Int32)) hx hb d_Planner_fillHour_13 (by decide) ?_
      refine lv_iload_n hx hb d_Planner_fillHour_14 rfl (lv_at hl 1 rfl) ?_
      refine lv_iload_n hx hb d_Planner_fillHour_15 rfl (lv_at hl 3 rfl) ?_
      obtain ⟨x6, h7, hf⟩ := bdE hf
      refine vR (q0 := 0) (ci := 9) (rest := []) C0 (c_Planner_cheapestOn l D ty pA hA kA sP4 sH (0 : Int32) a1 x3 x6 h7) k_572 cal_Planner_cheapestOn hK hP rfl rfl rfl ⟨by rw [hR]; decide, by rw [hR]; decide⟩ rfl rfl rfl hl.1 rfl (Nat.le_of_ble_eq_true rfl) d_Planner_fillHour_16 ⟨Nat.zero_le _, Nat.zero_le _⟩ rfl ?_
      refine lv_istore (lv' := [(4, .int x6), (0, .ref (pA 0)), (1, .int a1), (2, .int x1), (3, .int x3)]) hx hb d_Planner_fillHour_19 hl (by decide) rfl (fun ls hl => ?_)
      refine lv_aload_n hx hb d_Planner_fillHour_21 rfl (lv_at hl 1 rfl) ?_
      refine lv_iconst (v := (1 : Int32)) hx hb d_Planner_fillHour_22 (by decide) ?_
      refine lv_iload_n hx hb d_Planner_fillHour_23 rfl (lv_at hl 2 rfl) ?_
      refine lv_iload_n hx hb d_Planner_fillHour_24 rfl (lv_at hl 4 rfl) ?_
      obtain ⟨x8, h9, hf⟩ := bdE hf
      refine vR (q0 := 0) (ci := 9) (rest := []) C0 (c_Planner_cheapestOn l D ty pA hA kA sP4 sH (1 : Int32) a1 x3 x8 h9) k_572 cal_Planner_cheapestOn hK hP rfl rfl rfl ⟨by rw [hR]; decide, by rw [hR]; decide⟩ rfl rfl rfl hl.1 rfl (Nat.le_of_ble_eq_true rfl) d_Planner_fillHour_25 ⟨Nat.zero_le _, Nat.zero_le _⟩ rfl ?_
      refine lv_istore (lv' := [(5, .int x8), (4, .int x6), (0, .ref (pA 0)), (1, .int a1), (2, .int x1), (3, .int x3)]) hx hb d_Planner_fillHour_28 hl (by decide) rfl (fun ls hl => ?_)
      refine lv_aload_n hx hb d_Planner_fillHour_30 rfl (lv_at hl 2 rfl) ?_
      refine va_get (D := D) (ci := 9) (v := .ref (pA 2)) (C := "BedFrontier$Planner") (T := T_Planner) (N := 3) hx hb htt i_Planner hown hK.1 hP 0 rfl rfl 1 (by decide) (htt _ k_534) (fun _ h9 => h9) rfl d_Planner_fillHour_31 ?_
      refine lv_iload_n hx hb d_Planner_fillHour_34 rfl (lv_at hl 3 rfl) ?_
      refine lv_iconst (v := (0 : Int32)) hx hb d_Planner_fillHour_35 (by decide) ?_
      obtain ⟨x10, h11, hf⟩ := bdE hf
      refine scR (rest := [.ref (pA 2)]) C0 (c_Planner_costAt l D ty a1 (0 : Int32) x10 h11) k_555 cal_Planner_costAt hK (va_P_nil) ⟨by rw [hR]; decide, by rw [hR]; decide⟩ rfl rfl rfl hl.1 rfl (Nat.le_of_ble_eq_true rfl) d_Planner_fillHour_36 ⟨Nat.zero_le _, Nat.zero_le _⟩ rfl ?_
      refine lv_iload_n hx hb d_Planner_fillHour_39 rfl (lv_at hl 5 rfl) ?_
      refine lv_iadd hx hb d_Planner_fillHour_40 ?_
      refine lv_aload_n hx hb d_Planner_fillHour_41 rfl (lv_at hl 2 rfl) ?_
      refine va_get (D := D) (ci := 9) (v := .ref (pA 2)) (C := "BedFrontier$Planner") (T := T_Planner) (N := 3) hx hb htt i_Planner hown hK.1 hP 0 rfl rfl 1 (by decide) (htt _ k_534) (fun _ h9 => h9) rfl d_Planner_fillHour_42 ?_
      refine lv_iload_n hx hb d_Planner_fillHour_45 rfl (lv_at hl 3 rfl) ?_
      refine lv_iconst (v := (1 : Int32)) hx hb d_Planner_fillHour_46 (by decide) ?_
      refine lv_iadd hx hb d_Planner_fillHour_47 ?_
      refine lv_iconst (v := (0 : Int32)) hx hb d_Planner_fillHour_48 (by decide) ?_
      obtain ⟨x12, h13, hf⟩ := bdE hf
      refine scR (rest := [.ref (pA 2), .int (x10 + x3), .ref (pA 2)]) C0 (c_Planner_costAt l D ty (a1 + (1 : Int32)) (0 : Int32) x12 h13) k_555 cal_Planner_costAt hK (va_P_nil) ⟨by rw [hR]; decide, by rw [hR]; decide⟩ rfl rfl rfl hl.1 rfl (Nat.le_of_ble_eq_true rfl) d_Planner_fillHour_49 ⟨Nat.zero_le _, Nat.zero_le _⟩ rfl ?_
      refine lv_iload_n hx hb d_Planner_fillHour_52 rfl (lv_at hl 5 rfl) ?_
      refine lv_iadd hx hb d_Planner_fillHour_53 ?_
      obtain ⟨g14, hf⟩ := gdE hf
      refine va_iald hx hb hK.1 hP 1 0 rfl rfl (okI_in g14) d_Planner_fillHour_54 ?_
      refine lv_iload hx hb d_Planner_fillHour_55 (lv_at hl 1 rfl) ?_
      refine lv_iload hx hb d_Planner_fillHour_57 (lv_at hl 0 rfl) ?_
      refine lv_aload_n hx hb d_Planner_fillHour_59 rfl (lv_at hl 2 rfl) ?_
      refine va_get (D := D) (ci := 9) (v := .ref (hA 0)) (C := "BedFrontier$Planner") (T := T_Planner) (N := 3) hx hb htt i_Planner hown hK.1 hP 0 rfl rfl 0 (by decide) (htt _ k_533) (fun _ h9 => h9) rfl d_Planner_fillHour_60 ?_
      refine va_get (D := D) (ci := 6) (v := .int (sH 7 0)) (C := "BedFrontier$House") (T := T_House) (N := 15) hx hb htt i_House hown hK.1 hP 3 rfl rfl 7 (by decide) (htt _ k_98) (fun _ h9 => h9) rfl d_Planner_fillHour_63 ?_
      refine lv_iadd hx hb d_Planner_fillHour_66 ?_
      refine va_mmin hx hb (hml.trans hl.1.symm) hown (htt _ k_576) (htt _ k_577) (htt _ k_17) (htt _ kMmin) (by rw [hR]; decide) (by rw [hR]; exact Nat.le_of_ble_eq_true rfl) (Nat.zero_le _) (Nat.zero_le _) d_Planner_fillHour_67 ?_
      refine va_mmin hx hb (hml.trans hl.1.symm) hown (htt _ k_576) (htt _ k_577) (htt _ k_17) (htt _ kMmin) (by rw [hR]; decide) (by rw [hR]; exact Nat.le_of_ble_eq_true rfl) (Nat.zero_le _) (Nat.zero_le _) d_Planner_fillHour_70 ?_
      obtain ⟨g15, hf⟩ := gdE hf
      refine va_iast hx hb hK.1 hP hD hS 1 0 rfl rfl (okI_in g15) d_Planner_fillHour_73 (fun H locs hP hD hS => ?_)
      obtain ⟨sP16, e_sP16⟩ : ∃ z : PW, z = up sP4 1 (upd (sP4 1) (((x10 + x3)).toNatClampNeg) (if (if (x8 + (sH 7 0)) < x6 then (x8 + (sH 7 0)) else x6) < (sP4 1 ((x12 + x3)).toNatClampNeg) then (if (x8 + (sH 7 0)) < x6 then (x8 + (sH 7 0)) else x6) else (sP4 1 ((x12 + x3)).toNatClampNeg))) := ⟨_, rfl⟩
      replace hf := nmE hf e_sP16
      have hP : va_P D vwCl (L_ph ty pA hA kA sP16 sH) H := by rw [e_sP16]; exact hP
      have hD : va_D A (L_ph ty pA hA kA sP16 sH) := by rw [e_sP16]; exact hD
      refine lv_aload_n hx hb d_Planner_fillHour_74 rfl (lv_at hl 2 rfl) ?_
      refine va_get (D := D) (ci := 9) (v := .ref (pA 2)) (C := "BedFrontier$Planner") (T := T_Planner) (N := 3) hx hb htt i_Planner hown hK.1 hP 0 rfl rfl 1 (by decide) (htt _ k_534) (fun _ h9 => h9) rfl d_Planner_fillHour_75 ?_
      refine lv_iload_n hx hb d_Planner_fillHour_78 rfl (lv_at hl 3 rfl) ?_
      refine lv_iconst (v := (1 : Int32)) hx hb d_Planner_fillHour_79 (by decide) ?_
      obtain ⟨x17, h18, hf⟩ := bdE hf
      refine scR (rest := [.ref (pA 2)]) C0 (c_Planner_costAt l D ty a1 (1 : Int32) x17 h18) k_555 cal_Planner_costAt hK (va_P_nil) ⟨by rw [hR]; decide, by rw [hR]; decide⟩ rfl rfl rfl hl.1 rfl (Nat.le_of_ble_eq_true rfl) d_Planner_fillHour_80 ⟨Nat.zero_le _, Nat.zero_le _⟩ rfl ?_
      refine lv_iload_n hx hb d_Planner_fillHour_83 rfl (lv_at hl 5 rfl) ?_
      refine lv_iadd hx hb d_Planner_fillHour_84 ?_
      refine lv_aload_n hx hb d_Planner_fillHour_85 rfl (lv_at hl 2 rfl) ?_
      refine va_get (D := D) (ci := 9) (v := .ref (pA 2)) (C := "BedFrontier$Planner") (T := T_Planner) (N := 3) hx hb htt i_Planner hown hK.1 hP 0 rfl rfl 1 (by decide) (htt _ k_534) (fun _ h9 => h9) rfl d_Planner_fillHour_86 ?_
      refine lv_iload_n hx hb d_Planner_fillHour_89 rfl (lv_at hl 3 rfl) ?_
      refine lv_iconst (v := (1 : Int32)) hx hb d_Planner_fillHour_90 (by decide) ?_
      refine lv_iadd hx hb d_Planner_fillHour_91 ?_
      refine lv_iconst (v := (1 : Int32)) hx hb d_Planner_fillHour_92 (by decide) ?_
      obtain ⟨x19, h20, hf⟩ := bdE hf
      refine scR (rest := [.ref (pA 2), .int (x17 + x3), .ref (pA 2)]) C0 (c_Planner_costAt l D ty (a1 + (1 : Int32)) (1 : Int32) x19 h20) k_555 cal_Planner_costAt hK (va_P_nil) ⟨by rw [hR]; decide, by rw [hR]; decide⟩ rfl rfl rfl hl.1 rfl (Nat.le_of_ble_eq_true rfl) d_Planner_fillHour_93 ⟨Nat.zero_le _, Nat.zero_le _⟩ rfl ?_
      refine lv_iload_n hx hb d_Planner_fillHour_96 rfl (lv_at hl 5 rfl) ?_
      refine lv_iadd hx hb d_Planner_fillHour_97 ?_
      obtain ⟨g21, hf⟩ := gdE hf
      refine va_iald hx hb hK.1 hP 1 0 rfl rfl (okI_in g21) d_Planner_fillHour_98 ?_
      refine lv_iload hx hb d_Planner_fillHour_99 (lv_at hl 0 rfl) ?_
      refine lv_iload hx hb d_Planner_fillHour_101 (lv_at hl 1 rfl) ?_
      refine lv_aload_n hx hb d_Planner_fillHour_103 rfl (lv_at hl 2 rfl) ?_
      refine va_get (D := D) (ci := 9) (v := .ref (hA 0)) (C := "BedFrontier$Planner") (T := T_Planner) (N := 3) hx hb htt i_Planner hown hK.1 hP 0 rfl rfl 0 (by decide) (htt _ k_533) (fun _ h9 => h9) rfl d_Planner_fillHour_104 ?_
      refine va_get (D := D) (ci := 6) (v := .int (sH 7 0)) (C := "BedFrontier$House") (T := T_House) (N := 15) hx hb htt i_House hown hK.1 hP 3 rfl rfl 7 (by decide) (htt _ k_98) (fun _ h9 => h9) rfl d_Planner_fillHour_107 ?_
      refine lv_iadd hx hb d_Planner_fillHour_110 ?_
      refine va_mmin hx hb (hml.trans hl.1.symm) hown (htt _ k_576) (htt _ k_577) (htt _ k_17) (htt _ kMmin) (by rw [hR]; decide) (by rw [hR]; exact Nat.le_of_ble_eq_true rfl) (Nat.zero_le _) (Nat.zero_le _) d_Planner_fillHour_111 ?_
      refine va_mmin hx hb (hml.trans hl.1.symm) hown (htt _ k_576) (htt _ k_577) (htt _ k_17) (htt _ kMmin) (by rw [hR]; decide) (by rw [hR]; exact Nat.le_of_ble_eq_true rfl) (Nat.zero_le _) (Nat.zero_le _) d_Planner_fillHour_114 ?_
      obtain ⟨g22, hf⟩ := gdE hf
      refine va_iast hx hb hK.1 hP hD hS 1 0 rfl rfl (okI_in g22) d_Planner_fillHour_117 (fun H locs hP hD hS => ?_)
      obtain ⟨sP23, e_sP23⟩ : ∃ z : PW, z = up sP16 1 (upd (sP16 1) (((x17 + x3)).toNatClampNeg) (if (if (x6 + (sH 7 0)) < x8 then (x6 + (sH 7 0)) else x8) < (sP16 1 ((x19 + x3)).toNatClampNeg) then (if (x6 + (sH 7 0)) < x8 then (x6 + (sH 7 0)) else x8) else (sP16 1 ((x19 + x3)).toNatClampNeg))) := ⟨_, rfl⟩
      replace hf := nmE hf e_sP23
      have hP : va_P D vwCl (L_ph ty pA hA kA sP23 sH) H := by rw [e_sP23]; exact hP
      have hD : va_D A (L_ph ty pA hA kA sP23 sH) := by rw [e_sP23]; exact hD
      obtain ⟨x24, e_x24⟩ : ∃ z : Int32, z = (x3 + (1 : Int32)) := ⟨_, rfl⟩
      replace hf := nmE hf e_x24
      refine lv_iinc (v := x24) (lv' := [(3, .int x24), (5, .int x8), (4, .int x6), (0, .ref (pA 0)), (1, .int a1), (2, .int x1)]) hx hb d_Planner_fillHour_118 hl (k := 5) rfl (by rw [e_x24]; rfl) (by decide) rfl (fun ls hl => ?_)
      refine lv_goto (tgt := 7) hx hb d_Planner_fillHour_121 (by decide) ?_
      exact hK7 (x24, sP23) hf _ _ ls hP hD hS (lv_sub hl [3, 4, 5, 0] rfl)
  exact B7 4000 ((0 : Int32), sP) hf _ _ ls hP hD hS (lv_sub hl [2, 3, 1, 0] rfl)
def f_Planner_leastCost_L7 (sH : PW) (K7 : Int32 × PW → Option (Int32 × PW)) : Int32 × PW → Option (Int32 × PW)
  | (x3, sP4) =>
  (if x3 < (sH 10 0) then bd (f_Planner_costAt (sH 10 0) (sH 9 0)) (fun x6 => gd (okI x6 3200) (nm (sP4 1 (x6).toNatClampNeg) (fun x9 => (if (1000000 : Int32) ≤ x9 then some ((-1 : Int32), sP4) else some (x9, sP4))))) else bd (f_Planner_priceHour sP4 sH x3) (fun sP11 => bd (f_Planner_fillHour sP11 sH x3) (fun sP13 => nm (x3 + (-1 : Int32)) (fun x15 => K7 (x15, sP13)))))
def f_Planner_leastCost (sP : PW) (sH : PW) : Option (Int32 × PW) :=
  bd (f_Planner_endOfDay sP sH) (fun sP1 => loopF (f_Planner_leastCost_L7 sH) 4000 ((23 : Int32), sP1))
set_option maxHeartbeats 4000000 in
set_option maxRecDepth 100000 in
theorem c_Planner_leastCost (l : Launch) (D : va_G) (ty : Nat → ClassId) (pA hA kA : Nat → Nat) (sz : Nat) (sP : PW) (sH : PW) (rr : Int32) (tP : PW) (hf : f_Planner_leastCost sP sH = some (rr, tP)) : Met l y_Planner_leastCost (Cond.code y_Planner_leastCost prog_8_method_2_code 2 ((Option.some FieldType.int)) :: lw_ok) { frames := 7, cells := 0, slots := 0, locals := 190 } (PcM D ty [.ref (pA 0)] sz (L_phk ty pA hA kA sP sH)) (QM D (L_phk ty pA hA kA tP sH) (va_A (L_phk ty pA hA kA sP sH) sz) (some (.int rr))) 0 0 (va_A (L_phk ty pA hA kA sP sH) sz) := by
  refine hdM (by decide) (Nat.le_of_ble_eq_true rfl) ?_
  intro p e s m below meth c ls R args Q A C0 hR hQ hnm hAq hP hK hD hS hl
  obtain ⟨hx, hb, hr, hlk, hml, hown, htt⟩ := id C0
  have hl : lv_has ls 2 [(0, .ref (pA 0))] := hl
  generalize hH0 : s.heap = H at hP hS ⊢
  have hS : va_S A s.heap H [] := by rw [hH0]; exact hS
  unfold f_Planner_leastCost at hf
  refine lv_aload_n hx hb d_Planner_leastCost_0 rfl (lv_at hl 0 rfl) ?_
  obtain ⟨sP1, h2, hf⟩ := bdE hf
  refine vM (Lc := (L_ph ty pA hA kA sP sH)) (Lc' := (L_ph ty pA hA kA sP1 sH)) (L' := (L_phk ty pA hA kA sP1 sH)) (q0 := 0) (ci := 9) (rest := []) C0 (c_Planner_endOfDay l D ty pA hA kA H.size sP sH sP1 h2) k_547 cal_Planner_endOfDay hK hP hD hS hAq [0, 1, 2, 3, 4, 5, 6, 7, 8, 9] [10, 11, 12, 13, 14, 15, 16] [7, 8, 9, 10, 11, 12, 13, 14, 15, 16, 0, 1, 2, 3, 4, 5, 6] [(kA 0, .inl (ty 3, 6, .inr (.inr (.inr (.inr (fun i => some (kA (i + 1)))))))), (kA 1, .inr (0, [])), (kA 2, .inr (1, [])), (kA 3, .inr (2, [])), (kA 4, .inr (3, [])), (kA 5, .inr (4, [])), (kA 6, .inr (5, []))] rfl rfl (by decide) (by decide) (by decide) (by decide) rfl rfl rfl rfl ⟨by rw [hR]; decide, by rw [hR]; decide⟩ rfl rfl rfl hl.1 rfl (Nat.le_of_ble_eq_true rfl) d_Planner_leastCost_1 ⟨by rw [hR]; decide, by rw [hR]; decide⟩ rfl (fun H locs hP hD hS => ?_)
  refine lv_bipush (v := (23 : Int32)) hx hb d_Planner_leastCost_4 (by decide) ?_
  refine lv_istore_n (lv' := [(1, .int (23 : Int32)), (0, .ref (pA 0))]) hx hb d_Planner_leastCost_6 rfl hl (by decide) rfl (fun ls hl => ?_)
  have B7 : ∀ (n : Nat) (x : Int32 × PW), loopF (f_Planner_leastCost_L7 sH) n x = some (rr, tP) → ∀ (H : Heap) (locs : List Loc) (ls : Array Slot), va_P D vwCl (L_phk ty pA hA kA (x.2) sH) H → va_D A (L_phk ty pA hA kA (x.2) sH) → va_S A s.heap H locs → lv_has ls 2 [(0, .ref (pA 0)), (1, .int (x.1))] → W p l e R s m args below meth c H locs 0 0 Q (F0 m 7 ls []) := by
    refine loopW (fun (x : Int32 × PW) => ∀ (H : Heap) (locs : List Loc) (ls : Array Slot), va_P D vwCl (L_phk ty pA hA kA (x.2) sH) H → va_D A (L_phk ty pA hA kA (x.2) sH) → va_S A s.heap H locs → lv_has ls 2 [(0, .ref (pA 0)), (1, .int (x.1))] → W p l e R s m args below meth c H locs 0 0 Q (F0 m 7 ls [])) ?_
    intro K7 hK7 x hf
    obtain ⟨x3, sP4⟩ := x
    rw [f_Planner_leastCost_L7] at hf
    intro H locs ls hP hD hS hl
    have hl : lv_has ls 2 [(0, .ref (pA 0)), (1, .int x3)] := hl
    have hP : va_P D vwCl (L_phk ty pA hA kA sP4 sH) H := hP
    have hD : va_D A (L_phk ty pA hA kA sP4 sH) := hD
    show W p l e R s m args below meth c H locs 0 0 Q (F0 m 7 ls [])
    refine lv_iload_n hx hb d_Planner_leastCost_7 rfl (lv_at hl 1 rfl) ?_
    refine lv_aload_n hx hb d_Planner_leastCost_8 rfl (lv_at hl 0 rfl) ?_
    refine va_get (D := D) (ci := 9) (v := .ref (hA 0)) (C := "BedFrontier$Planner") (T := T_Planner) (N := 3) hx hb htt i_Planner hown hK.1 hP 0 rfl rfl 0 (by decide) (htt _ k_533) (fun _ h9 => h9) rfl d_Planner_leastCost_9 ?_
    refine va_get (D := D) (ci := 6) (v := .int (sH 10 0)) (C := "BedFrontier$House") (T := T_House) (N := 15) hx hb htt i_House hown hK.1 hP 3 rfl rfl 10 (by decide) (htt _ k_106) (fun _ h9 => h9) rfl d_Planner_leastCost_12 ?_
    refine lv_icmp_lt (tgt := 34) hx hb d_Planner_leastCost_15 (by decide) (fun c5 => ?_) (fun c5 => ?_)
    · replace hf := iteT c5 hf
      refine lv_aload_n hx hb d_Planner_leastCost_34 rfl (lv_at hl 0 rfl) ?_
      refine va_get (D := D) (ci := 9) (v := .ref (pA 2)) (C := "BedFrontier$Planner") (T := T_Planner) (N := 3) hx hb htt i_Planner hown hK.1 hP 0 rfl rfl 1 (by decide) (htt _ k_534) (fun _ h9 => h9) rfl d_Planner_leastCost_35 ?_
      refine lv_aload_n hx hb d_Planner_leastCost_38 rfl (lv_at hl 0 rfl) ?_
      refine va_get (D := D) (ci := 9) (v := .ref (hA 0)) (C := "BedFrontier$Planner") (T := T_Planner) (N := 3) hx hb htt i_Planner hown hK.1 hP 0 rfl rfl 0 (by decide) (htt _ k_533) (fun _ h9 => h9) rfl d_Planner_leastCost_39 ?_
      refine va_get (D := D) (ci := 6) (v := .int (sH 10 0)) (C := "BedFrontier$House") (T := T_House) (N := 15) hx hb htt i_House hown hK.1 hP 3 rfl rfl 10 (by decide) (htt _ k_106) (fun _ h9 => h9) rfl d_Planner_leastCost_42 ?_
      refine lv_aload_n hx hb d_Planner_leastCost_45 rfl (lv_at hl 0 rfl) ?_
      refine va_get (D := D) (ci := 9) (v := .ref (hA 0)) (C := "BedFrontier$Planner") (T := T_Planner) (N := 3) hx hb htt i_Planner hown hK.1 hP 0 rfl rfl 0 (by decide) (htt _ k_533) (fun _ h9 => h9) rfl d_Planner_leastCost_46 ?_
      refine va_get (D := D) (ci := 6) (v := .int (sH 9 0)) (C := "BedFrontier$House") (T := T_House) (N := 15) hx hb htt i_House hown hK.1 hP 3 rfl rfl 9 (by decide) (htt _ k_103) (fun _ h9 => h9) rfl d_Planner_leastCost_49 ?_
      obtain ⟨x6, h7, hf⟩ := bdE hf
      refine scR (rest := [.ref (pA 2)]) C0 (c_Planner_costAt l D ty (sH 10 0) (sH 9 0) x6 h7) k_555 cal_Planner_costAt hK (va_P_nil) ⟨by rw [hR]; decide, by rw [hR]; decide⟩ rfl rfl rfl hl.1 rfl (Nat.le_of_ble_eq_true rfl) d_Planner_leastCost_52 ⟨Nat.zero_le _, Nat.zero_le _⟩ rfl ?_
      obtain ⟨g8, hf⟩ := gdE hf
      refine va_iald hx hb hK.1 hP 1 0 rfl rfl (okI_in g8) d_Planner_leastCost_55 ?_
      refine lv_topi (fun x9 e_x9 => ?_)
      replace hf := nmE hf e_x9
      refine lv_istore_n (lv' := [(1, .int x9), (0, .ref (pA 0))]) hx hb d_Planner_leastCost_56 rfl hl (by decide) rfl (fun ls hl => ?_)
      refine lv_iload_n hx hb d_Planner_leastCost_57 rfl (lv_at hl 0 rfl) ?_
      refine lv_ldc (v := (1000000 : Int32)) hx hb hown (htt _ k_558) d_Planner_leastCost_58 ?_
      refine lv_icmp_ge (tgt := 67) hx hb d_Planner_leastCost_60 (by decide) (fun c10 => ?_) (fun c10 => ?_)
      · replace hf := iteT c10 hf
        refine lv_iconst (v := (-1 : Int32)) hx hb d_Planner_leastCost_67 (by decide) ?_
        obtain ⟨rfl, rfl⟩ := sj2 hf
        exact retM C0 (narI _) hQ hP hD hS d_Planner_leastCost_68
      · replace hf := iteF c10 hf
        refine lv_iload_n hx hb d_Planner_leastCost_63 rfl (lv_at hl 0 rfl) ?_
        refine lv_goto (tgt := 68) hx hb d_Planner_leastCost_64 (by decide) ?_
        obtain ⟨rfl, rfl⟩ := sj2 hf
        exact retM C0 (narI _) hQ hP hD hS d_Planner_leastCost_68
    · replace hf := iteF c5 hf
      refine lv_aload_n hx hb d_Planner_leastCost_18 rfl (lv_at hl 0 rfl) ?_
      refine lv_iload_n hx hb d_Planner_leastCost_19 rfl (lv_at hl 1 rfl) ?_
      obtain ⟨sP11, h12, hf⟩ := bdE hf
      refine vM (Lc := (L_phk ty pA hA kA sP4 sH)) (Lc' := (L_phk ty pA hA kA sP11 sH)) (L' := (L_phk ty pA hA kA sP11 sH)) (q0 := 0) (ci := 9) (rest := []) C0 (c_Planner_priceHour l D ty pA hA kA H.size sP4 sH x3 sP11 h12) k_559 cal_Planner_priceHour hK hP hD hS hAq [0, 1, 2, 3, 4, 5, 6, 7, 8, 9, 10, 11, 12, 13, 14, 15, 16] [] [0, 1, 2, 3, 4, 5, 6, 7, 8, 9, 10, 11, 12, 13, 14, 15, 16] [] rfl rfl (by decide) (by decide) (by decide) (by decide) rfl rfl rfl rfl ⟨by rw [hR]; decide, by rw [hR]; decide⟩ rfl rfl rfl hl.1 rfl (Nat.le_of_ble_eq_true rfl) d_Planner_leastCost_20 ⟨by rw [hR]; decide, by rw [hR]; decide⟩ rfl (fun H locs hP hD hS => ?_)
      refine lv_aload_n hx hb d_Planner_leastCost_23 rfl (lv_at hl 0 rfl) ?_
      refine lv_iload_n hx hb d_Planner_leastCost_24 rfl (lv_at hl 1 rfl) ?_
      obtain ⟨sP13, h14, hf⟩ := bdE hf
      refine vM (Lc := (L_ph ty pA hA kA sP11 sH)) (Lc' := (L_ph ty pA hA kA sP13 sH)) (L' := (L_phk ty pA hA kA sP13 sH)) (q0 := 0) (ci := 9) (rest := []) C0 (c_Planner_fillHour l D ty pA hA kA H.size sP11 sH x3 sP13 h14) k_568 cal_Planner_fillHour hK hP hD hS hAq [0, 1, 2, 3, 4, 5, 6, 7, 8, 9] [10, 11, 12, 13, 14, 15, 16] [7, 8, 9, 10, 11, 12, 13, 14, 15, 16, 0, 1, 2, 3, 4, 5, 6] [(kA 0, .inl (ty 3, 6, .inr (.inr (.inr (.inr (fun i => some (kA (i + 1)))))))), (kA 1, .inr (0, [])), (kA 2, .inr (1, [])), (kA 3, .inr (2, [])), (kA 4, .inr (3, [])), (kA 5, .inr (4, [])), (kA 6, .inr (5, []))] rfl rfl (by decide) (by decide) (by decide) (by decide) rfl rfl rfl rfl ⟨by rw [hR]; decide, by rw [hR]; decide⟩ rfl rfl rfl hl.1 rfl (Nat.le_of_ble_eq_true rfl) d_Planner_leastCost_25 ⟨by rw [hR]; decide, by rw [hR]; decide⟩ rfl (fun H locs hP hD hS => ?_)
      obtain ⟨x15, e_x15⟩ : ∃ z : Int32, z = (x3 + (-1 : Int32)) := ⟨_, rfl⟩
      replace hf := nmE hf e_x15
      refine lv_iinc (v := x15) (lv' := [(1, .int x15), (0, .ref (pA 0))]) hx hb d_Planner_leastCost_28 hl (k := 1) rfl (by rw [e_x15]; rfl) (by decide) rfl (fun ls hl => ?_)
      refine lv_goto (tgt := 7) hx hb d_Planner_leastCost_31 (by decide) ?_
      exact hK7 (x15, sP13) hf _ _ ls hP hD hS (lv_sub hl [1, 0] rfl)
  exact B7 4000 ((23 : Int32), sP1) hf _ _ ls hP hD hS (lv_sub hl [1, 0] rfl)
def f_Planner_firstStep_L38 (a1 : Int32) (a2 : Int32) (a3 : Int32) (sP : PW) (sH : PW) (x4 : Int32) (K38 : Int32 → Option (Int32)) : Int32 → Option (Int32)
  | x9 =>
  (if ((2 : Int32) * (sH 12 0)) ≤ x9 then some (-1 : Int32) else nm (x9 / (2 : Int32)) (fun x11 => nm (x9 - x9 / (2 : Int32) * (2 : Int32)) (fun x12 => bd (f_Planner_costAt (a1 + (1 : Int32)) x12) (fun x13 => gd (okI (x13 + (a3 ||| ((1 : Int32) <<< (x11 &&& 31)))) 3200) (nm (sP 1 ((x13 + (a3 ||| ((1 : Int32) <<< (x11 &&& 31))))).toNatClampNeg) (fun x16 => bd (f_Planner_priceAt a1 x12) (fun x17 => gd (okI (x17 + x11) 288) (bd (f_House_tollTo sH a2 x12) (fun x20 => nm ((sP 2 ((x17 + x11)).toNatClampNeg) + x20) (fun x22 => (if ((a3 >>> (x11 &&& 31)) &&& (1 : Int32)) = 0 then (if (x22 + x16) = x4 then some x9 else nm (x9 + (1 : Int32)) (fun x26 => K38 x26)) else nm (x9 + (1 : Int32)) (fun x24 => K38 x24))))))))))))
def f_Planner_firstStep (sP : PW) (sH : PW) (a1 : Int32) (a2 : Int32) (a3 : Int32) : Option (Int32) :=
  bd (f_Planner_costAt a1 a2) (fun x1 => gd (okI (x1 + a3) 3200) (nm (sP 1 ((x1 + a3)).toNatClampNeg) (fun x4 => bd (f_Planner_costAt (a1 + (1 : Int32)) a2) (fun x5 => gd (okI (x5 + a3) 3200) ((if (sP 1 ((x5 + a3)).toNatClampNeg) = x4 then some (-1 : Int32) else loopF (f_Planner_firstStep_L38 a1 a2 a3 sP sH x4) 4000 (0 : Int32)))))))
set_option maxHeartbeats 4000000 in
set_option maxRecDepth 100000 in
theorem c_Planner_firstStep (l : Launch) (D : va_G) (ty : Nat → ClassId) (pA hA kA : Nat → Nat) (sP : PW) (sH : PW) (a1 : Int32) (a2 : Int32) (a3 : Int32) (rr : Int32) (hf : f_Planner_firstStep sP sH a1 a2 a3 = some rr) : Met l y_Planner_firstStep (Cond.code y_Planner_firstStep prog_8_method_11_code 10 ((Option.some FieldType.int)) :: lw_ok) { frames := 1, cells := 0, slots := 0, locals := 22 } (PcR D ty [.ref (pA 0), .int a1, .int a2, .int a3] (L_ph ty pA hA kA sP sH)) (QR (some (.int rr))) 0 0 (fun _ => False) := by
  refine hdR (by decide) (Nat.le_of_ble_eq_true rfl) ?_
  intro p e s m below meth c ls R args Q C0 hR hQ hP hK hl
  obtain ⟨hx, hb, hr, hlk, hml, hown, htt⟩ := id C0
  have hl : lv_has ls 10 [(0, .ref (pA 0)), (1, .int a1), (2, .int a2), (3, .int a3)] := hl
  unfold f_Planner_firstStep at hf
  refine lv_aload_n hx hb d_Planner_firstStep_0 rfl (lv_at hl 0 rfl) ?_
  refine va_get (D := D) (ci := 9) (v := .ref (pA 2)) (C := "BedFrontier$Planner") (T := T_Planner) (N := 3) hx hb htt i_Planner hown hK.1 hP 0 rfl rfl 1 (by decide) (htt _ k_534) (fun _ h9 => h9) rfl d_Planner_firstStep_1 ?_
  refine lv_iload_n hx hb d_Planner_firstStep_4 rfl (lv_at hl 1 rfl) ?_
  refine lv_iload_n hx hb d_Planner_firstStep_5 rfl (lv_at hl 2 rfl) ?_
  obtain ⟨x1, h2, hf⟩ := bdE hf
  refine scR (rest := [.ref (pA 2)]) C0 (c_Planner_costAt l D ty a1 a2 x1 h2) k_555 cal_Planner_costAt hK (va_P_nil) ⟨by rw [hR]; decide, by rw [hR]; decide⟩ rfl rfl rfl hl.1 rfl (Nat.le_of_ble_eq_true rfl) d_Planner_firstStep_6 ⟨Nat.zero_le _, Nat.zero_le _⟩ rfl ?_
  refine lv_iload_n hx hb d_Planner_firstStep_9 rfl (lv_at hl 3 rfl) ?_
  refine lv_iadd hx hb d_Planner_firstStep_10 ?_
  obtain ⟨g3, hf⟩ := gdE hf
  refine va_iald hx hb hK.1 hP 1 0 rfl rfl (okI_in g3) d_Planner_firstStep_11 ?_
  refine lv_topi (fun x4 e_x4 => ?_)
  replace hf := nmE hf e_x4
  refine lv_istore (lv' := [(4, .int x4), (0, .ref (pA 0)), (1, .int a1), (2, .int a2), (3, .int a3)]) hx hb d_Planner_firstStep_12 hl (by decide) rfl (fun ls hl => ?_)
  refine lv_aload_n hx hb d_Planner_firstStep_14 rfl (lv_at hl 1 rfl) ?_
  refine va_get (D := D) (ci := 9) (v := .ref (pA 2)) (C := "BedFrontier$Planner") (T := T_Planner) (N := 3) hx hb htt i_Planner hown hK.1 hP 0 rfl rfl 1 (by decide) (htt _ k_534) (fun _ h9 => h9) rfl d_Planner_firstStep_15 ?_
  refine lv_iload_n hx hb d_Planner_firstStep_18 rfl (lv_at hl 2 rfl) ?_
  refine lv_iconst (v := (1 : Int32)) hx hb d_Planner_firstStep_19 (by decide) ?_
  refine lv_iadd hx hb d_Planner_firstStep_20 ?_
  refine lv_iload_n hx hb d_Planner_firstStep_21 rfl (lv_at hl 3 rfl) ?_
  obtain ⟨x5, h6, hf⟩ := bdE hf
  refine scR (rest := [.ref (pA 2)]) C0 (c_Planner_costAt l D ty (a1 + (1 : Int32)) a2 x5 h6) k_555 cal_Planner_costAt hK (va_P_nil) ⟨by rw [hR]; decide, by rw [hR]; decide⟩ rfl rfl rfl hl.1 rfl (Nat.le_of_ble_eq_true rfl) d_Planner_firstStep_22 ⟨Nat.zero_le _, Nat.zero_le _⟩ rfl ?_
  refine lv_iload_n hx hb d_Planner_firstStep_25 rfl (lv_at hl 4 rfl) ?_
  refine lv_iadd hx hb d_Planner_firstStep_26 ?_
  obtain ⟨g7, hf⟩ := gdE hf
  refine va_iald hx hb hK.1 hP 1 0 rfl rfl (okI_in g7) d_Planner_firstStep_27 ?_
  refine lv_iload hx hb d_Planner_firstStep_28 (lv_at hl 0 rfl) ?_
  refine lv_icmp_ne (tgt := 35) hx hb d_Planner_firstStep_30 (by decide) (fun c8 => ?_) (fun c8 => ?_)
  · replace hf := iteF c8 hf
    refine lv_iconst (v := (0 : Int32)) hx hb d_Planner_firstStep_35 (by decide) ?_
    refine lv_istore (lv' := [(5, .int (0 : Int32)), (4, .int x4), (0, .ref (pA 0)), (1, .int a1), (2, .int a2), (3, .int a3)]) hx hb d_Planner_firstStep_36 hl (by decide) rfl (fun ls hl => ?_)
    have B38 : ∀ (n : Nat) (x : Int32), loopF (f_Planner_firstStep_L38 a1 a2 a3 sP sH x4) n x = some rr → ∀ ls : Array Slot, lv_has ls 10 [(0, .ref (pA 0)), (1, .int a1), (2, .int a2), (3, .int a3), (4, .int x4), (5, .int x)] → W p l e R s m args below meth c s.heap [] 0 0 Q (F0 m 38 ls []) := by
      refine loopW (fun (x : Int32) => ∀ ls : Array Slot, lv_has ls 10 [(0, .ref (pA 0)), (1, .int a1), (2, .int a2), (3, .int a3), (4, .int x4), (5, .int x)] → W p l e R s m args below meth c s.heap [] 0 0 Q (F0 m 38 ls [])) ?_
      intro K38 hK38 x9 hf
      rw [f_Planner_firstStep_L38] at hf
      intro ls hl
      have hl : lv_has ls 10 [(0, .ref (pA 0)), (1, .int a1), (2, .int a2), (3, .int a3), (4, .int x4), (5, .int x9)] := hl
      show W p l e R s m args below meth c s.heap [] 0 0 Q (F0 m 38 ls [])
      refine lv_iload hx hb d_Planner_firstStep_38 (lv_at hl 5 rfl) ?_
      refine lv_iconst (v := (2 : Int32)) hx hb d_Planner_firstStep_40 (by decide) ?_
      refine lv_aload_n hx hb d_Planner_firstStep_41 rfl (lv_at hl 0 rfl) ?_
      refine va_get (D := D) (ci := 9) (v := .ref (hA 0)) (C := "BedFrontier$Planner") (T := T_Planner) (N := 3) hx hb htt i_Planner hown hK.1 hP 0 rfl rfl 0 (by decide) (htt _ k_533) (fun _ h9 => h9) rfl d_Planner_firstStep_42 ?_
      refine va_get (D := D) (ci := 6) (v := .int (sH 12 0)) (C := "BedFrontier$House") (T := T_House) (N := 15) hx hb htt i_House hown hK.1 hP 3 rfl rfl 12 (by decide) (htt _ k_114) (fun _ h9 => h9) rfl d_Planner_firstStep_45 ?_
      refine lv_imul hx hb d_Planner_firstStep_48 ?_
      refine lv_icmp_ge (tgt := 141) hx hb d_Planner_firstStep_49 (by decide) (fun c10 => ?_) (fun c10 => ?_)
      · replace hf := iteT c10 hf
        refine lv_iconst (v := (-1 : Int32)) hx hb d_Planner_firstStep_141 (by decide) ?_
        obtain rfl := sj1 hf
        exact retR C0 (narI _) hQ d_Planner_firstStep_142
      · replace hf := iteF c10 hf
        refine lv_iload hx hb d_Planner_firstStep_52 (lv_at hl 5 rfl) ?_
        refine lv_iconst (v := (2 : Int32)) hx hb d_Planner_firstStep_54 (by decide) ?_
        refine lv_idiv hx hb d_Planner_firstStep_55 (by decide) ?_
        refine lv_topi (fun x11 e_x11 => ?_)
        replace hf := nmE hf e_x11
        refine lv_istore (lv' := [(6, .int x11), (0, .ref (pA 0)), (1, .int a1), (2, .int a2), (3, .int a3), (4, .int x4), (5, .int x9)]) hx hb d_Planner_firstStep_56 hl (by decide) rfl (fun ls hl => ?_)
        refine lv_iload hx hb d_Planner_firstStep_58 (lv_at hl 6 rfl) ?_
        refine lv_iconst (v := (2 : Int32)) hx hb d_Planner_firstStep_60 (by decide) ?_
        refine lv_irem hx hb d_Planner_firstStep_61 (by decide) ?_
        refine lv_topi (fun x12 e_x12 => ?_)
        replace hf := nmE hf e_x12
        refine lv_istore (lv' := [(7, .int x12), (6, .int x11), (0, .ref (pA 0)), (1, .int a1), (2, .int a2), (3, .int a3), (4, .int x4), (5, .int x9)]) hx hb d_Planner_firstStep_62 hl (by decide) rfl (fun ls hl => ?_)
        refine lv_aload_n hx hb d_Planner_firstStep_64 rfl (lv_at hl 2 rfl) ?_
        refine va_get (D := D) (ci := 9) (v := .ref (pA 2)) (C := "BedFrontier$Planner") (T := T_Planner) (N := 3) hx hb htt i_Planner hown hK.1 hP 0 rfl rfl 1 (by decide) (htt _ k_534) (fun _ h9 => h9) rfl d_Planner_firstStep_65 ?_
        refine lv_iload_n hx hb d_Planner_firstStep_68 rfl (lv_at hl 3 rfl) ?_
        refine lv_iconst (v := (1 : Int32)) hx hb d_Planner_firstStep_69 (by decide) ?_
        refine lv_iadd hx hb d_Planner_firstStep_70 ?_
        refine lv_iload hx hb d_Planner_firstStep_71 (lv_at hl 0 rfl) ?_
        obtain ⟨x13, h14, hf⟩ := bdE hf
        refine scR (rest := [.ref (pA 2)]) C0 (c_Planner_costAt l D ty (a1 + (1 : Int32)) x12 x13 h14) k_555 cal_Planner_costAt hK (va_P_nil) ⟨by rw [hR]; decide, by rw [hR]; decide⟩ rfl rfl rfl hl.1 rfl (Nat.le_of_ble_eq_true rfl) d_Planner_firstStep_73 ⟨Nat.zero_le _, Nat.zero_le _⟩ rfl ?_
        refine lv_iload_n hx hb d_Planner_firstStep_76 rfl (lv_at hl 5 rfl) ?_
        refine lv_iconst (v := (1 : Int32)) hx hb d_Planner_firstStep_77 (by decide) ?_
        refine lv_iload hx hb d_Planner_firstStep_78 (lv_at hl 1 rfl) ?_
        refine lv_ishl hx hb d_Planner_firstStep_80 ?_
        refine lv_ior hx hb d_Planner_firstStep_81 ?_
        refine lv_iadd hx hb d_Planner_firstStep_82 ?_
        obtain ⟨g15, hf⟩ := gdE hf
        refine va_iald hx hb hK.1 hP 1 0 rfl rfl (okI_in g15) d_Planner_firstStep_83 ?_
        refine lv_topi (fun x16 e_x16 => ?_)
        replace hf := nmE hf e_x16
        refine lv_istore (lv' := [(8, .int x16), (7, .int x12), (6, .int x11), (0, .ref (pA 0)), (1, .int a1), (2, .int a2), (3, .int a3), (4, .int x4), (5, .int x9)]) hx hb d_Planner_firstStep_84 hl (by decide) rfl (fun ls hl => ?_)
        refine lv_aload_n hx hb d_Planner_firstStep_86 rfl (lv_at hl 3 rfl) ?_
        refine va_get (D := D) (ci := 9) (v := .ref (pA 3)) (C := "BedFrontier$Planner") (T := T_Planner) (N := 3) hx hb htt i_Planner hown hK.1 hP 0 rfl rfl 2 (by decide) (htt _ k_535) (fun _ h9 => h9) rfl d_Planner_firstStep_87 ?_
        refine lv_iload_n hx hb d_Planner_firstStep_90 rfl (lv_at hl 4 rfl) ?_
        refine lv_iload hx hb d_Planner_firstStep_91 (lv_at hl 1 rfl) ?_
        obtain ⟨x17, h18, hf⟩ := bdE hf
        refine scR (rest := [.ref (pA 3)]) C0 (c_Planner_priceAt l D ty a1 x12 x17 h18) k_564 cal_Planner_priceAt hK (va_P_nil) ⟨by rw [hR]; decide, by rw [hR]; decide⟩ rfl rfl rfl hl.1 rfl (Nat.le_of_ble_eq_true rfl) d_Planner_firstStep_93 ⟨Nat.zero_le _, Nat.zero_le _⟩ rfl ?_
        refine lv_iload hx hb d_Planner_firstStep_96 (lv_at hl 2 rfl) ?_
        refine lv_iadd hx hb d_Planner_firstStep_98 ?_
        obtain ⟨g19, hf⟩ := gdE hf
        refine va_iald hx hb hK.1 hP 2 0 rfl rfl (okI_in g19) d_Planner_firstStep_99 ?_
        refine lv_aload_n hx hb d_Planner_firstStep_100 rfl (lv_at hl 3 rfl) ?_
        refine va_get (D := D) (ci := 9) (v := .ref (hA 0)) (C := "BedFrontier$Planner") (T := T_Planner) (N := 3) hx hb htt i_Planner hown hK.1 hP 0 rfl rfl 0 (by decide) (htt _ k_533) (fun _ h9 => h9) rfl d_Planner_firstStep_101 ?_
        refine lv_iload_n hx hb d_Planner_firstStep_104 rfl (lv_at hl 5 rfl) ?_
        refine lv_iload hx hb d_Planner_firstStep_105 (lv_at hl 1 rfl) ?_
        obtain ⟨x20, h21, hf⟩ := bdE hf
        refine vR (q0 := 0) (ci := 6) (rest := [.int (sP 2 ((x17 + x11)).toNatClampNeg)]) C0 (c_House_tollTo l D ty hA kA sH a2 x12 x20 h21) k_587 cal_House_tollTo hK (hP.sub (ws' := (L_h ty hA kA sH)) [3, 4, 5, 6, 7, 8, 9] rfl) rfl rfl rfl ⟨by rw [hR]; decide, by rw [hR]; decide⟩ rfl rfl rfl hl.1 rfl (Nat.le_of_ble_eq_true rfl) d_Planner_firstStep_107 ⟨Nat.zero_le _, Nat.zero_le _⟩ rfl ?_
        refine lv_iadd hx hb d_Planner_firstStep_110 ?_
        refine lv_topi (fun x22 e_x22 => ?_)
        replace hf := nmE hf e_x22
        refine lv_istore (lv' := [(9, .int x22), (8, .int x16), (7, .int x12), (6, .int x11), (0, .ref (pA 0)), (1, .int a1), (2, .int a2), (3, .int a3), (4, .int x4), (5, .int x9)]) hx hb d_Planner_firstStep_111 hl (by decide) rfl (fun ls hl => ?_)
        refine lv_iload_n hx hb d_Planner_firstStep_113 rfl (lv_at hl 7 rfl) ?_
        refine lv_iload hx hb d_Planner_firstStep_114 (lv_at hl 3 rfl) ?_
        refine lv_ishr hx hb d_Planner_firstStep_116 ?_
        refine lv_iconst (v := (1 : Int32)) hx hb d_Planner_firstStep_117 (by decide) ?_
        refine lv_iand hx hb d_Planner_firstStep_118 ?_
        refine lv_if_ne (tgt := 135) hx hb d_Planner_firstStep_119 (by decide) (fun c23 => ?_) (fun c23 => ?_)
        · replace hf := iteF c23 hf
          obtain ⟨x24, e_x24⟩ : ∃ z : Int32, z = (x9 + (1 : Int32)) := ⟨_, rfl⟩
          replace hf := nmE hf e_x24
          refine lv_iinc (v := x24) (lv' := [(5, .int x24), (9, .int x22), (8, .int x16), (7, .int x12), (6, .int x11), (0, .ref (pA 0)), (1, .int a1), (2, .int a2), (3, .int a3), (4, .int x4)]) hx hb d_Planner_firstStep_135 hl (k := 9) rfl (by rw [e_x24]; rfl) (by decide) rfl (fun ls hl => ?_)
          refine lv_goto (tgt := 38) hx hb d_Planner_firstStep_138 (by decide) ?_
          exact hK38 x24 hf ls (lv_sub hl [5, 6, 7, 8, 9, 0] rfl)
        · replace hf := iteT c23 hf
          refine lv_iload hx hb d_Planner_firstStep_122 (lv_at hl 0 rfl) ?_
          refine lv_iload hx hb d_Planner_firstStep_124 (lv_at hl 1 rfl) ?_
          refine lv_iadd hx hb d_Planner_firstStep_126 ?_
          refine lv_iload hx hb d_Planner_firstStep_127 (lv_at hl 8 rfl) ?_
          refine lv_icmp_ne (tgt := 135) hx hb d_Planner_firstStep_129 (by decide) (fun c25 => ?_) (fun c25 => ?_)
          · replace hf := iteF c25 hf
            obtain ⟨x26, e_x26⟩ : ∃ z : Int32, z = (x9 + (1 : Int32)) := ⟨_, rfl⟩
            replace hf := nmE hf e_x26
            refine lv_iinc (v := x26) (lv' := [(5, .int x26), (9, .int x22), (8, .int x16), (7, .int x12), (6, .int x11), (0, .ref (pA 0)), (1, .int a1), (2, .int a2), (3, .int a3), (4, .int x4)]) hx hb d_Planner_firstStep_135 hl (k := 9) rfl (by rw [e_x26]; rfl) (by decide) rfl (fun ls hl => ?_)
            refine lv_goto (tgt := 38) hx hb d_Planner_firstStep_138 (by decide) ?_
            exact hK38 x26 hf ls (lv_sub hl [5, 6, 7, 8, 9, 0] rfl)
          · replace hf := iteT c25 hf
            refine lv_iload hx hb d_Planner_firstStep_132 (lv_at hl 9 rfl) ?_
            obtain rfl := sj1 hf
            exact retR C0 (narI _) hQ d_Planner_firstStep_134
    exact B38 4000 (0 : Int32) hf ls (lv_sub hl [2, 3, 4, 5, 1, 0] rfl)
  · replace hf := iteT c8 hf
    refine lv_iconst (v := (-1 : Int32)) hx hb d_Planner_firstStep_33 (by decide) ?_
    obtain rfl := sj1 hf
    exact retR C0 (narI _) hQ d_Planner_firstStep_34
def f_Planner_placeOf_L19 (a1 : Int32) (sP : PW) (sH : PW) (K19 : Int32 × Int32 × Int32 → Option (Int32)) : Int32 × Int32 × Int32 → Option (Int32)
  | (x3, x4, x5) =>
  (if (24 : Int32) ≤ x5 then some (-1 : Int32) else bd (f_Planner_firstStep sP sH x5 x3 x4) (fun x7 => (if x7 = (-1 : Int32) then nm (x5 + (1 : Int32)) (fun x10 => K19 (x3, x4, x10)) else nm (x7 / (2 : Int32)) (fun x11 => nm (x7 - x7 / (2 : Int32) * (2 : Int32)) (fun x12 => (if x11 = a1 then some (((10 : Int32) * x5) + x12) else nm (x4 ||| ((1 : Int32) <<< (x11 &&& 31))) (fun x14 => nm (x5 + (1 : Int32)) (fun x15 => K19 (x12, x14, x15)))))))))
def f_Planner_placeOf (sP : PW) (sH : PW) (a1 : Int32) : Option (Int32) :=
  nm (sH 9 0) (fun x1 => nm (sH 10 0) (fun x2 => loopF (f_Planner_placeOf_L19 a1 sP sH) 4000 (x1, (0 : Int32), x2)))
set_option maxHeartbeats 4000000 in
set_option maxRecDepth 100000 in
theorem c_Planner_placeOf (l : Launch) (D : va_G) (ty : Nat → ClassId) (pA hA kA : Nat → Nat) (sP : PW) (sH : PW) (a1 : Int32) (rr : Int32) (hf : f_Planner_placeOf sP sH a1 = some rr) : Met l y_Planner_placeOf (Cond.code y_Planner_placeOf prog_8_method_10_code 7 ((Option.some FieldType.int)) :: lw_ok) { frames := 2, cells := 0, slots := 0, locals := 51 } (PcR D ty [.ref (pA 0), .int a1] (L_ph ty pA hA kA sP sH)) (QR (some (.int rr))) 0 0 (fun _ => False) := by
  refine hdR (by decide) (Nat.le_of_ble_eq_true rfl) ?_
  intro p e s m below meth c ls R args Q C0 hR hQ hP hK hl
  obtain ⟨hx, hb, hr, hlk, hml, hown, htt⟩ := id C0
  have hl : lv_has ls 7 [(0, .ref (pA 0)), (1, .int a1)] := hl
  unfold f_Planner_placeOf at hf
  refine lv_aload_n hx hb d_Planner_placeOf_0 rfl (lv_at hl 0 rfl) ?_
  refine va_get (D := D) (ci := 9) (v := .ref (hA 0)) (C := "BedFrontier$Planner") (T := T_Planner) (N := 3) hx hb htt i_Planner hown hK.1 hP 0 rfl rfl 0 (by decide) (htt _ k_533) (fun _ h9 => h9) rfl d_Planner_placeOf_1 ?_
  refine va_get (D := D) (ci := 6) (v := .int (sH 9 0)) (C := "BedFrontier$House") (T := T_House) (N := 15) hx hb htt i_House hown hK.1 hP 3 rfl rfl 9 (by decide) (htt _ k_103) (fun _ h9 => h9) rfl d_Planner_placeOf_4 ?_
  refine lv_topi (fun x1 e_x1 => ?_)
  replace hf := nmE hf e_x1
  refine lv_istore_n (lv' := [(2, .int x1), (0, .ref (pA 0)), (1, .int a1)]) hx hb d_Planner_placeOf_7 rfl hl (by decide) rfl (fun ls hl => ?_)
  refine lv_iconst (v := (0 : Int32)) hx hb d_Planner_placeOf_8 (by decide) ?_
  refine lv_istore_n (lv' := [(3, .int (0 : Int32)), (2, .int x1), (0, .ref (pA 0)), (1, .int a1)]) hx hb d_Planner_placeOf_9 rfl hl (by decide) rfl (fun ls hl => ?_)
  refine lv_aload_n hx hb d_Planner_placeOf_10 rfl (lv_at hl 2 rfl) ?_
  refine va_get (D := D) (ci := 9) (v := .ref (hA 0)) (C := "BedFrontier$Planner") (T := T_Planner) (N := 3) hx hb htt i_Planner hown hK.1 hP 0 rfl rfl 0 (by decide) (htt _ k_533) (fun _ h9 => h9) rfl d_Planner_placeOf_11 ?_
  refine va_get (D := D) (ci := 6) (v := .int (sH 10 0)) (C := "BedFrontier$House") (T := T_House) (N := 15) hx hb htt i_House hown hK.1 hP 3 rfl rfl 10 (by decide) (htt _ k_106) (fun _ h9 => h9) rfl d_Planner_placeOf_14 ?_
  refine lv_topi (fun x2 e_x2 => ?_)
  replace hf := nmE hf e_x2
  refine lv_istore (lv' := [(4, .int x2), (3, .int (0 : Int32)), (2, .int x1), (0, .ref (pA 0)), (1, .int a1)]) hx hb d_Planner_placeOf_17 hl (by decide) rfl (fun ls hl => ?_)
  have B19 : ∀ (n : Nat) (x : Int32 × Int32 × Int32), loopF (f_Planner_placeOf_L19 a1 sP sH) n x = some rr → ∀ ls : Array Slot, lv_has ls 7 [(0, .ref (pA 0)), (1, .int a1), (2, .int (x.1)), (3, .int (x.2.1)), (4, .int (x.2.2))] → W p l e R s m args below meth c s.heap [] 0 0 Q (F0 m 19 ls []) := by
    refine loopW (fun (x : Int32 × Int32 × Int32) => ∀ ls : Array Slot, lv_has ls 7 [(0, .ref (pA 0)), (1, .int a1), (2, .int (x.1)), (3, .int (x.2.1)), (4, .int (x.2.2))] → W p l e R s m args below meth c s.heap [] 0 0 Q (F0 m 19 ls [])) ?_
    intro K19 hK19 x hf
    obtain ⟨x3, x4, x5⟩ := x
    rw [f_Planner_placeOf_L19] at hf
    intro ls hl
    have hl : lv_has ls 7 [(0, .ref (pA 0)), (1, .int a1), (2, .int x3), (3, .int x4), (4, .int x5)] := hl
    show W p l e R s m args below meth c s.heap [] 0 0 Q (F0 m 19 ls [])
    refine lv_iload hx hb d_Planner_placeOf_19 (lv_at hl 4 rfl) ?_
    refine lv_bipush (v := (24 : Int32)) hx hb d_Planner_placeOf_21 (by decide) ?_
    refine lv_icmp_ge (tgt := 80) hx hb d_Planner_placeOf_23 (by decide) (fun c6 => ?_) (fun c6 => ?_)
    · replace hf := iteT c6 hf
      refine lv_iconst (v := (-1 : Int32)) hx hb d_Planner_placeOf_80 (by decide) ?_
      obtain rfl := sj1 hf
      exact retR C0 (narI _) hQ d_Planner_placeOf_81
    · replace hf := iteF c6 hf
      refine lv_aload_n hx hb d_Planner_placeOf_26 rfl (lv_at hl 0 rfl) ?_
      refine lv_iload hx hb d_Planner_placeOf_27 (lv_at hl 4 rfl) ?_
      refine lv_iload_n hx hb d_Planner_placeOf_29 rfl (lv_at hl 2 rfl) ?_
      refine lv_iload_n hx hb d_Planner_placeOf_30 rfl (lv_at hl 3 rfl) ?_
      obtain ⟨x7, h8, hf⟩ := bdE hf
      refine vR (q0 := 0) (ci := 9) (rest := []) C0 (c_Planner_firstStep l D ty pA hA kA sP sH x5 x3 x4 x7 h8) k_583 cal_Planner_firstStep hK hP rfl rfl rfl ⟨by rw [hR]; decide, by rw [hR]; decide⟩ rfl rfl rfl hl.1 rfl (Nat.le_of_ble_eq_true rfl) d_Planner_placeOf_31 ⟨Nat.zero_le _, Nat.zero_le _⟩ rfl ?_
      refine lv_istore (lv' := [(5, .int x7), (0, .ref (pA 0)), (1, .int a1), (2, .int x3), (3, .int x4), (4, .int x5)]) hx hb d_Planner_placeOf_34 hl (by decide) rfl (fun ls hl => ?_)
      refine lv_iload hx hb d_Planner_placeOf_36 (lv_at hl 0 rfl) ?_
      refine lv_iconst (v := (-1 : Int32)) hx hb d_Planner_placeOf_38 (by decide) ?_
      refine lv_icmp_eq (tgt := 74) hx hb d_Planner_placeOf_39 (by decide) (fun c9 => ?_) (fun c9 => ?_)
      · replace hf := iteT c9 hf
        obtain ⟨x10, e_x10⟩ : ∃ z : Int32, z = (x5 + (1 : Int32)) := ⟨_, rfl⟩
        replace hf := nmE hf e_x10
        refine lv_iinc (v := x10) (lv' := [(4, .int x10), (5, .int x7), (0, .ref (pA 0)), (1, .int a1), (2, .int x3), (3, .int x4)]) hx hb d_Planner_placeOf_74 hl (k := 5) rfl (by rw [e_x10]; rfl) (by decide) rfl (fun ls hl => ?_)
        refine lv_goto (tgt := 19) hx hb d_Planner_placeOf_77 (by decide) ?_
        exact hK19 (x3, x4, x10) hf ls (lv_sub hl [2, 3, 4, 5, 0] rfl)
      · replace hf := iteF c9 hf
        refine lv_iload hx hb d_Planner_placeOf_42 (lv_at hl 0 rfl) ?_
        refine lv_iconst (v := (2 : Int32)) hx hb d_Planner_placeOf_44 (by decide) ?_
        refine lv_idiv hx hb d_Planner_placeOf_45 (by decide) ?_
        refine lv_topi (fun x11 e_x11 => ?_)
        replace hf := nmE hf e_x11
        refine lv_istore (lv' := [(6, .int x11), (5, .int x7), (0, .ref (pA 0)), (1, .int a1), (2, .int x3), (3, .int x4), (4, .int x5)]) hx hb d_Planner_placeOf_46 hl (by decide) rfl (fun ls hl => ?_)
        refine lv_iload hx hb d_Planner_placeOf_48 (lv_at hl 1 rfl) ?_
        refine lv_iconst (v := (2 : Int32)) hx hb d_Planner_placeOf_50 (by decide) ?_
        refine lv_irem hx hb d_Planner_placeOf_51 (by decide) ?_
        refine lv_topi (fun x12 e_x12 => ?_)
        replace hf := nmE hf e_x12
        refine lv_istore_n (lv' := [(2, .int x12), (6, .int x11), (5, .int x7), (0, .ref (pA 0)), (1, .int a1), (3, .int x4), (4, .int x5)]) hx hb d_Planner_placeOf_52 rfl hl (by decide) rfl (fun ls hl => ?_)
        refine lv_iload hx hb d_Planner_placeOf_53 (lv_at hl 1 rfl) ?_
        refine lv_iload_n hx hb d_Planner_placeOf_55 rfl (lv_at hl 4 rfl) ?_
        refine lv_icmp_ne (tgt := 67) hx hb d_Planner_placeOf_56 (by decide) (fun c13 => ?_) (fun c13 => ?_)
        · replace hf := iteF c13 hf
          refine lv_iload_n hx hb d_Planner_placeOf_67 rfl (lv_at hl 5 rfl) ?_
          refine lv_iconst (v := (1 : Int32)) hx hb d_Planner_placeOf_68 (by decide) ?_
          refine lv_iload hx hb d_Planner_placeOf_69 (lv_at hl 1 rfl) ?_
          refine lv_ishl hx hb d_Planner_placeOf_71 ?_
          refine lv_ior hx hb d_Planner_placeOf_72 ?_
          refine lv_topi (fun x14 e_x14 => ?_)
          replace hf := nmE hf e_x14
          refine lv_istore_n (lv' := [(3, .int x14), (2, .int x12), (6, .int x11), (5, .int x7), (0, .ref (pA 0)), (1, .int a1), (4, .int x5)]) hx hb d_Planner_placeOf_73 rfl hl (by decide) rfl (fun ls hl => ?_)
          obtain ⟨x15, e_x15⟩ : ∃ z : Int32, z = (x5 + (1 : Int32)) := ⟨_, rfl⟩
          replace hf := nmE hf e_x15
          refine lv_iinc (v := x15) (lv' := [(4, .int x15), (3, .int x14), (2, .int x12), (6, .int x11), (5, .int x7), (0, .ref (pA 0)), (1, .int a1)]) hx hb d_Planner_placeOf_74 hl (k := 6) rfl (by rw [e_x15]; rfl) (by decide) rfl (fun ls hl => ?_)
          refine lv_goto (tgt := 19) hx hb d_Planner_placeOf_77 (by decide) ?_
          exact hK19 (x12, x14, x15) hf ls (lv_sub hl [5, 6, 2, 1, 0] rfl)
        · replace hf := iteT c13 hf
          refine lv_bipush (v := (10 : Int32)) hx hb d_Planner_placeOf_59 (by decide) ?_
          refine lv_iload hx hb d_Planner_placeOf_61 (lv_at hl 6 rfl) ?_
          refine lv_imul hx hb d_Planner_placeOf_63 ?_
          refine lv_iload_n hx hb d_Planner_placeOf_64 rfl (lv_at hl 0 rfl) ?_
          refine lv_iadd hx hb d_Planner_placeOf_65 ?_
          obtain rfl := sj1 hf
          exact retR C0 (narI _) hQ d_Planner_placeOf_66
  exact B19 4000 (x1, (0 : Int32), x2) hf ls (lv_sub hl [3, 4, 2, 1, 0] rfl)
