def f_Face_greatestDivisor_L7 (K7 : Int32 × Int32 × Int32 → Option (Int32)) : Int32 × Int32 × Int32 → Option (Int32)
  | (x1, x2, x3) =>
  (if (64 : Int32) ≤ x3 then some (if x1 < (1 : Int32) then (1 : Int32) else x1) else (if x2 = 0 then some (if x1 < (1 : Int32) then (1 : Int32) else x1) else gd (x2 != 0) (nm (x1 - x1 / x2 * x2) (fun x7 => nm (x3 + (1 : Int32)) (fun x8 => K7 (x2, x7, x8))))))
def f_Face_greatestDivisor (a1 : Int32) (a2 : Int32) : Option (Int32) :=
  loopF f_Face_greatestDivisor_L7 4000 (a1, a2, (0 : Int32))
set_option maxHeartbeats 4000000 in
set_option maxRecDepth 100000 in
theorem c_Face_greatestDivisor (l : Launch) (D : va_G) (ty : Nat → ClassId) (a1 : Int32) (a2 : Int32) (rr : Int32) (hf : f_Face_greatestDivisor a1 a2 = some rr) : Met l y_Face_greatestDivisor (Cond.code y_Face_greatestDivisor prog_1_method_46_code 6 ((Option.some FieldType.int)) :: lw_ok) { frames := 1, cells := 0, slots := 0, locals := 40 } (PcR D ty [.int a1, .int a2] ([] : va_W)) (QR (some (.int rr))) 0 0 (fun _ => False) := by
  refine hdR (by decide) (Nat.le_of_ble_eq_true rfl) ?_
  intro p e s m below meth c ls R args Q C0 hR hQ hP hK hl
  obtain ⟨hx, hb, hr, hlk, hml, hown, htt⟩ := id C0
  have hl : lv_has ls 6 [(0, .int a1), (1, .int a2)] := hl
  unfold f_Face_greatestDivisor at hf
  refine lv_iload_n hx hb d_Face_greatestDivisor_0 rfl (lv_at hl 0 rfl) ?_
  refine lv_istore_n (lv' := [(2, .int a1), (0, .int a1), (1, .int a2)]) hx hb d_Face_greatestDivisor_1 rfl hl (by decide) rfl (fun ls hl => ?_)
  refine lv_iload_n hx hb d_Face_greatestDivisor_2 rfl (lv_at hl 2 rfl) ?_
  refine lv_istore_n (lv' := [(3, .int a2), (2, .int a1), (0, .int a1), (1, .int a2)]) hx hb d_Face_greatestDivisor_3 rfl hl (by decide) rfl (fun ls hl => ?_)
  refine lv_iconst (v := (0 : Int32)) hx hb d_Face_greatestDivisor_4 (by decide) ?_
  refine lv_istore (lv' := [(4, .int (0 : Int32)), (3, .int a2), (2, .int a1), (0, .int a1), (1, .int a2)]) hx hb d_Face_greatestDivisor_5 hl (by decide) rfl (fun ls hl => ?_)
  have B7 : ∀ (n : Nat) (x : Int32 × Int32 × Int32), loopF f_Face_greatestDivisor_L7 n x = some rr → ∀ ls : Array Slot, lv_has ls 6 [(2, .int (x.1)), (3, .int (x.2.1)), (4, .int (x.2.2))] → W p l e R s m args below meth c s.heap [] 0 0 Q (F0 m 7 ls []) := by
    refine loopW (fun (x : Int32 × Int32 × Int32) => ∀ ls : Array Slot, lv_has ls 6 [(2, .int (x.1)), (3, .int (x.2.1)), (4, .int (x.2.2))] → W p l e R s m args below meth c s.heap [] 0 0 Q (F0 m 7 ls [])) ?_
    intro K7 hK7 x hf
    obtain ⟨x1, x2, x3⟩ := x
    rw [f_Face_greatestDivisor_L7] at hf
    intro ls hl
    have hl : lv_has ls 6 [(2, .int x1), (3, .int x2), (4, .int x3)] := hl
    show W p l e R s m args below meth c s.heap [] 0 0 Q (F0 m 7 ls [])
    refine lv_iload hx hb d_Face_greatestDivisor_7 (lv_at hl 2 rfl) ?_
    refine lv_bipush (v := (64 : Int32)) hx hb d_Face_greatestDivisor_9 (by decide) ?_
    refine lv_icmp_ge (tgt := 34) hx hb d_Face_greatestDivisor_11 (by decide) (fun c4 => ?_) (fun c4 => ?_)
    · replace hf := iteT c4 hf
      refine lv_iload_n hx hb d_Face_greatestDivisor_34 rfl (lv_at hl 0 rfl) ?_
      refine lv_iconst (v := (1 : Int32)) hx hb d_Face_greatestDivisor_35 (by decide) ?_
      refine va_mmax hx hb (hml.trans hl.1.symm) hown (htt _ k_611) (htt _ k_456) (htt _ k_17) (htt _ kMmax) (by rw [hR]; decide) (by rw [hR]; exact Nat.le_of_ble_eq_true rfl) (Nat.zero_le _) (Nat.zero_le _) d_Face_greatestDivisor_36 ?_
      obtain rfl := sj1 hf
      exact retR C0 (narI _) hQ d_Face_greatestDivisor_39
    · replace hf := iteF c4 hf
      refine lv_iload_n hx hb d_Face_greatestDivisor_14 rfl (lv_at hl 1 rfl) ?_
      refine lv_if_eq (tgt := 34) hx hb d_Face_greatestDivisor_15 (by decide) (fun c5 => ?_) (fun c5 => ?_)
      · replace hf := iteT c5 hf
        refine lv_iload_n hx hb d_Face_greatestDivisor_34 rfl (lv_at hl 0 rfl) ?_
        refine lv_iconst (v := (1 : Int32)) hx hb d_Face_greatestDivisor_35 (by decide) ?_
        refine va_mmax hx hb (hml.trans hl.1.symm) hown (htt _ k_611) (htt _ k_456) (htt _ k_17) (htt _ kMmax) (by rw [hR]; decide) (by rw [hR]; exact Nat.le_of_ble_eq_true rfl) (Nat.zero_le _) (Nat.zero_le _) d_Face_greatestDivisor_36 ?_
        obtain rfl := sj1 hf
        exact retR C0 (narI _) hQ d_Face_greatestDivisor_39
      · replace hf := iteF c5 hf
        refine lv_iload_n hx hb d_Face_greatestDivisor_18 rfl (lv_at hl 0 rfl) ?_
        refine lv_iload_n hx hb d_Face_greatestDivisor_19 rfl (lv_at hl 1 rfl) ?_
        obtain ⟨g6, hf⟩ := gdE hf
        refine lv_irem hx hb d_Face_greatestDivisor_20 (ne0_of g6) ?_
        refine lv_topi (fun x7 e_x7 => ?_)
        replace hf := nmE hf e_x7
        refine lv_istore (lv' := [(5, .int x7), (2, .int x1), (3, .int x2), (4, .int x3)]) hx hb d_Face_greatestDivisor_21 hl (by decide) rfl (fun ls hl => ?_)
        refine lv_iload_n hx hb d_Face_greatestDivisor_23 rfl (lv_at hl 2 rfl) ?_
        refine lv_istore_n (lv' := [(2, .int x2), (5, .int x7), (3, .int x2), (4, .int x3)]) hx hb d_Face_greatestDivisor_24 rfl hl (by decide) rfl (fun ls hl => ?_)
        refine lv_iload hx hb d_Face_greatestDivisor_25 (lv_at hl 1 rfl) ?_
        refine lv_istore_n (lv' := [(3, .int x7), (2, .int x2), (5, .int x7), (4, .int x3)]) hx hb d_Face_greatestDivisor_27 rfl hl (by decide) rfl (fun ls hl => ?_)
        obtain ⟨x8, e_x8⟩ : ∃ z : Int32, z = (x3 + (1 : Int32)) := ⟨_, rfl⟩
        replace hf := nmE hf e_x8
        refine lv_iinc (v := x8) (lv' := [(4, .int x8), (3, .int x7), (2, .int x2), (5, .int x7)]) hx hb d_Face_greatestDivisor_28 hl (k := 3) rfl (by rw [e_x8]; rfl) (by decide) rfl (fun ls hl => ?_)
        refine lv_goto (tgt := 7) hx hb d_Face_greatestDivisor_31 (by decide) ?_
        exact hK7 (x2, x7, x8) hf ls (lv_sub hl [2, 1, 0] rfl)
  exact B7 4000 (a1, a2, (0 : Int32)) hf ls (lv_sub hl [2, 1, 0] rfl)
def f_Face_setFraction (sF : PW) (a1 : Int32) (a2 : Int32) : Option (PW) :=
  bd (f_Face_greatestDivisor a1 a2) (fun x1 => gd (x1 != 0) (nm (up sF 5 (fun _ => (a1 / x1))) (fun sF4 => gd (x1 != 0) (nm (up sF4 6 (fun _ => (a2 / x1))) (fun sF6 => some sF6)))))
set_option maxHeartbeats 4000000 in
set_option maxRecDepth 100000 in
theorem c_Face_setFraction (l : Launch) (D : va_G) (ty : Nat → ClassId) (fA rA cA hA : Nat → Nat) (pv : Value) (sz : Nat) (sF : PW) (a1 : Int32) (a2 : Int32) (tF : PW) (hf : f_Face_setFraction sF a1 a2 = some tF) : Met l y_Face_setFraction (Cond.code y_Face_setFraction prog_1_method_45_code 4 none :: lw_ok) { frames := 2, cells := 0, slots := 0, locals := 65 } (PcM D ty [.ref (fA 0), .int a1, .int a2] sz (L_f ty fA rA cA hA pv sF)) (QM D (L_f ty fA rA cA hA pv tF) (va_A (L_f ty fA rA cA hA pv sF) sz) (none)) 0 0 (va_A (L_f ty fA rA cA hA pv sF) sz) := by
  refine hdM (by decide) (Nat.le_of_ble_eq_true rfl) ?_
  intro p e s m below meth c ls R args Q A C0 hR hQ hnm hAq hP hK hD hS hl
  obtain ⟨hx, hb, hr, hlk, hml, hown, htt⟩ := id C0
  have hl : lv_has ls 4 [(0, .ref (fA 0)), (1, .int a1), (2, .int a2)] := hl
  generalize hH0 : s.heap = H at hP hS ⊢
  have hS : va_S A s.heap H [] := by rw [hH0]; exact hS
  unfold f_Face_setFraction at hf
  refine lv_iload_n hx hb d_Face_setFraction_0 rfl (lv_at hl 1 rfl) ?_
  refine lv_iload_n hx hb d_Face_setFraction_1 rfl (lv_at hl 2 rfl) ?_
  obtain ⟨x1, h2, hf⟩ := bdE hf
  refine scR (rest := []) C0 (c_Face_greatestDivisor l D ty a1 a2 x1 h2) k_608 cal_Face_greatestDivisor hK (va_P_nil) ⟨by rw [hR]; decide, by rw [hR]; decide⟩ rfl rfl rfl hl.1 rfl (Nat.le_of_ble_eq_true rfl) d_Face_setFraction_2 ⟨Nat.zero_le _, Nat.zero_le _⟩ rfl ?_
  refine lv_istore_n (lv' := [(3, .int x1), (0, .ref (fA 0)), (1, .int a1), (2, .int a2)]) hx hb d_Face_setFraction_5 rfl hl (by decide) rfl (fun ls hl => ?_)
  refine lv_aload_n hx hb d_Face_setFraction_6 rfl (lv_at hl 1 rfl) ?_
  refine lv_iload_n hx hb d_Face_setFraction_7 rfl (lv_at hl 2 rfl) ?_
  refine lv_iload_n hx hb d_Face_setFraction_8 rfl (lv_at hl 0 rfl) ?_
  obtain ⟨g3, hf⟩ := gdE hf
  refine lv_idiv hx hb d_Face_setFraction_9 (ne0_of g3) ?_
  refine va_put (D := D) (ci := 10) (v := .int (a1 / x1)) (ty := .int) (C := "BedFrontier") (T := T_Face) (N := 10) hx hb htt i_Face t_Face t_Face_ok n_Face hown hK.1 hP hD hS 0 rfl rfl 5 (by decide) (htt _ k_204) (fun _ h9 => h9) rfl pfI rfl rfl (Nat.le_of_ble_eq_true rfl) d_Face_setFraction_10 (fun H locs hP hD hS => ?_)
  obtain ⟨sF4, e_sF4⟩ : ∃ z : PW, z = up sF 5 (fun _ => (a1 / x1)) := ⟨_, rfl⟩
  replace hf := nmE hf e_sF4
  have hP : va_P D vwCl (L_f ty fA rA cA hA pv sF4) H := by rw [e_sF4]; exact hP
  have hD : va_D A (L_f ty fA rA cA hA pv sF4) := by rw [e_sF4]; exact hD
  refine lv_aload_n hx hb d_Face_setFraction_13 rfl (lv_at hl 1 rfl) ?_
  refine lv_iload_n hx hb d_Face_setFraction_14 rfl (lv_at hl 3 rfl) ?_
  refine lv_iload_n hx hb d_Face_setFraction_15 rfl (lv_at hl 0 rfl) ?_
  obtain ⟨g5, hf⟩ := gdE hf
  refine lv_idiv hx hb d_Face_setFraction_16 (ne0_of g5) ?_
  refine va_put (D := D) (ci := 10) (v := .int (a2 / x1)) (ty := .int) (C := "BedFrontier") (T := T_Face) (N := 10) hx hb htt i_Face t_Face t_Face_ok n_Face hown hK.1 hP hD hS 0 rfl rfl 6 (by decide) (htt _ k_205) (fun _ h9 => h9) rfl pfI rfl rfl (Nat.le_of_ble_eq_true rfl) d_Face_setFraction_17 (fun H locs hP hD hS => ?_)
  obtain ⟨sF6, e_sF6⟩ : ∃ z : PW, z = up sF4 6 (fun _ => (a2 / x1)) := ⟨_, rfl⟩
  replace hf := nmE hf e_sF6
  have hP : va_P D vwCl (L_f ty fA rA cA hA pv sF6) H := by rw [e_sF6]; exact hP
  have hD : va_D A (L_f ty fA rA cA hA pv sF6) := by rw [e_sF6]; exact hD
  obtain rfl := sj1 hf
  exact retMv C0 hQ hP hD hS d_Face_setFraction_20
def f_Face_refuseBad (sF : PW) (a1 : Int32) : Option (Int32 × PW) :=
  nm (up sF 7 (fun _ => ((sF 7 0) + (1 : Int32)))) (fun sF1 => some (a1, sF1))
set_option maxHeartbeats 4000000 in
set_option maxRecDepth 100000 in
theorem c_Face_refuseBad (l : Launch) (D : va_G) (ty : Nat → ClassId) (fA rA cA hA : Nat → Nat) (pv : Value) (sz : Nat) (sF : PW) (a1 : Int32) (rr : Int32) (tF : PW) (hf : f_Face_refuseBad sF a1 = some (rr, tF)) : Met l y_Face_refuseBad (Cond.code y_Face_refuseBad prog_1_method_36_code 2 ((Option.some FieldType.int)) :: lw_ok) { frames := 0, cells := 0, slots := 0, locals := 0 } (PcM D ty [.ref (fA 0), .int a1] sz (L_f ty fA rA cA hA pv sF)) (QM D (L_f ty fA rA cA hA pv tF) (va_A (L_f ty fA rA cA hA pv sF) sz) (some (.int rr))) 0 0 (va_A (L_f ty fA rA cA hA pv sF) sz) := by
  refine hdM (by decide) (Nat.le_of_ble_eq_true rfl) ?_
  intro p e s m below meth c ls R args Q A C0 hR hQ hnm hAq hP hK hD hS hl
  obtain ⟨hx, hb, hr, hlk, hml, hown, htt⟩ := id C0
  have hl : lv_has ls 2 [(0, .ref (fA 0)), (1, .int a1)] := hl
  generalize hH0 : s.heap = H at hP hS ⊢
  have hS : va_S A s.heap H [] := by rw [hH0]; exact hS
  unfold f_Face_refuseBad at hf
  refine lv_aload_n hx hb d_Face_refuseBad_0 rfl (lv_at hl 0 rfl) ?_
  refine lv_dup hx hb d_Face_refuseBad_1 rfl ?_
  refine va_get (D := D) (ci := 10) (v := .int (sF 7 0)) (C := "BedFrontier") (T := T_Face) (N := 10) hx hb htt i_Face hown hK.1 hP 0 rfl rfl 7 (by decide) (htt _ k_206) (fun _ h9 => h9) rfl d_Face_refuseBad_2 ?_
  refine lv_iconst (v := (1 : Int32)) hx hb d_Face_refuseBad_5 (by decide) ?_
  refine lv_iadd hx hb d_Face_refuseBad_6 ?_
  refine va_put (D := D) (ci := 10) (v := .int ((sF 7 0) + (1 : Int32))) (ty := .int) (C := "BedFrontier") (T := T_Face) (N := 10) hx hb htt i_Face t_Face t_Face_ok n_Face hown hK.1 hP hD hS 0 rfl rfl 7 (by decide) (htt _ k_206) (fun _ h9 => h9) rfl pfI rfl rfl (Nat.le_of_ble_eq_true rfl) d_Face_refuseBad_7 (fun H locs hP hD hS => ?_)
  obtain ⟨sF1, e_sF1⟩ : ∃ z : PW, z = up sF 7 (fun _ => ((sF 7 0) + (1 : Int32))) := ⟨_, rfl⟩
  replace hf := nmE hf e_sF1
  have hP : va_P D vwCl (L_f ty fA rA cA hA pv sF1) H := by rw [e_sF1]; exact hP
  have hD : va_D A (L_f ty fA rA cA hA pv sF1) := by rw [e_sF1]; exact hD
  refine lv_iload_n hx hb d_Face_refuseBad_10 rfl (lv_at hl 1 rfl) ?_
  obtain ⟨rfl, rfl⟩ := sj2 hf
  exact retM C0 (narI _) hQ hP hD hS d_Face_refuseBad_11
def f_Face_refuseNo (sF : PW) : Option (Int32 × PW) :=
  nm (up sF 8 (fun _ => ((sF 8 0) + (1 : Int32)))) (fun sF1 => some ((-3 : Int32), sF1))
set_option maxHeartbeats 4000000 in
set_option maxRecDepth 100000 in
theorem c_Face_refuseNo (l : Launch) (D : va_G) (ty : Nat → ClassId) (fA rA cA hA : Nat → Nat) (pv : Value) (sz : Nat) (sF : PW) (rr : Int32) (tF : PW) (hf : f_Face_refuseNo sF = some (rr, tF)) : Met l y_Face_refuseNo (Cond.code y_Face_refuseNo prog_1_method_37_code 1 ((Option.some FieldType.int)) :: lw_ok) { frames := 0, cells := 0, slots := 0, locals := 0 } (PcM D ty [.ref (fA 0)] sz (L_f ty fA rA cA hA pv sF)) (QM D (L_f ty fA rA cA hA pv tF) (va_A (L_f ty fA rA cA hA pv sF) sz) (some (.int rr))) 0 0 (va_A (L_f ty fA rA cA hA pv sF) sz) := by
  refine hdM (by decide) (Nat.le_of_ble_eq_true rfl) ?_
  intro p e s m below meth c ls R args Q A C0 hR hQ hnm hAq hP hK hD hS hl
  obtain ⟨hx, hb, hr, hlk, hml, hown, htt⟩ := id C0
  have hl : lv_has ls 1 [(0, .ref (fA 0))] := hl
  generalize hH0 : s.heap = H at hP hS ⊢
  have hS : va_S A s.heap H [] := by rw [hH0]; exact hS
  unfold f_Face_refuseNo at hf
  refine lv_aload_n hx hb d_Face_refuseNo_0 rfl (lv_at hl 0 rfl) ?_
  refine lv_dup hx hb d_Face_refuseNo_1 rfl ?_
  refine va_get (D := D) (ci := 10) (v := .int (sF 8 0)) (C := "BedFrontier") (T := T_Face) (N := 10) hx hb htt i_Face hown hK.1 hP 0 rfl rfl 8 (by decide) (htt _ k_207) (fun _ h9 => h9) rfl d_Face_refuseNo_2 ?_
  refine lv_iconst (v := (1 : Int32)) hx hb d_Face_refuseNo_5 (by decide) ?_
  refine lv_iadd hx hb d_Face_refuseNo_6 ?_
  refine va_put (D := D) (ci := 10) (v := .int ((sF 8 0) + (1 : Int32))) (ty := .int) (C := "BedFrontier") (T := T_Face) (N := 10) hx hb htt i_Face t_Face t_Face_ok n_Face hown hK.1 hP hD hS 0 rfl rfl 8 (by decide) (htt _ k_207) (fun _ h9 => h9) rfl pfI rfl rfl (Nat.le_of_ble_eq_true rfl) d_Face_refuseNo_7 (fun H locs hP hD hS => ?_)
  obtain ⟨sF1, e_sF1⟩ : ∃ z : PW, z = up sF 8 (fun _ => ((sF 8 0) + (1 : Int32))) := ⟨_, rfl⟩
  replace hf := nmE hf e_sF1
  have hP : va_P D vwCl (L_f ty fA rA cA hA pv sF1) H := by rw [e_sF1]; exact hP
  have hD : va_D A (L_f ty fA rA cA hA pv sF1) := by rw [e_sF1]; exact hD
  refine lv_bipush (v := (-3 : Int32)) hx hb d_Face_refuseNo_10 (by decide) ?_
  obtain ⟨rfl, rfl⟩ := sj2 hf
  exact retM C0 (narI _) hQ hP hD hS d_Face_refuseNo_12
def f_Face_refuseFull (sF : PW) : Option (Int32 × PW) :=
  nm (up sF 9 (fun _ => ((sF 9 0) + (1 : Int32)))) (fun sF1 => some ((-4 : Int32), sF1))
set_option maxHeartbeats 4000000 in
set_option maxRecDepth 100000 in
theorem c_Face_refuseFull (l : Launch) (D : va_G) (ty : Nat → ClassId) (fA rA cA hA : Nat → Nat) (pv : Value) (sz : Nat) (sF : PW) (rr : Int32) (tF : PW) (hf : f_Face_refuseFull sF = some (rr, tF)) : Met l y_Face_refuseFull (Cond.code y_Face_refuseFull prog_1_method_38_code 1 ((Option.some FieldType.int)) :: lw_ok) { frames := 0, cells := 0, slots := 0, locals := 0 } (PcM D ty [.ref (fA 0)] sz (L_f ty fA rA cA hA pv sF)) (QM D (L_f ty fA rA cA hA pv tF) (va_A (L_f ty fA rA cA hA pv sF) sz) (some (.int rr))) 0 0 (va_A (L_f ty fA rA cA hA pv sF) sz) := by
  refine hdM (by decide) (Nat.le_of_ble_eq_true rfl) ?_
  intro p e s m below meth c ls R args Q A C0 hR hQ hnm hAq hP hK hD hS hl
  obtain ⟨hx, hb, hr, hlk, hml, hown, htt⟩ := id C0
  have hl : lv_has ls 1 [(0, .ref (fA 0))] := hl
  generalize hH0 : s.heap = H at hP hS ⊢
  have hS : va_S A s.heap H [] := by rw [hH0]; exact hS
  unfold f_Face_refuseFull at hf
  refine lv_aload_n hx hb d_Face_refuseFull_0 rfl (lv_at hl 0 rfl) ?_
  refine lv_dup hx hb d_Face_refuseFull_1 rfl ?_
  refine va_get (D := D) (ci := 10) (v := .int (sF 9 0)) (C := "BedFrontier") (T := T_Face) (N := 10) hx hb htt i_Face hown hK.1 hP 0 rfl rfl 9 (by decide) (htt _ k_208) (fun _ h9 => h9) rfl d_Face_refuseFull_2 ?_
  refine lv_iconst (v := (1 : Int32)) hx hb d_Face_refuseFull_5 (by decide) ?_
  refine lv_iadd hx hb d_Face_refuseFull_6 ?_
  refine va_put (D := D) (ci := 10) (v := .int ((sF 9 0) + (1 : Int32))) (ty := .int) (C := "BedFrontier") (T := T_Face) (N := 10) hx hb htt i_Face t_Face t_Face_ok n_Face hown hK.1 hP hD hS 0 rfl rfl 9 (by decide) (htt _ k_208) (fun _ h9 => h9) rfl pfI rfl rfl (Nat.le_of_ble_eq_true rfl) d_Face_refuseFull_7 (fun H locs hP hD hS => ?_)
  obtain ⟨sF1, e_sF1⟩ : ∃ z : PW, z = up sF 9 (fun _ => ((sF 9 0) + (1 : Int32))) := ⟨_, rfl⟩
  replace hf := nmE hf e_sF1
  have hP : va_P D vwCl (L_f ty fA rA cA hA pv sF1) H := by rw [e_sF1]; exact hP
  have hD : va_D A (L_f ty fA rA cA hA pv sF1) := by rw [e_sF1]; exact hD
  refine lv_bipush (v := (-4 : Int32)) hx hb d_Face_refuseFull_10 (by decide) ?_
  obtain ⟨rfl, rfl⟩ := sj2 hf
  exact retM C0 (narI _) hQ hP hD hS d_Face_refuseFull_12
def f_Face_isDoing (sF : PW) (sH : PW) (a1 : Int32) : Option (Int32) :=
  (if a1 < 0 then some (0 : Int32) else (if (sH 12 0) ≤ a1 then some (0 : Int32) else some (1 : Int32)))
set_option maxHeartbeats 4000000 in
set_option maxRecDepth 100000 in
theorem c_Face_isDoing (l : Launch) (D : va_G) (ty : Nat → ClassId) (fA rA cA hA kA : Nat → Nat) (pv : Value) (sF : PW) (sH : PW) (a1 : Int32) (rr : Int32) (hf : f_Face_isDoing sF sH a1 = some rr) : Met l y_Face_isDoing (Cond.code y_Face_isDoing prog_1_method_39_code 2 ((Option.some FieldType.boolean)) :: lw_ok) { frames := 0, cells := 0, slots := 0, locals := 0 } (PcR D ty [.ref (fA 0), .int a1] (L_fh ty fA rA cA hA kA pv sF sH)) (QR (some (.int rr))) 0 0 (fun _ => False) := by
  refine hdR (by decide) (Nat.le_of_ble_eq_true rfl) ?_
  intro p e s m below meth c ls R args Q C0 hR hQ hP hK hl
  obtain ⟨hx, hb, hr, hlk, hml, hown, htt⟩ := id C0
  have hl : lv_has ls 2 [(0, .ref (fA 0)), (1, .int a1)] := hl
  unfold f_Face_isDoing at hf
  refine lv_iload_n hx hb d_Face_isDoing_0 rfl (lv_at hl 1 rfl) ?_
  refine lv_if_lt (tgt := 19) hx hb d_Face_isDoing_1 (by decide) (fun c1 => ?_) (fun c1 => ?_)
  · replace hf := iteT c1 hf
    refine lv_iconst (v := (0 : Int32)) hx hb d_Face_isDoing_19 (by decide) ?_
    obtain rfl := sj1 hf
    exact retR C0 rfl hQ d_Face_isDoing_20
  · replace hf := iteF c1 hf
    refine lv_iload_n hx hb d_Face_isDoing_4 rfl (lv_at hl 1 rfl) ?_
    refine lv_aload_n hx hb d_Face_isDoing_5 rfl (lv_at hl 0 rfl) ?_
    refine va_get (D := D) (ci := 10) (v := .ref (hA 0)) (C := "BedFrontier") (T := T_Face) (N := 10) hx hb htt i_Face hown hK.1 hP 0 rfl rfl 0 (by decide) (htt _ k_199) (fun _ h9 => h9) rfl d_Face_isDoing_6 ?_
    refine va_get (D := D) (ci := 6) (v := .int (sH 12 0)) (C := "BedFrontier$House") (T := T_House) (N := 15) hx hb htt i_House hown hK.1 hP 1 rfl rfl 12 (by decide) (htt _ k_112) (fun _ h9 => h9) rfl d_Face_isDoing_9 ?_
    refine lv_icmp_ge (tgt := 19) hx hb d_Face_isDoing_12 (by decide) (fun c2 => ?_) (fun c2 => ?_)
    · replace hf := iteT c2 hf
      refine lv_iconst (v := (0 : Int32)) hx hb d_Face_isDoing_19 (by decide) ?_
      obtain rfl := sj1 hf
      exact retR C0 rfl hQ d_Face_isDoing_20
    · replace hf := iteF c2 hf
      refine lv_iconst (v := (1 : Int32)) hx hb d_Face_isDoing_15 (by decide) ?_
      refine lv_goto (tgt := 20) hx hb d_Face_isDoing_16 (by decide) ?_
      obtain rfl := sj1 hf
      exact retR C0 rfl hQ d_Face_isDoing_20
def f_Face_howMany (sF : PW) (sR : PW) (sH : PW) (a1 : Int32) : Option (Int32) :=
  (if a1 = (0 : Int32) then some (sH 12 0) else (if a1 = (1 : Int32) then some (sH 10 0) else (if a1 = (2 : Int32) then some (sH 9 0) else (if a1 = (3 : Int32) then some (sH 11 0) else (if a1 = (4 : Int32) then some (sH 13 0) else (if a1 = (5 : Int32) then some (sH 14 0) else some (sR 2 0)))))))
set_option maxHeartbeats 4000000 in
set_option maxRecDepth 100000 in
theorem c_Face_howMany (l : Launch) (D : va_G) (ty : Nat → ClassId) (fA rA gA cA hA kA : Nat → Nat) (pv : Value) (sF : PW) (sR : PW) (sH : PW) (a1 : Int32) (rr : Int32) (hf : f_Face_howMany sF sR sH a1 = some rr) : Met l y_Face_howMany (Cond.code y_Face_howMany prog_1_method_35_code 2 ((Option.some FieldType.int)) :: lw_ok) { frames := 0, cells := 0, slots := 0, locals := 0 } (PcR D ty [.ref (fA 0), .int a1] (L_frh ty fA rA gA cA hA kA pv sF sR sH)) (QR (some (.int rr))) 0 0 (fun _ => False) := by
  refine hdR (by decide) (Nat.le_of_ble_eq_true rfl) ?_
  intro p e s m below meth c ls R args Q C0 hR hQ hP hK hl
  obtain ⟨hx, hb, hr, hlk, hml, hown, htt⟩ := id C0
  have hl : lv_has ls 2 [(0, .ref (fA 0)), (1, .int a1)] := hl
  unfold f_Face_howMany at hf
  refine lv_iload_n hx hb d_Face_howMany_0 rfl (lv_at hl 1 rfl) ?_
  by_cases c1 : a1 = (0 : Int32)
  · replace hf := iteT c1 hf
    refine lv_tableIn (off := 39) (tgt := 40) hx hb d_Face_howMany_1 (by rw [c1]; decide) (by rw [c1]; decide) (by rw [c1]; rfl) (by decide) ?_
    refine lv_aload_n hx hb d_Face_howMany_40 rfl (lv_at hl 0 rfl) ?_
    refine va_get (D := D) (ci := 10) (v := .ref (hA 0)) (C := "BedFrontier") (T := T_Face) (N := 10) hx hb htt i_Face hown hK.1 hP 0 rfl rfl 0 (by decide) (htt _ k_199) (fun _ h9 => h9) rfl d_Face_howMany_41 ?_
    refine va_get (D := D) (ci := 6) (v := .int (sH 12 0)) (C := "BedFrontier$House") (T := T_House) (N := 15) hx hb htt i_House hown hK.1 hP 3 rfl rfl 12 (by decide) (htt _ k_112) (fun _ h9 => h9) rfl d_Face_howMany_44 ?_
    obtain rfl := sj1 hf
    exact retR C0 (narI _) hQ d_Face_howMany_47
  replace hf := iteF c1 hf
  by_cases c2 : a1 = (1 : Int32)
  · replace hf := iteT c2 hf
    refine lv_tableIn (off := 47) (tgt := 48) hx hb d_Face_howMany_1 (by rw [c2]; decide) (by rw [c2]; decide) (by rw [c2]; rfl) (by decide) ?_
    refine lv_aload_n hx hb d_Face_howMany_48 rfl (lv_at hl 0 rfl) ?_
    refine va_get (D := D) (ci := 10) (v := .ref (hA 0)) (C := "BedFrontier") (T := T_Face) (N := 10) hx hb htt i_Face hown hK.1 hP 0 rfl rfl 0 (by decide) (htt _ k_199) (fun _ h9 => h9) rfl d_Face_howMany_49 ?_
    refine va_get (D := D) (ci := 6) (v := .int (sH 10 0)) (C := "BedFrontier$House") (T := T_House) (N := 15) hx hb htt i_House hown hK.1 hP 3 rfl rfl 10 (by decide) (htt _ k_109) (fun _ h9 => h9) rfl d_Face_howMany_52 ?_
    obtain rfl := sj1 hf
    exact retR C0 (narI _) hQ d_Face_howMany_55
  replace hf := iteF c2 hf
  by_cases c3 : a1 = (2 : Int32)
  · replace hf := iteT c3 hf
    refine lv_tableIn (off := 55) (tgt := 56) hx hb d_Face_howMany_1 (by rw [c3]; decide) (by rw [c3]; decide) (by rw [c3]; rfl) (by decide) ?_
    refine lv_aload_n hx hb d_Face_howMany_56 rfl (lv_at hl 0 rfl) ?_
    refine va_get (D := D) (ci := 10) (v := .ref (hA 0)) (C := "BedFrontier") (T := T_Face) (N := 10) hx hb htt i_Face hown hK.1 hP 0 rfl rfl 0 (by decide) (htt _ k_199) (fun _ h9 => h9) rfl d_Face_howMany_57 ?_
    refine va_get (D := D) (ci := 6) (v := .int (sH 9 0)) (C := "BedFrontier$House") (T := T_House) (N := 15) hx hb htt i_House hown hK.1 hP 3 rfl rfl 9 (by decide) (htt _ k_104) (fun _ h9 => h9) rfl d_Face_howMany_60 ?_
    obtain rfl := sj1 hf
    exact retR C0 (narI _) hQ d_Face_howMany_63
  replace hf := iteF c3 hf
  by_cases c4 : a1 = (3 : Int32)
  · replace hf := iteT c4 hf
    refine lv_tableIn (off := 63) (tgt := 64) hx hb d_Face_howMany_1 (by rw [c4]; decide) (by rw [c4]; decide) (by rw [c4]; rfl) (by decide) ?_
    refine lv_aload_n hx hb d_Face_howMany_64 rfl (lv_at hl 0 rfl) ?_
    refine va_get (D := D) (ci := 10) (v := .ref (hA 0)) (C := "BedFrontier") (T := T_Face) (N := 10) hx hb htt i_Face hown hK.1 hP 0 rfl rfl 0 (by decide) (htt _ k_199) (fun _ h9 => h9) rfl d_Face_howMany_65 ?_
    refine va_get (D := D) (ci := 6) (v := .int (sH 11 0)) (C := "BedFrontier$House") (T := T_House) (N := 15) hx hb htt i_House hown hK.1 hP 3 rfl rfl 11 (by decide) (htt _ k_111) (fun _ h9 => h9) rfl d_Face_howMany_68 ?_
    obtain rfl := sj1 hf
    exact retR C0 (narI _) hQ d_Face_howMany_71
  replace hf := iteF c4 hf
  by_cases c5 : a1 = (4 : Int32)
  · replace hf := iteT c5 hf
    refine lv_tableIn (off := 71) (tgt := 72) hx hb d_Face_howMany_1 (by rw [c5]; decide) (by rw [c5]; decide) (by rw [c5]; rfl) (by decide) ?_
    refine lv_aload_n hx hb d_Face_howMany_72 rfl (lv_at hl 0 rfl) ?_
    refine va_get (D := D) (ci := 10) (v := .ref (hA 0)) (C := "BedFrontier") (T := T_Face) (N := 10) hx hb htt i_Face hown hK.1 hP 0 rfl rfl 0 (by decide) (htt _ k_199) (fun _ h9 => h9) rfl d_Face_howMany_73 ?_
    refine va_get (D := D) (ci := 6) (v := .int (sH 13 0)) (C := "BedFrontier$House") (T := T_House) (N := 15) hx hb htt i_House hown hK.1 hP 3 rfl rfl 13 (by decide) (htt _ k_119) (fun _ h9 => h9) rfl d_Face_howMany_76 ?_
    obtain rfl := sj1 hf
    exact retR C0 (narI _) hQ d_Face_howMany_79
  replace hf := iteF c5 hf
  by_cases c6 : a1 = (5 : Int32)
  · replace hf := iteT c6 hf
    refine lv_tableIn (off := 79) (tgt := 80) hx hb d_Face_howMany_1 (by rw [c6]; decide) (by rw [c6]; decide) (by rw [c6]; rfl) (by decide) ?_
    refine lv_aload_n hx hb d_Face_howMany_80 rfl (lv_at hl 0 rfl) ?_
    refine va_get (D := D) (ci := 10) (v := .ref (hA 0)) (C := "BedFrontier") (T := T_Face) (N := 10) hx hb htt i_Face hown hK.1 hP 0 rfl rfl 0 (by decide) (htt _ k_199) (fun _ h9 => h9) rfl d_Face_howMany_81 ?_
    refine va_get (D := D) (ci := 6) (v := .int (sH 14 0)) (C := "BedFrontier$House") (T := T_House) (N := 15) hx hb htt i_House hown hK.1 hP 3 rfl rfl 14 (by decide) (htt _ k_121) (fun _ h9 => h9) rfl d_Face_howMany_84 ?_
    obtain rfl := sj1 hf
    exact retR C0 (narI _) hQ d_Face_howMany_87
  replace hf := iteF c6 hf
  refine lv_tableOut (tgt := 88) hx hb d_Face_howMany_1 (by have c1' := lv_neT (a := 0) c1 rfl; have c2' := lv_neT (a := 1) c2 rfl; have c3' := lv_neT (a := 2) c3 rfl; have c4' := lv_neT (a := 3) c4 rfl; have c5' := lv_neT (a := 4) c5 rfl; have c6' := lv_neT (a := 5) c6 rfl; omega) (by decide) ?_
  refine lv_aload_n hx hb d_Face_howMany_88 rfl (lv_at hl 0 rfl) ?_
  refine va_get (D := D) (ci := 10) (v := .ref (rA 0)) (C := "BedFrontier") (T := T_Face) (N := 10) hx hb htt i_Face hown hK.1 hP 0 rfl rfl 1 (by decide) (htt _ k_200) (fun _ h9 => h9) rfl d_Face_howMany_89 ?_
  refine va_get (D := D) (ci := 7) (v := .int (sR 2 0)) (C := "BedFrontier$Reader") (T := T_Reader) (N := 7) hx hb htt i_Reader hown hK.1 hP 1 rfl rfl 2 (by decide) (htt _ k_164) (fun _ h9 => h9) rfl d_Face_howMany_92 ?_
  obtain rfl := sj1 hf
  exact retR C0 (narI _) hQ d_Face_howMany_95
def f_Face_house (sF : PW) (sH : PW) (a1 : Int32) : Option (Int32 × PW × PW) :=
  bd (f_Face_within a1 (9 : Int32)) (fun x1 => (if x1 = 0 then bd2 (f_Face_refuseBad sF (-2 : Int32)) (fun x7 sF8 => some (x7, sF8, sH)) else nm (sH 12 0) (fun x4 => bd (f_House_start sH a1) (fun sH5 => some (x4, sF, sH5)))))
set_option maxHeartbeats 4000000 in
set_option maxRecDepth 100000 in
theorem c_Face_house (l : Launch) (D : va_G) (ty : Nat → ClassId) (fA rA cA hA kA : Nat → Nat) (pv : Value) (sz : Nat) (sF : PW) (sH : PW) (a1 : Int32) (rr : Int32) (tF : PW) (tH : PW) (hf : f_Face_house sF sH a1 = some (rr, tF, tH)) : Met l y_Face_house (Cond.code y_Face_house prog_1_method_2_code 3 ((Option.some FieldType.int)) :: lw_ok) { frames := 1, cells := 0, slots := 0, locals := 22 } (PcM D ty [.ref (fA 0), .int a1] sz (L_fh ty fA rA cA hA kA pv sF sH)) (QM D (L_fh ty fA rA cA hA kA pv tF tH) (va_A (L_fh ty fA rA cA hA kA pv sF sH) sz) (some (.int rr))) 0 0 (va_A (L_fh ty fA rA cA hA kA pv sF sH) sz) := by
  refine hdM (by decide) (Nat.le_of_ble_eq_true rfl) ?_
  intro p e s m below meth c ls R args Q A C0 hR hQ hnm hAq hP hK hD hS hl
  obtain ⟨hx, hb, hr, hlk, hml, hown, htt⟩ := id C0
  have hl : lv_has ls 3 [(0, .ref (fA 0)), (1, .int a1)] := hl
  generalize hH0 : s.heap = H at hP hS ⊢
  have hS : va_S A s.heap H [] := by rw [hH0]; exact hS
  unfold f_Face_house at hf
  refine lv_iload_n hx hb d_Face_house_0 rfl (lv_at hl 1 rfl) ?_
  refine lv_bipush (v := (9 : Int32)) hx hb d_Face_house_1 (by decide) ?_
  obtain ⟨x1, h2, hf⟩ := bdE hf
  refine scR (rest := []) C0 (c_Face_within l D ty a1 (9 : Int32) x1 h2) k_234 cal_Face_within hK (va_P_nil) ⟨by rw [hR]; decide, by rw [hR]; decide⟩ rfl rfl rfl hl.1 rfl (Nat.le_of_ble_eq_true rfl) d_Face_house_3 ⟨Nat.zero_le _, Nat.zero_le _⟩ rfl ?_
  refine lv_if_ne (tgt := 16) hx hb d_Face_house_6 (by decide) (fun c3 => ?_) (fun c3 => ?_)
  · replace hf := iteF c3 hf
    refine lv_aload_n hx hb d_Face_house_16 rfl (lv_at hl 0 rfl) ?_
    refine va_get (D := D) (ci := 10) (v := .ref (hA 0)) (C := "BedFrontier") (T := T_Face) (N := 10) hx hb htt i_Face hown hK.1 hP 0 rfl rfl 0 (by decide) (htt _ k_199) (fun _ h9 => h9) rfl d_Face_house_17 ?_
    refine va_get (D := D) (ci := 6) (v := .int (sH 12 0)) (C := "BedFrontier$House") (T := T_House) (N := 15) hx hb htt i_House hown hK.1 hP 1 rfl rfl 12 (by decide) (htt _ k_112) (fun _ h9 => h9) rfl d_Face_house_20 ?_
    refine lv_topi (fun x4 e_x4 => ?_)
    replace hf := nmE hf e_x4
    refine lv_istore_n (lv' := [(2, .int x4), (0, .ref (fA 0)), (1, .int a1)]) hx hb d_Face_house_23 rfl hl (by decide) rfl (fun ls hl => ?_)
    refine lv_aload_n hx hb d_Face_house_24 rfl (lv_at hl 1 rfl) ?_
    refine va_get (D := D) (ci := 10) (v := .ref (hA 0)) (C := "BedFrontier") (T := T_Face) (N := 10) hx hb htt i_Face hown hK.1 hP 0 rfl rfl 0 (by decide) (htt _ k_199) (fun _ h9 => h9) rfl d_Face_house_25 ?_
    refine lv_iload_n hx hb d_Face_house_28 rfl (lv_at hl 2 rfl) ?_
    obtain ⟨sH5, h6, hf⟩ := bdE hf
    refine vM (Lc := (L_h ty hA kA sH)) (Lc' := (L_h ty hA kA sH5)) (L' := (L_fh ty fA rA cA hA kA pv sF sH5)) (q0 := 0) (ci := 6) (rest := []) C0 (c_House_start l D ty hA kA H.size sH a1 sH5 h6) k_241 cal_House_start hK hP hD hS hAq [1, 2, 3, 4, 5, 6, 7] [0] [0, 1, 2, 3, 4, 5, 6, 7] [(fA 0, .inr (10, [.ref (hA 0), .ref (rA 0), .ref (cA 0), .ref (fA 4), pv, .int (sF 5 0), .int (sF 6 0), .int (sF 7 0), .int (sF 8 0), .int (sF 9 0)]))] rfl rfl (by decide) (by decide) (by decide) (by decide) rfl rfl rfl rfl ⟨by rw [hR]; decide, by rw [hR]; decide⟩ rfl rfl rfl hl.1 rfl (Nat.le_of_ble_eq_true rfl) d_Face_house_29 ⟨by rw [hR]; decide, by rw [hR]; decide⟩ rfl (fun H locs hP hD hS => ?_)
    refine lv_iload_n hx hb d_Face_house_32 rfl (lv_at hl 0 rfl) ?_
    obtain ⟨rfl, rfl, rfl⟩ := sj3 hf
    exact retM C0 (narI _) hQ hP hD hS d_Face_house_33
  · replace hf := iteT c3 hf
    refine lv_aload_n hx hb d_Face_house_9 rfl (lv_at hl 0 rfl) ?_
    refine lv_bipush (v := (-2 : Int32)) hx hb d_Face_house_10 (by decide) ?_
    obtain ⟨x7, sF8, h9, hf⟩ := bd2E hf
    refine vM (Lc := (L_f ty fA rA cA hA pv sF)) (Lc' := (L_f ty fA rA cA hA pv sF8)) (L' := (L_fh ty fA rA cA hA kA pv sF8 sH)) (q0 := 0) (ci := 10) (rest := []) C0 (c_Face_refuseBad l D ty fA rA cA hA pv H.size sF (-2 : Int32) x7 sF8 h9) k_237 cal_Face_refuseBad hK hP hD hS hAq [0] [1, 2, 3, 4, 5, 6, 7] [7, 0, 1, 2, 3, 4, 5, 6] [(hA 0, .inr (6, [.ref (kA 0), .ref (hA 2), .ref (hA 3), .ref (hA 4), .ref (hA 5), .ref (hA 6), .ref (hA 7), .int (sH 7 0), .int (sH 8 0), .int (sH 9 0), .int (sH 10 0), .int (sH 11 0), .int (sH 12 0), .int (sH 13 0), .int (sH 14 0)])), (hA 2, .inl (ty 0, 2, .inl (sH 1))), (hA 3, .inl (ty 0, 2, .inl (sH 2))), (hA 4, .inl (ty 0, 6, .inl (sH 3))), (hA 5, .inl (ty 0, 6, .inl (sH 4))), (hA 6, .inl (ty 0, 30, .inl (sH 5))), (hA 7, .inl (ty 0, 32, .inl (sH 6)))] rfl rfl (by decide) (by decide) (by decide) (by decide) rfl rfl rfl rfl ⟨by rw [hR]; decide, by rw [hR]; decide⟩ rfl rfl rfl hl.1 rfl (Nat.le_of_ble_eq_true rfl) d_Face_house_12 ⟨by rw [hR]; decide, by rw [hR]; decide⟩ rfl (fun H locs hP hD hS => ?_)
    obtain ⟨rfl, rfl, rfl⟩ := sj3 hf
    exact retM C0 (narI _) hQ hP hD hS d_Face_house_15
def f_Face_rate (sF : PW) (sH : PW) (a1 : Int32) (a2 : Int32) : Option (Int32 × PW × PW) :=
  bd (f_Face_isSide a1) (fun x1 => (if x1 = 0 then bd2 (f_Face_refuseBad sF (-2 : Int32)) (fun x4 sF5 => some (x4, sF5, sH)) else bd (f_Face_within a2 (9 : Int32)) (fun x7 => (if x7 = 0 then bd2 (f_Face_refuseBad sF (-2 : Int32)) (fun x14 sF15 => some (x14, sF15, sH)) else gd (okI a1 2) (nm (sH 1 (a1).toNatClampNeg) (fun x11 => gd (okI a1 2) (nm (up sH 1 (upd (sH 1) ((a1).toNatClampNeg) a2)) (fun sH13 => some (x11, sF, sH13)))))))))
set_option maxHeartbeats 4000000 in
set_option maxRecDepth 100000 in
theorem c_Face_rate (l : Launch) (D : va_G) (ty : Nat → ClassId) (fA rA cA hA kA : Nat → Nat) (pv : Value) (sz : Nat) (sF : PW) (sH : PW) (a1 : Int32) (a2 : Int32) (rr : Int32) (tF : PW) (tH : PW) (hf : f_Face_rate sF sH a1 a2 = some (rr, tF, tH)) : Met l y_Face_rate (Cond.code y_Face_rate prog_1_method_3_code 4 ((Option.some FieldType.int)) :: lw_ok) { frames := 2, cells := 0, slots := 0, locals := 41 } (PcM D ty [.ref (fA 0), .int a1, .int a2] sz (L_fh ty fA rA cA hA kA pv sF sH)) (QM D (L_fh ty fA rA cA hA kA pv tF tH) (va_A (L_fh ty fA rA cA hA kA pv sF sH) sz) (some (.int rr))) 0 0 (va_A (L_fh ty fA rA cA hA kA pv sF sH) sz) := by
  refine hdM (by decide) (Nat.le_of_ble_eq_true rfl) ?_
  intro p e s m below meth c ls R args Q A C0 hR hQ hnm hAq hP hK hD hS hl
  obtain ⟨hx, hb, hr, hlk, hml, hown, htt⟩ := id C0
  have hl : lv_has ls 4 [(0, .ref (fA 0)), (1, .int a1), (2, .int a2)] := hl
  generalize hH0 : s.heap = H at hP hS ⊢
  have hS : va_S A s.heap H [] := by rw [hH0]; exact hS
  unfold f_Face_rate at hf
  refine lv_iload_n hx hb d_Face_rate_0 rfl (lv_at hl 1 rfl) ?_
  obtain ⟨x1, h2, hf⟩ := bdE hf
  refine scR (rest := []) C0 (c_Face_isSide l D ty a1 x1 h2) k_246 cal_Face_isSide hK (va_P_nil) ⟨by rw [hR]; decide, by rw [hR]; decide⟩ rfl rfl rfl hl.1 rfl (Nat.le_of_ble_eq_true rfl) d_Face_rate_1 ⟨Nat.zero_le _, Nat.zero_le _⟩ rfl ?_
  refine lv_if_eq (tgt := 16) hx hb d_Face_rate_4 (by decide) (fun c3 => ?_) (fun c3 => ?_)
  · replace hf := iteT c3 hf
    refine lv_aload_n hx hb d_Face_rate_16 rfl (lv_at hl 0 rfl) ?_
    refine lv_bipush (v := (-2 : Int32)) hx hb d_Face_rate_17 (by decide) ?_
    obtain ⟨x4, sF5, h6, hf⟩ := bd2E hf
    refine vM (Lc := (L_f ty fA rA cA hA pv sF)) (Lc' := (L_f ty fA rA cA hA pv sF5)) (L' := (L_fh ty fA rA cA hA kA pv sF5 sH)) (q0 := 0) (ci := 10) (rest := []) C0 (c_Face_refuseBad l D ty fA rA cA hA pv H.size sF (-2 : Int32) x4 sF5 h6) k_237 cal_Face_refuseBad hK hP hD hS hAq [0] [1, 2, 3, 4, 5, 6, 7] [7, 0, 1, 2, 3, 4, 5, 6] [(hA 0, .inr (6, [.ref (kA 0), .ref (hA 2), .ref (hA 3), .ref (hA 4), .ref (hA 5), .ref (hA 6), .ref (hA 7), .int (sH 7 0), .int (sH 8 0), .int (sH 9 0), .int (sH 10 0), .int (sH 11 0), .int (sH 12 0), .int (sH 13 0), .int (sH 14 0)])), (hA 2, .inl (ty 0, 2, .inl (sH 1))), (hA 3, .inl (ty 0, 2, .inl (sH 2))), (hA 4, .inl (ty 0, 6, .inl (sH 3))), (hA 5, .inl (ty 0, 6, .inl (sH 4))), (hA 6, .inl (ty 0, 30, .inl (sH 5))), (hA 7, .inl (ty 0, 32, .inl (sH 6)))] rfl rfl (by decide) (by decide) (by decide) (by decide) rfl rfl rfl rfl ⟨by rw [hR]; decide, by rw [hR]; decide⟩ rfl rfl rfl hl.1 rfl (Nat.le_of_ble_eq_true rfl) d_Face_rate_19 ⟨by rw [hR]; decide, by rw [hR]; decide⟩ rfl (fun H locs hP hD hS => ?_)
    obtain ⟨rfl, rfl, rfl⟩ := sj3 hf
    exact retM C0 (narI _) hQ hP hD hS d_Face_rate_22
  · replace hf := iteF c3 hf
    refine lv_iload_n hx hb d_Face_rate_7 rfl (lv_at hl 2 rfl) ?_
    refine lv_bipush (v := (9 : Int32)) hx hb d_Face_rate_8 (by decide) ?_
    obtain ⟨x7, h8, hf⟩ := bdE hf
    refine scR (rest := []) C0 (c_Face_within l D ty a2 (9 : Int32) x7 h8) k_234 cal_Face_within hK (va_P_nil) ⟨by rw [hR]; decide, by rw [hR]; decide⟩ rfl rfl rfl hl.1 rfl (Nat.le_of_ble_eq_true rfl) d_Face_rate_10 ⟨Nat.zero_le _, Nat.zero_le _⟩ rfl ?_
    refine lv_if_ne (tgt := 23) hx hb d_Face_rate_13 (by decide) (fun c9 => ?_) (fun c9 => ?_)
    · replace hf := iteF c9 hf
      refine lv_aload_n hx hb d_Face_rate_23 rfl (lv_at hl 0 rfl) ?_
      refine va_get (D := D) (ci := 10) (v := .ref (hA 0)) (C := "BedFrontier") (T := T_Face) (N := 10) hx hb htt i_Face hown hK.1 hP 0 rfl rfl 0 (by decide) (htt _ k_199) (fun _ h9 => h9) rfl d_Face_rate_24 ?_
      refine va_get (D := D) (ci := 6) (v := .ref (hA 2)) (C := "BedFrontier$House") (T := T_House) (N := 15) hx hb htt i_House hown hK.1 hP 1 rfl rfl 1 (by decide) (htt _ k_83) (fun _ h9 => h9) rfl d_Face_rate_27 ?_
      refine lv_iload_n hx hb d_Face_rate_30 rfl (lv_at hl 1 rfl) ?_
      obtain ⟨g10, hf⟩ := gdE hf
      refine va_iald hx hb hK.1 hP 2 0 rfl rfl (okI_in g10) d_Face_rate_31 ?_
      refine lv_topi (fun x11 e_x11 => ?_)
      replace hf := nmE hf e_x11
      refine lv_istore_n (lv' := [(3, .int x11), (0, .ref (fA 0)), (1, .int a1), (2, .int a2)]) hx hb d_Face_rate_32 rfl hl (by decide) rfl (fun ls hl => ?_)
      refine lv_aload_n hx hb d_Face_rate_33 rfl (lv_at hl 1 rfl) ?_
      refine va_get (D := D) (ci := 10) (v := .ref (hA 0)) (C := "BedFrontier") (T := T_Face) (N := 10) hx hb htt i_Face hown hK.1 hP 0 rfl rfl 0 (by decide) (htt _ k_199) (fun _ h9 => h9) rfl d_Face_rate_34 ?_
      refine va_get (D := D) (ci := 6) (v := .ref (hA 2)) (C := "BedFrontier$House") (T := T_House) (N := 15) hx hb htt i_House hown hK.1 hP 1 rfl rfl 1 (by decide) (htt _ k_83) (fun _ h9 => h9) rfl d_Face_rate_37 ?_
      refine lv_iload_n hx hb d_Face_rate_40 rfl (lv_at hl 2 rfl) ?_
      refine lv_iload_n hx hb d_Face_rate_41 rfl (lv_at hl 3 rfl) ?_
      obtain ⟨g12, hf⟩ := gdE hf
      refine va_iast hx hb hK.1 hP hD hS 2 0 rfl rfl (okI_in g12) d_Face_rate_42 (fun H locs hP hD hS => ?_)
      obtain ⟨sH13, e_sH13⟩ : ∃ z : PW, z = up sH 1 (upd (sH 1) ((a1).toNatClampNeg) a2) := ⟨_, rfl⟩
      replace hf := nmE hf e_sH13
      have hP : va_P D vwCl (L_fh ty fA rA cA hA kA pv sF sH13) H := by rw [e_sH13]; exact hP
      have hD : va_D A (L_fh ty fA rA cA hA kA pv sF sH13) := by rw [e_sH13]; exact hD
      refine lv_iload_n hx hb d_Face_rate_43 rfl (lv_at hl 0 rfl) ?_
      obtain ⟨rfl, rfl, rfl⟩ := sj3 hf
      exact retM C0 (narI _) hQ hP hD hS d_Face_rate_44
    · replace hf := iteT c9 hf
      refine lv_aload_n hx hb d_Face_rate_16 rfl (lv_at hl 0 rfl) ?_
      refine lv_bipush (v := (-2 : Int32)) hx hb d_Face_rate_17 (by decide) ?_
      obtain ⟨x14, sF15, h16, hf⟩ := bd2E hf
      refine vM (Lc := (L_f ty fA rA cA hA pv sF)) (Lc' := (L_f ty fA rA cA hA pv sF15)) (L' := (L_fh ty fA rA cA hA kA pv sF15 sH)) (q0 := 0) (ci := 10) (rest := []) C0 (c_Face_refuseBad l D ty fA rA cA hA pv H.size sF (-2 : Int32) x14 sF15 h16) k_237 cal_Face_refuseBad hK hP hD hS hAq [0] [1, 2, 3, 4, 5, 6, 7] [7, 0, 1, 2, 3, 4, 5, 6] [(hA 0, .inr (6, [.ref (kA 0), .ref (hA 2), .ref (hA 3), .ref (hA 4), .ref (hA 5), .ref (hA 6), .ref (hA 7), .int (sH 7 0), .int (sH 8 0), .int (sH 9 0), .int (sH 10 0), .int (sH 11 0), .int (sH 12 0), .int (sH 13 0), .int (sH 14 0)])), (hA 2, .inl (ty 0, 2, .inl (sH 1))), (hA 3, .inl (ty 0, 2, .inl (sH 2))), (hA 4, .inl (ty 0, 6, .inl (sH 3))), (hA 5, .inl (ty 0, 6, .inl (sH 4))), (hA 6, .inl (ty 0, 30, .inl (sH 5))), (hA 7, .inl (ty 0, 32, .inl (sH 6)))] rfl rfl (by decide) (by decide) (by decide) (by decide) rfl rfl rfl rfl ⟨by rw [hR]; decide, by rw [hR]; decide⟩ rfl rfl rfl hl.1 rfl (Nat.le_of_ble_eq_true rfl) d_Face_rate_19 ⟨by rw [hR]; decide, by rw [hR]; decide⟩ rfl (fun H locs hP hD hS => ?_)
      obtain ⟨rfl, rfl, rfl⟩ := sj3 hf
      exact retM C0 (narI _) hQ hP hD hS d_Face_rate_22
def f_Face_bar (sF : PW) (sH : PW) (a1 : Int32) (a2 : Int32) : Option (Int32 × PW × PW) :=
  bd (f_Face_isSide a1) (fun x1 => (if x1 = 0 then bd2 (f_Face_refuseBad sF (-2 : Int32)) (fun x4 sF5 => some (x4, sF5, sH)) else bd (f_Face_within a2 (16777215 : Int32)) (fun x7 => (if x7 = 0 then bd2 (f_Face_refuseBad sF (-2 : Int32)) (fun x14 sF15 => some (x14, sF15, sH)) else gd (okI a1 2) (nm (sH 2 (a1).toNatClampNeg) (fun x11 => gd (okI a1 2) (nm (up sH 2 (upd (sH 2) ((a1).toNatClampNeg) a2)) (fun sH13 => some (x11, sF, sH13)))))))))
set_option maxHeartbeats 4000000 in
set_option maxRecDepth 100000 in
theorem c_Face_bar (l : Launch) (D : va_G) (ty : Nat → ClassId) (fA rA cA hA kA : Nat → Nat) (pv : Value) (sz : Nat) (sF : PW) (sH : PW) (a1 : Int32) (a2 : Int32) (rr : Int32) (tF : PW) (tH : PW) (hf : f_Face_bar sF sH a1 a2 = some (rr, tF, tH)) : Met l y_Face_bar (Cond.code y_Face_bar prog_1_method_4_code 4 ((Option.some FieldType.int)) :: lw_ok) { frames := 2, cells := 0, slots := 0, locals := 41 } (PcM D ty [.ref (fA 0), .int a1, .int a2] sz (L_fh ty fA rA cA hA kA pv sF sH)) (QM D (L_fh ty fA rA cA hA kA pv tF tH) (va_A (L_fh ty fA rA cA hA kA pv sF sH) sz) (some (.int rr))) 0 0 (va_A (L_fh ty fA rA cA hA kA pv sF sH) sz) := by
  refine hdM (by decide) (Nat.le_of_ble_eq_true rfl) ?_
  intro p e s m below meth c ls R args Q A C0 hR hQ hnm hAq hP hK hD hS hl
  obtain ⟨hx, hb, hr, hlk, hml, hown, htt⟩ := id C0
  have hl : lv_has ls 4 [(0, .ref (fA 0)), (1, .int a1), (2, .int a2)] := hl
  generalize hH0 : s.heap = H at hP hS ⊢
  have hS : va_S A s.heap H [] := by rw [hH0]; exact hS
  unfold f_Face_bar at hf
  refine lv_iload_n hx hb d_Face_bar_0 rfl (lv_at hl 1 rfl) ?_
  obtain ⟨x1, h2, hf⟩ := bdE hf
  refine scR (rest := []) C0 (c_Face_isSide l D ty a1 x1 h2) k_246 cal_Face_isSide hK (va_P_nil) ⟨by rw [hR]; decide, by rw [hR]; decide⟩ rfl rfl rfl hl.1 rfl (Nat.le_of_ble_eq_true rfl) d_Face_bar_1 ⟨Nat.zero_le _, Nat.zero_le _⟩ rfl ?_
  refine lv_if_eq (tgt := 16) hx hb d_Face_bar_4 (by decide) (fun c3 => ?_) (fun c3 => ?_)
  · replace hf := iteT c3 hf
    refine lv_aload_n hx hb d_Face_bar_16 rfl (lv_at hl 0 rfl) ?_
    refine lv_bipush (v := (-2 : Int32)) hx hb d_Face_bar_17 (by decide) ?_
    obtain ⟨x4, sF5, h6, hf⟩ := bd2E hf
    refine vM (Lc := (L_f ty fA rA cA hA pv sF)) (Lc' := (L_f ty fA rA cA hA pv sF5)) (L' := (L_fh ty fA rA cA hA kA pv sF5 sH)) (q0 := 0) (ci := 10) (rest := []) C0 (c_Face_refuseBad l D ty fA rA cA hA pv H.size sF (-2 : Int32) x4 sF5 h6) k_237 cal_Face_refuseBad hK hP hD hS hAq [0] [1, 2, 3, 4, 5, 6, 7] [7, 0, 1, 2, 3, 4, 5, 6] [(hA 0, .inr (6, [.ref (kA 0), .ref (hA 2), .ref (hA 3), .ref (hA 4), .ref (hA 5), .ref (hA 6), .ref (hA 7), .int (sH 7 0), .int (sH 8 0), .int (sH 9 0), .int (sH 10 0), .int (sH 11 0), .int (sH 12 0), .int (sH 13 0), .int (sH 14 0)])), (hA 2, .inl (ty 0, 2, .inl (sH 1))), (hA 3, .inl (ty 0, 2, .inl (sH 2))), (hA 4, .inl (ty 0, 6, .inl (sH 3))), (hA 5, .inl (ty 0, 6, .inl (sH 4))), (hA 6, .inl (ty 0, 30, .inl (sH 5))), (hA 7, .inl (ty 0, 32, .inl (sH 6)))] rfl rfl (by decide) (by decide) (by decide) (by decide) rfl rfl rfl rfl ⟨by rw [hR]; decide, by rw [hR]; decide⟩ rfl rfl rfl hl.1 rfl (Nat.le_of_ble_eq_true rfl) d_Face_bar_19 ⟨by rw [hR]; decide, by rw [hR]; decide⟩ rfl (fun H locs hP hD hS => ?_)
    obtain ⟨rfl, rfl, rfl⟩ := sj3 hf
    exact retM C0 (narI _) hQ hP hD hS d_Face_bar_22
  · replace hf := iteF c3 hf
    refine lv_iload_n hx hb d_Face_bar_7 rfl (lv_at hl 2 rfl) ?_
    refine lv_ldc (v := (16777215 : Int32)) hx hb hown (htt _ k_253) d_Face_bar_8 ?_
    obtain ⟨x7, h8, hf⟩ := bdE hf
    refine scR (rest := []) C0 (c_Face_within l D ty a2 (16777215 : Int32) x7 h8) k_234 cal_Face_within hK (va_P_nil) ⟨by rw [hR]; decide, by rw [hR]; decide⟩ rfl rfl rfl hl.1 rfl (Nat.le_of_ble_eq_true rfl) d_Face_bar_10 ⟨Nat.zero_le _, Nat.zero_le _⟩ rfl ?_
    refine lv_if_ne (tgt := 23) hx hb d_Face_bar_13 (by decide) (fun c9 => ?_) (fun c9 => ?_)
    · replace hf := iteF c9 hf
      refine lv_aload_n hx hb d_Face_bar_23 rfl (lv_at hl 0 rfl) ?_
      refine va_get (D := D) (ci := 10) (v := .ref (hA 0)) (C := "BedFrontier") (T := T_Face) (N := 10) hx hb htt i_Face hown hK.1 hP 0 rfl rfl 0 (by decide) (htt _ k_199) (fun _ h9 => h9) rfl d_Face_bar_24 ?_
      refine va_get (D := D) (ci := 6) (v := .ref (hA 3)) (C := "BedFrontier$House") (T := T_House) (N := 15) hx hb htt i_House hown hK.1 hP 1 rfl rfl 2 (by decide) (htt _ k_86) (fun _ h9 => h9) rfl d_Face_bar_27 ?_
      refine lv_iload_n hx hb d_Face_bar_30 rfl (lv_at hl 1 rfl) ?_
      obtain ⟨g10, hf⟩ := gdE hf
      refine va_iald hx hb hK.1 hP 3 0 rfl rfl (okI_in g10) d_Face_bar_31 ?_
      refine lv_topi (fun x11 e_x11 => ?_)
      replace hf := nmE hf e_x11
      refine lv_istore_n (lv' := [(3, .int x11), (0, .ref (fA 0)), (1, .int a1), (2, .int a2)]) hx hb d_Face_bar_32 rfl hl (by decide) rfl (fun ls hl => ?_)
      refine lv_aload_n hx hb d_Face_bar_33 rfl (lv_at hl 1 rfl) ?_
      refine va_get (D := D) (ci := 10) (v := .ref (hA 0)) (C := "BedFrontier") (T := T_Face) (N := 10) hx hb htt i_Face hown hK.1 hP 0 rfl rfl 0 (by decide) (htt _ k_199) (fun _ h9 => h9) rfl d_Face_bar_34 ?_
      refine va_get (D := D) (ci := 6) (v := .ref (hA 3)) (C := "BedFrontier$House") (T := T_House) (N := 15) hx hb htt i_House hown hK.1 hP 1 rfl rfl 2 (by decide) (htt _ k_86) (fun _ h9 => h9) rfl d_Face_bar_37 ?_
      refine lv_iload_n hx hb d_Face_bar_40 rfl (lv_at hl 2 rfl) ?_
      refine lv_iload_n hx hb d_Face_bar_41 rfl (lv_at hl 3 rfl) ?_
      obtain ⟨g12, hf⟩ := gdE hf
      refine va_iast hx hb hK.1 hP hD hS 3 0 rfl rfl (okI_in g12) d_Face_bar_42 (fun H locs hP hD hS => ?_)
      obtain ⟨sH13, e_sH13⟩ : ∃ z : PW, z = up sH 2 (upd (sH 2) ((a1).toNatClampNeg) a2) := ⟨_, rfl⟩
      replace hf := nmE hf e_sH13
      have hP : va_P D vwCl (L_fh ty fA rA cA hA kA pv sF sH13) H := by rw [e_sH13]; exact hP
      have hD : va_D A (L_fh ty fA rA cA hA kA pv sF sH13) := by rw [e_sH13]; exact hD
      refine lv_iload_n hx hb d_Face_bar_43 rfl (lv_at hl 0 rfl) ?_
      obtain ⟨rfl, rfl, rfl⟩ := sj3 hf
      exact retM C0 (narI _) hQ hP hD hS d_Face_bar_44
    · replace hf := iteT c9 hf
      refine lv_aload_n hx hb d_Face_bar_16 rfl (lv_at hl 0 rfl) ?_
      refine lv_bipush (v := (-2 : Int32)) hx hb d_Face_bar_17 (by decide) ?_
      obtain ⟨x14, sF15, h16, hf⟩ := bd2E hf
      refine vM (Lc := (L_f ty fA rA cA hA pv sF)) (Lc' := (L_f ty fA rA cA hA pv sF15)) (L' := (L_fh ty fA rA cA hA kA pv sF15 sH)) (q0 := 0) (ci := 10) (rest := []) C0 (c_Face_refuseBad l D ty fA rA cA hA pv H.size sF (-2 : Int32) x14 sF15 h16) k_237 cal_Face_refuseBad hK hP hD hS hAq [0] [1, 2, 3, 4, 5, 6, 7] [7, 0, 1, 2, 3, 4, 5, 6] [(hA 0, .inr (6, [.ref (kA 0), .ref (hA 2), .ref (hA 3), .ref (hA 4), .ref (hA 5), .ref (hA 6), .ref (hA 7), .int (sH 7 0), .int (sH 8 0), .int (sH 9 0), .int (sH 10 0), .int (sH 11 0), .int (sH 12 0), .int (sH 13 0), .int (sH 14 0)])), (hA 2, .inl (ty 0, 2, .inl (sH 1))), (hA 3, .inl (ty 0, 2, .inl (sH 2))), (hA 4, .inl (ty 0, 6, .inl (sH 3))), (hA 5, .inl (ty 0, 6, .inl (sH 4))), (hA 6, .inl (ty 0, 30, .inl (sH 5))), (hA 7, .inl (ty 0, 32, .inl (sH 6)))] rfl rfl (by decide) (by decide) (by decide) (by decide) rfl rfl rfl rfl ⟨by rw [hR]; decide, by rw [hR]; decide⟩ rfl rfl rfl hl.1 rfl (Nat.le_of_ble_eq_true rfl) d_Face_bar_19 ⟨by rw [hR]; decide, by rw [hR]; decide⟩ rfl (fun H locs hP hD hS => ?_)
      obtain ⟨rfl, rfl, rfl⟩ := sj3 hf
      exact retM C0 (narI _) hQ hP hD hS d_Face_bar_22
def f_Face_doing (sF : PW) (sH : PW) (a1 : Int32) (a2 : Int32) : Option (Int32 × PW × PW) :=
  bd (f_Face_within a1 (5 : Int32)) (fun x1 => (if x1 = 0 then bd2 (f_Face_refuseBad sF (-2 : Int32)) (fun x4 sF5 => some (x4, sF5, sH)) else bd (f_Face_within a2 (20 : Int32)) (fun x7 => (if x7 = 0 then bd2 (f_Face_refuseBad sF (-2 : Int32)) (fun x17 sF18 => some (x17, sF18, sH)) else (if (sH 12 0) < (6 : Int32) then bd2 (f_House_addDoing sH a1 a2) (fun x11 sH12 => some (x11, sF, sH12)) else bd2 (f_Face_refuseFull sF) (fun x14 sF15 => some (x14, sF15, sH)))))))
set_option maxHeartbeats 4000000 in
set_option maxRecDepth 100000 in
theorem c_Face_doing (l : Launch) (D : va_G) (ty : Nat → ClassId) (fA rA cA hA kA : Nat → Nat) (pv : Value) (sz : Nat) (sF : PW) (sH : PW) (a1 : Int32) (a2 : Int32) (rr : Int32) (tF : PW) (tH : PW) (hf : f_Face_doing sF sH a1 a2 = some (rr, tF, tH)) : Met l y_Face_doing (Cond.code y_Face_doing prog_1_method_5_code 3 ((Option.some FieldType.int)) :: lw_ok) { frames := 1, cells := 0, slots := 0, locals := 22 } (PcM D ty [.ref (fA 0), .int a1, .int a2] sz (L_fh ty fA rA cA hA kA pv sF sH)) (QM D (L_fh ty fA rA cA hA kA pv tF tH) (va_A (L_fh ty fA rA cA hA kA pv sF sH) sz) (some (.int rr))) 0 0 (va_A (L_fh ty fA rA cA hA kA pv sF sH) sz) := by
  refine hdM (by decide) (Nat.le_of_ble_eq_true rfl) ?_
  intro p e s m below meth c ls R args Q A C0 hR hQ hnm hAq hP hK hD hS hl
  obtain ⟨hx, hb, hr, hlk, hml, hown, htt⟩ := id C0
  have hl : lv_has ls 3 [(0, .ref (fA 0)), (1, .int a1), (2, .int a2)] := hl
  generalize hH0 : s.heap = H at hP hS ⊢
  have hS : va_S A s.heap H [] := by rw [hH0]; exact hS
  unfold f_Face_doing at hf
  refine lv_iload_n hx hb d_Face_doing_0 rfl (lv_at hl 1 rfl) ?_
  refine lv_iconst (v := (5 : Int32)) hx hb d_Face_doing_1 (by decide) ?_
  obtain ⟨x1, h2, hf⟩ := bdE hf
  refine scR (rest := []) C0 (c_Face_within l D ty a1 (5 : Int32) x1 h2) k_234 cal_Face_within hK (va_P_nil) ⟨by rw [hR]; decide, by rw [hR]; decide⟩ rfl rfl rfl hl.1 rfl (Nat.le_of_ble_eq_true rfl) d_Face_doing_2 ⟨Nat.zero_le _, Nat.zero_le _⟩ rfl ?_
  refine lv_if_eq (tgt := 17) hx hb d_Face_doing_5 (by decide) (fun c3 => ?_) (fun c3 => ?_)
  · replace hf := iteT c3 hf
    refine lv_aload_n hx hb d_Face_doing_17 rfl (lv_at hl 0 rfl) ?_
    refine lv_bipush (v := (-2 : Int32)) hx hb d_Face_doing_18 (by decide) ?_
    obtain ⟨x4, sF5, h6, hf⟩ := bd2E hf
    refine vM (Lc := (L_f ty fA rA cA hA pv sF)) (Lc' := (L_f ty fA rA cA hA pv sF5)) (L' := (L_fh ty fA rA cA hA kA pv sF5 sH)) (q0 := 0) (ci := 10) (rest := []) C0 (c_Face_refuseBad l D ty fA rA cA hA pv H.size sF (-2 : Int32) x4 sF5 h6) k_237 cal_Face_refuseBad hK hP hD hS hAq [0] [1, 2, 3, 4, 5, 6, 7] [7, 0, 1, 2, 3, 4, 5, 6] [(hA 0, .inr (6, [.ref (kA 0), .ref (hA 2), .ref (hA 3), .ref (hA 4), .ref (hA 5), .ref (hA 6), .ref (hA 7), .int (sH 7 0), .int (sH 8 0), .int (sH 9 0), .int (sH 10 0), .int (sH 11 0), .int (sH 12 0), .int (sH 13 0), .int (sH 14 0)])), (hA 2, .inl (ty 0, 2, .inl (sH 1))), (hA 3, .inl (ty 0, 2, .inl (sH 2))), (hA 4, .inl (ty 0, 6, .inl (sH 3))), (hA 5, .inl (ty 0, 6, .inl (sH 4))), (hA 6, .inl (ty 0, 30, .inl (sH 5))), (hA 7, .inl (ty 0, 32, .inl (sH 6)))] rfl rfl (by decide) (by decide) (by decide) (by decide) rfl rfl rfl rfl ⟨by rw [hR]; decide, by rw [hR]; decide⟩ rfl rfl rfl hl.1 rfl (Nat.le_of_ble_eq_true rfl) d_Face_doing_20 ⟨by rw [hR]; decide, by rw [hR]; decide⟩ rfl (fun H locs hP hD hS => ?_)
    obtain ⟨rfl, rfl, rfl⟩ := sj3 hf
    exact retM C0 (narI _) hQ hP hD hS d_Face_doing_23
  · replace hf := iteF c3 hf
    refine lv_iload_n hx hb d_Face_doing_8 rfl (lv_at hl 2 rfl) ?_
    refine lv_bipush (v := (20 : Int32)) hx hb d_Face_doing_9 (by decide) ?_
    obtain ⟨x7, h8, hf⟩ := bdE hf
    refine scR (rest := []) C0 (c_Face_within l D ty a2 (20 : Int32) x7 h8) k_234 cal_Face_within hK (va_P_nil) ⟨by rw [hR]; decide, by rw [hR]; decide⟩ rfl rfl rfl hl.1 rfl (Nat.le_of_ble_eq_true rfl) d_Face_doing_11 ⟨Nat.zero_le _, Nat.zero_le _⟩ rfl ?_
    refine lv_if_ne (tgt := 24) hx hb d_Face_doing_14 (by decide) (fun c9 => ?_) (fun c9 => ?_)
    · replace hf := iteF c9 hf
      refine lv_aload_n hx hb d_Face_doing_24 rfl (lv_at hl 0 rfl) ?_
      refine va_get (D := D) (ci := 10) (v := .ref (hA 0)) (C := "BedFrontier") (T := T_Face) (N := 10) hx hb htt i_Face hown hK.1 hP 0 rfl rfl 0 (by decide) (htt _ k_199) (fun _ h9 => h9) rfl d_Face_doing_25 ?_
      refine va_get (D := D) (ci := 6) (v := .int (sH 12 0)) (C := "BedFrontier$House") (T := T_House) (N := 15) hx hb htt i_House hown hK.1 hP 1 rfl rfl 12 (by decide) (htt _ k_112) (fun _ h9 => h9) rfl d_Face_doing_28 ?_
      refine lv_bipush (v := (6 : Int32)) hx hb d_Face_doing_31 (by decide) ?_
      refine lv_icmp_lt (tgt := 41) hx hb d_Face_doing_33 (by decide) (fun c10 => ?_) (fun c10 => ?_)
      · replace hf := iteT c10 hf
        refine lv_aload_n hx hb d_Face_doing_41 rfl (lv_at hl 0 rfl) ?_
        refine va_get (D := D) (ci := 10) (v := .ref (hA 0)) (C := "BedFrontier") (T := T_Face) (N := 10) hx hb htt i_Face hown hK.1 hP 0 rfl rfl 0 (by decide) (htt _ k_199) (fun _ h9 => h9) rfl d_Face_doing_42 ?_
        refine lv_iload_n hx hb d_Face_doing_45 rfl (lv_at hl 1 rfl) ?_
        refine lv_iload_n hx hb d_Face_doing_46 rfl (lv_at hl 2 rfl) ?_
        obtain ⟨x11, sH12, h13, hf⟩ := bd2E hf
        refine vM (Lc := (L_h ty hA kA sH)) (Lc' := (L_h ty hA kA sH12)) (L' := (L_fh ty fA rA cA hA kA pv sF sH12)) (q0 := 0) (ci := 6) (rest := []) C0 (c_House_addDoing l D ty hA kA H.size sH a1 a2 x11 sH12 h13) k_262 cal_House_addDoing hK hP hD hS hAq [1, 2, 3, 4, 5, 6, 7] [0] [0, 1, 2, 3, 4, 5, 6, 7] [(fA 0, .inr (10, [.ref (hA 0), .ref (rA 0), .ref (cA 0), .ref (fA 4), pv, .int (sF 5 0), .int (sF 6 0), .int (sF 7 0), .int (sF 8 0), .int (sF 9 0)]))] rfl rfl (by decide) (by decide) (by decide) (by decide) rfl rfl rfl rfl ⟨by rw [hR]; decide, by rw [hR]; decide⟩ rfl rfl rfl hl.1 rfl (Nat.le_of_ble_eq_true rfl) d_Face_doing_47 ⟨by rw [hR]; decide, by rw [hR]; decide⟩ rfl (fun H locs hP hD hS => ?_)
        obtain ⟨rfl, rfl, rfl⟩ := sj3 hf
        exact retM C0 (narI _) hQ hP hD hS d_Face_doing_50
      · replace hf := iteF c10 hf
        refine lv_aload_n hx hb d_Face_doing_36 rfl (lv_at hl 0 rfl) ?_
        obtain ⟨x14, sF15, h16, hf⟩ := bd2E hf
        refine vM (Lc := (L_f ty fA rA cA hA pv sF)) (Lc' := (L_f ty fA rA cA hA pv sF15)) (L' := (L_fh ty fA rA cA hA kA pv sF15 sH)) (q0 := 0) (ci := 10) (rest := []) C0 (c_Face_refuseFull l D ty fA rA cA hA pv H.size sF x14 sF15 h16) k_258 cal_Face_refuseFull hK hP hD hS hAq [0] [1, 2, 3, 4, 5, 6, 7] [7, 0, 1, 2, 3, 4, 5, 6] [(hA 0, .inr (6, [.ref (kA 0), .ref (hA 2), .ref (hA 3), .ref (hA 4), .ref (hA 5), .ref (hA 6), .ref (hA 7), .int (sH 7 0), .int (sH 8 0), .int (sH 9 0), .int (sH 10 0), .int (sH 11 0), .int (sH 12 0), .int (sH 13 0), .int (sH 14 0)])), (hA 2, .inl (ty 0, 2, .inl (sH 1))), (hA 3, .inl (ty 0, 2, .inl (sH 2))), (hA 4, .inl (ty 0, 6, .inl (sH 3))), (hA 5, .inl (ty 0, 6, .inl (sH 4))), (hA 6, .inl (ty 0, 30, .inl (sH 5))), (hA 7, .inl (ty 0, 32, .inl (sH 6)))] rfl rfl (by decide) (by decide) (by decide) (by decide) rfl rfl rfl rfl ⟨by rw [hR]; decide, by rw [hR]; decide⟩ rfl rfl rfl hl.1 rfl (Nat.le_of_ble_eq_true rfl) d_Face_doing_37 ⟨by rw [hR]; decide, by rw [hR]; decide⟩ rfl (fun H locs hP hD hS => ?_)
        obtain ⟨rfl, rfl, rfl⟩ := sj3 hf
        exact retM C0 (narI _) hQ hP hD hS d_Face_doing_40
    · replace hf := iteT c9 hf
      refine lv_aload_n hx hb d_Face_doing_17 rfl (lv_at hl 0 rfl) ?_
      refine lv_bipush (v := (-2 : Int32)) hx hb d_Face_doing_18 (by decide) ?_
      obtain ⟨x17, sF18, h19, hf⟩ := bd2E hf
      refine vM (Lc := (L_f ty fA rA cA hA pv sF)) (Lc' := (L_f ty fA rA cA hA pv sF18)) (L' := (L_fh ty fA rA cA hA kA pv sF18 sH)) (q0 := 0) (ci := 10) (rest := []) C0 (c_Face_refuseBad l D ty fA rA cA hA pv H.size sF (-2 : Int32) x17 sF18 h19) k_237 cal_Face_refuseBad hK hP hD hS hAq [0] [1, 2, 3, 4, 5, 6, 7] [7, 0, 1, 2, 3, 4, 5, 6] [(hA 0, .inr (6, [.ref (kA 0), .ref (hA 2), .ref (hA 3), .ref (hA 4), .ref (hA 5), .ref (hA 6), .ref (hA 7), .int (sH 7 0), .int (sH 8 0), .int (sH 9 0), .int (sH 10 0), .int (sH 11 0), .int (sH 12 0), .int (sH 13 0), .int (sH 14 0)])), (hA 2, .inl (ty 0, 2, .inl (sH 1))), (hA 3, .inl (ty 0, 2, .inl (sH 2))), (hA 4, .inl (ty 0, 6, .inl (sH 3))), (hA 5, .inl (ty 0, 6, .inl (sH 4))), (hA 6, .inl (ty 0, 30, .inl (sH 5))), (hA 7, .inl (ty 0, 32, .inl (sH 6)))] rfl rfl (by decide) (by decide) (by decide) (by decide) rfl rfl rfl rfl ⟨by rw [hR]; decide, by rw [hR]; decide⟩ rfl rfl rfl hl.1 rfl (Nat.le_of_ble_eq_true rfl) d_Face_doing_20 ⟨by rw [hR]; decide, by rw [hR]; decide⟩ rfl (fun H locs hP hD hS => ?_)
      obtain ⟨rfl, rfl, rfl⟩ := sj3 hf
      exact retM C0 (narI _) hQ hP hD hS d_Face_doing_23
def f_Face_type (sF : PW) (sR : PW) (a1 : Int32) : Option (Int32 × PW × PW) :=
  bd (f_Face_within a1 (127 : Int32)) (fun x1 => (if x1 = 0 then bd2 (f_Face_refuseBad sF (-2 : Int32)) (fun x11 sF12 => some (x11, sF12, sR)) else (if (sR 2 0) < (150 : Int32) then bd2 (f_Reader_append sR a1) (fun x5 sR6 => some (x5, sF, sR6)) else bd2 (f_Face_refuseFull sF) (fun x8 sF9 => some (x8, sF9, sR)))))
set_option maxHeartbeats 4000000 in
set_option maxRecDepth 100000 in
theorem c_Face_type (l : Launch) (D : va_G) (ty : Nat → ClassId) (fA rA gA cA hA : Nat → Nat) (pv : Value) (sz : Nat) (sF : PW) (sR : PW) (a1 : Int32) (rr : Int32) (tF : PW) (tR : PW) (hf : f_Face_type sF sR a1 = some (rr, tF, tR)) : Met l y_Face_type (Cond.code y_Face_type prog_1_method_6_code 2 ((Option.some FieldType.int)) :: lw_ok) { frames := 1, cells := 0, slots := 0, locals := 21 } (PcM D ty [.ref (fA 0), .int a1] sz (L_fr ty fA rA gA cA hA pv sF sR)) (QM D (L_fr ty fA rA gA cA hA pv tF tR) (va_A (L_fr ty fA rA gA cA hA pv sF sR) sz) (some (.int rr))) 0 0 (va_A (L_fr ty fA rA gA cA hA pv sF sR) sz) := by
  refine hdM (by decide) (Nat.le_of_ble_eq_true rfl) ?_
  intro p e s m below meth c ls R args Q A C0 hR hQ hnm hAq hP hK hD hS hl
  obtain ⟨hx, hb, hr, hlk, hml, hown, htt⟩ := id C0
  have hl : lv_has ls 2 [(0, .ref (fA 0)), (1, .int a1)] := hl
  generalize hH0 : s.heap = H at hP hS ⊢
  have hS : va_S A s.heap H [] := by rw [hH0]; exact hS
  unfold f_Face_type at hf
  refine lv_iload_n hx hb d_Face_type_0 rfl (lv_at hl 1 rfl) ?_
  refine lv_bipush (v := (127 : Int32)) hx hb d_Face_type_1 (by decide) ?_
  obtain ⟨x1, h2, hf⟩ := bdE hf
  refine scR (rest := []) C0 (c_Face_within l D ty a1 (127 : Int32) x1 h2) k_234 cal_Face_within hK (va_P_nil) ⟨by rw [hR]; decide, by rw [hR]; decide⟩ rfl rfl rfl hl.1 rfl (Nat.le_of_ble_eq_true rfl) d_Face_type_3 ⟨Nat.zero_le _, Nat.zero_le _⟩ rfl ?_
  refine lv_if_ne (tgt := 16) hx hb d_Face_type_6 (by decide) (fun c3 => ?_) (fun c3 => ?_)
  · replace hf := iteF c3 hf
    refine lv_aload_n hx hb d_Face_type_16 rfl (lv_at hl 0 rfl) ?_
    refine va_get (D := D) (ci := 10) (v := .ref (rA 0)) (C := "BedFrontier") (T := T_Face) (N := 10) hx hb htt i_Face hown hK.1 hP 0 rfl rfl 1 (by decide) (htt _ k_200) (fun _ h9 => h9) rfl d_Face_type_17 ?_
    refine va_get (D := D) (ci := 7) (v := .int (sR 2 0)) (C := "BedFrontier$Reader") (T := T_Reader) (N := 7) hx hb htt i_Reader hown hK.1 hP 1 rfl rfl 2 (by decide) (htt _ k_164) (fun _ h9 => h9) rfl d_Face_type_20 ?_
    refine lv_sipush (v := (150 : Int32)) hx hb d_Face_type_23 (by decide) ?_
    refine lv_icmp_lt (tgt := 34) hx hb d_Face_type_26 (by decide) (fun c4 => ?_) (fun c4 => ?_)
    · replace hf := iteT c4 hf
      refine lv_aload_n hx hb d_Face_type_34 rfl (lv_at hl 0 rfl) ?_
      refine va_get (D := D) (ci := 10) (v := .ref (rA 0)) (C := "BedFrontier") (T := T_Face) (N := 10) hx hb htt i_Face hown hK.1 hP 0 rfl rfl 1 (by decide) (htt _ k_200) (fun _ h9 => h9) rfl d_Face_type_35 ?_
      refine lv_iload_n hx hb d_Face_type_38 rfl (lv_at hl 1 rfl) ?_
      obtain ⟨x5, sR6, h7, hf⟩ := bd2E hf
      refine vM (Lc := (L_r ty rA gA sR)) (Lc' := (L_r ty rA gA sR6)) (L' := (L_fr ty fA rA gA cA hA pv sF sR6)) (q0 := 0) (ci := 7) (rest := []) C0 (c_Reader_append l D ty rA gA H.size sR a1 x5 sR6 h7) k_270 cal_Reader_append hK hP hD hS hAq [1, 2] [0] [0, 1, 2] [(fA 0, .inr (10, [.ref (hA 0), .ref (rA 0), .ref (cA 0), .ref (fA 4), pv, .int (sF 5 0), .int (sF 6 0), .int (sF 7 0), .int (sF 8 0), .int (sF 9 0)]))] rfl rfl (by decide) (by decide) (by decide) (by decide) rfl rfl rfl rfl ⟨by rw [hR]; decide, by rw [hR]; decide⟩ rfl rfl rfl hl.1 rfl (Nat.le_of_ble_eq_true rfl) d_Face_type_39 ⟨by rw [hR]; decide, by rw [hR]; decide⟩ rfl (fun H locs hP hD hS => ?_)
      obtain ⟨rfl, rfl, rfl⟩ := sj3 hf
      exact retM C0 (narI _) hQ hP hD hS d_Face_type_42
    · replace hf := iteF c4 hf
      refine lv_aload_n hx hb d_Face_type_29 rfl (lv_at hl 0 rfl) ?_
      obtain ⟨x8, sF9, h10, hf⟩ := bd2E hf
      refine vM (Lc := (L_f ty fA rA cA hA pv sF)) (Lc' := (L_f ty fA rA cA hA pv sF9)) (L' := (L_fr ty fA rA gA cA hA pv sF9 sR)) (q0 := 0) (ci := 10) (rest := []) C0 (c_Face_refuseFull l D ty fA rA cA hA pv H.size sF x8 sF9 h10) k_258 cal_Face_refuseFull hK hP hD hS hAq [0] [1, 2] [2, 0, 1] [(rA 0, .inr (7, [.ref (gA 0), .ref (rA 2), .int (sR 2 0), .int (sR 3 0), .int (sR 4 0), .int (sR 5 0), .int (sR 6 0)])), (rA 2, .inl (ty 1, 150, .inl (sR 1)))] rfl rfl (by decide) (by decide) (by decide) (by decide) rfl rfl rfl rfl ⟨by rw [hR]; decide, by rw [hR]; decide⟩ rfl rfl rfl hl.1 rfl (Nat.le_of_ble_eq_true rfl) d_Face_type_30 ⟨by rw [hR]; decide, by rw [hR]; decide⟩ rfl (fun H locs hP hD hS => ?_)
      obtain ⟨rfl, rfl, rfl⟩ := sj3 hf
      exact retM C0 (narI _) hQ hP hD hS d_Face_type_33
  · replace hf := iteT c3 hf
    refine lv_aload_n hx hb d_Face_type_9 rfl (lv_at hl 0 rfl) ?_
    refine lv_bipush (v := (-2 : Int32)) hx hb d_Face_type_10 (by decide) ?_
    obtain ⟨x11, sF12, h13, hf⟩ := bd2E hf
    refine vM (Lc := (L_f ty fA rA cA hA pv sF)) (Lc' := (L_f ty fA rA cA hA pv sF12)) (L' := (L_fr ty fA rA gA cA hA pv sF12 sR)) (q0 := 0) (ci := 10) (rest := []) C0 (c_Face_refuseBad l D ty fA rA cA hA pv H.size sF (-2 : Int32) x11 sF12 h13) k_237 cal_Face_refuseBad hK hP hD hS hAq [0] [1, 2] [2, 0, 1] [(rA 0, .inr (7, [.ref (gA 0), .ref (rA 2), .int (sR 2 0), .int (sR 3 0), .int (sR 4 0), .int (sR 5 0), .int (sR 6 0)])), (rA 2, .inl (ty 1, 150, .inl (sR 1)))] rfl rfl (by decide) (by decide) (by decide) (by decide) rfl rfl rfl rfl ⟨by rw [hR]; decide, by rw [hR]; decide⟩ rfl rfl rfl hl.1 rfl (Nat.le_of_ble_eq_true rfl) d_Face_type_12 ⟨by rw [hR]; decide, by rw [hR]; decide⟩ rfl (fun H locs hP hD hS => ?_)
    obtain ⟨rfl, rfl, rfl⟩ := sj3 hf
    exact retM C0 (narI _) hQ hP hD hS d_Face_type_15
def f_Face_clear (sF : PW) (sR : PW) : Option (Int32 × PW) :=
  nm (sR 2 0) (fun x1 => nm (up sR 2 (fun _ => (0 : Int32))) (fun sR2 => some (x1, sR2)))
set_option maxHeartbeats 4000000 in
set_option maxRecDepth 100000 in
theorem c_Face_clear (l : Launch) (D : va_G) (ty : Nat → ClassId) (fA rA gA cA hA : Nat → Nat) (pv : Value) (sz : Nat) (sF : PW) (sR : PW) (rr : Int32) (tR : PW) (hf : f_Face_clear sF sR = some (rr, tR)) : Met l y_Face_clear (Cond.code y_Face_clear prog_1_method_7_code 2 ((Option.some FieldType.int)) :: lw_ok) { frames := 0, cells := 0, slots := 0, locals := 0 } (PcM D ty [.ref (fA 0)] sz (L_fr ty fA rA gA cA hA pv sF sR)) (QM D (L_fr ty fA rA gA cA hA pv sF tR) (va_A (L_fr ty fA rA gA cA hA pv sF sR) sz) (some (.int rr))) 0 0 (va_A (L_fr ty fA rA gA cA hA pv sF sR) sz) := by
  refine hdM (by decide) (Nat.le_of_ble_eq_true rfl) ?_
  intro p e s m below meth c ls R args Q A C0 hR hQ hnm hAq hP hK hD hS hl
  obtain ⟨hx, hb, hr, hlk, hml, hown, htt⟩ := id C0
  have hl : lv_has ls 2 [(0, .ref (fA 0))] := hl
  generalize hH0 : s.heap = H at hP hS ⊢
  have hS : va_S A s.heap H [] := by rw [hH0]; exact hS
  unfold f_Face_clear at hf
  refine lv_aload_n hx hb d_Face_clear_0 rfl (lv_at hl 0 rfl) ?_
  refine va_get (D := D) (ci := 10) (v := .ref (rA 0)) (C := "BedFrontier") (T := T_Face) (N := 10) hx hb htt i_Face hown hK.1 hP 0 rfl rfl 1 (by decide) (htt _ k_200) (fun _ h9 => h9) rfl d_Face_clear_1 ?_
  refine va_get (D := D) (ci := 7) (v := .int (sR 2 0)) (C := "BedFrontier$Reader") (T := T_Reader) (N := 7) hx hb htt i_Reader hown hK.1 hP 1 rfl rfl 2 (by decide) (htt _ k_164) (fun _ h9 => h9) rfl d_Face_clear_4 ?_
  refine lv_topi (fun x1 e_x1 => ?_)
  replace hf := nmE hf e_x1
  refine lv_istore_n (lv' := [(1, .int x1), (0, .ref (fA 0))]) hx hb d_Face_clear_7 rfl hl (by decide) rfl (fun ls hl => ?_)
  refine lv_aload_n hx hb d_Face_clear_8 rfl (lv_at hl 1 rfl) ?_
  refine va_get (D := D) (ci := 10) (v := .ref (rA 0)) (C := "BedFrontier") (T := T_Face) (N := 10) hx hb htt i_Face hown hK.1 hP 0 rfl rfl 1 (by decide) (htt _ k_200) (fun _ h9 => h9) rfl d_Face_clear_9 ?_
  refine lv_iconst (v := (0 : Int32)) hx hb d_Face_clear_12 (by decide) ?_
  refine va_put (D := D) (ci := 7) (v := .int (0 : Int32)) (ty := .int) (C := "BedFrontier$Reader") (T := T_Reader) (N := 7) hx hb htt i_Reader t_Reader t_Reader_ok n_Reader hown hK.1 hP hD hS 1 rfl rfl 2 (by decide) (htt _ k_164) (fun _ h9 => h9) rfl pfI rfl rfl (Nat.le_of_ble_eq_true rfl) d_Face_clear_13 (fun H locs hP hD hS => ?_)
  obtain ⟨sR2, e_sR2⟩ : ∃ z : PW, z = up sR 2 (fun _ => (0 : Int32)) := ⟨_, rfl⟩
  replace hf := nmE hf e_sR2
  have hP : va_P D vwCl (L_fr ty fA rA gA cA hA pv sF sR2) H := by rw [e_sR2]; exact hP
  have hD : va_D A (L_fr ty fA rA gA cA hA pv sF sR2) := by rw [e_sR2]; exact hD
  refine lv_iload_n hx hb d_Face_clear_16 rfl (lv_at hl 0 rfl) ?_
  obtain ⟨rfl, rfl⟩ := sj2 hf
  exact retM C0 (narI _) hQ hP hD hS d_Face_clear_17
def f_Face_read (sF : PW) (sR : PW) (sG : PW) (sH : PW) : Option (Int32 × PW × PW × PW) :=
  bd3 (f_Reader_parse sR sG) (fun x1 sR2 sG3 => (if x1 ≤ 0 then some (x1, sR2, sG3, sH) else bd (f_House_takeFrom sH sG3) (fun sH6 => some (x1, sR2, sG3, sH6))))
set_option maxHeartbeats 4000000 in
set_option maxRecDepth 100000 in
theorem c_Face_read (l : Launch) (D : va_G) (ty : Nat → ClassId) (fA rA gA cA hA kA : Nat → Nat) (pv : Value) (aK aV : Nat → Nat) (sz : Nat) (sF : PW) (sR : PW) (sG : PW) (sH : PW) (rr : Int32) (tR : PW) (tG : PW) (tH : PW) (hf : f_Face_read sF sR sG sH = some (rr, tR, tG, tH)) : Met l y_Face_read (Cond.code y_Face_read prog_1_method_8_code 2 ((Option.some FieldType.int)) :: lw_ok) { frames := 7, cells := 0, slots := 0, locals := 150 } (PcMT D ty aK aV [.ref (fA 0)] sz (L_frgh ty fA rA gA cA hA kA pv sF sR sG sH)) (QM D (L_frgh ty fA rA gA cA hA kA pv sF tR tG tH) (va_A (L_frgh ty fA rA gA cA hA kA pv sF sR sG sH) sz) (some (.int rr))) 0 0 (va_A (L_frgh ty fA rA gA cA hA kA pv sF sR sG sH) sz) := by
  refine hdMT (by decide) (Nat.le_of_ble_eq_true rfl) ?_
  intro p e s m below meth c ls R args Q A C0 hR hQ hnm hAq hP hK hD hS hT hl
  obtain ⟨hx, hb, hr, hlk, hml, hown, htt⟩ := id C0
  have hl : lv_has ls 2 [(0, .ref (fA 0))] := hl
  generalize hH0 : s.heap = H at hP hS ⊢
  have hS : va_S A s.heap H [] := by rw [hH0]; exact hS
  unfold f_Face_read at hf
  refine lv_aload_n hx hb d_Face_read_0 rfl (lv_at hl 0 rfl) ?_
  refine va_get (D := D) (ci := 10) (v := .ref (rA 0)) (C := "BedFrontier") (T := T_Face) (N := 10) hx hb htt i_Face hown hK.1 hP 0 rfl rfl 1 (by decide) (htt _ k_200) (fun _ h9 => h9) rfl d_Face_read_1 ?_
  obtain ⟨x1, sR2, sG3, h4, hf⟩ := bd3E hf
  refine tvM (Lc := (L_rg ty rA gA kA sR sG)) (Lc' := (L_rg ty rA gA kA sR2 sG3)) (L' := (L_frgh ty fA rA gA cA hA kA pv sF sR2 sG3 sH)) (q0 := 0) (ci := 7) (rest := []) C0 (c_Reader_parse l D ty rA gA kA aK aV H.size sR sG x1 sR2 sG3 h4) k_282 cal_Reader_parse hK (hT.kept hS.2.1) hP hD hS hAq [1, 2, 3, 4, 5, 6, 7, 8, 9] [0, 10, 11, 12, 13, 14, 15, 16] [0, 8, 9, 10, 11, 12, 13, 14, 15, 16, 1, 2, 3, 4, 5, 6, 7] [(fA 0, .inr (10, [.ref (hA 0), .ref (rA 0), .ref (cA 0), .ref (fA 4), pv, .int (sF 5 0), .int (sF 6 0), .int (sF 7 0), .int (sF 8 0), .int (sF 9 0)])), (hA 0, .inr (6, [.ref (kA 0), .ref (hA 2), .ref (hA 3), .ref (hA 4), .ref (hA 5), .ref (hA 6), .ref (hA 7), .int (sH 7 0), .int (sH 8 0), .int (sH 9 0), .int (sH 10 0), .int (sH 11 0), .int (sH 12 0), .int (sH 13 0), .int (sH 14 0)])), (hA 2, .inl (ty 0, 2, .inl (sH 1))), (hA 3, .inl (ty 0, 2, .inl (sH 2))), (hA 4, .inl (ty 0, 6, .inl (sH 3))), (hA 5, .inl (ty 0, 6, .inl (sH 4))), (hA 6, .inl (ty 0, 30, .inl (sH 5))), (hA 7, .inl (ty 0, 32, .inl (sH 6)))] rfl rfl (by decide) (by decide) (by decide) (by decide) rfl rfl rfl rfl ⟨by rw [hR]; decide, by rw [hR]; decide⟩ rfl rfl rfl hl.1 rfl (Nat.le_of_ble_eq_true rfl) d_Face_read_4 ⟨by rw [hR]; decide, by rw [hR]; decide⟩ rfl (fun H locs hP hD hS => ?_)
  refine lv_istore_n (lv' := [(1, .int x1), (0, .ref (fA 0))]) hx hb d_Face_read_7 rfl hl (by decide) rfl (fun ls hl => ?_)
  refine lv_iload_n hx hb d_Face_read_8 rfl (lv_at hl 0 rfl) ?_
  refine lv_if_le (tgt := 26) hx hb d_Face_read_9 (by decide) (fun c5 => ?_) (fun c5 => ?_)
  · replace hf := iteT c5 hf
    refine lv_iload_n hx hb d_Face_read_26 rfl (lv_at hl 0 rfl) ?_
    obtain ⟨rfl, rfl, rfl, rfl⟩ := sj4 hf
    exact retM C0 (narI _) hQ hP hD hS d_Face_read_27
  · replace hf := iteF c5 hf
    refine lv_aload_n hx hb d_Face_read_12 rfl (lv_at hl 1 rfl) ?_
    refine va_get (D := D) (ci := 10) (v := .ref (hA 0)) (C := "BedFrontier") (T := T_Face) (N := 10) hx hb htt i_Face hown hK.1 hP 0 rfl rfl 0 (by decide) (htt _ k_199) (fun _ h9 => h9) rfl d_Face_read_13 ?_
    refine lv_aload_n hx hb d_Face_read_16 rfl (lv_at hl 1 rfl) ?_
    refine va_get (D := D) (ci := 10) (v := .ref (rA 0)) (C := "BedFrontier") (T := T_Face) (N := 10) hx hb htt i_Face hown hK.1 hP 0 rfl rfl 1 (by decide) (htt _ k_200) (fun _ h9 => h9) rfl d_Face_read_17 ?_
    refine va_get (D := D) (ci := 7) (v := .ref (gA 0)) (C := "BedFrontier$Reader") (T := T_Reader) (N := 7) hx hb htt i_Reader hown hK.1 hP 1 rfl rfl 0 (by decide) (htt _ k_161) (fun _ h9 => h9) rfl d_Face_read_20 ?_
    obtain ⟨sH6, h7, hf⟩ := bdE hf
    refine vM (Lc := (L_ho ty hA gA kA sH sG3)) (Lc' := (L_ho ty hA gA kA sH6 sG3)) (L' := (L_frgh ty fA rA gA cA hA kA pv sF sR2 sG3 sH6)) (q0 := 0) (ci := 6) (rest := []) C0 (c_House_takeFrom l D ty hA gA kA H.size sH sG3 sH6 h7) k_381 cal_House_takeFrom hK hP hD hS hAq [10, 11, 12, 13, 14, 15, 16, 3, 4, 5, 6, 7, 8, 9] [0, 1, 2] [0, 1, 2, 10, 11, 12, 13, 14, 15, 16, 3, 4, 5, 6, 7, 8, 9] [(fA 0, .inr (10, [.ref (hA 0), .ref (rA 0), .ref (cA 0), .ref (fA 4), pv, .int (sF 5 0), .int (sF 6 0), .int (sF 7 0), .int (sF 8 0), .int (sF 9 0)])), (rA 0, .inr (7, [.ref (gA 0), .ref (rA 2), .int (sR2 2 0), .int (sR2 3 0), .int (sR2 4 0), .int (sR2 5 0), .int (sR2 6 0)])), (rA 2, .inl (ty 1, 150, .inl (sR2 1)))] rfl rfl (by decide) (by decide) (by decide) (by decide) rfl rfl rfl rfl ⟨by rw [hR]; decide, by rw [hR]; decide⟩ rfl rfl rfl hl.1 rfl (Nat.le_of_ble_eq_true rfl) d_Face_read_23 ⟨by rw [hR]; decide, by rw [hR]; decide⟩ rfl (fun H locs hP hD hS => ?_)
    refine lv_iload_n hx hb d_Face_read_26 rfl (lv_at hl 0 rfl) ?_
    obtain ⟨rfl, rfl, rfl, rfl⟩ := sj4 hf
    exact retM C0 (narI _) hQ hP hD hS d_Face_read_27
def f_Face_does (sF : PW) (sH : PW) (a1 : Int32) (a2 : Int32) : Option (Int32 × PW × PW) :=
  bd (f_Face_isDoing sF sH a1) (fun x1 => (if x1 = 0 then bd2 (f_Face_refuseBad sF (-2 : Int32)) (fun x4 sF5 => some (x4, sF5, sH)) else bd (f_Face_isSide a2) (fun x7 => (if x7 = 0 then bd2 (f_Face_refuseBad sF (-2 : Int32)) (fun x19 sF20 => some (x19, sF20, sH)) else bd (f_House_lets sH a1 a2 (sH 10 0)) (fun x10 => (if x10 = 0 then bd2 (f_Face_refuseNo sF) (fun x16 sF17 => some (x16, sF17, sH)) else bd2 (f_House_perform sH a1 a2) (fun x13 sH14 => some (x13, sF, sH14))))))))
set_option maxHeartbeats 4000000 in
set_option maxRecDepth 100000 in
theorem c_Face_does (l : Launch) (D : va_G) (ty : Nat → ClassId) (fA rA cA hA kA : Nat → Nat) (pv : Value) (sz : Nat) (sF : PW) (sH : PW) (a1 : Int32) (a2 : Int32) (rr : Int32) (tF : PW) (tH : PW) (hf : f_Face_does sF sH a1 a2 = some (rr, tF, tH)) : Met l y_Face_does (Cond.code y_Face_does prog_1_method_9_code 3 ((Option.some FieldType.int)) :: lw_ok) { frames := 6, cells := 0, slots := 0, locals := 166 } (PcM D ty [.ref (fA 0), .int a1, .int a2] sz (L_fhk ty fA rA cA hA kA pv sF sH)) (QM D (L_fhk ty fA rA cA hA kA pv tF tH) (va_A (L_fhk ty fA rA cA hA kA pv sF sH) sz) (some (.int rr))) 0 0 (va_A (L_fhk ty fA rA cA hA kA pv sF sH) sz) := by
  refine hdM (by decide) (Nat.le_of_ble_eq_true rfl) ?_
  intro p e s m below meth c ls R args Q A C0 hR hQ hnm hAq hP hK hD hS hl
  obtain ⟨hx, hb, hr, hlk, hml, hown, htt⟩ := id C0
  have hl : lv_has ls 3 [(0, .ref (fA 0)), (1, .int a1), (2, .int a2)] := hl
  generalize hH0 : s.heap = H at hP hS ⊢
  have hS : va_S A s.heap H [] := by rw [hH0]; exact hS
  unfold f_Face_does at hf
  refine lv_aload_n hx hb d_Face_does_0 rfl (lv_at hl 0 rfl) ?_
  refine lv_iload_n hx hb d_Face_does_1 rfl (lv_at hl 1 rfl) ?_
  obtain ⟨x1, h2, hf⟩ := bdE hf
  refine vR (q0 := 0) (ci := 10) (rest := []) C0 (c_Face_isDoing l D ty fA rA cA hA kA pv sF sH a1 x1 h2) k_392 cal_Face_isDoing hK (hP.sub (ws' := (L_fh ty fA rA cA hA kA pv sF sH)) [0, 1, 2, 3, 4, 5, 6, 7] rfl) rfl rfl rfl ⟨by rw [hR]; decide, by rw [hR]; decide⟩ rfl rfl rfl hl.1 rfl (Nat.le_of_ble_eq_true rfl) d_Face_does_2 ⟨Nat.zero_le _, Nat.zero_le _⟩ rfl ?_
  refine lv_if_eq (tgt := 15) hx hb d_Face_does_5 (by decide) (fun c3 => ?_) (fun c3 => ?_)
  · replace hf := iteT c3 hf
    refine lv_aload_n hx hb d_Face_does_15 rfl (lv_at hl 0 rfl) ?_
    refine lv_bipush (v := (-2 : Int32)) hx hb d_Face_does_16 (by decide) ?_
    obtain ⟨x4, sF5, h6, hf⟩ := bd2E hf
    refine vM (Lc := (L_f ty fA rA cA hA pv sF)) (Lc' := (L_f ty fA rA cA hA pv sF5)) (L' := (L_fhk ty fA rA cA hA kA pv sF5 sH)) (q0 := 0) (ci := 10) (rest := []) C0 (c_Face_refuseBad l D ty fA rA cA hA pv H.size sF (-2 : Int32) x4 sF5 h6) k_237 cal_Face_refuseBad hK hP hD hS hAq [0] [1, 2, 3, 4, 5, 6, 7, 8, 9, 10, 11, 12, 13, 14] [14, 0, 1, 2, 3, 4, 5, 6, 7, 8, 9, 10, 11, 12, 13] [(hA 0, .inr (6, [.ref (kA 0), .ref (hA 2), .ref (hA 3), .ref (hA 4), .ref (hA 5), .ref (hA 6), .ref (hA 7), .int (sH 7 0), .int (sH 8 0), .int (sH 9 0), .int (sH 10 0), .int (sH 11 0), .int (sH 12 0), .int (sH 13 0), .int (sH 14 0)])), (hA 2, .inl (ty 0, 2, .inl (sH 1))), (hA 3, .inl (ty 0, 2, .inl (sH 2))), (hA 4, .inl (ty 0, 6, .inl (sH 3))), (hA 5, .inl (ty 0, 6, .inl (sH 4))), (hA 6, .inl (ty 0, 30, .inl (sH 5))), (hA 7, .inl (ty 0, 32, .inl (sH 6))), (kA 0, .inl (ty 3, 6, .inr (.inr (.inr (.inr (fun i => some (kA (i + 1)))))))), (kA 1, .inr (0, [])), (kA 2, .inr (1, [])), (kA 3, .inr (2, [])), (kA 4, .inr (3, [])), (kA 5, .inr (4, [])), (kA 6, .inr (5, []))] rfl rfl (by decide) (by decide) (by decide) (by decide) rfl rfl rfl rfl ⟨by rw [hR]; decide, by rw [hR]; decide⟩ rfl rfl rfl hl.1 rfl (Nat.le_of_ble_eq_true rfl) d_Face_does_18 ⟨by rw [hR]; decide, by rw [hR]; decide⟩ rfl (fun H locs hP hD hS => ?_)
    obtain ⟨rfl, rfl, rfl⟩ := sj3 hf
    exact retM C0 (narI _) hQ hP hD hS d_Face_does_21
  · replace hf := iteF c3 hf
    refine lv_iload_n hx hb d_Face_does_8 rfl (lv_at hl 2 rfl) ?_
    obtain ⟨x7, h8, hf⟩ := bdE hf
    refine scR (rest := []) C0 (c_Face_isSide l D ty a2 x7 h8) k_246 cal_Face_isSide hK (va_P_nil) ⟨by rw [hR]; decide, by rw [hR]; decide⟩ rfl rfl rfl hl.1 rfl (Nat.le_of_ble_eq_true rfl) d_Face_does_9 ⟨Nat.zero_le _, Nat.zero_le _⟩ rfl ?_
    refine lv_if_ne (tgt := 22) hx hb d_Face_does_12 (by decide) (fun c9 => ?_) (fun c9 => ?_)
    · replace hf := iteF c9 hf
      refine lv_aload_n hx hb d_Face_does_22 rfl (lv_at hl 0 rfl) ?_
      refine va_get (D := D) (ci := 10) (v := .ref (hA 0)) (C := "BedFrontier") (T := T_Face) (N := 10) hx hb htt i_Face hown hK.1 hP 0 rfl rfl 0 (by decide) (htt _ k_199) (fun _ h9 => h9) rfl d_Face_does_23 ?_
      refine lv_iload_n hx hb d_Face_does_26 rfl (lv_at hl 1 rfl) ?_
      refine lv_iload_n hx hb d_Face_does_27 rfl (lv_at hl 2 rfl) ?_
      refine lv_aload_n hx hb d_Face_does_28 rfl (lv_at hl 0 rfl) ?_
      refine va_get (D := D) (ci := 10) (v := .ref (hA 0)) (C := "BedFrontier") (T := T_Face) (N := 10) hx hb htt i_Face hown hK.1 hP 0 rfl rfl 0 (by decide) (htt _ k_199) (fun _ h9 => h9) rfl d_Face_does_29 ?_
      refine va_get (D := D) (ci := 6) (v := .int (sH 10 0)) (C := "BedFrontier$House") (T := T_House) (N := 15) hx hb htt i_House hown hK.1 hP 1 rfl rfl 10 (by decide) (htt _ k_109) (fun _ h9 => h9) rfl d_Face_does_32 ?_
      obtain ⟨x10, h11, hf⟩ := bdE hf
      refine vR (q0 := 0) (ci := 6) (rest := []) C0 (c_House_lets l D ty hA kA sH a1 a2 (sH 10 0) x10 h11) k_396 cal_House_lets hK (hP.sub (ws' := (L_hk ty hA kA sH)) [1, 2, 3, 4, 5, 6, 7, 8, 9, 10, 11, 12, 13, 14] rfl) rfl rfl rfl ⟨by rw [hR]; decide, by rw [hR]; decide⟩ rfl rfl rfl hl.1 rfl (Nat.le_of_ble_eq_true rfl) d_Face_does_35 ⟨Nat.zero_le _, Nat.zero_le _⟩ rfl ?_
      refine lv_if_ne (tgt := 46) hx hb d_Face_does_38 (by decide) (fun c12 => ?_) (fun c12 => ?_)
      · replace hf := iteF c12 hf
        refine lv_aload_n hx hb d_Face_does_46 rfl (lv_at hl 0 rfl) ?_
        refine va_get (D := D) (ci := 10) (v := .ref (hA 0)) (C := "BedFrontier") (T := T_Face) (N := 10) hx hb htt i_Face hown hK.1 hP 0 rfl rfl 0 (by decide) (htt _ k_199) (fun _ h9 => h9) rfl d_Face_does_47 ?_
        refine lv_iload_n hx hb d_Face_does_50 rfl (lv_at hl 1 rfl) ?_
        refine lv_iload_n hx hb d_Face_does_51 rfl (lv_at hl 2 rfl) ?_
        obtain ⟨x13, sH14, h15, hf⟩ := bd2E hf
        refine vM (Lc := (L_hk ty hA kA sH)) (Lc' := (L_hk ty hA kA sH14)) (L' := (L_fhk ty fA rA cA hA kA pv sF sH14)) (q0 := 0) (ci := 6) (rest := []) C0 (c_House_perform l D ty hA kA H.size sH a1 a2 x13 sH14 h15) k_432 cal_House_perform hK hP hD hS hAq [1, 2, 3, 4, 5, 6, 7, 8, 9, 10, 11, 12, 13, 14] [0] [0, 1, 2, 3, 4, 5, 6, 7, 8, 9, 10, 11, 12, 13, 14] [(fA 0, .inr (10, [.ref (hA 0), .ref (rA 0), .ref (cA 0), .ref (fA 4), pv, .int (sF 5 0), .int (sF 6 0), .int (sF 7 0), .int (sF 8 0), .int (sF 9 0)]))] rfl rfl (by decide) (by decide) (by decide) (by decide) rfl rfl rfl rfl ⟨by rw [hR]; decide, by rw [hR]; decide⟩ rfl rfl rfl hl.1 rfl (Nat.le_of_ble_eq_true rfl) d_Face_does_52 ⟨by rw [hR]; decide, by rw [hR]; decide⟩ rfl (fun H locs hP hD hS => ?_)
        obtain ⟨rfl, rfl, rfl⟩ := sj3 hf
        exact retM C0 (narI _) hQ hP hD hS d_Face_does_55
      · replace hf := iteT c12 hf
        refine lv_aload_n hx hb d_Face_does_41 rfl (lv_at hl 0 rfl) ?_
        obtain ⟨x16, sF17, h18, hf⟩ := bd2E hf
        refine vM (Lc := (L_f ty fA rA cA hA pv sF)) (Lc' := (L_f ty fA rA cA hA pv sF17)) (L' := (L_fhk ty fA rA cA hA kA pv sF17 sH)) (q0 := 0) (ci := 10) (rest := []) C0 (c_Face_refuseNo l D ty fA rA cA hA pv H.size sF x16 sF17 h18) k_428 cal_Face_refuseNo hK hP hD hS hAq [0] [1, 2, 3, 4, 5, 6, 7, 8, 9, 10, 11, 12, 13, 14] [14, 0, 1, 2, 3, 4, 5, 6, 7, 8, 9, 10, 11, 12, 13] [(hA 0, .inr (6, [.ref (kA 0), .ref (hA 2), .ref (hA 3), .ref (hA 4), .ref (hA 5), .ref (hA 6), .ref (hA 7), .int (sH 7 0), .int (sH 8 0), .int (sH 9 0), .int (sH 10 0), .int (sH 11 0), .int (sH 12 0), .int (sH 13 0), .int (sH 14 0)])), (hA 2, .inl (ty 0, 2, .inl (sH 1))), (hA 3, .inl (ty 0, 2, .inl (sH 2))), (hA 4, .inl (ty 0, 6, .inl (sH 3))), (hA 5, .inl (ty 0, 6, .inl (sH 4))), (hA 6, .inl (ty 0, 30, .inl (sH 5))), (hA 7, .inl (ty 0, 32, .inl (sH 6))), (kA 0, .inl (ty 3, 6, .inr (.inr (.inr (.inr (fun i => some (kA (i + 1)))))))), (kA 1, .inr (0, [])), (kA 2, .inr (1, [])), (kA 3, .inr (2, [])), (kA 4, .inr (3, [])), (kA 5, .inr (4, [])), (kA 6, .inr (5, []))] rfl rfl (by decide) (by decide) (by decide) (by decide) rfl rfl rfl rfl ⟨by rw [hR]; decide, by rw [hR]; decide⟩ rfl rfl rfl hl.1 rfl (Nat.le_of_ble_eq_true rfl) d_Face_does_42 ⟨by rw [hR]; decide, by rw [hR]; decide⟩ rfl (fun H locs hP hD hS => ?_)
        obtain ⟨rfl, rfl, rfl⟩ := sj3 hf
        exact retM C0 (narI _) hQ hP hD hS d_Face_does_45
    · replace hf := iteT c9 hf
      refine lv_aload_n hx hb d_Face_does_15 rfl (lv_at hl 0 rfl) ?_
      refine lv_bipush (v := (-2 : Int32)) hx hb d_Face_does_16 (by decide) ?_
      obtain ⟨x19, sF20, h21, hf⟩ := bd2E hf
      refine vM (Lc := (L_f ty fA rA cA hA pv sF)) (Lc' := (L_f ty fA rA cA hA pv sF20)) (L' := (L_fhk ty fA rA cA hA kA pv sF20 sH)) (q0 := 0) (ci := 10) (rest := []) C0 (c_Face_refuseBad l D ty fA rA cA hA pv H.size sF (-2 : Int32) x19 sF20 h21) k_237 cal_Face_refuseBad hK hP hD hS hAq [0] [1, 2, 3, 4, 5, 6, 7, 8, 9, 10, 11, 12, 13, 14] [14, 0, 1, 2, 3, 4, 5, 6, 7, 8, 9, 10, 11, 12, 13] [(hA 0, .inr (6, [.ref (kA 0), .ref (hA 2), .ref (hA 3), .ref (hA 4), .ref (hA 5), .ref (hA 6), .ref (hA 7), .int (sH 7 0), .int (sH 8 0), .int (sH 9 0), .int (sH 10 0), .int (sH 11 0), .int (sH 12 0), .int (sH 13 0), .int (sH 14 0)])), (hA 2, .inl (ty 0, 2, .inl (sH 1))), (hA 3, .inl (ty 0, 2, .inl (sH 2))), (hA 4, .inl (ty 0, 6, .inl (sH 3))), (hA 5, .inl (ty 0, 6, .inl (sH 4))), (hA 6, .inl (ty 0, 30, .inl (sH 5))), (hA 7, .inl (ty 0, 32, .inl (sH 6))), (kA 0, .inl (ty 3, 6, .inr (.inr (.inr (.inr (fun i => some (kA (i + 1)))))))), (kA 1, .inr (0, [])), (kA 2, .inr (1, [])), (kA 3, .inr (2, [])), (kA 4, .inr (3, [])), (kA 5, .inr (4, [])), (kA 6, .inr (5, []))] rfl rfl (by decide) (by decide) (by decide) (by decide) rfl rfl rfl rfl ⟨by rw [hR]; decide, by rw [hR]; decide⟩ rfl rfl rfl hl.1 rfl (Nat.le_of_ble_eq_true rfl) d_Face_does_18 ⟨by rw [hR]; decide, by rw [hR]; decide⟩ rfl (fun H locs hP hD hS => ?_)
      obtain ⟨rfl, rfl, rfl⟩ := sj3 hf
      exact retM C0 (narI _) hQ hP hD hS d_Face_does_21
def f_Face_waits (sF : PW) (sH : PW) (a1 : Int32) : Option (Int32 × PW × PW) :=
  (if a1 < (1 : Int32) then bd2 (f_Face_refuseBad sF (-2 : Int32)) (fun x2 sF3 => some (x2, sF3, sH)) else (if a1 ≤ (24 : Int32) then bd (f_House_keepStep sH) (fun sH6 => nm (up sH6 10 (fun _ => (((sH6 10 0) + a1) - ((sH6 10 0) + a1) / (24 : Int32) * (24 : Int32)))) (fun sH8 => some ((sH8 10 0), sF, sH8))) else bd2 (f_Face_refuseBad sF (-2 : Int32)) (fun x9 sF10 => some (x9, sF10, sH))))
set_option maxHeartbeats 4000000 in
set_option maxRecDepth 100000 in
theorem c_Face_waits (l : Launch) (D : va_G) (ty : Nat → ClassId) (fA rA cA hA kA : Nat → Nat) (pv : Value) (sz : Nat) (sF : PW) (sH : PW) (a1 : Int32) (rr : Int32) (tF : PW) (tH : PW) (hf : f_Face_waits sF sH a1 = some (rr, tF, tH)) : Met l y_Face_waits (Cond.code y_Face_waits prog_1_method_10_code 2 ((Option.some FieldType.int)) :: lw_ok) { frames := 2, cells := 0, slots := 0, locals := 81 } (PcM D ty [.ref (fA 0), .int a1] sz (L_fh ty fA rA cA hA kA pv sF sH)) (QM D (L_fh ty fA rA cA hA kA pv tF tH) (va_A (L_fh ty fA rA cA hA kA pv sF sH) sz) (some (.int rr))) 0 0 (va_A (L_fh ty fA rA cA hA kA pv sF sH) sz) := by
  refine hdM (by decide) (Nat.le_of_ble_eq_true rfl) ?_
  intro p e s m below meth c ls R args Q A C0 hR hQ hnm hAq hP hK hD hS hl
  obtain ⟨hx, hb, hr, hlk, hml, hown, htt⟩ := id C0
  have hl : lv_has ls 2 [(0, .ref (fA 0)), (1, .int a1)] := hl
  generalize hH0 : s.heap = H at hP hS ⊢
  have hS : va_S A s.heap H [] := by rw [hH0]; exact hS
  unfold f_Face_waits at hf
  refine lv_iload_n hx hb d_Face_waits_0 rfl (lv_at hl 1 rfl) ?_
  refine lv_iconst (v := (1 : Int32)) hx hb d_Face_waits_1 (by decide) ?_
  refine lv_icmp_lt (tgt := 11) hx hb d_Face_waits_2 (by decide) (fun c1 => ?_) (fun c1 => ?_)
  · replace hf := iteT c1 hf
    refine lv_aload_n hx hb d_Face_waits_11 rfl (lv_at hl 0 rfl) ?_
    refine lv_bipush (v := (-2 : Int32)) hx hb d_Face_waits_12 (by decide) ?_
    obtain ⟨x2, sF3, h4, hf⟩ := bd2E hf
    refine vM (Lc := (L_f ty fA rA cA hA pv sF)) (Lc' := (L_f ty fA rA cA hA pv sF3)) (L' := (L_fh ty fA rA cA hA kA pv sF3 sH)) (q0 := 0) (ci := 10) (rest := []) C0 (c_Face_refuseBad l D ty fA rA cA hA pv H.size sF (-2 : Int32) x2 sF3 h4) k_237 cal_Face_refuseBad hK hP hD hS hAq [0] [1, 2, 3, 4, 5, 6, 7] [7, 0, 1, 2, 3, 4, 5, 6] [(hA 0, .inr (6, [.ref (kA 0), .ref (hA 2), .ref (hA 3), .ref (hA 4), .ref (hA 5), .ref (hA 6), .ref (hA 7), .int (sH 7 0), .int (sH 8 0), .int (sH 9 0), .int (sH 10 0), .int (sH 11 0), .int (sH 12 0), .int (sH 13 0), .int (sH 14 0)])), (hA 2, .inl (ty 0, 2, .inl (sH 1))), (hA 3, .inl (ty 0, 2, .inl (sH 2))), (hA 4, .inl (ty 0, 6, .inl (sH 3))), (hA 5, .inl (ty 0, 6, .inl (sH 4))), (hA 6, .inl (ty 0, 30, .inl (sH 5))), (hA 7, .inl (ty 0, 32, .inl (sH 6)))] rfl rfl (by decide) (by decide) (by decide) (by decide) rfl rfl rfl rfl ⟨by rw [hR]; decide, by rw [hR]; decide⟩ rfl rfl rfl hl.1 rfl (Nat.le_of_ble_eq_true rfl) d_Face_waits_14 ⟨by rw [hR]; decide, by rw [hR]; decide⟩ rfl (fun H locs hP hD hS => ?_)
    obtain ⟨rfl, rfl, rfl⟩ := sj3 hf
    exact retM C0 (narI _) hQ hP hD hS d_Face_waits_17
  · replace hf := iteF c1 hf
    refine lv_iload_n hx hb d_Face_waits_5 rfl (lv_at hl 1 rfl) ?_
    refine lv_bipush (v := (24 : Int32)) hx hb d_Face_waits_6 (by decide) ?_
    refine lv_icmp_le (tgt := 18) hx hb d_Face_waits_8 (by decide) (fun c5 => ?_) (fun c5 => ?_)
    · replace hf := iteT c5 hf
      refine lv_aload_n hx hb d_Face_waits_18 rfl (lv_at hl 0 rfl) ?_
      refine va_get (D := D) (ci := 10) (v := .ref (hA 0)) (C := "BedFrontier") (T := T_Face) (N := 10) hx hb htt i_Face hown hK.1 hP 0 rfl rfl 0 (by decide) (htt _ k_199) (fun _ h9 => h9) rfl d_Face_waits_19 ?_
      obtain ⟨sH6, h7, hf⟩ := bdE hf
      refine vM (Lc := (L_h ty hA kA sH)) (Lc' := (L_h ty hA kA sH6)) (L' := (L_fh ty fA rA cA hA kA pv sF sH6)) (q0 := 0) (ci := 6) (rest := []) C0 (c_House_keepStep l D ty hA kA H.size sH sH6 h7) k_480 cal_House_keepStep hK hP hD hS hAq [1, 2, 3, 4, 5, 6, 7] [0] [0, 1, 2, 3, 4, 5, 6, 7] [(fA 0, .inr (10, [.ref (hA 0), .ref (rA 0), .ref (cA 0), .ref (fA 4), pv, .int (sF 5 0), .int (sF 6 0), .int (sF 7 0), .int (sF 8 0), .int (sF 9 0)]))] rfl rfl (by decide) (by decide) (by decide) (by decide) rfl rfl rfl rfl ⟨by rw [hR]; decide, by rw [hR]; decide⟩ rfl rfl rfl hl.1 rfl (Nat.le_of_ble_eq_true rfl) d_Face_waits_22 ⟨by rw [hR]; decide, by rw [hR]; decide⟩ rfl (fun H locs hP hD hS => ?_)
      refine lv_aload_n hx hb d_Face_waits_25 rfl (lv_at hl 0 rfl) ?_
      refine va_get (D := D) (ci := 10) (v := .ref (hA 0)) (C := "BedFrontier") (T := T_Face) (N := 10) hx hb htt i_Face hown hK.1 hP 0 rfl rfl 0 (by decide) (htt _ k_199) (fun _ h9 => h9) rfl d_Face_waits_26 ?_
      refine lv_aload_n hx hb d_Face_waits_29 rfl (lv_at hl 0 rfl) ?_
      refine va_get (D := D) (ci := 10) (v := .ref (hA 0)) (C := "BedFrontier") (T := T_Face) (N := 10) hx hb htt i_Face hown hK.1 hP 0 rfl rfl 0 (by decide) (htt _ k_199) (fun _ h9 => h9) rfl d_Face_waits_30 ?_
      refine va_get (D := D) (ci := 6) (v := .int (sH6 10 0)) (C := "BedFrontier$House") (T := T_House) (N := 15) hx hb htt i_House hown hK.1 hP 1 rfl rfl 10 (by decide) (htt _ k_109) (fun _ h9 => h9) rfl d_Face_waits_33 ?_
      refine lv_iload_n hx hb d_Face_waits_36 rfl (lv_at hl 1 rfl) ?_
      refine lv_iadd hx hb d_Face_waits_37 ?_
      refine lv_bipush (v := (24 : Int32)) hx hb d_Face_waits_38 (by decide) ?_
      refine lv_irem hx hb d_Face_waits_40 (by decide) ?_
      refine va_put (D := D) (ci := 6) (v := .int (((sH6 10 0) + a1) - ((sH6 10 0) + a1) / (24 : Int32) * (24 : Int32))) (ty := .int) (C := "BedFrontier$House") (T := T_House) (N := 15) hx hb htt i_House t_House t_House_ok n_House hown hK.1 hP hD hS 1 rfl rfl 10 (by decide) (htt _ k_109) (fun _ h9 => h9) rfl pfI rfl rfl (Nat.le_of_ble_eq_true rfl) d_Face_waits_41 (fun H locs hP hD hS => ?_)
      obtain ⟨sH8, e_sH8⟩ : ∃ z : PW, z = up sH6 10 (fun _ => (((sH6 10 0) + a1) - ((sH6 10 0) + a1) / (24 : Int32) * (24 : Int32))) := ⟨_, rfl⟩
      replace hf := nmE hf e_sH8
      have hP : va_P D vwCl (L_fh ty fA rA cA hA kA pv sF sH8) H := by rw [e_sH8]; exact hP
      have hD : va_D A (L_fh ty fA rA cA hA kA pv sF sH8) := by rw [e_sH8]; exact hD
      refine lv_aload_n hx hb d_Face_waits_44 rfl (lv_at hl 0 rfl) ?_
      refine va_get (D := D) (ci := 10) (v := .ref (hA 0)) (C := "BedFrontier") (T := T_Face) (N := 10) hx hb htt i_Face hown hK.1 hP 0 rfl rfl 0 (by decide) (htt _ k_199) (fun _ h9 => h9) rfl d_Face_waits_45 ?_
      refine va_get (D := D) (ci := 6) (v := .int (sH8 10 0)) (C := "BedFrontier$House") (T := T_House) (N := 15) hx hb htt i_House hown hK.1 hP 1 rfl rfl 10 (by decide) (htt _ k_109) (fun _ h9 => h9) rfl d_Face_waits_48 ?_
      obtain ⟨rfl, rfl, rfl⟩ := sj3 hf
      exact retM C0 (narI _) hQ hP hD hS d_Face_waits_51
    · replace hf := iteF c5 hf
      refine lv_aload_n hx hb d_Face_waits_11 rfl (lv_at hl 0 rfl) ?_
      refine lv_bipush (v := (-2 : Int32)) hx hb d_Face_waits_12 (by decide) ?_
      obtain ⟨x9, sF10, h11, hf⟩ := bd2E hf
      refine vM (Lc := (L_f ty fA rA cA hA pv sF)) (Lc' := (L_f ty fA rA cA hA pv sF10)) (L' := (L_fh ty fA rA cA hA kA pv sF10 sH)) (q0 := 0) (ci := 10) (rest := []) C0 (c_Face_refuseBad l D ty fA rA cA hA pv H.size sF (-2 : Int32) x9 sF10 h11) k_237 cal_Face_refuseBad hK hP hD hS hAq [0] [1, 2, 3, 4, 5, 6, 7] [7, 0, 1, 2, 3, 4, 5, 6] [(hA 0, .inr (6, [.ref (kA 0), .ref (hA 2), .ref (hA 3), .ref (hA 4), .ref (hA 5), .ref (hA 6), .ref (hA 7), .int (sH 7 0), .int (sH 8 0), .int (sH 9 0), .int (sH 10 0), .int (sH 11 0), .int (sH 12 0), .int (sH 13 0), .int (sH 14 0)])), (hA 2, .inl (ty 0, 2, .inl (sH 1))), (hA 3, .inl (ty 0, 2, .inl (sH 2))), (hA 4, .inl (ty 0, 6, .inl (sH 3))), (hA 5, .inl (ty 0, 6, .inl (sH 4))), (hA 6, .inl (ty 0, 30, .inl (sH 5))), (hA 7, .inl (ty 0, 32, .inl (sH 6)))] rfl rfl (by decide) (by decide) (by decide) (by decide) rfl rfl rfl rfl ⟨by rw [hR]; decide, by rw [hR]; decide⟩ rfl rfl rfl hl.1 rfl (Nat.le_of_ble_eq_true rfl) d_Face_waits_14 ⟨by rw [hR]; decide, by rw [hR]; decide⟩ rfl (fun H locs hP hD hS => ?_)
      obtain ⟨rfl, rfl, rfl⟩ := sj3 hf
      exact retM C0 (narI _) hQ hP hD hS d_Face_waits_17
def f_Face_war (sF : PW) (sH : PW) (a1 : Int32) : Option (Int32 × PW × PW) :=
  bd (f_Face_within a1 (1 : Int32)) (fun x1 => (if x1 = 0 then bd2 (f_Face_refuseBad sF (-2 : Int32)) (fun x11 sF12 => some (x11, sF12, sH)) else bd (f_House_warBit sH) (fun x4 => bd (f_House_keepStep sH) (fun sH6 => (if a1 = (1 : Int32) then nm (up sH6 8 (fun _ => (1 : Int32))) (fun sH10 => some (x4, sF, sH10)) else nm (up sH6 8 (fun _ => (0 : Int32))) (fun sH9 => some (x4, sF, sH9)))))))
set_option maxHeartbeats 4000000 in
set_option maxRecDepth 100000 in
theorem c_Face_war (l : Launch) (D : va_G) (ty : Nat → ClassId) (fA rA cA hA kA : Nat → Nat) (pv : Value) (sz : Nat) (sF : PW) (sH : PW) (a1 : Int32) (rr : Int32) (tF : PW) (tH : PW) (hf : f_Face_war sF sH a1 = some (rr, tF, tH)) : Met l y_Face_war (Cond.code y_Face_war prog_1_method_11_code 3 ((Option.some FieldType.int)) :: lw_ok) { frames := 2, cells := 0, slots := 0, locals := 81 } (PcM D ty [.ref (fA 0), .int a1] sz (L_fh ty fA rA cA hA kA pv sF sH)) (QM D (L_fh ty fA rA cA hA kA pv tF tH) (va_A (L_fh ty fA rA cA hA kA pv sF sH) sz) (some (.int rr))) 0 0 (va_A (L_fh ty fA rA cA hA kA pv sF sH) sz) := by
  refine hdM (by decide) (Nat.le_of_ble_eq_true rfl) ?_
  intro p e s m below meth c ls R args Q A C0 hR hQ hnm hAq hP hK hD hS hl
  obtain ⟨hx, hb, hr, hlk, hml, hown, htt⟩ := id C0
  have hl : lv_has ls 3 [(0, .ref (fA 0)), (1, .int a1)] := hl
  generalize hH0 : s.heap = H at hP hS ⊢
  have hS : va_S A s.heap H [] := by rw [hH0]; exact hS
  unfold f_Face_war at hf
  refine lv_iload_n hx hb d_Face_war_0 rfl (lv_at hl 1 rfl) ?_
  refine lv_iconst (v := (1 : Int32)) hx hb d_Face_war_1 (by decide) ?_
  obtain ⟨x1, h2, hf⟩ := bdE hf
  refine scR (rest := []) C0 (c_Face_within l D ty a1 (1 : Int32) x1 h2) k_234 cal_Face_within hK (va_P_nil) ⟨by rw [hR]; decide, by rw [hR]; decide⟩ rfl rfl rfl hl.1 rfl (Nat.le_of_ble_eq_true rfl) d_Face_war_2 ⟨Nat.zero_le _, Nat.zero_le _⟩ rfl ?_
  refine lv_if_ne (tgt := 15) hx hb d_Face_war_5 (by decide) (fun c3 => ?_) (fun c3 => ?_)
  · replace hf := iteF c3 hf
    refine lv_aload_n hx hb d_Face_war_15 rfl (lv_at hl 0 rfl) ?_
    refine va_get (D := D) (ci := 10) (v := .ref (hA 0)) (C := "BedFrontier") (T := T_Face) (N := 10) hx hb htt i_Face hown hK.1 hP 0 rfl rfl 0 (by decide) (htt _ k_199) (fun _ h9 => h9) rfl d_Face_war_16 ?_
    obtain ⟨x4, h5, hf⟩ := bdE hf
    refine vR (q0 := 0) (ci := 6) (rest := []) C0 (c_House_warBit l D ty hA kA sH x4 h5) k_485 cal_House_warBit hK (hP.sub (ws' := (L_h ty hA kA sH)) [1, 2, 3, 4, 5, 6, 7] rfl) rfl rfl rfl ⟨by rw [hR]; decide, by rw [hR]; decide⟩ rfl rfl rfl hl.1 rfl (Nat.le_of_ble_eq_true rfl) d_Face_war_19 ⟨Nat.zero_le _, Nat.zero_le _⟩ rfl ?_
    refine lv_istore_n (lv' := [(2, .int x4), (0, .ref (fA 0)), (1, .int a1)]) hx hb d_Face_war_22 rfl hl (by decide) rfl (fun ls hl => ?_)
    refine lv_aload_n hx hb d_Face_war_23 rfl (lv_at hl 1 rfl) ?_
    refine va_get (D := D) (ci := 10) (v := .ref (hA 0)) (C := "BedFrontier") (T := T_Face) (N := 10) hx hb htt i_Face hown hK.1 hP 0 rfl rfl 0 (by decide) (htt _ k_199) (fun _ h9 => h9) rfl d_Face_war_24 ?_
    obtain ⟨sH6, h7, hf⟩ := bdE hf
    refine vM (Lc := (L_h ty hA kA sH)) (Lc' := (L_h ty hA kA sH6)) (L' := (L_fh ty fA rA cA hA kA pv sF sH6)) (q0 := 0) (ci := 6) (rest := []) C0 (c_House_keepStep l D ty hA kA H.size sH sH6 h7) k_480 cal_House_keepStep hK hP hD hS hAq [1, 2, 3, 4, 5, 6, 7] [0] [0, 1, 2, 3, 4, 5, 6, 7] [(fA 0, .inr (10, [.ref (hA 0), .ref (rA 0), .ref (cA 0), .ref (fA 4), pv, .int (sF 5 0), .int (sF 6 0), .int (sF 7 0), .int (sF 8 0), .int (sF 9 0)]))] rfl rfl (by decide) (by decide) (by decide) (by decide) rfl rfl rfl rfl ⟨by rw [hR]; decide, by rw [hR]; decide⟩ rfl rfl rfl hl.1 rfl (Nat.le_of_ble_eq_true rfl) d_Face_war_27 ⟨by rw [hR]; decide, by rw [hR]; decide⟩ rfl (fun H locs hP hD hS => ?_)
    refine lv_aload_n hx hb d_Face_war_30 rfl (lv_at hl 1 rfl) ?_
    refine va_get (D := D) (ci := 10) (v := .ref (hA 0)) (C := "BedFrontier") (T := T_Face) (N := 10) hx hb htt i_Face hown hK.1 hP 0 rfl rfl 0 (by decide) (htt _ k_199) (fun _ h9 => h9) rfl d_Face_war_31 ?_
    refine lv_iload_n hx hb d_Face_war_34 rfl (lv_at hl 2 rfl) ?_
    refine lv_iconst (v := (1 : Int32)) hx hb d_Face_war_35 (by decide) ?_
    refine lv_icmp_ne (tgt := 43) hx hb d_Face_war_36 (by decide) (fun c8 => ?_) (fun c8 => ?_)
    · replace hf := iteF c8 hf
      refine lv_iconst (v := (0 : Int32)) hx hb d_Face_war_43 (by decide) ?_
      refine va_put (D := D) (ci := 6) (v := .int (0 : Int32)) (ty := .boolean) (C := "BedFrontier$House") (T := T_House) (N := 15) hx hb htt i_House t_House t_House_ok n_House hown hK.1 hP hD hS 1 rfl rfl 8 (by decide) (htt _ k_101) (fun _ h9 => h9) rfl pfZ rfl rfl (Nat.le_of_ble_eq_true rfl) d_Face_war_44 (fun H locs hP hD hS => ?_)
      obtain ⟨sH9, e_sH9⟩ : ∃ z : PW, z = up sH6 8 (fun _ => (0 : Int32)) := ⟨_, rfl⟩
      replace hf := nmE hf e_sH9
      have hP : va_P D vwCl (L_fh ty fA rA cA hA kA pv sF sH9) H := by rw [e_sH9]; exact hP
      have hD : va_D A (L_fh ty fA rA cA hA kA pv sF sH9) := by rw [e_sH9]; exact hD
      refine lv_iload_n hx hb d_Face_war_47 rfl (lv_at hl 0 rfl) ?_
      obtain ⟨rfl, rfl, rfl⟩ := sj3 hf
      exact retM C0 (narI _) hQ hP hD hS d_Face_war_48
    · replace hf := iteT c8 hf
      refine lv_iconst (v := (1 : Int32)) hx hb d_Face_war_39 (by decide) ?_
      refine lv_goto (tgt := 44) hx hb d_Face_war_40 (by decide) ?_
      refine va_put (D := D) (ci := 6) (v := .int (1 : Int32)) (ty := .boolean) (C := "BedFrontier$House") (T := T_House) (N := 15) hx hb htt i_House t_House t_House_ok n_House hown hK.1 hP hD hS 1 rfl rfl 8 (by decide) (htt _ k_101) (fun _ h9 => h9) rfl pfZ rfl rfl (Nat.le_of_ble_eq_true rfl) d_Face_war_44 (fun H locs hP hD hS => ?_)
      obtain ⟨sH10, e_sH10⟩ : ∃ z : PW, z = up sH6 8 (fun _ => (1 : Int32)) := ⟨_, rfl⟩
      replace hf := nmE hf e_sH10
      have hP : va_P D vwCl (L_fh ty fA rA cA hA kA pv sF sH10) H := by rw [e_sH10]; exact hP
      have hD : va_D A (L_fh ty fA rA cA hA kA pv sF sH10) := by rw [e_sH10]; exact hD
      refine lv_iload_n hx hb d_Face_war_47 rfl (lv_at hl 0 rfl) ?_
      obtain ⟨rfl, rfl, rfl⟩ := sj3 hf
      exact retM C0 (narI _) hQ hP hD hS d_Face_war_48
  · replace hf := iteT c3 hf
    refine lv_aload_n hx hb d_Face_war_8 rfl (lv_at hl 0 rfl) ?_
    refine lv_bipush (v := (-2 : Int32)) hx hb d_Face_war_9 (by decide) ?_
    obtain ⟨x11, sF12, h13, hf⟩ := bd2E hf
    refine vM (Lc := (L_f ty fA rA cA hA pv sF)) (Lc' := (L_f ty fA rA cA hA pv sF12)) (L' := (L_fh ty fA rA cA hA kA pv sF12 sH)) (q0 := 0) (ci := 10) (rest := []) C0 (c_Face_refuseBad l D ty fA rA cA hA pv H.size sF (-2 : Int32) x11 sF12 h13) k_237 cal_Face_refuseBad hK hP hD hS hAq [0] [1, 2, 3, 4, 5, 6, 7] [7, 0, 1, 2, 3, 4, 5, 6] [(hA 0, .inr (6, [.ref (kA 0), .ref (hA 2), .ref (hA 3), .ref (hA 4), .ref (hA 5), .ref (hA 6), .ref (hA 7), .int (sH 7 0), .int (sH 8 0), .int (sH 9 0), .int (sH 10 0), .int (sH 11 0), .int (sH 12 0), .int (sH 13 0), .int (sH 14 0)])), (hA 2, .inl (ty 0, 2, .inl (sH 1))), (hA 3, .inl (ty 0, 2, .inl (sH 2))), (hA 4, .inl (ty 0, 6, .inl (sH 3))), (hA 5, .inl (ty 0, 6, .inl (sH 4))), (hA 6, .inl (ty 0, 30, .inl (sH 5))), (hA 7, .inl (ty 0, 32, .inl (sH 6)))] rfl rfl (by decide) (by decide) (by decide) (by decide) rfl rfl rfl rfl ⟨by rw [hR]; decide, by rw [hR]; decide⟩ rfl rfl rfl hl.1 rfl (Nat.le_of_ble_eq_true rfl) d_Face_war_11 ⟨by rw [hR]; decide, by rw [hR]; decide⟩ rfl (fun H locs hP hD hS => ?_)
    obtain ⟨rfl, rfl, rfl⟩ := sj3 hf
    exact retM C0 (narI _) hQ hP hD hS d_Face_war_14
def f_Face_undo (sF : PW) (sH : PW) : Option (Int32 × PW × PW) :=
  (if (sH 14 0) = 0 then bd2 (f_Face_refuseNo sF) (fun x4 sF5 => some (x4, sF5, sH)) else bd (f_House_takeBack sH) (fun sH2 => some ((sH2 11 0), sF, sH2)))
set_option maxHeartbeats 4000000 in
set_option maxRecDepth 100000 in
theorem c_Face_undo (l : Launch) (D : va_G) (ty : Nat → ClassId) (fA rA cA hA kA : Nat → Nat) (pv : Value) (sz : Nat) (sF : PW) (sH : PW) (rr : Int32) (tF : PW) (tH : PW) (hf : f_Face_undo sF sH = some (rr, tF, tH)) : Met l y_Face_undo (Cond.code y_Face_undo prog_1_method_12_code 1 ((Option.some FieldType.int)) :: lw_ok) { frames := 1, cells := 0, slots := 0, locals := 21 } (PcM D ty [.ref (fA 0)] sz (L_fh ty fA rA cA hA kA pv sF sH)) (QM D (L_fh ty fA rA cA hA kA pv tF tH) (va_A (L_fh ty fA rA cA hA kA pv sF sH) sz) (some (.int rr))) 0 0 (va_A (L_fh ty fA rA cA hA kA pv sF sH) sz) := by
  refine hdM (by decide) (Nat.le_of_ble_eq_true rfl) ?_
  intro p e s m below meth c ls R args Q A C0 hR hQ hnm hAq hP hK hD hS hl
  obtain ⟨hx, hb, hr, hlk, hml, hown, htt⟩ := id C0
  have hl : lv_has ls 1 [(0, .ref (fA 0))] := hl
  generalize hH0 : s.heap = H at hP hS ⊢
  have hS : va_S A s.heap H [] := by rw [hH0]; exact hS
  unfold f_Face_undo at hf
  refine lv_aload_n hx hb d_Face_undo_0 rfl (lv_at hl 0 rfl) ?_
  refine va_get (D := D) (ci := 10) (v := .ref (hA 0)) (C := "BedFrontier") (T := T_Face) (N := 10) hx hb htt i_Face hown hK.1 hP 0 rfl rfl 0 (by decide) (htt _ k_199) (fun _ h9 => h9) rfl d_Face_undo_1 ?_
  refine va_get (D := D) (ci := 6) (v := .int (sH 14 0)) (C := "BedFrontier$House") (T := T_House) (N := 15) hx hb htt i_House hown hK.1 hP 1 rfl rfl 14 (by decide) (htt _ k_121) (fun _ h9 => h9) rfl d_Face_undo_4 ?_
  refine lv_if_ne (tgt := 15) hx hb d_Face_undo_7 (by decide) (fun c1 => ?_) (fun c1 => ?_)
  · replace hf := iteF c1 hf
    refine lv_aload_n hx hb d_Face_undo_15 rfl (lv_at hl 0 rfl) ?_
    refine va_get (D := D) (ci := 10) (v := .ref (hA 0)) (C := "BedFrontier") (T := T_Face) (N := 10) hx hb htt i_Face hown hK.1 hP 0 rfl rfl 0 (by decide) (htt _ k_199) (fun _ h9 => h9) rfl d_Face_undo_16 ?_
    obtain ⟨sH2, h3, hf⟩ := bdE hf
    refine vM (Lc := (L_h ty hA kA sH)) (Lc' := (L_h ty hA kA sH2)) (L' := (L_fh ty fA rA cA hA kA pv sF sH2)) (q0 := 0) (ci := 6) (rest := []) C0 (c_House_takeBack l D ty hA kA H.size sH sH2 h3) k_490 cal_House_takeBack hK hP hD hS hAq [1, 2, 3, 4, 5, 6, 7] [0] [0, 1, 2, 3, 4, 5, 6, 7] [(fA 0, .inr (10, [.ref (hA 0), .ref (rA 0), .ref (cA 0), .ref (fA 4), pv, .int (sF 5 0), .int (sF 6 0), .int (sF 7 0), .int (sF 8 0), .int (sF 9 0)]))] rfl rfl (by decide) (by decide) (by decide) (by decide) rfl rfl rfl rfl ⟨by rw [hR]; decide, by rw [hR]; decide⟩ rfl rfl rfl hl.1 rfl (Nat.le_of_ble_eq_true rfl) d_Face_undo_19 ⟨by rw [hR]; decide, by rw [hR]; decide⟩ rfl (fun H locs hP hD hS => ?_)
    refine lv_aload_n hx hb d_Face_undo_22 rfl (lv_at hl 0 rfl) ?_
    refine va_get (D := D) (ci := 10) (v := .ref (hA 0)) (C := "BedFrontier") (T := T_Face) (N := 10) hx hb htt i_Face hown hK.1 hP 0 rfl rfl 0 (by decide) (htt _ k_199) (fun _ h9 => h9) rfl d_Face_undo_23 ?_
    refine va_get (D := D) (ci := 6) (v := .int (sH2 11 0)) (C := "BedFrontier$House") (T := T_House) (N := 15) hx hb htt i_House hown hK.1 hP 1 rfl rfl 11 (by decide) (htt _ k_111) (fun _ h9 => h9) rfl d_Face_undo_26 ?_
    obtain ⟨rfl, rfl, rfl⟩ := sj3 hf
    exact retM C0 (narI _) hQ hP hD hS d_Face_undo_29
  · replace hf := iteT c1 hf
    refine lv_aload_n hx hb d_Face_undo_10 rfl (lv_at hl 0 rfl) ?_
    obtain ⟨x4, sF5, h6, hf⟩ := bd2E hf
    refine vM (Lc := (L_f ty fA rA cA hA pv sF)) (Lc' := (L_f ty fA rA cA hA pv sF5)) (L' := (L_fh ty fA rA cA hA kA pv sF5 sH)) (q0 := 0) (ci := 10) (rest := []) C0 (c_Face_refuseNo l D ty fA rA cA hA pv H.size sF x4 sF5 h6) k_428 cal_Face_refuseNo hK hP hD hS hAq [0] [1, 2, 3, 4, 5, 6, 7] [7, 0, 1, 2, 3, 4, 5, 6] [(hA 0, .inr (6, [.ref (kA 0), .ref (hA 2), .ref (hA 3), .ref (hA 4), .ref (hA 5), .ref (hA 6), .ref (hA 7), .int (sH 7 0), .int (sH 8 0), .int (sH 9 0), .int (sH 10 0), .int (sH 11 0), .int (sH 12 0), .int (sH 13 0), .int (sH 14 0)])), (hA 2, .inl (ty 0, 2, .inl (sH 1))), (hA 3, .inl (ty 0, 2, .inl (sH 2))), (hA 4, .inl (ty 0, 6, .inl (sH 3))), (hA 5, .inl (ty 0, 6, .inl (sH 4))), (hA 6, .inl (ty 0, 30, .inl (sH 5))), (hA 7, .inl (ty 0, 32, .inl (sH 6)))] rfl rfl (by decide) (by decide) (by decide) (by decide) rfl rfl rfl rfl ⟨by rw [hR]; decide, by rw [hR]; decide⟩ rfl rfl rfl hl.1 rfl (Nat.le_of_ble_eq_true rfl) d_Face_undo_11 ⟨by rw [hR]; decide, by rw [hR]; decide⟩ rfl (fun H locs hP hD hS => ?_)
    obtain ⟨rfl, rfl, rfl⟩ := sj3 hf
    exact retM C0 (narI _) hQ hP hD hS d_Face_undo_14
def f_Face_of (sF : PW) (sH : PW) (a1 : Int32) (a2 : Int32) : Option (Int32 × PW) :=
  bd (f_Face_isDoing sF sH a1) (fun x1 => (if x1 = 0 then bd2 (f_Face_refuseBad sF (-2 : Int32)) (fun x4 sF5 => some (x4, sF5)) else bd (f_Face_within a2 (1 : Int32)) (fun x7 => (if x7 = 0 then bd2 (f_Face_refuseBad sF (-2 : Int32)) (fun x13 sF14 => some (x13, sF14)) else (if a2 = 0 then gd (okI a1 6) (some ((sH 3 (a1).toNatClampNeg), sF)) else gd (okI a1 6) (some ((sH 4 (a1).toNatClampNeg), sF)))))))
set_option maxHeartbeats 4000000 in
set_option maxRecDepth 100000 in
theorem c_Face_of (l : Launch) (D : va_G) (ty : Nat → ClassId) (fA rA cA hA kA : Nat → Nat) (pv : Value) (sz : Nat) (sF : PW) (sH : PW) (a1 : Int32) (a2 : Int32) (rr : Int32) (tF : PW) (hf : f_Face_of sF sH a1 a2 = some (rr, tF)) : Met l y_Face_of (Cond.code y_Face_of prog_1_method_13_code 3 ((Option.some FieldType.int)) :: lw_ok) { frames := 1, cells := 0, slots := 0, locals := 21 } (PcM D ty [.ref (fA 0), .int a1, .int a2] sz (L_fh ty fA rA cA hA kA pv sF sH)) (QM D (L_fh ty fA rA cA hA kA pv tF sH) (va_A (L_fh ty fA rA cA hA kA pv sF sH) sz) (some (.int rr))) 0 0 (va_A (L_fh ty fA rA cA hA kA pv sF sH) sz) := by
  refine hdM (by decide) (Nat.le_of_ble_eq_true rfl) ?_
  intro p e s m below meth c ls R args Q A C0 hR hQ hnm hAq hP hK hD hS hl
  obtain ⟨hx, hb, hr, hlk, hml, hown, htt⟩ := id C0
  have hl : lv_has ls 3 [(0, .ref (fA 0)), (1, .int a1), (2, .int a2)] := hl
  generalize hH0 : s.heap = H at hP hS ⊢
  have hS : va_S A s.heap H [] := by rw [hH0]; exact hS
  unfold f_Face_of at hf
  refine lv_aload_n hx hb d_Face_of_0 rfl (lv_at hl 0 rfl) ?_
  refine lv_iload_n hx hb d_Face_of_1 rfl (lv_at hl 1 rfl) ?_
  obtain ⟨x1, h2, hf⟩ := bdE hf
  refine vR (q0 := 0) (ci := 10) (rest := []) C0 (c_Face_isDoing l D ty fA rA cA hA kA pv sF sH a1 x1 h2) k_392 cal_Face_isDoing hK hP rfl rfl rfl ⟨by rw [hR]; decide, by rw [hR]; decide⟩ rfl rfl rfl hl.1 rfl (Nat.le_of_ble_eq_true rfl) d_Face_of_2 ⟨Nat.zero_le _, Nat.zero_le _⟩ rfl ?_
  refine lv_if_eq (tgt := 16) hx hb d_Face_of_5 (by decide) (fun c3 => ?_) (fun c3 => ?_)
  · replace hf := iteT c3 hf
    refine lv_aload_n hx hb d_Face_of_16 rfl (lv_at hl 0 rfl) ?_
    refine lv_bipush (v := (-2 : Int32)) hx hb d_Face_of_17 (by decide) ?_
    obtain ⟨x4, sF5, h6, hf⟩ := bd2E hf
    refine vM (Lc := (L_f ty fA rA cA hA pv sF)) (Lc' := (L_f ty fA rA cA hA pv sF5)) (L' := (L_fh ty fA rA cA hA kA pv sF5 sH)) (q0 := 0) (ci := 10) (rest := []) C0 (c_Face_refuseBad l D ty fA rA cA hA pv H.size sF (-2 : Int32) x4 sF5 h6) k_237 cal_Face_refuseBad hK hP hD hS hAq [0] [1, 2, 3, 4, 5, 6, 7] [7, 0, 1, 2, 3, 4, 5, 6] [(hA 0, .inr (6, [.ref (kA 0), .ref (hA 2), .ref (hA 3), .ref (hA 4), .ref (hA 5), .ref (hA 6), .ref (hA 7), .int (sH 7 0), .int (sH 8 0), .int (sH 9 0), .int (sH 10 0), .int (sH 11 0), .int (sH 12 0), .int (sH 13 0), .int (sH 14 0)])), (hA 2, .inl (ty 0, 2, .inl (sH 1))), (hA 3, .inl (ty 0, 2, .inl (sH 2))), (hA 4, .inl (ty 0, 6, .inl (sH 3))), (hA 5, .inl (ty 0, 6, .inl (sH 4))), (hA 6, .inl (ty 0, 30, .inl (sH 5))), (hA 7, .inl (ty 0, 32, .inl (sH 6)))] rfl rfl (by decide) (by decide) (by decide) (by decide) rfl rfl rfl rfl ⟨by rw [hR]; decide, by rw [hR]; decide⟩ rfl rfl rfl hl.1 rfl (Nat.le_of_ble_eq_true rfl) d_Face_of_19 ⟨by rw [hR]; decide, by rw [hR]; decide⟩ rfl (fun H locs hP hD hS => ?_)
    obtain ⟨rfl, rfl⟩ := sj2 hf
    exact retM C0 (narI _) hQ hP hD hS d_Face_of_22
  · replace hf := iteF c3 hf
    refine lv_iload_n hx hb d_Face_of_8 rfl (lv_at hl 2 rfl) ?_
    refine lv_iconst (v := (1 : Int32)) hx hb d_Face_of_9 (by decide) ?_
    obtain ⟨x7, h8, hf⟩ := bdE hf
    refine scR (rest := []) C0 (c_Face_within l D ty a2 (1 : Int32) x7 h8) k_234 cal_Face_within hK (va_P_nil) ⟨by rw [hR]; decide, by rw [hR]; decide⟩ rfl rfl rfl hl.1 rfl (Nat.le_of_ble_eq_true rfl) d_Face_of_10 ⟨Nat.zero_le _, Nat.zero_le _⟩ rfl ?_
    refine lv_if_ne (tgt := 23) hx hb d_Face_of_13 (by decide) (fun c9 => ?_) (fun c9 => ?_)
    · replace hf := iteF c9 hf
      refine lv_iload_n hx hb d_Face_of_23 rfl (lv_at hl 2 rfl) ?_
      refine lv_if_ne (tgt := 39) hx hb d_Face_of_24 (by decide) (fun c10 => ?_) (fun c10 => ?_)
      · replace hf := iteF c10 hf
        refine lv_aload_n hx hb d_Face_of_39 rfl (lv_at hl 0 rfl) ?_
        refine va_get (D := D) (ci := 10) (v := .ref (hA 0)) (C := "BedFrontier") (T := T_Face) (N := 10) hx hb htt i_Face hown hK.1 hP 0 rfl rfl 0 (by decide) (htt _ k_199) (fun _ h9 => h9) rfl d_Face_of_40 ?_
        refine va_get (D := D) (ci := 6) (v := .ref (hA 5)) (C := "BedFrontier$House") (T := T_House) (N := 15) hx hb htt i_House hown hK.1 hP 1 rfl rfl 4 (by decide) (htt _ k_92) (fun _ h9 => h9) rfl d_Face_of_43 ?_
        refine lv_iload_n hx hb d_Face_of_46 rfl (lv_at hl 1 rfl) ?_
        obtain ⟨g11, hf⟩ := gdE hf
        refine va_iald hx hb hK.1 hP 5 0 rfl rfl (okI_in g11) d_Face_of_47 ?_
        obtain ⟨rfl, rfl⟩ := sj2 hf
        exact retM C0 (narI _) hQ hP hD hS d_Face_of_48
      · replace hf := iteT c10 hf
        refine lv_aload_n hx hb d_Face_of_27 rfl (lv_at hl 0 rfl) ?_
        refine va_get (D := D) (ci := 10) (v := .ref (hA 0)) (C := "BedFrontier") (T := T_Face) (N := 10) hx hb htt i_Face hown hK.1 hP 0 rfl rfl 0 (by decide) (htt _ k_199) (fun _ h9 => h9) rfl d_Face_of_28 ?_
        refine va_get (D := D) (ci := 6) (v := .ref (hA 4)) (C := "BedFrontier$House") (T := T_House) (N := 15) hx hb htt i_House hown hK.1 hP 1 rfl rfl 3 (by decide) (htt _ k_89) (fun _ h9 => h9) rfl d_Face_of_31 ?_
        refine lv_iload_n hx hb d_Face_of_34 rfl (lv_at hl 1 rfl) ?_
        obtain ⟨g12, hf⟩ := gdE hf
        refine va_iald hx hb hK.1 hP 4 0 rfl rfl (okI_in g12) d_Face_of_35 ?_
        refine lv_goto (tgt := 48) hx hb d_Face_of_36 (by decide) ?_
        obtain ⟨rfl, rfl⟩ := sj2 hf
        exact retM C0 (narI _) hQ hP hD hS d_Face_of_48
    · replace hf := iteT c9 hf
      refine lv_aload_n hx hb d_Face_of_16 rfl (lv_at hl 0 rfl) ?_
      refine lv_bipush (v := (-2 : Int32)) hx hb d_Face_of_17 (by decide) ?_
      obtain ⟨x13, sF14, h15, hf⟩ := bd2E hf
      refine vM (Lc := (L_f ty fA rA cA hA pv sF)) (Lc' := (L_f ty fA rA cA hA pv sF14)) (L' := (L_fh ty fA rA cA hA kA pv sF14 sH)) (q0 := 0) (ci := 10) (rest := []) C0 (c_Face_refuseBad l D ty fA rA cA hA pv H.size sF (-2 : Int32) x13 sF14 h15) k_237 cal_Face_refuseBad hK hP hD hS hAq [0] [1, 2, 3, 4, 5, 6, 7] [7, 0, 1, 2, 3, 4, 5, 6] [(hA 0, .inr (6, [.ref (kA 0), .ref (hA 2), .ref (hA 3), .ref (hA 4), .ref (hA 5), .ref (hA 6), .ref (hA 7), .int (sH 7 0), .int (sH 8 0), .int (sH 9 0), .int (sH 10 0), .int (sH 11 0), .int (sH 12 0), .int (sH 13 0), .int (sH 14 0)])), (hA 2, .inl (ty 0, 2, .inl (sH 1))), (hA 3, .inl (ty 0, 2, .inl (sH 2))), (hA 4, .inl (ty 0, 6, .inl (sH 3))), (hA 5, .inl (ty 0, 6, .inl (sH 4))), (hA 6, .inl (ty 0, 30, .inl (sH 5))), (hA 7, .inl (ty 0, 32, .inl (sH 6)))] rfl rfl (by decide) (by decide) (by decide) (by decide) rfl rfl rfl rfl ⟨by rw [hR]; decide, by rw [hR]; decide⟩ rfl rfl rfl hl.1 rfl (Nat.le_of_ble_eq_true rfl) d_Face_of_19 ⟨by rw [hR]; decide, by rw [hR]; decide⟩ rfl (fun H locs hP hD hS => ?_)
      obtain ⟨rfl, rfl⟩ := sj2 hf
      exact retM C0 (narI _) hQ hP hD hS d_Face_of_22
def f_Face_now (sF : PW) (sH : PW) (a1 : Int32) : Option (Int32 × PW) :=
  (if a1 = (0 : Int32) then some ((sH 9 0), sF) else (if a1 = (1 : Int32) then some ((sH 10 0), sF) else (if a1 = (2 : Int32) then some ((sH 11 0), sF) else (if a1 = (3 : Int32) then bd (f_House_warBit sH) (fun x5 => some (x5, sF)) else bd2 (f_Face_refuseBad sF (-2 : Int32)) (fun x7 sF8 => some (x7, sF8))))))
set_option maxHeartbeats 4000000 in
set_option maxRecDepth 100000 in
theorem c_Face_now (l : Launch) (D : va_G) (ty : Nat → ClassId) (fA rA cA hA kA : Nat → Nat) (pv : Value) (sz : Nat) (sF : PW) (sH : PW) (a1 : Int32) (rr : Int32) (tF : PW) (hf : f_Face_now sF sH a1 = some (rr, tF)) : Met l y_Face_now (Cond.code y_Face_now prog_1_method_14_code 2 ((Option.some FieldType.int)) :: lw_ok) { frames := 1, cells := 0, slots := 0, locals := 21 } (PcM D ty [.ref (fA 0), .int a1] sz (L_fh ty fA rA cA hA kA pv sF sH)) (QM D (L_fh ty fA rA cA hA kA pv tF sH) (va_A (L_fh ty fA rA cA hA kA pv sF sH) sz) (some (.int rr))) 0 0 (va_A (L_fh ty fA rA cA hA kA pv sF sH) sz) := by
  refine hdM (by decide) (Nat.le_of_ble_eq_true rfl) ?_
  intro p e s m below meth c ls R args Q A C0 hR hQ hnm hAq hP hK hD hS hl
  obtain ⟨hx, hb, hr, hlk, hml, hown, htt⟩ := id C0
  have hl : lv_has ls 2 [(0, .ref (fA 0)), (1, .int a1)] := hl
  generalize hH0 : s.heap = H at hP hS ⊢
  have hS : va_S A s.heap H [] := by rw [hH0]; exact hS
  unfold f_Face_now at hf
  refine lv_iload_n hx hb d_Face_now_0 rfl (lv_at hl 1 rfl) ?_
  by_cases c1 : a1 = (0 : Int32)
  · replace hf := iteT c1 hf
    refine lv_tableIn (off := 31) (tgt := 32) hx hb d_Face_now_1 (by rw [c1]; decide) (by rw [c1]; decide) (by rw [c1]; rfl) (by decide) ?_
    refine lv_aload_n hx hb d_Face_now_32 rfl (lv_at hl 0 rfl) ?_
    refine va_get (D := D) (ci := 10) (v := .ref (hA 0)) (C := "BedFrontier") (T := T_Face) (N := 10) hx hb htt i_Face hown hK.1 hP 0 rfl rfl 0 (by decide) (htt _ k_199) (fun _ h9 => h9) rfl d_Face_now_33 ?_
    refine va_get (D := D) (ci := 6) (v := .int (sH 9 0)) (C := "BedFrontier$House") (T := T_House) (N := 15) hx hb htt i_House hown hK.1 hP 1 rfl rfl 9 (by decide) (htt _ k_104) (fun _ h9 => h9) rfl d_Face_now_36 ?_
    obtain ⟨rfl, rfl⟩ := sj2 hf
    exact retM C0 (narI _) hQ hP hD hS d_Face_now_39
  replace hf := iteF c1 hf
  by_cases c2 : a1 = (1 : Int32)
  · replace hf := iteT c2 hf
    refine lv_tableIn (off := 39) (tgt := 40) hx hb d_Face_now_1 (by rw [c2]; decide) (by rw [c2]; decide) (by rw [c2]; rfl) (by decide) ?_
    refine lv_aload_n hx hb d_Face_now_40 rfl (lv_at hl 0 rfl) ?_
    refine va_get (D := D) (ci := 10) (v := .ref (hA 0)) (C := "BedFrontier") (T := T_Face) (N := 10) hx hb htt i_Face hown hK.1 hP 0 rfl rfl 0 (by decide) (htt _ k_199) (fun _ h9 => h9) rfl d_Face_now_41 ?_
    refine va_get (D := D) (ci := 6) (v := .int (sH 10 0)) (C := "BedFrontier$House") (T := T_House) (N := 15) hx hb htt i_House hown hK.1 hP 1 rfl rfl 10 (by decide) (htt _ k_109) (fun _ h9 => h9) rfl d_Face_now_44 ?_
    obtain ⟨rfl, rfl⟩ := sj2 hf
    exact retM C0 (narI _) hQ hP hD hS d_Face_now_47
  replace hf := iteF c2 hf
  by_cases c3 : a1 = (2 : Int32)
  · replace hf := iteT c3 hf
    refine lv_tableIn (off := 47) (tgt := 48) hx hb d_Face_now_1 (by rw [c3]; decide) (by rw [c3]; decide) (by rw [c3]; rfl) (by decide) ?_
    refine lv_aload_n hx hb d_Face_now_48 rfl (lv_at hl 0 rfl) ?_
    refine va_get (D := D) (ci := 10) (v := .ref (hA 0)) (C := "BedFrontier") (T := T_Face) (N := 10) hx hb htt i_Face hown hK.1 hP 0 rfl rfl 0 (by decide) (htt _ k_199) (fun _ h9 => h9) rfl d_Face_now_49 ?_
    refine va_get (D := D) (ci := 6) (v := .int (sH 11 0)) (C := "BedFrontier$House") (T := T_House) (N := 15) hx hb htt i_House hown hK.1 hP 1 rfl rfl 11 (by decide) (htt _ k_111) (fun _ h9 => h9) rfl d_Face_now_52 ?_
    obtain ⟨rfl, rfl⟩ := sj2 hf
    exact retM C0 (narI _) hQ hP hD hS d_Face_now_55
  replace hf := iteF c3 hf
  by_cases c4 : a1 = (3 : Int32)
  · replace hf := iteT c4 hf
    refine lv_tableIn (off := 55) (tgt := 56) hx hb d_Face_now_1 (by rw [c4]; decide) (by rw [c4]; decide) (by rw [c4]; rfl) (by decide) ?_
    refine lv_aload_n hx hb d_Face_now_56 rfl (lv_at hl 0 rfl) ?_
    refine va_get (D := D) (ci := 10) (v := .ref (hA 0)) (C := "BedFrontier") (T := T_Face) (N := 10) hx hb htt i_Face hown hK.1 hP 0 rfl rfl 0 (by decide) (htt _ k_199) (fun _ h9 => h9) rfl d_Face_now_57 ?_
    obtain ⟨x5, h6, hf⟩ := bdE hf
    refine vR (q0 := 0) (ci := 6) (rest := []) C0 (c_House_warBit l D ty hA kA sH x5 h6) k_485 cal_House_warBit hK (hP.sub (ws' := (L_h ty hA kA sH)) [1, 2, 3, 4, 5, 6, 7] rfl) rfl rfl rfl ⟨by rw [hR]; decide, by rw [hR]; decide⟩ rfl rfl rfl hl.1 rfl (Nat.le_of_ble_eq_true rfl) d_Face_now_60 ⟨Nat.zero_le _, Nat.zero_le _⟩ rfl ?_
    obtain ⟨rfl, rfl⟩ := sj2 hf
    exact retM C0 (narI _) hQ hP hD hS d_Face_now_63
  replace hf := iteF c4 hf
  refine lv_tableOut (tgt := 64) hx hb d_Face_now_1 (by have c1' := lv_neT (a := 0) c1 rfl; have c2' := lv_neT (a := 1) c2 rfl; have c3' := lv_neT (a := 2) c3 rfl; have c4' := lv_neT (a := 3) c4 rfl; omega) (by decide) ?_
  refine lv_aload_n hx hb d_Face_now_64 rfl (lv_at hl 0 rfl) ?_
  refine lv_bipush (v := (-2 : Int32)) hx hb d_Face_now_65 (by decide) ?_
  obtain ⟨x7, sF8, h9, hf⟩ := bd2E hf
  refine vM (Lc := (L_f ty fA rA cA hA pv sF)) (Lc' := (L_f ty fA rA cA hA pv sF8)) (L' := (L_fh ty fA rA cA hA kA pv sF8 sH)) (q0 := 0) (ci := 10) (rest := []) C0 (c_Face_refuseBad l D ty fA rA cA hA pv H.size sF (-2 : Int32) x7 sF8 h9) k_237 cal_Face_refuseBad hK hP hD hS hAq [0] [1, 2, 3, 4, 5, 6, 7] [7, 0, 1, 2, 3, 4, 5, 6] [(hA 0, .inr (6, [.ref (kA 0), .ref (hA 2), .ref (hA 3), .ref (hA 4), .ref (hA 5), .ref (hA 6), .ref (hA 7), .int (sH 7 0), .int (sH 8 0), .int (sH 9 0), .int (sH 10 0), .int (sH 11 0), .int (sH 12 0), .int (sH 13 0), .int (sH 14 0)])), (hA 2, .inl (ty 0, 2, .inl (sH 1))), (hA 3, .inl (ty 0, 2, .inl (sH 2))), (hA 4, .inl (ty 0, 6, .inl (sH 3))), (hA 5, .inl (ty 0, 6, .inl (sH 4))), (hA 6, .inl (ty 0, 30, .inl (sH 5))), (hA 7, .inl (ty 0, 32, .inl (sH 6)))] rfl rfl (by decide) (by decide) (by decide) (by decide) rfl rfl rfl rfl ⟨by rw [hR]; decide, by rw [hR]; decide⟩ rfl rfl rfl hl.1 rfl (Nat.le_of_ble_eq_true rfl) d_Face_now_67 ⟨by rw [hR]; decide, by rw [hR]; decide⟩ rfl (fun H locs hP hD hS => ?_)
  obtain ⟨rfl, rfl⟩ := sj2 hf
  exact retM C0 (narI _) hQ hP hD hS d_Face_now_70
def f_Face_due (sF : PW) (sH : PW) (a1 : Int32) (a2 : Int32) (a3 : Int32) : Option (Int32 × PW) :=
  bd (f_Face_isDoing sF sH a1) (fun x1 => (if x1 = 0 then bd2 (f_Face_refuseBad sF (-2 : Int32)) (fun x4 sF5 => some (x4, sF5)) else bd (f_Face_isSide a2) (fun x7 => (if x7 = 0 then bd2 (f_Face_refuseBad sF (-2 : Int32)) (fun x10 sF11 => some (x10, sF11)) else bd (f_Face_isHour a3) (fun x13 => (if x13 = 0 then bd2 (f_Face_refuseBad sF (-2 : Int32)) (fun x21 sF22 => some (x21, sF22)) else bd (f_House_lets sH a1 a2 a3) (fun x16 => (if x16 = 0 then some ((-1 : Int32), sF) else bd (f_House_owed sH a1 a2 a3) (fun x19 => some (x19, sF))))))))))
set_option maxHeartbeats 4000000 in
set_option maxRecDepth 100000 in
theorem c_Face_due (l : Launch) (D : va_G) (ty : Nat → ClassId) (fA rA cA hA kA : Nat → Nat) (pv : Value) (sz : Nat) (sF : PW) (sH : PW) (a1 : Int32) (a2 : Int32) (a3 : Int32) (rr : Int32) (tF : PW) (hf : f_Face_due sF sH a1 a2 a3 = some (rr, tF)) : Met l y_Face_due (Cond.code y_Face_due prog_1_method_15_code 4 ((Option.some FieldType.int)) :: lw_ok) { frames := 6, cells := 0, slots := 0, locals := 166 } (PcM D ty [.ref (fA 0), .int a1, .int a2, .int a3] sz (L_fhk ty fA rA cA hA kA pv sF sH)) (QM D (L_fhk ty fA rA cA hA kA pv tF sH) (va_A (L_fhk ty fA rA cA hA kA pv sF sH) sz) (some (.int rr))) 0 0 (va_A (L_fhk ty fA rA cA hA kA pv sF sH) sz) := by
  refine hdM (by decide) (Nat.le_of_ble_eq_true rfl) ?_
  intro p e s m below meth c ls R args Q A C0 hR hQ hnm hAq hP hK hD hS hl
  obtain ⟨hx, hb, hr, hlk, hml, hown, htt⟩ := id C0
  have hl : lv_has ls 4 [(0, .ref (fA 0)), (1, .int a1), (2, .int a2), (3, .int a3)] := hl
  generalize hH0 : s.heap = H at hP hS ⊢
  have hS : va_S A s.heap H [] := by rw [hH0]; exact hS
  unfold f_Face_due at hf
  refine lv_aload_n hx hb d_Face_due_0 rfl (lv_at hl 0 rfl) ?_
  refine lv_iload_n hx hb d_Face_due_1 rfl (lv_at hl 1 rfl) ?_
  obtain ⟨x1, h2, hf⟩ := bdE hf
  refine vR (q0 := 0) (ci := 10) (rest := []) C0 (c_Face_isDoing l D ty fA rA cA hA kA pv sF sH a1 x1 h2) k_392 cal_Face_isDoing hK (hP.sub (ws' := (L_fh ty fA rA cA hA kA pv sF sH)) [0, 1, 2, 3, 4, 5, 6, 7] rfl) rfl rfl rfl ⟨by rw [hR]; decide, by rw [hR]; decide⟩ rfl rfl rfl hl.1 rfl (Nat.le_of_ble_eq_true rfl) d_Face_due_2 ⟨Nat.zero_le _, Nat.zero_le _⟩ rfl ?_
  refine lv_if_eq (tgt := 22) hx hb d_Face_due_5 (by decide) (fun c3 => ?_) (fun c3 => ?_)
  · replace hf := iteT c3 hf
    refine lv_aload_n hx hb d_Face_due_22 rfl (lv_at hl 0 rfl) ?_
    refine lv_bipush (v := (-2 : Int32)) hx hb d_Face_due_23 (by decide) ?_
    obtain ⟨x4, sF5, h6, hf⟩ := bd2E hf
    refine vM (Lc := (L_f ty fA rA cA hA pv sF)) (Lc' := (L_f ty fA rA cA hA pv sF5)) (L' := (L_fhk ty fA rA cA hA kA pv sF5 sH)) (q0 := 0) (ci := 10) (rest := []) C0 (c_Face_refuseBad l D ty fA rA cA hA pv H.size sF (-2 : Int32) x4 sF5 h6) k_237 cal_Face_refuseBad hK hP hD hS hAq [0] [1, 2, 3, 4, 5, 6, 7, 8, 9, 10, 11, 12, 13, 14] [14, 0, 1, 2, 3, 4, 5, 6, 7, 8, 9, 10, 11, 12, 13] [(hA 0, .inr (6, [.ref (kA 0), .ref (hA 2), .ref (hA 3), .ref (hA 4), .ref (hA 5), .ref (hA 6), .ref (hA 7), .int (sH 7 0), .int (sH 8 0), .int (sH 9 0), .int (sH 10 0), .int (sH 11 0), .int (sH 12 0), .int (sH 13 0), .int (sH 14 0)])), (hA 2, .inl (ty 0, 2, .inl (sH 1))), (hA 3, .inl (ty 0, 2, .inl (sH 2))), (hA 4, .inl (ty 0, 6, .inl (sH 3))), (hA 5, .inl (ty 0, 6, .inl (sH 4))), (hA 6, .inl (ty 0, 30, .inl (sH 5))), (hA 7, .inl (ty 0, 32, .inl (sH 6))), (kA 0, .inl (ty 3, 6, .inr (.inr (.inr (.inr (fun i => some (kA (i + 1)))))))), (kA 1, .inr (0, [])), (kA 2, .inr (1, [])), (kA 3, .inr (2, [])), (kA 4, .inr (3, [])), (kA 5, .inr (4, [])), (kA 6, .inr (5, []))] rfl rfl (by decide) (by decide) (by decide) (by decide) rfl rfl rfl rfl ⟨by rw [hR]; decide, by rw [hR]; decide⟩ rfl rfl rfl hl.1 rfl (Nat.le_of_ble_eq_true rfl) d_Face_due_25 ⟨by rw [hR]; decide, by rw [hR]; decide⟩ rfl (fun H locs hP hD hS => ?_)
    obtain ⟨rfl, rfl⟩ := sj2 hf
    exact retM C0 (narI _) hQ hP hD hS d_Face_due_28
  · replace hf := iteF c3 hf
    refine lv_iload_n hx hb d_Face_due_8 rfl (lv_at hl 2 rfl) ?_
    obtain ⟨x7, h8, hf⟩ := bdE hf
    refine scR (rest := []) C0 (c_Face_isSide l D ty a2 x7 h8) k_246 cal_Face_isSide hK (va_P_nil) ⟨by rw [hR]; decide, by rw [hR]; decide⟩ rfl rfl rfl hl.1 rfl (Nat.le_of_ble_eq_true rfl) d_Face_due_9 ⟨Nat.zero_le _, Nat.zero_le _⟩ rfl ?_
    refine lv_if_eq (tgt := 22) hx hb d_Face_due_12 (by decide) (fun c9 => ?_) (fun c9 => ?_)
    · replace hf := iteT c9 hf
      refine lv_aload_n hx hb d_Face_due_22 rfl (lv_at hl 0 rfl) ?_
      refine lv_bipush (v := (-2 : Int32)) hx hb d_Face_due_23 (by decide) ?_
      obtain ⟨x10, sF11, h12, hf⟩ := bd2E hf
      refine vM (Lc := (L_f ty fA rA cA hA pv sF)) (Lc' := (L_f ty fA rA cA hA pv sF11)) (L' := (L_fhk ty fA rA cA hA kA pv sF11 sH)) (q0 := 0) (ci := 10) (rest := []) C0 (c_Face_refuseBad l D ty fA rA cA hA pv H.size sF (-2 : Int32) x10 sF11 h12) k_237 cal_Face_refuseBad hK hP hD hS hAq [0] [1, 2, 3, 4, 5, 6, 7, 8, 9, 10, 11, 12, 13, 14] [14, 0, 1, 2, 3, 4, 5, 6, 7, 8, 9, 10, 11, 12, 13] [(hA 0, .inr (6, [.ref (kA 0), .ref (hA 2), .ref (hA 3), .ref (hA 4), .ref (hA 5), .ref (hA 6), .ref (hA 7), .int (sH 7 0), .int (sH 8 0), .int (sH 9 0), .int (sH 10 0), .int (sH 11 0), .int (sH 12 0), .int (sH 13 0), .int (sH 14 0)])), (hA 2, .inl (ty 0, 2, .inl (sH 1))), (hA 3, .inl (ty 0, 2, .inl (sH 2))), (hA 4, .inl (ty 0, 6, .inl (sH 3))), (hA 5, .inl (ty 0, 6, .inl (sH 4))), (hA 6, .inl (ty 0, 30, .inl (sH 5))), (hA 7, .inl (ty 0, 32, .inl (sH 6))), (kA 0, .inl (ty 3, 6, .inr (.inr (.inr (.inr (fun i => some (kA (i + 1)))))))), (kA 1, .inr (0, [])), (kA 2, .inr (1, [])), (kA 3, .inr (2, [])), (kA 4, .inr (3, [])), (kA 5, .inr (4, [])), (kA 6, .inr (5, []))] rfl rfl (by decide) (by decide) (by decide) (by decide) rfl rfl rfl rfl ⟨by rw [hR]; decide, by rw [hR]; decide⟩ rfl rfl rfl hl.1 rfl (Nat.le_of_ble_eq_true rfl) d_Face_due_25 ⟨by rw [hR]; decide, by rw [hR]; decide⟩ rfl (fun H locs hP hD hS => ?_)
      obtain ⟨rfl, rfl⟩ := sj2 hf
      exact retM C0 (narI _) hQ hP hD hS d_Face_due_28
    · replace hf := iteF c9 hf
      refine lv_iload_n hx hb d_Face_due_15 rfl (lv_at hl 3 rfl) ?_
      obtain ⟨x13, h14, hf⟩ := bdE hf
      refine scR (rest := []) C0 (c_Face_isHour l D ty a3 x13 h14) k_506 cal_Face_isHour hK (va_P_nil) ⟨by rw [hR]; decide, by rw [hR]; decide⟩ rfl rfl rfl hl.1 rfl (Nat.le_of_ble_eq_true rfl) d_Face_due_16 ⟨Nat.zero_le _, Nat.zero_le _⟩ rfl ?_
      refine lv_if_ne (tgt := 29) hx hb d_Face_due_19 (by decide) (fun c15 => ?_) (fun c15 => ?_)
      · replace hf := iteF c15 hf
        refine lv_aload_n hx hb d_Face_due_29 rfl (lv_at hl 0 rfl) ?_
        refine va_get (D := D) (ci := 10) (v := .ref (hA 0)) (C := "BedFrontier") (T := T_Face) (N := 10) hx hb htt i_Face hown hK.1 hP 0 rfl rfl 0 (by decide) (htt _ k_199) (fun _ h9 => h9) rfl d_Face_due_30 ?_
        refine lv_iload_n hx hb d_Face_due_33 rfl (lv_at hl 1 rfl) ?_
        refine lv_iload_n hx hb d_Face_due_34 rfl (lv_at hl 2 rfl) ?_
        refine lv_iload_n hx hb d_Face_due_35 rfl (lv_at hl 3 rfl) ?_
        obtain ⟨x16, h17, hf⟩ := bdE hf
        refine vR (q0 := 0) (ci := 6) (rest := []) C0 (c_House_lets l D ty hA kA sH a1 a2 a3 x16 h17) k_396 cal_House_lets hK (hP.sub (ws' := (L_hk ty hA kA sH)) [1, 2, 3, 4, 5, 6, 7, 8, 9, 10, 11, 12, 13, 14] rfl) rfl rfl rfl ⟨by rw [hR]; decide, by rw [hR]; decide⟩ rfl rfl rfl hl.1 rfl (Nat.le_of_ble_eq_true rfl) d_Face_due_36 ⟨Nat.zero_le _, Nat.zero_le _⟩ rfl ?_
        refine lv_if_eq (tgt := 55) hx hb d_Face_due_39 (by decide) (fun c18 => ?_) (fun c18 => ?_)
        · replace hf := iteT c18 hf
          refine lv_iconst (v := (-1 : Int32)) hx hb d_Face_due_55 (by decide) ?_
          obtain ⟨rfl, rfl⟩ := sj2 hf
          exact retM C0 (narI _) hQ hP hD hS d_Face_due_56
        · replace hf := iteF c18 hf
          refine lv_aload_n hx hb d_Face_due_42 rfl (lv_at hl 0 rfl) ?_
          refine va_get (D := D) (ci := 10) (v := .ref (hA 0)) (C := "BedFrontier") (T := T_Face) (N := 10) hx hb htt i_Face hown hK.1 hP 0 rfl rfl 0 (by decide) (htt _ k_199) (fun _ h9 => h9) rfl d_Face_due_43 ?_
          refine lv_iload_n hx hb d_Face_due_46 rfl (lv_at hl 1 rfl) ?_
          refine lv_iload_n hx hb d_Face_due_47 rfl (lv_at hl 2 rfl) ?_
          refine lv_iload_n hx hb d_Face_due_48 rfl (lv_at hl 3 rfl) ?_
          obtain ⟨x19, h20, hf⟩ := bdE hf
          refine vR (q0 := 0) (ci := 6) (rest := []) C0 (c_House_owed l D ty hA kA sH a1 a2 a3 x19 h20) k_509 cal_House_owed hK (hP.sub (ws' := (L_hk ty hA kA sH)) [1, 2, 3, 4, 5, 6, 7, 8, 9, 10, 11, 12, 13, 14] rfl) rfl rfl rfl ⟨by rw [hR]; decide, by rw [hR]; decide⟩ rfl rfl rfl hl.1 rfl (Nat.le_of_ble_eq_true rfl) d_Face_due_49 ⟨Nat.zero_le _, Nat.zero_le _⟩ rfl ?_
          refine lv_goto (tgt := 56) hx hb d_Face_due_52 (by decide) ?_
          obtain ⟨rfl, rfl⟩ := sj2 hf
          exact retM C0 (narI _) hQ hP hD hS d_Face_due_56
      · replace hf := iteT c15 hf
        refine lv_aload_n hx hb d_Face_due_22 rfl (lv_at hl 0 rfl) ?_
        refine lv_bipush (v := (-2 : Int32)) hx hb d_Face_due_23 (by decide) ?_
        obtain ⟨x21, sF22, h23, hf⟩ := bd2E hf
        refine vM (Lc := (L_f ty fA rA cA hA pv sF)) (Lc' := (L_f ty fA rA cA hA pv sF22)) (L' := (L_fhk ty fA rA cA hA kA pv sF22 sH)) (q0 := 0) (ci := 10) (rest := []) C0 (c_Face_refuseBad l D ty fA rA cA hA pv H.size sF (-2 : Int32) x21 sF22 h23) k_237 cal_Face_refuseBad hK hP hD hS hAq [0] [1, 2, 3, 4, 5, 6, 7, 8, 9, 10, 11, 12, 13, 14] [14, 0, 1, 2, 3, 4, 5, 6, 7, 8, 9, 10, 11, 12, 13] [(hA 0, .inr (6, [.ref (kA 0), .ref (hA 2), .ref (hA 3), .ref (hA 4), .ref (hA 5), .ref (hA 6), .ref (hA 7), .int (sH 7 0), .int (sH 8 0), .int (sH 9 0), .int (sH 10 0), .int (sH 11 0), .int (sH 12 0), .int (sH 13 0), .int (sH 14 0)])), (hA 2, .inl (ty 0, 2, .inl (sH 1))), (hA 3, .inl (ty 0, 2, .inl (sH 2))), (hA 4, .inl (ty 0, 6, .inl (sH 3))), (hA 5, .inl (ty 0, 6, .inl (sH 4))), (hA 6, .inl (ty 0, 30, .inl (sH 5))), (hA 7, .inl (ty 0, 32, .inl (sH 6))), (kA 0, .inl (ty 3, 6, .inr (.inr (.inr (.inr (fun i => some (kA (i + 1)))))))), (kA 1, .inr (0, [])), (kA 2, .inr (1, [])), (kA 3, .inr (2, [])), (kA 4, .inr (3, [])), (kA 5, .inr (4, [])), (kA 6, .inr (5, []))] rfl rfl (by decide) (by decide) (by decide) (by decide) rfl rfl rfl rfl ⟨by rw [hR]; decide, by rw [hR]; decide⟩ rfl rfl rfl hl.1 rfl (Nat.le_of_ble_eq_true rfl) d_Face_due_25 ⟨by rw [hR]; decide, by rw [hR]; decide⟩ rfl (fun H locs hP hD hS => ?_)
        obtain ⟨rfl, rfl⟩ := sj2 hf
        exact retM C0 (narI _) hQ hP hD hS d_Face_due_28
def f_Face_both (sF : PW) (sC : PW) (sH : PW) (a1 : Int32) (a2 : Int32) : Option (Int32 × PW) :=
  bd (f_Face_isDoing sF sH a1) (fun x1 => (if x1 = 0 then bd2 (f_Face_refuseBad sF (-2 : Int32)) (fun x4 sF5 => some (x4, sF5)) else bd (f_Face_within a2 (1 : Int32)) (fun x7 => (if x7 = 0 then bd2 (f_Face_refuseBad sF (-2 : Int32)) (fun x15 sF16 => some (x15, sF16)) else bd (f_Clerk_hoursBothBar sC sH a1) (fun x10 => (if a2 = 0 then some (x10, sF) else bd (f_Clerk_firstFromNow sC sH x10) (fun x13 => some (x13, sF))))))))
set_option maxHeartbeats 4000000 in
set_option maxRecDepth 100000 in
theorem c_Face_both (l : Launch) (D : va_G) (ty : Nat → ClassId) (fA rA cA hA kA : Nat → Nat) (pv : Value) (sz : Nat) (sF : PW) (sC : PW) (sH : PW) (a1 : Int32) (a2 : Int32) (rr : Int32) (tF : PW) (hf : f_Face_both sF sC sH a1 a2 = some (rr, tF)) : Met l y_Face_both (Cond.code y_Face_both prog_1_method_16_code 4 ((Option.some FieldType.int)) :: lw_ok) { frames := 7, cells := 0, slots := 0, locals := 189 } (PcM D ty [.ref (fA 0), .int a1, .int a2] sz (L_fchk ty fA rA cA hA kA pv sF sC sH)) (QM D (L_fchk ty fA rA cA hA kA pv tF sC sH) (va_A (L_fchk ty fA rA cA hA kA pv sF sC sH) sz) (some (.int rr))) 0 0 (va_A (L_fchk ty fA rA cA hA kA pv sF sC sH) sz) := by
  refine hdM (by decide) (Nat.le_of_ble_eq_true rfl) ?_
  intro p e s m below meth c ls R args Q A C0 hR hQ hnm hAq hP hK hD hS hl
  obtain ⟨hx, hb, hr, hlk, hml, hown, htt⟩ := id C0
  have hl : lv_has ls 4 [(0, .ref (fA 0)), (1, .int a1), (2, .int a2)] := hl
  generalize hH0 : s.heap = H at hP hS ⊢
  have hS : va_S A s.heap H [] := by rw [hH0]; exact hS
  unfold f_Face_both at hf
  refine lv_aload_n hx hb d_Face_both_0 rfl (lv_at hl 0 rfl) ?_
  refine lv_iload_n hx hb d_Face_both_1 rfl (lv_at hl 1 rfl) ?_
  obtain ⟨x1, h2, hf⟩ := bdE hf
  refine vR (q0 := 0) (ci := 10) (rest := []) C0 (c_Face_isDoing l D ty fA rA cA hA kA pv sF sH a1 x1 h2) k_392 cal_Face_isDoing hK (hP.sub (ws' := (L_fh ty fA rA cA hA kA pv sF sH)) [0, 3, 4, 5, 6, 7, 8, 9] rfl) rfl rfl rfl ⟨by rw [hR]; decide, by rw [hR]; decide⟩ rfl rfl rfl hl.1 rfl (Nat.le_of_ble_eq_true rfl) d_Face_both_2 ⟨Nat.zero_le _, Nat.zero_le _⟩ rfl ?_
  refine lv_if_eq (tgt := 16) hx hb d_Face_both_5 (by decide) (fun c3 => ?_) (fun c3 => ?_)
  · replace hf := iteT c3 hf
    refine lv_aload_n hx hb d_Face_both_16 rfl (lv_at hl 0 rfl) ?_
    refine lv_bipush (v := (-2 : Int32)) hx hb d_Face_both_17 (by decide) ?_
    obtain ⟨x4, sF5, h6, hf⟩ := bd2E hf
    refine vM (Lc := (L_f ty fA rA cA hA pv sF)) (Lc' := (L_f ty fA rA cA hA pv sF5)) (L' := (L_fchk ty fA rA cA hA kA pv sF5 sC sH)) (q0 := 0) (ci := 10) (rest := []) C0 (c_Face_refuseBad l D ty fA rA cA hA pv H.size sF (-2 : Int32) x4 sF5 h6) k_237 cal_Face_refuseBad hK hP hD hS hAq [0] [1, 2, 3, 4, 5, 6, 7, 8, 9, 10, 11, 12, 13, 14, 15, 16] [16, 0, 1, 2, 3, 4, 5, 6, 7, 8, 9, 10, 11, 12, 13, 14, 15] [(cA 0, .inr (8, [.ref (hA 0), .ref (cA 2)])), (cA 2, .inl (ty 0, 6, .inl (sC 1))), (hA 0, .inr (6, [.ref (kA 0), .ref (hA 2), .ref (hA 3), .ref (hA 4), .ref (hA 5), .ref (hA 6), .ref (hA 7), .int (sH 7 0), .int (sH 8 0), .int (sH 9 0), .int (sH 10 0), .int (sH 11 0), .int (sH 12 0), .int (sH 13 0), .int (sH 14 0)])), (hA 2, .inl (ty 0, 2, .inl (sH 1))), (hA 3, .inl (ty 0, 2, .inl (sH 2))), (hA 4, .inl (ty 0, 6, .inl (sH 3))), (hA 5, .inl (ty 0, 6, .inl (sH 4))), (hA 6, .inl (ty 0, 30, .inl (sH 5))), (hA 7, .inl (ty 0, 32, .inl (sH 6))), (kA 0, .inl (ty 3, 6, .inr (.inr (.inr (.inr (fun i => some (kA (i + 1)))))))), (kA 1, .inr (0, [])), (kA 2, .inr (1, [])), (kA 3, .inr (2, [])), (kA 4, .inr (3, [])), (kA 5, .inr (4, [])), (kA 6, .inr (5, []))] rfl rfl (by decide) (by decide) (by decide) (by decide) rfl rfl rfl rfl ⟨by rw [hR]; decide, by rw [hR]; decide⟩ rfl rfl rfl hl.1 rfl (Nat.le_of_ble_eq_true rfl) d_Face_both_19 ⟨by rw [hR]; decide, by rw [hR]; decide⟩ rfl (fun H locs hP hD hS => ?_)
    obtain ⟨rfl, rfl⟩ := sj2 hf
    exact retM C0 (narI _) hQ hP hD hS d_Face_both_22
  · replace hf := iteF c3 hf
    refine lv_iload_n hx hb d_Face_both_8 rfl (lv_at hl 2 rfl) ?_
    refine lv_iconst (v := (1 : Int32)) hx hb d_Face_both_9 (by decide) ?_
    obtain ⟨x7, h8, hf⟩ := bdE hf
    refine scR (rest := []) C0 (c_Face_within l D ty a2 (1 : Int32) x7 h8) k_234 cal_Face_within hK (va_P_nil) ⟨by rw [hR]; decide, by rw [hR]; decide⟩ rfl rfl rfl hl.1 rfl (Nat.le_of_ble_eq_true rfl) d_Face_both_10 ⟨Nat.zero_le _, Nat.zero_le _⟩ rfl ?_
    refine lv_if_ne (tgt := 23) hx hb d_Face_both_13 (by decide) (fun c9 => ?_) (fun c9 => ?_)
    · replace hf := iteF c9 hf
      refine lv_aload_n hx hb d_Face_both_23 rfl (lv_at hl 0 rfl) ?_
      refine va_get (D := D) (ci := 10) (v := .ref (cA 0)) (C := "BedFrontier") (T := T_Face) (N := 10) hx hb htt i_Face hown hK.1 hP 0 rfl rfl 2 (by decide) (htt _ k_201) (fun _ h9 => h9) rfl d_Face_both_24 ?_
      refine lv_iload_n hx hb d_Face_both_27 rfl (lv_at hl 1 rfl) ?_
      obtain ⟨x10, h11, hf⟩ := bdE hf
      refine vR (q0 := 0) (ci := 8) (rest := []) C0 (c_Clerk_hoursBothBar l D ty cA hA kA sC sH a1 x10 h11) k_514 cal_Clerk_hoursBothBar hK (hP.sub (ws' := (L_chk ty cA hA kA sC sH)) [1, 2, 3, 4, 5, 6, 7, 8, 9, 10, 11, 12, 13, 14, 15, 16] rfl) rfl rfl rfl ⟨by rw [hR]; decide, by rw [hR]; decide⟩ rfl rfl rfl hl.1 rfl (Nat.le_of_ble_eq_true rfl) d_Face_both_28 ⟨Nat.zero_le _, Nat.zero_le _⟩ rfl ?_
      refine lv_istore_n (lv' := [(3, .int x10), (0, .ref (fA 0)), (1, .int a1), (2, .int a2)]) hx hb d_Face_both_31 rfl hl (by decide) rfl (fun ls hl => ?_)
      refine lv_iload_n hx hb d_Face_both_32 rfl (lv_at hl 3 rfl) ?_
      refine lv_if_ne (tgt := 40) hx hb d_Face_both_33 (by decide) (fun c12 => ?_) (fun c12 => ?_)
      · replace hf := iteF c12 hf
        refine lv_aload_n hx hb d_Face_both_40 rfl (lv_at hl 1 rfl) ?_
        refine va_get (D := D) (ci := 10) (v := .ref (cA 0)) (C := "BedFrontier") (T := T_Face) (N := 10) hx hb htt i_Face hown hK.1 hP 0 rfl rfl 2 (by decide) (htt _ k_201) (fun _ h9 => h9) rfl d_Face_both_41 ?_
        refine lv_iload_n hx hb d_Face_both_44 rfl (lv_at hl 0 rfl) ?_
        obtain ⟨x13, h14, hf⟩ := bdE hf
        refine vR (q0 := 0) (ci := 8) (rest := []) C0 (c_Clerk_firstFromNow l D ty cA hA kA sC sH x10 x13 h14) k_519 cal_Clerk_firstFromNow hK (hP.sub (ws' := (L_ch ty cA hA kA sC sH)) [1, 2, 3, 4, 5, 6, 7, 8, 9] rfl) rfl rfl rfl ⟨by rw [hR]; decide, by rw [hR]; decide⟩ rfl rfl rfl hl.1 rfl (Nat.le_of_ble_eq_true rfl) d_Face_both_45 ⟨Nat.zero_le _, Nat.zero_le _⟩ rfl ?_
        obtain ⟨rfl, rfl⟩ := sj2 hf
        exact retM C0 (narI _) hQ hP hD hS d_Face_both_48
      · replace hf := iteT c12 hf
        refine lv_iload_n hx hb d_Face_both_36 rfl (lv_at hl 0 rfl) ?_
        refine lv_goto (tgt := 48) hx hb d_Face_both_37 (by decide) ?_
        obtain ⟨rfl, rfl⟩ := sj2 hf
        exact retM C0 (narI _) hQ hP hD hS d_Face_both_48
    · replace hf := iteT c9 hf
      refine lv_aload_n hx hb d_Face_both_16 rfl (lv_at hl 0 rfl) ?_
      refine lv_bipush (v := (-2 : Int32)) hx hb d_Face_both_17 (by decide) ?_
      obtain ⟨x15, sF16, h17, hf⟩ := bd2E hf
      refine vM (Lc := (L_f ty fA rA cA hA pv sF)) (Lc' := (L_f ty fA rA cA hA pv sF16)) (L' := (L_fchk ty fA rA cA hA kA pv sF16 sC sH)) (q0 := 0) (ci := 10) (rest := []) C0 (c_Face_refuseBad l D ty fA rA cA hA pv H.size sF (-2 : Int32) x15 sF16 h17) k_237 cal_Face_refuseBad hK hP hD hS hAq [0] [1, 2, 3, 4, 5, 6, 7, 8, 9, 10, 11, 12, 13, 14, 15, 16] [16, 0, 1, 2, 3, 4, 5, 6, 7, 8, 9, 10, 11, 12, 13, 14, 15] [(cA 0, .inr (8, [.ref (hA 0), .ref (cA 2)])), (cA 2, .inl (ty 0, 6, .inl (sC 1))), (hA 0, .inr (6, [.ref (kA 0), .ref (hA 2), .ref (hA 3), .ref (hA 4), .ref (hA 5), .ref (hA 6), .ref (hA 7), .int (sH 7 0), .int (sH 8 0), .int (sH 9 0), .int (sH 10 0), .int (sH 11 0), .int (sH 12 0), .int (sH 13 0), .int (sH 14 0)])), (hA 2, .inl (ty 0, 2, .inl (sH 1))), (hA 3, .inl (ty 0, 2, .inl (sH 2))), (hA 4, .inl (ty 0, 6, .inl (sH 3))), (hA 5, .inl (ty 0, 6, .inl (sH 4))), (hA 6, .inl (ty 0, 30, .inl (sH 5))), (hA 7, .inl (ty 0, 32, .inl (sH 6))), (kA 0, .inl (ty 3, 6, .inr (.inr (.inr (.inr (fun i => some (kA (i + 1)))))))), (kA 1, .inr (0, [])), (kA 2, .inr (1, [])), (kA 3, .inr (2, [])), (kA 4, .inr (3, [])), (kA 5, .inr (4, [])), (kA 6, .inr (5, []))] rfl rfl (by decide) (by decide) (by decide) (by decide) rfl rfl rfl rfl ⟨by rw [hR]; decide, by rw [hR]; decide⟩ rfl rfl rfl hl.1 rfl (Nat.le_of_ble_eq_true rfl) d_Face_both_19 ⟨by rw [hR]; decide, by rw [hR]; decide⟩ rfl (fun H locs hP hD hS => ?_)
      obtain ⟨rfl, rfl⟩ := sj2 hf
      exact retM C0 (narI _) hQ hP hD hS d_Face_both_22
def f_Face_before (sF : PW) (a1 : Int32) (a2 : Int32) (a3 : Int32) (a4 : Int32) : Option (Int32 × PW) :=
  bd (f_Face_isSide a1) (fun x1 => (if x1 = 0 then bd2 (f_Face_refuseBad sF (-2 : Int32)) (fun x4 sF5 => some (x4, sF5)) else bd (f_Face_isHour a2) (fun x7 => (if x7 = 0 then bd2 (f_Face_refuseBad sF (-2 : Int32)) (fun x10 sF11 => some (x10, sF11)) else bd (f_Face_isSide a3) (fun x13 => (if x13 = 0 then bd2 (f_Face_refuseBad sF (-2 : Int32)) (fun x16 sF17 => some (x16, sF17)) else bd (f_Face_isHour a4) (fun x19 => (if x19 = 0 then bd2 (f_Face_refuseBad sF (-2 : Int32)) (fun x28 sF29 => some (x28, sF29)) else bd (f_Face_hisHour a1 a2) (fun x22 => bd (f_Face_hisHour a3 a4) (fun x24 => (if x22 = x24 then some ((0 : Int32), sF) else (if x24 ≤ x22 then some ((2 : Int32), sF) else some ((1 : Int32), sF)))))))))))))
set_option maxHeartbeats 4000000 in
set_option maxRecDepth 100000 in
theorem c_Face_before (l : Launch) (D : va_G) (ty : Nat → ClassId) (fA rA cA hA : Nat → Nat) (pv : Value) (sz : Nat) (sF : PW) (a1 : Int32) (a2 : Int32) (a3 : Int32) (a4 : Int32) (rr : Int32) (tF : PW) (hf : f_Face_before sF a1 a2 a3 a4 = some (rr, tF)) : Met l y_Face_before (Cond.code y_Face_before prog_1_method_18_code 7 ((Option.some FieldType.int)) :: lw_ok) { frames := 2, cells := 0, slots := 0, locals := 41 } (PcM D ty [.ref (fA 0), .int a1, .int a2, .int a3, .int a4] sz (L_f ty fA rA cA hA pv sF)) (QM D (L_f ty fA rA cA hA pv tF) (va_A (L_f ty fA rA cA hA pv sF) sz) (some (.int rr))) 0 0 (va_A (L_f ty fA rA cA hA pv sF) sz) := by
  refine hdM (by decide) (Nat.le_of_ble_eq_true rfl) ?_
  intro p e s m below meth c ls R args Q A C0 hR hQ hnm hAq hP hK hD hS hl
  obtain ⟨hx, hb, hr, hlk, hml, hown, htt⟩ := id C0
  have hl : lv_has ls 7 [(0, .ref (fA 0)), (1, .int a1), (2, .int a2), (3, .int a3), (4, .int a4)] := hl
  generalize hH0 : s.heap = H at hP hS ⊢
  have hS : va_S A s.heap H [] := by rw [hH0]; exact hS
  unfold f_Face_before at hf
  refine lv_iload_n hx hb d_Face_before_0 rfl (lv_at hl 1 rfl) ?_
  obtain ⟨x1, h2, hf⟩ := bdE hf
  refine scR (rest := []) C0 (c_Face_isSide l D ty a1 x1 h2) k_246 cal_Face_isSide hK (va_P_nil) ⟨by rw [hR]; decide, by rw [hR]; decide⟩ rfl rfl rfl hl.1 rfl (Nat.le_of_ble_eq_true rfl) d_Face_before_1 ⟨Nat.zero_le _, Nat.zero_le _⟩ rfl ?_
  refine lv_if_eq (tgt := 29) hx hb d_Face_before_4 (by decide) (fun c3 => ?_) (fun c3 => ?_)
  · replace hf := iteT c3 hf
    refine lv_aload_n hx hb d_Face_before_29 rfl (lv_at hl 0 rfl) ?_
    refine lv_bipush (v := (-2 : Int32)) hx hb d_Face_before_30 (by decide) ?_
    obtain ⟨x4, sF5, h6, hf⟩ := bd2E hf
    refine vM (Lc := (L_f ty fA rA cA hA pv sF)) (Lc' := (L_f ty fA rA cA hA pv sF5)) (L' := (L_f ty fA rA cA hA pv sF5)) (q0 := 0) (ci := 10) (rest := []) C0 (c_Face_refuseBad l D ty fA rA cA hA pv H.size sF (-2 : Int32) x4 sF5 h6) k_237 cal_Face_refuseBad hK hP hD hS hAq [0] [] [0] [] rfl rfl (by decide) (by decide) (by decide) (by decide) rfl rfl rfl rfl ⟨by rw [hR]; decide, by rw [hR]; decide⟩ rfl rfl rfl hl.1 rfl (Nat.le_of_ble_eq_true rfl) d_Face_before_32 ⟨by rw [hR]; decide, by rw [hR]; decide⟩ rfl (fun H locs hP hD hS => ?_)
    obtain ⟨rfl, rfl⟩ := sj2 hf
    exact retM C0 (narI _) hQ hP hD hS d_Face_before_35
  · replace hf := iteF c3 hf
    refine lv_iload_n hx hb d_Face_before_7 rfl (lv_at hl 2 rfl) ?_
    obtain ⟨x7, h8, hf⟩ := bdE hf
    refine scR (rest := []) C0 (c_Face_isHour l D ty a2 x7 h8) k_506 cal_Face_isHour hK (va_P_nil) ⟨by rw [hR]; decide, by rw [hR]; decide⟩ rfl rfl rfl hl.1 rfl (Nat.le_of_ble_eq_true rfl) d_Face_before_8 ⟨Nat.zero_le _, Nat.zero_le _⟩ rfl ?_
    refine lv_if_eq (tgt := 29) hx hb d_Face_before_11 (by decide) (fun c9 => ?_) (fun c9 => ?_)
    · replace hf := iteT c9 hf
      refine lv_aload_n hx hb d_Face_before_29 rfl (lv_at hl 0 rfl) ?_
      refine lv_bipush (v := (-2 : Int32)) hx hb d_Face_before_30 (by decide) ?_
      obtain ⟨x10, sF11, h12, hf⟩ := bd2E hf
      refine vM (Lc := (L_f ty fA rA cA hA pv sF)) (Lc' := (L_f ty fA rA cA hA pv sF11)) (L' := (L_f ty fA rA cA hA pv sF11)) (q0 := 0) (ci := 10) (rest := []) C0 (c_Face_refuseBad l D ty fA rA cA hA pv H.size sF (-2 : Int32) x10 sF11 h12) k_237 cal_Face_refuseBad hK hP hD hS hAq [0] [] [0] [] rfl rfl (by decide) (by decide) (by decide) (by decide) rfl rfl rfl rfl ⟨by rw [hR]; decide, by rw [hR]; decide⟩ rfl rfl rfl hl.1 rfl (Nat.le_of_ble_eq_true rfl) d_Face_before_32 ⟨by rw [hR]; decide, by rw [hR]; decide⟩ rfl (fun H locs hP hD hS => ?_)
      obtain ⟨rfl, rfl⟩ := sj2 hf
      exact retM C0 (narI _) hQ hP hD hS d_Face_before_35
    · replace hf := iteF c9 hf
      refine lv_iload_n hx hb d_Face_before_14 rfl (lv_at hl 3 rfl) ?_
      obtain ⟨x13, h14, hf⟩ := bdE hf
      refine scR (rest := []) C0 (c_Face_isSide l D ty a3 x13 h14) k_246 cal_Face_isSide hK (va_P_nil) ⟨by rw [hR]; decide, by rw [hR]; decide⟩ rfl rfl rfl hl.1 rfl (Nat.le_of_ble_eq_true rfl) d_Face_before_15 ⟨Nat.zero_le _, Nat.zero_le _⟩ rfl ?_
      refine lv_if_eq (tgt := 29) hx hb d_Face_before_18 (by decide) (fun c15 => ?_) (fun c15 => ?_)
      · replace hf := iteT c15 hf
        refine lv_aload_n hx hb d_Face_before_29 rfl (lv_at hl 0 rfl) ?_
        refine lv_bipush (v := (-2 : Int32)) hx hb d_Face_before_30 (by decide) ?_
        obtain ⟨x16, sF17, h18, hf⟩ := bd2E hf
        refine vM (Lc := (L_f ty fA rA cA hA pv sF)) (Lc' := (L_f ty fA rA cA hA pv sF17)) (L' := (L_f ty fA rA cA hA pv sF17)) (q0 := 0) (ci := 10) (rest := []) C0 (c_Face_refuseBad l D ty fA rA cA hA pv H.size sF (-2 : Int32) x16 sF17 h18) k_237 cal_Face_refuseBad hK hP hD hS hAq [0] [] [0] [] rfl rfl (by decide) (by decide) (by decide) (by decide) rfl rfl rfl rfl ⟨by rw [hR]; decide, by rw [hR]; decide⟩ rfl rfl rfl hl.1 rfl (Nat.le_of_ble_eq_true rfl) d_Face_before_32 ⟨by rw [hR]; decide, by rw [hR]; decide⟩ rfl (fun H locs hP hD hS => ?_)
        obtain ⟨rfl, rfl⟩ := sj2 hf
        exact retM C0 (narI _) hQ hP hD hS d_Face_before_35
      · replace hf := iteF c15 hf
        refine lv_iload hx hb d_Face_before_21 (lv_at hl 4 rfl) ?_
        obtain ⟨x19, h20, hf⟩ := bdE hf
        refine scR (rest := []) C0 (c_Face_isHour l D ty a4 x19 h20) k_506 cal_Face_isHour hK (va_P_nil) ⟨by rw [hR]; decide, by rw [hR]; decide⟩ rfl rfl rfl hl.1 rfl (Nat.le_of_ble_eq_true rfl) d_Face_before_23 ⟨Nat.zero_le _, Nat.zero_le _⟩ rfl ?_
        refine lv_if_ne (tgt := 36) hx hb d_Face_before_26 (by decide) (fun c21 => ?_) (fun c21 => ?_)
        · replace hf := iteF c21 hf
          refine lv_iload_n hx hb d_Face_before_36 rfl (lv_at hl 1 rfl) ?_
          refine lv_iload_n hx hb d_Face_before_37 rfl (lv_at hl 2 rfl) ?_
          obtain ⟨x22, h23, hf⟩ := bdE hf
          refine scR (rest := []) C0 (c_Face_hisHour l D ty a1 a2 x22 h23) k_592 cal_Face_hisHour hK (va_P_nil) ⟨by rw [hR]; decide, by rw [hR]; decide⟩ rfl rfl rfl hl.1 rfl (Nat.le_of_ble_eq_true rfl) d_Face_before_38 ⟨Nat.zero_le _, Nat.zero_le _⟩ rfl ?_
          refine lv_istore (lv' := [(5, .int x22), (0, .ref (fA 0)), (1, .int a1), (2, .int a2), (3, .int a3), (4, .int a4)]) hx hb d_Face_before_41 hl (by decide) rfl (fun ls hl => ?_)
          refine lv_iload_n hx hb d_Face_before_43 rfl (lv_at hl 4 rfl) ?_
          refine lv_iload hx hb d_Face_before_44 (lv_at hl 5 rfl) ?_
          obtain ⟨x24, h25, hf⟩ := bdE hf
          refine scR (rest := []) C0 (c_Face_hisHour l D ty a3 a4 x24 h25) k_592 cal_Face_hisHour hK (va_P_nil) ⟨by rw [hR]; decide, by rw [hR]; decide⟩ rfl rfl rfl hl.1 rfl (Nat.le_of_ble_eq_true rfl) d_Face_before_46 ⟨Nat.zero_le _, Nat.zero_le _⟩ rfl ?_
          refine lv_istore (lv' := [(6, .int x24), (5, .int x22), (0, .ref (fA 0)), (1, .int a1), (2, .int a2), (3, .int a3), (4, .int a4)]) hx hb d_Face_before_49 hl (by decide) rfl (fun ls hl => ?_)
          refine lv_iload hx hb d_Face_before_51 (lv_at hl 1 rfl) ?_
          refine lv_iload hx hb d_Face_before_53 (lv_at hl 0 rfl) ?_
          refine lv_icmp_ne (tgt := 60) hx hb d_Face_before_55 (by decide) (fun c26 => ?_) (fun c26 => ?_)
          · replace hf := iteF c26 hf
            refine lv_iload hx hb d_Face_before_60 (lv_at hl 1 rfl) ?_
            refine lv_iload hx hb d_Face_before_62 (lv_at hl 0 rfl) ?_
            refine lv_icmp_ge (tgt := 71) hx hb d_Face_before_64 (by decide) (fun c27 => ?_) (fun c27 => ?_)
            · replace hf := iteT c27 hf
              refine lv_iconst (v := (2 : Int32)) hx hb d_Face_before_71 (by decide) ?_
              obtain ⟨rfl, rfl⟩ := sj2 hf
              exact retM C0 (narI _) hQ hP hD hS d_Face_before_72
            · replace hf := iteF c27 hf
              refine lv_iconst (v := (1 : Int32)) hx hb d_Face_before_67 (by decide) ?_
              refine lv_goto (tgt := 72) hx hb d_Face_before_68 (by decide) ?_
              obtain ⟨rfl, rfl⟩ := sj2 hf
              exact retM C0 (narI _) hQ hP hD hS d_Face_before_72
          · replace hf := iteT c26 hf
            refine lv_iconst (v := (0 : Int32)) hx hb d_Face_before_58 (by decide) ?_
            obtain ⟨rfl, rfl⟩ := sj2 hf
            exact retM C0 (narI _) hQ hP hD hS d_Face_before_59
        · replace hf := iteT c21 hf
          refine lv_aload_n hx hb d_Face_before_29 rfl (lv_at hl 0 rfl) ?_
          refine lv_bipush (v := (-2 : Int32)) hx hb d_Face_before_30 (by decide) ?_
          obtain ⟨x28, sF29, h30, hf⟩ := bd2E hf
          refine vM (Lc := (L_f ty fA rA cA hA pv sF)) (Lc' := (L_f ty fA rA cA hA pv sF29)) (L' := (L_f ty fA rA cA hA pv sF29)) (q0 := 0) (ci := 10) (rest := []) C0 (c_Face_refuseBad l D ty fA rA cA hA pv H.size sF (-2 : Int32) x28 sF29 h30) k_237 cal_Face_refuseBad hK hP hD hS hAq [0] [] [0] [] rfl rfl (by decide) (by decide) (by decide) (by decide) rfl rfl rfl rfl ⟨by rw [hR]; decide, by rw [hR]; decide⟩ rfl rfl rfl hl.1 rfl (Nat.le_of_ble_eq_true rfl) d_Face_before_32 ⟨by rw [hR]; decide, by rw [hR]; decide⟩ rfl (fun H locs hP hD hS => ?_)
          obtain ⟨rfl, rfl⟩ := sj2 hf
          exact retM C0 (narI _) hQ hP hD hS d_Face_before_35
def f_Face_child (sF : PW) (a1 : Int32) : Option (Int32 × PW) :=
  bd (f_Face_within a1 (7 : Int32)) (fun x1 => (if x1 = 0 then bd2 (f_Face_refuseBad sF (-2 : Int32)) (fun x8 sF9 => some (x8, sF9)) else bd (f_Clerk_cellsOfHers a1) (fun x4 => bd (f_Face_setFraction sF x4 (3 : Int32)) (fun sF6 => some ((1 : Int32), sF6)))))
set_option maxHeartbeats 4000000 in
set_option maxRecDepth 100000 in
theorem c_Face_child (l : Launch) (D : va_G) (ty : Nat → ClassId) (fA rA cA hA : Nat → Nat) (pv : Value) (sz : Nat) (sF : PW) (a1 : Int32) (rr : Int32) (tF : PW) (hf : f_Face_child sF a1 = some (rr, tF)) : Met l y_Face_child (Cond.code y_Face_child prog_1_method_19_code 2 ((Option.some FieldType.int)) :: lw_ok) { frames := 3, cells := 0, slots := 0, locals := 88 } (PcM D ty [.ref (fA 0), .int a1] sz (L_f ty fA rA cA hA pv sF)) (QM D (L_f ty fA rA cA hA pv tF) (va_A (L_f ty fA rA cA hA pv sF) sz) (some (.int rr))) 0 0 (va_A (L_f ty fA rA cA hA pv sF) sz) := by
  refine hdM (by decide) (Nat.le_of_ble_eq_true rfl) ?_
  intro p e s m below meth c ls R args Q A C0 hR hQ hnm hAq hP hK hD hS hl
  obtain ⟨hx, hb, hr, hlk, hml, hown, htt⟩ := id C0
  have hl : lv_has ls 2 [(0, .ref (fA 0)), (1, .int a1)] := hl
  generalize hH0 : s.heap = H at hP hS ⊢
  have hS : va_S A s.heap H [] := by rw [hH0]; exact hS
  unfold f_Face_child at hf
  refine lv_iload_n hx hb d_Face_child_0 rfl (lv_at hl 1 rfl) ?_
  refine lv_bipush (v := (7 : Int32)) hx hb d_Face_child_1 (by decide) ?_
  obtain ⟨x1, h2, hf⟩ := bdE hf
  refine scR (rest := []) C0 (c_Face_within l D ty a1 (7 : Int32) x1 h2) k_234 cal_Face_within hK (va_P_nil) ⟨by rw [hR]; decide, by rw [hR]; decide⟩ rfl rfl rfl hl.1 rfl (Nat.le_of_ble_eq_true rfl) d_Face_child_3 ⟨Nat.zero_le _, Nat.zero_le _⟩ rfl ?_
  refine lv_if_ne (tgt := 16) hx hb d_Face_child_6 (by decide) (fun c3 => ?_) (fun c3 => ?_)
  · replace hf := iteF c3 hf
    refine lv_aload_n hx hb d_Face_child_16 rfl (lv_at hl 0 rfl) ?_
    refine lv_iload_n hx hb d_Face_child_17 rfl (lv_at hl 1 rfl) ?_
    obtain ⟨x4, h5, hf⟩ := bdE hf
    refine scR (rest := [.ref (fA 0)]) C0 (c_Clerk_cellsOfHers l D ty a1 x4 h5) k_599 cal_Clerk_cellsOfHers hK (va_P_nil) ⟨by rw [hR]; decide, by rw [hR]; decide⟩ rfl rfl rfl hl.1 rfl (Nat.le_of_ble_eq_true rfl) d_Face_child_18 ⟨Nat.zero_le _, Nat.zero_le _⟩ rfl ?_
    refine lv_iconst (v := (3 : Int32)) hx hb d_Face_child_21 (by decide) ?_
    obtain ⟨sF6, h7, hf⟩ := bdE hf
    refine vM (Lc := (L_f ty fA rA cA hA pv sF)) (Lc' := (L_f ty fA rA cA hA pv sF6)) (L' := (L_f ty fA rA cA hA pv sF6)) (q0 := 0) (ci := 10) (rest := []) C0 (c_Face_setFraction l D ty fA rA cA hA pv H.size sF x4 (3 : Int32) sF6 h7) k_604 cal_Face_setFraction hK hP hD hS hAq [0] [] [0] [] rfl rfl (by decide) (by decide) (by decide) (by decide) rfl rfl rfl rfl ⟨by rw [hR]; decide, by rw [hR]; decide⟩ rfl rfl rfl hl.1 rfl (Nat.le_of_ble_eq_true rfl) d_Face_child_22 ⟨by rw [hR]; decide, by rw [hR]; decide⟩ rfl (fun H locs hP hD hS => ?_)
    refine lv_iconst (v := (1 : Int32)) hx hb d_Face_child_25 (by decide) ?_
    obtain ⟨rfl, rfl⟩ := sj2 hf
    exact retM C0 (narI _) hQ hP hD hS d_Face_child_26
  · replace hf := iteT c3 hf
    refine lv_aload_n hx hb d_Face_child_9 rfl (lv_at hl 0 rfl) ?_
    refine lv_bipush (v := (-2 : Int32)) hx hb d_Face_child_10 (by decide) ?_
    obtain ⟨x8, sF9, h10, hf⟩ := bd2E hf
    refine vM (Lc := (L_f ty fA rA cA hA pv sF)) (Lc' := (L_f ty fA rA cA hA pv sF9)) (L' := (L_f ty fA rA cA hA pv sF9)) (q0 := 0) (ci := 10) (rest := []) C0 (c_Face_refuseBad l D ty fA rA cA hA pv H.size sF (-2 : Int32) x8 sF9 h10) k_237 cal_Face_refuseBad hK hP hD hS hAq [0] [] [0] [] rfl rfl (by decide) (by decide) (by decide) (by decide) rfl rfl rfl rfl ⟨by rw [hR]; decide, by rw [hR]; decide⟩ rfl rfl rfl hl.1 rfl (Nat.le_of_ble_eq_true rfl) d_Face_child_12 ⟨by rw [hR]; decide, by rw [hR]; decide⟩ rfl (fun H locs hP hD hS => ?_)
    obtain ⟨rfl, rfl⟩ := sj2 hf
    exact retM C0 (narI _) hQ hP hD hS d_Face_child_15
def f_Face_where (sF : PW) (sC : PW) (sH : PW) (a1 : Int32) : Option (Int32 × PW) :=
  bd (f_Face_isDoing sF sH a1) (fun x1 => (if x1 = 0 then bd2 (f_Face_refuseBad sF (-2 : Int32)) (fun x6 sF7 => some (x6, sF7)) else bd (f_Clerk_bestCell sC sH a1) (fun x4 => some (x4, sF))))
set_option maxHeartbeats 4000000 in
set_option maxRecDepth 100000 in
theorem c_Face_where (l : Launch) (D : va_G) (ty : Nat → ClassId) (fA rA cA hA kA : Nat → Nat) (pv : Value) (sz : Nat) (sF : PW) (sC : PW) (sH : PW) (a1 : Int32) (rr : Int32) (tF : PW) (hf : f_Face_where sF sC sH a1 = some (rr, tF)) : Met l y_Face_where (Cond.code y_Face_where prog_1_method_20_code 2 ((Option.some FieldType.int)) :: lw_ok) { frames := 8, cells := 0, slots := 0, locals := 216 } (PcM D ty [.ref (fA 0), .int a1] sz (L_fchk ty fA rA cA hA kA pv sF sC sH)) (QM D (L_fchk ty fA rA cA hA kA pv tF sC sH) (va_A (L_fchk ty fA rA cA hA kA pv sF sC sH) sz) (some (.int rr))) 0 0 (va_A (L_fchk ty fA rA cA hA kA pv sF sC sH) sz) := by
  refine hdM (by decide) (Nat.le_of_ble_eq_true rfl) ?_
  intro p e s m below meth c ls R args Q A C0 hR hQ hnm hAq hP hK hD hS hl
  obtain ⟨hx, hb, hr, hlk, hml, hown, htt⟩ := id C0
  have hl : lv_has ls 2 [(0, .ref (fA 0)), (1, .int a1)] := hl
  generalize hH0 : s.heap = H at hP hS ⊢
  have hS : va_S A s.heap H [] := by rw [hH0]; exact hS
  unfold f_Face_where at hf
  refine lv_aload_n hx hb d_Face_where_0 rfl (lv_at hl 0 rfl) ?_
  refine lv_iload_n hx hb d_Face_where_1 rfl (lv_at hl 1 rfl) ?_
  obtain ⟨x1, h2, hf⟩ := bdE hf
  refine vR (q0 := 0) (ci := 10) (rest := []) C0 (c_Face_isDoing l D ty fA rA cA hA kA pv sF sH a1 x1 h2) k_392 cal_Face_isDoing hK (hP.sub (ws' := (L_fh ty fA rA cA hA kA pv sF sH)) [0, 3, 4, 5, 6, 7, 8, 9] rfl) rfl rfl rfl ⟨by rw [hR]; decide, by rw [hR]; decide⟩ rfl rfl rfl hl.1 rfl (Nat.le_of_ble_eq_true rfl) d_Face_where_2 ⟨Nat.zero_le _, Nat.zero_le _⟩ rfl ?_
  refine lv_if_ne (tgt := 15) hx hb d_Face_where_5 (by decide) (fun c3 => ?_) (fun c3 => ?_)
  · replace hf := iteF c3 hf
    refine lv_aload_n hx hb d_Face_where_15 rfl (lv_at hl 0 rfl) ?_
    refine va_get (D := D) (ci := 10) (v := .ref (cA 0)) (C := "BedFrontier") (T := T_Face) (N := 10) hx hb htt i_Face hown hK.1 hP 0 rfl rfl 2 (by decide) (htt _ k_201) (fun _ h9 => h9) rfl d_Face_where_16 ?_
    refine lv_iload_n hx hb d_Face_where_19 rfl (lv_at hl 1 rfl) ?_
    obtain ⟨x4, h5, hf⟩ := bdE hf
    refine vR (q0 := 0) (ci := 8) (rest := []) C0 (c_Clerk_bestCell l D ty cA hA kA sC sH a1 x4 h5) k_616 cal_Clerk_bestCell hK (hP.sub (ws' := (L_chk ty cA hA kA sC sH)) [1, 2, 3, 4, 5, 6, 7, 8, 9, 10, 11, 12, 13, 14, 15, 16] rfl) rfl rfl rfl ⟨by rw [hR]; decide, by rw [hR]; decide⟩ rfl rfl rfl hl.1 rfl (Nat.le_of_ble_eq_true rfl) d_Face_where_20 ⟨Nat.zero_le _, Nat.zero_le _⟩ rfl ?_
    obtain ⟨rfl, rfl⟩ := sj2 hf
    exact retM C0 (narI _) hQ hP hD hS d_Face_where_23
  · replace hf := iteT c3 hf
    refine lv_aload_n hx hb d_Face_where_8 rfl (lv_at hl 0 rfl) ?_
    refine lv_bipush (v := (-2 : Int32)) hx hb d_Face_where_9 (by decide) ?_
    obtain ⟨x6, sF7, h8, hf⟩ := bd2E hf
    refine vM (Lc := (L_f ty fA rA cA hA pv sF)) (Lc' := (L_f ty fA rA cA hA pv sF7)) (L' := (L_fchk ty fA rA cA hA kA pv sF7 sC sH)) (q0 := 0) (ci := 10) (rest := []) C0 (c_Face_refuseBad l D ty fA rA cA hA pv H.size sF (-2 : Int32) x6 sF7 h8) k_237 cal_Face_refuseBad hK hP hD hS hAq [0] [1, 2, 3, 4, 5, 6, 7, 8, 9, 10, 11, 12, 13, 14, 15, 16] [16, 0, 1, 2, 3, 4, 5, 6, 7, 8, 9, 10, 11, 12, 13, 14, 15] [(cA 0, .inr (8, [.ref (hA 0), .ref (cA 2)])), (cA 2, .inl (ty 0, 6, .inl (sC 1))), (hA 0, .inr (6, [.ref (kA 0), .ref (hA 2), .ref (hA 3), .ref (hA 4), .ref (hA 5), .ref (hA 6), .ref (hA 7), .int (sH 7 0), .int (sH 8 0), .int (sH 9 0), .int (sH 10 0), .int (sH 11 0), .int (sH 12 0), .int (sH 13 0), .int (sH 14 0)])), (hA 2, .inl (ty 0, 2, .inl (sH 1))), (hA 3, .inl (ty 0, 2, .inl (sH 2))), (hA 4, .inl (ty 0, 6, .inl (sH 3))), (hA 5, .inl (ty 0, 6, .inl (sH 4))), (hA 6, .inl (ty 0, 30, .inl (sH 5))), (hA 7, .inl (ty 0, 32, .inl (sH 6))), (kA 0, .inl (ty 3, 6, .inr (.inr (.inr (.inr (fun i => some (kA (i + 1)))))))), (kA 1, .inr (0, [])), (kA 2, .inr (1, [])), (kA 3, .inr (2, [])), (kA 4, .inr (3, [])), (kA 5, .inr (4, [])), (kA 6, .inr (5, []))] rfl rfl (by decide) (by decide) (by decide) (by decide) rfl rfl rfl rfl ⟨by rw [hR]; decide, by rw [hR]; decide⟩ rfl rfl rfl hl.1 rfl (Nat.le_of_ble_eq_true rfl) d_Face_where_11 ⟨by rw [hR]; decide, by rw [hR]; decide⟩ rfl (fun H locs hP hD hS => ?_)
    obtain ⟨rfl, rfl⟩ := sj2 hf
    exact retM C0 (narI _) hQ hP hD hS d_Face_where_14
def f_Face_bars (sF : PW) (sC : PW) (sH : PW) (a1 : Int32) : Option (Int32 × PW) :=
  bd (f_Face_isDoing sF sH a1) (fun x1 => (if x1 = 0 then bd2 (f_Face_refuseBad sF (-2 : Int32)) (fun x6 sF7 => some (x6, sF7)) else bd (f_Clerk_restingPairs sC sH a1) (fun x4 => some (x4, sF))))
set_option maxHeartbeats 4000000 in
set_option maxRecDepth 100000 in
theorem c_Face_bars (l : Launch) (D : va_G) (ty : Nat → ClassId) (fA rA cA hA kA : Nat → Nat) (pv : Value) (sz : Nat) (sF : PW) (sC : PW) (sH : PW) (a1 : Int32) (rr : Int32) (tF : PW) (hf : f_Face_bars sF sC sH a1 = some (rr, tF)) : Met l y_Face_bars (Cond.code y_Face_bars prog_1_method_21_code 2 ((Option.some FieldType.int)) :: lw_ok) { frames := 8, cells := 0, slots := 0, locals := 215 } (PcM D ty [.ref (fA 0), .int a1] sz (L_fchk ty fA rA cA hA kA pv sF sC sH)) (QM D (L_fchk ty fA rA cA hA kA pv tF sC sH) (va_A (L_fchk ty fA rA cA hA kA pv sF sC sH) sz) (some (.int rr))) 0 0 (va_A (L_fchk ty fA rA cA hA kA pv sF sC sH) sz) := by
  refine hdM (by decide) (Nat.le_of_ble_eq_true rfl) ?_
  intro p e s m below meth c ls R args Q A C0 hR hQ hnm hAq hP hK hD hS hl
  obtain ⟨hx, hb, hr, hlk, hml, hown, htt⟩ := id C0
  have hl : lv_has ls 2 [(0, .ref (fA 0)), (1, .int a1)] := hl
  generalize hH0 : s.heap = H at hP hS ⊢
  have hS : va_S A s.heap H [] := by rw [hH0]; exact hS
  unfold f_Face_bars at hf
  refine lv_aload_n hx hb d_Face_bars_0 rfl (lv_at hl 0 rfl) ?_
  refine lv_iload_n hx hb d_Face_bars_1 rfl (lv_at hl 1 rfl) ?_
  obtain ⟨x1, h2, hf⟩ := bdE hf
  refine vR (q0 := 0) (ci := 10) (rest := []) C0 (c_Face_isDoing l D ty fA rA cA hA kA pv sF sH a1 x1 h2) k_392 cal_Face_isDoing hK (hP.sub (ws' := (L_fh ty fA rA cA hA kA pv sF sH)) [0, 3, 4, 5, 6, 7, 8, 9] rfl) rfl rfl rfl ⟨by rw [hR]; decide, by rw [hR]; decide⟩ rfl rfl rfl hl.1 rfl (Nat.le_of_ble_eq_true rfl) d_Face_bars_2 ⟨Nat.zero_le _, Nat.zero_le _⟩ rfl ?_
  refine lv_if_ne (tgt := 15) hx hb d_Face_bars_5 (by decide) (fun c3 => ?_) (fun c3 => ?_)
  · replace hf := iteF c3 hf
    refine lv_aload_n hx hb d_Face_bars_15 rfl (lv_at hl 0 rfl) ?_
    refine va_get (D := D) (ci := 10) (v := .ref (cA 0)) (C := "BedFrontier") (T := T_Face) (N := 10) hx hb htt i_Face hown hK.1 hP 0 rfl rfl 2 (by decide) (htt _ k_201) (fun _ h9 => h9) rfl d_Face_bars_16 ?_
    refine lv_iload_n hx hb d_Face_bars_19 rfl (lv_at hl 1 rfl) ?_
    obtain ⟨x4, h5, hf⟩ := bdE hf
    refine vR (q0 := 0) (ci := 8) (rest := []) C0 (c_Clerk_restingPairs l D ty cA hA kA sC sH a1 x4 h5) k_630 cal_Clerk_restingPairs hK (hP.sub (ws' := (L_chk ty cA hA kA sC sH)) [1, 2, 3, 4, 5, 6, 7, 8, 9, 10, 11, 12, 13, 14, 15, 16] rfl) rfl rfl rfl ⟨by rw [hR]; decide, by rw [hR]; decide⟩ rfl rfl rfl hl.1 rfl (Nat.le_of_ble_eq_true rfl) d_Face_bars_20 ⟨Nat.zero_le _, Nat.zero_le _⟩ rfl ?_
    obtain ⟨rfl, rfl⟩ := sj2 hf
    exact retM C0 (narI _) hQ hP hD hS d_Face_bars_23
  · replace hf := iteT c3 hf
    refine lv_aload_n hx hb d_Face_bars_8 rfl (lv_at hl 0 rfl) ?_
    refine lv_bipush (v := (-2 : Int32)) hx hb d_Face_bars_9 (by decide) ?_
    obtain ⟨x6, sF7, h8, hf⟩ := bd2E hf
    refine vM (Lc := (L_f ty fA rA cA hA pv sF)) (Lc' := (L_f ty fA rA cA hA pv sF7)) (L' := (L_fchk ty fA rA cA hA kA pv sF7 sC sH)) (q0 := 0) (ci := 10) (rest := []) C0 (c_Face_refuseBad l D ty fA rA cA hA pv H.size sF (-2 : Int32) x6 sF7 h8) k_237 cal_Face_refuseBad hK hP hD hS hAq [0] [1, 2, 3, 4, 5, 6, 7, 8, 9, 10, 11, 12, 13, 14, 15, 16] [16, 0, 1, 2, 3, 4, 5, 6, 7, 8, 9, 10, 11, 12, 13, 14, 15] [(cA 0, .inr (8, [.ref (hA 0), .ref (cA 2)])), (cA 2, .inl (ty 0, 6, .inl (sC 1))), (hA 0, .inr (6, [.ref (kA 0), .ref (hA 2), .ref (hA 3), .ref (hA 4), .ref (hA 5), .ref (hA 6), .ref (hA 7), .int (sH 7 0), .int (sH 8 0), .int (sH 9 0), .int (sH 10 0), .int (sH 11 0), .int (sH 12 0), .int (sH 13 0), .int (sH 14 0)])), (hA 2, .inl (ty 0, 2, .inl (sH 1))), (hA 3, .inl (ty 0, 2, .inl (sH 2))), (hA 4, .inl (ty 0, 6, .inl (sH 3))), (hA 5, .inl (ty 0, 6, .inl (sH 4))), (hA 6, .inl (ty 0, 30, .inl (sH 5))), (hA 7, .inl (ty 0, 32, .inl (sH 6))), (kA 0, .inl (ty 3, 6, .inr (.inr (.inr (.inr (fun i => some (kA (i + 1)))))))), (kA 1, .inr (0, [])), (kA 2, .inr (1, [])), (kA 3, .inr (2, [])), (kA 4, .inr (3, [])), (kA 5, .inr (4, [])), (kA 6, .inr (5, []))] rfl rfl (by decide) (by decide) (by decide) (by decide) rfl rfl rfl rfl ⟨by rw [hR]; decide, by rw [hR]; decide⟩ rfl rfl rfl hl.1 rfl (Nat.le_of_ble_eq_true rfl) d_Face_bars_11 ⟨by rw [hR]; decide, by rw [hR]; decide⟩ rfl (fun H locs hP hD hS => ?_)
    obtain ⟨rfl, rfl⟩ := sj2 hf
    exact retM C0 (narI _) hQ hP hD hS d_Face_bars_14
def f_Face_note (sF : PW) (sH : PW) (a1 : Int32) (a2 : Int32) (a3 : Int32) (a4 : Int32) (a5 : Int32) : Option (Int32 × PW × PW) :=
  bd (f_Face_isDoing sF sH a1) (fun x1 => (if x1 = 0 then bd2 (f_Face_refuseBad sF (-2 : Int32)) (fun x4 sF5 => some (x4, sF5, sH)) else bd (f_Face_isSide a2) (fun x7 => (if x7 = 0 then bd2 (f_Face_refuseBad sF (-2 : Int32)) (fun x10 sF11 => some (x10, sF11, sH)) else bd (f_Face_isHour a3) (fun x13 => (if x13 = 0 then bd2 (f_Face_refuseBad sF (-2 : Int32)) (fun x16 sF17 => some (x16, sF17, sH)) else bd (f_Face_within a4 (1 : Int32)) (fun x19 => (if x19 = 0 then bd2 (f_Face_refuseBad sF (-2 : Int32)) (fun x22 sF23 => some (x22, sF23, sH)) else bd (f_Face_within a5 (60 : Int32)) (fun x25 => (if x25 = 0 then bd2 (f_Face_refuseBad sF (-2 : Int32)) (fun x35 sF36 => some (x35, sF36, sH)) else (if (sH 13 0) < (6 : Int32) then bd2 (f_House_addNote sH a1 a2 a3 a4 a5) (fun x29 sH30 => some (x29, sF, sH30)) else bd2 (f_Face_refuseFull sF) (fun x32 sF33 => some (x32, sF33, sH)))))))))))))
set_option maxHeartbeats 4000000 in
set_option maxRecDepth 100000 in
theorem c_Face_note (l : Launch) (D : va_G) (ty : Nat → ClassId) (fA rA cA hA kA : Nat → Nat) (pv : Value) (sz : Nat) (sF : PW) (sH : PW) (a1 : Int32) (a2 : Int32) (a3 : Int32) (a4 : Int32) (a5 : Int32) (rr : Int32) (tF : PW) (tH : PW) (hf : f_Face_note sF sH a1 a2 a3 a4 a5 = some (rr, tF, tH)) : Met l y_Face_note (Cond.code y_Face_note prog_1_method_22_code 6 ((Option.some FieldType.int)) :: lw_ok) { frames := 2, cells := 0, slots := 0, locals := 41 } (PcM D ty [.ref (fA 0), .int a1, .int a2, .int a3, .int a4, .int a5] sz (L_fh ty fA rA cA hA kA pv sF sH)) (QM D (L_fh ty fA rA cA hA kA pv tF tH) (va_A (L_fh ty fA rA cA hA kA pv sF sH) sz) (some (.int rr))) 0 0 (va_A (L_fh ty fA rA cA hA kA pv sF sH) sz) := by
  refine hdM (by decide) (Nat.le_of_ble_eq_true rfl) ?_
  intro p e s m below meth c ls R args Q A C0 hR hQ hnm hAq hP hK hD hS hl
  obtain ⟨hx, hb, hr, hlk, hml, hown, htt⟩ := id C0
  have hl : lv_has ls 6 [(0, .ref (fA 0)), (1, .int a1), (2, .int a2), (3, .int a3), (4, .int a4), (5, .int a5)] := hl
  generalize hH0 : s.heap = H at hP hS ⊢
  have hS : va_S A s.heap H [] := by rw [hH0]; exact hS
  unfold f_Face_note at hf
  refine lv_aload_n hx hb d_Face_note_0 rfl (lv_at hl 0 rfl) ?_
  refine lv_iload_n hx hb d_Face_note_1 rfl (lv_at hl 1 rfl) ?_
  obtain ⟨x1, h2, hf⟩ := bdE hf
  refine vR (q0 := 0) (ci := 10) (rest := []) C0 (c_Face_isDoing l D ty fA rA cA hA kA pv sF sH a1 x1 h2) k_392 cal_Face_isDoing hK hP rfl rfl rfl ⟨by rw [hR]; decide, by rw [hR]; decide⟩ rfl rfl rfl hl.1 rfl (Nat.le_of_ble_eq_true rfl) d_Face_note_2 ⟨Nat.zero_le _, Nat.zero_le _⟩ rfl ?_
  refine lv_if_eq (tgt := 41) hx hb d_Face_note_5 (by decide) (fun c3 => ?_) (fun c3 => ?_)
  · replace hf := iteT c3 hf
    refine lv_aload_n hx hb d_Face_note_41 rfl (lv_at hl 0 rfl) ?_
    refine lv_bipush (v := (-2 : Int32)) hx hb d_Face_note_42 (by decide) ?_
    obtain ⟨x4, sF5, h6, hf⟩ := bd2E hf
    refine vM (Lc := (L_f ty fA rA cA hA pv sF)) (Lc' := (L_f ty fA rA cA hA pv sF5)) (L' := (L_fh ty fA rA cA hA kA pv sF5 sH)) (q0 := 0) (ci := 10) (rest := []) C0 (c_Face_refuseBad l D ty fA rA cA hA pv H.size sF (-2 : Int32) x4 sF5 h6) k_237 cal_Face_refuseBad hK hP hD hS hAq [0] [1, 2, 3, 4, 5, 6, 7] [7, 0, 1, 2, 3, 4, 5, 6] [(hA 0, .inr (6, [.ref (kA 0), .ref (hA 2), .ref (hA 3), .ref (hA 4), .ref (hA 5), .ref (hA 6), .ref (hA 7), .int (sH 7 0), .int (sH 8 0), .int (sH 9 0), .int (sH 10 0), .int (sH 11 0), .int (sH 12 0), .int (sH 13 0), .int (sH 14 0)])), (hA 2, .inl (ty 0, 2, .inl (sH 1))), (hA 3, .inl (ty 0, 2, .inl (sH 2))), (hA 4, .inl (ty 0, 6, .inl (sH 3))), (hA 5, .inl (ty 0, 6, .inl (sH 4))), (hA 6, .inl (ty 0, 30, .inl (sH 5))), (hA 7, .inl (ty 0, 32, .inl (sH 6)))] rfl rfl (by decide) (by decide) (by decide) (by decide) rfl rfl rfl rfl ⟨by rw [hR]; decide, by rw [hR]; decide⟩ rfl rfl rfl hl.1 rfl (Nat.le_of_ble_eq_true rfl) d_Face_note_44 ⟨by rw [hR]; decide, by rw [hR]; decide⟩ rfl (fun H locs hP hD hS => ?_)
    obtain ⟨rfl, rfl, rfl⟩ := sj3 hf
    exact retM C0 (narI _) hQ hP hD hS d_Face_note_47
  · replace hf := iteF c3 hf
    refine lv_iload_n hx hb d_Face_note_8 rfl (lv_at hl 2 rfl) ?_
    obtain ⟨x7, h8, hf⟩ := bdE hf
    refine scR (rest := []) C0 (c_Face_isSide l D ty a2 x7 h8) k_246 cal_Face_isSide hK (va_P_nil) ⟨by rw [hR]; decide, by rw [hR]; decide⟩ rfl rfl rfl hl.1 rfl (Nat.le_of_ble_eq_true rfl) d_Face_note_9 ⟨Nat.zero_le _, Nat.zero_le _⟩ rfl ?_
    refine lv_if_eq (tgt := 41) hx hb d_Face_note_12 (by decide) (fun c9 => ?_) (fun c9 => ?_)
    · replace hf := iteT c9 hf
      refine lv_aload_n hx hb d_Face_note_41 rfl (lv_at hl 0 rfl) ?_
      refine lv_bipush (v := (-2 : Int32)) hx hb d_Face_note_42 (by decide) ?_
      obtain ⟨x10, sF11, h12, hf⟩ := bd2E hf
      refine vM (Lc := (L_f ty fA rA cA hA pv sF)) (Lc' := (L_f ty fA rA cA hA pv sF11)) (L' := (L_fh ty fA rA cA hA kA pv sF11 sH)) (q0 := 0) (ci := 10) (rest := []) C0 (c_Face_refuseBad l D ty fA rA cA hA pv H.size sF (-2 : Int32) x10 sF11 h12) k_237 cal_Face_refuseBad hK hP hD hS hAq [0] [1, 2, 3, 4, 5, 6, 7] [7, 0, 1, 2, 3, 4, 5, 6] [(hA 0, .inr (6, [.ref (kA 0), .ref (hA 2), .ref (hA 3), .ref (hA 4), .ref (hA 5), .ref (hA 6), .ref (hA 7), .int (sH 7 0), .int (sH 8 0), .int (sH 9 0), .int (sH 10 0), .int (sH 11 0), .int (sH 12 0), .int (sH 13 0), .int (sH 14 0)])), (hA 2, .inl (ty 0, 2, .inl (sH 1))), (hA 3, .inl (ty 0, 2, .inl (sH 2))), (hA 4, .inl (ty 0, 6, .inl (sH 3))), (hA 5, .inl (ty 0, 6, .inl (sH 4))), (hA 6, .inl (ty 0, 30, .inl (sH 5))), (hA 7, .inl (ty 0, 32, .inl (sH 6)))] rfl rfl (by decide) (by decide) (by decide) (by decide) rfl rfl rfl rfl ⟨by rw [hR]; decide, by rw [hR]; decide⟩ rfl rfl rfl hl.1 rfl (Nat.le_of_ble_eq_true rfl) d_Face_note_44 ⟨by rw [hR]; decide, by rw [hR]; decide⟩ rfl (fun H locs hP hD hS => ?_)
      obtain ⟨rfl, rfl, rfl⟩ := sj3 hf
      exact retM C0 (narI _) hQ hP hD hS d_Face_note_47
    · replace hf := iteF c9 hf
      refine lv_iload_n hx hb d_Face_note_15 rfl (lv_at hl 3 rfl) ?_
      obtain ⟨x13, h14, hf⟩ := bdE hf
      refine scR (rest := []) C0 (c_Face_isHour l D ty a3 x13 h14) k_506 cal_Face_isHour hK (va_P_nil) ⟨by rw [hR]; decide, by rw [hR]; decide⟩ rfl rfl rfl hl.1 rfl (Nat.le_of_ble_eq_true rfl) d_Face_note_16 ⟨Nat.zero_le _, Nat.zero_le _⟩ rfl ?_
      refine lv_if_eq (tgt := 41) hx hb d_Face_note_19 (by decide) (fun c15 => ?_) (fun c15 => ?_)
      · replace hf := iteT c15 hf
        refine lv_aload_n hx hb d_Face_note_41 rfl (lv_at hl 0 rfl) ?_
        refine lv_bipush (v := (-2 : Int32)) hx hb d_Face_note_42 (by decide) ?_
        obtain ⟨x16, sF17, h18, hf⟩ := bd2E hf
        refine vM (Lc := (L_f ty fA rA cA hA pv sF)) (Lc' := (L_f ty fA rA cA hA pv sF17)) (L' := (L_fh ty fA rA cA hA kA pv sF17 sH)) (q0 := 0) (ci := 10) (rest := []) C0 (c_Face_refuseBad l D ty fA rA cA hA pv H.size sF (-2 : Int32) x16 sF17 h18) k_237 cal_Face_refuseBad hK hP hD hS hAq [0] [1, 2, 3, 4, 5, 6, 7] [7, 0, 1, 2, 3, 4, 5, 6] [(hA 0, .inr (6, [.ref (kA 0), .ref (hA 2), .ref (hA 3), .ref (hA 4), .ref (hA 5), .ref (hA 6), .ref (hA 7), .int (sH 7 0), .int (sH 8 0), .int (sH 9 0), .int (sH 10 0), .int (sH 11 0), .int (sH 12 0), .int (sH 13 0), .int (sH 14 0)])), (hA 2, .inl (ty 0, 2, .inl (sH 1))), (hA 3, .inl (ty 0, 2, .inl (sH 2))), (hA 4, .inl (ty 0, 6, .inl (sH 3))), (hA 5, .inl (ty 0, 6, .inl (sH 4))), (hA 6, .inl (ty 0, 30, .inl (sH 5))), (hA 7, .inl (ty 0, 32, .inl (sH 6)))] rfl rfl (by decide) (by decide) (by decide) (by decide) rfl rfl rfl rfl ⟨by rw [hR]; decide, by rw [hR]; decide⟩ rfl rfl rfl hl.1 rfl (Nat.le_of_ble_eq_true rfl) d_Face_note_44 ⟨by rw [hR]; decide, by rw [hR]; decide⟩ rfl (fun H locs hP hD hS => ?_)
        obtain ⟨rfl, rfl, rfl⟩ := sj3 hf
        exact retM C0 (narI _) hQ hP hD hS d_Face_note_47
      · replace hf := iteF c15 hf
        refine lv_iload hx hb d_Face_note_22 (lv_at hl 4 rfl) ?_
        refine lv_iconst (v := (1 : Int32)) hx hb d_Face_note_24 (by decide) ?_
        obtain ⟨x19, h20, hf⟩ := bdE hf
        refine scR (rest := []) C0 (c_Face_within l D ty a4 (1 : Int32) x19 h20) k_234 cal_Face_within hK (va_P_nil) ⟨by rw [hR]; decide, by rw [hR]; decide⟩ rfl rfl rfl hl.1 rfl (Nat.le_of_ble_eq_true rfl) d_Face_note_25 ⟨Nat.zero_le _, Nat.zero_le _⟩ rfl ?_
        refine lv_if_eq (tgt := 41) hx hb d_Face_note_28 (by decide) (fun c21 => ?_) (fun c21 => ?_)
        · replace hf := iteT c21 hf
          refine lv_aload_n hx hb d_Face_note_41 rfl (lv_at hl 0 rfl) ?_
          refine lv_bipush (v := (-2 : Int32)) hx hb d_Face_note_42 (by decide) ?_
          obtain ⟨x22, sF23, h24, hf⟩ := bd2E hf
          refine vM (Lc := (L_f ty fA rA cA hA pv sF)) (Lc' := (L_f ty fA rA cA hA pv sF23)) (L' := (L_fh ty fA rA cA hA kA pv sF23 sH)) (q0 := 0) (ci := 10) (rest := []) C0 (c_Face_refuseBad l D ty fA rA cA hA pv H.size sF (-2 : Int32) x22 sF23 h24) k_237 cal_Face_refuseBad hK hP hD hS hAq [0] [1, 2, 3, 4, 5, 6, 7] [7, 0, 1, 2, 3, 4, 5, 6] [(hA 0, .inr (6, [.ref (kA 0), .ref (hA 2), .ref (hA 3), .ref (hA 4), .ref (hA 5), .ref (hA 6), .ref (hA 7), .int (sH 7 0), .int (sH 8 0), .int (sH 9 0), .int (sH 10 0), .int (sH 11 0), .int (sH 12 0), .int (sH 13 0), .int (sH 14 0)])), (hA 2, .inl (ty 0, 2, .inl (sH 1))), (hA 3, .inl (ty 0, 2, .inl (sH 2))), (hA 4, .inl (ty 0, 6, .inl (sH 3))), (hA 5, .inl (ty 0, 6, .inl (sH 4))), (hA 6, .inl (ty 0, 30, .inl (sH 5))), (hA 7, .inl (ty 0, 32, .inl (sH 6)))] rfl rfl (by decide) (by decide) (by decide) (by decide) rfl rfl rfl rfl ⟨by rw [hR]; decide, by rw [hR]; decide⟩ rfl rfl rfl hl.1 rfl (Nat.le_of_ble_eq_true rfl) d_Face_note_44 ⟨by rw [hR]; decide, by rw [hR]; decide⟩ rfl (fun H locs hP hD hS => ?_)
          obtain ⟨rfl, rfl, rfl⟩ := sj3 hf
          exact retM C0 (narI _) hQ hP hD hS d_Face_note_47
        · replace hf := iteF c21 hf
          refine lv_iload hx hb d_Face_note_31 (lv_at hl 5 rfl) ?_
          refine lv_bipush (v := (60 : Int32)) hx hb d_Face_note_33 (by decide) ?_
          obtain ⟨x25, h26, hf⟩ := bdE hf
          refine scR (rest := []) C0 (c_Face_within l D ty a5 (60 : Int32) x25 h26) k_234 cal_Face_within hK (va_P_nil) ⟨by rw [hR]; decide, by rw [hR]; decide⟩ rfl rfl rfl hl.1 rfl (Nat.le_of_ble_eq_true rfl) d_Face_note_35 ⟨Nat.zero_le _, Nat.zero_le _⟩ rfl ?_
          refine lv_if_ne (tgt := 48) hx hb d_Face_note_38 (by decide) (fun c27 => ?_) (fun c27 => ?_)
          · replace hf := iteF c27 hf
            refine lv_aload_n hx hb d_Face_note_48 rfl (lv_at hl 0 rfl) ?_
            refine va_get (D := D) (ci := 10) (v := .ref (hA 0)) (C := "BedFrontier") (T := T_Face) (N := 10) hx hb htt i_Face hown hK.1 hP 0 rfl rfl 0 (by decide) (htt _ k_199) (fun _ h9 => h9) rfl d_Face_note_49 ?_
            refine va_get (D := D) (ci := 6) (v := .int (sH 13 0)) (C := "BedFrontier$House") (T := T_House) (N := 15) hx hb htt i_House hown hK.1 hP 1 rfl rfl 13 (by decide) (htt _ k_119) (fun _ h9 => h9) rfl d_Face_note_52 ?_
            refine lv_bipush (v := (6 : Int32)) hx hb d_Face_note_55 (by decide) ?_
            refine lv_icmp_lt (tgt := 65) hx hb d_Face_note_57 (by decide) (fun c28 => ?_) (fun c28 => ?_)
            · replace hf := iteT c28 hf
              refine lv_aload_n hx hb d_Face_note_65 rfl (lv_at hl 0 rfl) ?_
              refine va_get (D := D) (ci := 10) (v := .ref (hA 0)) (C := "BedFrontier") (T := T_Face) (N := 10) hx hb htt i_Face hown hK.1 hP 0 rfl rfl 0 (by decide) (htt _ k_199) (fun _ h9 => h9) rfl d_Face_note_66 ?_
              refine lv_iload_n hx hb d_Face_note_69 rfl (lv_at hl 1 rfl) ?_
              refine lv_iload_n hx hb d_Face_note_70 rfl (lv_at hl 2 rfl) ?_
              refine lv_iload_n hx hb d_Face_note_71 rfl (lv_at hl 3 rfl) ?_
              refine lv_iload hx hb d_Face_note_72 (lv_at hl 4 rfl) ?_
              refine lv_iload hx hb d_Face_note_74 (lv_at hl 5 rfl) ?_
              obtain ⟨x29, sH30, h31, hf⟩ := bd2E hf
              refine vM (Lc := (L_h ty hA kA sH)) (Lc' := (L_h ty hA kA sH30)) (L' := (L_fh ty fA rA cA hA kA pv sF sH30)) (q0 := 0) (ci := 6) (rest := []) C0 (c_House_addNote l D ty hA kA H.size sH a1 a2 a3 a4 a5 x29 sH30 h31) k_651 cal_House_addNote hK hP hD hS hAq [1, 2, 3, 4, 5, 6, 7] [0] [0, 1, 2, 3, 4, 5, 6, 7] [(fA 0, .inr (10, [.ref (hA 0), .ref (rA 0), .ref (cA 0), .ref (fA 4), pv, .int (sF 5 0), .int (sF 6 0), .int (sF 7 0), .int (sF 8 0), .int (sF 9 0)]))] rfl rfl (by decide) (by decide) (by decide) (by decide) rfl rfl rfl rfl ⟨by rw [hR]; decide, by rw [hR]; decide⟩ rfl rfl rfl hl.1 rfl (Nat.le_of_ble_eq_true rfl) d_Face_note_76 ⟨by rw [hR]; decide, by rw [hR]; decide⟩ rfl (fun H locs hP hD hS => ?_)
              obtain ⟨rfl, rfl, rfl⟩ := sj3 hf
              exact retM C0 (narI _) hQ hP hD hS d_Face_note_79
            · replace hf := iteF c28 hf
              refine lv_aload_n hx hb d_Face_note_60 rfl (lv_at hl 0 rfl) ?_
              obtain ⟨x32, sF33, h34, hf⟩ := bd2E hf
              refine vM (Lc := (L_f ty fA rA cA hA pv sF)) (Lc' := (L_f ty fA rA cA hA pv sF33)) (L' := (L_fh ty fA rA cA hA kA pv sF33 sH)) (q0 := 0) (ci := 10) (rest := []) C0 (c_Face_refuseFull l D ty fA rA cA hA pv H.size sF x32 sF33 h34) k_258 cal_Face_refuseFull hK hP hD hS hAq [0] [1, 2, 3, 4, 5, 6, 7] [7, 0, 1, 2, 3, 4, 5, 6] [(hA 0, .inr (6, [.ref (kA 0), .ref (hA 2), .ref (hA 3), .ref (hA 4), .ref (hA 5), .ref (hA 6), .ref (hA 7), .int (sH 7 0), .int (sH 8 0), .int (sH 9 0), .int (sH 10 0), .int (sH 11 0), .int (sH 12 0), .int (sH 13 0), .int (sH 14 0)])), (hA 2, .inl (ty 0, 2, .inl (sH 1))), (hA 3, .inl (ty 0, 2, .inl (sH 2))), (hA 4, .inl (ty 0, 6, .inl (sH 3))), (hA 5, .inl (ty 0, 6, .inl (sH 4))), (hA 6, .inl (ty 0, 30, .inl (sH 5))), (hA 7, .inl (ty 0, 32, .inl (sH 6)))] rfl rfl (by decide) (by decide) (by decide) (by decide) rfl rfl rfl rfl ⟨by rw [hR]; decide, by rw [hR]; decide⟩ rfl rfl rfl hl.1 rfl (Nat.le_of_ble_eq_true rfl) d_Face_note_61 ⟨by rw [hR]; decide, by rw [hR]; decide⟩ rfl (fun H locs hP hD hS => ?_)
              obtain ⟨rfl, rfl, rfl⟩ := sj3 hf
              exact retM C0 (narI _) hQ hP hD hS d_Face_note_64
          · replace hf := iteT c27 hf
            refine lv_aload_n hx hb d_Face_note_41 rfl (lv_at hl 0 rfl) ?_
            refine lv_bipush (v := (-2 : Int32)) hx hb d_Face_note_42 (by decide) ?_
            obtain ⟨x35, sF36, h37, hf⟩ := bd2E hf
            refine vM (Lc := (L_f ty fA rA cA hA pv sF)) (Lc' := (L_f ty fA rA cA hA pv sF36)) (L' := (L_fh ty fA rA cA hA kA pv sF36 sH)) (q0 := 0) (ci := 10) (rest := []) C0 (c_Face_refuseBad l D ty fA rA cA hA pv H.size sF (-2 : Int32) x35 sF36 h37) k_237 cal_Face_refuseBad hK hP hD hS hAq [0] [1, 2, 3, 4, 5, 6, 7] [7, 0, 1, 2, 3, 4, 5, 6] [(hA 0, .inr (6, [.ref (kA 0), .ref (hA 2), .ref (hA 3), .ref (hA 4), .ref (hA 5), .ref (hA 6), .ref (hA 7), .int (sH 7 0), .int (sH 8 0), .int (sH 9 0), .int (sH 10 0), .int (sH 11 0), .int (sH 12 0), .int (sH 13 0), .int (sH 14 0)])), (hA 2, .inl (ty 0, 2, .inl (sH 1))), (hA 3, .inl (ty 0, 2, .inl (sH 2))), (hA 4, .inl (ty 0, 6, .inl (sH 3))), (hA 5, .inl (ty 0, 6, .inl (sH 4))), (hA 6, .inl (ty 0, 30, .inl (sH 5))), (hA 7, .inl (ty 0, 32, .inl (sH 6)))] rfl rfl (by decide) (by decide) (by decide) (by decide) rfl rfl rfl rfl ⟨by rw [hR]; decide, by rw [hR]; decide⟩ rfl rfl rfl hl.1 rfl (Nat.le_of_ble_eq_true rfl) d_Face_note_44 ⟨by rw [hR]; decide, by rw [hR]; decide⟩ rfl (fun H locs hP hD hS => ?_)
            obtain ⟨rfl, rfl, rfl⟩ := sj3 hf
            exact retM C0 (narI _) hQ hP hD hS d_Face_note_47
def f_Face_forget (sF : PW) (sH : PW) : Option (Int32 × PW) :=
  nm (sH 13 0) (fun x1 => nm (up sH 13 (fun _ => (0 : Int32))) (fun sH2 => some (x1, sH2)))
set_option maxHeartbeats 4000000 in
set_option maxRecDepth 100000 in
theorem c_Face_forget (l : Launch) (D : va_G) (ty : Nat → ClassId) (fA rA cA hA kA : Nat → Nat) (pv : Value) (sz : Nat) (sF : PW) (sH : PW) (rr : Int32) (tH : PW) (hf : f_Face_forget sF sH = some (rr, tH)) : Met l y_Face_forget (Cond.code y_Face_forget prog_1_method_23_code 2 ((Option.some FieldType.int)) :: lw_ok) { frames := 0, cells := 0, slots := 0, locals := 0 } (PcM D ty [.ref (fA 0)] sz (L_fh ty fA rA cA hA kA pv sF sH)) (QM D (L_fh ty fA rA cA hA kA pv sF tH) (va_A (L_fh ty fA rA cA hA kA pv sF sH) sz) (some (.int rr))) 0 0 (va_A (L_fh ty fA rA cA hA kA pv sF sH) sz) := by
  refine hdM (by decide) (Nat.le_of_ble_eq_true rfl) ?_
  intro p e s m below meth c ls R args Q A C0 hR hQ hnm hAq hP hK hD hS hl
  obtain ⟨hx, hb, hr, hlk, hml, hown, htt⟩ := id C0
  have hl : lv_has ls 2 [(0, .ref (fA 0))] := hl
  generalize hH0 : s.heap = H at hP hS ⊢
  have hS : va_S A s.heap H [] := by rw [hH0]; exact hS
  unfold f_Face_forget at hf
  refine lv_aload_n hx hb d_Face_forget_0 rfl (lv_at hl 0 rfl) ?_
  refine va_get (D := D) (ci := 10) (v := .ref (hA 0)) (C := "BedFrontier") (T := T_Face) (N := 10) hx hb htt i_Face hown hK.1 hP 0 rfl rfl 0 (by decide) (htt _ k_199) (fun _ h9 => h9) rfl d_Face_forget_1 ?_
  refine va_get (D := D) (ci := 6) (v := .int (sH 13 0)) (C := "BedFrontier$House") (T := T_House) (N := 15) hx hb htt i_House hown hK.1 hP 1 rfl rfl 13 (by decide) (htt _ k_119) (fun _ h9 => h9) rfl d_Face_forget_4 ?_
  refine lv_topi (fun x1 e_x1 => ?_)
  replace hf := nmE hf e_x1
  refine lv_istore_n (lv' := [(1, .int x1), (0, .ref (fA 0))]) hx hb d_Face_forget_7 rfl hl (by decide) rfl (fun ls hl => ?_)
  refine lv_aload_n hx hb d_Face_forget_8 rfl (lv_at hl 1 rfl) ?_
  refine va_get (D := D) (ci := 10) (v := .ref (hA 0)) (C := "BedFrontier") (T := T_Face) (N := 10) hx hb htt i_Face hown hK.1 hP 0 rfl rfl 0 (by decide) (htt _ k_199) (fun _ h9 => h9) rfl d_Face_forget_9 ?_
  refine lv_iconst (v := (0 : Int32)) hx hb d_Face_forget_12 (by decide) ?_
  refine va_put (D := D) (ci := 6) (v := .int (0 : Int32)) (ty := .int) (C := "BedFrontier$House") (T := T_House) (N := 15) hx hb htt i_House t_House t_House_ok n_House hown hK.1 hP hD hS 1 rfl rfl 13 (by decide) (htt _ k_119) (fun _ h9 => h9) rfl pfI rfl rfl (Nat.le_of_ble_eq_true rfl) d_Face_forget_13 (fun H locs hP hD hS => ?_)
  obtain ⟨sH2, e_sH2⟩ : ∃ z : PW, z = up sH 13 (fun _ => (0 : Int32)) := ⟨_, rfl⟩
  replace hf := nmE hf e_sH2
  have hP : va_P D vwCl (L_fh ty fA rA cA hA kA pv sF sH2) H := by rw [e_sH2]; exact hP
  have hD : va_D A (L_fh ty fA rA cA hA kA pv sF sH2) := by rw [e_sH2]; exact hD
  refine lv_iload_n hx hb d_Face_forget_16 rfl (lv_at hl 0 rfl) ?_
  obtain ⟨rfl, rfl⟩ := sj2 hf
  exact retM C0 (narI _) hQ hP hD hS d_Face_forget_17
def f_Face_is (sF : PW) (sC : PW) (sH : PW) (a1 : Int32) : Option (Int32 × PW) :=
  bd (f_Face_isDoing sF sH a1) (fun x1 => (if x1 = 0 then bd2 (f_Face_refuseBad sF (-2 : Int32)) (fun x6 sF7 => some (x6, sF7)) else bd (f_Clerk_kindsThatFit sC sH a1) (fun x4 => some (x4, sF))))
set_option maxHeartbeats 4000000 in
set_option maxRecDepth 100000 in
theorem c_Face_is (l : Launch) (D : va_G) (ty : Nat → ClassId) (fA rA cA hA kA : Nat → Nat) (pv : Value) (sz : Nat) (sF : PW) (sC : PW) (sH : PW) (a1 : Int32) (rr : Int32) (tF : PW) (hf : f_Face_is sF sC sH a1 = some (rr, tF)) : Met l y_Face_is (Cond.code y_Face_is prog_1_method_24_code 2 ((Option.some FieldType.int)) :: lw_ok) { frames := 7, cells := 0, slots := 0, locals := 194 } (PcM D ty [.ref (fA 0), .int a1] sz (L_fchk ty fA rA cA hA kA pv sF sC sH)) (QM D (L_fchk ty fA rA cA hA kA pv tF sC sH) (va_A (L_fchk ty fA rA cA hA kA pv sF sC sH) sz) (some (.int rr))) 0 0 (va_A (L_fchk ty fA rA cA hA kA pv sF sC sH) sz) := by
  refine hdM (by decide) (Nat.le_of_ble_eq_true rfl) ?_
  intro p e s m below meth c ls R args Q A C0 hR hQ hnm hAq hP hK hD hS hl
  obtain ⟨hx, hb, hr, hlk, hml, hown, htt⟩ := id C0
  have hl : lv_has ls 2 [(0, .ref (fA 0)), (1, .int a1)] := hl
  generalize hH0 : s.heap = H at hP hS ⊢
  have hS : va_S A s.heap H [] := by rw [hH0]; exact hS
  unfold f_Face_is at hf
  refine lv_aload_n hx hb d_Face_is_0 rfl (lv_at hl 0 rfl) ?_
  refine lv_iload_n hx hb d_Face_is_1 rfl (lv_at hl 1 rfl) ?_
  obtain ⟨x1, h2, hf⟩ := bdE hf
  refine vR (q0 := 0) (ci := 10) (rest := []) C0 (c_Face_isDoing l D ty fA rA cA hA kA pv sF sH a1 x1 h2) k_392 cal_Face_isDoing hK (hP.sub (ws' := (L_fh ty fA rA cA hA kA pv sF sH)) [0, 3, 4, 5, 6, 7, 8, 9] rfl) rfl rfl rfl ⟨by rw [hR]; decide, by rw [hR]; decide⟩ rfl rfl rfl hl.1 rfl (Nat.le_of_ble_eq_true rfl) d_Face_is_2 ⟨Nat.zero_le _, Nat.zero_le _⟩ rfl ?_
  refine lv_if_ne (tgt := 15) hx hb d_Face_is_5 (by decide) (fun c3 => ?_) (fun c3 => ?_)
  · replace hf := iteF c3 hf
    refine lv_aload_n hx hb d_Face_is_15 rfl (lv_at hl 0 rfl) ?_
    refine va_get (D := D) (ci := 10) (v := .ref (cA 0)) (C := "BedFrontier") (T := T_Face) (N := 10) hx hb htt i_Face hown hK.1 hP 0 rfl rfl 2 (by decide) (htt _ k_201) (fun _ h9 => h9) rfl d_Face_is_16 ?_
    refine lv_iload_n hx hb d_Face_is_19 rfl (lv_at hl 1 rfl) ?_
    obtain ⟨x4, h5, hf⟩ := bdE hf
    refine vR (q0 := 0) (ci := 8) (rest := []) C0 (c_Clerk_kindsThatFit l D ty cA hA kA sC sH a1 x4 h5) k_663 cal_Clerk_kindsThatFit hK (hP.sub (ws' := (L_chk ty cA hA kA sC sH)) [1, 2, 3, 4, 5, 6, 7, 8, 9, 10, 11, 12, 13, 14, 15, 16] rfl) rfl rfl rfl ⟨by rw [hR]; decide, by rw [hR]; decide⟩ rfl rfl rfl hl.1 rfl (Nat.le_of_ble_eq_true rfl) d_Face_is_20 ⟨Nat.zero_le _, Nat.zero_le _⟩ rfl ?_
    obtain ⟨rfl, rfl⟩ := sj2 hf
    exact retM C0 (narI _) hQ hP hD hS d_Face_is_23
  · replace hf := iteT c3 hf
    refine lv_aload_n hx hb d_Face_is_8 rfl (lv_at hl 0 rfl) ?_
    refine lv_bipush (v := (-2 : Int32)) hx hb d_Face_is_9 (by decide) ?_
    obtain ⟨x6, sF7, h8, hf⟩ := bd2E hf
    refine vM (Lc := (L_f ty fA rA cA hA pv sF)) (Lc' := (L_f ty fA rA cA hA pv sF7)) (L' := (L_fchk ty fA rA cA hA kA pv sF7 sC sH)) (q0 := 0) (ci := 10) (rest := []) C0 (c_Face_refuseBad l D ty fA rA cA hA pv H.size sF (-2 : Int32) x6 sF7 h8) k_237 cal_Face_refuseBad hK hP hD hS hAq [0] [1, 2, 3, 4, 5, 6, 7, 8, 9, 10, 11, 12, 13, 14, 15, 16] [16, 0, 1, 2, 3, 4, 5, 6, 7, 8, 9, 10, 11, 12, 13, 14, 15] [(cA 0, .inr (8, [.ref (hA 0), .ref (cA 2)])), (cA 2, .inl (ty 0, 6, .inl (sC 1))), (hA 0, .inr (6, [.ref (kA 0), .ref (hA 2), .ref (hA 3), .ref (hA 4), .ref (hA 5), .ref (hA 6), .ref (hA 7), .int (sH 7 0), .int (sH 8 0), .int (sH 9 0), .int (sH 10 0), .int (sH 11 0), .int (sH 12 0), .int (sH 13 0), .int (sH 14 0)])), (hA 2, .inl (ty 0, 2, .inl (sH 1))), (hA 3, .inl (ty 0, 2, .inl (sH 2))), (hA 4, .inl (ty 0, 6, .inl (sH 3))), (hA 5, .inl (ty 0, 6, .inl (sH 4))), (hA 6, .inl (ty 0, 30, .inl (sH 5))), (hA 7, .inl (ty 0, 32, .inl (sH 6))), (kA 0, .inl (ty 3, 6, .inr (.inr (.inr (.inr (fun i => some (kA (i + 1)))))))), (kA 1, .inr (0, [])), (kA 2, .inr (1, [])), (kA 3, .inr (2, [])), (kA 4, .inr (3, [])), (kA 5, .inr (4, [])), (kA 6, .inr (5, []))] rfl rfl (by decide) (by decide) (by decide) (by decide) rfl rfl rfl rfl ⟨by rw [hR]; decide, by rw [hR]; decide⟩ rfl rfl rfl hl.1 rfl (Nat.le_of_ble_eq_true rfl) d_Face_is_11 ⟨by rw [hR]; decide, by rw [hR]; decide⟩ rfl (fun H locs hP hD hS => ?_)
    obtain ⟨rfl, rfl⟩ := sj2 hf
    exact retM C0 (narI _) hQ hP hD hS d_Face_is_14
def f_Face_look (sF : PW) (sC : PW) (sH : PW) (a1 : Int32) (a2 : Int32) : Option (Int32 × PW × PW) :=
  bd (f_Face_isDoing sF sH a1) (fun x1 => (if x1 = 0 then bd2 (f_Face_refuseBad sF (-2 : Int32)) (fun x4 sF5 => some (x4, sF5, sC)) else bd (f_Face_isSide a2) (fun x7 => (if x7 = 0 then bd2 (f_Face_refuseBad sF (-2 : Int32)) (fun x15 sF16 => some (x15, sF16, sC)) else bd (f_Clerk_kindsThatFit sC sH a1) (fun x10 => bd2 (f_Clerk_hourToLook sC sH a1 a2 x10) (fun x12 sC13 => some (x12, sF, sC13)))))))
set_option maxHeartbeats 4000000 in
set_option maxRecDepth 100000 in
theorem c_Face_look (l : Launch) (D : va_G) (ty : Nat → ClassId) (fA rA cA hA kA : Nat → Nat) (pv : Value) (sz : Nat) (sF : PW) (sC : PW) (sH : PW) (a1 : Int32) (a2 : Int32) (rr : Int32) (tF : PW) (tC : PW) (hf : f_Face_look sF sC sH a1 a2 = some (rr, tF, tC)) : Met l y_Face_look (Cond.code y_Face_look prog_1_method_25_code 3 ((Option.some FieldType.int)) :: lw_ok) { frames := 7, cells := 0, slots := 0, locals := 194 } (PcM D ty [.ref (fA 0), .int a1, .int a2] sz (L_fchk ty fA rA cA hA kA pv sF sC sH)) (QM D (L_fchk ty fA rA cA hA kA pv tF tC sH) (va_A (L_fchk ty fA rA cA hA kA pv sF sC sH) sz) (some (.int rr))) 0 0 (va_A (L_fchk ty fA rA cA hA kA pv sF sC sH) sz) := by
  refine hdM (by decide) (Nat.le_of_ble_eq_true rfl) ?_
  intro p e s m below meth c ls R args Q A C0 hR hQ hnm hAq hP hK hD hS hl
  obtain ⟨hx, hb, hr, hlk, hml, hown, htt⟩ := id C0
  have hl : lv_has ls 3 [(0, .ref (fA 0)), (1, .int a1), (2, .int a2)] := hl
  generalize hH0 : s.heap = H at hP hS ⊢
  have hS : va_S A s.heap H [] := by rw [hH0]; exact hS
  unfold f_Face_look at hf
  refine lv_aload_n hx hb d_Face_look_0 rfl (lv_at hl 0 rfl) ?_
  refine lv_iload_n hx hb d_Face_look_1 rfl (lv_at hl 1 rfl) ?_
  obtain ⟨x1, h2, hf⟩ := bdE hf
  refine vR (q0 := 0) (ci := 10) (rest := []) C0 (c_Face_isDoing l D ty fA rA cA hA kA pv sF sH a1 x1 h2) k_392 cal_Face_isDoing hK (hP.sub (ws' := (L_fh ty fA rA cA hA kA pv sF sH)) [0, 3, 4, 5, 6, 7, 8, 9] rfl) rfl rfl rfl ⟨by rw [hR]; decide, by rw [hR]; decide⟩ rfl rfl rfl hl.1 rfl (Nat.le_of_ble_eq_true rfl) d_Face_look_2 ⟨Nat.zero_le _, Nat.zero_le _⟩ rfl ?_
  refine lv_if_eq (tgt := 15) hx hb d_Face_look_5 (by decide) (fun c3 => ?_) (fun c3 => ?_)
  · replace hf := iteT c3 hf
    refine lv_aload_n hx hb d_Face_look_15 rfl (lv_at hl 0 rfl) ?_
    refine lv_bipush (v := (-2 : Int32)) hx hb d_Face_look_16 (by decide) ?_
    obtain ⟨x4, sF5, h6, hf⟩ := bd2E hf
    refine vM (Lc := (L_f ty fA rA cA hA pv sF)) (Lc' := (L_f ty fA rA cA hA pv sF5)) (L' := (L_fchk ty fA rA cA hA kA pv sF5 sC sH)) (q0 := 0) (ci := 10) (rest := []) C0 (c_Face_refuseBad l D ty fA rA cA hA pv H.size sF (-2 : Int32) x4 sF5 h6) k_237 cal_Face_refuseBad hK hP hD hS hAq [0] [1, 2, 3, 4, 5, 6, 7, 8, 9, 10, 11, 12, 13, 14, 15, 16] [16, 0, 1, 2, 3, 4, 5, 6, 7, 8, 9, 10, 11, 12, 13, 14, 15] [(cA 0, .inr (8, [.ref (hA 0), .ref (cA 2)])), (cA 2, .inl (ty 0, 6, .inl (sC 1))), (hA 0, .inr (6, [.ref (kA 0), .ref (hA 2), .ref (hA 3), .ref (hA 4), .ref (hA 5), .ref (hA 6), .ref (hA 7), .int (sH 7 0), .int (sH 8 0), .int (sH 9 0), .int (sH 10 0), .int (sH 11 0), .int (sH 12 0), .int (sH 13 0), .int (sH 14 0)])), (hA 2, .inl (ty 0, 2, .inl (sH 1))), (hA 3, .inl (ty 0, 2, .inl (sH 2))), (hA 4, .inl (ty 0, 6, .inl (sH 3))), (hA 5, .inl (ty 0, 6, .inl (sH 4))), (hA 6, .inl (ty 0, 30, .inl (sH 5))), (hA 7, .inl (ty 0, 32, .inl (sH 6))), (kA 0, .inl (ty 3, 6, .inr (.inr (.inr (.inr (fun i => some (kA (i + 1)))))))), (kA 1, .inr (0, [])), (kA 2, .inr (1, [])), (kA 3, .inr (2, [])), (kA 4, .inr (3, [])), (kA 5, .inr (4, [])), (kA 6, .inr (5, []))] rfl rfl (by decide) (by decide) (by decide) (by decide) rfl rfl rfl rfl ⟨by rw [hR]; decide, by rw [hR]; decide⟩ rfl rfl rfl hl.1 rfl (Nat.le_of_ble_eq_true rfl) d_Face_look_18 ⟨by rw [hR]; decide, by rw [hR]; decide⟩ rfl (fun H locs hP hD hS => ?_)
    obtain ⟨rfl, rfl, rfl⟩ := sj3 hf
    exact retM C0 (narI _) hQ hP hD hS d_Face_look_21
  · replace hf := iteF c3 hf
    refine lv_iload_n hx hb d_Face_look_8 rfl (lv_at hl 2 rfl) ?_
    obtain ⟨x7, h8, hf⟩ := bdE hf
    refine scR (rest := []) C0 (c_Face_isSide l D ty a2 x7 h8) k_246 cal_Face_isSide hK (va_P_nil) ⟨by rw [hR]; decide, by rw [hR]; decide⟩ rfl rfl rfl hl.1 rfl (Nat.le_of_ble_eq_true rfl) d_Face_look_9 ⟨Nat.zero_le _, Nat.zero_le _⟩ rfl ?_
    refine lv_if_ne (tgt := 22) hx hb d_Face_look_12 (by decide) (fun c9 => ?_) (fun c9 => ?_)
    · replace hf := iteF c9 hf
      refine lv_aload_n hx hb d_Face_look_22 rfl (lv_at hl 0 rfl) ?_
      refine va_get (D := D) (ci := 10) (v := .ref (cA 0)) (C := "BedFrontier") (T := T_Face) (N := 10) hx hb htt i_Face hown hK.1 hP 0 rfl rfl 2 (by decide) (htt _ k_201) (fun _ h9 => h9) rfl d_Face_look_23 ?_
      refine lv_iload_n hx hb d_Face_look_26 rfl (lv_at hl 1 rfl) ?_
      refine lv_iload_n hx hb d_Face_look_27 rfl (lv_at hl 2 rfl) ?_
      refine lv_aload_n hx hb d_Face_look_28 rfl (lv_at hl 0 rfl) ?_
      refine va_get (D := D) (ci := 10) (v := .ref (cA 0)) (C := "BedFrontier") (T := T_Face) (N := 10) hx hb htt i_Face hown hK.1 hP 0 rfl rfl 2 (by decide) (htt _ k_201) (fun _ h9 => h9) rfl d_Face_look_29 ?_
      refine lv_iload_n hx hb d_Face_look_32 rfl (lv_at hl 1 rfl) ?_
      obtain ⟨x10, h11, hf⟩ := bdE hf
      refine vR (q0 := 0) (ci := 8) (rest := [.int a2, .int a1, .ref (cA 0)]) C0 (c_Clerk_kindsThatFit l D ty cA hA kA sC sH a1 x10 h11) k_663 cal_Clerk_kindsThatFit hK (hP.sub (ws' := (L_chk ty cA hA kA sC sH)) [1, 2, 3, 4, 5, 6, 7, 8, 9, 10, 11, 12, 13, 14, 15, 16] rfl) rfl rfl rfl ⟨by rw [hR]; decide, by rw [hR]; decide⟩ rfl rfl rfl hl.1 rfl (Nat.le_of_ble_eq_true rfl) d_Face_look_33 ⟨Nat.zero_le _, Nat.zero_le _⟩ rfl ?_
      obtain ⟨x12, sC13, h14, hf⟩ := bd2E hf
      refine vM (Lc := (L_chk ty cA hA kA sC sH)) (Lc' := (L_chk ty cA hA kA sC13 sH)) (L' := (L_fchk ty fA rA cA hA kA pv sF sC13 sH)) (q0 := 0) (ci := 8) (rest := []) C0 (c_Clerk_hourToLook l D ty cA hA kA H.size sC sH a1 a2 x10 x12 sC13 h14) k_679 cal_Clerk_hourToLook hK hP hD hS hAq [1, 2, 3, 4, 5, 6, 7, 8, 9, 10, 11, 12, 13, 14, 15, 16] [0] [0, 1, 2, 3, 4, 5, 6, 7, 8, 9, 10, 11, 12, 13, 14, 15, 16] [(fA 0, .inr (10, [.ref (hA 0), .ref (rA 0), .ref (cA 0), .ref (fA 4), pv, .int (sF 5 0), .int (sF 6 0), .int (sF 7 0), .int (sF 8 0), .int (sF 9 0)]))] rfl rfl (by decide) (by decide) (by decide) (by decide) rfl rfl rfl rfl ⟨by rw [hR]; decide, by rw [hR]; decide⟩ rfl rfl rfl hl.1 rfl (Nat.le_of_ble_eq_true rfl) d_Face_look_36 ⟨by rw [hR]; decide, by rw [hR]; decide⟩ rfl (fun H locs hP hD hS => ?_)
      obtain ⟨rfl, rfl, rfl⟩ := sj3 hf
      exact retM C0 (narI _) hQ hP hD hS d_Face_look_39
    · replace hf := iteT c9 hf
      refine lv_aload_n hx hb d_Face_look_15 rfl (lv_at hl 0 rfl) ?_
      refine lv_bipush (v := (-2 : Int32)) hx hb d_Face_look_16 (by decide) ?_
      obtain ⟨x15, sF16, h17, hf⟩ := bd2E hf
      refine vM (Lc := (L_f ty fA rA cA hA pv sF)) (Lc' := (L_f ty fA rA cA hA pv sF16)) (L' := (L_fchk ty fA rA cA hA kA pv sF16 sC sH)) (q0 := 0) (ci := 10) (rest := []) C0 (c_Face_refuseBad l D ty fA rA cA hA pv H.size sF (-2 : Int32) x15 sF16 h17) k_237 cal_Face_refuseBad hK hP hD hS hAq [0] [1, 2, 3, 4, 5, 6, 7, 8, 9, 10, 11, 12, 13, 14, 15, 16] [16, 0, 1, 2, 3, 4, 5, 6, 7, 8, 9, 10, 11, 12, 13, 14, 15] [(cA 0, .inr (8, [.ref (hA 0), .ref (cA 2)])), (cA 2, .inl (ty 0, 6, .inl (sC 1))), (hA 0, .inr (6, [.ref (kA 0), .ref (hA 2), .ref (hA 3), .ref (hA 4), .ref (hA 5), .ref (hA 6), .ref (hA 7), .int (sH 7 0), .int (sH 8 0), .int (sH 9 0), .int (sH 10 0), .int (sH 11 0), .int (sH 12 0), .int (sH 13 0), .int (sH 14 0)])), (hA 2, .inl (ty 0, 2, .inl (sH 1))), (hA 3, .inl (ty 0, 2, .inl (sH 2))), (hA 4, .inl (ty 0, 6, .inl (sH 3))), (hA 5, .inl (ty 0, 6, .inl (sH 4))), (hA 6, .inl (ty 0, 30, .inl (sH 5))), (hA 7, .inl (ty 0, 32, .inl (sH 6))), (kA 0, .inl (ty 3, 6, .inr (.inr (.inr (.inr (fun i => some (kA (i + 1)))))))), (kA 1, .inr (0, [])), (kA 2, .inr (1, [])), (kA 3, .inr (2, [])), (kA 4, .inr (3, [])), (kA 5, .inr (4, [])), (kA 6, .inr (5, []))] rfl rfl (by decide) (by decide) (by decide) (by decide) rfl rfl rfl rfl ⟨by rw [hR]; decide, by rw [hR]; decide⟩ rfl rfl rfl hl.1 rfl (Nat.le_of_ble_eq_true rfl) d_Face_look_18 ⟨by rw [hR]; decide, by rw [hR]; decide⟩ rfl (fun H locs hP hD hS => ?_)
      obtain ⟨rfl, rfl, rfl⟩ := sj3 hf
      exact retM C0 (narI _) hQ hP hD hS d_Face_look_21
def f_Face_wars (sF : PW) (sC : PW) (sH : PW) (a1 : Int32) (a2 : Int32) : Option (Int32 × PW) :=
  bd (f_Face_isSide a1) (fun x1 => (if x1 = 0 then bd2 (f_Face_refuseBad sF (-1000 : Int32)) (fun x4 sF5 => some (x4, sF5)) else bd (f_Face_isHour a2) (fun x7 => (if x7 = 0 then bd2 (f_Face_refuseBad sF (-1000 : Int32)) (fun x12 sF13 => some (x12, sF13)) else bd (f_Clerk_moreInWar sC sH a1 a2) (fun x10 => some (x10, sF))))))
set_option maxHeartbeats 4000000 in
set_option maxRecDepth 100000 in
theorem c_Face_wars (l : Launch) (D : va_G) (ty : Nat → ClassId) (fA rA cA hA kA : Nat → Nat) (pv : Value) (sz : Nat) (sF : PW) (sC : PW) (sH : PW) (a1 : Int32) (a2 : Int32) (rr : Int32) (tF : PW) (hf : f_Face_wars sF sC sH a1 a2 = some (rr, tF)) : Met l y_Face_wars (Cond.code y_Face_wars prog_1_method_26_code 3 ((Option.some FieldType.int)) :: lw_ok) { frames := 6, cells := 0, slots := 0, locals := 171 } (PcM D ty [.ref (fA 0), .int a1, .int a2] sz (L_fchk ty fA rA cA hA kA pv sF sC sH)) (QM D (L_fchk ty fA rA cA hA kA pv tF sC sH) (va_A (L_fchk ty fA rA cA hA kA pv sF sC sH) sz) (some (.int rr))) 0 0 (va_A (L_fchk ty fA rA cA hA kA pv sF sC sH) sz) := by
  refine hdM (by decide) (Nat.le_of_ble_eq_true rfl) ?_
  intro p e s m below meth c ls R args Q A C0 hR hQ hnm hAq hP hK hD hS hl
  obtain ⟨hx, hb, hr, hlk, hml, hown, htt⟩ := id C0
  have hl : lv_has ls 3 [(0, .ref (fA 0)), (1, .int a1), (2, .int a2)] := hl
  generalize hH0 : s.heap = H at hP hS ⊢
  have hS : va_S A s.heap H [] := by rw [hH0]; exact hS
  unfold f_Face_wars at hf
  refine lv_iload_n hx hb d_Face_wars_0 rfl (lv_at hl 1 rfl) ?_
  obtain ⟨x1, h2, hf⟩ := bdE hf
  refine scR (rest := []) C0 (c_Face_isSide l D ty a1 x1 h2) k_246 cal_Face_isSide hK (va_P_nil) ⟨by rw [hR]; decide, by rw [hR]; decide⟩ rfl rfl rfl hl.1 rfl (Nat.le_of_ble_eq_true rfl) d_Face_wars_1 ⟨Nat.zero_le _, Nat.zero_le _⟩ rfl ?_
  refine lv_if_eq (tgt := 14) hx hb d_Face_wars_4 (by decide) (fun c3 => ?_) (fun c3 => ?_)
  · replace hf := iteT c3 hf
    refine lv_aload_n hx hb d_Face_wars_14 rfl (lv_at hl 0 rfl) ?_
    refine lv_sipush (v := (-1000 : Int32)) hx hb d_Face_wars_15 (by decide) ?_
    obtain ⟨x4, sF5, h6, hf⟩ := bd2E hf
    refine vM (Lc := (L_f ty fA rA cA hA pv sF)) (Lc' := (L_f ty fA rA cA hA pv sF5)) (L' := (L_fchk ty fA rA cA hA kA pv sF5 sC sH)) (q0 := 0) (ci := 10) (rest := []) C0 (c_Face_refuseBad l D ty fA rA cA hA pv H.size sF (-1000 : Int32) x4 sF5 h6) k_237 cal_Face_refuseBad hK hP hD hS hAq [0] [1, 2, 3, 4, 5, 6, 7, 8, 9, 10, 11, 12, 13, 14, 15, 16] [16, 0, 1, 2, 3, 4, 5, 6, 7, 8, 9, 10, 11, 12, 13, 14, 15] [(cA 0, .inr (8, [.ref (hA 0), .ref (cA 2)])), (cA 2, .inl (ty 0, 6, .inl (sC 1))), (hA 0, .inr (6, [.ref (kA 0), .ref (hA 2), .ref (hA 3), .ref (hA 4), .ref (hA 5), .ref (hA 6), .ref (hA 7), .int (sH 7 0), .int (sH 8 0), .int (sH 9 0), .int (sH 10 0), .int (sH 11 0), .int (sH 12 0), .int (sH 13 0), .int (sH 14 0)])), (hA 2, .inl (ty 0, 2, .inl (sH 1))), (hA 3, .inl (ty 0, 2, .inl (sH 2))), (hA 4, .inl (ty 0, 6, .inl (sH 3))), (hA 5, .inl (ty 0, 6, .inl (sH 4))), (hA 6, .inl (ty 0, 30, .inl (sH 5))), (hA 7, .inl (ty 0, 32, .inl (sH 6))), (kA 0, .inl (ty 3, 6, .inr (.inr (.inr (.inr (fun i => some (kA (i + 1)))))))), (kA 1, .inr (0, [])), (kA 2, .inr (1, [])), (kA 3, .inr (2, [])), (kA 4, .inr (3, [])), (kA 5, .inr (4, [])), (kA 6, .inr (5, []))] rfl rfl (by decide) (by decide) (by decide) (by decide) rfl rfl rfl rfl ⟨by rw [hR]; decide, by rw [hR]; decide⟩ rfl rfl rfl hl.1 rfl (Nat.le_of_ble_eq_true rfl) d_Face_wars_18 ⟨by rw [hR]; decide, by rw [hR]; decide⟩ rfl (fun H locs hP hD hS => ?_)
    obtain ⟨rfl, rfl⟩ := sj2 hf
    exact retM C0 (narI _) hQ hP hD hS d_Face_wars_21
  · replace hf := iteF c3 hf
    refine lv_iload_n hx hb d_Face_wars_7 rfl (lv_at hl 2 rfl) ?_
    obtain ⟨x7, h8, hf⟩ := bdE hf
    refine scR (rest := []) C0 (c_Face_isHour l D ty a2 x7 h8) k_506 cal_Face_isHour hK (va_P_nil) ⟨by rw [hR]; decide, by rw [hR]; decide⟩ rfl rfl rfl hl.1 rfl (Nat.le_of_ble_eq_true rfl) d_Face_wars_8 ⟨Nat.zero_le _, Nat.zero_le _⟩ rfl ?_
    refine lv_if_ne (tgt := 22) hx hb d_Face_wars_11 (by decide) (fun c9 => ?_) (fun c9 => ?_)
    · replace hf := iteF c9 hf
      refine lv_aload_n hx hb d_Face_wars_22 rfl (lv_at hl 0 rfl) ?_
      refine va_get (D := D) (ci := 10) (v := .ref (cA 0)) (C := "BedFrontier") (T := T_Face) (N := 10) hx hb htt i_Face hown hK.1 hP 0 rfl rfl 2 (by decide) (htt _ k_201) (fun _ h9 => h9) rfl d_Face_wars_23 ?_
      refine lv_iload_n hx hb d_Face_wars_26 rfl (lv_at hl 1 rfl) ?_
      refine lv_iload_n hx hb d_Face_wars_27 rfl (lv_at hl 2 rfl) ?_
      obtain ⟨x10, h11, hf⟩ := bdE hf
      refine vR (q0 := 0) (ci := 8) (rest := []) C0 (c_Clerk_moreInWar l D ty cA hA kA sC sH a1 a2 x10 h11) k_691 cal_Clerk_moreInWar hK (hP.sub (ws' := (L_chk ty cA hA kA sC sH)) [1, 2, 3, 4, 5, 6, 7, 8, 9, 10, 11, 12, 13, 14, 15, 16] rfl) rfl rfl rfl ⟨by rw [hR]; decide, by rw [hR]; decide⟩ rfl rfl rfl hl.1 rfl (Nat.le_of_ble_eq_true rfl) d_Face_wars_28 ⟨Nat.zero_le _, Nat.zero_le _⟩ rfl ?_
      obtain ⟨rfl, rfl⟩ := sj2 hf
      exact retM C0 (narI _) hQ hP hD hS d_Face_wars_31
    · replace hf := iteT c9 hf
      refine lv_aload_n hx hb d_Face_wars_14 rfl (lv_at hl 0 rfl) ?_
      refine lv_sipush (v := (-1000 : Int32)) hx hb d_Face_wars_15 (by decide) ?_
      obtain ⟨x12, sF13, h14, hf⟩ := bd2E hf
      refine vM (Lc := (L_f ty fA rA cA hA pv sF)) (Lc' := (L_f ty fA rA cA hA pv sF13)) (L' := (L_fchk ty fA rA cA hA kA pv sF13 sC sH)) (q0 := 0) (ci := 10) (rest := []) C0 (c_Face_refuseBad l D ty fA rA cA hA pv H.size sF (-1000 : Int32) x12 sF13 h14) k_237 cal_Face_refuseBad hK hP hD hS hAq [0] [1, 2, 3, 4, 5, 6, 7, 8, 9, 10, 11, 12, 13, 14, 15, 16] [16, 0, 1, 2, 3, 4, 5, 6, 7, 8, 9, 10, 11, 12, 13, 14, 15] [(cA 0, .inr (8, [.ref (hA 0), .ref (cA 2)])), (cA 2, .inl (ty 0, 6, .inl (sC 1))), (hA 0, .inr (6, [.ref (kA 0), .ref (hA 2), .ref (hA 3), .ref (hA 4), .ref (hA 5), .ref (hA 6), .ref (hA 7), .int (sH 7 0), .int (sH 8 0), .int (sH 9 0), .int (sH 10 0), .int (sH 11 0), .int (sH 12 0), .int (sH 13 0), .int (sH 14 0)])), (hA 2, .inl (ty 0, 2, .inl (sH 1))), (hA 3, .inl (ty 0, 2, .inl (sH 2))), (hA 4, .inl (ty 0, 6, .inl (sH 3))), (hA 5, .inl (ty 0, 6, .inl (sH 4))), (hA 6, .inl (ty 0, 30, .inl (sH 5))), (hA 7, .inl (ty 0, 32, .inl (sH 6))), (kA 0, .inl (ty 3, 6, .inr (.inr (.inr (.inr (fun i => some (kA (i + 1)))))))), (kA 1, .inr (0, [])), (kA 2, .inr (1, [])), (kA 3, .inr (2, [])), (kA 4, .inr (3, [])), (kA 5, .inr (4, [])), (kA 6, .inr (5, []))] rfl rfl (by decide) (by decide) (by decide) (by decide) rfl rfl rfl rfl ⟨by rw [hR]; decide, by rw [hR]; decide⟩ rfl rfl rfl hl.1 rfl (Nat.le_of_ble_eq_true rfl) d_Face_wars_18 ⟨by rw [hR]; decide, by rw [hR]; decide⟩ rfl (fun H locs hP hD hS => ?_)
      obtain ⟨rfl, rfl⟩ := sj2 hf
      exact retM C0 (narI _) hQ hP hD hS d_Face_wars_21
def f_Face_sentry (sF : PW) (sC : PW) (sH : PW) (a1 : Int32) (a2 : Int32) : Option (Int32 × PW) :=
  bd (f_Face_isDoing sF sH a1) (fun x1 => (if x1 = 0 then bd2 (f_Face_refuseBad sF (-2 : Int32)) (fun x4 sF5 => some (x4, sF5)) else bd (f_Face_within a2 (10 : Int32)) (fun x7 => (if x7 = 0 then bd2 (f_Face_refuseBad sF (-2 : Int32)) (fun x14 sF15 => some (x14, sF15)) else bd (f_Clerk_hundredthsShut sC sH a1 a2) (fun x10 => bd (f_Face_setFraction sF ((100 : Int32) - x10) (100 : Int32)) (fun sF12 => some ((1 : Int32), sF12)))))))
set_option maxHeartbeats 4000000 in
set_option maxRecDepth 100000 in
theorem c_Face_sentry (l : Launch) (D : va_G) (ty : Nat → ClassId) (fA rA cA hA kA : Nat → Nat) (pv : Value) (sz : Nat) (sF : PW) (sC : PW) (sH : PW) (a1 : Int32) (a2 : Int32) (rr : Int32) (tF : PW) (hf : f_Face_sentry sF sC sH a1 a2 = some (rr, tF)) : Met l y_Face_sentry (Cond.code y_Face_sentry prog_1_method_27_code 3 ((Option.some FieldType.int)) :: lw_ok) { frames := 7, cells := 0, slots := 0, locals := 188 } (PcM D ty [.ref (fA 0), .int a1, .int a2] sz (L_fchk ty fA rA cA hA kA pv sF sC sH)) (QM D (L_fchk ty fA rA cA hA kA pv tF sC sH) (va_A (L_fchk ty fA rA cA hA kA pv sF sC sH) sz) (some (.int rr))) 0 0 (va_A (L_fchk ty fA rA cA hA kA pv sF sC sH) sz) := by
  refine hdM (by decide) (Nat.le_of_ble_eq_true rfl) ?_
  intro p e s m below meth c ls R args Q A C0 hR hQ hnm hAq hP hK hD hS hl
  obtain ⟨hx, hb, hr, hlk, hml, hown, htt⟩ := id C0
  have hl : lv_has ls 3 [(0, .ref (fA 0)), (1, .int a1), (2, .int a2)] := hl
  generalize hH0 : s.heap = H at hP hS ⊢
  have hS : va_S A s.heap H [] := by rw [hH0]; exact hS
  unfold f_Face_sentry at hf
  refine lv_aload_n hx hb d_Face_sentry_0 rfl (lv_at hl 0 rfl) ?_
  refine lv_iload_n hx hb d_Face_sentry_1 rfl (lv_at hl 1 rfl) ?_
  obtain ⟨x1, h2, hf⟩ := bdE hf
  refine vR (q0 := 0) (ci := 10) (rest := []) C0 (c_Face_isDoing l D ty fA rA cA hA kA pv sF sH a1 x1 h2) k_392 cal_Face_isDoing hK (hP.sub (ws' := (L_fh ty fA rA cA hA kA pv sF sH)) [0, 3, 4, 5, 6, 7, 8, 9] rfl) rfl rfl rfl ⟨by rw [hR]; decide, by rw [hR]; decide⟩ rfl rfl rfl hl.1 rfl (Nat.le_of_ble_eq_true rfl) d_Face_sentry_2 ⟨Nat.zero_le _, Nat.zero_le _⟩ rfl ?_
  refine lv_if_eq (tgt := 17) hx hb d_Face_sentry_5 (by decide) (fun c3 => ?_) (fun c3 => ?_)
  · replace hf := iteT c3 hf
    refine lv_aload_n hx hb d_Face_sentry_17 rfl (lv_at hl 0 rfl) ?_
    refine lv_bipush (v := (-2 : Int32)) hx hb d_Face_sentry_18 (by decide) ?_
    obtain ⟨x4, sF5, h6, hf⟩ := bd2E hf
    refine vM (Lc := (L_f ty fA rA cA hA pv sF)) (Lc' := (L_f ty fA rA cA hA pv sF5)) (L' := (L_fchk ty fA rA cA hA kA pv sF5 sC sH)) (q0 := 0) (ci := 10) (rest := []) C0 (c_Face_refuseBad l D ty fA rA cA hA pv H.size sF (-2 : Int32) x4 sF5 h6) k_237 cal_Face_refuseBad hK hP hD hS hAq [0] [1, 2, 3, 4, 5, 6, 7, 8, 9, 10, 11, 12, 13, 14, 15, 16] [16, 0, 1, 2, 3, 4, 5, 6, 7, 8, 9, 10, 11, 12, 13, 14, 15] [(cA 0, .inr (8, [.ref (hA 0), .ref (cA 2)])), (cA 2, .inl (ty 0, 6, .inl (sC 1))), (hA 0, .inr (6, [.ref (kA 0), .ref (hA 2), .ref (hA 3), .ref (hA 4), .ref (hA 5), .ref (hA 6), .ref (hA 7), .int (sH 7 0), .int (sH 8 0), .int (sH 9 0), .int (sH 10 0), .int (sH 11 0), .int (sH 12 0), .int (sH 13 0), .int (sH 14 0)])), (hA 2, .inl (ty 0, 2, .inl (sH 1))), (hA 3, .inl (ty 0, 2, .inl (sH 2))), (hA 4, .inl (ty 0, 6, .inl (sH 3))), (hA 5, .inl (ty 0, 6, .inl (sH 4))), (hA 6, .inl (ty 0, 30, .inl (sH 5))), (hA 7, .inl (ty 0, 32, .inl (sH 6))), (kA 0, .inl (ty 3, 6, .inr (.inr (.inr (.inr (fun i => some (kA (i + 1)))))))), (kA 1, .inr (0, [])), (kA 2, .inr (1, [])), (kA 3, .inr (2, [])), (kA 4, .inr (3, [])), (kA 5, .inr (4, [])), (kA 6, .inr (5, []))] rfl rfl (by decide) (by decide) (by decide) (by decide) rfl rfl rfl rfl ⟨by rw [hR]; decide, by rw [hR]; decide⟩ rfl rfl rfl hl.1 rfl (Nat.le_of_ble_eq_true rfl) d_Face_sentry_20 ⟨by rw [hR]; decide, by rw [hR]; decide⟩ rfl (fun H locs hP hD hS => ?_)
    obtain ⟨rfl, rfl⟩ := sj2 hf
    exact retM C0 (narI _) hQ hP hD hS d_Face_sentry_23
  · replace hf := iteF c3 hf
    refine lv_iload_n hx hb d_Face_sentry_8 rfl (lv_at hl 2 rfl) ?_
    refine lv_bipush (v := (10 : Int32)) hx hb d_Face_sentry_9 (by decide) ?_
    obtain ⟨x7, h8, hf⟩ := bdE hf
    refine scR (rest := []) C0 (c_Face_within l D ty a2 (10 : Int32) x7 h8) k_234 cal_Face_within hK (va_P_nil) ⟨by rw [hR]; decide, by rw [hR]; decide⟩ rfl rfl rfl hl.1 rfl (Nat.le_of_ble_eq_true rfl) d_Face_sentry_11 ⟨Nat.zero_le _, Nat.zero_le _⟩ rfl ?_
    refine lv_if_ne (tgt := 24) hx hb d_Face_sentry_14 (by decide) (fun c9 => ?_) (fun c9 => ?_)
    · replace hf := iteF c9 hf
      refine lv_aload_n hx hb d_Face_sentry_24 rfl (lv_at hl 0 rfl) ?_
      refine lv_bipush (v := (100 : Int32)) hx hb d_Face_sentry_25 (by decide) ?_
      refine lv_aload_n hx hb d_Face_sentry_27 rfl (lv_at hl 0 rfl) ?_
      refine va_get (D := D) (ci := 10) (v := .ref (cA 0)) (C := "BedFrontier") (T := T_Face) (N := 10) hx hb htt i_Face hown hK.1 hP 0 rfl rfl 2 (by decide) (htt _ k_201) (fun _ h9 => h9) rfl d_Face_sentry_28 ?_
      refine lv_iload_n hx hb d_Face_sentry_31 rfl (lv_at hl 1 rfl) ?_
      refine lv_iload_n hx hb d_Face_sentry_32 rfl (lv_at hl 2 rfl) ?_
      obtain ⟨x10, h11, hf⟩ := bdE hf
      refine vR (q0 := 0) (ci := 8) (rest := [.int (100 : Int32), .ref (fA 0)]) C0 (c_Clerk_hundredthsShut l D ty cA hA kA sC sH a1 a2 x10 h11) k_700 cal_Clerk_hundredthsShut hK (hP.sub (ws' := (L_chk ty cA hA kA sC sH)) [1, 2, 3, 4, 5, 6, 7, 8, 9, 10, 11, 12, 13, 14, 15, 16] rfl) rfl rfl rfl ⟨by rw [hR]; decide, by rw [hR]; decide⟩ rfl rfl rfl hl.1 rfl (Nat.le_of_ble_eq_true rfl) d_Face_sentry_33 ⟨Nat.zero_le _, Nat.zero_le _⟩ rfl ?_
      refine lv_isub hx hb d_Face_sentry_36 ?_
      refine lv_bipush (v := (100 : Int32)) hx hb d_Face_sentry_37 (by decide) ?_
      obtain ⟨sF12, h13, hf⟩ := bdE hf
      refine vM (Lc := (L_f ty fA rA cA hA pv sF)) (Lc' := (L_f ty fA rA cA hA pv sF12)) (L' := (L_fchk ty fA rA cA hA kA pv sF12 sC sH)) (q0 := 0) (ci := 10) (rest := []) C0 (c_Face_setFraction l D ty fA rA cA hA pv H.size sF ((100 : Int32) - x10) (100 : Int32) sF12 h13) k_604 cal_Face_setFraction hK hP hD hS hAq [0] [1, 2, 3, 4, 5, 6, 7, 8, 9, 10, 11, 12, 13, 14, 15, 16] [16, 0, 1, 2, 3, 4, 5, 6, 7, 8, 9, 10, 11, 12, 13, 14, 15] [(cA 0, .inr (8, [.ref (hA 0), .ref (cA 2)])), (cA 2, .inl (ty 0, 6, .inl (sC 1))), (hA 0, .inr (6, [.ref (kA 0), .ref (hA 2), .ref (hA 3), .ref (hA 4), .ref (hA 5), .ref (hA 6), .ref (hA 7), .int (sH 7 0), .int (sH 8 0), .int (sH 9 0), .int (sH 10 0), .int (sH 11 0), .int (sH 12 0), .int (sH 13 0), .int (sH 14 0)])), (hA 2, .inl (ty 0, 2, .inl (sH 1))), (hA 3, .inl (ty 0, 2, .inl (sH 2))), (hA 4, .inl (ty 0, 6, .inl (sH 3))), (hA 5, .inl (ty 0, 6, .inl (sH 4))), (hA 6, .inl (ty 0, 30, .inl (sH 5))), (hA 7, .inl (ty 0, 32, .inl (sH 6))), (kA 0, .inl (ty 3, 6, .inr (.inr (.inr (.inr (fun i => some (kA (i + 1)))))))), (kA 1, .inr (0, [])), (kA 2, .inr (1, [])), (kA 3, .inr (2, [])), (kA 4, .inr (3, [])), (kA 5, .inr (4, [])), (kA 6, .inr (5, []))] rfl rfl (by decide) (by decide) (by decide) (by decide) rfl rfl rfl rfl ⟨by rw [hR]; decide, by rw [hR]; decide⟩ rfl rfl rfl hl.1 rfl (Nat.le_of_ble_eq_true rfl) d_Face_sentry_39 ⟨by rw [hR]; decide, by rw [hR]; decide⟩ rfl (fun H locs hP hD hS => ?_)
      refine lv_iconst (v := (1 : Int32)) hx hb d_Face_sentry_42 (by decide) ?_
      obtain ⟨rfl, rfl⟩ := sj2 hf
      exact retM C0 (narI _) hQ hP hD hS d_Face_sentry_43
    · replace hf := iteT c9 hf
      refine lv_aload_n hx hb d_Face_sentry_17 rfl (lv_at hl 0 rfl) ?_
      refine lv_bipush (v := (-2 : Int32)) hx hb d_Face_sentry_18 (by decide) ?_
      obtain ⟨x14, sF15, h16, hf⟩ := bd2E hf
      refine vM (Lc := (L_f ty fA rA cA hA pv sF)) (Lc' := (L_f ty fA rA cA hA pv sF15)) (L' := (L_fchk ty fA rA cA hA kA pv sF15 sC sH)) (q0 := 0) (ci := 10) (rest := []) C0 (c_Face_refuseBad l D ty fA rA cA hA pv H.size sF (-2 : Int32) x14 sF15 h16) k_237 cal_Face_refuseBad hK hP hD hS hAq [0] [1, 2, 3, 4, 5, 6, 7, 8, 9, 10, 11, 12, 13, 14, 15, 16] [16, 0, 1, 2, 3, 4, 5, 6, 7, 8, 9, 10, 11, 12, 13, 14, 15] [(cA 0, .inr (8, [.ref (hA 0), .ref (cA 2)])), (cA 2, .inl (ty 0, 6, .inl (sC 1))), (hA 0, .inr (6, [.ref (kA 0), .ref (hA 2), .ref (hA 3), .ref (hA 4), .ref (hA 5), .ref (hA 6), .ref (hA 7), .int (sH 7 0), .int (sH 8 0), .int (sH 9 0), .int (sH 10 0), .int (sH 11 0), .int (sH 12 0), .int (sH 13 0), .int (sH 14 0)])), (hA 2, .inl (ty 0, 2, .inl (sH 1))), (hA 3, .inl (ty 0, 2, .inl (sH 2))), (hA 4, .inl (ty 0, 6, .inl (sH 3))), (hA 5, .inl (ty 0, 6, .inl (sH 4))), (hA 6, .inl (ty 0, 30, .inl (sH 5))), (hA 7, .inl (ty 0, 32, .inl (sH 6))), (kA 0, .inl (ty 3, 6, .inr (.inr (.inr (.inr (fun i => some (kA (i + 1)))))))), (kA 1, .inr (0, [])), (kA 2, .inr (1, [])), (kA 3, .inr (2, [])), (kA 4, .inr (3, [])), (kA 5, .inr (4, [])), (kA 6, .inr (5, []))] rfl rfl (by decide) (by decide) (by decide) (by decide) rfl rfl rfl rfl ⟨by rw [hR]; decide, by rw [hR]; decide⟩ rfl rfl rfl hl.1 rfl (Nat.le_of_ble_eq_true rfl) d_Face_sentry_20 ⟨by rw [hR]; decide, by rw [hR]; decide⟩ rfl (fun H locs hP hD hS => ?_)
      obtain ⟨rfl, rfl⟩ := sj2 hf
      exact retM C0 (narI _) hQ hP hD hS d_Face_sentry_23
def f_Face_days (sF : PW) (sC : PW) (sH : PW) (a1 : Int32) (a2 : Int32) : Option (Int32 × PW) :=
  bd (f_Face_within a1 (999999 : Int32)) (fun x1 => (if x1 = 0 then bd2 (f_Face_refuseBad sF (-2 : Int32)) (fun x4 sF5 => some (x4, sF5)) else bd (f_Face_within a2 (60 : Int32)) (fun x7 => (if x7 = 0 then bd2 (f_Face_refuseBad sF (-2 : Int32)) (fun x16 sF17 => some (x16, sF17)) else (if (sH 12 0) = 0 then bd2 (f_Face_refuseNo sF) (fun x13 sF14 => some (x13, sF14)) else bd (f_Clerk_paidByChance sC sH a1 a2) (fun x11 => some (x11, sF)))))))
set_option maxHeartbeats 4000000 in
set_option maxRecDepth 100000 in
theorem c_Face_days (l : Launch) (D : va_G) (ty : Nat → ClassId) (fA rA cA hA kA : Nat → Nat) (pv : Value) (sz : Nat) (sF : PW) (sC : PW) (sH : PW) (a1 : Int32) (a2 : Int32) (rr : Int32) (tF : PW) (hf : f_Face_days sF sC sH a1 a2 = some (rr, tF)) : Met l y_Face_days (Cond.code y_Face_days prog_1_method_28_code 3 ((Option.some FieldType.int)) :: lw_ok) { frames := 7, cells := 0, slots := 0, locals := 196 } (PcM D ty [.ref (fA 0), .int a1, .int a2] sz (L_fchk ty fA rA cA hA kA pv sF sC sH)) (QM D (L_fchk ty fA rA cA hA kA pv tF sC sH) (va_A (L_fchk ty fA rA cA hA kA pv sF sC sH) sz) (some (.int rr))) 0 0 (va_A (L_fchk ty fA rA cA hA kA pv sF sC sH) sz) := by
  refine hdM (by decide) (Nat.le_of_ble_eq_true rfl) ?_
  intro p e s m below meth c ls R args Q A C0 hR hQ hnm hAq hP hK hD hS hl
  obtain ⟨hx, hb, hr, hlk, hml, hown, htt⟩ := id C0
  have hl : lv_has ls 3 [(0, .ref (fA 0)), (1, .int a1), (2, .int a2)] := hl
  generalize hH0 : s.heap = H at hP hS ⊢
  have hS : va_S A s.heap H [] := by rw [hH0]; exact hS
  unfold f_Face_days at hf
  refine lv_iload_n hx hb d_Face_days_0 rfl (lv_at hl 1 rfl) ?_
  refine lv_ldc (v := (999999 : Int32)) hx hb hown (htt _ k_713) d_Face_days_1 ?_
  obtain ⟨x1, h2, hf⟩ := bdE hf
  refine scR (rest := []) C0 (c_Face_within l D ty a1 (999999 : Int32) x1 h2) k_234 cal_Face_within hK (va_P_nil) ⟨by rw [hR]; decide, by rw [hR]; decide⟩ rfl rfl rfl hl.1 rfl (Nat.le_of_ble_eq_true rfl) d_Face_days_3 ⟨Nat.zero_le _, Nat.zero_le _⟩ rfl ?_
  refine lv_if_eq (tgt := 18) hx hb d_Face_days_6 (by decide) (fun c3 => ?_) (fun c3 => ?_)
  · replace hf := iteT c3 hf
    refine lv_aload_n hx hb d_Face_days_18 rfl (lv_at hl 0 rfl) ?_
    refine lv_bipush (v := (-2 : Int32)) hx hb d_Face_days_19 (by decide) ?_
    obtain ⟨x4, sF5, h6, hf⟩ := bd2E hf
    refine vM (Lc := (L_f ty fA rA cA hA pv sF)) (Lc' := (L_f ty fA rA cA hA pv sF5)) (L' := (L_fchk ty fA rA cA hA kA pv sF5 sC sH)) (q0 := 0) (ci := 10) (rest := []) C0 (c_Face_refuseBad l D ty fA rA cA hA pv H.size sF (-2 : Int32) x4 sF5 h6) k_237 cal_Face_refuseBad hK hP hD hS hAq [0] [1, 2, 3, 4, 5, 6, 7, 8, 9, 10, 11, 12, 13, 14, 15, 16] [16, 0, 1, 2, 3, 4, 5, 6, 7, 8, 9, 10, 11, 12, 13, 14, 15] [(cA 0, .inr (8, [.ref (hA 0), .ref (cA 2)])), (cA 2, .inl (ty 0, 6, .inl (sC 1))), (hA 0, .inr (6, [.ref (kA 0), .ref (hA 2), .ref (hA 3), .ref (hA 4), .ref (hA 5), .ref (hA 6), .ref (hA 7), .int (sH 7 0), .int (sH 8 0), .int (sH 9 0), .int (sH 10 0), .int (sH 11 0), .int (sH 12 0), .int (sH 13 0), .int (sH 14 0)])), (hA 2, .inl (ty 0, 2, .inl (sH 1))), (hA 3, .inl (ty 0, 2, .inl (sH 2))), (hA 4, .inl (ty 0, 6, .inl (sH 3))), (hA 5, .inl (ty 0, 6, .inl (sH 4))), (hA 6, .inl (ty 0, 30, .inl (sH 5))), (hA 7, .inl (ty 0, 32, .inl (sH 6))), (kA 0, .inl (ty 3, 6, .inr (.inr (.inr (.inr (fun i => some (kA (i + 1)))))))), (kA 1, .inr (0, [])), (kA 2, .inr (1, [])), (kA 3, .inr (2, [])), (kA 4, .inr (3, [])), (kA 5, .inr (4, [])), (kA 6, .inr (5, []))] rfl rfl (by decide) (by decide) (by decide) (by decide) rfl rfl rfl rfl ⟨by rw [hR]; decide, by rw [hR]; decide⟩ rfl rfl rfl hl.1 rfl (Nat.le_of_ble_eq_true rfl) d_Face_days_21 ⟨by rw [hR]; decide, by rw [hR]; decide⟩ rfl (fun H locs hP hD hS => ?_)
    obtain ⟨rfl, rfl⟩ := sj2 hf
    exact retM C0 (narI _) hQ hP hD hS d_Face_days_24
  · replace hf := iteF c3 hf
    refine lv_iload_n hx hb d_Face_days_9 rfl (lv_at hl 2 rfl) ?_
    refine lv_bipush (v := (60 : Int32)) hx hb d_Face_days_10 (by decide) ?_
    obtain ⟨x7, h8, hf⟩ := bdE hf
    refine scR (rest := []) C0 (c_Face_within l D ty a2 (60 : Int32) x7 h8) k_234 cal_Face_within hK (va_P_nil) ⟨by rw [hR]; decide, by rw [hR]; decide⟩ rfl rfl rfl hl.1 rfl (Nat.le_of_ble_eq_true rfl) d_Face_days_12 ⟨Nat.zero_le _, Nat.zero_le _⟩ rfl ?_
    refine lv_if_ne (tgt := 25) hx hb d_Face_days_15 (by decide) (fun c9 => ?_) (fun c9 => ?_)
    · replace hf := iteF c9 hf
      refine lv_aload_n hx hb d_Face_days_25 rfl (lv_at hl 0 rfl) ?_
      refine va_get (D := D) (ci := 10) (v := .ref (hA 0)) (C := "BedFrontier") (T := T_Face) (N := 10) hx hb htt i_Face hown hK.1 hP 0 rfl rfl 0 (by decide) (htt _ k_199) (fun _ h9 => h9) rfl d_Face_days_26 ?_
      refine va_get (D := D) (ci := 6) (v := .int (sH 12 0)) (C := "BedFrontier$House") (T := T_House) (N := 15) hx hb htt i_House hown hK.1 hP 3 rfl rfl 12 (by decide) (htt _ k_112) (fun _ h9 => h9) rfl d_Face_days_29 ?_
      refine lv_if_ne (tgt := 40) hx hb d_Face_days_32 (by decide) (fun c10 => ?_) (fun c10 => ?_)
      · replace hf := iteF c10 hf
        refine lv_aload_n hx hb d_Face_days_40 rfl (lv_at hl 0 rfl) ?_
        refine va_get (D := D) (ci := 10) (v := .ref (cA 0)) (C := "BedFrontier") (T := T_Face) (N := 10) hx hb htt i_Face hown hK.1 hP 0 rfl rfl 2 (by decide) (htt _ k_201) (fun _ h9 => h9) rfl d_Face_days_41 ?_
        refine lv_iload_n hx hb d_Face_days_44 rfl (lv_at hl 1 rfl) ?_
        refine lv_iload_n hx hb d_Face_days_45 rfl (lv_at hl 2 rfl) ?_
        obtain ⟨x11, h12, hf⟩ := bdE hf
        refine vR (q0 := 0) (ci := 8) (rest := []) C0 (c_Clerk_paidByChance l D ty cA hA kA sC sH a1 a2 x11 h12) k_714 cal_Clerk_paidByChance hK (hP.sub (ws' := (L_chk ty cA hA kA sC sH)) [1, 2, 3, 4, 5, 6, 7, 8, 9, 10, 11, 12, 13, 14, 15, 16] rfl) rfl rfl rfl ⟨by rw [hR]; decide, by rw [hR]; decide⟩ rfl rfl rfl hl.1 rfl (Nat.le_of_ble_eq_true rfl) d_Face_days_46 ⟨Nat.zero_le _, Nat.zero_le _⟩ rfl ?_
        obtain ⟨rfl, rfl⟩ := sj2 hf
        exact retM C0 (narI _) hQ hP hD hS d_Face_days_49
      · replace hf := iteT c10 hf
        refine lv_aload_n hx hb d_Face_days_35 rfl (lv_at hl 0 rfl) ?_
        obtain ⟨x13, sF14, h15, hf⟩ := bd2E hf
        refine vM (Lc := (L_f ty fA rA cA hA pv sF)) (Lc' := (L_f ty fA rA cA hA pv sF14)) (L' := (L_fchk ty fA rA cA hA kA pv sF14 sC sH)) (q0 := 0) (ci := 10) (rest := []) C0 (c_Face_refuseNo l D ty fA rA cA hA pv H.size sF x13 sF14 h15) k_428 cal_Face_refuseNo hK hP hD hS hAq [0] [1, 2, 3, 4, 5, 6, 7, 8, 9, 10, 11, 12, 13, 14, 15, 16] [16, 0, 1, 2, 3, 4, 5, 6, 7, 8, 9, 10, 11, 12, 13, 14, 15] [(cA 0, .inr (8, [.ref (hA 0), .ref (cA 2)])), (cA 2, .inl (ty 0, 6, .inl (sC 1))), (hA 0, .inr (6, [.ref (kA 0), .ref (hA 2), .ref (hA 3), .ref (hA 4), .ref (hA 5), .ref (hA 6), .ref (hA 7), .int (sH 7 0), .int (sH 8 0), .int (sH 9 0), .int (sH 10 0), .int (sH 11 0), .int (sH 12 0), .int (sH 13 0), .int (sH 14 0)])), (hA 2, .inl (ty 0, 2, .inl (sH 1))), (hA 3, .inl (ty 0, 2, .inl (sH 2))), (hA 4, .inl (ty 0, 6, .inl (sH 3))), (hA 5, .inl (ty 0, 6, .inl (sH 4))), (hA 6, .inl (ty 0, 30, .inl (sH 5))), (hA 7, .inl (ty 0, 32, .inl (sH 6))), (kA 0, .inl (ty 3, 6, .inr (.inr (.inr (.inr (fun i => some (kA (i + 1)))))))), (kA 1, .inr (0, [])), (kA 2, .inr (1, [])), (kA 3, .inr (2, [])), (kA 4, .inr (3, [])), (kA 5, .inr (4, [])), (kA 6, .inr (5, []))] rfl rfl (by decide) (by decide) (by decide) (by decide) rfl rfl rfl rfl ⟨by rw [hR]; decide, by rw [hR]; decide⟩ rfl rfl rfl hl.1 rfl (Nat.le_of_ble_eq_true rfl) d_Face_days_36 ⟨by rw [hR]; decide, by rw [hR]; decide⟩ rfl (fun H locs hP hD hS => ?_)
        obtain ⟨rfl, rfl⟩ := sj2 hf
        exact retM C0 (narI _) hQ hP hD hS d_Face_days_39
    · replace hf := iteT c9 hf
      refine lv_aload_n hx hb d_Face_days_18 rfl (lv_at hl 0 rfl) ?_
      refine lv_bipush (v := (-2 : Int32)) hx hb d_Face_days_19 (by decide) ?_
      obtain ⟨x16, sF17, h18, hf⟩ := bd2E hf
      refine vM (Lc := (L_f ty fA rA cA hA pv sF)) (Lc' := (L_f ty fA rA cA hA pv sF17)) (L' := (L_fchk ty fA rA cA hA kA pv sF17 sC sH)) (q0 := 0) (ci := 10) (rest := []) C0 (c_Face_refuseBad l D ty fA rA cA hA pv H.size sF (-2 : Int32) x16 sF17 h18) k_237 cal_Face_refuseBad hK hP hD hS hAq [0] [1, 2, 3, 4, 5, 6, 7, 8, 9, 10, 11, 12, 13, 14, 15, 16] [16, 0, 1, 2, 3, 4, 5, 6, 7, 8, 9, 10, 11, 12, 13, 14, 15] [(cA 0, .inr (8, [.ref (hA 0), .ref (cA 2)])), (cA 2, .inl (ty 0, 6, .inl (sC 1))), (hA 0, .inr (6, [.ref (kA 0), .ref (hA 2), .ref (hA 3), .ref (hA 4), .ref (hA 5), .ref (hA 6), .ref (hA 7), .int (sH 7 0), .int (sH 8 0), .int (sH 9 0), .int (sH 10 0), .int (sH 11 0), .int (sH 12 0), .int (sH 13 0), .int (sH 14 0)])), (hA 2, .inl (ty 0, 2, .inl (sH 1))), (hA 3, .inl (ty 0, 2, .inl (sH 2))), (hA 4, .inl (ty 0, 6, .inl (sH 3))), (hA 5, .inl (ty 0, 6, .inl (sH 4))), (hA 6, .inl (ty 0, 30, .inl (sH 5))), (hA 7, .inl (ty 0, 32, .inl (sH 6))), (kA 0, .inl (ty 3, 6, .inr (.inr (.inr (.inr (fun i => some (kA (i + 1)))))))), (kA 1, .inr (0, [])), (kA 2, .inr (1, [])), (kA 3, .inr (2, [])), (kA 4, .inr (3, [])), (kA 5, .inr (4, [])), (kA 6, .inr (5, []))] rfl rfl (by decide) (by decide) (by decide) (by decide) rfl rfl rfl rfl ⟨by rw [hR]; decide, by rw [hR]; decide⟩ rfl rfl rfl hl.1 rfl (Nat.le_of_ble_eq_true rfl) d_Face_days_21 ⟨by rw [hR]; decide, by rw [hR]; decide⟩ rfl (fun H locs hP hD hS => ?_)
      obtain ⟨rfl, rfl⟩ := sj2 hf
      exact retM C0 (narI _) hQ hP hD hS d_Face_days_24
def f_Face_part (sF : PW) (a1 : Int32) : Option (Int64 × PW) :=
  bd (f_Face_within a1 (1 : Int32)) (fun x1 => (if x1 = 0 then bd2 (f_Face_refuseBad sF (-2 : Int32)) (fun x5 sF6 => some ((x5).toInt64, sF6)) else (if a1 = 0 then some (((sF 5 0)).toInt64, sF) else some (((sF 6 0)).toInt64, sF))))
set_option maxHeartbeats 4000000 in
set_option maxRecDepth 100000 in
theorem c_Face_part (l : Launch) (D : va_G) (ty : Nat → ClassId) (fA rA cA hA : Nat → Nat) (pv : Value) (sz : Nat) (sF : PW) (a1 : Int32) (rr : Int64) (tF : PW) (hf : f_Face_part sF a1 = some (rr, tF)) : Met l y_Face_part (Cond.code y_Face_part prog_1_method_29_code 2 ((Option.some FieldType.long)) :: lw_ok) { frames := 1, cells := 0, slots := 0, locals := 21 } (PcM D ty [.ref (fA 0), .int a1] sz (L_f ty fA rA cA hA pv sF)) (QM D (L_f ty fA rA cA hA pv tF) (va_A (L_f ty fA rA cA hA pv sF) sz) (some (.long rr))) 0 0 (va_A (L_f ty fA rA cA hA pv sF) sz) := by
  refine hdM (by decide) (Nat.le_of_ble_eq_true rfl) ?_
  intro p e s m below meth c ls R args Q A C0 hR hQ hnm hAq hP hK hD hS hl
  obtain ⟨hx, hb, hr, hlk, hml, hown, htt⟩ := id C0
  have hl : lv_has ls 2 [(0, .ref (fA 0)), (1, .int a1)] := hl
  generalize hH0 : s.heap = H at hP hS ⊢
  have hS : va_S A s.heap H [] := by rw [hH0]; exact hS
  unfold f_Face_part at hf
  refine lv_iload_n hx hb d_Face_part_0 rfl (lv_at hl 1 rfl) ?_
  refine lv_iconst (v := (1 : Int32)) hx hb d_Face_part_1 (by decide) ?_
  obtain ⟨x1, h2, hf⟩ := bdE hf
  refine scR (rest := []) C0 (c_Face_within l D ty a1 (1 : Int32) x1 h2) k_234 cal_Face_within hK (va_P_nil) ⟨by rw [hR]; decide, by rw [hR]; decide⟩ rfl rfl rfl hl.1 rfl (Nat.le_of_ble_eq_true rfl) d_Face_part_2 ⟨Nat.zero_le _, Nat.zero_le _⟩ rfl ?_
  refine lv_if_ne (tgt := 16) hx hb d_Face_part_5 (by decide) (fun c3 => ?_) (fun c3 => ?_)
  · replace hf := iteF c3 hf
    refine lv_iload_n hx hb d_Face_part_16 rfl (lv_at hl 1 rfl) ?_
    refine lv_if_ne (tgt := 28) hx hb d_Face_part_17 (by decide) (fun c4 => ?_) (fun c4 => ?_)
    · replace hf := iteF c4 hf
      refine lv_aload_n hx hb d_Face_part_28 rfl (lv_at hl 0 rfl) ?_
      refine va_get (D := D) (ci := 10) (v := .int (sF 6 0)) (C := "BedFrontier") (T := T_Face) (N := 10) hx hb htt i_Face hown hK.1 hP 0 rfl rfl 6 (by decide) (htt _ k_205) (fun _ h9 => h9) rfl d_Face_part_29 ?_
      refine lv_i2l hx hb d_Face_part_32 rfl ?_
      obtain ⟨rfl, rfl⟩ := sj2 hf
      exact retMl C0 hQ hP hD hS d_Face_part_33
    · replace hf := iteT c4 hf
      refine lv_aload_n hx hb d_Face_part_20 rfl (lv_at hl 0 rfl) ?_
      refine va_get (D := D) (ci := 10) (v := .int (sF 5 0)) (C := "BedFrontier") (T := T_Face) (N := 10) hx hb htt i_Face hown hK.1 hP 0 rfl rfl 5 (by decide) (htt _ k_204) (fun _ h9 => h9) rfl d_Face_part_21 ?_
      refine lv_i2l hx hb d_Face_part_24 rfl ?_
      refine lv_goto (tgt := 33) hx hb d_Face_part_25 (by decide) ?_
      obtain ⟨rfl, rfl⟩ := sj2 hf
      exact retMl C0 hQ hP hD hS d_Face_part_33
  · replace hf := iteT c3 hf
    refine lv_aload_n hx hb d_Face_part_8 rfl (lv_at hl 0 rfl) ?_
    refine lv_bipush (v := (-2 : Int32)) hx hb d_Face_part_9 (by decide) ?_
    obtain ⟨x5, sF6, h7, hf⟩ := bd2E hf
    refine vM (Lc := (L_f ty fA rA cA hA pv sF)) (Lc' := (L_f ty fA rA cA hA pv sF6)) (L' := (L_f ty fA rA cA hA pv sF6)) (q0 := 0) (ci := 10) (rest := []) C0 (c_Face_refuseBad l D ty fA rA cA hA pv H.size sF (-2 : Int32) x5 sF6 h7) k_237 cal_Face_refuseBad hK hP hD hS hAq [0] [] [0] [] rfl rfl (by decide) (by decide) (by decide) (by decide) rfl rfl rfl rfl ⟨by rw [hR]; decide, by rw [hR]; decide⟩ rfl rfl rfl hl.1 rfl (Nat.le_of_ble_eq_true rfl) d_Face_part_11 ⟨by rw [hR]; decide, by rw [hR]; decide⟩ rfl (fun H locs hP hD hS => ?_)
    refine lv_i2l hx hb d_Face_part_14 rfl ?_
    obtain ⟨rfl, rfl⟩ := sj2 hf
    exact retMl C0 hQ hP hD hS d_Face_part_15
def f_Face_status (sF : PW) (a1 : Int32) : Option (Int32 × PW) :=
  (if a1 = (0 : Int32) then some ((sF 7 0), sF) else (if a1 = (1 : Int32) then some ((sF 8 0), sF) else (if a1 = (2 : Int32) then some ((sF 9 0), sF) else bd2 (f_Face_refuseBad sF (-1 : Int32)) (fun x4 sF5 => some (x4, sF5)))))
set_option maxHeartbeats 4000000 in
set_option maxRecDepth 100000 in
theorem c_Face_status (l : Launch) (D : va_G) (ty : Nat → ClassId) (fA rA cA hA : Nat → Nat) (pv : Value) (sz : Nat) (sF : PW) (a1 : Int32) (rr : Int32) (tF : PW) (hf : f_Face_status sF a1 = some (rr, tF)) : Met l y_Face_status (Cond.code y_Face_status prog_1_method_32_code 2 ((Option.some FieldType.int)) :: lw_ok) { frames := 1, cells := 0, slots := 0, locals := 21 } (PcM D ty [.ref (fA 0), .int a1] sz (L_f ty fA rA cA hA pv sF)) (QM D (L_f ty fA rA cA hA pv tF) (va_A (L_f ty fA rA cA hA pv sF) sz) (some (.int rr))) 0 0 (va_A (L_f ty fA rA cA hA pv sF) sz) := by
  refine hdM (by decide) (Nat.le_of_ble_eq_true rfl) ?_
  intro p e s m below meth c ls R args Q A C0 hR hQ hnm hAq hP hK hD hS hl
  obtain ⟨hx, hb, hr, hlk, hml, hown, htt⟩ := id C0
  have hl : lv_has ls 2 [(0, .ref (fA 0)), (1, .int a1)] := hl
  generalize hH0 : s.heap = H at hP hS ⊢
  have hS : va_S A s.heap H [] := by rw [hH0]; exact hS
  unfold f_Face_status at hf
  refine lv_iload_n hx hb d_Face_status_0 rfl (lv_at hl 1 rfl) ?_
  by_cases c1 : a1 = (0 : Int32)
  · replace hf := iteT c1 hf
    refine lv_tableIn (off := 27) (tgt := 28) hx hb d_Face_status_1 (by rw [c1]; decide) (by rw [c1]; decide) (by rw [c1]; rfl) (by decide) ?_
    refine lv_aload_n hx hb d_Face_status_28 rfl (lv_at hl 0 rfl) ?_
    refine va_get (D := D) (ci := 10) (v := .int (sF 7 0)) (C := "BedFrontier") (T := T_Face) (N := 10) hx hb htt i_Face hown hK.1 hP 0 rfl rfl 7 (by decide) (htt _ k_206) (fun _ h9 => h9) rfl d_Face_status_29 ?_
    obtain ⟨rfl, rfl⟩ := sj2 hf
    exact retM C0 (narI _) hQ hP hD hS d_Face_status_32
  replace hf := iteF c1 hf
  by_cases c2 : a1 = (1 : Int32)
  · replace hf := iteT c2 hf
    refine lv_tableIn (off := 32) (tgt := 33) hx hb d_Face_status_1 (by rw [c2]; decide) (by rw [c2]; decide) (by rw [c2]; rfl) (by decide) ?_
    refine lv_aload_n hx hb d_Face_status_33 rfl (lv_at hl 0 rfl) ?_
    refine va_get (D := D) (ci := 10) (v := .int (sF 8 0)) (C := "BedFrontier") (T := T_Face) (N := 10) hx hb htt i_Face hown hK.1 hP 0 rfl rfl 8 (by decide) (htt _ k_207) (fun _ h9 => h9) rfl d_Face_status_34 ?_
    obtain ⟨rfl, rfl⟩ := sj2 hf
    exact retM C0 (narI _) hQ hP hD hS d_Face_status_37
  replace hf := iteF c2 hf
  by_cases c3 : a1 = (2 : Int32)
  · replace hf := iteT c3 hf
    refine lv_tableIn (off := 37) (tgt := 38) hx hb d_Face_status_1 (by rw [c3]; decide) (by rw [c3]; decide) (by rw [c3]; rfl) (by decide) ?_
    refine lv_aload_n hx hb d_Face_status_38 rfl (lv_at hl 0 rfl) ?_
    refine va_get (D := D) (ci := 10) (v := .int (sF 9 0)) (C := "BedFrontier") (T := T_Face) (N := 10) hx hb htt i_Face hown hK.1 hP 0 rfl rfl 9 (by decide) (htt _ k_208) (fun _ h9 => h9) rfl d_Face_status_39 ?_
    obtain ⟨rfl, rfl⟩ := sj2 hf
    exact retM C0 (narI _) hQ hP hD hS d_Face_status_42
  replace hf := iteF c3 hf
  refine lv_tableOut (tgt := 43) hx hb d_Face_status_1 (by have c1' := lv_neT (a := 0) c1 rfl; have c2' := lv_neT (a := 1) c2 rfl; have c3' := lv_neT (a := 2) c3 rfl; omega) (by decide) ?_
  refine lv_aload_n hx hb d_Face_status_43 rfl (lv_at hl 0 rfl) ?_
  refine lv_iconst (v := (-1 : Int32)) hx hb d_Face_status_44 (by decide) ?_
  obtain ⟨x4, sF5, h6, hf⟩ := bd2E hf
  refine vM (Lc := (L_f ty fA rA cA hA pv sF)) (Lc' := (L_f ty fA rA cA hA pv sF5)) (L' := (L_f ty fA rA cA hA pv sF5)) (q0 := 0) (ci := 10) (rest := []) C0 (c_Face_refuseBad l D ty fA rA cA hA pv H.size sF (-1 : Int32) x4 sF5 h6) k_237 cal_Face_refuseBad hK hP hD hS hAq [0] [] [0] [] rfl rfl (by decide) (by decide) (by decide) (by decide) rfl rfl rfl rfl ⟨by rw [hR]; decide, by rw [hR]; decide⟩ rfl rfl rfl hl.1 rfl (Nat.le_of_ble_eq_true rfl) d_Face_status_45 ⟨by rw [hR]; decide, by rw [hR]; decide⟩ rfl (fun H locs hP hD hS => ?_)
  obtain ⟨rfl, rfl⟩ := sj2 hf
  exact retM C0 (narI _) hQ hP hD hS d_Face_status_48
def f_Face_count (sF : PW) (sR : PW) (sH : PW) (a1 : Int32) : Option (Int32 × PW) :=
  bd (f_Face_within a1 (6 : Int32)) (fun x1 => (if x1 = 0 then bd2 (f_Face_refuseBad sF (-2 : Int32)) (fun x6 sF7 => some (x6, sF7)) else bd (f_Face_howMany sF sR sH a1) (fun x4 => some (x4, sF))))
set_option maxHeartbeats 4000000 in
set_option maxRecDepth 100000 in
theorem c_Face_count (l : Launch) (D : va_G) (ty : Nat → ClassId) (fA rA gA cA hA kA : Nat → Nat) (pv : Value) (sz : Nat) (sF : PW) (sR : PW) (sH : PW) (a1 : Int32) (rr : Int32) (tF : PW) (hf : f_Face_count sF sR sH a1 = some (rr, tF)) : Met l y_Face_count (Cond.code y_Face_count prog_1_method_33_code 2 ((Option.some FieldType.int)) :: lw_ok) { frames := 1, cells := 0, slots := 0, locals := 21 } (PcM D ty [.ref (fA 0), .int a1] sz (L_frh ty fA rA gA cA hA kA pv sF sR sH)) (QM D (L_frh ty fA rA gA cA hA kA pv tF sR sH) (va_A (L_frh ty fA rA gA cA hA kA pv sF sR sH) sz) (some (.int rr))) 0 0 (va_A (L_frh ty fA rA gA cA hA kA pv sF sR sH) sz) := by
  refine hdM (by decide) (Nat.le_of_ble_eq_true rfl) ?_
  intro p e s m below meth c ls R args Q A C0 hR hQ hnm hAq hP hK hD hS hl
  obtain ⟨hx, hb, hr, hlk, hml, hown, htt⟩ := id C0
  have hl : lv_has ls 2 [(0, .ref (fA 0)), (1, .int a1)] := hl
  generalize hH0 : s.heap = H at hP hS ⊢
  have hS : va_S A s.heap H [] := by rw [hH0]; exact hS
  unfold f_Face_count at hf
  refine lv_iload_n hx hb d_Face_count_0 rfl (lv_at hl 1 rfl) ?_
  refine lv_bipush (v := (6 : Int32)) hx hb d_Face_count_1 (by decide) ?_
  obtain ⟨x1, h2, hf⟩ := bdE hf
  refine scR (rest := []) C0 (c_Face_within l D ty a1 (6 : Int32) x1 h2) k_234 cal_Face_within hK (va_P_nil) ⟨by rw [hR]; decide, by rw [hR]; decide⟩ rfl rfl rfl hl.1 rfl (Nat.le_of_ble_eq_true rfl) d_Face_count_3 ⟨Nat.zero_le _, Nat.zero_le _⟩ rfl ?_
  refine lv_if_ne (tgt := 16) hx hb d_Face_count_6 (by decide) (fun c3 => ?_) (fun c3 => ?_)
  · replace hf := iteF c3 hf
    refine lv_aload_n hx hb d_Face_count_16 rfl (lv_at hl 0 rfl) ?_
    refine lv_iload_n hx hb d_Face_count_17 rfl (lv_at hl 1 rfl) ?_
    obtain ⟨x4, h5, hf⟩ := bdE hf
    refine vR (q0 := 0) (ci := 10) (rest := []) C0 (c_Face_howMany l D ty fA rA gA cA hA kA pv sF sR sH a1 x4 h5) k_747 cal_Face_howMany hK hP rfl rfl rfl ⟨by rw [hR]; decide, by rw [hR]; decide⟩ rfl rfl rfl hl.1 rfl (Nat.le_of_ble_eq_true rfl) d_Face_count_18 ⟨Nat.zero_le _, Nat.zero_le _⟩ rfl ?_
    obtain ⟨rfl, rfl⟩ := sj2 hf
    exact retM C0 (narI _) hQ hP hD hS d_Face_count_21
  · replace hf := iteT c3 hf
    refine lv_aload_n hx hb d_Face_count_9 rfl (lv_at hl 0 rfl) ?_
    refine lv_bipush (v := (-2 : Int32)) hx hb d_Face_count_10 (by decide) ?_
    obtain ⟨x6, sF7, h8, hf⟩ := bd2E hf
    refine vM (Lc := (L_f ty fA rA cA hA pv sF)) (Lc' := (L_f ty fA rA cA hA pv sF7)) (L' := (L_frh ty fA rA gA cA hA kA pv sF7 sR sH)) (q0 := 0) (ci := 10) (rest := []) C0 (c_Face_refuseBad l D ty fA rA cA hA pv H.size sF (-2 : Int32) x6 sF7 h8) k_237 cal_Face_refuseBad hK hP hD hS hAq [0] [1, 2, 3, 4, 5, 6, 7, 8, 9] [9, 0, 1, 2, 3, 4, 5, 6, 7, 8] [(rA 0, .inr (7, [.ref (gA 0), .ref (rA 2), .int (sR 2 0), .int (sR 3 0), .int (sR 4 0), .int (sR 5 0), .int (sR 6 0)])), (rA 2, .inl (ty 1, 150, .inl (sR 1))), (hA 0, .inr (6, [.ref (kA 0), .ref (hA 2), .ref (hA 3), .ref (hA 4), .ref (hA 5), .ref (hA 6), .ref (hA 7), .int (sH 7 0), .int (sH 8 0), .int (sH 9 0), .int (sH 10 0), .int (sH 11 0), .int (sH 12 0), .int (sH 13 0), .int (sH 14 0)])), (hA 2, .inl (ty 0, 2, .inl (sH 1))), (hA 3, .inl (ty 0, 2, .inl (sH 2))), (hA 4, .inl (ty 0, 6, .inl (sH 3))), (hA 5, .inl (ty 0, 6, .inl (sH 4))), (hA 6, .inl (ty 0, 30, .inl (sH 5))), (hA 7, .inl (ty 0, 32, .inl (sH 6)))] rfl rfl (by decide) (by decide) (by decide) (by decide) rfl rfl rfl rfl ⟨by rw [hR]; decide, by rw [hR]; decide⟩ rfl rfl rfl hl.1 rfl (Nat.le_of_ble_eq_true rfl) d_Face_count_12 ⟨by rw [hR]; decide, by rw [hR]; decide⟩ rfl (fun H locs hP hD hS => ?_)
    obtain ⟨rfl, rfl⟩ := sj2 hf
    exact retM C0 (narI _) hQ hP hD hS d_Face_count_15
def f_Face_digest_L6 (sF : PW) (sR : PW) (sH : PW) (K6 : Int64 × Int32 → Option (Int64)) : Int64 × Int32 → Option (Int64)
  | (x1, x2) =>
  (if (6 : Int32) < x2 then bd (f_House_addedTo sH x1) (fun x4 => nm (((31 : Int64) * x4) + ((sF 5 0)).toInt64) (fun x6 => some (((31 : Int64) * x6) + ((sF 6 0)).toInt64))) else bd (f_Face_howMany sF sR sH x2) (fun x7 => nm (((31 : Int64) * x1) + (x7).toInt64) (fun x9 => nm (x2 + (1 : Int32)) (fun x10 => K6 (x9, x10)))))
def f_Face_digest (sF : PW) (sR : PW) (sH : PW) : Option (Int64) :=
  loopF (f_Face_digest_L6 sF sR sH) 4000 ((1217 : Int64), (0 : Int32))
set_option maxHeartbeats 4000000 in
set_option maxRecDepth 100000 in
theorem c_Face_digest (l : Launch) (D : va_G) (ty : Nat → ClassId) (fA rA gA cA hA kA : Nat → Nat) (pv : Value) (sF : PW) (sR : PW) (sH : PW) (rr : Int64) (hf : f_Face_digest sF sR sH = some rr) : Met l y_Face_digest (Cond.code y_Face_digest prog_1_method_34_code 4 ((Option.some FieldType.long)) :: lw_ok) { frames := 2, cells := 0, slots := 0, locals := 45 } (PcR D ty [.ref (fA 0)] (L_frh ty fA rA gA cA hA kA pv sF sR sH)) (QR (some (.long rr))) 0 0 (fun _ => False) := by
  refine hdR (by decide) (Nat.le_of_ble_eq_true rfl) ?_
  intro p e s m below meth c ls R args Q C0 hR hQ hP hK hl
  obtain ⟨hx, hb, hr, hlk, hml, hown, htt⟩ := id C0
  have hl : lv_has ls 4 [(0, .ref (fA 0))] := hl
  unfold f_Face_digest at hf
  refine lv_ldc2 (v := (1217 : Int64)) hx hb hown (htt _ k_755) d_Face_digest_0 ?_
  refine lv_lstore_n (lv' := [(1, .long (1217 : Int64)), (0, .ref (fA 0))]) hx hb d_Face_digest_3 rfl hl (by decide) rfl (fun ls hl => ?_)
  refine lv_iconst (v := (0 : Int32)) hx hb d_Face_digest_4 (by decide) ?_
  refine lv_istore_n (lv' := [(3, .int (0 : Int32)), (1, .long (1217 : Int64)), (0, .ref (fA 0))]) hx hb d_Face_digest_5 rfl hl (by decide) rfl (fun ls hl => ?_)
  have B6 : ∀ (n : Nat) (x : Int64 × Int32), loopF (f_Face_digest_L6 sF sR sH) n x = some rr → ∀ ls : Array Slot, lv_has ls 4 [(0, .ref (fA 0)), (1, .long (x.1)), (3, .int (x.2))] → W p l e R s m args below meth c s.heap [] 0 0 Q (F0 m 6 ls []) := by
    refine loopW (fun (x : Int64 × Int32) => ∀ ls : Array Slot, lv_has ls 4 [(0, .ref (fA 0)), (1, .long (x.1)), (3, .int (x.2))] → W p l e R s m args below meth c s.heap [] 0 0 Q (F0 m 6 ls [])) ?_
    intro K6 hK6 x hf
    obtain ⟨x1, x2⟩ := x
    rw [f_Face_digest_L6] at hf
    intro ls hl
    have hl : lv_has ls 4 [(0, .ref (fA 0)), (1, .long x1), (3, .int x2)] := hl
    show W p l e R s m args below meth c s.heap [] 0 0 Q (F0 m 6 ls [])
    refine lv_iload_n hx hb d_Face_digest_6 rfl (lv_at hl 2 rfl) ?_
    refine lv_bipush (v := (6 : Int32)) hx hb d_Face_digest_7 (by decide) ?_
    refine lv_icmp_gt (tgt := 31) hx hb d_Face_digest_9 (by decide) (fun c3 => ?_) (fun c3 => ?_)
    · replace hf := iteT c3 hf
      refine lv_aload_n hx hb d_Face_digest_31 rfl (lv_at hl 0 rfl) ?_
      refine va_get (D := D) (ci := 10) (v := .ref (hA 0)) (C := "BedFrontier") (T := T_Face) (N := 10) hx hb htt i_Face hown hK.1 hP 0 rfl rfl 0 (by decide) (htt _ k_199) (fun _ h9 => h9) rfl d_Face_digest_32 ?_
      refine lv_lload_n hx hb d_Face_digest_35 rfl (lv_at hl 1 rfl) ?_
      obtain ⟨x4, h5, hf⟩ := bdE hf
      refine vR (q0 := 0) (ci := 6) (rest := []) C0 (c_House_addedTo l D ty hA kA sH x1 x4 h5) k_757 cal_House_addedTo hK (hP.sub (ws' := (L_h ty hA kA sH)) [3, 4, 5, 6, 7, 8, 9] rfl) rfl rfl rfl ⟨by rw [hR]; decide, by rw [hR]; decide⟩ rfl rfl rfl hl.1 rfl (Nat.le_of_ble_eq_true rfl) d_Face_digest_36 ⟨Nat.zero_le _, Nat.zero_le _⟩ rfl ?_
      refine lv_lstore_n (lv' := [(1, .long x4), (0, .ref (fA 0)), (3, .int x2)]) hx hb d_Face_digest_39 rfl hl (by decide) rfl (fun ls hl => ?_)
      refine lv_ldc2 (v := (31 : Int64)) hx hb hown (htt _ k_756) d_Face_digest_40 ?_
      refine lv_lload_n hx hb d_Face_digest_43 rfl (lv_at hl 0 rfl) ?_
      refine lv_lmul hx hb d_Face_digest_44 ?_
      refine lv_aload_n hx hb d_Face_digest_45 rfl (lv_at hl 1 rfl) ?_
      refine va_get (D := D) (ci := 10) (v := .int (sF 5 0)) (C := "BedFrontier") (T := T_Face) (N := 10) hx hb htt i_Face hown hK.1 hP 0 rfl rfl 5 (by decide) (htt _ k_204) (fun _ h9 => h9) rfl d_Face_digest_46 ?_
      refine lv_i2l hx hb d_Face_digest_49 rfl ?_
      refine lv_ladd hx hb d_Face_digest_50 ?_
      refine lv_topl (fun x6 e_x6 => ?_)
      replace hf := nmE hf e_x6
      refine lv_lstore_n (lv' := [(1, .long x6), (0, .ref (fA 0)), (3, .int x2)]) hx hb d_Face_digest_51 rfl hl (by decide) rfl (fun ls hl => ?_)
      refine lv_ldc2 (v := (31 : Int64)) hx hb hown (htt _ k_756) d_Face_digest_52 ?_
      refine lv_lload_n hx hb d_Face_digest_55 rfl (lv_at hl 0 rfl) ?_
      refine lv_lmul hx hb d_Face_digest_56 ?_
      refine lv_aload_n hx hb d_Face_digest_57 rfl (lv_at hl 1 rfl) ?_
      refine va_get (D := D) (ci := 10) (v := .int (sF 6 0)) (C := "BedFrontier") (T := T_Face) (N := 10) hx hb htt i_Face hown hK.1 hP 0 rfl rfl 6 (by decide) (htt _ k_205) (fun _ h9 => h9) rfl d_Face_digest_58 ?_
      refine lv_i2l hx hb d_Face_digest_61 rfl ?_
      refine lv_ladd hx hb d_Face_digest_62 ?_
      obtain rfl := sj1 hf
      exact retRl C0 hQ d_Face_digest_63
    · replace hf := iteF c3 hf
      refine lv_ldc2 (v := (31 : Int64)) hx hb hown (htt _ k_756) d_Face_digest_12 ?_
      refine lv_lload_n hx hb d_Face_digest_15 rfl (lv_at hl 1 rfl) ?_
      refine lv_lmul hx hb d_Face_digest_16 ?_
      refine lv_aload_n hx hb d_Face_digest_17 rfl (lv_at hl 0 rfl) ?_
      refine lv_iload_n hx hb d_Face_digest_18 rfl (lv_at hl 2 rfl) ?_
      obtain ⟨x7, h8, hf⟩ := bdE hf
      refine vR (q0 := 0) (ci := 10) (rest := [.long ((31 : Int64) * x1)]) C0 (c_Face_howMany l D ty fA rA gA cA hA kA pv sF sR sH x2 x7 h8) k_747 cal_Face_howMany hK hP rfl rfl rfl ⟨by rw [hR]; decide, by rw [hR]; decide⟩ rfl rfl rfl hl.1 rfl (Nat.le_of_ble_eq_true rfl) d_Face_digest_19 ⟨Nat.zero_le _, Nat.zero_le _⟩ rfl ?_
      refine lv_i2l hx hb d_Face_digest_22 rfl ?_
      refine lv_ladd hx hb d_Face_digest_23 ?_
      refine lv_topl (fun x9 e_x9 => ?_)
      replace hf := nmE hf e_x9
      refine lv_lstore_n (lv' := [(1, .long x9), (0, .ref (fA 0)), (3, .int x2)]) hx hb d_Face_digest_24 rfl hl (by decide) rfl (fun ls hl => ?_)
      obtain ⟨x10, e_x10⟩ : ∃ z : Int32, z = (x2 + (1 : Int32)) := ⟨_, rfl⟩
      replace hf := nmE hf e_x10
      refine lv_iinc (v := x10) (lv' := [(3, .int x10), (1, .long x9), (0, .ref (fA 0))]) hx hb d_Face_digest_25 hl (k := 2) rfl (by rw [e_x10]; rfl) (by decide) rfl (fun ls hl => ?_)
      refine lv_goto (tgt := 6) hx hb d_Face_digest_28 (by decide) ?_
      exact hK6 (x9, x10) hf ls (lv_sub hl [2, 1, 0] rfl)
  exact B6 4000 ((1217 : Int64), (0 : Int32)) hf ls (lv_sub hl [2, 1, 0] rfl)
