def f_Reader_tokenOf_J14 (a1 : Int32) : Option (Int32) :=
  (if a1 < (48 : Int32) then (if a1 = (59 : Int32) then some (2 : Int32) else some (4 : Int32)) else (if (57 : Int32) < a1 then (if a1 = (59 : Int32) then some (2 : Int32) else some (4 : Int32)) else some (1 : Int32)))
def f_Reader_tokenOf (a1 : Int32) : Option (Int32) :=
  (if a1 < (97 : Int32) then f_Reader_tokenOf_J14 a1 else (if (122 : Int32) < a1 then f_Reader_tokenOf_J14 a1 else some (0 : Int32)))
set_option maxHeartbeats 4000000 in
set_option maxRecDepth 100000 in
theorem c_Reader_tokenOf (l : Launch) (D : va_G) (ty : Nat → ClassId) (a1 : Int32) (rr : Int32) (hf : f_Reader_tokenOf a1 = some rr) : Met l y_Reader_tokenOf (Cond.code y_Reader_tokenOf prog_10_method_12_code 1 ((Option.some FieldType.int)) :: lw_ok) { frames := 0, cells := 0, slots := 0, locals := 0 } (PcR D ty [.int a1] ([] : va_W)) (QR (some (.int rr))) 0 0 (fun _ => False) := by
  refine hdR (by decide) (Nat.le_of_ble_eq_true rfl) ?_
  intro p e s m below meth c ls R args Q C0 hR hQ hP hK hl
  obtain ⟨hx, hb, hr, hlk, hml, hown, htt⟩ := id C0
  have hl : lv_has ls 1 [(0, .int a1)] := hl
  unfold f_Reader_tokenOf at hf
  refine lv_iload_n hx hb d_Reader_tokenOf_0 rfl (lv_at hl 0 rfl) ?_
  refine lv_bipush (v := (97 : Int32)) hx hb d_Reader_tokenOf_1 (by decide) ?_
  have J14 : ∀ (_ : Unit), f_Reader_tokenOf_J14 a1 = some rr → ∀ ls : Array Slot, lv_has ls 1 [(0, .int a1)] → W p l e R s m args below meth c s.heap [] 0 0 Q (F0 m 14 ls []) := by
    intro _ hf ls hl
    unfold f_Reader_tokenOf_J14 at hf
    refine lv_iload_n hx hb d_Reader_tokenOf_14 rfl (lv_at hl 0 rfl) ?_
    refine lv_bipush (v := (48 : Int32)) hx hb d_Reader_tokenOf_15 (by decide) ?_
    refine lv_icmp_lt (tgt := 28) hx hb d_Reader_tokenOf_17 (by decide) (fun c1 => ?_) (fun c1 => ?_)
    · replace hf := iteT c1 hf
      refine lv_iload_n hx hb d_Reader_tokenOf_28 rfl (lv_at hl 0 rfl) ?_
      refine lv_bipush (v := (59 : Int32)) hx hb d_Reader_tokenOf_29 (by decide) ?_
      refine lv_icmp_ne (tgt := 38) hx hb d_Reader_tokenOf_31 (by decide) (fun c2 => ?_) (fun c2 => ?_)
      · replace hf := iteF c2 hf
        refine lv_iconst (v := (4 : Int32)) hx hb d_Reader_tokenOf_38 (by decide) ?_
        obtain rfl := sj1 hf
        exact retR C0 (narI _) hQ d_Reader_tokenOf_39
      · replace hf := iteT c2 hf
        refine lv_iconst (v := (2 : Int32)) hx hb d_Reader_tokenOf_34 (by decide) ?_
        refine lv_goto (tgt := 39) hx hb d_Reader_tokenOf_35 (by decide) ?_
        obtain rfl := sj1 hf
        exact retR C0 (narI _) hQ d_Reader_tokenOf_39
    · replace hf := iteF c1 hf
      refine lv_iload_n hx hb d_Reader_tokenOf_20 rfl (lv_at hl 0 rfl) ?_
      refine lv_bipush (v := (57 : Int32)) hx hb d_Reader_tokenOf_21 (by decide) ?_
      refine lv_icmp_gt (tgt := 28) hx hb d_Reader_tokenOf_23 (by decide) (fun c3 => ?_) (fun c3 => ?_)
      · replace hf := iteT c3 hf
        refine lv_iload_n hx hb d_Reader_tokenOf_28 rfl (lv_at hl 0 rfl) ?_
        refine lv_bipush (v := (59 : Int32)) hx hb d_Reader_tokenOf_29 (by decide) ?_
        refine lv_icmp_ne (tgt := 38) hx hb d_Reader_tokenOf_31 (by decide) (fun c4 => ?_) (fun c4 => ?_)
        · replace hf := iteF c4 hf
          refine lv_iconst (v := (4 : Int32)) hx hb d_Reader_tokenOf_38 (by decide) ?_
          obtain rfl := sj1 hf
          exact retR C0 (narI _) hQ d_Reader_tokenOf_39
        · replace hf := iteT c4 hf
          refine lv_iconst (v := (2 : Int32)) hx hb d_Reader_tokenOf_34 (by decide) ?_
          refine lv_goto (tgt := 39) hx hb d_Reader_tokenOf_35 (by decide) ?_
          obtain rfl := sj1 hf
          exact retR C0 (narI _) hQ d_Reader_tokenOf_39
      · replace hf := iteF c3 hf
        refine lv_iconst (v := (1 : Int32)) hx hb d_Reader_tokenOf_26 (by decide) ?_
        obtain rfl := sj1 hf
        exact retR C0 (narI _) hQ d_Reader_tokenOf_27
  refine lv_icmp_lt (tgt := 14) hx hb d_Reader_tokenOf_3 (by decide) (fun c5 => ?_) (fun c5 => ?_)
  · replace hf := iteT c5 hf
    exact J14 () hf ls (hl)
  · replace hf := iteF c5 hf
    refine lv_iload_n hx hb d_Reader_tokenOf_6 rfl (lv_at hl 0 rfl) ?_
    refine lv_bipush (v := (122 : Int32)) hx hb d_Reader_tokenOf_7 (by decide) ?_
    refine lv_icmp_gt (tgt := 14) hx hb d_Reader_tokenOf_9 (by decide) (fun c6 => ?_) (fun c6 => ?_)
    · replace hf := iteT c6 hf
      exact J14 () hf ls (hl)
    · replace hf := iteF c6 hf
      refine lv_iconst (v := (0 : Int32)) hx hb d_Reader_tokenOf_12 (by decide) ?_
      obtain rfl := sj1 hf
      exact retR C0 (narI _) hQ d_Reader_tokenOf_13
def f_Reader_valueOfFigures (sR : PW) : Option (Int32) :=
  gd (okI ((sR 5 0) - (1 : Int32)) 150) (nm ((sR 1 (((sR 5 0) - (1 : Int32))).toNatClampNeg) - (48 : Int32)) (fun x2 => (if ((sR 5 0) - (sR 4 0)) = (1 : Int32) then some x2 else (if ((sR 5 0) - (sR 4 0)) = (2 : Int32) then gd (okI (sR 4 0) 150) (some (((10 : Int32) * ((sR 1 ((sR 4 0)).toNatClampNeg) - (48 : Int32))) + x2)) else some (-1 : Int32)))))
set_option maxHeartbeats 4000000 in
set_option maxRecDepth 100000 in
theorem c_Reader_valueOfFigures (l : Launch) (D : va_G) (ty : Nat → ClassId) (rA gA : Nat → Nat) (sR : PW) (rr : Int32) (hf : f_Reader_valueOfFigures sR = some rr) : Met l y_Reader_valueOfFigures (Cond.code y_Reader_valueOfFigures prog_10_method_13_code 2 ((Option.some FieldType.int)) :: lw_ok) { frames := 0, cells := 0, slots := 0, locals := 0 } (PcR D ty [.ref (rA 0)] (L_r ty rA gA sR)) (QR (some (.int rr))) 0 0 (fun _ => False) := by
  refine hdR (by decide) (Nat.le_of_ble_eq_true rfl) ?_
  intro p e s m below meth c ls R args Q C0 hR hQ hP hK hl
  obtain ⟨hx, hb, hr, hlk, hml, hown, htt⟩ := id C0
  have hl : lv_has ls 2 [(0, .ref (rA 0))] := hl
  unfold f_Reader_valueOfFigures at hf
  refine lv_aload_n hx hb d_Reader_valueOfFigures_0 rfl (lv_at hl 0 rfl) ?_
  refine va_get (D := D) (ci := 7) (v := .ref (rA 2)) (C := "BedFrontier$Reader") (T := T_Reader) (N := 7) hx hb htt i_Reader hown hK.1 hP 0 rfl rfl 1 (by decide) (htt _ k_162) (fun _ h9 => h9) rfl d_Reader_valueOfFigures_1 ?_
  refine lv_aload_n hx hb d_Reader_valueOfFigures_4 rfl (lv_at hl 0 rfl) ?_
  refine va_get (D := D) (ci := 7) (v := .int (sR 5 0)) (C := "BedFrontier$Reader") (T := T_Reader) (N := 7) hx hb htt i_Reader hown hK.1 hP 0 rfl rfl 5 (by decide) (htt _ k_167) (fun _ h9 => h9) rfl d_Reader_valueOfFigures_5 ?_
  refine lv_iconst (v := (1 : Int32)) hx hb d_Reader_valueOfFigures_8 (by decide) ?_
  refine lv_isub hx hb d_Reader_valueOfFigures_9 ?_
  obtain ⟨g1, hf⟩ := gdE hf
  refine va_bald hx hb hK.1 hP 1 1 rfl rfl (okI_in g1) d_Reader_valueOfFigures_10 ?_
  refine lv_bipush (v := (48 : Int32)) hx hb d_Reader_valueOfFigures_11 (by decide) ?_
  refine lv_isub hx hb d_Reader_valueOfFigures_13 ?_
  refine lv_topi (fun x2 e_x2 => ?_)
  replace hf := nmE hf e_x2
  refine lv_istore_n (lv' := [(1, .int x2), (0, .ref (rA 0))]) hx hb d_Reader_valueOfFigures_14 rfl hl (by decide) rfl (fun ls hl => ?_)
  refine lv_aload_n hx hb d_Reader_valueOfFigures_15 rfl (lv_at hl 1 rfl) ?_
  refine va_get (D := D) (ci := 7) (v := .int (sR 5 0)) (C := "BedFrontier$Reader") (T := T_Reader) (N := 7) hx hb htt i_Reader hown hK.1 hP 0 rfl rfl 5 (by decide) (htt _ k_167) (fun _ h9 => h9) rfl d_Reader_valueOfFigures_16 ?_
  refine lv_aload_n hx hb d_Reader_valueOfFigures_19 rfl (lv_at hl 1 rfl) ?_
  refine va_get (D := D) (ci := 7) (v := .int (sR 4 0)) (C := "BedFrontier$Reader") (T := T_Reader) (N := 7) hx hb htt i_Reader hown hK.1 hP 0 rfl rfl 4 (by decide) (htt _ k_166) (fun _ h9 => h9) rfl d_Reader_valueOfFigures_20 ?_
  refine lv_isub hx hb d_Reader_valueOfFigures_23 ?_
  by_cases c3 : ((sR 5 0) - (sR 4 0)) = (1 : Int32)
  · replace hf := iteT c3 hf
    refine lv_lookup (off := 28) (tgt := 52) hx hb d_Reader_valueOfFigures_24 (by decide) (by rw [c3]; rfl) (by decide) ?_
    refine lv_iload_n hx hb d_Reader_valueOfFigures_52 rfl (lv_at hl 0 rfl) ?_
    obtain rfl := sj1 hf
    exact retR C0 (narI _) hQ d_Reader_valueOfFigures_53
  replace hf := iteF c3 hf
  by_cases c4 : ((sR 5 0) - (sR 4 0)) = (2 : Int32)
  · replace hf := iteT c4 hf
    refine lv_lookup (off := 30) (tgt := 54) hx hb d_Reader_valueOfFigures_24 (by decide) (by rw [c4]; rfl) (by decide) ?_
    refine lv_bipush (v := (10 : Int32)) hx hb d_Reader_valueOfFigures_54 (by decide) ?_
    refine lv_aload_n hx hb d_Reader_valueOfFigures_56 rfl (lv_at hl 1 rfl) ?_
    refine va_get (D := D) (ci := 7) (v := .ref (rA 2)) (C := "BedFrontier$Reader") (T := T_Reader) (N := 7) hx hb htt i_Reader hown hK.1 hP 0 rfl rfl 1 (by decide) (htt _ k_162) (fun _ h9 => h9) rfl d_Reader_valueOfFigures_57 ?_
    refine lv_aload_n hx hb d_Reader_valueOfFigures_60 rfl (lv_at hl 1 rfl) ?_
    refine va_get (D := D) (ci := 7) (v := .int (sR 4 0)) (C := "BedFrontier$Reader") (T := T_Reader) (N := 7) hx hb htt i_Reader hown hK.1 hP 0 rfl rfl 4 (by decide) (htt _ k_166) (fun _ h9 => h9) rfl d_Reader_valueOfFigures_61 ?_
    obtain ⟨g5, hf⟩ := gdE hf
    refine va_bald hx hb hK.1 hP 1 1 rfl rfl (okI_in g5) d_Reader_valueOfFigures_64 ?_
    refine lv_bipush (v := (48 : Int32)) hx hb d_Reader_valueOfFigures_65 (by decide) ?_
    refine lv_isub hx hb d_Reader_valueOfFigures_67 ?_
    refine lv_imul hx hb d_Reader_valueOfFigures_68 ?_
    refine lv_iload_n hx hb d_Reader_valueOfFigures_69 rfl (lv_at hl 0 rfl) ?_
    refine lv_iadd hx hb d_Reader_valueOfFigures_70 ?_
    obtain rfl := sj1 hf
    exact retR C0 (narI _) hQ d_Reader_valueOfFigures_71
  replace hf := iteF c4 hf
  refine lv_lookup (off := 48) (tgt := 72) hx hb d_Reader_valueOfFigures_24 (by decide) (by show Op.lookupswitch.offset [(1, 28), (2, 30)] 48 _ = _; rw [lv_osw (a := 1) c3 rfl, lv_osw (a := 2) c4 rfl]; rfl) (by decide) ?_
  refine lv_iconst (v := (-1 : Int32)) hx hb d_Reader_valueOfFigures_72 (by decide) ?_
  obtain rfl := sj1 hf
  exact retR C0 (narI _) hQ d_Reader_valueOfFigures_73
def f_Reader_step_J155 (sR10 : PW) : Option (PW) :=
  (if (sR10 3 0) = (1 : Int32) then bd (f_Reader_valueOfFigures sR10) (fun x13 => nm (up sR10 6 (fun _ => x13)) (fun sR15 => some sR15)) else nm (up sR10 6 (fun _ => (-1 : Int32))) (fun sR12 => some sR12))
def f_Reader_step_J123 (sR10 : PW) (K97 : PW → Option (PW)) : Option (PW) :=
  gd (okI (sR10 5 0) 150) (bd (f_Reader_tokenOf (sR10 1 ((sR10 5 0)).toNatClampNeg)) (fun x18 => (if x18 = (sR10 3 0) then nm (up sR10 5 (fun _ => ((sR10 5 0) + (1 : Int32)))) (fun sR21 => K97 sR21) else f_Reader_step_J155 sR10)))
def f_Reader_step_L97 (K97 : PW → Option (PW)) : PW → Option (PW)
  | sR10 =>
  (if (sR10 2 0) ≤ (sR10 5 0) then f_Reader_step_J155 sR10 else (if (sR10 3 0) = 0 then f_Reader_step_J123 sR10 K97 else (if (sR10 3 0) = (1 : Int32) then f_Reader_step_J123 sR10 K97 else f_Reader_step_J155 sR10)))
def f_Reader_step_J46 (sR2 : PW) : Option (PW) :=
  nm (up sR2 5 (fun _ => (sR2 4 0))) (fun sR3 => (if (sR3 4 0) < (sR3 2 0) then gd (okI (sR3 4 0) 150) (bd (f_Reader_tokenOf (sR3 1 ((sR3 4 0)).toNatClampNeg)) (fun x6 => nm (up sR3 3 (fun _ => x6)) (fun sR8 => nm (up sR8 5 (fun _ => ((sR8 5 0) + (1 : Int32)))) (fun sR9 => loopF f_Reader_step_L97 4000 sR9)))) else nm (up sR3 3 (fun _ => (3 : Int32))) (fun sR24 => some sR24)))
def f_Reader_step_L8 (K8 : PW → Option (PW)) : PW → Option (PW)
  | sR2 =>
  (if (sR2 2 0) ≤ (sR2 4 0) then f_Reader_step_J46 sR2 else gd (okI (sR2 4 0) 150) ((if (sR2 1 ((sR2 4 0)).toNatClampNeg) = (32 : Int32) then nm (up sR2 4 (fun _ => ((sR2 4 0) + (1 : Int32)))) (fun sR28 => K8 sR28) else f_Reader_step_J46 sR2)))
def f_Reader_step (sR : PW) : Option (PW) :=
  nm (up sR 4 (fun _ => (sR 5 0))) (fun sR1 => loopF f_Reader_step_L8 4000 sR1)
set_option maxHeartbeats 4000000 in
set_option maxRecDepth 100000 in
theorem c_Reader_step (l : Launch) (D : va_G) (ty : Nat → ClassId) (rA gA : Nat → Nat) (sz : Nat) (sR : PW) (tR : PW) (hf : f_Reader_step sR = some tR) : Met l y_Reader_step (Cond.code y_Reader_step prog_10_method_11_code 1 none :: lw_ok) { frames := 1, cells := 0, slots := 0, locals := 21 } (PcM D ty [.ref (rA 0)] sz (L_r ty rA gA sR)) (QM D (L_r ty rA gA tR) (va_A (L_r ty rA gA sR) sz) (none)) 0 0 (va_A (L_r ty rA gA sR) sz) := by
  refine hdM (by decide) (Nat.le_of_ble_eq_true rfl) ?_
  intro p e s m below meth c ls R args Q A C0 hR hQ hnm hAq hP hK hD hS hl
  obtain ⟨hx, hb, hr, hlk, hml, hown, htt⟩ := id C0
  have hl : lv_has ls 1 [(0, .ref (rA 0))] := hl
  generalize hH0 : s.heap = H at hP hS ⊢
  have hS : va_S A s.heap H [] := by rw [hH0]; exact hS
  unfold f_Reader_step at hf
  refine lv_aload_n hx hb d_Reader_step_0 rfl (lv_at hl 0 rfl) ?_
  refine lv_aload_n hx hb d_Reader_step_1 rfl (lv_at hl 0 rfl) ?_
  refine va_get (D := D) (ci := 7) (v := .int (sR 5 0)) (C := "BedFrontier$Reader") (T := T_Reader) (N := 7) hx hb htt i_Reader hown hK.1 hP 0 rfl rfl 5 (by decide) (htt _ k_167) (fun _ h9 => h9) rfl d_Reader_step_2 ?_
  refine va_put (D := D) (ci := 7) (v := .int (sR 5 0)) (ty := .int) (C := "BedFrontier$Reader") (T := T_Reader) (N := 7) hx hb htt i_Reader t_Reader t_Reader_ok n_Reader hown hK.1 hP hD hS 0 rfl rfl 4 (by decide) (htt _ k_166) (fun _ h9 => h9) rfl pfI rfl rfl (Nat.le_of_ble_eq_true rfl) d_Reader_step_5 (fun H locs hP hD hS => ?_)
  obtain ⟨sR1, e_sR1⟩ : ∃ z : PW, z = up sR 4 (fun _ => (sR 5 0)) := ⟨_, rfl⟩
  replace hf := nmE hf e_sR1
  have hP : va_P D vwCl (L_r ty rA gA sR1) H := by rw [e_sR1]; exact hP
  have hD : va_D A (L_r ty rA gA sR1) := by rw [e_sR1]; exact hD
  have B8 : ∀ (n : Nat) (x : PW), loopF f_Reader_step_L8 n x = some tR → ∀ (H : Heap) (locs : List Loc) (ls : Array Slot), va_P D vwCl (L_r ty rA gA x) H → va_D A (L_r ty rA gA x) → va_S A s.heap H locs → lv_has ls 1 [(0, .ref (rA 0))] → W p l e R s m args below meth c H locs 0 0 Q (F0 m 8 ls []) := by
    refine loopW (fun (x : PW) => ∀ (H : Heap) (locs : List Loc) (ls : Array Slot), va_P D vwCl (L_r ty rA gA x) H → va_D A (L_r ty rA gA x) → va_S A s.heap H locs → lv_has ls 1 [(0, .ref (rA 0))] → W p l e R s m args below meth c H locs 0 0 Q (F0 m 8 ls [])) ?_
    intro K8 hK8 sR2 hf
    rw [f_Reader_step_L8] at hf
    intro H locs ls hP hD hS hl
    have hl : lv_has ls 1 [(0, .ref (rA 0))] := hl
    have hP : va_P D vwCl (L_r ty rA gA sR2) H := hP
    have hD : va_D A (L_r ty rA gA sR2) := hD
    show W p l e R s m args below meth c H locs 0 0 Q (F0 m 8 ls [])
    refine lv_aload_n hx hb d_Reader_step_8 rfl (lv_at hl 0 rfl) ?_
    refine va_get (D := D) (ci := 7) (v := .int (sR2 4 0)) (C := "BedFrontier$Reader") (T := T_Reader) (N := 7) hx hb htt i_Reader hown hK.1 hP 0 rfl rfl 4 (by decide) (htt _ k_166) (fun _ h9 => h9) rfl d_Reader_step_9 ?_
    refine lv_aload_n hx hb d_Reader_step_12 rfl (lv_at hl 0 rfl) ?_
    refine va_get (D := D) (ci := 7) (v := .int (sR2 2 0)) (C := "BedFrontier$Reader") (T := T_Reader) (N := 7) hx hb htt i_Reader hown hK.1 hP 0 rfl rfl 2 (by decide) (htt _ k_163) (fun _ h9 => h9) rfl d_Reader_step_13 ?_
    have J46 : ∀ (_ : Unit), f_Reader_step_J46 sR2 = some tR → ∀ (H : Heap) (locs : List Loc) (ls : Array Slot), va_P D vwCl (L_r ty rA gA sR2) H → va_D A (L_r ty rA gA sR2) → va_S A s.heap H locs → lv_has ls 1 [(0, .ref (rA 0))] → W p l e R s m args below meth c H locs 0 0 Q (F0 m 46 ls []) := by
      intro _ hf H locs ls hP hD hS hl
      unfold f_Reader_step_J46 at hf
      refine lv_aload_n hx hb d_Reader_step_46 rfl (lv_at hl 0 rfl) ?_
      refine lv_aload_n hx hb d_Reader_step_47 rfl (lv_at hl 0 rfl) ?_
      refine va_get (D := D) (ci := 7) (v := .int (sR2 4 0)) (C := "BedFrontier$Reader") (T := T_Reader) (N := 7) hx hb htt i_Reader hown hK.1 hP 0 rfl rfl 4 (by decide) (htt _ k_166) (fun _ h9 => h9) rfl d_Reader_step_48 ?_
      refine va_put (D := D) (ci := 7) (v := .int (sR2 4 0)) (ty := .int) (C := "BedFrontier$Reader") (T := T_Reader) (N := 7) hx hb htt i_Reader t_Reader t_Reader_ok n_Reader hown hK.1 hP hD hS 0 rfl rfl 5 (by decide) (htt _ k_167) (fun _ h9 => h9) rfl pfI rfl rfl (Nat.le_of_ble_eq_true rfl) d_Reader_step_51 (fun H locs hP hD hS => ?_)
      obtain ⟨sR3, e_sR3⟩ : ∃ z : PW, z = up sR2 5 (fun _ => (sR2 4 0)) := ⟨_, rfl⟩
      replace hf := nmE hf e_sR3
      have hP : va_P D vwCl (L_r ty rA gA sR3) H := by rw [e_sR3]; exact hP
      have hD : va_D A (L_r ty rA gA sR3) := by rw [e_sR3]; exact hD
      refine lv_aload_n hx hb d_Reader_step_54 rfl (lv_at hl 0 rfl) ?_
      refine va_get (D := D) (ci := 7) (v := .int (sR3 4 0)) (C := "BedFrontier$Reader") (T := T_Reader) (N := 7) hx hb htt i_Reader hown hK.1 hP 0 rfl rfl 4 (by decide) (htt _ k_166) (fun _ h9 => h9) rfl d_Reader_step_55 ?_
      refine lv_aload_n hx hb d_Reader_step_58 rfl (lv_at hl 0 rfl) ?_
      refine va_get (D := D) (ci := 7) (v := .int (sR3 2 0)) (C := "BedFrontier$Reader") (T := T_Reader) (N := 7) hx hb htt i_Reader hown hK.1 hP 0 rfl rfl 2 (by decide) (htt _ k_163) (fun _ h9 => h9) rfl d_Reader_step_59 ?_
      refine lv_icmp_lt (tgt := 71) hx hb d_Reader_step_62 (by decide) (fun c4 => ?_) (fun c4 => ?_)
      · replace hf := iteT c4 hf
        refine lv_aload_n hx hb d_Reader_step_71 rfl (lv_at hl 0 rfl) ?_
        refine lv_aload_n hx hb d_Reader_step_72 rfl (lv_at hl 0 rfl) ?_
        refine va_get (D := D) (ci := 7) (v := .ref (rA 2)) (C := "BedFrontier$Reader") (T := T_Reader) (N := 7) hx hb htt i_Reader hown hK.1 hP 0 rfl rfl 1 (by decide) (htt _ k_162) (fun _ h9 => h9) rfl d_Reader_step_73 ?_
        refine lv_aload_n hx hb d_Reader_step_76 rfl (lv_at hl 0 rfl) ?_
        refine va_get (D := D) (ci := 7) (v := .int (sR3 4 0)) (C := "BedFrontier$Reader") (T := T_Reader) (N := 7) hx hb htt i_Reader hown hK.1 hP 0 rfl rfl 4 (by decide) (htt _ k_166) (fun _ h9 => h9) rfl d_Reader_step_77 ?_
        obtain ⟨g5, hf⟩ := gdE hf
        refine va_bald hx hb hK.1 hP 1 1 rfl rfl (okI_in g5) d_Reader_step_80 ?_
        obtain ⟨x6, h7, hf⟩ := bdE hf
        refine scR (rest := [.ref (rA 0)]) C0 (c_Reader_tokenOf l D ty (sR3 1 ((sR3 4 0)).toNatClampNeg) x6 h7) k_291 cal_Reader_tokenOf hK (va_P_nil) ⟨by rw [hR]; decide, by rw [hR]; decide⟩ rfl rfl rfl hl.1 rfl (Nat.le_of_ble_eq_true rfl) d_Reader_step_81 ⟨Nat.zero_le _, Nat.zero_le _⟩ rfl ?_
        refine va_put (D := D) (ci := 7) (v := .int x6) (ty := .int) (C := "BedFrontier$Reader") (T := T_Reader) (N := 7) hx hb htt i_Reader t_Reader t_Reader_ok n_Reader hown hK.1 hP hD hS 0 rfl rfl 3 (by decide) (htt _ k_165) (fun _ h9 => h9) rfl pfI rfl rfl (Nat.le_of_ble_eq_true rfl) d_Reader_step_84 (fun H locs hP hD hS => ?_)
        obtain ⟨sR8, e_sR8⟩ : ∃ z : PW, z = up sR3 3 (fun _ => x6) := ⟨_, rfl⟩
        replace hf := nmE hf e_sR8
        have hP : va_P D vwCl (L_r ty rA gA sR8) H := by rw [e_sR8]; exact hP
        have hD : va_D A (L_r ty rA gA sR8) := by rw [e_sR8]; exact hD
        refine lv_aload_n hx hb d_Reader_step_87 rfl (lv_at hl 0 rfl) ?_
        refine lv_dup hx hb d_Reader_step_88 rfl ?_
        refine va_get (D := D) (ci := 7) (v := .int (sR8 5 0)) (C := "BedFrontier$Reader") (T := T_Reader) (N := 7) hx hb htt i_Reader hown hK.1 hP 0 rfl rfl 5 (by decide) (htt _ k_167) (fun _ h9 => h9) rfl d_Reader_step_89 ?_
        refine lv_iconst (v := (1 : Int32)) hx hb d_Reader_step_92 (by decide) ?_
        refine lv_iadd hx hb d_Reader_step_93 ?_
        refine va_put (D := D) (ci := 7) (v := .int ((sR8 5 0) + (1 : Int32))) (ty := .int) (C := "BedFrontier$Reader") (T := T_Reader) (N := 7) hx hb htt i_Reader t_Reader t_Reader_ok n_Reader hown hK.1 hP hD hS 0 rfl rfl 5 (by decide) (htt _ k_167) (fun _ h9 => h9) rfl pfI rfl rfl (Nat.le_of_ble_eq_true rfl) d_Reader_step_94 (fun H locs hP hD hS => ?_)
        obtain ⟨sR9, e_sR9⟩ : ∃ z : PW, z = up sR8 5 (fun _ => ((sR8 5 0) + (1 : Int32))) := ⟨_, rfl⟩
        replace hf := nmE hf e_sR9
        have hP : va_P D vwCl (L_r ty rA gA sR9) H := by rw [e_sR9]; exact hP
        have hD : va_D A (L_r ty rA gA sR9) := by rw [e_sR9]; exact hD
        have B97 : ∀ (n : Nat) (x : PW), loopF f_Reader_step_L97 n x = some tR → ∀ (H : Heap) (locs : List Loc) (ls : Array Slot), va_P D vwCl (L_r ty rA gA x) H → va_D A (L_r ty rA gA x) → va_S A s.heap H locs → lv_has ls 1 [(0, .ref (rA 0))] → W p l e R s m args below meth c H locs 0 0 Q (F0 m 97 ls []) := by
          refine loopW (fun (x : PW) => ∀ (H : Heap) (locs : List Loc) (ls : Array Slot), va_P D vwCl (L_r ty rA gA x) H → va_D A (L_r ty rA gA x) → va_S A s.heap H locs → lv_has ls 1 [(0, .ref (rA 0))] → W p l e R s m args below meth c H locs 0 0 Q (F0 m 97 ls [])) ?_
          intro K97 hK97 sR10 hf
          rw [f_Reader_step_L97] at hf
          intro H locs ls hP hD hS hl
          have hl : lv_has ls 1 [(0, .ref (rA 0))] := hl
          have hP : va_P D vwCl (L_r ty rA gA sR10) H := hP
          have hD : va_D A (L_r ty rA gA sR10) := hD
          show W p l e R s m args below meth c H locs 0 0 Q (F0 m 97 ls [])
          refine lv_aload_n hx hb d_Reader_step_97 rfl (lv_at hl 0 rfl) ?_
          refine va_get (D := D) (ci := 7) (v := .int (sR10 5 0)) (C := "BedFrontier$Reader") (T := T_Reader) (N := 7) hx hb htt i_Reader hown hK.1 hP 0 rfl rfl 5 (by decide) (htt _ k_167) (fun _ h9 => h9) rfl d_Reader_step_98 ?_
          refine lv_aload_n hx hb d_Reader_step_101 rfl (lv_at hl 0 rfl) ?_
          refine va_get (D := D) (ci := 7) (v := .int (sR10 2 0)) (C := "BedFrontier$Reader") (T := T_Reader) (N := 7) hx hb htt i_Reader hown hK.1 hP 0 rfl rfl 2 (by decide) (htt _ k_163) (fun _ h9 => h9) rfl d_Reader_step_102 ?_
          have J155 : ∀ (_ : Unit), f_Reader_step_J155 sR10 = some tR → ∀ (H : Heap) (locs : List Loc) (ls : Array Slot), va_P D vwCl (L_r ty rA gA sR10) H → va_D A (L_r ty rA gA sR10) → va_S A s.heap H locs → lv_has ls 1 [(0, .ref (rA 0))] → W p l e R s m args below meth c H locs 0 0 Q (F0 m 155 ls []) := by
            intro _ hf H locs ls hP hD hS hl
            unfold f_Reader_step_J155 at hf
            refine lv_aload_n hx hb d_Reader_step_155 rfl (lv_at hl 0 rfl) ?_
            refine lv_aload_n hx hb d_Reader_step_156 rfl (lv_at hl 0 rfl) ?_
            refine va_get (D := D) (ci := 7) (v := .int (sR10 3 0)) (C := "BedFrontier$Reader") (T := T_Reader) (N := 7) hx hb htt i_Reader hown hK.1 hP 0 rfl rfl 3 (by decide) (htt _ k_165) (fun _ h9 => h9) rfl d_Reader_step_157 ?_
            refine lv_iconst (v := (1 : Int32)) hx hb d_Reader_step_160 (by decide) ?_
            refine lv_icmp_ne (tgt := 171) hx hb d_Reader_step_161 (by decide) (fun c11 => ?_) (fun c11 => ?_)
            · replace hf := iteF c11 hf
              refine lv_iconst (v := (-1 : Int32)) hx hb d_Reader_step_171 (by decide) ?_
              refine va_put (D := D) (ci := 7) (v := .int (-1 : Int32)) (ty := .int) (C := "BedFrontier$Reader") (T := T_Reader) (N := 7) hx hb htt i_Reader t_Reader t_Reader_ok n_Reader hown hK.1 hP hD hS 0 rfl rfl 6 (by decide) (htt _ k_168) (fun _ h9 => h9) rfl pfI rfl rfl (Nat.le_of_ble_eq_true rfl) d_Reader_step_172 (fun H locs hP hD hS => ?_)
              obtain ⟨sR12, e_sR12⟩ : ∃ z : PW, z = up sR10 6 (fun _ => (-1 : Int32)) := ⟨_, rfl⟩
              replace hf := nmE hf e_sR12
              have hP : va_P D vwCl (L_r ty rA gA sR12) H := by rw [e_sR12]; exact hP
              have hD : va_D A (L_r ty rA gA sR12) := by rw [e_sR12]; exact hD
              obtain rfl := sj1 hf
              exact retMv C0 hQ hP hD hS d_Reader_step_175
            · replace hf := iteT c11 hf
              refine lv_aload_n hx hb d_Reader_step_164 rfl (lv_at hl 0 rfl) ?_
              obtain ⟨x13, h14, hf⟩ := bdE hf
              refine vR (q0 := 0) (ci := 7) (rest := [.ref (rA 0)]) C0 (c_Reader_valueOfFigures l D ty rA gA sR10 x13 h14) k_294 cal_Reader_valueOfFigures hK hP rfl rfl rfl ⟨by rw [hR]; decide, by rw [hR]; decide⟩ rfl rfl rfl hl.1 rfl (Nat.le_of_ble_eq_true rfl) d_Reader_step_165 ⟨Nat.zero_le _, Nat.zero_le _⟩ rfl ?_
              refine lv_goto (tgt := 172) hx hb d_Reader_step_168 (by decide) ?_
              refine va_put (D := D) (ci := 7) (v := .int x13) (ty := .int) (C := "BedFrontier$Reader") (T := T_Reader) (N := 7) hx hb htt i_Reader t_Reader t_Reader_ok n_Reader hown hK.1 hP hD hS 0 rfl rfl 6 (by decide) (htt _ k_168) (fun _ h9 => h9) rfl pfI rfl rfl (Nat.le_of_ble_eq_true rfl) d_Reader_step_172 (fun H locs hP hD hS => ?_)
              obtain ⟨sR15, e_sR15⟩ : ∃ z : PW, z = up sR10 6 (fun _ => x13) := ⟨_, rfl⟩
              replace hf := nmE hf e_sR15
              have hP : va_P D vwCl (L_r ty rA gA sR15) H := by rw [e_sR15]; exact hP
              have hD : va_D A (L_r ty rA gA sR15) := by rw [e_sR15]; exact hD
              obtain rfl := sj1 hf
              exact retMv C0 hQ hP hD hS d_Reader_step_175
          refine lv_icmp_ge (tgt := 155) hx hb d_Reader_step_105 (by decide) (fun c16 => ?_) (fun c16 => ?_)
          · replace hf := iteT c16 hf
            exact J155 () hf _ _ ls hP hD hS (hl)
          · replace hf := iteF c16 hf
            refine lv_aload_n hx hb d_Reader_step_108 rfl (lv_at hl 0 rfl) ?_
            refine va_get (D := D) (ci := 7) (v := .int (sR10 3 0)) (C := "BedFrontier$Reader") (T := T_Reader) (N := 7) hx hb htt i_Reader hown hK.1 hP 0 rfl rfl 3 (by decide) (htt _ k_165) (fun _ h9 => h9) rfl d_Reader_step_109 ?_
            have J123 : ∀ (_ : Unit), f_Reader_step_J123 sR10 K97 = some tR → ∀ (H : Heap) (locs : List Loc) (ls : Array Slot), va_P D vwCl (L_r ty rA gA sR10) H → va_D A (L_r ty rA gA sR10) → va_S A s.heap H locs → lv_has ls 1 [(0, .ref (rA 0))] → W p l e R s m args below meth c H locs 0 0 Q (F0 m 123 ls []) := by
              intro _ hf H locs ls hP hD hS hl
              unfold f_Reader_step_J123 at hf
              refine lv_aload_n hx hb d_Reader_step_123 rfl (lv_at hl 0 rfl) ?_
              refine va_get (D := D) (ci := 7) (v := .ref (rA 2)) (C := "BedFrontier$Reader") (T := T_Reader) (N := 7) hx hb htt i_Reader hown hK.1 hP 0 rfl rfl 1 (by decide) (htt _ k_162) (fun _ h9 => h9) rfl d_Reader_step_124 ?_
              refine lv_aload_n hx hb d_Reader_step_127 rfl (lv_at hl 0 rfl) ?_
              refine va_get (D := D) (ci := 7) (v := .int (sR10 5 0)) (C := "BedFrontier$Reader") (T := T_Reader) (N := 7) hx hb htt i_Reader hown hK.1 hP 0 rfl rfl 5 (by decide) (htt _ k_167) (fun _ h9 => h9) rfl d_Reader_step_128 ?_
              obtain ⟨g17, hf⟩ := gdE hf
              refine va_bald hx hb hK.1 hP 1 1 rfl rfl (okI_in g17) d_Reader_step_131 ?_
              obtain ⟨x18, h19, hf⟩ := bdE hf
              refine scR (rest := []) C0 (c_Reader_tokenOf l D ty (sR10 1 ((sR10 5 0)).toNatClampNeg) x18 h19) k_291 cal_Reader_tokenOf hK (va_P_nil) ⟨by rw [hR]; decide, by rw [hR]; decide⟩ rfl rfl rfl hl.1 rfl (Nat.le_of_ble_eq_true rfl) d_Reader_step_132 ⟨Nat.zero_le _, Nat.zero_le _⟩ rfl ?_
              refine lv_aload_n hx hb d_Reader_step_135 rfl (lv_at hl 0 rfl) ?_
              refine va_get (D := D) (ci := 7) (v := .int (sR10 3 0)) (C := "BedFrontier$Reader") (T := T_Reader) (N := 7) hx hb htt i_Reader hown hK.1 hP 0 rfl rfl 3 (by decide) (htt _ k_165) (fun _ h9 => h9) rfl d_Reader_step_136 ?_
              refine lv_icmp_ne (tgt := 155) hx hb d_Reader_step_139 (by decide) (fun c20 => ?_) (fun c20 => ?_)
              · replace hf := iteF c20 hf
                exact J155 () hf _ _ ls hP hD hS (hl)
              · replace hf := iteT c20 hf
                refine lv_aload_n hx hb d_Reader_step_142 rfl (lv_at hl 0 rfl) ?_
                refine lv_dup hx hb d_Reader_step_143 rfl ?_
                refine va_get (D := D) (ci := 7) (v := .int (sR10 5 0)) (C := "BedFrontier$Reader") (T := T_Reader) (N := 7) hx hb htt i_Reader hown hK.1 hP 0 rfl rfl 5 (by decide) (htt _ k_167) (fun _ h9 => h9) rfl d_Reader_step_144 ?_
                refine lv_iconst (v := (1 : Int32)) hx hb d_Reader_step_147 (by decide) ?_
                refine lv_iadd hx hb d_Reader_step_148 ?_
                refine va_put (D := D) (ci := 7) (v := .int ((sR10 5 0) + (1 : Int32))) (ty := .int) (C := "BedFrontier$Reader") (T := T_Reader) (N := 7) hx hb htt i_Reader t_Reader t_Reader_ok n_Reader hown hK.1 hP hD hS 0 rfl rfl 5 (by decide) (htt _ k_167) (fun _ h9 => h9) rfl pfI rfl rfl (Nat.le_of_ble_eq_true rfl) d_Reader_step_149 (fun H locs hP hD hS => ?_)
                obtain ⟨sR21, e_sR21⟩ : ∃ z : PW, z = up sR10 5 (fun _ => ((sR10 5 0) + (1 : Int32))) := ⟨_, rfl⟩
                replace hf := nmE hf e_sR21
                have hP : va_P D vwCl (L_r ty rA gA sR21) H := by rw [e_sR21]; exact hP
                have hD : va_D A (L_r ty rA gA sR21) := by rw [e_sR21]; exact hD
                refine lv_goto (tgt := 97) hx hb d_Reader_step_152 (by decide) ?_
                exact hK97 sR21 hf _ _ ls hP hD hS (hl)
            refine lv_if_eq (tgt := 123) hx hb d_Reader_step_112 (by decide) (fun c22 => ?_) (fun c22 => ?_)
            · replace hf := iteT c22 hf
              exact J123 () hf _ _ ls hP hD hS (hl)
            · replace hf := iteF c22 hf
              refine lv_aload_n hx hb d_Reader_step_115 rfl (lv_at hl 0 rfl) ?_
              refine va_get (D := D) (ci := 7) (v := .int (sR10 3 0)) (C := "BedFrontier$Reader") (T := T_Reader) (N := 7) hx hb htt i_Reader hown hK.1 hP 0 rfl rfl 3 (by decide) (htt _ k_165) (fun _ h9 => h9) rfl d_Reader_step_116 ?_
              refine lv_iconst (v := (1 : Int32)) hx hb d_Reader_step_119 (by decide) ?_
              refine lv_icmp_ne (tgt := 155) hx hb d_Reader_step_120 (by decide) (fun c23 => ?_) (fun c23 => ?_)
              · replace hf := iteF c23 hf
                exact J155 () hf _ _ ls hP hD hS (hl)
              · replace hf := iteT c23 hf
                exact J123 () hf _ _ ls hP hD hS (hl)
        exact B97 4000 sR9 hf _ _ ls hP hD hS (hl)
      · replace hf := iteF c4 hf
        refine lv_aload_n hx hb d_Reader_step_65 rfl (lv_at hl 0 rfl) ?_
        refine lv_iconst (v := (3 : Int32)) hx hb d_Reader_step_66 (by decide) ?_
        refine va_put (D := D) (ci := 7) (v := .int (3 : Int32)) (ty := .int) (C := "BedFrontier$Reader") (T := T_Reader) (N := 7) hx hb htt i_Reader t_Reader t_Reader_ok n_Reader hown hK.1 hP hD hS 0 rfl rfl 3 (by decide) (htt _ k_165) (fun _ h9 => h9) rfl pfI rfl rfl (Nat.le_of_ble_eq_true rfl) d_Reader_step_67 (fun H locs hP hD hS => ?_)
        obtain ⟨sR24, e_sR24⟩ : ∃ z : PW, z = up sR3 3 (fun _ => (3 : Int32)) := ⟨_, rfl⟩
        replace hf := nmE hf e_sR24
        have hP : va_P D vwCl (L_r ty rA gA sR24) H := by rw [e_sR24]; exact hP
        have hD : va_D A (L_r ty rA gA sR24) := by rw [e_sR24]; exact hD
        obtain rfl := sj1 hf
        exact retMv C0 hQ hP hD hS d_Reader_step_70
    refine lv_icmp_ge (tgt := 46) hx hb d_Reader_step_16 (by decide) (fun c25 => ?_) (fun c25 => ?_)
    · replace hf := iteT c25 hf
      exact J46 () hf _ _ ls hP hD hS (hl)
    · replace hf := iteF c25 hf
      refine lv_aload_n hx hb d_Reader_step_19 rfl (lv_at hl 0 rfl) ?_
      refine va_get (D := D) (ci := 7) (v := .ref (rA 2)) (C := "BedFrontier$Reader") (T := T_Reader) (N := 7) hx hb htt i_Reader hown hK.1 hP 0 rfl rfl 1 (by decide) (htt _ k_162) (fun _ h9 => h9) rfl d_Reader_step_20 ?_
      refine lv_aload_n hx hb d_Reader_step_23 rfl (lv_at hl 0 rfl) ?_
      refine va_get (D := D) (ci := 7) (v := .int (sR2 4 0)) (C := "BedFrontier$Reader") (T := T_Reader) (N := 7) hx hb htt i_Reader hown hK.1 hP 0 rfl rfl 4 (by decide) (htt _ k_166) (fun _ h9 => h9) rfl d_Reader_step_24 ?_
      obtain ⟨g26, hf⟩ := gdE hf
      refine va_bald hx hb hK.1 hP 1 1 rfl rfl (okI_in g26) d_Reader_step_27 ?_
      refine lv_bipush (v := (32 : Int32)) hx hb d_Reader_step_28 (by decide) ?_
      refine lv_icmp_ne (tgt := 46) hx hb d_Reader_step_30 (by decide) (fun c27 => ?_) (fun c27 => ?_)
      · replace hf := iteF c27 hf
        exact J46 () hf _ _ ls hP hD hS (hl)
      · replace hf := iteT c27 hf
        refine lv_aload_n hx hb d_Reader_step_33 rfl (lv_at hl 0 rfl) ?_
        refine lv_dup hx hb d_Reader_step_34 rfl ?_
        refine va_get (D := D) (ci := 7) (v := .int (sR2 4 0)) (C := "BedFrontier$Reader") (T := T_Reader) (N := 7) hx hb htt i_Reader hown hK.1 hP 0 rfl rfl 4 (by decide) (htt _ k_166) (fun _ h9 => h9) rfl d_Reader_step_35 ?_
        refine lv_iconst (v := (1 : Int32)) hx hb d_Reader_step_38 (by decide) ?_
        refine lv_iadd hx hb d_Reader_step_39 ?_
        refine va_put (D := D) (ci := 7) (v := .int ((sR2 4 0) + (1 : Int32))) (ty := .int) (C := "BedFrontier$Reader") (T := T_Reader) (N := 7) hx hb htt i_Reader t_Reader t_Reader_ok n_Reader hown hK.1 hP hD hS 0 rfl rfl 4 (by decide) (htt _ k_166) (fun _ h9 => h9) rfl pfI rfl rfl (Nat.le_of_ble_eq_true rfl) d_Reader_step_40 (fun H locs hP hD hS => ?_)
        obtain ⟨sR28, e_sR28⟩ : ∃ z : PW, z = up sR2 4 (fun _ => ((sR2 4 0) + (1 : Int32))) := ⟨_, rfl⟩
        replace hf := nmE hf e_sR28
        have hP : va_P D vwCl (L_r ty rA gA sR28) H := by rw [e_sR28]; exact hP
        have hD : va_D A (L_r ty rA gA sR28) := by rw [e_sR28]; exact hD
        refine lv_goto (tgt := 8) hx hb d_Reader_step_43 (by decide) ?_
        exact hK8 sR28 hf _ _ ls hP hD hS (hl)
  exact B8 4000 sR1 hf _ _ ls hP hD hS (hl)
def f_Reader_number (sR : PW) (a1 : Int32) : Option (Int32 × PW) :=
  bd (f_Reader_step sR) (fun sR1 => (if (sR1 3 0) = (1 : Int32) then bd (f_Face_within (sR1 6 0) a1) (fun x4 => (if x4 = 0 then some ((0 : Int32), sR1) else some ((1 : Int32), sR1))) else some ((0 : Int32), sR1)))
set_option maxHeartbeats 4000000 in
set_option maxRecDepth 100000 in
theorem c_Reader_number (l : Launch) (D : va_G) (ty : Nat → ClassId) (rA gA : Nat → Nat) (sz : Nat) (sR : PW) (a1 : Int32) (rr : Int32) (tR : PW) (hf : f_Reader_number sR a1 = some (rr, tR)) : Met l y_Reader_number (Cond.code y_Reader_number prog_10_method_9_code 2 ((Option.some FieldType.boolean)) :: lw_ok) { frames := 2, cells := 0, slots := 0, locals := 41 } (PcM D ty [.ref (rA 0), .int a1] sz (L_r ty rA gA sR)) (QM D (L_r ty rA gA tR) (va_A (L_r ty rA gA sR) sz) (some (.int rr))) 0 0 (va_A (L_r ty rA gA sR) sz) := by
  refine hdM (by decide) (Nat.le_of_ble_eq_true rfl) ?_
  intro p e s m below meth c ls R args Q A C0 hR hQ hnm hAq hP hK hD hS hl
  obtain ⟨hx, hb, hr, hlk, hml, hown, htt⟩ := id C0
  have hl : lv_has ls 2 [(0, .ref (rA 0)), (1, .int a1)] := hl
  generalize hH0 : s.heap = H at hP hS ⊢
  have hS : va_S A s.heap H [] := by rw [hH0]; exact hS
  unfold f_Reader_number at hf
  refine lv_aload_n hx hb d_Reader_number_0 rfl (lv_at hl 0 rfl) ?_
  obtain ⟨sR1, h2, hf⟩ := bdE hf
  refine vM (Lc := (L_r ty rA gA sR)) (Lc' := (L_r ty rA gA sR1)) (L' := (L_r ty rA gA sR1)) (q0 := 0) (ci := 7) (rest := []) C0 (c_Reader_step l D ty rA gA H.size sR sR1 h2) k_287 cal_Reader_step hK hP hD hS hAq [0, 1] [] [0, 1] [] rfl rfl (by decide) (by decide) (by decide) (by decide) rfl rfl rfl rfl ⟨by rw [hR]; decide, by rw [hR]; decide⟩ rfl rfl rfl hl.1 rfl (Nat.le_of_ble_eq_true rfl) d_Reader_number_1 ⟨by rw [hR]; decide, by rw [hR]; decide⟩ rfl (fun H locs hP hD hS => ?_)
  refine lv_aload_n hx hb d_Reader_number_4 rfl (lv_at hl 0 rfl) ?_
  refine va_get (D := D) (ci := 7) (v := .int (sR1 3 0)) (C := "BedFrontier$Reader") (T := T_Reader) (N := 7) hx hb htt i_Reader hown hK.1 hP 0 rfl rfl 3 (by decide) (htt _ k_165) (fun _ h9 => h9) rfl d_Reader_number_5 ?_
  refine lv_iconst (v := (1 : Int32)) hx hb d_Reader_number_8 (by decide) ?_
  refine lv_icmp_ne (tgt := 27) hx hb d_Reader_number_9 (by decide) (fun c3 => ?_) (fun c3 => ?_)
  · replace hf := iteF c3 hf
    refine lv_iconst (v := (0 : Int32)) hx hb d_Reader_number_27 (by decide) ?_
    obtain ⟨rfl, rfl⟩ := sj2 hf
    exact retM C0 rfl hQ hP hD hS d_Reader_number_28
  · replace hf := iteT c3 hf
    refine lv_aload_n hx hb d_Reader_number_12 rfl (lv_at hl 0 rfl) ?_
    refine va_get (D := D) (ci := 7) (v := .int (sR1 6 0)) (C := "BedFrontier$Reader") (T := T_Reader) (N := 7) hx hb htt i_Reader hown hK.1 hP 0 rfl rfl 6 (by decide) (htt _ k_168) (fun _ h9 => h9) rfl d_Reader_number_13 ?_
    refine lv_iload_n hx hb d_Reader_number_16 rfl (lv_at hl 1 rfl) ?_
    obtain ⟨x4, h5, hf⟩ := bdE hf
    refine snR (host := "BedFrontier") (rest := []) C0 (c_Face_within l D ty (sR1 6 0) a1 x4 h5) (by decide) cal_Face_within hK (va_P_nil) ⟨by rw [hR]; decide, by rw [hR]; decide⟩ rfl rfl rfl hl.1 rfl (Nat.le_of_ble_eq_true rfl) d_Reader_number_17 ⟨Nat.zero_le _, Nat.zero_le _⟩ rfl ?_
    refine lv_if_eq (tgt := 27) hx hb d_Reader_number_20 (by decide) (fun c6 => ?_) (fun c6 => ?_)
    · replace hf := iteT c6 hf
      refine lv_iconst (v := (0 : Int32)) hx hb d_Reader_number_27 (by decide) ?_
      obtain ⟨rfl, rfl⟩ := sj2 hf
      exact retM C0 rfl hQ hP hD hS d_Reader_number_28
    · replace hf := iteF c6 hf
      refine lv_iconst (v := (1 : Int32)) hx hb d_Reader_number_23 (by decide) ?_
      refine lv_goto (tgt := 28) hx hb d_Reader_number_24 (by decide) ?_
      obtain ⟨rfl, rfl⟩ := sj2 hf
      exact retM C0 rfl hQ hP hD hS d_Reader_number_28
def f_Reader_append (sR : PW) (a1 : Int32) : Option (Int32 × PW) :=
  gd (okI (sR 2 0) 150) (nm (up sR 1 (upd (sR 1) (((sR 2 0)).toNatClampNeg) (vp_nar .byte (a1).toInt8.toInt32))) (fun sR2 => nm (up sR2 2 (fun _ => ((sR2 2 0) + (1 : Int32)))) (fun sR3 => some ((sR3 2 0), sR3))))
set_option maxHeartbeats 4000000 in
set_option maxRecDepth 100000 in
theorem c_Reader_append (l : Launch) (D : va_G) (ty : Nat → ClassId) (rA gA : Nat → Nat) (sz : Nat) (sR : PW) (a1 : Int32) (rr : Int32) (tR : PW) (hf : f_Reader_append sR a1 = some (rr, tR)) : Met l y_Reader_append (Cond.code y_Reader_append prog_10_method_2_code 2 ((Option.some FieldType.int)) :: lw_ok) { frames := 0, cells := 0, slots := 0, locals := 0 } (PcM D ty [.ref (rA 0), .int a1] sz (L_r ty rA gA sR)) (QM D (L_r ty rA gA tR) (va_A (L_r ty rA gA sR) sz) (some (.int rr))) 0 0 (va_A (L_r ty rA gA sR) sz) := by
  refine hdM (by decide) (Nat.le_of_ble_eq_true rfl) ?_
  intro p e s m below meth c ls R args Q A C0 hR hQ hnm hAq hP hK hD hS hl
  obtain ⟨hx, hb, hr, hlk, hml, hown, htt⟩ := id C0
  have hl : lv_has ls 2 [(0, .ref (rA 0)), (1, .int a1)] := hl
  generalize hH0 : s.heap = H at hP hS ⊢
  have hS : va_S A s.heap H [] := by rw [hH0]; exact hS
  unfold f_Reader_append at hf
  refine lv_aload_n hx hb d_Reader_append_0 rfl (lv_at hl 0 rfl) ?_
  refine va_get (D := D) (ci := 7) (v := .ref (rA 2)) (C := "BedFrontier$Reader") (T := T_Reader) (N := 7) hx hb htt i_Reader hown hK.1 hP 0 rfl rfl 1 (by decide) (htt _ k_162) (fun _ h9 => h9) rfl d_Reader_append_1 ?_
  refine lv_aload_n hx hb d_Reader_append_4 rfl (lv_at hl 0 rfl) ?_
  refine va_get (D := D) (ci := 7) (v := .int (sR 2 0)) (C := "BedFrontier$Reader") (T := T_Reader) (N := 7) hx hb htt i_Reader hown hK.1 hP 0 rfl rfl 2 (by decide) (htt _ k_163) (fun _ h9 => h9) rfl d_Reader_append_5 ?_
  refine lv_iload_n hx hb d_Reader_append_8 rfl (lv_at hl 1 rfl) ?_
  refine lv_i2b hx hb d_Reader_append_9 rfl ?_
  obtain ⟨g1, hf⟩ := gdE hf
  refine va_bast hx hb hK.1 hP hD hS 1 1 rfl rfl (okI_in g1) d_Reader_append_10 (fun H locs hP hD hS => ?_)
  obtain ⟨sR2, e_sR2⟩ : ∃ z : PW, z = up sR 1 (upd (sR 1) (((sR 2 0)).toNatClampNeg) (vp_nar .byte (a1).toInt8.toInt32)) := ⟨_, rfl⟩
  replace hf := nmE hf e_sR2
  have hP : va_P D vwCl (L_r ty rA gA sR2) H := by rw [e_sR2]; exact hP
  have hD : va_D A (L_r ty rA gA sR2) := by rw [e_sR2]; exact hD
  refine lv_aload_n hx hb d_Reader_append_11 rfl (lv_at hl 0 rfl) ?_
  refine lv_dup hx hb d_Reader_append_12 rfl ?_
  refine va_get (D := D) (ci := 7) (v := .int (sR2 2 0)) (C := "BedFrontier$Reader") (T := T_Reader) (N := 7) hx hb htt i_Reader hown hK.1 hP 0 rfl rfl 2 (by decide) (htt _ k_163) (fun _ h9 => h9) rfl d_Reader_append_13 ?_
  refine lv_iconst (v := (1 : Int32)) hx hb d_Reader_append_16 (by decide) ?_
  refine lv_iadd hx hb d_Reader_append_17 ?_
  refine va_put (D := D) (ci := 7) (v := .int ((sR2 2 0) + (1 : Int32))) (ty := .int) (C := "BedFrontier$Reader") (T := T_Reader) (N := 7) hx hb htt i_Reader t_Reader t_Reader_ok n_Reader hown hK.1 hP hD hS 0 rfl rfl 2 (by decide) (htt _ k_163) (fun _ h9 => h9) rfl pfI rfl rfl (Nat.le_of_ble_eq_true rfl) d_Reader_append_18 (fun H locs hP hD hS => ?_)
  obtain ⟨sR3, e_sR3⟩ : ∃ z : PW, z = up sR2 2 (fun _ => ((sR2 2 0) + (1 : Int32))) := ⟨_, rfl⟩
  replace hf := nmE hf e_sR3
  have hP : va_P D vwCl (L_r ty rA gA sR3) H := by rw [e_sR3]; exact hP
  have hD : va_D A (L_r ty rA gA sR3) := by rw [e_sR3]; exact hD
  refine lv_aload_n hx hb d_Reader_append_21 rfl (lv_at hl 0 rfl) ?_
  refine va_get (D := D) (ci := 7) (v := .int (sR3 2 0)) (C := "BedFrontier$Reader") (T := T_Reader) (N := 7) hx hb htt i_Reader hown hK.1 hP 0 rfl rfl 2 (by decide) (htt _ k_163) (fun _ h9 => h9) rfl d_Reader_append_22 ?_
  obtain ⟨rfl, rfl⟩ := sj2 hf
  exact retM C0 (narI _) hQ hP hD hS d_Reader_append_25
def f_Reader_isWord_L27 (a1 : Nat) (sR : PW) (K27 : Int32 → Option (Int32)) : Int32 → Option (Int32)
  | x3 =>
  (if (strL a1) ≤ x3 then some (1 : Int32) else gd (okI ((sR 4 0) + x3) 150) (gd (okI x3 (lenS.getD a1 0)) ((if (sR 1 (((sR 4 0) + x3)).toNatClampNeg) = (strC a1 x3) then nm (x3 + (1 : Int32)) (fun x8 => K27 x8) else some (0 : Int32)))))
def f_Reader_isWord (sR : PW) (a1 : Nat) : Option (Int32) :=
  (if (sR 3 0) = 0 then (if ((sR 5 0) - (sR 4 0)) = (strL a1) then loopF (f_Reader_isWord_L27 a1 sR) 4000 (0 : Int32) else some (0 : Int32)) else some (0 : Int32))
set_option maxHeartbeats 4000000 in
set_option maxRecDepth 100000 in
theorem c_Reader_isWord (l : Launch) (D : va_G) (ty : Nat → ClassId) (rA gA : Nat → Nat) (aK aV : Nat → Nat) (sR : PW) (a1 : Nat) (rr : Int32) (h_a1 : a1 < 5) (hf : f_Reader_isWord sR a1 = some rr) : Met l y_Reader_isWord (Cond.code y_Reader_isWord prog_10_method_10_code 3 ((Option.some FieldType.boolean)) :: lw_ok) { frames := 4, cells := 0, slots := 0, locals := 85 } (PcT D ty aK aV [.ref (rA 0), .ref (aK a1)] (L_r ty rA gA sR)) (QR (some (.int rr))) 0 0 (fun _ => False) := by
  refine hdT (by decide) (Nat.le_of_ble_eq_true rfl) ?_
  intro p e s m below meth c ls R args Q C0 hR hQ hP hK hT hl
  obtain ⟨hx, hb, hr, hlk, hml, hown, htt⟩ := id C0
  have hl : lv_has ls 3 [(0, .ref (rA 0)), (1, .ref (aK a1))] := hl
  unfold f_Reader_isWord at hf
  refine lv_aload_n hx hb d_Reader_isWord_0 rfl (lv_at hl 0 rfl) ?_
  refine va_get (D := D) (ci := 7) (v := .int (sR 3 0)) (C := "BedFrontier$Reader") (T := T_Reader) (N := 7) hx hb htt i_Reader hown hK.1 hP 0 rfl rfl 3 (by decide) (htt _ k_165) (fun _ h9 => h9) rfl d_Reader_isWord_1 ?_
  refine lv_if_ne (tgt := 23) hx hb d_Reader_isWord_4 (by decide) (fun c1 => ?_) (fun c1 => ?_)
  · replace hf := iteF c1 hf
    refine lv_iconst (v := (0 : Int32)) hx hb d_Reader_isWord_23 (by decide) ?_
    obtain rfl := sj1 hf
    exact retR C0 rfl hQ d_Reader_isWord_24
  · replace hf := iteT c1 hf
    refine lv_aload_n hx hb d_Reader_isWord_7 rfl (lv_at hl 0 rfl) ?_
    refine va_get (D := D) (ci := 7) (v := .int (sR 5 0)) (C := "BedFrontier$Reader") (T := T_Reader) (N := 7) hx hb htt i_Reader hown hK.1 hP 0 rfl rfl 5 (by decide) (htt _ k_167) (fun _ h9 => h9) rfl d_Reader_isWord_8 ?_
    refine lv_aload_n hx hb d_Reader_isWord_11 rfl (lv_at hl 0 rfl) ?_
    refine va_get (D := D) (ci := 7) (v := .int (sR 4 0)) (C := "BedFrontier$Reader") (T := T_Reader) (N := 7) hx hb htt i_Reader hown hK.1 hP 0 rfl rfl 4 (by decide) (htt _ k_166) (fun _ h9 => h9) rfl d_Reader_isWord_12 ?_
    refine lv_isub hx hb d_Reader_isWord_15 ?_
    refine lv_aload_n hx hb d_Reader_isWord_16 rfl (lv_at hl 1 rfl) ?_
    refine gvR (rest := [.int ((sR 5 0) - (sR 4 0))]) C0 (cj_length l D ty aK aV a1 h_a1) PcT.blind k_307 calj_length (vk_recv hT.1 h_a1 va_S.rf) (fun U hU hW => ⟨rfl, va_P_nil, hK.warm hW, by rw [hU]; exact hT.warm hW⟩) ⟨by rw [hR]; decide, by rw [hR]; decide⟩ rfl rfl rfl hl.1 rfl (Nat.le_of_ble_eq_true rfl) d_Reader_isWord_17 ⟨Nat.zero_le _, Nat.zero_le _⟩ rfl ?_
    refine lv_icmp_eq (tgt := 25) hx hb d_Reader_isWord_20 (by decide) (fun c2 => ?_) (fun c2 => ?_)
    · replace hf := iteT c2 hf
      refine lv_iconst (v := (0 : Int32)) hx hb d_Reader_isWord_25 (by decide) ?_
      refine lv_istore_n (lv' := [(2, .int (0 : Int32)), (0, .ref (rA 0)), (1, .ref (aK a1))]) hx hb d_Reader_isWord_26 rfl hl (by decide) rfl (fun ls hl => ?_)
      have B27 : ∀ (n : Nat) (x : Int32), loopF (f_Reader_isWord_L27 a1 sR) n x = some rr → ∀ ls : Array Slot, lv_has ls 3 [(0, .ref (rA 0)), (1, .ref (aK a1)), (2, .int x)] → W p l e R s m args below meth c s.heap [] 0 0 Q (F0 m 27 ls []) := by
        refine loopW (fun (x : Int32) => ∀ ls : Array Slot, lv_has ls 3 [(0, .ref (rA 0)), (1, .ref (aK a1)), (2, .int x)] → W p l e R s m args below meth c s.heap [] 0 0 Q (F0 m 27 ls [])) ?_
        intro K27 hK27 x3 hf
        rw [f_Reader_isWord_L27] at hf
        intro ls hl
        have hl : lv_has ls 3 [(0, .ref (rA 0)), (1, .ref (aK a1)), (2, .int x3)] := hl
        show W p l e R s m args below meth c s.heap [] 0 0 Q (F0 m 27 ls [])
        refine lv_iload_n hx hb d_Reader_isWord_27 rfl (lv_at hl 2 rfl) ?_
        refine lv_aload_n hx hb d_Reader_isWord_28 rfl (lv_at hl 1 rfl) ?_
        refine gvR (rest := [.int x3]) C0 (cj_length l D ty aK aV a1 h_a1) PcT.blind k_307 calj_length (vk_recv hT.1 h_a1 va_S.rf) (fun U hU hW => ⟨rfl, va_P_nil, hK.warm hW, by rw [hU]; exact hT.warm hW⟩) ⟨by rw [hR]; decide, by rw [hR]; decide⟩ rfl rfl rfl hl.1 rfl (Nat.le_of_ble_eq_true rfl) d_Reader_isWord_29 ⟨Nat.zero_le _, Nat.zero_le _⟩ rfl ?_
        refine lv_icmp_ge (tgt := 62) hx hb d_Reader_isWord_32 (by decide) (fun c4 => ?_) (fun c4 => ?_)
        · replace hf := iteT c4 hf
          refine lv_iconst (v := (1 : Int32)) hx hb d_Reader_isWord_62 (by decide) ?_
          obtain rfl := sj1 hf
          exact retR C0 rfl hQ d_Reader_isWord_63
        · replace hf := iteF c4 hf
          refine lv_aload_n hx hb d_Reader_isWord_35 rfl (lv_at hl 0 rfl) ?_
          refine va_get (D := D) (ci := 7) (v := .ref (rA 2)) (C := "BedFrontier$Reader") (T := T_Reader) (N := 7) hx hb htt i_Reader hown hK.1 hP 0 rfl rfl 1 (by decide) (htt _ k_162) (fun _ h9 => h9) rfl d_Reader_isWord_36 ?_
          refine lv_aload_n hx hb d_Reader_isWord_39 rfl (lv_at hl 0 rfl) ?_
          refine va_get (D := D) (ci := 7) (v := .int (sR 4 0)) (C := "BedFrontier$Reader") (T := T_Reader) (N := 7) hx hb htt i_Reader hown hK.1 hP 0 rfl rfl 4 (by decide) (htt _ k_166) (fun _ h9 => h9) rfl d_Reader_isWord_40 ?_
          refine lv_iload_n hx hb d_Reader_isWord_43 rfl (lv_at hl 2 rfl) ?_
          refine lv_iadd hx hb d_Reader_isWord_44 ?_
          obtain ⟨g5, hf⟩ := gdE hf
          refine va_bald hx hb hK.1 hP 1 1 rfl rfl (okI_in g5) d_Reader_isWord_45 ?_
          refine lv_aload_n hx hb d_Reader_isWord_46 rfl (lv_at hl 1 rfl) ?_
          refine lv_iload_n hx hb d_Reader_isWord_47 rfl (lv_at hl 2 rfl) ?_
          obtain ⟨g6, hf⟩ := gdE hf
          refine gvR (rest := [.int (sR 1 (((sR 4 0) + x3)).toNatClampNeg)]) C0 (cj_charAt l D ty aK aV a1 h_a1 x3 g6) PcT.blind k_317 calj_charAt (vk_recv hT.1 h_a1 va_S.rf) (fun U hU hW => ⟨rfl, va_P_nil, hK.warm hW, by rw [hU]; exact hT.warm hW⟩) ⟨by rw [hR]; decide, by rw [hR]; decide⟩ rfl rfl rfl hl.1 rfl (Nat.le_of_ble_eq_true rfl) d_Reader_isWord_48 ⟨Nat.zero_le _, Nat.zero_le _⟩ rfl ?_
          refine lv_icmp_eq (tgt := 56) hx hb d_Reader_isWord_51 (by decide) (fun c7 => ?_) (fun c7 => ?_)
          · replace hf := iteT c7 hf
            obtain ⟨x8, e_x8⟩ : ∃ z : Int32, z = (x3 + (1 : Int32)) := ⟨_, rfl⟩
            replace hf := nmE hf e_x8
            refine lv_iinc (v := x8) (lv' := [(2, .int x8), (0, .ref (rA 0)), (1, .ref (aK a1))]) hx hb d_Reader_isWord_56 hl (k := 2) rfl (by rw [e_x8]; rfl) (by decide) rfl (fun ls hl => ?_)
            refine lv_goto (tgt := 27) hx hb d_Reader_isWord_59 (by decide) ?_
            exact hK27 x8 hf ls (lv_sub hl [1, 2, 0] rfl)
          · replace hf := iteF c7 hf
            refine lv_iconst (v := (0 : Int32)) hx hb d_Reader_isWord_54 (by decide) ?_
            obtain rfl := sj1 hf
            exact retR C0 rfl hQ d_Reader_isWord_55
      exact B27 4000 (0 : Int32) hf ls (lv_sub hl [1, 2, 0] rfl)
    · replace hf := iteF c2 hf
      refine lv_iconst (v := (0 : Int32)) hx hb d_Reader_isWord_23 (by decide) ?_
      obtain rfl := sj1 hf
      exact retR C0 rfl hQ d_Reader_isWord_24
def f_Reader_tollItem (sR : PW) (sG : PW) : Option (Int32 × PW × PW) :=
  bd2 (f_Reader_number sR (9 : Int32)) (fun x1 sR2 => (if x1 = 0 then some ((0 : Int32), sR2, sG) else nm (up sG 7 (fun _ => (sR2 6 0))) (fun sG5 => bd (f_Reader_step sR2) (fun sR6 => some ((1 : Int32), sR6, sG5)))))
set_option maxHeartbeats 4000000 in
set_option maxRecDepth 100000 in
theorem c_Reader_tollItem (l : Launch) (D : va_G) (ty : Nat → ClassId) (rA gA kA : Nat → Nat) (sz : Nat) (sR : PW) (sG : PW) (rr : Int32) (tR : PW) (tG : PW) (hf : f_Reader_tollItem sR sG = some (rr, tR, tG)) : Met l y_Reader_tollItem (Cond.code y_Reader_tollItem prog_10_method_5_code 1 ((Option.some FieldType.boolean)) :: lw_ok) { frames := 3, cells := 0, slots := 0, locals := 62 } (PcM D ty [.ref (rA 0)] sz (L_rg ty rA gA kA sR sG)) (QM D (L_rg ty rA gA kA tR tG) (va_A (L_rg ty rA gA kA sR sG) sz) (some (.int rr))) 0 0 (va_A (L_rg ty rA gA kA sR sG) sz) := by
  refine hdM (by decide) (Nat.le_of_ble_eq_true rfl) ?_
  intro p e s m below meth c ls R args Q A C0 hR hQ hnm hAq hP hK hD hS hl
  obtain ⟨hx, hb, hr, hlk, hml, hown, htt⟩ := id C0
  have hl : lv_has ls 1 [(0, .ref (rA 0))] := hl
  generalize hH0 : s.heap = H at hP hS ⊢
  have hS : va_S A s.heap H [] := by rw [hH0]; exact hS
  unfold f_Reader_tollItem at hf
  refine lv_aload_n hx hb d_Reader_tollItem_0 rfl (lv_at hl 0 rfl) ?_
  refine lv_bipush (v := (9 : Int32)) hx hb d_Reader_tollItem_1 (by decide) ?_
  obtain ⟨x1, sR2, h3, hf⟩ := bd2E hf
  refine vM (Lc := (L_r ty rA gA sR)) (Lc' := (L_r ty rA gA sR2)) (L' := (L_rg ty rA gA kA sR2 sG)) (q0 := 0) (ci := 7) (rest := []) C0 (c_Reader_number l D ty rA gA H.size sR (9 : Int32) x1 sR2 h3) k_359 cal_Reader_number hK hP hD hS hAq [0, 1] [2, 3, 4, 5, 6, 7, 8] [7, 8, 0, 1, 2, 3, 4, 5, 6] [(gA 0, .inr (6, [.ref (kA 0), .ref (gA 2), .ref (gA 3), .ref (gA 4), .ref (gA 5), .ref (gA 6), .ref (gA 7), .int (sG 7 0), .int (sG 8 0), .int (sG 9 0), .int (sG 10 0), .int (sG 11 0), .int (sG 12 0), .int (sG 13 0), .int (sG 14 0)])), (gA 2, .inl (ty 0, 2, .inl (sG 1))), (gA 3, .inl (ty 0, 2, .inl (sG 2))), (gA 4, .inl (ty 0, 6, .inl (sG 3))), (gA 5, .inl (ty 0, 6, .inl (sG 4))), (gA 6, .inl (ty 0, 30, .inl (sG 5))), (gA 7, .inl (ty 0, 32, .inl (sG 6)))] rfl rfl (by decide) (by decide) (by decide) (by decide) rfl rfl rfl rfl ⟨by rw [hR]; decide, by rw [hR]; decide⟩ rfl rfl rfl hl.1 rfl (Nat.le_of_ble_eq_true rfl) d_Reader_tollItem_3 ⟨by rw [hR]; decide, by rw [hR]; decide⟩ rfl (fun H locs hP hD hS => ?_)
  refine lv_if_ne (tgt := 11) hx hb d_Reader_tollItem_6 (by decide) (fun c4 => ?_) (fun c4 => ?_)
  · replace hf := iteF c4 hf
    refine lv_aload_n hx hb d_Reader_tollItem_11 rfl (lv_at hl 0 rfl) ?_
    refine va_get (D := D) (ci := 7) (v := .ref (gA 0)) (C := "BedFrontier$Reader") (T := T_Reader) (N := 7) hx hb htt i_Reader hown hK.1 hP 0 rfl rfl 0 (by decide) (htt _ k_160) (fun _ h9 => h9) rfl d_Reader_tollItem_12 ?_
    refine lv_aload_n hx hb d_Reader_tollItem_15 rfl (lv_at hl 0 rfl) ?_
    refine va_get (D := D) (ci := 7) (v := .int (sR2 6 0)) (C := "BedFrontier$Reader") (T := T_Reader) (N := 7) hx hb htt i_Reader hown hK.1 hP 0 rfl rfl 6 (by decide) (htt _ k_168) (fun _ h9 => h9) rfl d_Reader_tollItem_16 ?_
    refine va_put (D := D) (ci := 6) (v := .int (sR2 6 0)) (ty := .int) (C := "BedFrontier$House") (T := T_House) (N := 15) hx hb htt i_House t_House t_House_ok n_House hown hK.1 hP hD hS 2 rfl rfl 7 (by decide) (htt _ k_97) (fun _ h9 => h9) rfl pfI rfl rfl (Nat.le_of_ble_eq_true rfl) d_Reader_tollItem_19 (fun H locs hP hD hS => ?_)
    obtain ⟨sG5, e_sG5⟩ : ∃ z : PW, z = up sG 7 (fun _ => (sR2 6 0)) := ⟨_, rfl⟩
    replace hf := nmE hf e_sG5
    have hP : va_P D vwCl (L_rg ty rA gA kA sR2 sG5) H := by rw [e_sG5]; exact hP
    have hD : va_D A (L_rg ty rA gA kA sR2 sG5) := by rw [e_sG5]; exact hD
    refine lv_aload_n hx hb d_Reader_tollItem_22 rfl (lv_at hl 0 rfl) ?_
    obtain ⟨sR6, h7, hf⟩ := bdE hf
    refine vM (Lc := (L_r ty rA gA sR2)) (Lc' := (L_r ty rA gA sR6)) (L' := (L_rg ty rA gA kA sR6 sG5)) (q0 := 0) (ci := 7) (rest := []) C0 (c_Reader_step l D ty rA gA H.size sR2 sR6 h7) k_287 cal_Reader_step hK hP hD hS hAq [0, 1] [2, 3, 4, 5, 6, 7, 8] [7, 8, 0, 1, 2, 3, 4, 5, 6] [(gA 0, .inr (6, [.ref (kA 0), .ref (gA 2), .ref (gA 3), .ref (gA 4), .ref (gA 5), .ref (gA 6), .ref (gA 7), .int (sG5 7 0), .int (sG5 8 0), .int (sG5 9 0), .int (sG5 10 0), .int (sG5 11 0), .int (sG5 12 0), .int (sG5 13 0), .int (sG5 14 0)])), (gA 2, .inl (ty 0, 2, .inl (sG5 1))), (gA 3, .inl (ty 0, 2, .inl (sG5 2))), (gA 4, .inl (ty 0, 6, .inl (sG5 3))), (gA 5, .inl (ty 0, 6, .inl (sG5 4))), (gA 6, .inl (ty 0, 30, .inl (sG5 5))), (gA 7, .inl (ty 0, 32, .inl (sG5 6)))] rfl rfl (by decide) (by decide) (by decide) (by decide) rfl rfl rfl rfl ⟨by rw [hR]; decide, by rw [hR]; decide⟩ rfl rfl rfl hl.1 rfl (Nat.le_of_ble_eq_true rfl) d_Reader_tollItem_23 ⟨by rw [hR]; decide, by rw [hR]; decide⟩ rfl (fun H locs hP hD hS => ?_)
    refine lv_iconst (v := (1 : Int32)) hx hb d_Reader_tollItem_26 (by decide) ?_
    obtain ⟨rfl, rfl, rfl⟩ := sj3 hf
    exact retM C0 rfl hQ hP hD hS d_Reader_tollItem_27
  · replace hf := iteT c4 hf
    refine lv_iconst (v := (0 : Int32)) hx hb d_Reader_tollItem_9 (by decide) ?_
    obtain ⟨rfl, rfl, rfl⟩ := sj3 hf
    exact retM C0 rfl hQ hP hD hS d_Reader_tollItem_10
def f_Reader_rateItem (sR : PW) (sG : PW) : Option (Int32 × PW × PW) :=
  bd2 (f_Reader_number sR (1 : Int32)) (fun x1 sR2 => (if x1 = 0 then some ((0 : Int32), sR2, sG) else nm (sR2 6 0) (fun x5 => bd2 (f_Reader_number sR2 (9 : Int32)) (fun x6 sR7 => (if x6 = 0 then some ((0 : Int32), sR7, sG) else gd (okI x5 2) (nm (up sG 1 (upd (sG 1) ((x5).toNatClampNeg) (sR7 6 0))) (fun sG11 => bd (f_Reader_step sR7) (fun sR12 => some ((1 : Int32), sR12, sG11)))))))))
set_option maxHeartbeats 4000000 in
set_option maxRecDepth 100000 in
theorem c_Reader_rateItem (l : Launch) (D : va_G) (ty : Nat → ClassId) (rA gA kA : Nat → Nat) (sz : Nat) (sR : PW) (sG : PW) (rr : Int32) (tR : PW) (tG : PW) (hf : f_Reader_rateItem sR sG = some (rr, tR, tG)) : Met l y_Reader_rateItem (Cond.code y_Reader_rateItem prog_10_method_6_code 2 ((Option.some FieldType.boolean)) :: lw_ok) { frames := 3, cells := 0, slots := 0, locals := 62 } (PcM D ty [.ref (rA 0)] sz (L_rg ty rA gA kA sR sG)) (QM D (L_rg ty rA gA kA tR tG) (va_A (L_rg ty rA gA kA sR sG) sz) (some (.int rr))) 0 0 (va_A (L_rg ty rA gA kA sR sG) sz) := by
  refine hdM (by decide) (Nat.le_of_ble_eq_true rfl) ?_
  intro p e s m below meth c ls R args Q A C0 hR hQ hnm hAq hP hK hD hS hl
  obtain ⟨hx, hb, hr, hlk, hml, hown, htt⟩ := id C0
  have hl : lv_has ls 2 [(0, .ref (rA 0))] := hl
  generalize hH0 : s.heap = H at hP hS ⊢
  have hS : va_S A s.heap H [] := by rw [hH0]; exact hS
  unfold f_Reader_rateItem at hf
  refine lv_aload_n hx hb d_Reader_rateItem_0 rfl (lv_at hl 0 rfl) ?_
  refine lv_iconst (v := (1 : Int32)) hx hb d_Reader_rateItem_1 (by decide) ?_
  obtain ⟨x1, sR2, h3, hf⟩ := bd2E hf
  refine vM (Lc := (L_r ty rA gA sR)) (Lc' := (L_r ty rA gA sR2)) (L' := (L_rg ty rA gA kA sR2 sG)) (q0 := 0) (ci := 7) (rest := []) C0 (c_Reader_number l D ty rA gA H.size sR (1 : Int32) x1 sR2 h3) k_359 cal_Reader_number hK hP hD hS hAq [0, 1] [2, 3, 4, 5, 6, 7, 8] [7, 8, 0, 1, 2, 3, 4, 5, 6] [(gA 0, .inr (6, [.ref (kA 0), .ref (gA 2), .ref (gA 3), .ref (gA 4), .ref (gA 5), .ref (gA 6), .ref (gA 7), .int (sG 7 0), .int (sG 8 0), .int (sG 9 0), .int (sG 10 0), .int (sG 11 0), .int (sG 12 0), .int (sG 13 0), .int (sG 14 0)])), (gA 2, .inl (ty 0, 2, .inl (sG 1))), (gA 3, .inl (ty 0, 2, .inl (sG 2))), (gA 4, .inl (ty 0, 6, .inl (sG 3))), (gA 5, .inl (ty 0, 6, .inl (sG 4))), (gA 6, .inl (ty 0, 30, .inl (sG 5))), (gA 7, .inl (ty 0, 32, .inl (sG 6)))] rfl rfl (by decide) (by decide) (by decide) (by decide) rfl rfl rfl rfl ⟨by rw [hR]; decide, by rw [hR]; decide⟩ rfl rfl rfl hl.1 rfl (Nat.le_of_ble_eq_true rfl) d_Reader_rateItem_2 ⟨by rw [hR]; decide, by rw [hR]; decide⟩ rfl (fun H locs hP hD hS => ?_)
  refine lv_if_ne (tgt := 10) hx hb d_Reader_rateItem_5 (by decide) (fun c4 => ?_) (fun c4 => ?_)
  · replace hf := iteF c4 hf
    refine lv_aload_n hx hb d_Reader_rateItem_10 rfl (lv_at hl 0 rfl) ?_
    refine va_get (D := D) (ci := 7) (v := .int (sR2 6 0)) (C := "BedFrontier$Reader") (T := T_Reader) (N := 7) hx hb htt i_Reader hown hK.1 hP 0 rfl rfl 6 (by decide) (htt _ k_168) (fun _ h9 => h9) rfl d_Reader_rateItem_11 ?_
    refine lv_topi (fun x5 e_x5 => ?_)
    replace hf := nmE hf e_x5
    refine lv_istore_n (lv' := [(1, .int x5), (0, .ref (rA 0))]) hx hb d_Reader_rateItem_14 rfl hl (by decide) rfl (fun ls hl => ?_)
    refine lv_aload_n hx hb d_Reader_rateItem_15 rfl (lv_at hl 1 rfl) ?_
    refine lv_bipush (v := (9 : Int32)) hx hb d_Reader_rateItem_16 (by decide) ?_
    obtain ⟨x6, sR7, h8, hf⟩ := bd2E hf
    refine vM (Lc := (L_r ty rA gA sR2)) (Lc' := (L_r ty rA gA sR7)) (L' := (L_rg ty rA gA kA sR7 sG)) (q0 := 0) (ci := 7) (rest := []) C0 (c_Reader_number l D ty rA gA H.size sR2 (9 : Int32) x6 sR7 h8) k_359 cal_Reader_number hK hP hD hS hAq [0, 1] [2, 3, 4, 5, 6, 7, 8] [7, 8, 0, 1, 2, 3, 4, 5, 6] [(gA 0, .inr (6, [.ref (kA 0), .ref (gA 2), .ref (gA 3), .ref (gA 4), .ref (gA 5), .ref (gA 6), .ref (gA 7), .int (sG 7 0), .int (sG 8 0), .int (sG 9 0), .int (sG 10 0), .int (sG 11 0), .int (sG 12 0), .int (sG 13 0), .int (sG 14 0)])), (gA 2, .inl (ty 0, 2, .inl (sG 1))), (gA 3, .inl (ty 0, 2, .inl (sG 2))), (gA 4, .inl (ty 0, 6, .inl (sG 3))), (gA 5, .inl (ty 0, 6, .inl (sG 4))), (gA 6, .inl (ty 0, 30, .inl (sG 5))), (gA 7, .inl (ty 0, 32, .inl (sG 6)))] rfl rfl (by decide) (by decide) (by decide) (by decide) rfl rfl rfl rfl ⟨by rw [hR]; decide, by rw [hR]; decide⟩ rfl rfl rfl hl.1 rfl (Nat.le_of_ble_eq_true rfl) d_Reader_rateItem_18 ⟨by rw [hR]; decide, by rw [hR]; decide⟩ rfl (fun H locs hP hD hS => ?_)
    refine lv_if_ne (tgt := 26) hx hb d_Reader_rateItem_21 (by decide) (fun c9 => ?_) (fun c9 => ?_)
    · replace hf := iteF c9 hf
      refine lv_aload_n hx hb d_Reader_rateItem_26 rfl (lv_at hl 1 rfl) ?_
      refine va_get (D := D) (ci := 7) (v := .ref (gA 0)) (C := "BedFrontier$Reader") (T := T_Reader) (N := 7) hx hb htt i_Reader hown hK.1 hP 0 rfl rfl 0 (by decide) (htt _ k_160) (fun _ h9 => h9) rfl d_Reader_rateItem_27 ?_
      refine va_get (D := D) (ci := 6) (v := .ref (gA 2)) (C := "BedFrontier$House") (T := T_House) (N := 15) hx hb htt i_House hown hK.1 hP 2 rfl rfl 1 (by decide) (htt _ k_84) (fun _ h9 => h9) rfl d_Reader_rateItem_30 ?_
      refine lv_iload_n hx hb d_Reader_rateItem_33 rfl (lv_at hl 0 rfl) ?_
      refine lv_aload_n hx hb d_Reader_rateItem_34 rfl (lv_at hl 1 rfl) ?_
      refine va_get (D := D) (ci := 7) (v := .int (sR7 6 0)) (C := "BedFrontier$Reader") (T := T_Reader) (N := 7) hx hb htt i_Reader hown hK.1 hP 0 rfl rfl 6 (by decide) (htt _ k_168) (fun _ h9 => h9) rfl d_Reader_rateItem_35 ?_
      obtain ⟨g10, hf⟩ := gdE hf
      refine va_iast hx hb hK.1 hP hD hS 3 0 rfl rfl (okI_in g10) d_Reader_rateItem_38 (fun H locs hP hD hS => ?_)
      obtain ⟨sG11, e_sG11⟩ : ∃ z : PW, z = up sG 1 (upd (sG 1) ((x5).toNatClampNeg) (sR7 6 0)) := ⟨_, rfl⟩
      replace hf := nmE hf e_sG11
      have hP : va_P D vwCl (L_rg ty rA gA kA sR7 sG11) H := by rw [e_sG11]; exact hP
      have hD : va_D A (L_rg ty rA gA kA sR7 sG11) := by rw [e_sG11]; exact hD
      refine lv_aload_n hx hb d_Reader_rateItem_39 rfl (lv_at hl 1 rfl) ?_
      obtain ⟨sR12, h13, hf⟩ := bdE hf
      refine vM (Lc := (L_r ty rA gA sR7)) (Lc' := (L_r ty rA gA sR12)) (L' := (L_rg ty rA gA kA sR12 sG11)) (q0 := 0) (ci := 7) (rest := []) C0 (c_Reader_step l D ty rA gA H.size sR7 sR12 h13) k_287 cal_Reader_step hK hP hD hS hAq [0, 1] [2, 3, 4, 5, 6, 7, 8] [7, 8, 0, 1, 2, 3, 4, 5, 6] [(gA 0, .inr (6, [.ref (kA 0), .ref (gA 2), .ref (gA 3), .ref (gA 4), .ref (gA 5), .ref (gA 6), .ref (gA 7), .int (sG11 7 0), .int (sG11 8 0), .int (sG11 9 0), .int (sG11 10 0), .int (sG11 11 0), .int (sG11 12 0), .int (sG11 13 0), .int (sG11 14 0)])), (gA 2, .inl (ty 0, 2, .inl (sG11 1))), (gA 3, .inl (ty 0, 2, .inl (sG11 2))), (gA 4, .inl (ty 0, 6, .inl (sG11 3))), (gA 5, .inl (ty 0, 6, .inl (sG11 4))), (gA 6, .inl (ty 0, 30, .inl (sG11 5))), (gA 7, .inl (ty 0, 32, .inl (sG11 6)))] rfl rfl (by decide) (by decide) (by decide) (by decide) rfl rfl rfl rfl ⟨by rw [hR]; decide, by rw [hR]; decide⟩ rfl rfl rfl hl.1 rfl (Nat.le_of_ble_eq_true rfl) d_Reader_rateItem_40 ⟨by rw [hR]; decide, by rw [hR]; decide⟩ rfl (fun H locs hP hD hS => ?_)
      refine lv_iconst (v := (1 : Int32)) hx hb d_Reader_rateItem_43 (by decide) ?_
      obtain ⟨rfl, rfl, rfl⟩ := sj3 hf
      exact retM C0 rfl hQ hP hD hS d_Reader_rateItem_44
    · replace hf := iteT c9 hf
      refine lv_iconst (v := (0 : Int32)) hx hb d_Reader_rateItem_24 (by decide) ?_
      obtain ⟨rfl, rfl, rfl⟩ := sj3 hf
      exact retM C0 rfl hQ hP hD hS d_Reader_rateItem_25
  · replace hf := iteT c4 hf
    refine lv_iconst (v := (0 : Int32)) hx hb d_Reader_rateItem_8 (by decide) ?_
    obtain ⟨rfl, rfl, rfl⟩ := sj3 hf
    exact retM C0 rfl hQ hP hD hS d_Reader_rateItem_9
def f_Reader_barItem_L23 (sG : PW) (x5 : Int32) (K23 : Int32 × Int32 × PW → Option (Int32 × PW × PW)) : Int32 × Int32 × PW → Option (Int32 × PW × PW)
  | (x8, x9, sR10) =>
  (if (150 : Int32) ≤ x9 then gd (okI x5 2) (nm (up sG 2 (upd (sG 2) ((x5).toNatClampNeg) x8)) (fun sG13 => some ((1 : Int32), sR10, sG13))) else (if (sR10 3 0) = (1 : Int32) then bd (f_Face_within (sR10 6 0) (23 : Int32)) (fun x17 => (if x17 = 0 then some ((0 : Int32), sR10, sG) else nm (x8 ||| ((1 : Int32) <<< ((sR10 6 0) &&& 31))) (fun x20 => bd (f_Reader_step sR10) (fun sR21 => nm (x9 + (1 : Int32)) (fun x23 => K23 (x20, x23, sR21)))))) else gd (okI x5 2) (nm (up sG 2 (upd (sG 2) ((x5).toNatClampNeg) x8)) (fun sG16 => some ((1 : Int32), sR10, sG16)))))
def f_Reader_barItem (sR : PW) (sG : PW) : Option (Int32 × PW × PW) :=
  bd2 (f_Reader_number sR (1 : Int32)) (fun x1 sR2 => (if x1 = 0 then some ((0 : Int32), sR2, sG) else nm (sR2 6 0) (fun x5 => bd (f_Reader_step sR2) (fun sR6 => loopF (f_Reader_barItem_L23 sG x5) 4000 ((0 : Int32), (0 : Int32), sR6)))))
set_option maxHeartbeats 4000000 in
set_option maxRecDepth 100000 in
theorem c_Reader_barItem (l : Launch) (D : va_G) (ty : Nat → ClassId) (rA gA kA : Nat → Nat) (sz : Nat) (sR : PW) (sG : PW) (rr : Int32) (tR : PW) (tG : PW) (hf : f_Reader_barItem sR sG = some (rr, tR, tG)) : Met l y_Reader_barItem (Cond.code y_Reader_barItem prog_10_method_7_code 4 ((Option.some FieldType.boolean)) :: lw_ok) { frames := 3, cells := 0, slots := 0, locals := 62 } (PcM D ty [.ref (rA 0)] sz (L_rg ty rA gA kA sR sG)) (QM D (L_rg ty rA gA kA tR tG) (va_A (L_rg ty rA gA kA sR sG) sz) (some (.int rr))) 0 0 (va_A (L_rg ty rA gA kA sR sG) sz) := by
  refine hdM (by decide) (Nat.le_of_ble_eq_true rfl) ?_
  intro p e s m below meth c ls R args Q A C0 hR hQ hnm hAq hP hK hD hS hl
  obtain ⟨hx, hb, hr, hlk, hml, hown, htt⟩ := id C0
  have hl : lv_has ls 4 [(0, .ref (rA 0))] := hl
  generalize hH0 : s.heap = H at hP hS ⊢
  have hS : va_S A s.heap H [] := by rw [hH0]; exact hS
  unfold f_Reader_barItem at hf
  refine lv_aload_n hx hb d_Reader_barItem_0 rfl (lv_at hl 0 rfl) ?_
  refine lv_iconst (v := (1 : Int32)) hx hb d_Reader_barItem_1 (by decide) ?_
  obtain ⟨x1, sR2, h3, hf⟩ := bd2E hf
  refine vM (Lc := (L_r ty rA gA sR)) (Lc' := (L_r ty rA gA sR2)) (L' := (L_rg ty rA gA kA sR2 sG)) (q0 := 0) (ci := 7) (rest := []) C0 (c_Reader_number l D ty rA gA H.size sR (1 : Int32) x1 sR2 h3) k_359 cal_Reader_number hK hP hD hS hAq [0, 1] [2, 3, 4, 5, 6, 7, 8] [7, 8, 0, 1, 2, 3, 4, 5, 6] [(gA 0, .inr (6, [.ref (kA 0), .ref (gA 2), .ref (gA 3), .ref (gA 4), .ref (gA 5), .ref (gA 6), .ref (gA 7), .int (sG 7 0), .int (sG 8 0), .int (sG 9 0), .int (sG 10 0), .int (sG 11 0), .int (sG 12 0), .int (sG 13 0), .int (sG 14 0)])), (gA 2, .inl (ty 0, 2, .inl (sG 1))), (gA 3, .inl (ty 0, 2, .inl (sG 2))), (gA 4, .inl (ty 0, 6, .inl (sG 3))), (gA 5, .inl (ty 0, 6, .inl (sG 4))), (gA 6, .inl (ty 0, 30, .inl (sG 5))), (gA 7, .inl (ty 0, 32, .inl (sG 6)))] rfl rfl (by decide) (by decide) (by decide) (by decide) rfl rfl rfl rfl ⟨by rw [hR]; decide, by rw [hR]; decide⟩ rfl rfl rfl hl.1 rfl (Nat.le_of_ble_eq_true rfl) d_Reader_barItem_2 ⟨by rw [hR]; decide, by rw [hR]; decide⟩ rfl (fun H locs hP hD hS => ?_)
  refine lv_if_ne (tgt := 10) hx hb d_Reader_barItem_5 (by decide) (fun c4 => ?_) (fun c4 => ?_)
  · replace hf := iteF c4 hf
    refine lv_aload_n hx hb d_Reader_barItem_10 rfl (lv_at hl 0 rfl) ?_
    refine va_get (D := D) (ci := 7) (v := .int (sR2 6 0)) (C := "BedFrontier$Reader") (T := T_Reader) (N := 7) hx hb htt i_Reader hown hK.1 hP 0 rfl rfl 6 (by decide) (htt _ k_168) (fun _ h9 => h9) rfl d_Reader_barItem_11 ?_
    refine lv_topi (fun x5 e_x5 => ?_)
    replace hf := nmE hf e_x5
    refine lv_istore_n (lv' := [(1, .int x5), (0, .ref (rA 0))]) hx hb d_Reader_barItem_14 rfl hl (by decide) rfl (fun ls hl => ?_)
    refine lv_iconst (v := (0 : Int32)) hx hb d_Reader_barItem_15 (by decide) ?_
    refine lv_istore_n (lv' := [(2, .int (0 : Int32)), (1, .int x5), (0, .ref (rA 0))]) hx hb d_Reader_barItem_16 rfl hl (by decide) rfl (fun ls hl => ?_)
    refine lv_aload_n hx hb d_Reader_barItem_17 rfl (lv_at hl 2 rfl) ?_
    obtain ⟨sR6, h7, hf⟩ := bdE hf
    refine vM (Lc := (L_r ty rA gA sR2)) (Lc' := (L_r ty rA gA sR6)) (L' := (L_rg ty rA gA kA sR6 sG)) (q0 := 0) (ci := 7) (rest := []) C0 (c_Reader_step l D ty rA gA H.size sR2 sR6 h7) k_287 cal_Reader_step hK hP hD hS hAq [0, 1] [2, 3, 4, 5, 6, 7, 8] [7, 8, 0, 1, 2, 3, 4, 5, 6] [(gA 0, .inr (6, [.ref (kA 0), .ref (gA 2), .ref (gA 3), .ref (gA 4), .ref (gA 5), .ref (gA 6), .ref (gA 7), .int (sG 7 0), .int (sG 8 0), .int (sG 9 0), .int (sG 10 0), .int (sG 11 0), .int (sG 12 0), .int (sG 13 0), .int (sG 14 0)])), (gA 2, .inl (ty 0, 2, .inl (sG 1))), (gA 3, .inl (ty 0, 2, .inl (sG 2))), (gA 4, .inl (ty 0, 6, .inl (sG 3))), (gA 5, .inl (ty 0, 6, .inl (sG 4))), (gA 6, .inl (ty 0, 30, .inl (sG 5))), (gA 7, .inl (ty 0, 32, .inl (sG 6)))] rfl rfl (by decide) (by decide) (by decide) (by decide) rfl rfl rfl rfl ⟨by rw [hR]; decide, by rw [hR]; decide⟩ rfl rfl rfl hl.1 rfl (Nat.le_of_ble_eq_true rfl) d_Reader_barItem_18 ⟨by rw [hR]; decide, by rw [hR]; decide⟩ rfl (fun H locs hP hD hS => ?_)
    refine lv_iconst (v := (0 : Int32)) hx hb d_Reader_barItem_21 (by decide) ?_
    refine lv_istore_n (lv' := [(3, .int (0 : Int32)), (2, .int (0 : Int32)), (1, .int x5), (0, .ref (rA 0))]) hx hb d_Reader_barItem_22 rfl hl (by decide) rfl (fun ls hl => ?_)
    have B23 : ∀ (n : Nat) (x : Int32 × Int32 × PW), loopF (f_Reader_barItem_L23 sG x5) n x = some (rr, tR, tG) → ∀ (H : Heap) (locs : List Loc) (ls : Array Slot), va_P D vwCl (L_rg ty rA gA kA (x.2.2) sG) H → va_D A (L_rg ty rA gA kA (x.2.2) sG) → va_S A s.heap H locs → lv_has ls 4 [(0, .ref (rA 0)), (1, .int x5), (2, .int (x.1)), (3, .int (x.2.1))] → W p l e R s m args below meth c H locs 0 0 Q (F0 m 23 ls []) := by
      refine loopW (fun (x : Int32 × Int32 × PW) => ∀ (H : Heap) (locs : List Loc) (ls : Array Slot), va_P D vwCl (L_rg ty rA gA kA (x.2.2) sG) H → va_D A (L_rg ty rA gA kA (x.2.2) sG) → va_S A s.heap H locs → lv_has ls 4 [(0, .ref (rA 0)), (1, .int x5), (2, .int (x.1)), (3, .int (x.2.1))] → W p l e R s m args below meth c H locs 0 0 Q (F0 m 23 ls [])) ?_
      intro K23 hK23 x hf
      obtain ⟨x8, x9, sR10⟩ := x
      rw [f_Reader_barItem_L23] at hf
      intro H locs ls hP hD hS hl
      have hl : lv_has ls 4 [(0, .ref (rA 0)), (1, .int x5), (2, .int x8), (3, .int x9)] := hl
      have hP : va_P D vwCl (L_rg ty rA gA kA sR10 sG) H := hP
      have hD : va_D A (L_rg ty rA gA kA sR10 sG) := hD
      show W p l e R s m args below meth c H locs 0 0 Q (F0 m 23 ls [])
      refine lv_iload_n hx hb d_Reader_barItem_23 rfl (lv_at hl 3 rfl) ?_
      refine lv_sipush (v := (150 : Int32)) hx hb d_Reader_barItem_24 (by decide) ?_
      refine lv_icmp_ge (tgt := 71) hx hb d_Reader_barItem_27 (by decide) (fun c11 => ?_) (fun c11 => ?_)
      · replace hf := iteT c11 hf
        refine lv_aload_n hx hb d_Reader_barItem_71 rfl (lv_at hl 0 rfl) ?_
        refine va_get (D := D) (ci := 7) (v := .ref (gA 0)) (C := "BedFrontier$Reader") (T := T_Reader) (N := 7) hx hb htt i_Reader hown hK.1 hP 0 rfl rfl 0 (by decide) (htt _ k_160) (fun _ h9 => h9) rfl d_Reader_barItem_72 ?_
        refine va_get (D := D) (ci := 6) (v := .ref (gA 3)) (C := "BedFrontier$House") (T := T_House) (N := 15) hx hb htt i_House hown hK.1 hP 2 rfl rfl 2 (by decide) (htt _ k_87) (fun _ h9 => h9) rfl d_Reader_barItem_75 ?_
        refine lv_iload_n hx hb d_Reader_barItem_78 rfl (lv_at hl 1 rfl) ?_
        refine lv_iload_n hx hb d_Reader_barItem_79 rfl (lv_at hl 2 rfl) ?_
        obtain ⟨g12, hf⟩ := gdE hf
        refine va_iast hx hb hK.1 hP hD hS 4 0 rfl rfl (okI_in g12) d_Reader_barItem_80 (fun H locs hP hD hS => ?_)
        obtain ⟨sG13, e_sG13⟩ : ∃ z : PW, z = up sG 2 (upd (sG 2) ((x5).toNatClampNeg) x8) := ⟨_, rfl⟩
        replace hf := nmE hf e_sG13
        have hP : va_P D vwCl (L_rg ty rA gA kA sR10 sG13) H := by rw [e_sG13]; exact hP
        have hD : va_D A (L_rg ty rA gA kA sR10 sG13) := by rw [e_sG13]; exact hD
        refine lv_iconst (v := (1 : Int32)) hx hb d_Reader_barItem_81 (by decide) ?_
        obtain ⟨rfl, rfl, rfl⟩ := sj3 hf
        exact retM C0 rfl hQ hP hD hS d_Reader_barItem_82
      · replace hf := iteF c11 hf
        refine lv_aload_n hx hb d_Reader_barItem_30 rfl (lv_at hl 0 rfl) ?_
        refine va_get (D := D) (ci := 7) (v := .int (sR10 3 0)) (C := "BedFrontier$Reader") (T := T_Reader) (N := 7) hx hb htt i_Reader hown hK.1 hP 0 rfl rfl 3 (by decide) (htt _ k_165) (fun _ h9 => h9) rfl d_Reader_barItem_31 ?_
        refine lv_iconst (v := (1 : Int32)) hx hb d_Reader_barItem_34 (by decide) ?_
        refine lv_icmp_ne (tgt := 71) hx hb d_Reader_barItem_35 (by decide) (fun c14 => ?_) (fun c14 => ?_)
        · replace hf := iteF c14 hf
          refine lv_aload_n hx hb d_Reader_barItem_71 rfl (lv_at hl 0 rfl) ?_
          refine va_get (D := D) (ci := 7) (v := .ref (gA 0)) (C := "BedFrontier$Reader") (T := T_Reader) (N := 7) hx hb htt i_Reader hown hK.1 hP 0 rfl rfl 0 (by decide) (htt _ k_160) (fun _ h9 => h9) rfl d_Reader_barItem_72 ?_
          refine va_get (D := D) (ci := 6) (v := .ref (gA 3)) (C := "BedFrontier$House") (T := T_House) (N := 15) hx hb htt i_House hown hK.1 hP 2 rfl rfl 2 (by decide) (htt _ k_87) (fun _ h9 => h9) rfl d_Reader_barItem_75 ?_
          refine lv_iload_n hx hb d_Reader_barItem_78 rfl (lv_at hl 1 rfl) ?_
          refine lv_iload_n hx hb d_Reader_barItem_79 rfl (lv_at hl 2 rfl) ?_
          obtain ⟨g15, hf⟩ := gdE hf
          refine va_iast hx hb hK.1 hP hD hS 4 0 rfl rfl (okI_in g15) d_Reader_barItem_80 (fun H locs hP hD hS => ?_)
          obtain ⟨sG16, e_sG16⟩ : ∃ z : PW, z = up sG 2 (upd (sG 2) ((x5).toNatClampNeg) x8) := ⟨_, rfl⟩
          replace hf := nmE hf e_sG16
          have hP : va_P D vwCl (L_rg ty rA gA kA sR10 sG16) H := by rw [e_sG16]; exact hP
          have hD : va_D A (L_rg ty rA gA kA sR10 sG16) := by rw [e_sG16]; exact hD
          refine lv_iconst (v := (1 : Int32)) hx hb d_Reader_barItem_81 (by decide) ?_
          obtain ⟨rfl, rfl, rfl⟩ := sj3 hf
          exact retM C0 rfl hQ hP hD hS d_Reader_barItem_82
        · replace hf := iteT c14 hf
          refine lv_aload_n hx hb d_Reader_barItem_38 rfl (lv_at hl 0 rfl) ?_
          refine va_get (D := D) (ci := 7) (v := .int (sR10 6 0)) (C := "BedFrontier$Reader") (T := T_Reader) (N := 7) hx hb htt i_Reader hown hK.1 hP 0 rfl rfl 6 (by decide) (htt _ k_168) (fun _ h9 => h9) rfl d_Reader_barItem_39 ?_
          refine lv_bipush (v := (23 : Int32)) hx hb d_Reader_barItem_42 (by decide) ?_
          obtain ⟨x17, h18, hf⟩ := bdE hf
          refine snR (host := "BedFrontier") (rest := []) C0 (c_Face_within l D ty (sR10 6 0) (23 : Int32) x17 h18) (by decide) cal_Face_within hK (va_P_nil) ⟨by rw [hR]; decide, by rw [hR]; decide⟩ rfl rfl rfl hl.1 rfl (Nat.le_of_ble_eq_true rfl) d_Reader_barItem_44 ⟨Nat.zero_le _, Nat.zero_le _⟩ rfl ?_
          refine lv_if_ne (tgt := 52) hx hb d_Reader_barItem_47 (by decide) (fun c19 => ?_) (fun c19 => ?_)
          · replace hf := iteF c19 hf
            refine lv_iload_n hx hb d_Reader_barItem_52 rfl (lv_at hl 2 rfl) ?_
            refine lv_iconst (v := (1 : Int32)) hx hb d_Reader_barItem_53 (by decide) ?_
            refine lv_aload_n hx hb d_Reader_barItem_54 rfl (lv_at hl 0 rfl) ?_
            refine va_get (D := D) (ci := 7) (v := .int (sR10 6 0)) (C := "BedFrontier$Reader") (T := T_Reader) (N := 7) hx hb htt i_Reader hown hK.1 hP 0 rfl rfl 6 (by decide) (htt _ k_168) (fun _ h9 => h9) rfl d_Reader_barItem_55 ?_
            refine lv_ishl hx hb d_Reader_barItem_58 ?_
            refine lv_ior hx hb d_Reader_barItem_59 ?_
            refine lv_topi (fun x20 e_x20 => ?_)
            replace hf := nmE hf e_x20
            refine lv_istore_n (lv' := [(2, .int x20), (0, .ref (rA 0)), (1, .int x5), (3, .int x9)]) hx hb d_Reader_barItem_60 rfl hl (by decide) rfl (fun ls hl => ?_)
            refine lv_aload_n hx hb d_Reader_barItem_61 rfl (lv_at hl 1 rfl) ?_
            obtain ⟨sR21, h22, hf⟩ := bdE hf
            refine vM (Lc := (L_r ty rA gA sR10)) (Lc' := (L_r ty rA gA sR21)) (L' := (L_rg ty rA gA kA sR21 sG)) (q0 := 0) (ci := 7) (rest := []) C0 (c_Reader_step l D ty rA gA H.size sR10 sR21 h22) k_287 cal_Reader_step hK hP hD hS hAq [0, 1] [2, 3, 4, 5, 6, 7, 8] [7, 8, 0, 1, 2, 3, 4, 5, 6] [(gA 0, .inr (6, [.ref (kA 0), .ref (gA 2), .ref (gA 3), .ref (gA 4), .ref (gA 5), .ref (gA 6), .ref (gA 7), .int (sG 7 0), .int (sG 8 0), .int (sG 9 0), .int (sG 10 0), .int (sG 11 0), .int (sG 12 0), .int (sG 13 0), .int (sG 14 0)])), (gA 2, .inl (ty 0, 2, .inl (sG 1))), (gA 3, .inl (ty 0, 2, .inl (sG 2))), (gA 4, .inl (ty 0, 6, .inl (sG 3))), (gA 5, .inl (ty 0, 6, .inl (sG 4))), (gA 6, .inl (ty 0, 30, .inl (sG 5))), (gA 7, .inl (ty 0, 32, .inl (sG 6)))] rfl rfl (by decide) (by decide) (by decide) (by decide) rfl rfl rfl rfl ⟨by rw [hR]; decide, by rw [hR]; decide⟩ rfl rfl rfl hl.1 rfl (Nat.le_of_ble_eq_true rfl) d_Reader_barItem_62 ⟨by rw [hR]; decide, by rw [hR]; decide⟩ rfl (fun H locs hP hD hS => ?_)
            obtain ⟨x23, e_x23⟩ : ∃ z : Int32, z = (x9 + (1 : Int32)) := ⟨_, rfl⟩
            replace hf := nmE hf e_x23
            refine lv_iinc (v := x23) (lv' := [(3, .int x23), (2, .int x20), (0, .ref (rA 0)), (1, .int x5)]) hx hb d_Reader_barItem_65 hl (k := 3) rfl (by rw [e_x23]; rfl) (by decide) rfl (fun ls hl => ?_)
            refine lv_goto (tgt := 23) hx hb d_Reader_barItem_68 (by decide) ?_
            exact hK23 (x20, x23, sR21) hf _ _ ls hP hD hS (lv_sub hl [2, 3, 1, 0] rfl)
          · replace hf := iteT c19 hf
            refine lv_iconst (v := (0 : Int32)) hx hb d_Reader_barItem_50 (by decide) ?_
            obtain ⟨rfl, rfl, rfl⟩ := sj3 hf
            exact retM C0 rfl hQ hP hD hS d_Reader_barItem_51
    exact B23 4000 ((0 : Int32), (0 : Int32), sR6) hf _ _ ls hP hD hS (lv_sub hl [3, 2, 1, 0] rfl)
  · replace hf := iteT c4 hf
    refine lv_iconst (v := (0 : Int32)) hx hb d_Reader_barItem_8 (by decide) ?_
    obtain ⟨rfl, rfl, rfl⟩ := sj3 hf
    exact retM C0 rfl hQ hP hD hS d_Reader_barItem_9
def f_Reader_doingItem (sR : PW) (sG : PW) : Option (Int32 × PW × PW) :=
  (if (6 : Int32) ≤ (sG 12 0) then some ((0 : Int32), sR, sG) else bd2 (f_Reader_number sR (5 : Int32)) (fun x2 sR3 => (if x2 = 0 then some ((0 : Int32), sR3, sG) else nm (sR3 6 0) (fun x6 => bd2 (f_Reader_number sR3 (20 : Int32)) (fun x7 sR8 => (if x7 = 0 then some ((0 : Int32), sR8, sG) else bd2 (f_House_addDoing sG x6 (sR8 6 0)) (fun x11 sH12 => bd (f_Reader_step sR8) (fun sR14 => some ((1 : Int32), sR14, sH12)))))))))
set_option maxHeartbeats 4000000 in
set_option maxRecDepth 100000 in
theorem c_Reader_doingItem (l : Launch) (D : va_G) (ty : Nat → ClassId) (rA gA kA : Nat → Nat) (sz : Nat) (sR : PW) (sG : PW) (rr : Int32) (tR : PW) (tG : PW) (hf : f_Reader_doingItem sR sG = some (rr, tR, tG)) : Met l y_Reader_doingItem (Cond.code y_Reader_doingItem prog_10_method_8_code 2 ((Option.some FieldType.boolean)) :: lw_ok) { frames := 3, cells := 0, slots := 0, locals := 62 } (PcM D ty [.ref (rA 0)] sz (L_rg ty rA gA kA sR sG)) (QM D (L_rg ty rA gA kA tR tG) (va_A (L_rg ty rA gA kA sR sG) sz) (some (.int rr))) 0 0 (va_A (L_rg ty rA gA kA sR sG) sz) := by
  refine hdM (by decide) (Nat.le_of_ble_eq_true rfl) ?_
  intro p e s m below meth c ls R args Q A C0 hR hQ hnm hAq hP hK hD hS hl
  obtain ⟨hx, hb, hr, hlk, hml, hown, htt⟩ := id C0
  have hl : lv_has ls 2 [(0, .ref (rA 0))] := hl
  generalize hH0 : s.heap = H at hP hS ⊢
  have hS : va_S A s.heap H [] := by rw [hH0]; exact hS
  unfold f_Reader_doingItem at hf
  refine lv_aload_n hx hb d_Reader_doingItem_0 rfl (lv_at hl 0 rfl) ?_
  refine va_get (D := D) (ci := 7) (v := .ref (gA 0)) (C := "BedFrontier$Reader") (T := T_Reader) (N := 7) hx hb htt i_Reader hown hK.1 hP 0 rfl rfl 0 (by decide) (htt _ k_160) (fun _ h9 => h9) rfl d_Reader_doingItem_1 ?_
  refine va_get (D := D) (ci := 6) (v := .int (sG 12 0)) (C := "BedFrontier$House") (T := T_House) (N := 15) hx hb htt i_House hown hK.1 hP 2 rfl rfl 12 (by decide) (htt _ k_115) (fun _ h9 => h9) rfl d_Reader_doingItem_4 ?_
  refine lv_bipush (v := (6 : Int32)) hx hb d_Reader_doingItem_7 (by decide) ?_
  refine lv_icmp_ge (tgt := 20) hx hb d_Reader_doingItem_9 (by decide) (fun c1 => ?_) (fun c1 => ?_)
  · replace hf := iteT c1 hf
    refine lv_iconst (v := (0 : Int32)) hx hb d_Reader_doingItem_20 (by decide) ?_
    obtain ⟨rfl, rfl, rfl⟩ := sj3 hf
    exact retM C0 rfl hQ hP hD hS d_Reader_doingItem_21
  · replace hf := iteF c1 hf
    refine lv_aload_n hx hb d_Reader_doingItem_12 rfl (lv_at hl 0 rfl) ?_
    refine lv_iconst (v := (5 : Int32)) hx hb d_Reader_doingItem_13 (by decide) ?_
    obtain ⟨x2, sR3, h4, hf⟩ := bd2E hf
    refine vM (Lc := (L_r ty rA gA sR)) (Lc' := (L_r ty rA gA sR3)) (L' := (L_rg ty rA gA kA sR3 sG)) (q0 := 0) (ci := 7) (rest := []) C0 (c_Reader_number l D ty rA gA H.size sR (5 : Int32) x2 sR3 h4) k_359 cal_Reader_number hK hP hD hS hAq [0, 1] [2, 3, 4, 5, 6, 7, 8] [7, 8, 0, 1, 2, 3, 4, 5, 6] [(gA 0, .inr (6, [.ref (kA 0), .ref (gA 2), .ref (gA 3), .ref (gA 4), .ref (gA 5), .ref (gA 6), .ref (gA 7), .int (sG 7 0), .int (sG 8 0), .int (sG 9 0), .int (sG 10 0), .int (sG 11 0), .int (sG 12 0), .int (sG 13 0), .int (sG 14 0)])), (gA 2, .inl (ty 0, 2, .inl (sG 1))), (gA 3, .inl (ty 0, 2, .inl (sG 2))), (gA 4, .inl (ty 0, 6, .inl (sG 3))), (gA 5, .inl (ty 0, 6, .inl (sG 4))), (gA 6, .inl (ty 0, 30, .inl (sG 5))), (gA 7, .inl (ty 0, 32, .inl (sG 6)))] rfl rfl (by decide) (by decide) (by decide) (by decide) rfl rfl rfl rfl ⟨by rw [hR]; decide, by rw [hR]; decide⟩ rfl rfl rfl hl.1 rfl (Nat.le_of_ble_eq_true rfl) d_Reader_doingItem_14 ⟨by rw [hR]; decide, by rw [hR]; decide⟩ rfl (fun H locs hP hD hS => ?_)
    refine lv_if_ne (tgt := 22) hx hb d_Reader_doingItem_17 (by decide) (fun c5 => ?_) (fun c5 => ?_)
    · replace hf := iteF c5 hf
      refine lv_aload_n hx hb d_Reader_doingItem_22 rfl (lv_at hl 0 rfl) ?_
      refine va_get (D := D) (ci := 7) (v := .int (sR3 6 0)) (C := "BedFrontier$Reader") (T := T_Reader) (N := 7) hx hb htt i_Reader hown hK.1 hP 0 rfl rfl 6 (by decide) (htt _ k_168) (fun _ h9 => h9) rfl d_Reader_doingItem_23 ?_
      refine lv_topi (fun x6 e_x6 => ?_)
      replace hf := nmE hf e_x6
      refine lv_istore_n (lv' := [(1, .int x6), (0, .ref (rA 0))]) hx hb d_Reader_doingItem_26 rfl hl (by decide) rfl (fun ls hl => ?_)
      refine lv_aload_n hx hb d_Reader_doingItem_27 rfl (lv_at hl 1 rfl) ?_
      refine lv_bipush (v := (20 : Int32)) hx hb d_Reader_doingItem_28 (by decide) ?_
      obtain ⟨x7, sR8, h9, hf⟩ := bd2E hf
      refine vM (Lc := (L_r ty rA gA sR3)) (Lc' := (L_r ty rA gA sR8)) (L' := (L_rg ty rA gA kA sR8 sG)) (q0 := 0) (ci := 7) (rest := []) C0 (c_Reader_number l D ty rA gA H.size sR3 (20 : Int32) x7 sR8 h9) k_359 cal_Reader_number hK hP hD hS hAq [0, 1] [2, 3, 4, 5, 6, 7, 8] [7, 8, 0, 1, 2, 3, 4, 5, 6] [(gA 0, .inr (6, [.ref (kA 0), .ref (gA 2), .ref (gA 3), .ref (gA 4), .ref (gA 5), .ref (gA 6), .ref (gA 7), .int (sG 7 0), .int (sG 8 0), .int (sG 9 0), .int (sG 10 0), .int (sG 11 0), .int (sG 12 0), .int (sG 13 0), .int (sG 14 0)])), (gA 2, .inl (ty 0, 2, .inl (sG 1))), (gA 3, .inl (ty 0, 2, .inl (sG 2))), (gA 4, .inl (ty 0, 6, .inl (sG 3))), (gA 5, .inl (ty 0, 6, .inl (sG 4))), (gA 6, .inl (ty 0, 30, .inl (sG 5))), (gA 7, .inl (ty 0, 32, .inl (sG 6)))] rfl rfl (by decide) (by decide) (by decide) (by decide) rfl rfl rfl rfl ⟨by rw [hR]; decide, by rw [hR]; decide⟩ rfl rfl rfl hl.1 rfl (Nat.le_of_ble_eq_true rfl) d_Reader_doingItem_30 ⟨by rw [hR]; decide, by rw [hR]; decide⟩ rfl (fun H locs hP hD hS => ?_)
      refine lv_if_ne (tgt := 38) hx hb d_Reader_doingItem_33 (by decide) (fun c10 => ?_) (fun c10 => ?_)
      · replace hf := iteF c10 hf
        refine lv_aload_n hx hb d_Reader_doingItem_38 rfl (lv_at hl 1 rfl) ?_
        refine va_get (D := D) (ci := 7) (v := .ref (gA 0)) (C := "BedFrontier$Reader") (T := T_Reader) (N := 7) hx hb htt i_Reader hown hK.1 hP 0 rfl rfl 0 (by decide) (htt _ k_160) (fun _ h9 => h9) rfl d_Reader_doingItem_39 ?_
        refine lv_iload_n hx hb d_Reader_doingItem_42 rfl (lv_at hl 0 rfl) ?_
        refine lv_aload_n hx hb d_Reader_doingItem_43 rfl (lv_at hl 1 rfl) ?_
        refine va_get (D := D) (ci := 7) (v := .int (sR8 6 0)) (C := "BedFrontier$Reader") (T := T_Reader) (N := 7) hx hb htt i_Reader hown hK.1 hP 0 rfl rfl 6 (by decide) (htt _ k_168) (fun _ h9 => h9) rfl d_Reader_doingItem_44 ?_
        obtain ⟨x11, sH12, h13, hf⟩ := bd2E hf
        refine vM (Lc := (L_h ty gA kA sG)) (Lc' := (L_h ty gA kA sH12)) (L' := (L_rg ty rA gA kA sR8 sH12)) (q0 := 0) (ci := 6) (rest := []) C0 (c_House_addDoing l D ty gA kA H.size sG x6 (sR8 6 0) x11 sH12 h13) k_379 cal_House_addDoing hK hP hD hS hAq [2, 3, 4, 5, 6, 7, 8] [0, 1] [0, 1, 2, 3, 4, 5, 6, 7, 8] [(rA 0, .inr (7, [.ref (gA 0), .ref (rA 2), .int (sR8 2 0), .int (sR8 3 0), .int (sR8 4 0), .int (sR8 5 0), .int (sR8 6 0)])), (rA 2, .inl (ty 1, 150, .inl (sR8 1)))] rfl rfl (by decide) (by decide) (by decide) (by decide) rfl rfl rfl rfl ⟨by rw [hR]; decide, by rw [hR]; decide⟩ rfl rfl rfl hl.1 rfl (Nat.le_of_ble_eq_true rfl) d_Reader_doingItem_47 ⟨by rw [hR]; decide, by rw [hR]; decide⟩ rfl (fun H locs hP hD hS => ?_)
        refine lv_pop hx hb d_Reader_doingItem_50 rfl ?_
        refine lv_aload_n hx hb d_Reader_doingItem_51 rfl (lv_at hl 1 rfl) ?_
        obtain ⟨sR14, h15, hf⟩ := bdE hf
        refine vM (Lc := (L_r ty rA gA sR8)) (Lc' := (L_r ty rA gA sR14)) (L' := (L_rg ty rA gA kA sR14 sH12)) (q0 := 0) (ci := 7) (rest := []) C0 (c_Reader_step l D ty rA gA H.size sR8 sR14 h15) k_287 cal_Reader_step hK hP hD hS hAq [0, 1] [2, 3, 4, 5, 6, 7, 8] [7, 8, 0, 1, 2, 3, 4, 5, 6] [(gA 0, .inr (6, [.ref (kA 0), .ref (gA 2), .ref (gA 3), .ref (gA 4), .ref (gA 5), .ref (gA 6), .ref (gA 7), .int (sH12 7 0), .int (sH12 8 0), .int (sH12 9 0), .int (sH12 10 0), .int (sH12 11 0), .int (sH12 12 0), .int (sH12 13 0), .int (sH12 14 0)])), (gA 2, .inl (ty 0, 2, .inl (sH12 1))), (gA 3, .inl (ty 0, 2, .inl (sH12 2))), (gA 4, .inl (ty 0, 6, .inl (sH12 3))), (gA 5, .inl (ty 0, 6, .inl (sH12 4))), (gA 6, .inl (ty 0, 30, .inl (sH12 5))), (gA 7, .inl (ty 0, 32, .inl (sH12 6)))] rfl rfl (by decide) (by decide) (by decide) (by decide) rfl rfl rfl rfl ⟨by rw [hR]; decide, by rw [hR]; decide⟩ rfl rfl rfl hl.1 rfl (Nat.le_of_ble_eq_true rfl) d_Reader_doingItem_52 ⟨by rw [hR]; decide, by rw [hR]; decide⟩ rfl (fun H locs hP hD hS => ?_)
        refine lv_iconst (v := (1 : Int32)) hx hb d_Reader_doingItem_55 (by decide) ?_
        obtain ⟨rfl, rfl, rfl⟩ := sj3 hf
        exact retM C0 rfl hQ hP hD hS d_Reader_doingItem_56
      · replace hf := iteT c10 hf
        refine lv_iconst (v := (0 : Int32)) hx hb d_Reader_doingItem_36 (by decide) ?_
        obtain ⟨rfl, rfl, rfl⟩ := sj3 hf
        exact retM C0 rfl hQ hP hD hS d_Reader_doingItem_37
    · replace hf := iteT c5 hf
      refine lv_iconst (v := (0 : Int32)) hx hb d_Reader_doingItem_20 (by decide) ?_
      obtain ⟨rfl, rfl, rfl⟩ := sj3 hf
      exact retM C0 rfl hQ hP hD hS d_Reader_doingItem_21
def f_Reader_item (sR : PW) (sG : PW) (a1 : Int32) : Option (Int32 × PW × PW) :=
  bd (f_Reader_isWord sR 0) (fun x1 => (if x1 = a1 then (if x1 = 0 then bd (f_Reader_isWord sR 1) (fun x5 => (if x5 = 0 then bd (f_Reader_isWord sR 2) (fun x8 => (if x8 = 0 then bd (f_Reader_isWord sR 3) (fun x11 => (if x11 = 0 then bd (f_Reader_isWord sR 4) (fun x14 => (if x14 = 0 then some ((0 : Int32), sR, sG) else nm (up sG 8 (fun _ => (1 : Int32))) (fun sG17 => bd (f_Reader_step sR) (fun sR18 => some ((1 : Int32), sR18, sG17))))) else bd3 (f_Reader_doingItem sR sG) (fun x20 sR21 sG22 => gd (isZ x20) (some (x20, sR21, sG22))))) else bd3 (f_Reader_barItem sR sG) (fun x25 sR26 sG27 => gd (isZ x25) (some (x25, sR26, sG27))))) else bd3 (f_Reader_rateItem sR sG) (fun x30 sR31 sG32 => gd (isZ x30) (some (x30, sR31, sG32))))) else bd3 (f_Reader_tollItem sR sG) (fun x35 sR36 sG37 => gd (isZ x35) (some (x35, sR36, sG37)))) else some ((0 : Int32), sR, sG)))
set_option maxHeartbeats 4000000 in
set_option maxRecDepth 100000 in
theorem c_Reader_item (l : Launch) (D : va_G) (ty : Nat → ClassId) (rA gA kA : Nat → Nat) (aK aV : Nat → Nat) (sz : Nat) (sR : PW) (sG : PW) (a1 : Int32) (rr : Int32) (tR : PW) (tG : PW) (hf : f_Reader_item sR sG a1 = some (rr, tR, tG)) : Met l y_Reader_item (Cond.code y_Reader_item prog_10_method_4_code 3 ((Option.some FieldType.boolean)) :: lw_ok) { frames := 5, cells := 0, slots := 0, locals := 107 } (PcMT D ty aK aV [.ref (rA 0), .int a1] sz (L_rg ty rA gA kA sR sG)) (QM D (L_rg ty rA gA kA tR tG) (va_A (L_rg ty rA gA kA sR sG) sz) (some (.int rr))) 0 0 (va_A (L_rg ty rA gA kA sR sG) sz) := by
  refine hdMT (by decide) (Nat.le_of_ble_eq_true rfl) ?_
  intro p e s m below meth c ls R args Q A C0 hR hQ hnm hAq hP hK hD hS hT hl
  obtain ⟨hx, hb, hr, hlk, hml, hown, htt⟩ := id C0
  have hl : lv_has ls 3 [(0, .ref (rA 0)), (1, .int a1)] := hl
  generalize hH0 : s.heap = H at hP hS ⊢
  have hS : va_S A s.heap H [] := by rw [hH0]; exact hS
  unfold f_Reader_item at hf
  refine lv_aload_n hx hb d_Reader_item_0 rfl (lv_at hl 0 rfl) ?_
  refine va_ldcS hx hb hown hT.2.2.2.1 d_Reader_item_1 ?_
  obtain ⟨x1, h2, hf⟩ := bdE hf
  refine tvR (q0 := 0) (ci := 7) (rest := []) C0 (c_Reader_isWord l D ty rA gA aK aV sR 0 x1 (by decide) h2) k_303 cal_Reader_isWord hK (hT.kept hS.2.1) (hP.sub (ws' := (L_r ty rA gA sR)) [0, 1] rfl) rfl rfl rfl ⟨by rw [hR]; decide, by rw [hR]; decide⟩ rfl rfl rfl hl.1 rfl (Nat.le_of_ble_eq_true rfl) d_Reader_item_3 ⟨Nat.zero_le _, Nat.zero_le _⟩ rfl ?_
  refine lv_istore_n (lv' := [(2, .int x1), (0, .ref (rA 0)), (1, .int a1)]) hx hb d_Reader_item_6 rfl hl (by decide) rfl (fun ls hl => ?_)
  refine lv_iload_n hx hb d_Reader_item_7 rfl (lv_at hl 0 rfl) ?_
  refine lv_iload_n hx hb d_Reader_item_8 rfl (lv_at hl 2 rfl) ?_
  refine lv_icmp_eq (tgt := 14) hx hb d_Reader_item_9 (by decide) (fun c3 => ?_) (fun c3 => ?_)
  · replace hf := iteT c3 hf
    refine lv_iload_n hx hb d_Reader_item_14 rfl (lv_at hl 0 rfl) ?_
    refine lv_if_eq (tgt := 23) hx hb d_Reader_item_15 (by decide) (fun c4 => ?_) (fun c4 => ?_)
    · replace hf := iteT c4 hf
      refine lv_aload_n hx hb d_Reader_item_23 rfl (lv_at hl 1 rfl) ?_
      refine va_ldcS hx hb hown hT.2.2.2.2.1 d_Reader_item_24 ?_
      obtain ⟨x5, h6, hf⟩ := bdE hf
      refine tvR (q0 := 0) (ci := 7) (rest := []) C0 (c_Reader_isWord l D ty rA gA aK aV sR 1 x5 (by decide) h6) k_303 cal_Reader_isWord hK (hT.kept hS.2.1) (hP.sub (ws' := (L_r ty rA gA sR)) [0, 1] rfl) rfl rfl rfl ⟨by rw [hR]; decide, by rw [hR]; decide⟩ rfl rfl rfl hl.1 rfl (Nat.le_of_ble_eq_true rfl) d_Reader_item_26 ⟨Nat.zero_le _, Nat.zero_le _⟩ rfl ?_
      refine lv_if_eq (tgt := 37) hx hb d_Reader_item_29 (by decide) (fun c7 => ?_) (fun c7 => ?_)
      · replace hf := iteT c7 hf
        refine lv_aload_n hx hb d_Reader_item_37 rfl (lv_at hl 1 rfl) ?_
        refine va_ldcS hx hb hown hT.2.2.2.2.2.1 d_Reader_item_38 ?_
        obtain ⟨x8, h9, hf⟩ := bdE hf
        refine tvR (q0 := 0) (ci := 7) (rest := []) C0 (c_Reader_isWord l D ty rA gA aK aV sR 2 x8 (by decide) h9) k_303 cal_Reader_isWord hK (hT.kept hS.2.1) (hP.sub (ws' := (L_r ty rA gA sR)) [0, 1] rfl) rfl rfl rfl ⟨by rw [hR]; decide, by rw [hR]; decide⟩ rfl rfl rfl hl.1 rfl (Nat.le_of_ble_eq_true rfl) d_Reader_item_40 ⟨Nat.zero_le _, Nat.zero_le _⟩ rfl ?_
        refine lv_if_eq (tgt := 51) hx hb d_Reader_item_43 (by decide) (fun c10 => ?_) (fun c10 => ?_)
        · replace hf := iteT c10 hf
          refine lv_aload_n hx hb d_Reader_item_51 rfl (lv_at hl 1 rfl) ?_
          refine va_ldcS hx hb hown hT.2.2.2.2.2.2.1 d_Reader_item_52 ?_
          obtain ⟨x11, h12, hf⟩ := bdE hf
          refine tvR (q0 := 0) (ci := 7) (rest := []) C0 (c_Reader_isWord l D ty rA gA aK aV sR 3 x11 (by decide) h12) k_303 cal_Reader_isWord hK (hT.kept hS.2.1) (hP.sub (ws' := (L_r ty rA gA sR)) [0, 1] rfl) rfl rfl rfl ⟨by rw [hR]; decide, by rw [hR]; decide⟩ rfl rfl rfl hl.1 rfl (Nat.le_of_ble_eq_true rfl) d_Reader_item_54 ⟨Nat.zero_le _, Nat.zero_le _⟩ rfl ?_
          refine lv_if_eq (tgt := 65) hx hb d_Reader_item_57 (by decide) (fun c13 => ?_) (fun c13 => ?_)
          · replace hf := iteT c13 hf
            refine lv_aload_n hx hb d_Reader_item_65 rfl (lv_at hl 1 rfl) ?_
            refine va_ldcS hx hb hown hT.2.2.2.2.2.2.2 d_Reader_item_66 ?_
            obtain ⟨x14, h15, hf⟩ := bdE hf
            refine tvR (q0 := 0) (ci := 7) (rest := []) C0 (c_Reader_isWord l D ty rA gA aK aV sR 4 x14 (by decide) h15) k_303 cal_Reader_isWord hK (hT.kept hS.2.1) (hP.sub (ws' := (L_r ty rA gA sR)) [0, 1] rfl) rfl rfl rfl ⟨by rw [hR]; decide, by rw [hR]; decide⟩ rfl rfl rfl hl.1 rfl (Nat.le_of_ble_eq_true rfl) d_Reader_item_68 ⟨Nat.zero_le _, Nat.zero_le _⟩ rfl ?_
            refine lv_if_eq (tgt := 88) hx hb d_Reader_item_71 (by decide) (fun c16 => ?_) (fun c16 => ?_)
            · replace hf := iteT c16 hf
              refine lv_iconst (v := (0 : Int32)) hx hb d_Reader_item_88 (by decide) ?_
              obtain ⟨rfl, rfl, rfl⟩ := sj3 hf
              exact retM C0 rfl hQ hP hD hS d_Reader_item_89
            · replace hf := iteF c16 hf
              refine lv_aload_n hx hb d_Reader_item_74 rfl (lv_at hl 1 rfl) ?_
              refine va_get (D := D) (ci := 7) (v := .ref (gA 0)) (C := "BedFrontier$Reader") (T := T_Reader) (N := 7) hx hb htt i_Reader hown hK.1 hP 0 rfl rfl 0 (by decide) (htt _ k_160) (fun _ h9 => h9) rfl d_Reader_item_75 ?_
              refine lv_iconst (v := (1 : Int32)) hx hb d_Reader_item_78 (by decide) ?_
              refine va_put (D := D) (ci := 6) (v := .int (1 : Int32)) (ty := .boolean) (C := "BedFrontier$House") (T := T_House) (N := 15) hx hb htt i_House t_House t_House_ok n_House hown hK.1 hP hD hS 2 rfl rfl 8 (by decide) (htt _ k_100) (fun _ h9 => h9) rfl pfZ rfl rfl (Nat.le_of_ble_eq_true rfl) d_Reader_item_79 (fun H locs hP hD hS => ?_)
              obtain ⟨sG17, e_sG17⟩ : ∃ z : PW, z = up sG 8 (fun _ => (1 : Int32)) := ⟨_, rfl⟩
              replace hf := nmE hf e_sG17
              have hP : va_P D vwCl (L_rg ty rA gA kA sR sG17) H := by rw [e_sG17]; exact hP
              have hD : va_D A (L_rg ty rA gA kA sR sG17) := by rw [e_sG17]; exact hD
              refine lv_aload_n hx hb d_Reader_item_82 rfl (lv_at hl 1 rfl) ?_
              obtain ⟨sR18, h19, hf⟩ := bdE hf
              refine vM (Lc := (L_r ty rA gA sR)) (Lc' := (L_r ty rA gA sR18)) (L' := (L_rg ty rA gA kA sR18 sG17)) (q0 := 0) (ci := 7) (rest := []) C0 (c_Reader_step l D ty rA gA H.size sR sR18 h19) k_287 cal_Reader_step hK hP hD hS hAq [0, 1] [2, 3, 4, 5, 6, 7, 8] [7, 8, 0, 1, 2, 3, 4, 5, 6] [(gA 0, .inr (6, [.ref (kA 0), .ref (gA 2), .ref (gA 3), .ref (gA 4), .ref (gA 5), .ref (gA 6), .ref (gA 7), .int (sG17 7 0), .int (sG17 8 0), .int (sG17 9 0), .int (sG17 10 0), .int (sG17 11 0), .int (sG17 12 0), .int (sG17 13 0), .int (sG17 14 0)])), (gA 2, .inl (ty 0, 2, .inl (sG17 1))), (gA 3, .inl (ty 0, 2, .inl (sG17 2))), (gA 4, .inl (ty 0, 6, .inl (sG17 3))), (gA 5, .inl (ty 0, 6, .inl (sG17 4))), (gA 6, .inl (ty 0, 30, .inl (sG17 5))), (gA 7, .inl (ty 0, 32, .inl (sG17 6)))] rfl rfl (by decide) (by decide) (by decide) (by decide) rfl rfl rfl rfl ⟨by rw [hR]; decide, by rw [hR]; decide⟩ rfl rfl rfl hl.1 rfl (Nat.le_of_ble_eq_true rfl) d_Reader_item_83 ⟨by rw [hR]; decide, by rw [hR]; decide⟩ rfl (fun H locs hP hD hS => ?_)
              refine lv_iconst (v := (1 : Int32)) hx hb d_Reader_item_86 (by decide) ?_
              obtain ⟨rfl, rfl, rfl⟩ := sj3 hf
              exact retM C0 rfl hQ hP hD hS d_Reader_item_87
          · replace hf := iteF c13 hf
            refine lv_aload_n hx hb d_Reader_item_60 rfl (lv_at hl 1 rfl) ?_
            obtain ⟨x20, sR21, sG22, h23, hf⟩ := bd3E hf
            refine vM (Lc := (L_rg ty rA gA kA sR sG)) (Lc' := (L_rg ty rA gA kA sR21 sG22)) (L' := (L_rg ty rA gA kA sR21 sG22)) (q0 := 0) (ci := 7) (rest := []) C0 (c_Reader_doingItem l D ty rA gA kA H.size sR sG x20 sR21 sG22 h23) k_375 cal_Reader_doingItem hK hP hD hS hAq [0, 1, 2, 3, 4, 5, 6, 7, 8] [] [0, 1, 2, 3, 4, 5, 6, 7, 8] [] rfl rfl (by decide) (by decide) (by decide) (by decide) rfl rfl rfl rfl ⟨by rw [hR]; decide, by rw [hR]; decide⟩ rfl rfl rfl hl.1 rfl (Nat.le_of_ble_eq_true rfl) d_Reader_item_61 ⟨by rw [hR]; decide, by rw [hR]; decide⟩ rfl (fun H locs hP hD hS => ?_)
            obtain ⟨g24, hf⟩ := gdE hf
            obtain ⟨rfl, rfl, rfl⟩ := sj3 hf
            exact retM C0 (isZ_nar g24) hQ hP hD hS d_Reader_item_64
        · replace hf := iteF c10 hf
          refine lv_aload_n hx hb d_Reader_item_46 rfl (lv_at hl 1 rfl) ?_
          obtain ⟨x25, sR26, sG27, h28, hf⟩ := bd3E hf
          refine vM (Lc := (L_rg ty rA gA kA sR sG)) (Lc' := (L_rg ty rA gA kA sR26 sG27)) (L' := (L_rg ty rA gA kA sR26 sG27)) (q0 := 0) (ci := 7) (rest := []) C0 (c_Reader_barItem l D ty rA gA kA H.size sR sG x25 sR26 sG27 h28) k_370 cal_Reader_barItem hK hP hD hS hAq [0, 1, 2, 3, 4, 5, 6, 7, 8] [] [0, 1, 2, 3, 4, 5, 6, 7, 8] [] rfl rfl (by decide) (by decide) (by decide) (by decide) rfl rfl rfl rfl ⟨by rw [hR]; decide, by rw [hR]; decide⟩ rfl rfl rfl hl.1 rfl (Nat.le_of_ble_eq_true rfl) d_Reader_item_47 ⟨by rw [hR]; decide, by rw [hR]; decide⟩ rfl (fun H locs hP hD hS => ?_)
          obtain ⟨g29, hf⟩ := gdE hf
          obtain ⟨rfl, rfl, rfl⟩ := sj3 hf
          exact retM C0 (isZ_nar g29) hQ hP hD hS d_Reader_item_50
      · replace hf := iteF c7 hf
        refine lv_aload_n hx hb d_Reader_item_32 rfl (lv_at hl 1 rfl) ?_
        obtain ⟨x30, sR31, sG32, h33, hf⟩ := bd3E hf
        refine vM (Lc := (L_rg ty rA gA kA sR sG)) (Lc' := (L_rg ty rA gA kA sR31 sG32)) (L' := (L_rg ty rA gA kA sR31 sG32)) (q0 := 0) (ci := 7) (rest := []) C0 (c_Reader_rateItem l D ty rA gA kA H.size sR sG x30 sR31 sG32 h33) k_365 cal_Reader_rateItem hK hP hD hS hAq [0, 1, 2, 3, 4, 5, 6, 7, 8] [] [0, 1, 2, 3, 4, 5, 6, 7, 8] [] rfl rfl (by decide) (by decide) (by decide) (by decide) rfl rfl rfl rfl ⟨by rw [hR]; decide, by rw [hR]; decide⟩ rfl rfl rfl hl.1 rfl (Nat.le_of_ble_eq_true rfl) d_Reader_item_33 ⟨by rw [hR]; decide, by rw [hR]; decide⟩ rfl (fun H locs hP hD hS => ?_)
        obtain ⟨g34, hf⟩ := gdE hf
        obtain ⟨rfl, rfl, rfl⟩ := sj3 hf
        exact retM C0 (isZ_nar g34) hQ hP hD hS d_Reader_item_36
    · replace hf := iteF c4 hf
      refine lv_aload_n hx hb d_Reader_item_18 rfl (lv_at hl 1 rfl) ?_
      obtain ⟨x35, sR36, sG37, h38, hf⟩ := bd3E hf
      refine vM (Lc := (L_rg ty rA gA kA sR sG)) (Lc' := (L_rg ty rA gA kA sR36 sG37)) (L' := (L_rg ty rA gA kA sR36 sG37)) (q0 := 0) (ci := 7) (rest := []) C0 (c_Reader_tollItem l D ty rA gA kA H.size sR sG x35 sR36 sG37 h38) k_355 cal_Reader_tollItem hK hP hD hS hAq [0, 1, 2, 3, 4, 5, 6, 7, 8] [] [0, 1, 2, 3, 4, 5, 6, 7, 8] [] rfl rfl (by decide) (by decide) (by decide) (by decide) rfl rfl rfl rfl ⟨by rw [hR]; decide, by rw [hR]; decide⟩ rfl rfl rfl hl.1 rfl (Nat.le_of_ble_eq_true rfl) d_Reader_item_19 ⟨by rw [hR]; decide, by rw [hR]; decide⟩ rfl (fun H locs hP hD hS => ?_)
      obtain ⟨g39, hf⟩ := gdE hf
      obtain ⟨rfl, rfl, rfl⟩ := sj3 hf
      exact retM C0 (isZ_nar g39) hQ hP hD hS d_Reader_item_22
  · replace hf := iteF c3 hf
    refine lv_iconst (v := (0 : Int32)) hx hb d_Reader_item_12 (by decide) ?_
    obtain ⟨rfl, rfl, rfl⟩ := sj3 hf
    exact retM C0 rfl hQ hP hD hS d_Reader_item_13
def f_Reader_parse_J48 (x6 : Int32) (sR7 : PW) (sG8 : PW) (K19 : Int32 × PW × PW → Option (Int32 × PW × PW)) (x10 : Int32) : Option (Int32 × PW × PW) :=
  bd3 (f_Reader_item sR7 sG8 x10) (fun x11 sR12 sG13 => (if x11 = 0 then some (((-10 : Int32) - (sR12 4 0)), sR12, sG13) else (if (sR12 3 0) = (2 : Int32) then nm (x6 + (1 : Int32)) (fun x17 => bd (f_Reader_step sR12) (fun sR18 => K19 (x17, sR18, sG13))) else some (((-10 : Int32) - (sR12 4 0)), sR12, sG13))))
def f_Reader_parse_J38 (x6 : Int32) (sR7 : PW) (sG8 : PW) (K19 : Int32 × PW × PW → Option (Int32 × PW × PW)) : Option (Int32 × PW × PW) :=
  (if x6 = 0 then f_Reader_parse_J48 x6 sR7 sG8 K19 (1 : Int32) else f_Reader_parse_J48 x6 sR7 sG8 K19 (0 : Int32))
def f_Reader_parse_L19 (K19 : Int32 × PW × PW → Option (Int32 × PW × PW)) : Int32 × PW × PW → Option (Int32 × PW × PW)
  | (x6, sR7, sG8) =>
  (if (150 : Int32) ≤ x6 then some (x6, sR7, sG8) else (if x6 = 0 then f_Reader_parse_J38 x6 sR7 sG8 K19 else (if (sR7 3 0) = (3 : Int32) then some (x6, sR7, sG8) else f_Reader_parse_J38 x6 sR7 sG8 K19)))
def f_Reader_parse (sR : PW) (sG : PW) : Option (Int32 × PW × PW) :=
  bd (f_House_start sG (1 : Int32)) (fun sH1 => nm (up sR 5 (fun _ => (0 : Int32))) (fun sR3 => bd (f_Reader_step sR3) (fun sR4 => loopF f_Reader_parse_L19 4000 ((0 : Int32), sR4, sH1))))
set_option maxHeartbeats 4000000 in
set_option maxRecDepth 100000 in
theorem c_Reader_parse (l : Launch) (D : va_G) (ty : Nat → ClassId) (rA gA kA : Nat → Nat) (aK aV : Nat → Nat) (sz : Nat) (sR : PW) (sG : PW) (rr : Int32) (tR : PW) (tG : PW) (hf : f_Reader_parse sR sG = some (rr, tR, tG)) : Met l y_Reader_parse (Cond.code y_Reader_parse prog_10_method_3_code 2 ((Option.some FieldType.int)) :: lw_ok) { frames := 6, cells := 0, slots := 0, locals := 129 } (PcMT D ty aK aV [.ref (rA 0)] sz (L_rg ty rA gA kA sR sG)) (QM D (L_rg ty rA gA kA tR tG) (va_A (L_rg ty rA gA kA sR sG) sz) (some (.int rr))) 0 0 (va_A (L_rg ty rA gA kA sR sG) sz) := by
  refine hdMT (by decide) (Nat.le_of_ble_eq_true rfl) ?_
  intro p e s m below meth c ls R args Q A C0 hR hQ hnm hAq hP hK hD hS hT hl
  obtain ⟨hx, hb, hr, hlk, hml, hown, htt⟩ := id C0
  have hl : lv_has ls 2 [(0, .ref (rA 0))] := hl
  generalize hH0 : s.heap = H at hP hS ⊢
  have hS : va_S A s.heap H [] := by rw [hH0]; exact hS
  unfold f_Reader_parse at hf
  refine lv_aload_n hx hb d_Reader_parse_0 rfl (lv_at hl 0 rfl) ?_
  refine va_get (D := D) (ci := 7) (v := .ref (gA 0)) (C := "BedFrontier$Reader") (T := T_Reader) (N := 7) hx hb htt i_Reader hown hK.1 hP 0 rfl rfl 0 (by decide) (htt _ k_160) (fun _ h9 => h9) rfl d_Reader_parse_1 ?_
  refine lv_iconst (v := (1 : Int32)) hx hb d_Reader_parse_4 (by decide) ?_
  obtain ⟨sH1, h2, hf⟩ := bdE hf
  refine vM (Lc := (L_h ty gA kA sG)) (Lc' := (L_h ty gA kA sH1)) (L' := (L_rg ty rA gA kA sR sH1)) (q0 := 0) (ci := 6) (rest := []) C0 (c_House_start l D ty gA kA H.size sG (1 : Int32) sH1 h2) k_286 cal_House_start hK hP hD hS hAq [2, 3, 4, 5, 6, 7, 8] [0, 1] [0, 1, 2, 3, 4, 5, 6, 7, 8] [(rA 0, .inr (7, [.ref (gA 0), .ref (rA 2), .int (sR 2 0), .int (sR 3 0), .int (sR 4 0), .int (sR 5 0), .int (sR 6 0)])), (rA 2, .inl (ty 1, 150, .inl (sR 1)))] rfl rfl (by decide) (by decide) (by decide) (by decide) rfl rfl rfl rfl ⟨by rw [hR]; decide, by rw [hR]; decide⟩ rfl rfl rfl hl.1 rfl (Nat.le_of_ble_eq_true rfl) d_Reader_parse_5 ⟨by rw [hR]; decide, by rw [hR]; decide⟩ rfl (fun H locs hP hD hS => ?_)
  refine lv_aload_n hx hb d_Reader_parse_8 rfl (lv_at hl 0 rfl) ?_
  refine lv_iconst (v := (0 : Int32)) hx hb d_Reader_parse_9 (by decide) ?_
  refine va_put (D := D) (ci := 7) (v := .int (0 : Int32)) (ty := .int) (C := "BedFrontier$Reader") (T := T_Reader) (N := 7) hx hb htt i_Reader t_Reader t_Reader_ok n_Reader hown hK.1 hP hD hS 0 rfl rfl 5 (by decide) (htt _ k_167) (fun _ h9 => h9) rfl pfI rfl rfl (Nat.le_of_ble_eq_true rfl) d_Reader_parse_10 (fun H locs hP hD hS => ?_)
  obtain ⟨sR3, e_sR3⟩ : ∃ z : PW, z = up sR 5 (fun _ => (0 : Int32)) := ⟨_, rfl⟩
  replace hf := nmE hf e_sR3
  have hP : va_P D vwCl (L_rg ty rA gA kA sR3 sH1) H := by rw [e_sR3]; exact hP
  have hD : va_D A (L_rg ty rA gA kA sR3 sH1) := by rw [e_sR3]; exact hD
  refine lv_aload_n hx hb d_Reader_parse_13 rfl (lv_at hl 0 rfl) ?_
  obtain ⟨sR4, h5, hf⟩ := bdE hf
  refine vM (Lc := (L_r ty rA gA sR3)) (Lc' := (L_r ty rA gA sR4)) (L' := (L_rg ty rA gA kA sR4 sH1)) (q0 := 0) (ci := 7) (rest := []) C0 (c_Reader_step l D ty rA gA H.size sR3 sR4 h5) k_287 cal_Reader_step hK hP hD hS hAq [0, 1] [2, 3, 4, 5, 6, 7, 8] [7, 8, 0, 1, 2, 3, 4, 5, 6] [(gA 0, .inr (6, [.ref (kA 0), .ref (gA 2), .ref (gA 3), .ref (gA 4), .ref (gA 5), .ref (gA 6), .ref (gA 7), .int (sH1 7 0), .int (sH1 8 0), .int (sH1 9 0), .int (sH1 10 0), .int (sH1 11 0), .int (sH1 12 0), .int (sH1 13 0), .int (sH1 14 0)])), (gA 2, .inl (ty 0, 2, .inl (sH1 1))), (gA 3, .inl (ty 0, 2, .inl (sH1 2))), (gA 4, .inl (ty 0, 6, .inl (sH1 3))), (gA 5, .inl (ty 0, 6, .inl (sH1 4))), (gA 6, .inl (ty 0, 30, .inl (sH1 5))), (gA 7, .inl (ty 0, 32, .inl (sH1 6)))] rfl rfl (by decide) (by decide) (by decide) (by decide) rfl rfl rfl rfl ⟨by rw [hR]; decide, by rw [hR]; decide⟩ rfl rfl rfl hl.1 rfl (Nat.le_of_ble_eq_true rfl) d_Reader_parse_14 ⟨by rw [hR]; decide, by rw [hR]; decide⟩ rfl (fun H locs hP hD hS => ?_)
  refine lv_iconst (v := (0 : Int32)) hx hb d_Reader_parse_17 (by decide) ?_
  refine lv_istore_n (lv' := [(1, .int (0 : Int32)), (0, .ref (rA 0))]) hx hb d_Reader_parse_18 rfl hl (by decide) rfl (fun ls hl => ?_)
  have B19 : ∀ (n : Nat) (x : Int32 × PW × PW), loopF f_Reader_parse_L19 n x = some (rr, tR, tG) → ∀ (H : Heap) (locs : List Loc) (ls : Array Slot), va_P D vwCl (L_rg ty rA gA kA (x.2.1) (x.2.2)) H → va_D A (L_rg ty rA gA kA (x.2.1) (x.2.2)) → va_S A s.heap H locs → lv_has ls 2 [(0, .ref (rA 0)), (1, .int (x.1))] → W p l e R s m args below meth c H locs 0 0 Q (F0 m 19 ls []) := by
    refine loopW (fun (x : Int32 × PW × PW) => ∀ (H : Heap) (locs : List Loc) (ls : Array Slot), va_P D vwCl (L_rg ty rA gA kA (x.2.1) (x.2.2)) H → va_D A (L_rg ty rA gA kA (x.2.1) (x.2.2)) → va_S A s.heap H locs → lv_has ls 2 [(0, .ref (rA 0)), (1, .int (x.1))] → W p l e R s m args below meth c H locs 0 0 Q (F0 m 19 ls [])) ?_
    intro K19 hK19 x hf
    obtain ⟨x6, sR7, sG8⟩ := x
    rw [f_Reader_parse_L19] at hf
    intro H locs ls hP hD hS hl
    have hl : lv_has ls 2 [(0, .ref (rA 0)), (1, .int x6)] := hl
    have hP : va_P D vwCl (L_rg ty rA gA kA sR7 sG8) H := hP
    have hD : va_D A (L_rg ty rA gA kA sR7 sG8) := hD
    show W p l e R s m args below meth c H locs 0 0 Q (F0 m 19 ls [])
    refine lv_iload_n hx hb d_Reader_parse_19 rfl (lv_at hl 1 rfl) ?_
    refine lv_sipush (v := (150 : Int32)) hx hb d_Reader_parse_20 (by decide) ?_
    refine lv_icmp_ge (tgt := 80) hx hb d_Reader_parse_23 (by decide) (fun c9 => ?_) (fun c9 => ?_)
    · replace hf := iteT c9 hf
      refine lv_iload_n hx hb d_Reader_parse_80 rfl (lv_at hl 1 rfl) ?_
      obtain ⟨rfl, rfl, rfl⟩ := sj3 hf
      exact retM C0 (narI _) hQ hP hD hS d_Reader_parse_81
    · replace hf := iteF c9 hf
      refine lv_iload_n hx hb d_Reader_parse_26 rfl (lv_at hl 1 rfl) ?_
      have J38 : ∀ (_ : Unit), f_Reader_parse_J38 x6 sR7 sG8 K19 = some (rr, tR, tG) → ∀ (H : Heap) (locs : List Loc) (ls : Array Slot), va_P D vwCl (L_rg ty rA gA kA sR7 sG8) H → va_D A (L_rg ty rA gA kA sR7 sG8) → va_S A s.heap H locs → lv_has ls 2 [(0, .ref (rA 0)), (1, .int x6)] → W p l e R s m args below meth c H locs 0 0 Q (F0 m 38 ls []) := by
        intro _ hf H locs ls hP hD hS hl
        unfold f_Reader_parse_J38 at hf
        refine lv_aload_n hx hb d_Reader_parse_38 rfl (lv_at hl 0 rfl) ?_
        refine lv_iload_n hx hb d_Reader_parse_39 rfl (lv_at hl 1 rfl) ?_
        have J48 : ∀ (x10 : Int32), f_Reader_parse_J48 x6 sR7 sG8 K19 x10 = some (rr, tR, tG) → ∀ (H : Heap) (locs : List Loc) (ls : Array Slot), va_P D vwCl (L_rg ty rA gA kA sR7 sG8) H → va_D A (L_rg ty rA gA kA sR7 sG8) → va_S A s.heap H locs → lv_has ls 2 [(0, .ref (rA 0)), (1, .int x6)] → W p l e R s m args below meth c H locs 0 0 Q (F0 m 48 ls [.int x10, .ref (rA 0)]) := by
          intro x10 hf H locs ls hP hD hS hl
          unfold f_Reader_parse_J48 at hf
          obtain ⟨x11, sR12, sG13, h14, hf⟩ := bd3E hf
          refine tvM (Lc := (L_rg ty rA gA kA sR7 sG8)) (Lc' := (L_rg ty rA gA kA sR12 sG13)) (L' := (L_rg ty rA gA kA sR12 sG13)) (q0 := 0) (ci := 7) (rest := []) C0 (c_Reader_item l D ty rA gA kA aK aV H.size sR7 sG8 x10 x11 sR12 sG13 h14) k_298 cal_Reader_item hK (hT.kept hS.2.1) hP hD hS hAq [0, 1, 2, 3, 4, 5, 6, 7, 8] [] [0, 1, 2, 3, 4, 5, 6, 7, 8] [] rfl rfl (by decide) (by decide) (by decide) (by decide) rfl rfl rfl rfl ⟨by rw [hR]; decide, by rw [hR]; decide⟩ rfl rfl rfl hl.1 rfl (Nat.le_of_ble_eq_true rfl) d_Reader_parse_48 ⟨by rw [hR]; decide, by rw [hR]; decide⟩ rfl (fun H locs hP hD hS => ?_)
          refine lv_if_eq (tgt := 62) hx hb d_Reader_parse_51 (by decide) (fun c15 => ?_) (fun c15 => ?_)
          · replace hf := iteT c15 hf
            refine lv_bipush (v := (-10 : Int32)) hx hb d_Reader_parse_62 (by decide) ?_
            refine lv_aload_n hx hb d_Reader_parse_64 rfl (lv_at hl 0 rfl) ?_
            refine va_get (D := D) (ci := 7) (v := .int (sR12 4 0)) (C := "BedFrontier$Reader") (T := T_Reader) (N := 7) hx hb htt i_Reader hown hK.1 hP 0 rfl rfl 4 (by decide) (htt _ k_166) (fun _ h9 => h9) rfl d_Reader_parse_65 ?_
            refine lv_isub hx hb d_Reader_parse_68 ?_
            obtain ⟨rfl, rfl, rfl⟩ := sj3 hf
            exact retM C0 (narI _) hQ hP hD hS d_Reader_parse_69
          · replace hf := iteF c15 hf
            refine lv_aload_n hx hb d_Reader_parse_54 rfl (lv_at hl 0 rfl) ?_
            refine va_get (D := D) (ci := 7) (v := .int (sR12 3 0)) (C := "BedFrontier$Reader") (T := T_Reader) (N := 7) hx hb htt i_Reader hown hK.1 hP 0 rfl rfl 3 (by decide) (htt _ k_165) (fun _ h9 => h9) rfl d_Reader_parse_55 ?_
            refine lv_iconst (v := (2 : Int32)) hx hb d_Reader_parse_58 (by decide) ?_
            refine lv_icmp_eq (tgt := 70) hx hb d_Reader_parse_59 (by decide) (fun c16 => ?_) (fun c16 => ?_)
            · replace hf := iteT c16 hf
              obtain ⟨x17, e_x17⟩ : ∃ z : Int32, z = (x6 + (1 : Int32)) := ⟨_, rfl⟩
              replace hf := nmE hf e_x17
              refine lv_iinc (v := x17) (lv' := [(1, .int x17), (0, .ref (rA 0))]) hx hb d_Reader_parse_70 hl (k := 1) rfl (by rw [e_x17]; rfl) (by decide) rfl (fun ls hl => ?_)
              refine lv_aload_n hx hb d_Reader_parse_73 rfl (lv_at hl 1 rfl) ?_
              obtain ⟨sR18, h19, hf⟩ := bdE hf
              refine vM (Lc := (L_r ty rA gA sR12)) (Lc' := (L_r ty rA gA sR18)) (L' := (L_rg ty rA gA kA sR18 sG13)) (q0 := 0) (ci := 7) (rest := []) C0 (c_Reader_step l D ty rA gA H.size sR12 sR18 h19) k_287 cal_Reader_step hK hP hD hS hAq [0, 1] [2, 3, 4, 5, 6, 7, 8] [7, 8, 0, 1, 2, 3, 4, 5, 6] [(gA 0, .inr (6, [.ref (kA 0), .ref (gA 2), .ref (gA 3), .ref (gA 4), .ref (gA 5), .ref (gA 6), .ref (gA 7), .int (sG13 7 0), .int (sG13 8 0), .int (sG13 9 0), .int (sG13 10 0), .int (sG13 11 0), .int (sG13 12 0), .int (sG13 13 0), .int (sG13 14 0)])), (gA 2, .inl (ty 0, 2, .inl (sG13 1))), (gA 3, .inl (ty 0, 2, .inl (sG13 2))), (gA 4, .inl (ty 0, 6, .inl (sG13 3))), (gA 5, .inl (ty 0, 6, .inl (sG13 4))), (gA 6, .inl (ty 0, 30, .inl (sG13 5))), (gA 7, .inl (ty 0, 32, .inl (sG13 6)))] rfl rfl (by decide) (by decide) (by decide) (by decide) rfl rfl rfl rfl ⟨by rw [hR]; decide, by rw [hR]; decide⟩ rfl rfl rfl hl.1 rfl (Nat.le_of_ble_eq_true rfl) d_Reader_parse_74 ⟨by rw [hR]; decide, by rw [hR]; decide⟩ rfl (fun H locs hP hD hS => ?_)
              refine lv_goto (tgt := 19) hx hb d_Reader_parse_77 (by decide) ?_
              exact hK19 (x17, sR18, sG13) hf _ _ ls hP hD hS (lv_sub hl [1, 0] rfl)
            · replace hf := iteF c16 hf
              refine lv_bipush (v := (-10 : Int32)) hx hb d_Reader_parse_62 (by decide) ?_
              refine lv_aload_n hx hb d_Reader_parse_64 rfl (lv_at hl 0 rfl) ?_
              refine va_get (D := D) (ci := 7) (v := .int (sR12 4 0)) (C := "BedFrontier$Reader") (T := T_Reader) (N := 7) hx hb htt i_Reader hown hK.1 hP 0 rfl rfl 4 (by decide) (htt _ k_166) (fun _ h9 => h9) rfl d_Reader_parse_65 ?_
              refine lv_isub hx hb d_Reader_parse_68 ?_
              obtain ⟨rfl, rfl, rfl⟩ := sj3 hf
              exact retM C0 (narI _) hQ hP hD hS d_Reader_parse_69
        refine lv_if_ne (tgt := 47) hx hb d_Reader_parse_40 (by decide) (fun c20 => ?_) (fun c20 => ?_)
        · replace hf := iteF c20 hf
          refine lv_iconst (v := (0 : Int32)) hx hb d_Reader_parse_47 (by decide) ?_
          exact J48 (0 : Int32) hf _ _ ls hP hD hS (hl)
        · replace hf := iteT c20 hf
          refine lv_iconst (v := (1 : Int32)) hx hb d_Reader_parse_43 (by decide) ?_
          refine lv_goto (tgt := 48) hx hb d_Reader_parse_44 (by decide) ?_
          exact J48 (1 : Int32) hf _ _ ls hP hD hS (hl)
      refine lv_if_eq (tgt := 38) hx hb d_Reader_parse_27 (by decide) (fun c21 => ?_) (fun c21 => ?_)
      · replace hf := iteT c21 hf
        exact J38 () hf _ _ ls hP hD hS (hl)
      · replace hf := iteF c21 hf
        refine lv_aload_n hx hb d_Reader_parse_30 rfl (lv_at hl 0 rfl) ?_
        refine va_get (D := D) (ci := 7) (v := .int (sR7 3 0)) (C := "BedFrontier$Reader") (T := T_Reader) (N := 7) hx hb htt i_Reader hown hK.1 hP 0 rfl rfl 3 (by decide) (htt _ k_165) (fun _ h9 => h9) rfl d_Reader_parse_31 ?_
        refine lv_iconst (v := (3 : Int32)) hx hb d_Reader_parse_34 (by decide) ?_
        refine lv_icmp_eq (tgt := 80) hx hb d_Reader_parse_35 (by decide) (fun c22 => ?_) (fun c22 => ?_)
        · replace hf := iteT c22 hf
          refine lv_iload_n hx hb d_Reader_parse_80 rfl (lv_at hl 1 rfl) ?_
          obtain ⟨rfl, rfl, rfl⟩ := sj3 hf
          exact retM C0 (narI _) hQ hP hD hS d_Reader_parse_81
        · replace hf := iteF c22 hf
          exact J38 () hf _ _ ls hP hD hS (hl)
  exact B19 4000 ((0 : Int32), sR4, sH1) hf _ _ ls hP hD hS (lv_sub hl [1, 0] rfl)
