def f_Face_least_r_J20 : Option (Int32 × PW) :=
  none
def f_Face_least_r (sF : PW) (sH : PW) (a1 : Int32) : Option (Int32 × PW) :=
  (if a1 = (-1 : Int32) then f_Face_least_r_J20 else bd (f_Face_isDoing sF sH a1) (fun x2 => (if x2 = 0 then bd2 (f_Face_refuseBad sF (-10 : Int32)) (fun x5 sF6 => some (x5, sF6)) else f_Face_least_r_J20)))
set_option maxHeartbeats 4000000 in
set_option maxRecDepth 100000 in
theorem c_Face_least_r (l : Launch) (D : va_G) (ty : Nat → ClassId) (fA rA cA hA kA : Nat → Nat) (pv : Value) (sz : Nat) (sF : PW) (sH : PW) (a1 : Int32) (rr : Int32) (tF : PW) (hf : f_Face_least_r sF sH a1 = some (rr, tF)) : Met l y_Face_least (Cond.code y_Face_least prog_1_method_17_code 3 ((Option.some FieldType.int)) :: lw_ok) { frames := 1, cells := 0, slots := 0, locals := 21 } (PcM D ty [.ref (fA 0), .int a1] sz (L_fh ty fA rA cA hA kA pv sF sH)) (QM D (L_fh ty fA rA cA hA kA pv tF sH) (va_A (L_fh ty fA rA cA hA kA pv sF sH) sz) (some (.int rr))) 0 0 (va_A (L_fh ty fA rA cA hA kA pv sF sH) sz) := by
  refine hdM (by decide) (Nat.le_of_ble_eq_true rfl) ?_
  intro p e s m below meth c ls R args Q A C0 hR hQ hnm hAq hP hK hD hS hl
  obtain ⟨hx, hb, hr, hlk, hml, hown, htt⟩ := id C0
  have hl : lv_has ls 3 [(0, .ref (fA 0)), (1, .int a1)] := hl
  generalize hH0 : s.heap = H at hP hS ⊢
  have hS : va_S A s.heap H [] := by rw [hH0]; exact hS
  unfold f_Face_least_r at hf
  refine lv_iload_n hx hb d_Face_least_0 rfl (lv_at hl 1 rfl) ?_
  refine lv_iconst (v := (-1 : Int32)) hx hb d_Face_least_1 (by decide) ?_
  have J20 : ∀ (_ : Unit), f_Face_least_r_J20 = some (rr, tF) → ∀ (H : Heap) (locs : List Loc) (ls : Array Slot), va_P D vwCl (L_fh ty fA rA cA hA kA pv sF sH) H → va_D A (L_fh ty fA rA cA hA kA pv sF sH) → va_S A s.heap H locs → lv_has ls 3 [(0, .ref (fA 0)), (1, .int a1)] → W p l e R s m args below meth c H locs 0 0 Q (F0 m 20 ls []) := by
    intro _ hf H locs ls hP hD hS hl
    unfold f_Face_least_r_J20 at hf
    refine lv_aload_n hx hb d_Face_least_20 rfl (lv_at hl 0 rfl) ?_
    cases hf
  refine lv_icmp_eq (tgt := 20) hx hb d_Face_least_2 (by decide) (fun c1 => ?_) (fun c1 => ?_)
  · replace hf := iteT c1 hf
    exact J20 () hf _ _ ls hP hD hS (hl)
  · replace hf := iteF c1 hf
    refine lv_aload_n hx hb d_Face_least_5 rfl (lv_at hl 0 rfl) ?_
    refine lv_iload_n hx hb d_Face_least_6 rfl (lv_at hl 1 rfl) ?_
    obtain ⟨x2, h3, hf⟩ := bdE hf
    refine vR (q0 := 0) (ci := 10) (rest := []) C0 (c_Face_isDoing l D ty fA rA cA hA kA pv sF sH a1 x2 h3) k_392 cal_Face_isDoing hK hP rfl rfl rfl ⟨by rw [hR]; decide, by rw [hR]; decide⟩ rfl rfl rfl hl.1 rfl (Nat.le_of_ble_eq_true rfl) d_Face_least_7 ⟨Nat.zero_le _, Nat.zero_le _⟩ rfl ?_
    refine lv_if_ne (tgt := 20) hx hb d_Face_least_10 (by decide) (fun c4 => ?_) (fun c4 => ?_)
    · replace hf := iteF c4 hf
      exact J20 () hf _ _ ls hP hD hS (hl)
    · replace hf := iteT c4 hf
      refine lv_aload_n hx hb d_Face_least_13 rfl (lv_at hl 0 rfl) ?_
      refine lv_bipush (v := (-10 : Int32)) hx hb d_Face_least_14 (by decide) ?_
      obtain ⟨x5, sF6, h7, hf⟩ := bd2E hf
      refine vM (Lc := (L_f ty fA rA cA hA pv sF)) (Lc' := (L_f ty fA rA cA hA pv sF6)) (L' := (L_fh ty fA rA cA hA kA pv sF6 sH)) (q0 := 0) (ci := 10) (rest := []) C0 (c_Face_refuseBad l D ty fA rA cA hA pv H.size sF (-10 : Int32) x5 sF6 h7) k_237 cal_Face_refuseBad hK hP hD hS hAq [0] [1, 2, 3, 4, 5, 6, 7] [7, 0, 1, 2, 3, 4, 5, 6] [(hA 0, .inr (6, [.ref (kA 0), .ref (hA 2), .ref (hA 3), .ref (hA 4), .ref (hA 5), .ref (hA 6), .ref (hA 7), .int (sH 7 0), .int (sH 8 0), .int (sH 9 0), .int (sH 10 0), .int (sH 11 0), .int (sH 12 0), .int (sH 13 0), .int (sH 14 0)])), (hA 2, .inl (ty 0, 2, .inl (sH 1))), (hA 3, .inl (ty 0, 2, .inl (sH 2))), (hA 4, .inl (ty 0, 6, .inl (sH 3))), (hA 5, .inl (ty 0, 6, .inl (sH 4))), (hA 6, .inl (ty 0, 30, .inl (sH 5))), (hA 7, .inl (ty 0, 32, .inl (sH 6)))] rfl rfl (by decide) (by decide) (by decide) (by decide) rfl rfl rfl rfl ⟨by rw [hR]; decide, by rw [hR]; decide⟩ rfl rfl rfl hl.1 rfl (Nat.le_of_ble_eq_true rfl) d_Face_least_16 ⟨by rw [hR]; decide, by rw [hR]; decide⟩ rfl (fun H locs hP hD hS => ?_)
      obtain ⟨rfl, rfl⟩ := sj2 hf
      exact retM C0 (narI _) hQ hP hD hS d_Face_least_19
def f_Face_least_p_J20 (a1 : Int32) (sF : PW) (sP : PW) (sH : PW) : Option (Int32 × PW × PW) :=
  bd2 (f_Planner_leastCost sP sH) (fun x1 sP2 => (if x1 = (-1 : Int32) then some (x1, sF, sP2) else (if a1 = (-1 : Int32) then some (x1, sF, sP2) else bd (f_Planner_placeOf sP2 sH a1) (fun x6 => some (x6, sF, sP2)))))
def f_Face_least_p (sF : PW) (sP : PW) (sH : PW) (a1 : Int32) : Option (Int32 × PW × PW) :=
  (if a1 = (-1 : Int32) then f_Face_least_p_J20 a1 sF sP sH else bd (f_Face_isDoing sF sH a1) (fun x9 => (if x9 = 0 then bd2 (f_Face_refuseBad sF (-10 : Int32)) (fun x12 sF13 => some (x12, sF13, sP)) else f_Face_least_p_J20 a1 sF sP sH)))
set_option maxHeartbeats 4000000 in
set_option maxRecDepth 100000 in
theorem c_Face_least_p (l : Launch) (D : va_G) (ty : Nat → ClassId) (fA rA cA pA hA kA : Nat → Nat) (sz : Nat) (sF : PW) (sP : PW) (sH : PW) (a1 : Int32) (rr : Int32) (tF : PW) (tP : PW) (hf : f_Face_least_p sF sP sH a1 = some (rr, tF, tP)) : Met l y_Face_least (Cond.code y_Face_least prog_1_method_17_code 3 ((Option.some FieldType.int)) :: lw_ok) { frames := 8, cells := 0, slots := 0, locals := 211 } (PcM D ty [.ref (fA 0), .int a1] sz (L_fphk ty fA rA cA pA hA kA (.ref (pA 0)) sF sP sH)) (QM D (L_fphk ty fA rA cA pA hA kA (.ref (pA 0)) tF tP sH) (va_A (L_fphk ty fA rA cA pA hA kA (.ref (pA 0)) sF sP sH) sz) (some (.int rr))) 0 0 (va_A (L_fphk ty fA rA cA pA hA kA (.ref (pA 0)) sF sP sH) sz) := by
  refine hdM (by decide) (Nat.le_of_ble_eq_true rfl) ?_
  intro p e s m below meth c ls R args Q A C0 hR hQ hnm hAq hP hK hD hS hl
  obtain ⟨hx, hb, hr, hlk, hml, hown, htt⟩ := id C0
  have hl : lv_has ls 3 [(0, .ref (fA 0)), (1, .int a1)] := hl
  generalize hH0 : s.heap = H at hP hS ⊢
  have hS : va_S A s.heap H [] := by rw [hH0]; exact hS
  unfold f_Face_least_p at hf
  refine lv_iload_n hx hb d_Face_least_0 rfl (lv_at hl 1 rfl) ?_
  refine lv_iconst (v := (-1 : Int32)) hx hb d_Face_least_1 (by decide) ?_
  have J20 : ∀ (_ : Unit), f_Face_least_p_J20 a1 sF sP sH = some (rr, tF, tP) → ∀ (H : Heap) (locs : List Loc) (ls : Array Slot), va_P D vwCl (L_fphk ty fA rA cA pA hA kA (.ref (pA 0)) sF sP sH) H → va_D A (L_fphk ty fA rA cA pA hA kA (.ref (pA 0)) sF sP sH) → va_S A s.heap H locs → lv_has ls 3 [(0, .ref (fA 0)), (1, .int a1)] → W p l e R s m args below meth c H locs 0 0 Q (F0 m 20 ls []) := by
    intro _ hf H locs ls hP hD hS hl
    unfold f_Face_least_p_J20 at hf
    refine lv_aload_n hx hb d_Face_least_20 rfl (lv_at hl 0 rfl) ?_
    refine va_get (D := D) (ci := 10) (v := .ref (pA 0)) (C := "BedFrontier") (T := T_Face) (N := 10) hx hb htt i_Face hown hK.1 hP 0 rfl rfl 4 (by decide) (htt _ k_203) (fun _ h9 => h9) rfl d_Face_least_21 ?_
    refine lv_ifnonnull (tgt := 42) hx hb d_Face_least_24 (by decide) ?_
    refine lv_aload_n hx hb d_Face_least_42 rfl (lv_at hl 0 rfl) ?_
    refine va_get (D := D) (ci := 10) (v := .ref (pA 0)) (C := "BedFrontier") (T := T_Face) (N := 10) hx hb htt i_Face hown hK.1 hP 0 rfl rfl 4 (by decide) (htt _ k_203) (fun _ h9 => h9) rfl d_Face_least_43 ?_
    obtain ⟨x1, sP2, h3, hf⟩ := bd2E hf
    refine vM (Lc := (L_phk ty pA hA kA sP sH)) (Lc' := (L_phk ty pA hA kA sP2 sH)) (L' := (L_fphk ty fA rA cA pA hA kA (.ref (pA 0)) sF sP2 sH)) (q0 := 0) (ci := 9) (rest := []) C0 (c_Planner_leastCost l D ty pA hA kA H.size sP sH x1 sP2 h3) k_543 cal_Planner_leastCost hK hP hD hS hAq [1, 2, 3, 4, 5, 6, 7, 8, 9, 10, 11, 12, 13, 14, 15, 16, 17] [0] [0, 1, 2, 3, 4, 5, 6, 7, 8, 9, 10, 11, 12, 13, 14, 15, 16, 17] [(fA 0, .inr (10, [.ref (hA 0), .ref (rA 0), .ref (cA 0), .ref (fA 4), (.ref (pA 0)), .int (sF 5 0), .int (sF 6 0), .int (sF 7 0), .int (sF 8 0), .int (sF 9 0)]))] rfl rfl (by decide) (by decide) (by decide) (by decide) rfl rfl rfl rfl ⟨by rw [hR]; decide, by rw [hR]; decide⟩ rfl rfl rfl hl.1 rfl (Nat.le_of_ble_eq_true rfl) d_Face_least_46 ⟨by rw [hR]; decide, by rw [hR]; decide⟩ rfl (fun H locs hP hD hS => ?_)
    refine lv_istore_n (lv' := [(2, .int x1), (0, .ref (fA 0)), (1, .int a1)]) hx hb d_Face_least_49 rfl hl (by decide) rfl (fun ls hl => ?_)
    refine lv_iload_n hx hb d_Face_least_50 rfl (lv_at hl 0 rfl) ?_
    refine lv_iconst (v := (-1 : Int32)) hx hb d_Face_least_51 (by decide) ?_
    refine lv_icmp_eq (tgt := 60) hx hb d_Face_least_52 (by decide) (fun c4 => ?_) (fun c4 => ?_)
    · replace hf := iteT c4 hf
      refine lv_iload_n hx hb d_Face_least_60 rfl (lv_at hl 0 rfl) ?_
      obtain ⟨rfl, rfl, rfl⟩ := sj3 hf
      exact retM C0 (narI _) hQ hP hD hS d_Face_least_61
    · replace hf := iteF c4 hf
      refine lv_iload_n hx hb d_Face_least_55 rfl (lv_at hl 2 rfl) ?_
      refine lv_iconst (v := (-1 : Int32)) hx hb d_Face_least_56 (by decide) ?_
      refine lv_icmp_ne (tgt := 62) hx hb d_Face_least_57 (by decide) (fun c5 => ?_) (fun c5 => ?_)
      · replace hf := iteF c5 hf
        refine lv_aload_n hx hb d_Face_least_62 rfl (lv_at hl 1 rfl) ?_
        refine va_get (D := D) (ci := 10) (v := .ref (pA 0)) (C := "BedFrontier") (T := T_Face) (N := 10) hx hb htt i_Face hown hK.1 hP 0 rfl rfl 4 (by decide) (htt _ k_203) (fun _ h9 => h9) rfl d_Face_least_63 ?_
        refine lv_iload_n hx hb d_Face_least_66 rfl (lv_at hl 2 rfl) ?_
        obtain ⟨x6, h7, hf⟩ := bdE hf
        refine vR (q0 := 0) (ci := 9) (rest := []) C0 (c_Planner_placeOf l D ty pA hA kA sP2 sH a1 x6 h7) k_579 cal_Planner_placeOf hK (hP.sub (ws' := (L_ph ty pA hA kA sP2 sH)) [1, 2, 3, 4, 5, 6, 7, 8, 9, 10] rfl) rfl rfl rfl ⟨by rw [hR]; decide, by rw [hR]; decide⟩ rfl rfl rfl hl.1 rfl (Nat.le_of_ble_eq_true rfl) d_Face_least_67 ⟨Nat.zero_le _, Nat.zero_le _⟩ rfl ?_
        obtain ⟨rfl, rfl, rfl⟩ := sj3 hf
        exact retM C0 (narI _) hQ hP hD hS d_Face_least_70
      · replace hf := iteT c5 hf
        refine lv_iload_n hx hb d_Face_least_60 rfl (lv_at hl 0 rfl) ?_
        obtain ⟨rfl, rfl, rfl⟩ := sj3 hf
        exact retM C0 (narI _) hQ hP hD hS d_Face_least_61
  refine lv_icmp_eq (tgt := 20) hx hb d_Face_least_2 (by decide) (fun c8 => ?_) (fun c8 => ?_)
  · replace hf := iteT c8 hf
    exact J20 () hf _ _ ls hP hD hS (hl)
  · replace hf := iteF c8 hf
    refine lv_aload_n hx hb d_Face_least_5 rfl (lv_at hl 0 rfl) ?_
    refine lv_iload_n hx hb d_Face_least_6 rfl (lv_at hl 1 rfl) ?_
    obtain ⟨x9, h10, hf⟩ := bdE hf
    refine vR (q0 := 0) (ci := 10) (rest := []) C0 (c_Face_isDoing l D ty fA rA cA hA kA (.ref (pA 0)) sF sH a1 x9 h10) k_392 cal_Face_isDoing hK (hP.sub (ws' := (L_fh ty fA rA cA hA kA (.ref (pA 0)) sF sH)) [0, 4, 5, 6, 7, 8, 9, 10] rfl) rfl rfl rfl ⟨by rw [hR]; decide, by rw [hR]; decide⟩ rfl rfl rfl hl.1 rfl (Nat.le_of_ble_eq_true rfl) d_Face_least_7 ⟨Nat.zero_le _, Nat.zero_le _⟩ rfl ?_
    refine lv_if_ne (tgt := 20) hx hb d_Face_least_10 (by decide) (fun c11 => ?_) (fun c11 => ?_)
    · replace hf := iteF c11 hf
      exact J20 () hf _ _ ls hP hD hS (hl)
    · replace hf := iteT c11 hf
      refine lv_aload_n hx hb d_Face_least_13 rfl (lv_at hl 0 rfl) ?_
      refine lv_bipush (v := (-10 : Int32)) hx hb d_Face_least_14 (by decide) ?_
      obtain ⟨x12, sF13, h14, hf⟩ := bd2E hf
      refine vM (Lc := (L_f ty fA rA cA hA (.ref (pA 0)) sF)) (Lc' := (L_f ty fA rA cA hA (.ref (pA 0)) sF13)) (L' := (L_fphk ty fA rA cA pA hA kA (.ref (pA 0)) sF13 sP sH)) (q0 := 0) (ci := 10) (rest := []) C0 (c_Face_refuseBad l D ty fA rA cA hA (.ref (pA 0)) H.size sF (-10 : Int32) x12 sF13 h14) k_237 cal_Face_refuseBad hK hP hD hS hAq [0] [1, 2, 3, 4, 5, 6, 7, 8, 9, 10, 11, 12, 13, 14, 15, 16, 17] [17, 0, 1, 2, 3, 4, 5, 6, 7, 8, 9, 10, 11, 12, 13, 14, 15, 16] [(pA 0, .inr (9, [.ref (hA 0), .ref (pA 2), .ref (pA 3)])), (pA 2, .inl (ty 0, 3200, .inl (sP 1))), (pA 3, .inl (ty 0, 288, .inl (sP 2))), (hA 0, .inr (6, [.ref (kA 0), .ref (hA 2), .ref (hA 3), .ref (hA 4), .ref (hA 5), .ref (hA 6), .ref (hA 7), .int (sH 7 0), .int (sH 8 0), .int (sH 9 0), .int (sH 10 0), .int (sH 11 0), .int (sH 12 0), .int (sH 13 0), .int (sH 14 0)])), (hA 2, .inl (ty 0, 2, .inl (sH 1))), (hA 3, .inl (ty 0, 2, .inl (sH 2))), (hA 4, .inl (ty 0, 6, .inl (sH 3))), (hA 5, .inl (ty 0, 6, .inl (sH 4))), (hA 6, .inl (ty 0, 30, .inl (sH 5))), (hA 7, .inl (ty 0, 32, .inl (sH 6))), (kA 0, .inl (ty 3, 6, .inr (.inr (.inr (.inr (fun i => some (kA (i + 1)))))))), (kA 1, .inr (0, [])), (kA 2, .inr (1, [])), (kA 3, .inr (2, [])), (kA 4, .inr (3, [])), (kA 5, .inr (4, [])), (kA 6, .inr (5, []))] rfl rfl (by decide) (by decide) (by decide) (by decide) rfl rfl rfl rfl ⟨by rw [hR]; decide, by rw [hR]; decide⟩ rfl rfl rfl hl.1 rfl (Nat.le_of_ble_eq_true rfl) d_Face_least_16 ⟨by rw [hR]; decide, by rw [hR]; decide⟩ rfl (fun H locs hP hD hS => ?_)
      obtain ⟨rfl, rfl, rfl⟩ := sj3 hf
      exact retM C0 (narI _) hQ hP hD hS d_Face_least_19
def f_Face_least_a_J20 (a1 : Int32) (sH : PW) : Option (Int32 × PW) :=
  bd2 (f_Planner_leastCost pz sH) (fun x1 sP2 => (if x1 = (-1 : Int32) then some (x1, sP2) else (if a1 = (-1 : Int32) then some (x1, sP2) else bd (f_Planner_placeOf sP2 sH a1) (fun x6 => some (x6, sP2)))))
def f_Face_least_a (sF : PW) (sH : PW) (a1 : Int32) : Option (Int32 × PW) :=
  (if a1 = (-1 : Int32) then f_Face_least_a_J20 a1 sH else bd (f_Face_isDoing sF sH a1) (fun x9 => (if x9 = 0 then none else f_Face_least_a_J20 a1 sH)))
set_option maxHeartbeats 4000000 in
set_option maxRecDepth 100000 in
theorem c_Face_least_a (l : Launch) (D : va_G) (ty : Nat → ClassId) (fA rA cA hA kA : Nat → Nat) (sz : Nat) (sF : PW) (sH : PW) (a1 : Int32) (rr : Int32) (tP : PW) (hf : f_Face_least_a sF sH a1 = some (rr, tP)) : Met l y_Face_least (Cond.code y_Face_least prog_1_method_17_code 3 ((Option.some FieldType.int)) :: lw_ok) { frames := 8, cells := 3, slots := 3491, locals := 211 } (PcM D ty [.ref (fA 0), .int a1] sz (L_fhk ty fA rA cA hA kA .null sF sH)) (QP (fun A H => ∃ pA : Nat → Nat, va_P D vwCl (L_fphk ty fA rA cA pA hA kA (.ref (pA 0)) sF tP sH) H ∧ va_D A (L_fphk ty fA rA cA pA hA kA (.ref (pA 0)) sF tP sH)) (va_A (L_fhk ty fA rA cA hA kA .null sF sH) sz) (some (.int rr))) 3 3491 (va_A (L_fhk ty fA rA cA hA kA .null sF sH) sz) := by
  refine hdP (by decide) (Nat.le_of_ble_eq_true rfl) ?_
  intro p e s m below meth c ls R args Q A C0 hR hQ hnm hAq hP hK hD hS hl
  obtain ⟨hx, hb, hr, hlk, hml, hown, htt⟩ := id C0
  have hl : lv_has ls 3 [(0, .ref (fA 0)), (1, .int a1)] := hl
  generalize hH0 : s.heap = H at hP hS ⊢
  have hS : va_S A s.heap H [] := by rw [hH0]; exact hS
  unfold f_Face_least_a at hf
  refine lv_iload_n hx hb d_Face_least_0 rfl (lv_at hl 1 rfl) ?_
  refine lv_iconst (v := (-1 : Int32)) hx hb d_Face_least_1 (by decide) ?_
  have J20 : ∀ (_ : Unit), f_Face_least_a_J20 a1 sH = some (rr, tP) → ∀ (H : Heap) (locs : List Loc) (ls : Array Slot), va_P D vwCl (L_fhk ty fA rA cA hA kA .null sF sH) H → va_D A (L_fhk ty fA rA cA hA kA .null sF sH) → va_S A s.heap H locs → lv_has ls 3 [(0, .ref (fA 0)), (1, .int a1)] → W p l e R s m args below meth c H locs 0 0 Q (F0 m 20 ls []) := by
    intro _ hf H locs ls hP hD hS hl
    unfold f_Face_least_a_J20 at hf
    refine lv_aload_n hx hb d_Face_least_20 rfl (lv_at hl 0 rfl) ?_
    refine va_get (D := D) (ci := 10) (v := .null) (C := "BedFrontier") (T := T_Face) (N := 10) hx hb htt i_Face hown hK.1 hP 0 rfl rfl 4 (by decide) (htt _ k_203) (fun _ h9 => h9) rfl d_Face_least_21 ?_
    refine lv_ifnonnullN hx hb d_Face_least_24 ?_
    refine lv_aload_n hx hb d_Face_least_27 rfl (lv_at hl 0 rfl) ?_
    refine va_new (ci := 9) (fs := [.null, .null, .null]) (C := "BedFrontier$Planner") (T := T_Planner) (N := 3) hx hb htt i_Planner t_Planner t_Planner_ok hown (htt _ k_527) (htt _ k_528) (htt _ k_18) hK.1 hP hD hS hAq rfl fs_Planner (by rw [hR]; decide) (by rw [hR]; decide) d_Face_least_28 (fun qN H hP hD hS => ?_)
    refine lv_dup hx hb d_Face_least_31 rfl ?_
    refine lv_aload_n hx hb d_Face_least_32 rfl (lv_at hl 0 rfl) ?_
    refine va_get (D := D) (ci := 10) (v := .ref (hA 0)) (C := "BedFrontier") (T := T_Face) (N := 10) hx hb htt i_Face hown hK.1 hP 0 rfl rfl 0 (by decide) (htt _ k_199) (fun _ h9 => h9) rfl d_Face_least_33 ?_
    refine iP (Lc := [(qN, .inr (9, [.null, .null, .null]))]) (rest := [.ref (qN), .ref (fA 0)]) C0 (c_Planner_init l D ty qN hA H.size) rfl k_529 cal_Planner_init hK hP hD hS hAq [15] [0, 1, 2, 3, 4, 5, 6, 7, 8, 9, 10, 11, 12, 13, 14] (L_fhk ty fA rA cA hA kA .null sF sH) rfl rfl (by decide) (by decide) (by decide) ⟨by rw [hR]; decide, by rw [hR]; decide⟩ rfl rfl rfl hl.1 rfl (Nat.le_of_ble_eq_true rfl) d_Face_least_36 ⟨by rw [hR]; decide, by rw [hR]; decide⟩ (fun H locs hN hJ hS => ?_)
    obtain ⟨pA, e_pA, hP1, hD1⟩ := hN
    subst e_pA
    obtain ⟨hP, hD⟩ := hJ _ hP1 hD1
    refine va_put (D := D) (ci := 10) (v := .ref (pA 0)) (ty := t_Face 4) (C := "BedFrontier") (T := T_Face) (N := 10) hx hb htt i_Face t_Face t_Face_ok n_Face hown hK.1 hP hD hS 0 rfl rfl 4 (by decide) (htt _ k_203) (fun _ h9 => h9) rfl (t_Face_ok 4 (by decide)) rfl rfl (Nat.le_of_ble_eq_true rfl) d_Face_least_39 (fun H locs hP hD hS => ?_)
    have hP : va_P D vwCl (L_fphk ty fA rA cA pA hA kA (.ref (pA 0)) sF pz sH) H := by exact hP.sub [0, 15, 16, 17, 1, 2, 3, 4, 5, 6, 7, 8, 9, 10, 11, 12, 13, 14] rfl
    have hD : va_D A (L_fphk ty fA rA cA pA hA kA (.ref (pA 0)) sF pz sH) := by exact hD.sub [0, 15, 16, 17, 1, 2, 3, 4, 5, 6, 7, 8, 9, 10, 11, 12, 13, 14] (by decide) rfl
    refine lv_aload_n hx hb d_Face_least_42 rfl (lv_at hl 0 rfl) ?_
    refine va_get (D := D) (ci := 10) (v := .ref (pA 0)) (C := "BedFrontier") (T := T_Face) (N := 10) hx hb htt i_Face hown hK.1 hP 0 rfl rfl 4 (by decide) (htt _ k_203) (fun _ h9 => h9) rfl d_Face_least_43 ?_
    obtain ⟨x1, sP2, h3, hf⟩ := bd2E hf
    refine vM (Lc := (L_phk ty pA hA kA pz sH)) (Lc' := (L_phk ty pA hA kA sP2 sH)) (L' := (L_fphk ty fA rA cA pA hA kA (.ref (pA 0)) sF sP2 sH)) (q0 := 0) (ci := 9) (rest := []) C0 (c_Planner_leastCost l D ty pA hA kA H.size pz sH x1 sP2 h3) k_543 cal_Planner_leastCost hK hP hD hS hAq [1, 2, 3, 4, 5, 6, 7, 8, 9, 10, 11, 12, 13, 14, 15, 16, 17] [0] [0, 1, 2, 3, 4, 5, 6, 7, 8, 9, 10, 11, 12, 13, 14, 15, 16, 17] [(fA 0, .inr (10, [.ref (hA 0), .ref (rA 0), .ref (cA 0), .ref (fA 4), (.ref (pA 0)), .int (sF 5 0), .int (sF 6 0), .int (sF 7 0), .int (sF 8 0), .int (sF 9 0)]))] rfl rfl (by decide) (by decide) (by decide) (by decide) rfl rfl rfl rfl ⟨by rw [hR]; decide, by rw [hR]; decide⟩ rfl rfl rfl hl.1 rfl (Nat.le_of_ble_eq_true rfl) d_Face_least_46 ⟨by rw [hR]; decide, by rw [hR]; decide⟩ rfl (fun H locs hP hD hS => ?_)
    refine lv_istore_n (lv' := [(2, .int x1), (0, .ref (fA 0)), (1, .int a1)]) hx hb d_Face_least_49 rfl hl (by decide) rfl (fun ls hl => ?_)
    refine lv_iload_n hx hb d_Face_least_50 rfl (lv_at hl 0 rfl) ?_
    refine lv_iconst (v := (-1 : Int32)) hx hb d_Face_least_51 (by decide) ?_
    refine lv_icmp_eq (tgt := 60) hx hb d_Face_least_52 (by decide) (fun c4 => ?_) (fun c4 => ?_)
    · replace hf := iteT c4 hf
      refine lv_iload_n hx hb d_Face_least_60 rfl (lv_at hl 0 rfl) ?_
      obtain ⟨rfl, rfl⟩ := sj2 hf
      exact retPi C0 (narI _) hQ ⟨pA, hP, hD⟩ hS d_Face_least_61
    · replace hf := iteF c4 hf
      refine lv_iload_n hx hb d_Face_least_55 rfl (lv_at hl 2 rfl) ?_
      refine lv_iconst (v := (-1 : Int32)) hx hb d_Face_least_56 (by decide) ?_
      refine lv_icmp_ne (tgt := 62) hx hb d_Face_least_57 (by decide) (fun c5 => ?_) (fun c5 => ?_)
      · replace hf := iteF c5 hf
        refine lv_aload_n hx hb d_Face_least_62 rfl (lv_at hl 1 rfl) ?_
        refine va_get (D := D) (ci := 10) (v := .ref (pA 0)) (C := "BedFrontier") (T := T_Face) (N := 10) hx hb htt i_Face hown hK.1 hP 0 rfl rfl 4 (by decide) (htt _ k_203) (fun _ h9 => h9) rfl d_Face_least_63 ?_
        refine lv_iload_n hx hb d_Face_least_66 rfl (lv_at hl 2 rfl) ?_
        obtain ⟨x6, h7, hf⟩ := bdE hf
        refine vR (q0 := 0) (ci := 9) (rest := []) C0 (c_Planner_placeOf l D ty pA hA kA sP2 sH a1 x6 h7) k_579 cal_Planner_placeOf hK (hP.sub (ws' := (L_ph ty pA hA kA sP2 sH)) [1, 2, 3, 4, 5, 6, 7, 8, 9, 10] rfl) rfl rfl rfl ⟨by rw [hR]; decide, by rw [hR]; decide⟩ rfl rfl rfl hl.1 rfl (Nat.le_of_ble_eq_true rfl) d_Face_least_67 ⟨by rw [hR]; decide, by rw [hR]; decide⟩ rfl ?_
        obtain ⟨rfl, rfl⟩ := sj2 hf
        exact retPi C0 (narI _) hQ ⟨pA, hP, hD⟩ hS d_Face_least_70
      · replace hf := iteT c5 hf
        refine lv_iload_n hx hb d_Face_least_60 rfl (lv_at hl 0 rfl) ?_
        obtain ⟨rfl, rfl⟩ := sj2 hf
        exact retPi C0 (narI _) hQ ⟨pA, hP, hD⟩ hS d_Face_least_61
  refine lv_icmp_eq (tgt := 20) hx hb d_Face_least_2 (by decide) (fun c8 => ?_) (fun c8 => ?_)
  · replace hf := iteT c8 hf
    exact J20 () hf _ _ ls hP hD hS (hl)
  · replace hf := iteF c8 hf
    refine lv_aload_n hx hb d_Face_least_5 rfl (lv_at hl 0 rfl) ?_
    refine lv_iload_n hx hb d_Face_least_6 rfl (lv_at hl 1 rfl) ?_
    obtain ⟨x9, h10, hf⟩ := bdE hf
    refine vR (q0 := 0) (ci := 10) (rest := []) C0 (c_Face_isDoing l D ty fA rA cA hA kA .null sF sH a1 x9 h10) k_392 cal_Face_isDoing hK (hP.sub (ws' := (L_fh ty fA rA cA hA kA .null sF sH)) [0, 1, 2, 3, 4, 5, 6, 7] rfl) rfl rfl rfl ⟨by rw [hR]; decide, by rw [hR]; decide⟩ rfl rfl rfl hl.1 rfl (Nat.le_of_ble_eq_true rfl) d_Face_least_7 ⟨Nat.zero_le _, Nat.zero_le _⟩ rfl ?_
    refine lv_if_ne (tgt := 20) hx hb d_Face_least_10 (by decide) (fun c11 => ?_) (fun c11 => ?_)
    · replace hf := iteF c11 hf
      exact J20 () hf _ _ ls hP hD hS (hl)
    · replace hf := iteT c11 hf
      refine lv_aload_n hx hb d_Face_least_13 rfl (lv_at hl 0 rfl) ?_
      refine lv_bipush (v := (-10 : Int32)) hx hb d_Face_least_14 (by decide) ?_
      cases hf
def f_Face_image_r (sF : PW) (a1 : Int32) : Option (Int32 × PW) :=
  bd (f_Face_within a1 (1 : Int32)) (fun x1 => (if x1 = 0 then bd2 (f_Face_refuseBad sF (-2 : Int32)) (fun x4 sF5 => some (x4, sF5)) else none))
set_option maxHeartbeats 4000000 in
set_option maxRecDepth 100000 in
theorem c_Face_image_r (l : Launch) (D : va_G) (ty : Nat → ClassId) (fA rA cA hA : Nat → Nat) (pv : Value) (sz : Nat) (sF : PW) (a1 : Int32) (rr : Int32) (tF : PW) (hf : f_Face_image_r sF a1 = some (rr, tF)) : Met l y_Face_image (Cond.code y_Face_image prog_1_method_30_code 2 ((Option.some FieldType.int)) :: lw_ok) { frames := 1, cells := 0, slots := 0, locals := 21 } (PcM D ty [.ref (fA 0), .int a1] sz (L_f ty fA rA cA hA pv sF)) (QM D (L_f ty fA rA cA hA pv tF) (va_A (L_f ty fA rA cA hA pv sF) sz) (some (.int rr))) 0 0 (va_A (L_f ty fA rA cA hA pv sF) sz) := by
  refine hdM (by decide) (Nat.le_of_ble_eq_true rfl) ?_
  intro p e s m below meth c ls R args Q A C0 hR hQ hnm hAq hP hK hD hS hl
  obtain ⟨hx, hb, hr, hlk, hml, hown, htt⟩ := id C0
  have hl : lv_has ls 2 [(0, .ref (fA 0)), (1, .int a1)] := hl
  generalize hH0 : s.heap = H at hP hS ⊢
  have hS : va_S A s.heap H [] := by rw [hH0]; exact hS
  unfold f_Face_image_r at hf
  refine lv_iload_n hx hb d_Face_image_0 rfl (lv_at hl 1 rfl) ?_
  refine lv_iconst (v := (1 : Int32)) hx hb d_Face_image_1 (by decide) ?_
  obtain ⟨x1, h2, hf⟩ := bdE hf
  refine scR (rest := []) C0 (c_Face_within l D ty a1 (1 : Int32) x1 h2) k_234 cal_Face_within hK (va_P_nil) ⟨by rw [hR]; decide, by rw [hR]; decide⟩ rfl rfl rfl hl.1 rfl (Nat.le_of_ble_eq_true rfl) d_Face_image_2 ⟨Nat.zero_le _, Nat.zero_le _⟩ rfl ?_
  refine lv_if_ne (tgt := 15) hx hb d_Face_image_5 (by decide) (fun c3 => ?_) (fun c3 => ?_)
  · replace hf := iteF c3 hf
    refine lv_aload_n hx hb d_Face_image_15 rfl (lv_at hl 0 rfl) ?_
    cases hf
  · replace hf := iteT c3 hf
    refine lv_aload_n hx hb d_Face_image_8 rfl (lv_at hl 0 rfl) ?_
    refine lv_bipush (v := (-2 : Int32)) hx hb d_Face_image_9 (by decide) ?_
    obtain ⟨x4, sF5, h6, hf⟩ := bd2E hf
    refine vM (Lc := (L_f ty fA rA cA hA pv sF)) (Lc' := (L_f ty fA rA cA hA pv sF5)) (L' := (L_f ty fA rA cA hA pv sF5)) (q0 := 0) (ci := 10) (rest := []) C0 (c_Face_refuseBad l D ty fA rA cA hA pv H.size sF (-2 : Int32) x4 sF5 h6) k_237 cal_Face_refuseBad hK hP hD hS hAq [0] [] [0] [] rfl rfl (by decide) (by decide) (by decide) (by decide) rfl rfl rfl rfl ⟨by rw [hR]; decide, by rw [hR]; decide⟩ rfl rfl rfl hl.1 rfl (Nat.le_of_ble_eq_true rfl) d_Face_image_11 ⟨by rw [hR]; decide, by rw [hR]; decide⟩ rfl (fun H locs hP hD hS => ?_)
    obtain ⟨rfl, rfl⟩ := sj2 hf
    exact retM C0 (narI _) hQ hP hD hS d_Face_image_14
def f_Face_image_p (sF : PW) (sI : Nat → Option Nat) (sH : PW) (sO : PW) (a1 : Int32) : Option (Int32 × PW × PW) :=
  bd (f_Face_within a1 (1 : Int32)) (fun x1 => (if x1 = 0 then bd2 (f_Face_refuseBad sF (-2 : Int32)) (fun x8 sF9 => some (x8, sF9, sO)) else gd (okI a1 2) (gd (okI a1 2) (bd (f_House_takeFrom sO sH) (fun sH6 => some ((1 : Int32), sF, sH6))))))
set_option maxHeartbeats 4000000 in
set_option maxRecDepth 100000 in
theorem c_Face_image_p (l : Launch) (D : va_G) (ty : Nat → ClassId) (fA rA cA hA oA kA : Nat → Nat) (pv : Value) (sz : Nat) (sF : PW) (sI : Nat → Option Nat) (sH : PW) (sO : PW) (a1 : Int32) (rr : Int32) (tF : PW) (tO : PW) (hI : okI a1 2 = true → sI a1.toNatClampNeg = some (oA 0)) (hf : f_Face_image_p sF sI sH sO a1 = some (rr, tF, tO)) : Met l y_Face_image (Cond.code y_Face_image prog_1_method_30_code 2 ((Option.some FieldType.int)) :: lw_ok) { frames := 2, cells := 0, slots := 0, locals := 81 } (PcM D ty [.ref (fA 0), .int a1] sz (L_fiho ty fA rA cA hA oA kA pv sF sI sH sO)) (QM D (L_fiho ty fA rA cA hA oA kA pv tF sI sH tO) (va_A (L_fiho ty fA rA cA hA oA kA pv sF sI sH sO) sz) (some (.int rr))) 0 0 (va_A (L_fiho ty fA rA cA hA oA kA pv sF sI sH sO) sz) := by
  refine hdM (by decide) (Nat.le_of_ble_eq_true rfl) ?_
  intro p e s m below meth c ls R args Q A C0 hR hQ hnm hAq hP hK hD hS hl
  obtain ⟨hx, hb, hr, hlk, hml, hown, htt⟩ := id C0
  have hl : lv_has ls 2 [(0, .ref (fA 0)), (1, .int a1)] := hl
  generalize hH0 : s.heap = H at hP hS ⊢
  have hS : va_S A s.heap H [] := by rw [hH0]; exact hS
  unfold f_Face_image_p at hf
  refine lv_iload_n hx hb d_Face_image_0 rfl (lv_at hl 1 rfl) ?_
  refine lv_iconst (v := (1 : Int32)) hx hb d_Face_image_1 (by decide) ?_
  obtain ⟨x1, h2, hf⟩ := bdE hf
  refine scR (rest := []) C0 (c_Face_within l D ty a1 (1 : Int32) x1 h2) k_234 cal_Face_within hK (va_P_nil) ⟨by rw [hR]; decide, by rw [hR]; decide⟩ rfl rfl rfl hl.1 rfl (Nat.le_of_ble_eq_true rfl) d_Face_image_2 ⟨Nat.zero_le _, Nat.zero_le _⟩ rfl ?_
  refine lv_if_ne (tgt := 15) hx hb d_Face_image_5 (by decide) (fun c3 => ?_) (fun c3 => ?_)
  · replace hf := iteF c3 hf
    refine lv_aload_n hx hb d_Face_image_15 rfl (lv_at hl 0 rfl) ?_
    refine va_get (D := D) (ci := 10) (v := .ref (fA 4)) (C := "BedFrontier") (T := T_Face) (N := 10) hx hb htt i_Face hown hK.1 hP 0 rfl rfl 3 (by decide) (htt _ k_202) (fun _ h9 => h9) rfl d_Face_image_16 ?_
    refine lv_iload_n hx hb d_Face_image_19 rfl (lv_at hl 1 rfl) ?_
    obtain ⟨g4, hf⟩ := gdE hf
    refine aldIs hx hb hK.1 hP 1 4 rfl rfl (okI_in g4) (hI g4) d_Face_image_20 ?_
    refine lv_ifnonnull (tgt := 44) hx hb d_Face_image_21 (by decide) ?_
    refine lv_aload_n hx hb d_Face_image_44 rfl (lv_at hl 0 rfl) ?_
    refine va_get (D := D) (ci := 10) (v := .ref (fA 4)) (C := "BedFrontier") (T := T_Face) (N := 10) hx hb htt i_Face hown hK.1 hP 0 rfl rfl 3 (by decide) (htt _ k_202) (fun _ h9 => h9) rfl d_Face_image_45 ?_
    refine lv_iload_n hx hb d_Face_image_48 rfl (lv_at hl 1 rfl) ?_
    obtain ⟨g5, hf⟩ := gdE hf
    refine aldIs hx hb hK.1 hP 1 4 rfl rfl (okI_in g5) (hI g5) d_Face_image_49 ?_
    refine lv_aload_n hx hb d_Face_image_50 rfl (lv_at hl 0 rfl) ?_
    refine va_get (D := D) (ci := 10) (v := .ref (hA 0)) (C := "BedFrontier") (T := T_Face) (N := 10) hx hb htt i_Face hown hK.1 hP 0 rfl rfl 0 (by decide) (htt _ k_199) (fun _ h9 => h9) rfl d_Face_image_51 ?_
    obtain ⟨sH6, h7, hf⟩ := bdE hf
    refine vM (Lc := (L_ho ty oA hA kA sO sH)) (Lc' := (L_ho ty oA hA kA sH6 sH)) (L' := (L_fiho ty fA rA cA hA oA kA pv sF sI sH sH6)) (q0 := 0) (ci := 6) (rest := []) C0 (c_House_takeFrom l D ty oA hA kA H.size sO sH sH6 h7) k_381 cal_House_takeFrom hK hP hD hS hAq [9, 10, 11, 12, 13, 14, 15, 2, 3, 4, 5, 6, 7, 8] [0, 1] [0, 1, 9, 10, 11, 12, 13, 14, 15, 2, 3, 4, 5, 6, 7, 8] [(fA 0, .inr (10, [.ref (hA 0), .ref (rA 0), .ref (cA 0), .ref (fA 4), pv, .int (sF 5 0), .int (sF 6 0), .int (sF 7 0), .int (sF 8 0), .int (sF 9 0)])), (fA 4, .inl (ty 4, 2, .inr (.inr (.inr (.inr sI)))))] rfl rfl (by decide) (by decide) (by decide) (by decide) rfl rfl rfl rfl ⟨by rw [hR]; decide, by rw [hR]; decide⟩ rfl rfl rfl hl.1 rfl (Nat.le_of_ble_eq_true rfl) d_Face_image_54 ⟨by rw [hR]; decide, by rw [hR]; decide⟩ rfl (fun H locs hP hD hS => ?_)
    refine lv_iconst (v := (1 : Int32)) hx hb d_Face_image_57 (by decide) ?_
    obtain ⟨rfl, rfl, rfl⟩ := sj3 hf
    exact retM C0 (narI _) hQ hP hD hS d_Face_image_58
  · replace hf := iteT c3 hf
    refine lv_aload_n hx hb d_Face_image_8 rfl (lv_at hl 0 rfl) ?_
    refine lv_bipush (v := (-2 : Int32)) hx hb d_Face_image_9 (by decide) ?_
    obtain ⟨x8, sF9, h10, hf⟩ := bd2E hf
    refine vM (Lc := (L_f ty fA rA cA hA pv sF)) (Lc' := (L_f ty fA rA cA hA pv sF9)) (L' := (L_fiho ty fA rA cA hA oA kA pv sF9 sI sH sO)) (q0 := 0) (ci := 10) (rest := []) C0 (c_Face_refuseBad l D ty fA rA cA hA pv H.size sF (-2 : Int32) x8 sF9 h10) k_237 cal_Face_refuseBad hK hP hD hS hAq [0] [1, 2, 3, 4, 5, 6, 7, 8, 9, 10, 11, 12, 13, 14, 15] [15, 0, 1, 2, 3, 4, 5, 6, 7, 8, 9, 10, 11, 12, 13, 14] [(fA 4, .inl (ty 4, 2, .inr (.inr (.inr (.inr sI))))), (hA 0, .inr (6, [.ref (kA 0), .ref (hA 2), .ref (hA 3), .ref (hA 4), .ref (hA 5), .ref (hA 6), .ref (hA 7), .int (sH 7 0), .int (sH 8 0), .int (sH 9 0), .int (sH 10 0), .int (sH 11 0), .int (sH 12 0), .int (sH 13 0), .int (sH 14 0)])), (hA 2, .inl (ty 0, 2, .inl (sH 1))), (hA 3, .inl (ty 0, 2, .inl (sH 2))), (hA 4, .inl (ty 0, 6, .inl (sH 3))), (hA 5, .inl (ty 0, 6, .inl (sH 4))), (hA 6, .inl (ty 0, 30, .inl (sH 5))), (hA 7, .inl (ty 0, 32, .inl (sH 6))), (oA 0, .inr (6, [.ref (kA 0), .ref (oA 2), .ref (oA 3), .ref (oA 4), .ref (oA 5), .ref (oA 6), .ref (oA 7), .int (sO 7 0), .int (sO 8 0), .int (sO 9 0), .int (sO 10 0), .int (sO 11 0), .int (sO 12 0), .int (sO 13 0), .int (sO 14 0)])), (oA 2, .inl (ty 0, 2, .inl (sO 1))), (oA 3, .inl (ty 0, 2, .inl (sO 2))), (oA 4, .inl (ty 0, 6, .inl (sO 3))), (oA 5, .inl (ty 0, 6, .inl (sO 4))), (oA 6, .inl (ty 0, 30, .inl (sO 5))), (oA 7, .inl (ty 0, 32, .inl (sO 6)))] rfl rfl (by decide) (by decide) (by decide) (by decide) rfl rfl rfl rfl ⟨by rw [hR]; decide, by rw [hR]; decide⟩ rfl rfl rfl hl.1 rfl (Nat.le_of_ble_eq_true rfl) d_Face_image_11 ⟨by rw [hR]; decide, by rw [hR]; decide⟩ rfl (fun H locs hP hD hS => ?_)
    obtain ⟨rfl, rfl, rfl⟩ := sj3 hf
    exact retM C0 (narI _) hQ hP hD hS d_Face_image_14
def f_Face_image_a (sF : PW) (sI : Nat → Option Nat) (sH : PW) (a1 : Int32) : Option (Int32 × PW) :=
  bd (f_Face_within a1 (1 : Int32)) (fun x1 => (if x1 = 0 then none else gd (okI a1 2) (bd (f_House_start pz 1) (fun sO5 => gd (okI a1 2) (bd (f_House_takeFrom sO5 sH) (fun sH8 => some ((1 : Int32), sH8)))))))
set_option maxHeartbeats 4000000 in
set_option maxRecDepth 100000 in
theorem c_Face_image_a (l : Launch) (D : va_G) (ty : Nat → ClassId) (fA rA cA hA kA : Nat → Nat) (pv : Value) (sz : Nat) (sF : PW) (sI : Nat → Option Nat) (sH : PW) (a1 : Int32) (rr : Int32) (tO : PW) (hI : okI a1 2 = true → sI a1.toNatClampNeg = none) (hf : f_Face_image_a sF sI sH a1 = some (rr, tO)) : Met l y_Face_image (Cond.code y_Face_image prog_1_method_30_code 2 ((Option.some FieldType.int)) :: lw_ok) { frames := 2, cells := 7, slots := 93, locals := 81 } (PcM D ty [.ref (fA 0), .int a1] sz (L_fih ty fA rA cA hA kA pv sF sI sH)) (QP (fun A H => ∃ oA : Nat → Nat, va_P D vwCl (L_fiho ty fA rA cA hA oA kA pv sF (va_up sI (a1).toNatClampNeg (some (oA 0))) sH tO) H ∧ va_D A (L_fiho ty fA rA cA hA oA kA pv sF (va_up sI (a1).toNatClampNeg (some (oA 0))) sH tO)) (va_A (L_fih ty fA rA cA hA kA pv sF sI sH) sz) (some (.int rr))) 7 93 (va_A (L_fih ty fA rA cA hA kA pv sF sI sH) sz) := by
  refine hdP (by decide) (Nat.le_of_ble_eq_true rfl) ?_
  intro p e s m below meth c ls R args Q A C0 hR hQ hnm hAq hP hK hD hS hl
  obtain ⟨hx, hb, hr, hlk, hml, hown, htt⟩ := id C0
  have hl : lv_has ls 2 [(0, .ref (fA 0)), (1, .int a1)] := hl
  generalize hH0 : s.heap = H at hP hS ⊢
  have hS : va_S A s.heap H [] := by rw [hH0]; exact hS
  unfold f_Face_image_a at hf
  refine lv_iload_n hx hb d_Face_image_0 rfl (lv_at hl 1 rfl) ?_
  refine lv_iconst (v := (1 : Int32)) hx hb d_Face_image_1 (by decide) ?_
  obtain ⟨x1, h2, hf⟩ := bdE hf
  refine scR (rest := []) C0 (c_Face_within l D ty a1 (1 : Int32) x1 h2) k_234 cal_Face_within hK (va_P_nil) ⟨by rw [hR]; decide, by rw [hR]; decide⟩ rfl rfl rfl hl.1 rfl (Nat.le_of_ble_eq_true rfl) d_Face_image_2 ⟨Nat.zero_le _, Nat.zero_le _⟩ rfl ?_
  refine lv_if_ne (tgt := 15) hx hb d_Face_image_5 (by decide) (fun c3 => ?_) (fun c3 => ?_)
  · replace hf := iteF c3 hf
    refine lv_aload_n hx hb d_Face_image_15 rfl (lv_at hl 0 rfl) ?_
    refine va_get (D := D) (ci := 10) (v := .ref (fA 4)) (C := "BedFrontier") (T := T_Face) (N := 10) hx hb htt i_Face hown hK.1 hP 0 rfl rfl 3 (by decide) (htt _ k_202) (fun _ h9 => h9) rfl d_Face_image_16 ?_
    refine lv_iload_n hx hb d_Face_image_19 rfl (lv_at hl 1 rfl) ?_
    obtain ⟨g4, hf⟩ := gdE hf
    refine aldIn hx hb hK.1 hP 1 4 rfl rfl (okI_in g4) (hI g4) d_Face_image_20 ?_
    refine lv_ifnonnullN hx hb d_Face_image_21 ?_
    refine lv_aload_n hx hb d_Face_image_24 rfl (lv_at hl 0 rfl) ?_
    refine va_get (D := D) (ci := 10) (v := .ref (fA 4)) (C := "BedFrontier") (T := T_Face) (N := 10) hx hb htt i_Face hown hK.1 hP 0 rfl rfl 3 (by decide) (htt _ k_202) (fun _ h9 => h9) rfl d_Face_image_25 ?_
    refine lv_iload_n hx hb d_Face_image_28 rfl (lv_at hl 1 rfl) ?_
    refine va_new (ci := 6) (fs := [.null, .null, .null, .null, .null, .null, .null, .int 0, .int 0, .int 0, .int 0, .int 0, .int 0, .int 0, .int 0]) (C := "BedFrontier$House") (T := T_House) (N := 15) hx hb htt i_House t_House t_House_ok hown (htt _ k_70) (htt _ k_71) (htt _ k_8) hK.1 hP hD hS hAq rfl fs_House (by rw [hR]; decide) (by rw [hR]; decide) d_Face_image_29 (fun qN H hP hD hS => ?_)
    refine lv_dup hx hb d_Face_image_32 rfl ?_
    refine lv_aload_n hx hb d_Face_image_33 rfl (lv_at hl 0 rfl) ?_
    refine va_get (D := D) (ci := 10) (v := .ref (hA 0)) (C := "BedFrontier") (T := T_Face) (N := 10) hx hb htt i_Face hown hK.1 hP 0 rfl rfl 0 (by decide) (htt _ k_199) (fun _ h9 => h9) rfl d_Face_image_34 ?_
    refine va_get (D := D) (ci := 6) (v := .ref (kA 0)) (C := "BedFrontier$House") (T := T_House) (N := 15) hx hb htt i_House hown hK.1 hP 2 rfl rfl 0 (by decide) (htt _ k_81) (fun _ h9 => h9) rfl d_Face_image_37 ?_
    obtain ⟨sO5, hs0, hf⟩ := bdE hf
    refine iP (Lc := [(qN, .inr (6, [.null, .null, .null, .null, .null, .null, .null, .int 0, .int 0, .int 0, .int 0, .int 0, .int 0, .int 0, .int 0]))]) (rest := [.ref (qN), .int a1, .ref (fA 4)]) C0 (c_House_init l D ty qN kA H.size sO5 hs0) rfl k_72 cal_House_init hK hP hD hS hAq [9] [0, 1, 2, 3, 4, 5, 6, 7, 8] (L_fih ty fA rA cA hA kA pv sF sI sH) rfl rfl (by decide) (by decide) (by decide) ⟨by rw [hR]; decide, by rw [hR]; decide⟩ rfl rfl rfl hl.1 rfl (Nat.le_of_ble_eq_true rfl) d_Face_image_40 ⟨by rw [hR]; decide, by rw [hR]; decide⟩ (fun H locs hN hJ hS => ?_)
    obtain ⟨oA, e_oA, hP1, hD1⟩ := hN
    subst e_oA
    obtain ⟨hP, hD⟩ := hJ _ hP1 hD1
    refine va_astq hx hb hK.1 hP hD hS 1 4 9 6 rfl rfl rfl rfl (okI_in g4) d_Face_image_43 (fun H locs hP hD hS => ?_)
    obtain ⟨sI6, e_sI6⟩ : ∃ z : Nat → Option Nat, z = va_up sI (a1).toNatClampNeg (some (oA 0)) := ⟨_, rfl⟩
    have hP : va_P D vwCl (L_fiho ty fA rA cA hA oA kA pv sF sI6 sH sO5) H := by rw [e_sI6]; exact hP.sub [0, 1, 2, 3, 4, 5, 6, 7, 8, 9, 10, 11, 12, 13, 14, 15] rfl
    have hD : va_D A (L_fiho ty fA rA cA hA oA kA pv sF sI6 sH sO5) := by rw [e_sI6]; exact hD.sub [0, 1, 2, 3, 4, 5, 6, 7, 8, 9, 10, 11, 12, 13, 14, 15] (by decide) rfl
    refine lv_aload_n hx hb d_Face_image_44 rfl (lv_at hl 0 rfl) ?_
    refine va_get (D := D) (ci := 10) (v := .ref (fA 4)) (C := "BedFrontier") (T := T_Face) (N := 10) hx hb htt i_Face hown hK.1 hP 0 rfl rfl 3 (by decide) (htt _ k_202) (fun _ h9 => h9) rfl d_Face_image_45 ?_
    refine lv_iload_n hx hb d_Face_image_48 rfl (lv_at hl 1 rfl) ?_
    obtain ⟨g7, hf⟩ := gdE hf
    refine aldIs hx hb hK.1 hP 1 4 rfl rfl (okI_in g7) (by rw [e_sI6]; exact va_up_same _ _ _) d_Face_image_49 ?_
    refine lv_aload_n hx hb d_Face_image_50 rfl (lv_at hl 0 rfl) ?_
    refine va_get (D := D) (ci := 10) (v := .ref (hA 0)) (C := "BedFrontier") (T := T_Face) (N := 10) hx hb htt i_Face hown hK.1 hP 0 rfl rfl 0 (by decide) (htt _ k_199) (fun _ h9 => h9) rfl d_Face_image_51 ?_
    obtain ⟨sH8, h9, hf⟩ := bdE hf
    refine vM (Lc := (L_ho ty oA hA kA sO5 sH)) (Lc' := (L_ho ty oA hA kA sH8 sH)) (L' := (L_fiho ty fA rA cA hA oA kA pv sF sI6 sH sH8)) (q0 := 0) (ci := 6) (rest := []) C0 (c_House_takeFrom l D ty oA hA kA H.size sO5 sH sH8 h9) k_381 cal_House_takeFrom hK hP hD hS hAq [9, 10, 11, 12, 13, 14, 15, 2, 3, 4, 5, 6, 7, 8] [0, 1] [0, 1, 9, 10, 11, 12, 13, 14, 15, 2, 3, 4, 5, 6, 7, 8] [(fA 0, .inr (10, [.ref (hA 0), .ref (rA 0), .ref (cA 0), .ref (fA 4), pv, .int (sF 5 0), .int (sF 6 0), .int (sF 7 0), .int (sF 8 0), .int (sF 9 0)])), (fA 4, .inl (ty 4, 2, .inr (.inr (.inr (.inr sI6)))))] rfl rfl (by decide) (by decide) (by decide) (by decide) rfl rfl rfl rfl ⟨by rw [hR]; decide, by rw [hR]; decide⟩ rfl rfl rfl hl.1 rfl (Nat.le_of_ble_eq_true rfl) d_Face_image_54 ⟨by rw [hR]; decide, by rw [hR]; decide⟩ rfl (fun H locs hP hD hS => ?_)
    refine lv_iconst (v := (1 : Int32)) hx hb d_Face_image_57 (by decide) ?_
    obtain ⟨rfl, rfl⟩ := sj2 hf
    subst e_sI6
    exact retPi C0 (narI _) hQ ⟨oA, hP, hD⟩ hS d_Face_image_58
  · replace hf := iteT c3 hf
    refine lv_aload_n hx hb d_Face_image_8 rfl (lv_at hl 0 rfl) ?_
    refine lv_bipush (v := (-2 : Int32)) hx hb d_Face_image_9 (by decide) ?_
    cases hf
def f_Face_from_p (sF : PW) (sI : Nat → Option Nat) (sH : PW) (sO : PW) (a1 : Int32) : Option (Int32 × PW × PW) :=
  bd (f_Face_within a1 (1 : Int32)) (fun x1 => (if x1 = 0 then bd2 (f_Face_refuseBad sF (-2 : Int32)) (fun x8 sF9 => some (x8, sF9, sH)) else gd (okI a1 2) (gd (okI a1 2) (bd (f_House_takeFrom sH sO) (fun sH6 => some ((1 : Int32), sF, sH6))))))
set_option maxHeartbeats 4000000 in
set_option maxRecDepth 100000 in
theorem c_Face_from_p (l : Launch) (D : va_G) (ty : Nat → ClassId) (fA rA cA hA oA kA : Nat → Nat) (pv : Value) (sz : Nat) (sF : PW) (sI : Nat → Option Nat) (sH : PW) (sO : PW) (a1 : Int32) (rr : Int32) (tF : PW) (tH : PW) (hI : okI a1 2 = true → sI a1.toNatClampNeg = some (oA 0)) (hf : f_Face_from_p sF sI sH sO a1 = some (rr, tF, tH)) : Met l y_Face_from (Cond.code y_Face_from prog_1_method_31_code 2 ((Option.some FieldType.int)) :: lw_ok) { frames := 2, cells := 0, slots := 0, locals := 81 } (PcM D ty [.ref (fA 0), .int a1] sz (L_fiho ty fA rA cA hA oA kA pv sF sI sH sO)) (QM D (L_fiho ty fA rA cA hA oA kA pv tF sI tH sO) (va_A (L_fiho ty fA rA cA hA oA kA pv sF sI sH sO) sz) (some (.int rr))) 0 0 (va_A (L_fiho ty fA rA cA hA oA kA pv sF sI sH sO) sz) := by
  refine hdM (by decide) (Nat.le_of_ble_eq_true rfl) ?_
  intro p e s m below meth c ls R args Q A C0 hR hQ hnm hAq hP hK hD hS hl
  obtain ⟨hx, hb, hr, hlk, hml, hown, htt⟩ := id C0
  have hl : lv_has ls 2 [(0, .ref (fA 0)), (1, .int a1)] := hl
  generalize hH0 : s.heap = H at hP hS ⊢
  have hS : va_S A s.heap H [] := by rw [hH0]; exact hS
  unfold f_Face_from_p at hf
  refine lv_iload_n hx hb d_Face_from_0 rfl (lv_at hl 1 rfl) ?_
  refine lv_iconst (v := (1 : Int32)) hx hb d_Face_from_1 (by decide) ?_
  obtain ⟨x1, h2, hf⟩ := bdE hf
  refine scR (rest := []) C0 (c_Face_within l D ty a1 (1 : Int32) x1 h2) k_234 cal_Face_within hK (va_P_nil) ⟨by rw [hR]; decide, by rw [hR]; decide⟩ rfl rfl rfl hl.1 rfl (Nat.le_of_ble_eq_true rfl) d_Face_from_2 ⟨Nat.zero_le _, Nat.zero_le _⟩ rfl ?_
  refine lv_if_ne (tgt := 15) hx hb d_Face_from_5 (by decide) (fun c3 => ?_) (fun c3 => ?_)
  · replace hf := iteF c3 hf
    refine lv_aload_n hx hb d_Face_from_15 rfl (lv_at hl 0 rfl) ?_
    refine va_get (D := D) (ci := 10) (v := .ref (fA 4)) (C := "BedFrontier") (T := T_Face) (N := 10) hx hb htt i_Face hown hK.1 hP 0 rfl rfl 3 (by decide) (htt _ k_202) (fun _ h9 => h9) rfl d_Face_from_16 ?_
    refine lv_iload_n hx hb d_Face_from_19 rfl (lv_at hl 1 rfl) ?_
    obtain ⟨g4, hf⟩ := gdE hf
    refine aldIs hx hb hK.1 hP 1 4 rfl rfl (okI_in g4) (hI g4) d_Face_from_20 ?_
    refine lv_ifnonnull (tgt := 29) hx hb d_Face_from_21 (by decide) ?_
    refine lv_aload_n hx hb d_Face_from_29 rfl (lv_at hl 0 rfl) ?_
    refine va_get (D := D) (ci := 10) (v := .ref (hA 0)) (C := "BedFrontier") (T := T_Face) (N := 10) hx hb htt i_Face hown hK.1 hP 0 rfl rfl 0 (by decide) (htt _ k_199) (fun _ h9 => h9) rfl d_Face_from_30 ?_
    refine lv_aload_n hx hb d_Face_from_33 rfl (lv_at hl 0 rfl) ?_
    refine va_get (D := D) (ci := 10) (v := .ref (fA 4)) (C := "BedFrontier") (T := T_Face) (N := 10) hx hb htt i_Face hown hK.1 hP 0 rfl rfl 3 (by decide) (htt _ k_202) (fun _ h9 => h9) rfl d_Face_from_34 ?_
    refine lv_iload_n hx hb d_Face_from_37 rfl (lv_at hl 1 rfl) ?_
    obtain ⟨g5, hf⟩ := gdE hf
    refine aldIs hx hb hK.1 hP 1 4 rfl rfl (okI_in g5) (hI g5) d_Face_from_38 ?_
    obtain ⟨sH6, h7, hf⟩ := bdE hf
    refine vM (Lc := (L_ho ty hA oA kA sH sO)) (Lc' := (L_ho ty hA oA kA sH6 sO)) (L' := (L_fiho ty fA rA cA hA oA kA pv sF sI sH6 sO)) (q0 := 0) (ci := 6) (rest := []) C0 (c_House_takeFrom l D ty hA oA kA H.size sH sO sH6 h7) k_381 cal_House_takeFrom hK hP hD hS hAq [2, 3, 4, 5, 6, 7, 8, 9, 10, 11, 12, 13, 14, 15] [0, 1] [0, 1, 2, 3, 4, 5, 6, 7, 8, 9, 10, 11, 12, 13, 14, 15] [(fA 0, .inr (10, [.ref (hA 0), .ref (rA 0), .ref (cA 0), .ref (fA 4), pv, .int (sF 5 0), .int (sF 6 0), .int (sF 7 0), .int (sF 8 0), .int (sF 9 0)])), (fA 4, .inl (ty 4, 2, .inr (.inr (.inr (.inr sI)))))] rfl rfl (by decide) (by decide) (by decide) (by decide) rfl rfl rfl rfl ⟨by rw [hR]; decide, by rw [hR]; decide⟩ rfl rfl rfl hl.1 rfl (Nat.le_of_ble_eq_true rfl) d_Face_from_39 ⟨by rw [hR]; decide, by rw [hR]; decide⟩ rfl (fun H locs hP hD hS => ?_)
    refine lv_iconst (v := (1 : Int32)) hx hb d_Face_from_42 (by decide) ?_
    obtain ⟨rfl, rfl, rfl⟩ := sj3 hf
    exact retM C0 (narI _) hQ hP hD hS d_Face_from_43
  · replace hf := iteT c3 hf
    refine lv_aload_n hx hb d_Face_from_8 rfl (lv_at hl 0 rfl) ?_
    refine lv_bipush (v := (-2 : Int32)) hx hb d_Face_from_9 (by decide) ?_
    obtain ⟨x8, sF9, h10, hf⟩ := bd2E hf
    refine vM (Lc := (L_f ty fA rA cA hA pv sF)) (Lc' := (L_f ty fA rA cA hA pv sF9)) (L' := (L_fiho ty fA rA cA hA oA kA pv sF9 sI sH sO)) (q0 := 0) (ci := 10) (rest := []) C0 (c_Face_refuseBad l D ty fA rA cA hA pv H.size sF (-2 : Int32) x8 sF9 h10) k_237 cal_Face_refuseBad hK hP hD hS hAq [0] [1, 2, 3, 4, 5, 6, 7, 8, 9, 10, 11, 12, 13, 14, 15] [15, 0, 1, 2, 3, 4, 5, 6, 7, 8, 9, 10, 11, 12, 13, 14] [(fA 4, .inl (ty 4, 2, .inr (.inr (.inr (.inr sI))))), (hA 0, .inr (6, [.ref (kA 0), .ref (hA 2), .ref (hA 3), .ref (hA 4), .ref (hA 5), .ref (hA 6), .ref (hA 7), .int (sH 7 0), .int (sH 8 0), .int (sH 9 0), .int (sH 10 0), .int (sH 11 0), .int (sH 12 0), .int (sH 13 0), .int (sH 14 0)])), (hA 2, .inl (ty 0, 2, .inl (sH 1))), (hA 3, .inl (ty 0, 2, .inl (sH 2))), (hA 4, .inl (ty 0, 6, .inl (sH 3))), (hA 5, .inl (ty 0, 6, .inl (sH 4))), (hA 6, .inl (ty 0, 30, .inl (sH 5))), (hA 7, .inl (ty 0, 32, .inl (sH 6))), (oA 0, .inr (6, [.ref (kA 0), .ref (oA 2), .ref (oA 3), .ref (oA 4), .ref (oA 5), .ref (oA 6), .ref (oA 7), .int (sO 7 0), .int (sO 8 0), .int (sO 9 0), .int (sO 10 0), .int (sO 11 0), .int (sO 12 0), .int (sO 13 0), .int (sO 14 0)])), (oA 2, .inl (ty 0, 2, .inl (sO 1))), (oA 3, .inl (ty 0, 2, .inl (sO 2))), (oA 4, .inl (ty 0, 6, .inl (sO 3))), (oA 5, .inl (ty 0, 6, .inl (sO 4))), (oA 6, .inl (ty 0, 30, .inl (sO 5))), (oA 7, .inl (ty 0, 32, .inl (sO 6)))] rfl rfl (by decide) (by decide) (by decide) (by decide) rfl rfl rfl rfl ⟨by rw [hR]; decide, by rw [hR]; decide⟩ rfl rfl rfl hl.1 rfl (Nat.le_of_ble_eq_true rfl) d_Face_from_11 ⟨by rw [hR]; decide, by rw [hR]; decide⟩ rfl (fun H locs hP hD hS => ?_)
    obtain ⟨rfl, rfl, rfl⟩ := sj3 hf
    exact retM C0 (narI _) hQ hP hD hS d_Face_from_14
def f_Face_from_n (sF : PW) (sI : Nat → Option Nat) (a1 : Int32) : Option (Int32 × PW) :=
  bd (f_Face_within a1 (1 : Int32)) (fun x1 => (if x1 = 0 then bd2 (f_Face_refuseBad sF (-2 : Int32)) (fun x8 sF9 => some (x8, sF9)) else gd (okI a1 2) (bd2 (f_Face_refuseNo sF) (fun x5 sF6 => some (x5, sF6)))))
set_option maxHeartbeats 4000000 in
set_option maxRecDepth 100000 in
theorem c_Face_from_n (l : Launch) (D : va_G) (ty : Nat → ClassId) (fA rA cA hA : Nat → Nat) (pv : Value) (sz : Nat) (sF : PW) (sI : Nat → Option Nat) (a1 : Int32) (rr : Int32) (tF : PW) (hI : okI a1 2 = true → sI a1.toNatClampNeg = none) (hf : f_Face_from_n sF sI a1 = some (rr, tF)) : Met l y_Face_from (Cond.code y_Face_from prog_1_method_31_code 2 ((Option.some FieldType.int)) :: lw_ok) { frames := 1, cells := 0, slots := 0, locals := 21 } (PcM D ty [.ref (fA 0), .int a1] sz (L_fi ty fA rA cA hA pv sF sI)) (QM D (L_fi ty fA rA cA hA pv tF sI) (va_A (L_fi ty fA rA cA hA pv sF sI) sz) (some (.int rr))) 0 0 (va_A (L_fi ty fA rA cA hA pv sF sI) sz) := by
  refine hdM (by decide) (Nat.le_of_ble_eq_true rfl) ?_
  intro p e s m below meth c ls R args Q A C0 hR hQ hnm hAq hP hK hD hS hl
  obtain ⟨hx, hb, hr, hlk, hml, hown, htt⟩ := id C0
  have hl : lv_has ls 2 [(0, .ref (fA 0)), (1, .int a1)] := hl
  generalize hH0 : s.heap = H at hP hS ⊢
  have hS : va_S A s.heap H [] := by rw [hH0]; exact hS
  unfold f_Face_from_n at hf
  refine lv_iload_n hx hb d_Face_from_0 rfl (lv_at hl 1 rfl) ?_
  refine lv_iconst (v := (1 : Int32)) hx hb d_Face_from_1 (by decide) ?_
  obtain ⟨x1, h2, hf⟩ := bdE hf
  refine scR (rest := []) C0 (c_Face_within l D ty a1 (1 : Int32) x1 h2) k_234 cal_Face_within hK (va_P_nil) ⟨by rw [hR]; decide, by rw [hR]; decide⟩ rfl rfl rfl hl.1 rfl (Nat.le_of_ble_eq_true rfl) d_Face_from_2 ⟨Nat.zero_le _, Nat.zero_le _⟩ rfl ?_
  refine lv_if_ne (tgt := 15) hx hb d_Face_from_5 (by decide) (fun c3 => ?_) (fun c3 => ?_)
  · replace hf := iteF c3 hf
    refine lv_aload_n hx hb d_Face_from_15 rfl (lv_at hl 0 rfl) ?_
    refine va_get (D := D) (ci := 10) (v := .ref (fA 4)) (C := "BedFrontier") (T := T_Face) (N := 10) hx hb htt i_Face hown hK.1 hP 0 rfl rfl 3 (by decide) (htt _ k_202) (fun _ h9 => h9) rfl d_Face_from_16 ?_
    refine lv_iload_n hx hb d_Face_from_19 rfl (lv_at hl 1 rfl) ?_
    obtain ⟨g4, hf⟩ := gdE hf
    refine aldIn hx hb hK.1 hP 1 4 rfl rfl (okI_in g4) (hI g4) d_Face_from_20 ?_
    refine lv_ifnonnullN hx hb d_Face_from_21 ?_
    refine lv_aload_n hx hb d_Face_from_24 rfl (lv_at hl 0 rfl) ?_
    obtain ⟨x5, sF6, h7, hf⟩ := bd2E hf
    refine vM (Lc := (L_f ty fA rA cA hA pv sF)) (Lc' := (L_f ty fA rA cA hA pv sF6)) (L' := (L_fi ty fA rA cA hA pv sF6 sI)) (q0 := 0) (ci := 10) (rest := []) C0 (c_Face_refuseNo l D ty fA rA cA hA pv H.size sF x5 sF6 h7) k_428 cal_Face_refuseNo hK hP hD hS hAq [0] [1] [1, 0] [(fA 4, .inl (ty 4, 2, .inr (.inr (.inr (.inr sI)))))] rfl rfl (by decide) (by decide) (by decide) (by decide) rfl rfl rfl rfl ⟨by rw [hR]; decide, by rw [hR]; decide⟩ rfl rfl rfl hl.1 rfl (Nat.le_of_ble_eq_true rfl) d_Face_from_25 ⟨by rw [hR]; decide, by rw [hR]; decide⟩ rfl (fun H locs hP hD hS => ?_)
    obtain ⟨rfl, rfl⟩ := sj2 hf
    exact retM C0 (narI _) hQ hP hD hS d_Face_from_28
  · replace hf := iteT c3 hf
    refine lv_aload_n hx hb d_Face_from_8 rfl (lv_at hl 0 rfl) ?_
    refine lv_bipush (v := (-2 : Int32)) hx hb d_Face_from_9 (by decide) ?_
    obtain ⟨x8, sF9, h10, hf⟩ := bd2E hf
    refine vM (Lc := (L_f ty fA rA cA hA pv sF)) (Lc' := (L_f ty fA rA cA hA pv sF9)) (L' := (L_fi ty fA rA cA hA pv sF9 sI)) (q0 := 0) (ci := 10) (rest := []) C0 (c_Face_refuseBad l D ty fA rA cA hA pv H.size sF (-2 : Int32) x8 sF9 h10) k_237 cal_Face_refuseBad hK hP hD hS hAq [0] [1] [1, 0] [(fA 4, .inl (ty 4, 2, .inr (.inr (.inr (.inr sI)))))] rfl rfl (by decide) (by decide) (by decide) (by decide) rfl rfl rfl rfl ⟨by rw [hR]; decide, by rw [hR]; decide⟩ rfl rfl rfl hl.1 rfl (Nat.le_of_ble_eq_true rfl) d_Face_from_11 ⟨by rw [hR]; decide, by rw [hR]; decide⟩ rfl (fun H locs hP hD hS => ?_)
    obtain ⟨rfl, rfl⟩ := sj2 hf
    exact retM C0 (narI _) hQ hP hD hS d_Face_from_14
