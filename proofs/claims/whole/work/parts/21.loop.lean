def Ops (Rel : Relt) : Prop := Op_house Rel ∧ Op_rate Rel ∧ Op_bar Rel ∧ Op_doing Rel ∧ Op_type Rel ∧ Op_clear Rel ∧ Op_read Rel ∧ Op_does Rel ∧ Op_waits Rel ∧ Op_war Rel ∧ Op_undo Rel ∧ Op_of Rel ∧ Op_now Rel ∧ Op_due Rel ∧ Op_both Rel ∧ Op_least Rel ∧ Op_before Rel ∧ Op_child Rel ∧ Op_where Rel ∧ Op_bars Rel ∧ Op_note Rel ∧ Op_forget Rel ∧ Op_is Rel ∧ Op_look Rel ∧ Op_wars Rel ∧ Op_sentry Rel ∧ Op_days Rel ∧ Op_part Rel ∧ Op_image Rel ∧ Op_from Rel ∧ Op_status Rel ∧ Op_count Rel ∧ Op_digest Rel
theorem sb_toInt {a b : Int32} (h : -2147483648 ≤ a.toInt - b.toInt) (h2 : a.toInt - b.toInt < 2147483648) : (a - b).toInt = a.toInt - b.toInt := by
  rw [Int32.toInt_sub]
  exact Int.bmod_eq_of_le (by omega) (by omega)
theorem lp_in {i L : Nat} (hi : i ≤ 390) (hL : L ≤ 384) (h : ¬ Int32.ofNat L - 6 < nI i) : i + 6 ≤ L := by
  have e1 : (Int32.ofNat L).toInt = L := nI_toInt (by omega)
  have e2 : (6 : Int32).toInt = 6 := by decide
  have e3 : (nI i).toInt = i := nI_toInt (by omega)
  rw [Int32.lt_iff_toInt_lt, sb_toInt (by omega) (by omega), e1, e2, e3] at h
  omega
theorem sw_in {x : Int32} (h : ¬ (x.toInt < 0 ∨ 32 < x.toInt)) : ∃ j : Nat, j < 33 ∧ x = nI j := by
  refine ⟨x.toInt.toNat, by omega, Int32.toInt_inj.mp ?_⟩
  rw [nI_toInt (by omega)]
  omega
set_option maxHeartbeats 4000000 in
set_option maxRecDepth 100000 in
theorem lw_loop {p : Program} {l : Launch} {e : Env} {s : State} {m : MethodId} {below : List Frame} {meth : Method} {c : Code} {b L : Nat} {xs : Nat → Int32} {D : va_G} {ty : Nat → ClassId} {fA mA rA gA cA hA kA aK aV : Nat → Nat} {Rel : Relt} (hC : LC p s m meth c b L xs D ty aK aV) (hO : Ops Rel) : ∀ n i : Nat, L ≤ i + n → i ≤ 390 → Nx p l e s m below meth c b D ty fA mA rA gA cA hA kA Rel 18 i (1000 + 10 * i) (10000 + 4000 * i) := by
  obtain ⟨q_house, q_rate, q_bar, q_doing, q_type, q_clear, q_read, q_does, q_waits, q_war, q_undo, q_of, q_now, q_due, q_both, q_least, q_before, q_child, q_where, q_bars, q_note, q_forget, q_is, q_look, q_wars, q_sentry, q_days, q_part, q_image, q_from, q_status, q_count, q_digest⟩ := hO
  obtain ⟨C0, hK, hT, hX, hbl, hL⟩ := id hC
  obtain ⟨hx, hb, hr, hlk, hml, hown, htt⟩ := id C0
  have hbA : ¬ (fun q => s.heap.size ≤ q) b := Nat.not_le.mpr hbl
  intro n
  induction n with
  | zero =>
    intro i hn hi po o0 o1 sF sM sN sR sG sC sH H locs ls cells slots hRel hw hS hl hcb hsb
    refine lv_iload_n hx hb d_Law_law_18 rfl (lv_at hl 3 rfl) ?_
    refine lv_aload_n hx hb d_Law_law_19 rfl (lv_at hl 0 rfl) ?_
    refine va_slen hx hb hX hbl hbA hS d_Law_law_20 ?_
    refine lv_bipush (v := (6 : Int32)) hx hb d_Law_law_21 (by decide) ?_
    refine lv_isub hx hb d_Law_law_23 ?_
    refine lv_icmp_gt (tgt := 1087) hx hb d_Law_law_24 (by decide) (fun _ => ?_) (fun q => absurd (lp_in hi hL q) (by omega))
    refine lv_iconst (v := (1 : Int32)) hx hb d_Law_law_1087 (by decide) ?_
    refine va_forget hS.2.2 ?_
    refine W.widen (k := 600000) (n := 7302250) (by omega) (by omega) ?_
    exact lw_ret hx hb hr hlk d_Law_law_1088
  | succ n ih =>
    intro i hn hi po o0 o1 sF sM sN sR sG sC sH H locs ls cells slots hRel hw hS hl hcb hsb
    have hN : i + 6 ≤ L → Nx p l e s m below meth c b D ty fA mA rA gA cA hA kA Rel 1081 i (1010 + 10 * i) (14000 + 4000 * i) := by
      intro hi6 po o0 o1 sF sM sN sR sG sC sH H locs ls cells slots hRel hw hS hl hcb hsb
      refine lv_iinc (v := nI (i + 6)) (lv' := [(3, .int (nI (i + 6))), (0, .ref b), (1, .ref (fA 0)), (2, .ref (mA 0))]) hx hb d_Law_law_1081 hl (k := 3) rfl (nI_add i 6) (by decide) rfl (fun ls hl => ?_)
      refine lv_goto (tgt := 18) hx hb d_Law_law_1084 (by decide) ?_
      exact ih (i + 6) (by omega) (by omega) po o0 o1 sF sM sN sR sG sC sH H locs ls cells slots hRel hw hS (lv_sub hl [1, 2, 3, 0] rfl) (by omega) (by omega)
    refine lv_iload_n hx hb d_Law_law_18 rfl (lv_at hl 3 rfl) ?_
    refine lv_aload_n hx hb d_Law_law_19 rfl (lv_at hl 0 rfl) ?_
    refine va_slen hx hb hX hbl hbA hS d_Law_law_20 ?_
    refine lv_bipush (v := (6 : Int32)) hx hb d_Law_law_21 (by decide) ?_
    refine lv_isub hx hb d_Law_law_23 ?_
    refine lv_icmp_gt (tgt := 1087) hx hb d_Law_law_24 (by decide) (fun _ => ?_) (fun q => ?_)
    · refine lv_iconst (v := (1 : Int32)) hx hb d_Law_law_1087 (by decide) ?_
      refine va_forget hS.2.2 ?_
      refine W.widen (k := 600000) (n := 7302250) (by omega) (by omega) ?_
      exact lw_ret hx hb hr hlk d_Law_law_1088
    have hi6 := lp_in hi hL q
    have hN := hN hi6
    refine lv_aload_n hx hb d_Law_law_27 rfl (lv_at hl 0 rfl) ?_
    refine lv_iload_n hx hb d_Law_law_28 rfl (lv_at hl 3 rfl) ?_
    refine va_sld hx hb hX hbl hbA hS (vp_in_nI (by omega) (by omega)) d_Law_law_29 ?_
    refine lv_bipush (v := (63 : Int32)) hx hb d_Law_law_30 (by decide) ?_
    refine lv_iand hx hb d_Law_law_32 ?_
    by_cases hsw : (xs (nI i).toNatClampNeg &&& 63).toInt < 0 ∨ 32 < (xs (nI i).toNatClampNeg &&& 63).toInt
    · exact lv_tableOut (tgt := 1081) hx hb d_Law_law_33 hsw (by decide) (hN po o0 o1 sF sM sN sR sG sC sH H locs ls _ _ hRel hw hS hl (by omega) (by omega))
    obtain ⟨j, hj, hxj⟩ := sw_in hsw
    rw [hxj] at hsw ⊢
    clear hxj
    match j, hj with
    | 0, _ => exact lv_tableIn (tgt := 180) hx hb d_Law_law_33 (by decide) (by decide) rfl (by decide) (lc_house hC hN hi6 q_house po o0 o1 sF sM sN sR sG sC sH H locs ls _ _ hRel hw hS hl (by omega) (by omega))
    | 1, _ => exact lv_tableIn (tgt := 203) hx hb d_Law_law_33 (by decide) (by decide) rfl (by decide) (lc_rate hC hN hi6 q_rate po o0 o1 sF sM sN sR sG sC sH H locs ls _ _ hRel hw hS hl (by omega) (by omega))
    | 2, _ => exact lv_tableIn (tgt := 236) hx hb d_Law_law_33 (by decide) (by decide) rfl (by decide) (lc_bar hC hN hi6 q_bar po o0 o1 sF sM sN sR sG sC sH H locs ls _ _ hRel hw hS hl (by omega) (by omega))
    | 3, _ => exact lv_tableIn (tgt := 269) hx hb d_Law_law_33 (by decide) (by decide) rfl (by decide) (lc_doing hC hN hi6 q_doing po o0 o1 sF sM sN sR sG sC sH H locs ls _ _ hRel hw hS hl (by omega) (by omega))
    | 4, _ => exact lv_tableIn (tgt := 302) hx hb d_Law_law_33 (by decide) (by decide) rfl (by decide) (lc_type hC hN hi6 q_type po o0 o1 sF sM sN sR sG sC sH H locs ls _ _ hRel hw hS hl (by omega) (by omega))
    | 5, _ => exact lv_tableIn (tgt := 325) hx hb d_Law_law_33 (by decide) (by decide) rfl (by decide) (lc_clear hC hN hi6 q_clear po o0 o1 sF sM sN sR sG sC sH H locs ls _ _ hRel hw hS hl (by omega) (by omega))
    | 6, _ => exact lv_tableIn (tgt := 338) hx hb d_Law_law_33 (by decide) (by decide) rfl (by decide) (lc_read hC hN hi6 q_read po o0 o1 sF sM sN sR sG sC sH H locs ls _ _ hRel hw hS hl (by omega) (by omega))
    | 7, _ => exact lv_tableIn (tgt := 351) hx hb d_Law_law_33 (by decide) (by decide) rfl (by decide) (lc_does hC hN hi6 q_does po o0 o1 sF sM sN sR sG sC sH H locs ls _ _ hRel hw hS hl (by omega) (by omega))
    | 8, _ => exact lv_tableIn (tgt := 384) hx hb d_Law_law_33 (by decide) (by decide) rfl (by decide) (lc_waits hC hN hi6 q_waits po o0 o1 sF sM sN sR sG sC sH H locs ls _ _ hRel hw hS hl (by omega) (by omega))
    | 9, _ => exact lv_tableIn (tgt := 407) hx hb d_Law_law_33 (by decide) (by decide) rfl (by decide) (lc_war hC hN hi6 q_war po o0 o1 sF sM sN sR sG sC sH H locs ls _ _ hRel hw hS hl (by omega) (by omega))
    | 10, _ => exact lv_tableIn (tgt := 430) hx hb d_Law_law_33 (by decide) (by decide) rfl (by decide) (lc_undo hC hN hi6 q_undo po o0 o1 sF sM sN sR sG sC sH H locs ls _ _ hRel hw hS hl (by omega) (by omega))
    | 11, _ => exact lv_tableIn (tgt := 443) hx hb d_Law_law_33 (by decide) (by decide) rfl (by decide) (lc_of hC hN hi6 q_of po o0 o1 sF sM sN sR sG sC sH H locs ls _ _ hRel hw hS hl (by omega) (by omega))
    | 12, _ => exact lv_tableIn (tgt := 476) hx hb d_Law_law_33 (by decide) (by decide) rfl (by decide) (lc_now hC hN hi6 q_now po o0 o1 sF sM sN sR sG sC sH H locs ls _ _ hRel hw hS hl (by omega) (by omega))
    | 13, _ => exact lv_tableIn (tgt := 499) hx hb d_Law_law_33 (by decide) (by decide) rfl (by decide) (lc_due hC hN hi6 q_due po o0 o1 sF sM sN sR sG sC sH H locs ls _ _ hRel hw hS hl (by omega) (by omega))
    | 14, _ => exact lv_tableIn (tgt := 542) hx hb d_Law_law_33 (by decide) (by decide) rfl (by decide) (lc_both hC hN hi6 q_both po o0 o1 sF sM sN sR sG sC sH H locs ls _ _ hRel hw hS hl (by omega) (by omega))
    | 15, _ => exact lv_tableIn (tgt := 575) hx hb d_Law_law_33 (by decide) (by decide) rfl (by decide) (lc_least hC hN hi6 q_least po o0 o1 sF sM sN sR sG sC sH H locs ls _ _ hRel hw hS hl (by omega) (by omega))
    | 16, _ => exact lv_tableIn (tgt := 598) hx hb d_Law_law_33 (by decide) (by decide) rfl (by decide) (lc_before hC hN hi6 q_before po o0 o1 sF sM sN sR sG sC sH H locs ls _ _ hRel hw hS hl (by omega) (by omega))
    | 17, _ => exact lv_tableIn (tgt := 651) hx hb d_Law_law_33 (by decide) (by decide) rfl (by decide) (lc_child hC hN hi6 q_child po o0 o1 sF sM sN sR sG sC sH H locs ls _ _ hRel hw hS hl (by omega) (by omega))
    | 18, _ => exact lv_tableIn (tgt := 674) hx hb d_Law_law_33 (by decide) (by decide) rfl (by decide) (lc_where hC hN hi6 q_where po o0 o1 sF sM sN sR sG sC sH H locs ls _ _ hRel hw hS hl (by omega) (by omega))
    | 19, _ => exact lv_tableIn (tgt := 697) hx hb d_Law_law_33 (by decide) (by decide) rfl (by decide) (lc_bars hC hN hi6 q_bars po o0 o1 sF sM sN sR sG sC sH H locs ls _ _ hRel hw hS hl (by omega) (by omega))
    | 20, _ => exact lv_tableIn (tgt := 720) hx hb d_Law_law_33 (by decide) (by decide) rfl (by decide) (lc_note hC hN hi6 q_note po o0 o1 sF sM sN sR sG sC sH H locs ls _ _ hRel hw hS hl (by omega) (by omega))
    | 21, _ => exact lv_tableIn (tgt := 783) hx hb d_Law_law_33 (by decide) (by decide) rfl (by decide) (lc_forget hC hN hi6 q_forget po o0 o1 sF sM sN sR sG sC sH H locs ls _ _ hRel hw hS hl (by omega) (by omega))
    | 22, _ => exact lv_tableIn (tgt := 796) hx hb d_Law_law_33 (by decide) (by decide) rfl (by decide) (lc_is hC hN hi6 q_is po o0 o1 sF sM sN sR sG sC sH H locs ls _ _ hRel hw hS hl (by omega) (by omega))
    | 23, _ => exact lv_tableIn (tgt := 819) hx hb d_Law_law_33 (by decide) (by decide) rfl (by decide) (lc_look hC hN hi6 q_look po o0 o1 sF sM sN sR sG sC sH H locs ls _ _ hRel hw hS hl (by omega) (by omega))
    | 24, _ => exact lv_tableIn (tgt := 852) hx hb d_Law_law_33 (by decide) (by decide) rfl (by decide) (lc_wars hC hN hi6 q_wars po o0 o1 sF sM sN sR sG sC sH H locs ls _ _ hRel hw hS hl (by omega) (by omega))
    | 25, _ => exact lv_tableIn (tgt := 885) hx hb d_Law_law_33 (by decide) (by decide) rfl (by decide) (lc_sentry hC hN hi6 q_sentry po o0 o1 sF sM sN sR sG sC sH H locs ls _ _ hRel hw hS hl (by omega) (by omega))
    | 26, _ => exact lv_tableIn (tgt := 918) hx hb d_Law_law_33 (by decide) (by decide) rfl (by decide) (lc_days hC hN hi6 q_days po o0 o1 sF sM sN sR sG sC sH H locs ls _ _ hRel hw hS hl (by omega) (by omega))
    | 27, _ => exact lv_tableIn (tgt := 951) hx hb d_Law_law_33 (by decide) (by decide) rfl (by decide) (lc_part hC hN hi6 q_part po o0 o1 sF sM sN sR sG sC sH H locs ls _ _ hRel hw hS hl (by omega) (by omega))
    | 28, _ => exact lv_tableIn (tgt := 975) hx hb d_Law_law_33 (by decide) (by decide) rfl (by decide) (lc_image hC hN hi6 q_image po o0 o1 sF sM sN sR sG sC sH H locs ls _ _ hRel hw hS hl (by omega) (by omega))
    | 29, _ => exact lv_tableIn (tgt := 998) hx hb d_Law_law_33 (by decide) (by decide) rfl (by decide) (lc_from hC hN hi6 q_from po o0 o1 sF sM sN sR sG sC sH H locs ls _ _ hRel hw hS hl (by omega) (by omega))
    | 30, _ => exact lv_tableIn (tgt := 1021) hx hb d_Law_law_33 (by decide) (by decide) rfl (by decide) (lc_status hC hN hi6 q_status po o0 o1 sF sM sN sR sG sC sH H locs ls _ _ hRel hw hS hl (by omega) (by omega))
    | 31, _ => exact lv_tableIn (tgt := 1044) hx hb d_Law_law_33 (by decide) (by decide) rfl (by decide) (lc_count hC hN hi6 q_count po o0 o1 sF sM sN sR sG sC sH H locs ls _ _ hRel hw hS hl (by omega) (by omega))
    | 32, _ => exact lv_tableIn (tgt := 1067) hx hb d_Law_law_33 (by decide) (by decide) rfl (by decide) (lc_digest hC hN hi6 q_digest po o0 o1 sF sM sN sR sG sC sH H locs ls _ _ hRel hw hS hl (by omega) (by omega))
    | j + 33, hj => exact absurd hj (by omega)
theorem flat_mem {args : Array Value} {s : State} {T w : Cond} (h : T.before args s = true) (hw : w ∈ flatC T) : w.before args s = true := flat_of_before T h w hw
def tmS : Nat → Term := fun i => match i with
  | 0 => .string "BedFrontier$Reader" 45
  | 1 => .string "BedFrontier$Reader" 55
  | 2 => .string "BedFrontier$Reader" 60
  | 3 => .string "BedFrontier$Reader" 65
  | _ => .string "BedFrontier$Reader" 70
def flatG : List Cond := flatC (Jvm.Cond.and given_1 narrow_1)
theorem fg_ex : ∀ i : Nat, i < 5 → Cond.exactly (tmS i) "java/lang/String" ∈ flatG := by decide +kernel
theorem fg_co : ∀ i : Nat, i < 5 → Cond.eq (.field (tmS i) "java/lang/String" "coder" "B") (.int 0) ∈ flatG := by decide +kernel
theorem fg_ar : ∀ i : Nat, i < 5 → Cond.arrayOf (.field (tmS i) "java/lang/String" "value" "[B") .byte ∈ flatG := by decide +kernel
theorem fg_le : ∀ i : Nat, i < 5 → Cond.eq (.length (.field (tmS i) "java/lang/String" "value" "[B")) (.int (Int32.ofNat (lenS.getD i 0))) ∈ flatG := by decide +kernel
theorem fg_el : ∀ i : Nat, i < 5 → ∀ j : Nat, j < lenS.getD i 0 → Cond.eq (.elem (.field (tmS i) "java/lang/String" "value" "[B") (.int (Int32.ofNat j))) (.int ((bytS.getD i []).getD j 0)) ∈ flatG := by decide +kernel
theorem fg_ne : ∀ i : Nat, i < 5 → ∀ j : Nat, j < 5 → i ≠ j → (Cond.not (Cond.eq (tmS i) (tmS j)) ∈ flatG ∨ Cond.not (Cond.eq (tmS j) (tmS i)) ∈ flatG) := by decide +kernel
theorem tx_of {b : Nat} {s : State} (hts : ∀ w ∈ lw_tbl, w.before #[Value.ref b] s = true) (hgv : (Jvm.Cond.and given_1 narrow_1).before #[Value.ref b] s = true) : ∃ aK aV : Nat → Nat, TX aK aV (fun q => s.heap.size ≤ q) s s.heap := by
  have hf := flat_of_before _ hgv
  have hA : ∀ a : Nat, a < s.heap.size → ¬ s.heap.size ≤ a := fun a h => Nat.not_le.mpr h
  obtain ⟨aK, aV, hS, hE⟩ := vk_Sof (N := 5) (tm := tmS) (len := lenS) (byt := bytS) (A := fun q => s.heap.size ≤ q) (by decide) (fun i hi => hf _ (fg_ex i hi)) (fun i hi => hf _ (fg_co i hi)) (fun i hi => hf _ (fg_ar i hi)) (fun i hi => hf _ (fg_le i hi)) (fun i hi j hj => hf _ (fg_el i hi j hj)) (fun i j hi hj hij => (fg_ne i hi j hj hij).imp (hf _) (hf _)) hA
  refine ⟨aK, aV, hS, va_Zof (hts _ (by decide +kernel)) (hts _ (by decide +kernel)) (va_eqt (hf (Cond.eq (.static "java/lang/String" "COMPACT_STRINGS" "Z") (.int 1)) (by decide +kernel))) hA, va_Zqof (hts _ (by decide +kernel)) (hts _ (by decide +kernel)) (hf _ (by decide +kernel)) hA, vk_R.of (hts _ k_302) (hE 0 (by decide)), vk_R.of (hts _ k_364) (hE 1 (by decide)), vk_R.of (hts _ k_369) (hE 2 (by decide)), vk_R.of (hts _ k_374) (hE 3 (by decide)), vk_R.of (hts _ k_380) (hE 4 (by decide))⟩
theorem nest_in : ∀ q ∈ nestL, Cond.methodLinkNest q.1 q.2.1 q.2.2.1 q.2.2.2 ∈ lw_tbl := by decide +kernel
theorem cast_in : ∀ q ∈ castL, Cond.castable q.1 q.2 ∈ lw_tbl := by decide +kernel
set_option maxRecDepth 100000 in
theorem kk_of {b : Nat} {s : State} (hts : ∀ w ∈ lw_tbl, w.before #[Value.ref b] s = true) : ∃ (D : va_G) (ty : Nat → ClassId), KK D ty s := by
  have htt : ∀ w ∈ lw_ok, w.before #[Value.ref b] s = true := fun w hw => hts w (List.mem_filter.mp hw).1
  obtain ⟨c0, iS0, hKn0⟩ := u_known (C := "BedFrontier$Plain") (T := T_Plain) (N := 0) (n := 0) htt i_Plain (htt (.instantiable "BedFrontier$Plain" 0) k_29)
  obtain ⟨c1, iS1, hKn1⟩ := u_known (C := "BedFrontier$Kiss") (T := T_Kiss) (N := 0) (n := 0) htt i_Kiss (htt (.instantiable "BedFrontier$Kiss" 0) k_36)
  obtain ⟨c2, iS2, hKn2⟩ := u_known (C := "BedFrontier$Quarrel") (T := T_Quarrel) (N := 0) (n := 0) htt i_Quarrel (htt (.instantiable "BedFrontier$Quarrel" 0) k_43)
  obtain ⟨c3, iS3, hKn3⟩ := u_known (C := "BedFrontier$Snoring") (T := T_Snoring) (N := 0) (n := 0) htt i_Snoring (htt (.instantiable "BedFrontier$Snoring" 0) k_50)
  obtain ⟨c4, iS4, hKn4⟩ := u_known (C := "BedFrontier$Cat") (T := T_Cat) (N := 0) (n := 0) htt i_Cat (htt (.instantiable "BedFrontier$Cat" 0) k_57)
  obtain ⟨c5, iS5, hKn5⟩ := u_known (C := "BedFrontier$Lamp") (T := T_Lamp) (N := 0) (n := 0) htt i_Lamp (htt (.instantiable "BedFrontier$Lamp" 0) k_64)
  obtain ⟨c6, iS6, hKn6⟩ := u_known (C := "BedFrontier$House") (T := T_House) (N := 15) (n := 15) htt i_House (htt (.instantiable "BedFrontier$House" 15) k_71)
  obtain ⟨c7, iS7, hKn7⟩ := u_known (C := "BedFrontier$Reader") (T := T_Reader) (N := 7) (n := 7) htt i_Reader (htt (.instantiable "BedFrontier$Reader" 7) k_155)
  obtain ⟨c8, iS8, hKn8⟩ := u_known (C := "BedFrontier$Clerk") (T := T_Clerk) (N := 2) (n := 2) htt i_Clerk (htt (.instantiable "BedFrontier$Clerk" 2) k_186)
  obtain ⟨c9, iS9, hKn9⟩ := u_known (C := "BedFrontier$Planner") (T := T_Planner) (N := 3) (n := 3) htt i_Planner (htt (.instantiable "BedFrontier$Planner" 3) k_528)
  obtain ⟨c10, iS10, hKn10⟩ := u_known (C := "BedFrontier") (T := T_Face) (N := 10) (n := 10) htt i_Face (htt (.instantiable "BedFrontier" 10) k_20)
  obtain ⟨c11, iS11, hKn11⟩ := u_known (C := "BedFrontierModel") (T := T_Model) (N := 22) (n := 22) htt i_Model (htt (.instantiable "BedFrontierModel" 22) k_763)
  obtain ⟨t0, kt0, ct0, f0, g0, h0⟩ := Cond.arrayClass_spec (htt (.arrayClass .int) k_153)
  obtain ⟨t1, kt1, ct1, f1, g1, h1⟩ := Cond.arrayClass_spec (htt (.arrayClass .byte) k_184)
  obtain ⟨t2, kt2, ct2, f2, g2, h2⟩ := Cond.arrayClass_spec (htt (.arrayClass .boolean) k_839)
  obtain ⟨ct3, t3, kt3, f3, -, g3, h3, e3⟩ := Cond.arrayOver_spec (hts (.arrayOver (.object "BedFrontier$Plain")) k_28)
  obtain ⟨ct4, t4, kt4, f4, -, g4, h4, e4⟩ := Cond.arrayOver_spec (hts (.arrayOver (.object "BedFrontier$House")) k_198)
  refine ⟨(fun k => match k with | 0 => c0 | 1 => c1 | 2 => c2 | 3 => c3 | 4 => c4 | 5 => c5 | 6 => c6 | 7 => c7 | 8 => c8 | 9 => c9 | 10 => c10 | _ => c11, fun k => match k with | 0 => iS0 | 1 => iS1 | 2 => iS2 | 3 => iS3 | 4 => iS4 | 5 => iS5 | 6 => iS6 | 7 => iS7 | 8 => iS8 | 9 => iS9 | 10 => iS10 | _ => iS11), fun k => match k with | 0 => t0 | 1 => t1 | 2 => t2 | 3 => t3 | _ => t4, ⟨fun k q hq => ?_, fun k q hq => ?_⟩, ?_, ?_, va_AO.of (hts _ k_28), va_AO.of (hts _ k_198)⟩
  · match k, hq with
    | 0, hq => cases hq; exact hKn0
    | 1, hq => cases hq; exact hKn1
    | 2, hq => cases hq; exact hKn2
    | 3, hq => cases hq; exact hKn3
    | 4, hq => cases hq; exact hKn4
    | 5, hq => cases hq; exact hKn5
    | 6, hq => cases hq; exact hKn6
    | 7, hq => cases hq; exact hKn7
    | 8, hq => cases hq; exact hKn8
    | 9, hq => cases hq; exact hKn9
    | 10, hq => cases hq; exact hKn10
    | 11, hq => cases hq; exact hKn11
    | k + 12, hq => simp at hq
  · match k, hq with
    | 0, hq => cases hq; exact ⟨fun n z => ⟨fun k h => (by cases h), kt0, g0, ct0, h0⟩, f0⟩
    | 1, hq => cases hq; exact ⟨fun n z => ⟨fun k h => (by cases h), kt1, g1, ct1, h1⟩, f1⟩
    | 2, hq => cases hq; exact ⟨fun n z => ⟨fun k h => (by cases h), kt2, g2, ct2, h2⟩, f2⟩
    | 3, hq => cases hq; exact ⟨fun n z => ⟨fun k h => (by cases h), kt3, g3, ct3, h3⟩, kt3, ct3, g3, h3, f3, e3⟩
    | 4, hq => cases hq; exact ⟨fun n z => ⟨fun k h => (by cases h), kt4, g4, ct4, h4⟩, kt4, ct4, g4, h4, f4, e4⟩
    | k + 5, hq => simp at hq
  · intro q hq
    exact va_Nw.of rfl (hts _ (nest_in q hq))
  · intro q hq
    exact va_Nw.of rfl (hts _ (cast_in q hq))
theorem im_nn : imO none none = (fun _ => none) := by
  funext j
  match j with
  | 0 => rfl
  | 1 => rfl
  | j + 2 => rfl
set_option maxHeartbeats 4000000 in
set_option maxRecDepth 100000 in
/-- the law from its entry, for any relation that holds at the start and that the 33 calls keep -/
theorem start_of {p : Program} {e : Env} {s : State} {m : MethodId} {below : List Frame} {meth : Method} {c : Code} (l : Launch) {b L : Nat} {xs : Nat → Int32} (hL : L ≤ 384) (C0 : lw_At p s m meth c b L xs) (Rel : Relt) (hO : Ops Rel) {tH tM : PW} {tN : PL} (hf1 : f_House_start pz 1 = some tH) (hf2 : f_Model_anew pz (upL pzL 2 1) 1 = some (tM, tN)) (hR0 : Rel none none (up pz 6 (fun _ => 1)) pz tH tM tN) : W p l e room_1 s m #[Value.ref b] below meth c s.heap [] 0 0 (lw_Z below #[Value.ref b] s) (entryFrame m ([Value.ref b] : List Value).toArray 4) := by
  obtain ⟨hx, hb, hr, hml, hown, hts, hX, hbl, hlocks, hgv⟩ := id C0
  have hA : ∀ q : Nat, s.heap.size ≤ q → (fun q : Nat => s.heap.size ≤ q) q := fun _ h => h
  have htt : ∀ w ∈ lw_ok, w.before #[Value.ref b] s = true := fun w hw => hts w (List.mem_filter.mp hw).1
  obtain ⟨D, ty, hK⟩ := kk_of hts
  obtain ⟨aK, aV, hT⟩ := tx_of hts hgv
  have C1 : Cx p s m #[Value.ref b] meth c "BedFrontierLaw" code 4 ret := ⟨hx, hb, hr, hlocks, hml, hown, htt⟩
  have hS : va_S (fun q : Nat => s.heap.size ≤ q) s.heap s.heap [] := va_S.rf
  have hP : va_P D vwCl [] s.heap := fun k q h => by simp at h
  have hD : va_D (fun q : Nat => s.heap.size ≤ q) [] := ⟨fun i j p q h => by simp at h, fun k q h => by simp at h⟩
  have hl := lv_entry ([.ref b]) (n := 4) (Nat.le_of_ble_eq_true rfl)
  rw [lg_entry_eq]
  generalize (lg_sl ([.ref b]) ++ List.replicate (4 - (lg_sl ([.ref b])).length) Slot.unset).toArray = ls at hl ⊢
  have hl : lv_has ls 4 [(0, .ref b)] := hl
  generalize hH0 : s.heap = H at hP hS ⊢
  have hS : va_S (fun q : Nat => s.heap.size ≤ q) s.heap H [] := by rw [hH0]; exact hS
  refine va_new (ci := 10) (fs := [.null, .null, .null, .null, .null, .int 0, .int 0, .int 0, .int 0, .int 0]) (C := "BedFrontier") (T := T_Face) (N := 10) hx hb htt i_Face t_Face t_Face_ok hown (htt _ k_19) (htt _ k_20) (htt _ k_1) hK.1 hP hD hS hA rfl fs_Face (by decide) (by decide) d_Law_law_0 (fun q1 H hP hD hS => ?_)
  have hP : va_P D vwCl [(q1, .inr (10, [.null, .null, .null, .null, .null, .int 0, .int 0, .int 0, .int 0, .int 0]))] H := hP
  have hD : va_D (fun q : Nat => s.heap.size ≤ q) [(q1, .inr (10, [.null, .null, .null, .null, .null, .int 0, .int 0, .int 0, .int 0, .int 0]))] := hD
  refine lv_dup hx hb d_Law_law_3 rfl ?_
  refine iP (rest := [.ref q1]) C1 (c_Face_init l D ty q1 H.size tH hf1) rfl k_21 cal_Face_init hK hP hD hS hA [0] [] [] rfl rfl (by decide) (by decide) (by decide) ⟨by decide, by decide⟩ rfl rfl rfl hl.1 rfl (Nat.le_of_ble_eq_true rfl) d_Law_law_4 ⟨by decide, by decide⟩ (fun H locs hN2 hJ hS => ?_)
  obtain ⟨fA, rA, gA, cA, hA3, kA, hq1, hP1, hD1⟩ := hN2
  subst hq1
  obtain ⟨hP, hD⟩ := hJ _ hP1 hD1
  have hP : va_P D vwCl (L_firgchk ty fA rA gA cA hA3 kA .null (up pz 6 (fun _ => 1)) (fun _ => none) pz tH pz tH) H := hP
  have hD : va_D (fun q : Nat => s.heap.size ≤ q) (L_firgchk ty fA rA gA cA hA3 kA .null (up pz 6 (fun _ => 1)) (fun _ => none) pz tH pz tH) := hD
  refine lv_astore_n (lv' := [(1, .ref (fA 0)), (0, .ref b)]) hx hb d_Law_law_7 rfl hl (by decide) rfl (fun ls hl => ?_)
  refine va_new (ci := 11) (fs := [.null, .long 0, .long 0, .null, .null, .int 0, .int 0, .int 0, .int 0, .int 0, .null, .int 0, .int 0, .null, .int 0, .null, .null, .long 0, .null, .null, .null, .null]) (C := "BedFrontierModel") (T := T_Model) (N := 22) hx hb htt i_Model t_Model t_Model_ok hown (htt _ k_762) (htt _ k_763) (htt _ k_11) hK.1 hP hD hS hA rfl fs_Model (by decide) (by decide) d_Law_law_8 (fun q2 H hP hD hS => ?_)
  refine lv_dup hx hb d_Law_law_11 rfl ?_
  refine iP (rest := [.ref q2]) C1 (c_Model_init l D ty q2 H.size tM tN hf2) rfl k_764 cal_Model_init hK hP hD hS hA [27] [0, 1, 2, 3, 4, 5, 6, 7, 8, 9, 10, 11, 12, 13, 14, 15, 16, 17, 18, 19, 20, 21, 22, 23, 24, 25, 26] (L_firgchk ty fA rA gA cA hA3 kA .null (up pz 6 (fun _ => 1)) (fun _ => none) pz tH pz tH) rfl rfl (by decide) (by decide) (by decide) ⟨by decide, by decide⟩ rfl rfl rfl hl.1 rfl (Nat.le_of_ble_eq_true rfl) d_Law_law_12 ⟨by decide, by decide⟩ (fun H locs hN2 hJ hS => ?_)
  obtain ⟨mA, hq2, hP1, hD1⟩ := hN2
  subst hq2
  obtain ⟨hP, hD⟩ := hJ _ hP1 hD1
  have hw : Wd D (fun q : Nat => s.heap.size ≤ q) (LL ty fA mA rA gA cA hA3 kA none none none (up pz 6 (fun _ => 1)) tM tN pz tH pz tH) H := by
    have h1 : Wd D (fun q : Nat => s.heap.size ≤ q) (L_fimrgchk ty fA mA rA gA cA hA3 kA (pvO none) (up pz 6 (fun _ => 1)) (imO none none) tM tN pz tH pz tH ++ []) H := by
      rw [im_nn]
      exact permQ (Lc := (L_m ty mA tM tN)) (Lr := (L_firgchk ty fA rA gA cA hA3 kA .null (up pz 6 (fun _ => 1)) (fun _ => none) pz tH pz tH)) (X := []) 39 [2, 3, 4, 5, 6, 7, 8, 9, 10, 11, 12, 13] [0, 1, 14, 15, 16, 17, 18, 19, 20, 21, 22, 23, 24, 25, 26, 27, 28, 29, 30, 31, 32, 33, 34, 35, 36, 37, 38] rfl (by decide) rfl rfl (by rw [List.append_nil]; exact ⟨hP, hD⟩)
    exact h1
  refine lv_astore_n (lv' := [(2, .ref (mA 0)), (1, .ref (fA 0)), (0, .ref b)]) hx hb d_Law_law_15 rfl hl (by decide) rfl (fun ls hl => ?_)
  refine lv_iconst (v := 0) hx hb d_Law_law_16 (by decide) ?_
  refine lv_istore_n (lv' := [(3, .int 0), (2, .ref (mA 0)), (1, .ref (fA 0)), (0, .ref b)]) hx hb d_Law_law_17 rfl hl (by decide) rfl (fun ls hl => ?_)
  exact lw_loop (Rel := Rel) (L := L) (xs := xs) ⟨C1, hK, hT, hX, hbl, hL⟩ hO L 0 (by omega) (by omega) none none none _ _ _ _ _ _ _ _ _ _ _ _ hR0 hw hS (lv_sub hl [3, 2, 1, 0] rfl) (by decide) (by decide)
