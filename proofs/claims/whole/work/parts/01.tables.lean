/-- a private method of a class that the tables say can be made, by its rows of tables_1 -/
def lw_okq (q : MethodName × Nat) : Prop := (q.1.cls ≠ "java/lang/invoke/MethodHandle" ∧ q.1.cls ≠ "java/lang/invoke/VarHandle") ∧ Cond.instantiable q.1.cls q.2 ∈ tables_1 ∧ Cond.privateMethod q.1 ∈ tables_1 ∧ Cond.instanceMethod q.1 ∈ tables_1
theorem lw_p0 : lw_okq (⟨"BedFrontier", "refuseBad", "(I)I"⟩, 10) := ⟨⟨by decide +kernel, by decide +kernel⟩, List.mem_of_getElem? (i := 20) (by decide +kernel), List.mem_of_getElem? (i := 238) (by decide +kernel), List.mem_of_getElem? (i := 239) (by decide +kernel)⟩
theorem lw_p1 : lw_okq (⟨"BedFrontier", "refuseFull", "()I"⟩, 10) := ⟨⟨by decide +kernel, by decide +kernel⟩, List.mem_of_getElem? (i := 20) (by decide +kernel), List.mem_of_getElem? (i := 259) (by decide +kernel), List.mem_of_getElem? (i := 260) (by decide +kernel)⟩
theorem lw_p2 : lw_okq (⟨"BedFrontier", "isDoing", "(I)Z"⟩, 10) := ⟨⟨by decide +kernel, by decide +kernel⟩, List.mem_of_getElem? (i := 20) (by decide +kernel), List.mem_of_getElem? (i := 393) (by decide +kernel), List.mem_of_getElem? (i := 394) (by decide +kernel)⟩
theorem lw_p3 : lw_okq (⟨"BedFrontier", "refuseNo", "()I"⟩, 10) := ⟨⟨by decide +kernel, by decide +kernel⟩, List.mem_of_getElem? (i := 20) (by decide +kernel), List.mem_of_getElem? (i := 429) (by decide +kernel), List.mem_of_getElem? (i := 430) (by decide +kernel)⟩
theorem lw_p4 : lw_okq (⟨"BedFrontier", "setFraction", "(II)V"⟩, 10) := ⟨⟨by decide +kernel, by decide +kernel⟩, List.mem_of_getElem? (i := 20) (by decide +kernel), List.mem_of_getElem? (i := 605) (by decide +kernel), List.mem_of_getElem? (i := 606) (by decide +kernel)⟩
theorem lw_p5 : lw_okq (⟨"BedFrontier", "howMany", "(I)I"⟩, 10) := ⟨⟨by decide +kernel, by decide +kernel⟩, List.mem_of_getElem? (i := 20) (by decide +kernel), List.mem_of_getElem? (i := 748) (by decide +kernel), List.mem_of_getElem? (i := 749) (by decide +kernel)⟩
theorem lw_p6 : lw_okq (⟨"BedFrontierModel", "anew", "(I)V"⟩, 22) := ⟨⟨by decide +kernel, by decide +kernel⟩, List.mem_of_getElem? (i := 763) (by decide +kernel), List.mem_of_getElem? (i := 769) (by decide +kernel), List.mem_of_getElem? (i := 770) (by decide +kernel)⟩
theorem lw_p7 : lw_okq (⟨"BedFrontierModel", "bad", "()I"⟩, 22) := ⟨⟨by decide +kernel, by decide +kernel⟩, List.mem_of_getElem? (i := 763) (by decide +kernel), List.mem_of_getElem? (i := 849) (by decide +kernel), List.mem_of_getElem? (i := 850) (by decide +kernel)⟩
theorem lw_p8 : lw_okq (⟨"BedFrontierModel", "full", "()I"⟩, 22) := ⟨⟨by decide +kernel, by decide +kernel⟩, List.mem_of_getElem? (i := 763) (by decide +kernel), List.mem_of_getElem? (i := 871) (by decide +kernel), List.mem_of_getElem? (i := 872) (by decide +kernel)⟩
theorem lw_p9 : lw_okq (⟨"BedFrontierModel", "add", "(II)V"⟩, 22) := ⟨⟨by decide +kernel, by decide +kernel⟩, List.mem_of_getElem? (i := 763) (by decide +kernel), List.mem_of_getElem? (i := 875) (by decide +kernel), List.mem_of_getElem? (i := 876) (by decide +kernel)⟩
theorem lw_p10 : lw_okq (⟨"BedFrontierModel", "readText", "(Z)I"⟩, 22) := ⟨⟨by decide +kernel, by decide +kernel⟩, List.mem_of_getElem? (i := 763) (by decide +kernel), List.mem_of_getElem? (i := 892) (by decide +kernel), List.mem_of_getElem? (i := 893) (by decide +kernel)⟩
theorem lw_p11 : lw_okq (⟨"BedFrontierModel", "nextToken", "()V"⟩, 22) := ⟨⟨by decide +kernel, by decide +kernel⟩, List.mem_of_getElem? (i := 763) (by decide +kernel), List.mem_of_getElem? (i := 896) (by decide +kernel), List.mem_of_getElem? (i := 897) (by decide +kernel)⟩
theorem lw_p12 : lw_okq (⟨"BedFrontierModel", "byteAt", "(I)I"⟩, 22) := ⟨⟨by decide +kernel, by decide +kernel⟩, List.mem_of_getElem? (i := 763) (by decide +kernel), List.mem_of_getElem? (i := 900) (by decide +kernel), List.mem_of_getElem? (i := 901) (by decide +kernel)⟩
theorem lw_p13 : lw_okq (⟨"BedFrontierModel", "readItem", "(IZ)Z"⟩, 22) := ⟨⟨by decide +kernel, by decide +kernel⟩, List.mem_of_getElem? (i := 763) (by decide +kernel), List.mem_of_getElem? (i := 908) (by decide +kernel), List.mem_of_getElem? (i := 909) (by decide +kernel)⟩
theorem lw_p14 : lw_okq (⟨"BedFrontierModel", "isWord", "(IIIII)Z"⟩, 22) := ⟨⟨by decide +kernel, by decide +kernel⟩, List.mem_of_getElem? (i := 763) (by decide +kernel), List.mem_of_getElem? (i := 912) (by decide +kernel), List.mem_of_getElem? (i := 913) (by decide +kernel)⟩
theorem lw_p15 : lw_okq (⟨"BedFrontierModel", "reads", "(II)Z"⟩, 22) := ⟨⟨by decide +kernel, by decide +kernel⟩, List.mem_of_getElem? (i := 763) (by decide +kernel), List.mem_of_getElem? (i := 916) (by decide +kernel), List.mem_of_getElem? (i := 917) (by decide +kernel)⟩
def lw_privs_1 : List (MethodName × Nat) := [(⟨"BedFrontier", "refuseBad", "(I)I"⟩, 10), (⟨"BedFrontier", "refuseFull", "()I"⟩, 10), (⟨"BedFrontier", "isDoing", "(I)Z"⟩, 10), (⟨"BedFrontier", "refuseNo", "()I"⟩, 10), (⟨"BedFrontier", "setFraction", "(II)V"⟩, 10), (⟨"BedFrontier", "howMany", "(I)I"⟩, 10), (⟨"BedFrontierModel", "anew", "(I)V"⟩, 22), (⟨"BedFrontierModel", "bad", "()I"⟩, 22), (⟨"BedFrontierModel", "full", "()I"⟩, 22), (⟨"BedFrontierModel", "add", "(II)V"⟩, 22), (⟨"BedFrontierModel", "readText", "(Z)I"⟩, 22), (⟨"BedFrontierModel", "nextToken", "()V"⟩, 22), (⟨"BedFrontierModel", "byteAt", "(I)I"⟩, 22), (⟨"BedFrontierModel", "readItem", "(IZ)Z"⟩, 22), (⟨"BedFrontierModel", "isWord", "(IIIII)Z"⟩, 22), (⟨"BedFrontierModel", "reads", "(II)Z"⟩, 22)]
theorem lw_r1 : ∀ q ∈ lw_privs_1, lw_okq q := List.forall_mem_cons.mpr ⟨lw_p0, List.forall_mem_cons.mpr ⟨lw_p1, List.forall_mem_cons.mpr ⟨lw_p2, List.forall_mem_cons.mpr ⟨lw_p3, List.forall_mem_cons.mpr ⟨lw_p4, List.forall_mem_cons.mpr ⟨lw_p5, List.forall_mem_cons.mpr ⟨lw_p6, List.forall_mem_cons.mpr ⟨lw_p7, List.forall_mem_cons.mpr ⟨lw_p8, List.forall_mem_cons.mpr ⟨lw_p9, List.forall_mem_cons.mpr ⟨lw_p10, List.forall_mem_cons.mpr ⟨lw_p11, List.forall_mem_cons.mpr ⟨lw_p12, List.forall_mem_cons.mpr ⟨lw_p13, List.forall_mem_cons.mpr ⟨lw_p14, List.forall_mem_cons.mpr ⟨lw_p15, fun _ h => absurd h List.not_mem_nil⟩⟩⟩⟩⟩⟩⟩⟩⟩⟩⟩⟩⟩⟩⟩⟩
theorem lw_p16 : lw_okq (⟨"BedFrontierModel", "ends", "()Z"⟩, 22) := ⟨⟨by decide +kernel, by decide +kernel⟩, List.mem_of_getElem? (i := 763) (by decide +kernel), List.mem_of_getElem? (i := 920) (by decide +kernel), List.mem_of_getElem? (i := 921) (by decide +kernel)⟩
theorem lw_p17 : lw_okq (⟨"BedFrontierModel", "readHours", "()Z"⟩, 22) := ⟨⟨by decide +kernel, by decide +kernel⟩, List.mem_of_getElem? (i := 763) (by decide +kernel), List.mem_of_getElem? (i := 924) (by decide +kernel), List.mem_of_getElem? (i := 925) (by decide +kernel)⟩
theorem lw_p18 : lw_okq (⟨"BedFrontierModel", "isDoing", "(I)Z"⟩, 22) := ⟨⟨by decide +kernel, by decide +kernel⟩, List.mem_of_getElem? (i := 763) (by decide +kernel), List.mem_of_getElem? (i := 932) (by decide +kernel), List.mem_of_getElem? (i := 933) (by decide +kernel)⟩
theorem lw_p19 : lw_okq (⟨"BedFrontierModel", "isThrough", "(III)Z"⟩, 22) := ⟨⟨by decide +kernel, by decide +kernel⟩, List.mem_of_getElem? (i := 763) (by decide +kernel), List.mem_of_getElem? (i := 936) (by decide +kernel), List.mem_of_getElem? (i := 937) (by decide +kernel)⟩
theorem lw_p20 : lw_okq (⟨"BedFrontierModel", "passes", "(II)Z"⟩, 22) := ⟨⟨by decide +kernel, by decide +kernel⟩, List.mem_of_getElem? (i := 763) (by decide +kernel), List.mem_of_getElem? (i := 946) (by decide +kernel), List.mem_of_getElem? (i := 947) (by decide +kernel)⟩
theorem lw_p21 : lw_okq (⟨"BedFrontierModel", "no", "()I"⟩, 22) := ⟨⟨by decide +kernel, by decide +kernel⟩, List.mem_of_getElem? (i := 763) (by decide +kernel), List.mem_of_getElem? (i := 950) (by decide +kernel), List.mem_of_getElem? (i := 951) (by decide +kernel)⟩
theorem lw_p22 : lw_okq (⟨"BedFrontierModel", "noteStep", "()V"⟩, 22) := ⟨⟨by decide +kernel, by decide +kernel⟩, List.mem_of_getElem? (i := 763) (by decide +kernel), List.mem_of_getElem? (i := 954) (by decide +kernel), List.mem_of_getElem? (i := 955) (by decide +kernel)⟩
theorem lw_p23 : lw_okq (⟨"BedFrontierModel", "isDone", "(II)I"⟩, 22) := ⟨⟨by decide +kernel, by decide +kernel⟩, List.mem_of_getElem? (i := 763) (by decide +kernel), List.mem_of_getElem? (i := 958) (by decide +kernel), List.mem_of_getElem? (i := 959) (by decide +kernel)⟩
theorem lw_p24 : lw_okq (⟨"BedFrontierModel", "dueIn", "(III)I"⟩, 22) := ⟨⟨by decide +kernel, by decide +kernel⟩, List.mem_of_getElem? (i := 763) (by decide +kernel), List.mem_of_getElem? (i := 962) (by decide +kernel), List.mem_of_getElem? (i := 963) (by decide +kernel)⟩
theorem lw_p25 : lw_okq (⟨"BedFrontierModel", "dueBy", "(IIIII)I"⟩, 22) := ⟨⟨by decide +kernel, by decide +kernel⟩, List.mem_of_getElem? (i := 763) (by decide +kernel), List.mem_of_getElem? (i := 966) (by decide +kernel), List.mem_of_getElem? (i := 967) (by decide +kernel)⟩
theorem lw_p26 : lw_okq (⟨"BedFrontierModel", "findLeast", "()V"⟩, 22) := ⟨⟨by decide +kernel, by decide +kernel⟩, List.mem_of_getElem? (i := 763) (by decide +kernel), List.mem_of_getElem? (i := 1008) (by decide +kernel), List.mem_of_getElem? (i := 1009) (by decide +kernel)⟩
theorem lw_p27 : lw_okq (⟨"BedFrontierModel", "leftAt", "(III)I"⟩, 22) := ⟨⟨by decide +kernel, by decide +kernel⟩, List.mem_of_getElem? (i := 763) (by decide +kernel), List.mem_of_getElem? (i := 1012) (by decide +kernel), List.mem_of_getElem? (i := 1013) (by decide +kernel)⟩
theorem lw_p28 : lw_okq (⟨"BedFrontierModel", "costBy", "(IIIII)I"⟩, 22) := ⟨⟨by decide +kernel, by decide +kernel⟩, List.mem_of_getElem? (i := 763) (by decide +kernel), List.mem_of_getElem? (i := 1016) (by decide +kernel), List.mem_of_getElem? (i := 1017) (by decide +kernel)⟩
theorem lw_p29 : lw_okq (⟨"BedFrontierModel", "setFraction", "(JJ)V"⟩, 22) := ⟨⟨by decide +kernel, by decide +kernel⟩, List.mem_of_getElem? (i := 763) (by decide +kernel), List.mem_of_getElem? (i := 1032) (by decide +kernel), List.mem_of_getElem? (i := 1033) (by decide +kernel)⟩
theorem lw_p30 : lw_okq (⟨"BedFrontierModel", "hasBy", "(III)I"⟩, 22) := ⟨⟨by decide +kernel, by decide +kernel⟩, List.mem_of_getElem? (i := 763) (by decide +kernel), List.mem_of_getElem? (i := 1044) (by decide +kernel), List.mem_of_getElem? (i := 1045) (by decide +kernel)⟩
theorem lw_p31 : lw_okq (⟨"BedFrontierModel", "kindsOf", "(I)I"⟩, 22) := ⟨⟨by decide +kernel, by decide +kernel⟩, List.mem_of_getElem? (i := 763) (by decide +kernel), List.mem_of_getElem? (i := 1061) (by decide +kernel), List.mem_of_getElem? (i := 1062) (by decide +kernel)⟩
def lw_privs_2 : List (MethodName × Nat) := [(⟨"BedFrontierModel", "ends", "()Z"⟩, 22), (⟨"BedFrontierModel", "readHours", "()Z"⟩, 22), (⟨"BedFrontierModel", "isDoing", "(I)Z"⟩, 22), (⟨"BedFrontierModel", "isThrough", "(III)Z"⟩, 22), (⟨"BedFrontierModel", "passes", "(II)Z"⟩, 22), (⟨"BedFrontierModel", "no", "()I"⟩, 22), (⟨"BedFrontierModel", "noteStep", "()V"⟩, 22), (⟨"BedFrontierModel", "isDone", "(II)I"⟩, 22), (⟨"BedFrontierModel", "dueIn", "(III)I"⟩, 22), (⟨"BedFrontierModel", "dueBy", "(IIIII)I"⟩, 22), (⟨"BedFrontierModel", "findLeast", "()V"⟩, 22), (⟨"BedFrontierModel", "leftAt", "(III)I"⟩, 22), (⟨"BedFrontierModel", "costBy", "(IIIII)I"⟩, 22), (⟨"BedFrontierModel", "setFraction", "(JJ)V"⟩, 22), (⟨"BedFrontierModel", "hasBy", "(III)I"⟩, 22), (⟨"BedFrontierModel", "kindsOf", "(I)I"⟩, 22)]
theorem lw_r2 : ∀ q ∈ lw_privs_2, lw_okq q := List.forall_mem_cons.mpr ⟨lw_p16, List.forall_mem_cons.mpr ⟨lw_p17, List.forall_mem_cons.mpr ⟨lw_p18, List.forall_mem_cons.mpr ⟨lw_p19, List.forall_mem_cons.mpr ⟨lw_p20, List.forall_mem_cons.mpr ⟨lw_p21, List.forall_mem_cons.mpr ⟨lw_p22, List.forall_mem_cons.mpr ⟨lw_p23, List.forall_mem_cons.mpr ⟨lw_p24, List.forall_mem_cons.mpr ⟨lw_p25, List.forall_mem_cons.mpr ⟨lw_p26, List.forall_mem_cons.mpr ⟨lw_p27, List.forall_mem_cons.mpr ⟨lw_p28, List.forall_mem_cons.mpr ⟨lw_p29, List.forall_mem_cons.mpr ⟨lw_p30, List.forall_mem_cons.mpr ⟨lw_p31, fun _ h => absurd h List.not_mem_nil⟩⟩⟩⟩⟩⟩⟩⟩⟩⟩⟩⟩⟩⟩⟩⟩
theorem lw_p32 : lw_okq (⟨"BedFrontierModel", "partBy", "(IIII)I"⟩, 22) := ⟨⟨by decide +kernel, by decide +kernel⟩, List.mem_of_getElem? (i := 763) (by decide +kernel), List.mem_of_getElem? (i := 1069) (by decide +kernel), List.mem_of_getElem? (i := 1070) (by decide +kernel)⟩
theorem lw_p33 : lw_okq (⟨"BedFrontierModel", "draw", "(I)I"⟩, 22) := ⟨⟨by decide +kernel, by decide +kernel⟩, List.mem_of_getElem? (i := 763) (by decide +kernel), List.mem_of_getElem? (i := 1088) (by decide +kernel), List.mem_of_getElem? (i := 1089) (by decide +kernel)⟩
theorem lw_p34 : lw_okq (⟨"BedFrontierModel", "countOf", "(I)I"⟩, 22) := ⟨⟨by decide +kernel, by decide +kernel⟩, List.mem_of_getElem? (i := 763) (by decide +kernel), List.mem_of_getElem? (i := 1118) (by decide +kernel), List.mem_of_getElem? (i := 1119) (by decide +kernel)⟩
def lw_privs_3 : List (MethodName × Nat) := [(⟨"BedFrontierModel", "partBy", "(IIII)I"⟩, 22), (⟨"BedFrontierModel", "draw", "(I)I"⟩, 22), (⟨"BedFrontierModel", "countOf", "(I)I"⟩, 22)]
theorem lw_r3 : ∀ q ∈ lw_privs_3, lw_okq q := List.forall_mem_cons.mpr ⟨lw_p32, List.forall_mem_cons.mpr ⟨lw_p33, List.forall_mem_cons.mpr ⟨lw_p34, fun _ h => absurd h List.not_mem_nil⟩⟩⟩
def lw_privs : List (MethodName × Nat) := lw_privs_1 ++ (lw_privs_2 ++ (lw_privs_3))
def lw_tbl : List Cond := k2_sels lw_privs ++ tables_1
theorem lw_privs_ok : ∀ q ∈ lw_privs, lw_okq q := by
  show ∀ q ∈ lw_privs_1 ++ (lw_privs_2 ++ (lw_privs_3)), lw_okq q
  exact List.forall_mem_append.mpr ⟨lw_r1, List.forall_mem_append.mpr ⟨lw_r2, lw_r3⟩⟩

def lw_ok : List Cond := lw_tbl.filter goodWord
theorem ok_of {w : Cond} (h : w ∈ lw_tbl) (g : goodWord w = true) : w ∈ lw_ok := List.mem_filter.mpr ⟨h, g⟩
theorem tbl_of {w : Cond} (h : w ∈ lw_ok) : w ∈ lw_tbl := (List.mem_filter.mp h).1
theorem good_ok : GoodIn lw_ok lw_ok := fun w h => ⟨h, good_of_word (List.mem_filter.mp h).2⟩
theorem good_tbl : GoodIn lw_tbl lw_ok := fun w h => ⟨tbl_of h, good_of_word (List.mem_filter.mp h).2⟩
theorem in_tables_1_1 {w : Cond} (h : w ∈ tables_1_1) : w ∈ lw_tbl := by
  unfold lw_tbl tables_1
  exact List.mem_append_right _ (List.mem_append_left _ h)
theorem in_tables_1_2 {w : Cond} (h : w ∈ tables_1_2) : w ∈ lw_tbl := by
  unfold lw_tbl tables_1
  exact List.mem_append_right _ (List.mem_append_right _ (List.mem_append_left _ h))
theorem in_tables_1_3 {w : Cond} (h : w ∈ tables_1_3) : w ∈ lw_tbl := by
  unfold lw_tbl tables_1
  exact List.mem_append_right _ (List.mem_append_right _ (List.mem_append_right _ (List.mem_append_left _ h)))
theorem in_tables_1_4 {w : Cond} (h : w ∈ tables_1_4) : w ∈ lw_tbl := by
  unfold lw_tbl tables_1
  exact List.mem_append_right _ (List.mem_append_right _ (List.mem_append_right _ (List.mem_append_right _ (List.mem_append_left _ h))))
theorem in_tables_1_5 {w : Cond} (h : w ∈ tables_1_5) : w ∈ lw_tbl := by
  unfold lw_tbl tables_1
  exact List.mem_append_right _ (List.mem_append_right _ (List.mem_append_right _ (List.mem_append_right _ (List.mem_append_right _ (h)))))
theorem ks_0 : Cond.selects "BedFrontier" ⟨"BedFrontier", "refuseBad", "(I)I"⟩ ⟨"BedFrontier", "refuseBad", "(I)I"⟩ ∈ lw_ok := ok_of (List.mem_append_left _ (List.mem_of_getElem? (i := 0) rfl)) rfl
theorem ks_1 : Cond.selects "BedFrontier" ⟨"BedFrontier", "refuseFull", "()I"⟩ ⟨"BedFrontier", "refuseFull", "()I"⟩ ∈ lw_ok := ok_of (List.mem_append_left _ (List.mem_of_getElem? (i := 1) rfl)) rfl
theorem ks_2 : Cond.selects "BedFrontier" ⟨"BedFrontier", "isDoing", "(I)Z"⟩ ⟨"BedFrontier", "isDoing", "(I)Z"⟩ ∈ lw_ok := ok_of (List.mem_append_left _ (List.mem_of_getElem? (i := 2) rfl)) rfl
theorem ks_3 : Cond.selects "BedFrontier" ⟨"BedFrontier", "refuseNo", "()I"⟩ ⟨"BedFrontier", "refuseNo", "()I"⟩ ∈ lw_ok := ok_of (List.mem_append_left _ (List.mem_of_getElem? (i := 3) rfl)) rfl
theorem ks_4 : Cond.selects "BedFrontier" ⟨"BedFrontier", "setFraction", "(II)V"⟩ ⟨"BedFrontier", "setFraction", "(II)V"⟩ ∈ lw_ok := ok_of (List.mem_append_left _ (List.mem_of_getElem? (i := 4) rfl)) rfl
theorem ks_5 : Cond.selects "BedFrontier" ⟨"BedFrontier", "howMany", "(I)I"⟩ ⟨"BedFrontier", "howMany", "(I)I"⟩ ∈ lw_ok := ok_of (List.mem_append_left _ (List.mem_of_getElem? (i := 5) rfl)) rfl
theorem ks_6 : Cond.selects "BedFrontierModel" ⟨"BedFrontierModel", "anew", "(I)V"⟩ ⟨"BedFrontierModel", "anew", "(I)V"⟩ ∈ lw_ok := ok_of (List.mem_append_left _ (List.mem_of_getElem? (i := 6) rfl)) rfl
theorem ks_7 : Cond.selects "BedFrontierModel" ⟨"BedFrontierModel", "bad", "()I"⟩ ⟨"BedFrontierModel", "bad", "()I"⟩ ∈ lw_ok := ok_of (List.mem_append_left _ (List.mem_of_getElem? (i := 7) rfl)) rfl
theorem ks_8 : Cond.selects "BedFrontierModel" ⟨"BedFrontierModel", "full", "()I"⟩ ⟨"BedFrontierModel", "full", "()I"⟩ ∈ lw_ok := ok_of (List.mem_append_left _ (List.mem_of_getElem? (i := 8) rfl)) rfl
theorem ks_9 : Cond.selects "BedFrontierModel" ⟨"BedFrontierModel", "add", "(II)V"⟩ ⟨"BedFrontierModel", "add", "(II)V"⟩ ∈ lw_ok := ok_of (List.mem_append_left _ (List.mem_of_getElem? (i := 9) rfl)) rfl
theorem ks_10 : Cond.selects "BedFrontierModel" ⟨"BedFrontierModel", "readText", "(Z)I"⟩ ⟨"BedFrontierModel", "readText", "(Z)I"⟩ ∈ lw_ok := ok_of (List.mem_append_left _ (List.mem_of_getElem? (i := 10) rfl)) rfl
theorem ks_11 : Cond.selects "BedFrontierModel" ⟨"BedFrontierModel", "nextToken", "()V"⟩ ⟨"BedFrontierModel", "nextToken", "()V"⟩ ∈ lw_ok := ok_of (List.mem_append_left _ (List.mem_of_getElem? (i := 11) rfl)) rfl
theorem ks_12 : Cond.selects "BedFrontierModel" ⟨"BedFrontierModel", "byteAt", "(I)I"⟩ ⟨"BedFrontierModel", "byteAt", "(I)I"⟩ ∈ lw_ok := ok_of (List.mem_append_left _ (List.mem_of_getElem? (i := 12) rfl)) rfl
theorem ks_13 : Cond.selects "BedFrontierModel" ⟨"BedFrontierModel", "readItem", "(IZ)Z"⟩ ⟨"BedFrontierModel", "readItem", "(IZ)Z"⟩ ∈ lw_ok := ok_of (List.mem_append_left _ (List.mem_of_getElem? (i := 13) rfl)) rfl
theorem ks_14 : Cond.selects "BedFrontierModel" ⟨"BedFrontierModel", "isWord", "(IIIII)Z"⟩ ⟨"BedFrontierModel", "isWord", "(IIIII)Z"⟩ ∈ lw_ok := ok_of (List.mem_append_left _ (List.mem_of_getElem? (i := 14) rfl)) rfl
theorem ks_15 : Cond.selects "BedFrontierModel" ⟨"BedFrontierModel", "reads", "(II)Z"⟩ ⟨"BedFrontierModel", "reads", "(II)Z"⟩ ∈ lw_ok := ok_of (List.mem_append_left _ (List.mem_of_getElem? (i := 15) rfl)) rfl
theorem ks_16 : Cond.selects "BedFrontierModel" ⟨"BedFrontierModel", "ends", "()Z"⟩ ⟨"BedFrontierModel", "ends", "()Z"⟩ ∈ lw_ok := ok_of (List.mem_append_left _ (List.mem_of_getElem? (i := 16) rfl)) rfl
theorem ks_17 : Cond.selects "BedFrontierModel" ⟨"BedFrontierModel", "readHours", "()Z"⟩ ⟨"BedFrontierModel", "readHours", "()Z"⟩ ∈ lw_ok := ok_of (List.mem_append_left _ (List.mem_of_getElem? (i := 17) rfl)) rfl
theorem ks_18 : Cond.selects "BedFrontierModel" ⟨"BedFrontierModel", "isDoing", "(I)Z"⟩ ⟨"BedFrontierModel", "isDoing", "(I)Z"⟩ ∈ lw_ok := ok_of (List.mem_append_left _ (List.mem_of_getElem? (i := 18) rfl)) rfl
theorem ks_19 : Cond.selects "BedFrontierModel" ⟨"BedFrontierModel", "isThrough", "(III)Z"⟩ ⟨"BedFrontierModel", "isThrough", "(III)Z"⟩ ∈ lw_ok := ok_of (List.mem_append_left _ (List.mem_of_getElem? (i := 19) rfl)) rfl
theorem ks_20 : Cond.selects "BedFrontierModel" ⟨"BedFrontierModel", "passes", "(II)Z"⟩ ⟨"BedFrontierModel", "passes", "(II)Z"⟩ ∈ lw_ok := ok_of (List.mem_append_left _ (List.mem_of_getElem? (i := 20) rfl)) rfl
theorem ks_21 : Cond.selects "BedFrontierModel" ⟨"BedFrontierModel", "no", "()I"⟩ ⟨"BedFrontierModel", "no", "()I"⟩ ∈ lw_ok := ok_of (List.mem_append_left _ (List.mem_of_getElem? (i := 21) rfl)) rfl
theorem ks_22 : Cond.selects "BedFrontierModel" ⟨"BedFrontierModel", "noteStep", "()V"⟩ ⟨"BedFrontierModel", "noteStep", "()V"⟩ ∈ lw_ok := ok_of (List.mem_append_left _ (List.mem_of_getElem? (i := 22) rfl)) rfl
theorem ks_23 : Cond.selects "BedFrontierModel" ⟨"BedFrontierModel", "isDone", "(II)I"⟩ ⟨"BedFrontierModel", "isDone", "(II)I"⟩ ∈ lw_ok := ok_of (List.mem_append_left _ (List.mem_of_getElem? (i := 23) rfl)) rfl
theorem ks_24 : Cond.selects "BedFrontierModel" ⟨"BedFrontierModel", "dueIn", "(III)I"⟩ ⟨"BedFrontierModel", "dueIn", "(III)I"⟩ ∈ lw_ok := ok_of (List.mem_append_left _ (List.mem_of_getElem? (i := 24) rfl)) rfl
theorem ks_25 : Cond.selects "BedFrontierModel" ⟨"BedFrontierModel", "dueBy", "(IIIII)I"⟩ ⟨"BedFrontierModel", "dueBy", "(IIIII)I"⟩ ∈ lw_ok := ok_of (List.mem_append_left _ (List.mem_of_getElem? (i := 25) rfl)) rfl
theorem ks_26 : Cond.selects "BedFrontierModel" ⟨"BedFrontierModel", "findLeast", "()V"⟩ ⟨"BedFrontierModel", "findLeast", "()V"⟩ ∈ lw_ok := ok_of (List.mem_append_left _ (List.mem_of_getElem? (i := 26) rfl)) rfl
theorem ks_27 : Cond.selects "BedFrontierModel" ⟨"BedFrontierModel", "leftAt", "(III)I"⟩ ⟨"BedFrontierModel", "leftAt", "(III)I"⟩ ∈ lw_ok := ok_of (List.mem_append_left _ (List.mem_of_getElem? (i := 27) rfl)) rfl
theorem ks_28 : Cond.selects "BedFrontierModel" ⟨"BedFrontierModel", "costBy", "(IIIII)I"⟩ ⟨"BedFrontierModel", "costBy", "(IIIII)I"⟩ ∈ lw_ok := ok_of (List.mem_append_left _ (List.mem_of_getElem? (i := 28) rfl)) rfl
theorem ks_29 : Cond.selects "BedFrontierModel" ⟨"BedFrontierModel", "setFraction", "(JJ)V"⟩ ⟨"BedFrontierModel", "setFraction", "(JJ)V"⟩ ∈ lw_ok := ok_of (List.mem_append_left _ (List.mem_of_getElem? (i := 29) rfl)) rfl
theorem ks_30 : Cond.selects "BedFrontierModel" ⟨"BedFrontierModel", "hasBy", "(III)I"⟩ ⟨"BedFrontierModel", "hasBy", "(III)I"⟩ ∈ lw_ok := ok_of (List.mem_append_left _ (List.mem_of_getElem? (i := 30) rfl)) rfl
theorem ks_31 : Cond.selects "BedFrontierModel" ⟨"BedFrontierModel", "kindsOf", "(I)I"⟩ ⟨"BedFrontierModel", "kindsOf", "(I)I"⟩ ∈ lw_ok := ok_of (List.mem_append_left _ (List.mem_of_getElem? (i := 31) rfl)) rfl
theorem ks_32 : Cond.selects "BedFrontierModel" ⟨"BedFrontierModel", "partBy", "(IIII)I"⟩ ⟨"BedFrontierModel", "partBy", "(IIII)I"⟩ ∈ lw_ok := ok_of (List.mem_append_left _ (List.mem_of_getElem? (i := 32) rfl)) rfl
theorem ks_33 : Cond.selects "BedFrontierModel" ⟨"BedFrontierModel", "draw", "(I)I"⟩ ⟨"BedFrontierModel", "draw", "(I)I"⟩ ∈ lw_ok := ok_of (List.mem_append_left _ (List.mem_of_getElem? (i := 33) rfl)) rfl
theorem ks_34 : Cond.selects "BedFrontierModel" ⟨"BedFrontierModel", "countOf", "(I)I"⟩ ⟨"BedFrontierModel", "countOf", "(I)I"⟩ ∈ lw_ok := ok_of (List.mem_append_left _ (List.mem_of_getElem? (i := 34) rfl)) rfl
theorem k_0 : Cond.initialized "BedFrontierLaw" ∈ lw_ok := ok_of (in_tables_1_1 (List.mem_of_getElem? (i := 0) rfl)) rfl
theorem k_1 : Cond.initialized "BedFrontier" ∈ lw_ok := ok_of (in_tables_1_1 (List.mem_of_getElem? (i := 1) rfl)) rfl
theorem k_2 : Cond.initialized "BedFrontier$Plain" ∈ lw_ok := ok_of (in_tables_1_1 (List.mem_of_getElem? (i := 2) rfl)) rfl
theorem k_3 : Cond.initialized "BedFrontier$Kiss" ∈ lw_ok := ok_of (in_tables_1_1 (List.mem_of_getElem? (i := 3) rfl)) rfl
theorem k_4 : Cond.initialized "BedFrontier$Quarrel" ∈ lw_ok := ok_of (in_tables_1_1 (List.mem_of_getElem? (i := 4) rfl)) rfl
theorem k_5 : Cond.initialized "BedFrontier$Snoring" ∈ lw_ok := ok_of (in_tables_1_1 (List.mem_of_getElem? (i := 5) rfl)) rfl
theorem k_6 : Cond.initialized "BedFrontier$Cat" ∈ lw_ok := ok_of (in_tables_1_1 (List.mem_of_getElem? (i := 6) rfl)) rfl
theorem k_7 : Cond.initialized "BedFrontier$Lamp" ∈ lw_ok := ok_of (in_tables_1_1 (List.mem_of_getElem? (i := 7) rfl)) rfl
theorem k_8 : Cond.initialized "BedFrontier$House" ∈ lw_ok := ok_of (in_tables_1_1 (List.mem_of_getElem? (i := 8) rfl)) rfl
theorem k_9 : Cond.initialized "BedFrontier$Reader" ∈ lw_ok := ok_of (in_tables_1_1 (List.mem_of_getElem? (i := 9) rfl)) rfl
theorem k_10 : Cond.initialized "BedFrontier$Clerk" ∈ lw_ok := ok_of (in_tables_1_1 (List.mem_of_getElem? (i := 10) rfl)) rfl
theorem k_11 : Cond.initialized "BedFrontierModel" ∈ lw_ok := ok_of (in_tables_1_1 (List.mem_of_getElem? (i := 11) rfl)) rfl
theorem k_12 : Cond.initialized "java/lang/String" ∈ lw_ok := ok_of (in_tables_1_1 (List.mem_of_getElem? (i := 12) rfl)) rfl
theorem k_13 : Cond.initialized "java/lang/StringLatin1" ∈ lw_ok := ok_of (in_tables_1_1 (List.mem_of_getElem? (i := 13) rfl)) rfl
theorem k_14 : Cond.initialized "jdk/internal/util/Preconditions" ∈ lw_ok := ok_of (in_tables_1_1 (List.mem_of_getElem? (i := 14) rfl)) rfl
theorem k_15 : Cond.initialized "java/lang/StringUTF16" ∈ lw_ok := ok_of (in_tables_1_1 (List.mem_of_getElem? (i := 15) rfl)) rfl
theorem k_16 : Cond.initialized "java/lang/System" ∈ lw_ok := ok_of (in_tables_1_1 (List.mem_of_getElem? (i := 16) rfl)) rfl
theorem k_17 : Cond.initialized "java/lang/Math" ∈ lw_ok := ok_of (in_tables_1_1 (List.mem_of_getElem? (i := 17) rfl)) rfl
theorem k_18 : Cond.initialized "BedFrontier$Planner" ∈ lw_ok := ok_of (in_tables_1_1 (List.mem_of_getElem? (i := 18) rfl)) rfl
theorem k_19 : Cond.classLink "BedFrontierLaw" 7 "BedFrontier" ∈ lw_ok := ok_of (in_tables_1_1 (List.mem_of_getElem? (i := 19) rfl)) rfl
theorem k_20 : Cond.instantiable "BedFrontier" 10 ∈ lw_ok := ok_of (in_tables_1_1 (List.mem_of_getElem? (i := 20) rfl)) rfl
theorem k_21 : Cond.methodLink "BedFrontierLaw" 9 ⟨"BedFrontier", "<init>", "()V"⟩ ∈ lw_ok := ok_of (in_tables_1_1 (List.mem_of_getElem? (i := 21) rfl)) rfl
theorem k_22 : Cond.instanceMethod ⟨"BedFrontier", "<init>", "()V"⟩ ∈ lw_ok := ok_of (in_tables_1_1 (List.mem_of_getElem? (i := 22) rfl)) rfl
theorem k_23 : Cond.code ⟨"BedFrontier", "<init>", "()V"⟩ prog_1_method_1_code 2 none ∈ lw_ok := ok_of (in_tables_1_1 (List.mem_of_getElem? (i := 23) rfl)) rfl
theorem k_24 : Cond.methodLink "BedFrontier" 1 ⟨"java/lang/Object", "<init>", "()V"⟩ ∈ lw_ok := ok_of (in_tables_1_1 (List.mem_of_getElem? (i := 24) rfl)) rfl
theorem k_25 : Cond.instanceMethod ⟨"java/lang/Object", "<init>", "()V"⟩ ∈ lw_ok := ok_of (in_tables_1_1 (List.mem_of_getElem? (i := 25) rfl)) rfl
theorem k_26 : Cond.code ⟨"java/lang/Object", "<init>", "()V"⟩ object_method_1_code 1 none ∈ lw_ok := ok_of (in_tables_1_1 (List.mem_of_getElem? (i := 26) rfl)) rfl
theorem k_27 : Cond.classLink "BedFrontier" 7 "BedFrontier$Plain" ∈ lw_ok := ok_of (in_tables_1_1 (List.mem_of_getElem? (i := 27) rfl)) rfl
theorem k_28 : Cond.arrayOver (FieldType.object "BedFrontier$Plain") ∈ lw_tbl := in_tables_1_1 (List.mem_of_getElem? (i := 28) rfl)
theorem k_29 : Cond.instantiable "BedFrontier$Plain" 0 ∈ lw_ok := ok_of (in_tables_1_1 (List.mem_of_getElem? (i := 29) rfl)) rfl
theorem k_30 : Cond.methodLinkNest "BedFrontier" 9 ⟨"BedFrontier$Plain", "<init>", "()V"⟩ "BedFrontier" ∈ lw_tbl := in_tables_1_1 (List.mem_of_getElem? (i := 30) rfl)
theorem k_31 : Cond.instanceMethod ⟨"BedFrontier$Plain", "<init>", "()V"⟩ ∈ lw_ok := ok_of (in_tables_1_1 (List.mem_of_getElem? (i := 31) rfl)) rfl
theorem k_32 : Cond.code ⟨"BedFrontier$Plain", "<init>", "()V"⟩ prog_7_method_1_code 1 none ∈ lw_ok := ok_of (in_tables_1_1 (List.mem_of_getElem? (i := 32) rfl)) rfl
theorem k_33 : Cond.methodLink "BedFrontier$Plain" 1 ⟨"java/lang/Object", "<init>", "()V"⟩ ∈ lw_ok := ok_of (in_tables_1_1 (List.mem_of_getElem? (i := 33) rfl)) rfl
theorem k_34 : Cond.superclass "BedFrontier$Plain" "java/lang/Object" ∈ lw_ok := ok_of (in_tables_1_1 (List.mem_of_getElem? (i := 34) rfl)) rfl
theorem k_35 : Cond.classLink "BedFrontier" 10 "BedFrontier$Kiss" ∈ lw_ok := ok_of (in_tables_1_1 (List.mem_of_getElem? (i := 35) rfl)) rfl
theorem k_36 : Cond.instantiable "BedFrontier$Kiss" 0 ∈ lw_ok := ok_of (in_tables_1_1 (List.mem_of_getElem? (i := 36) rfl)) rfl
theorem k_37 : Cond.methodLinkNest "BedFrontier" 12 ⟨"BedFrontier$Kiss", "<init>", "()V"⟩ "BedFrontier" ∈ lw_tbl := in_tables_1_1 (List.mem_of_getElem? (i := 37) rfl)
theorem k_38 : Cond.instanceMethod ⟨"BedFrontier$Kiss", "<init>", "()V"⟩ ∈ lw_ok := ok_of (in_tables_1_1 (List.mem_of_getElem? (i := 38) rfl)) rfl
theorem k_39 : Cond.code ⟨"BedFrontier$Kiss", "<init>", "()V"⟩ prog_5_method_1_code 1 none ∈ lw_ok := ok_of (in_tables_1_1 (List.mem_of_getElem? (i := 39) rfl)) rfl
theorem k_40 : Cond.methodLinkNest "BedFrontier$Kiss" 1 ⟨"BedFrontier$Plain", "<init>", "()V"⟩ "BedFrontier" ∈ lw_tbl := in_tables_1_1 (List.mem_of_getElem? (i := 40) rfl)
theorem k_41 : Cond.superclass "BedFrontier$Kiss" "BedFrontier$Plain" ∈ lw_ok := ok_of (in_tables_1_1 (List.mem_of_getElem? (i := 41) rfl)) rfl
theorem k_42 : Cond.classLink "BedFrontier" 13 "BedFrontier$Quarrel" ∈ lw_ok := ok_of (in_tables_1_1 (List.mem_of_getElem? (i := 42) rfl)) rfl
theorem k_43 : Cond.instantiable "BedFrontier$Quarrel" 0 ∈ lw_ok := ok_of (in_tables_1_1 (List.mem_of_getElem? (i := 43) rfl)) rfl
theorem k_44 : Cond.methodLinkNest "BedFrontier" 15 ⟨"BedFrontier$Quarrel", "<init>", "()V"⟩ "BedFrontier" ∈ lw_tbl := in_tables_1_1 (List.mem_of_getElem? (i := 44) rfl)
theorem k_45 : Cond.instanceMethod ⟨"BedFrontier$Quarrel", "<init>", "()V"⟩ ∈ lw_ok := ok_of (in_tables_1_1 (List.mem_of_getElem? (i := 45) rfl)) rfl
theorem k_46 : Cond.code ⟨"BedFrontier$Quarrel", "<init>", "()V"⟩ prog_9_method_1_code 1 none ∈ lw_ok := ok_of (in_tables_1_1 (List.mem_of_getElem? (i := 46) rfl)) rfl
theorem k_47 : Cond.methodLinkNest "BedFrontier$Quarrel" 1 ⟨"BedFrontier$Plain", "<init>", "()V"⟩ "BedFrontier" ∈ lw_tbl := in_tables_1_1 (List.mem_of_getElem? (i := 47) rfl)
theorem k_48 : Cond.superclass "BedFrontier$Quarrel" "BedFrontier$Plain" ∈ lw_ok := ok_of (in_tables_1_1 (List.mem_of_getElem? (i := 48) rfl)) rfl
theorem k_49 : Cond.classLink "BedFrontier" 16 "BedFrontier$Snoring" ∈ lw_ok := ok_of (in_tables_1_1 (List.mem_of_getElem? (i := 49) rfl)) rfl
theorem k_50 : Cond.instantiable "BedFrontier$Snoring" 0 ∈ lw_ok := ok_of (in_tables_1_1 (List.mem_of_getElem? (i := 50) rfl)) rfl
theorem k_51 : Cond.methodLinkNest "BedFrontier" 18 ⟨"BedFrontier$Snoring", "<init>", "()V"⟩ "BedFrontier" ∈ lw_tbl := in_tables_1_1 (List.mem_of_getElem? (i := 51) rfl)
theorem k_52 : Cond.instanceMethod ⟨"BedFrontier$Snoring", "<init>", "()V"⟩ ∈ lw_ok := ok_of (in_tables_1_1 (List.mem_of_getElem? (i := 52) rfl)) rfl
theorem k_53 : Cond.code ⟨"BedFrontier$Snoring", "<init>", "()V"⟩ prog_11_method_1_code 1 none ∈ lw_ok := ok_of (in_tables_1_1 (List.mem_of_getElem? (i := 53) rfl)) rfl
theorem k_54 : Cond.methodLinkNest "BedFrontier$Snoring" 1 ⟨"BedFrontier$Plain", "<init>", "()V"⟩ "BedFrontier" ∈ lw_tbl := in_tables_1_1 (List.mem_of_getElem? (i := 54) rfl)
theorem k_55 : Cond.superclass "BedFrontier$Snoring" "BedFrontier$Plain" ∈ lw_ok := ok_of (in_tables_1_1 (List.mem_of_getElem? (i := 55) rfl)) rfl
theorem k_56 : Cond.classLink "BedFrontier" 19 "BedFrontier$Cat" ∈ lw_ok := ok_of (in_tables_1_1 (List.mem_of_getElem? (i := 56) rfl)) rfl
theorem k_57 : Cond.instantiable "BedFrontier$Cat" 0 ∈ lw_ok := ok_of (in_tables_1_1 (List.mem_of_getElem? (i := 57) rfl)) rfl
theorem k_58 : Cond.methodLinkNest "BedFrontier" 21 ⟨"BedFrontier$Cat", "<init>", "()V"⟩ "BedFrontier" ∈ lw_tbl := in_tables_1_1 (List.mem_of_getElem? (i := 58) rfl)
theorem k_59 : Cond.instanceMethod ⟨"BedFrontier$Cat", "<init>", "()V"⟩ ∈ lw_ok := ok_of (in_tables_1_1 (List.mem_of_getElem? (i := 59) rfl)) rfl
theorem k_60 : Cond.code ⟨"BedFrontier$Cat", "<init>", "()V"⟩ prog_2_method_1_code 1 none ∈ lw_ok := ok_of (in_tables_1_1 (List.mem_of_getElem? (i := 60) rfl)) rfl
theorem k_61 : Cond.methodLinkNest "BedFrontier$Cat" 1 ⟨"BedFrontier$Kiss", "<init>", "()V"⟩ "BedFrontier" ∈ lw_tbl := in_tables_1_1 (List.mem_of_getElem? (i := 61) rfl)
theorem k_62 : Cond.superclass "BedFrontier$Cat" "BedFrontier$Kiss" ∈ lw_ok := ok_of (in_tables_1_1 (List.mem_of_getElem? (i := 62) rfl)) rfl
theorem k_63 : Cond.classLink "BedFrontier" 22 "BedFrontier$Lamp" ∈ lw_ok := ok_of (in_tables_1_1 (List.mem_of_getElem? (i := 63) rfl)) rfl
theorem k_64 : Cond.instantiable "BedFrontier$Lamp" 0 ∈ lw_ok := ok_of (in_tables_1_1 (List.mem_of_getElem? (i := 64) rfl)) rfl
theorem k_65 : Cond.methodLinkNest "BedFrontier" 24 ⟨"BedFrontier$Lamp", "<init>", "()V"⟩ "BedFrontier" ∈ lw_tbl := in_tables_1_1 (List.mem_of_getElem? (i := 65) rfl)
theorem k_66 : Cond.instanceMethod ⟨"BedFrontier$Lamp", "<init>", "()V"⟩ ∈ lw_ok := ok_of (in_tables_1_1 (List.mem_of_getElem? (i := 66) rfl)) rfl
theorem k_67 : Cond.code ⟨"BedFrontier$Lamp", "<init>", "()V"⟩ prog_6_method_1_code 1 none ∈ lw_ok := ok_of (in_tables_1_1 (List.mem_of_getElem? (i := 67) rfl)) rfl
theorem k_68 : Cond.methodLinkNest "BedFrontier$Lamp" 1 ⟨"BedFrontier$Snoring", "<init>", "()V"⟩ "BedFrontier" ∈ lw_tbl := in_tables_1_1 (List.mem_of_getElem? (i := 68) rfl)
theorem k_69 : Cond.superclass "BedFrontier$Lamp" "BedFrontier$Snoring" ∈ lw_ok := ok_of (in_tables_1_1 (List.mem_of_getElem? (i := 69) rfl)) rfl
theorem k_70 : Cond.classLink "BedFrontier" 25 "BedFrontier$House" ∈ lw_ok := ok_of (in_tables_1_1 (List.mem_of_getElem? (i := 70) rfl)) rfl
theorem k_71 : Cond.instantiable "BedFrontier$House" 15 ∈ lw_ok := ok_of (in_tables_1_1 (List.mem_of_getElem? (i := 71) rfl)) rfl
theorem k_72 : Cond.methodLink "BedFrontier" 27 ⟨"BedFrontier$House", "<init>", "([LBedFrontier$Plain;)V"⟩ ∈ lw_ok := ok_of (in_tables_1_1 (List.mem_of_getElem? (i := 72) rfl)) rfl
theorem k_73 : Cond.instanceMethod ⟨"BedFrontier$House", "<init>", "([LBedFrontier$Plain;)V"⟩ ∈ lw_ok := ok_of (in_tables_1_1 (List.mem_of_getElem? (i := 73) rfl)) rfl
theorem k_74 : Cond.code ⟨"BedFrontier$House", "<init>", "([LBedFrontier$Plain;)V"⟩ prog_4_method_1_code 2 none ∈ lw_ok := ok_of (in_tables_1_1 (List.mem_of_getElem? (i := 74) rfl)) rfl
theorem k_75 : Cond.methodLink "BedFrontier$House" 3 ⟨"java/lang/Object", "<init>", "()V"⟩ ∈ lw_ok := ok_of (in_tables_1_1 (List.mem_of_getElem? (i := 75) rfl)) rfl
theorem k_76 : Cond.methodLink "BedFrontier$House" 34 ⟨"BedFrontier$House", "start", "(I)V"⟩ ∈ lw_ok := ok_of (in_tables_1_1 (List.mem_of_getElem? (i := 76) rfl)) rfl
theorem k_77 : Cond.instanceMethod ⟨"BedFrontier$House", "start", "(I)V"⟩ ∈ lw_ok := ok_of (in_tables_1_1 (List.mem_of_getElem? (i := 77) rfl)) rfl
theorem k_78 : Cond.selects "BedFrontier$House" ⟨"BedFrontier$House", "start", "(I)V"⟩ ⟨"BedFrontier$House", "start", "(I)V"⟩ ∈ lw_ok := ok_of (in_tables_1_1 (List.mem_of_getElem? (i := 78) rfl)) rfl
theorem k_79 : Cond.code ⟨"BedFrontier$House", "start", "(I)V"⟩ prog_4_method_2_code 3 none ∈ lw_ok := ok_of (in_tables_1_1 (List.mem_of_getElem? (i := 79) rfl)) rfl
theorem k_80 : Cond.fieldLink "BedFrontier$House" 30 "BedFrontier$House" "kinds" "[LBedFrontier$Plain;" ∈ lw_ok := ok_of (in_tables_1_1 (List.mem_of_getElem? (i := 80) rfl)) rfl
theorem k_81 : Cond.fieldLink "BedFrontier" 222 "BedFrontier$House" "kinds" "[LBedFrontier$Plain;" ∈ lw_ok := ok_of (in_tables_1_1 (List.mem_of_getElem? (i := 81) rfl)) rfl
theorem k_82 : Cond.fieldLink "BedFrontier$House" 9 "BedFrontier$House" "rates" "[I" ∈ lw_ok := ok_of (in_tables_1_1 (List.mem_of_getElem? (i := 82) rfl)) rfl
theorem k_83 : Cond.fieldLink "BedFrontier" 79 "BedFrontier$House" "rates" "[I" ∈ lw_ok := ok_of (in_tables_1_1 (List.mem_of_getElem? (i := 83) rfl)) rfl
theorem k_84 : Cond.fieldLink "BedFrontier$Reader" 85 "BedFrontier$House" "rates" "[I" ∈ lw_ok := ok_of (in_tables_1_1 (List.mem_of_getElem? (i := 84) rfl)) rfl
theorem k_85 : Cond.fieldLink "BedFrontier$House" 15 "BedFrontier$House" "barred" "[I" ∈ lw_ok := ok_of (in_tables_1_1 (List.mem_of_getElem? (i := 85) rfl)) rfl
theorem k_86 : Cond.fieldLink "BedFrontier" 84 "BedFrontier$House" "barred" "[I" ∈ lw_ok := ok_of (in_tables_1_1 (List.mem_of_getElem? (i := 86) rfl)) rfl
theorem k_87 : Cond.fieldLink "BedFrontier$Reader" 93 "BedFrontier$House" "barred" "[I" ∈ lw_ok := ok_of (in_tables_1_1 (List.mem_of_getElem? (i := 87) rfl)) rfl
theorem k_88 : Cond.fieldLink "BedFrontier$House" 18 "BedFrontier$House" "kindOf" "[I" ∈ lw_ok := ok_of (in_tables_1_1 (List.mem_of_getElem? (i := 88) rfl)) rfl
theorem k_89 : Cond.fieldLink "BedFrontier" 145 "BedFrontier$House" "kindOf" "[I" ∈ lw_ok := ok_of (in_tables_1_1 (List.mem_of_getElem? (i := 89) rfl)) rfl
theorem k_90 : Cond.fieldLink "BedFrontier$Clerk" 84 "BedFrontier$House" "kindOf" "[I" ∈ lw_ok := ok_of (in_tables_1_1 (List.mem_of_getElem? (i := 90) rfl)) rfl
theorem k_91 : Cond.fieldLink "BedFrontier$House" 21 "BedFrontier$House" "worthOf" "[I" ∈ lw_ok := ok_of (in_tables_1_1 (List.mem_of_getElem? (i := 91) rfl)) rfl
theorem k_92 : Cond.fieldLink "BedFrontier" 148 "BedFrontier$House" "worthOf" "[I" ∈ lw_ok := ok_of (in_tables_1_1 (List.mem_of_getElem? (i := 92) rfl)) rfl
theorem k_93 : Cond.fieldLink "BedFrontier$House" 24 "BedFrontier$House" "noted" "[I" ∈ lw_ok := ok_of (in_tables_1_1 (List.mem_of_getElem? (i := 93) rfl)) rfl
theorem k_94 : Cond.fieldLink "BedFrontier$Clerk" 68 "BedFrontier$House" "noted" "[I" ∈ lw_ok := ok_of (in_tables_1_1 (List.mem_of_getElem? (i := 94) rfl)) rfl
theorem k_95 : Cond.fieldLink "BedFrontier$House" 27 "BedFrontier$House" "past" "[I" ∈ lw_ok := ok_of (in_tables_1_1 (List.mem_of_getElem? (i := 95) rfl)) rfl
theorem k_96 : Cond.fieldLink "BedFrontier$House" 38 "BedFrontier$House" "toll" "I" ∈ lw_ok := ok_of (in_tables_1_1 (List.mem_of_getElem? (i := 96) rfl)) rfl
theorem k_97 : Cond.fieldLink "BedFrontier$Reader" 82 "BedFrontier$House" "toll" "I" ∈ lw_ok := ok_of (in_tables_1_1 (List.mem_of_getElem? (i := 97) rfl)) rfl
theorem k_98 : Cond.fieldLink "BedFrontier$Planner" 67 "BedFrontier$House" "toll" "I" ∈ lw_ok := ok_of (in_tables_1_1 (List.mem_of_getElem? (i := 98) rfl)) rfl
theorem k_99 : Cond.fieldLink "BedFrontier$House" 42 "BedFrontier$House" "war" "Z" ∈ lw_ok := ok_of (in_tables_1_1 (List.mem_of_getElem? (i := 99) rfl)) rfl
theorem k_100 : Cond.fieldLink "BedFrontier$Reader" 72 "BedFrontier$House" "war" "Z" ∈ lw_ok := ok_of (in_tables_1_1 (List.mem_of_getElem? (i := 100) rfl)) rfl
theorem k_101 : Cond.fieldLink "BedFrontier" 132 "BedFrontier$House" "war" "Z" ∈ lw_ok := ok_of (in_tables_1_1 (List.mem_of_getElem? (i := 101) rfl)) rfl
theorem k_102 : Cond.fieldLink "BedFrontier$House" 46 "BedFrontier$House" "side" "I" ∈ lw_ok := ok_of (in_tables_1_1 (List.mem_of_getElem? (i := 102) rfl)) rfl
theorem k_103 : Cond.fieldLink "BedFrontier$Planner" 38 "BedFrontier$House" "side" "I" ∈ lw_ok := ok_of (in_tables_1_1 (List.mem_of_getElem? (i := 103) rfl)) rfl
theorem k_104 : Cond.fieldLink "BedFrontier" 151 "BedFrontier$House" "side" "I" ∈ lw_ok := ok_of (in_tables_1_1 (List.mem_of_getElem? (i := 104) rfl)) rfl
theorem k_105 : Cond.fieldLink "BedFrontier$Clerk" 93 "BedFrontier$House" "side" "I" ∈ lw_ok := ok_of (in_tables_1_1 (List.mem_of_getElem? (i := 105) rfl)) rfl
theorem k_106 : Cond.fieldLink "BedFrontier$Planner" 25 "BedFrontier$House" "hour" "I" ∈ lw_ok := ok_of (in_tables_1_1 (List.mem_of_getElem? (i := 106) rfl)) rfl
theorem k_107 : Cond.fieldLink "BedFrontier$House" 49 "BedFrontier$House" "hour" "I" ∈ lw_ok := ok_of (in_tables_1_1 (List.mem_of_getElem? (i := 107) rfl)) rfl
theorem k_108 : Cond.fieldLink "BedFrontier$Clerk" 25 "BedFrontier$House" "hour" "I" ∈ lw_ok := ok_of (in_tables_1_1 (List.mem_of_getElem? (i := 108) rfl)) rfl
theorem k_109 : Cond.fieldLink "BedFrontier" 113 "BedFrontier$House" "hour" "I" ∈ lw_ok := ok_of (in_tables_1_1 (List.mem_of_getElem? (i := 109) rfl)) rfl
theorem k_110 : Cond.fieldLink "BedFrontier$House" 52 "BedFrontier$House" "paid" "I" ∈ lw_ok := ok_of (in_tables_1_1 (List.mem_of_getElem? (i := 110) rfl)) rfl
theorem k_111 : Cond.fieldLink "BedFrontier" 142 "BedFrontier$House" "paid" "I" ∈ lw_ok := ok_of (in_tables_1_1 (List.mem_of_getElem? (i := 111) rfl)) rfl
theorem k_112 : Cond.fieldLink "BedFrontier" 68 "BedFrontier$House" "doings" "I" ∈ lw_ok := ok_of (in_tables_1_1 (List.mem_of_getElem? (i := 112) rfl)) rfl
theorem k_113 : Cond.fieldLink "BedFrontier$House" 55 "BedFrontier$House" "doings" "I" ∈ lw_ok := ok_of (in_tables_1_1 (List.mem_of_getElem? (i := 113) rfl)) rfl
theorem k_114 : Cond.fieldLink "BedFrontier$Planner" 46 "BedFrontier$House" "doings" "I" ∈ lw_ok := ok_of (in_tables_1_1 (List.mem_of_getElem? (i := 114) rfl)) rfl
theorem k_115 : Cond.fieldLink "BedFrontier$Reader" 96 "BedFrontier$House" "doings" "I" ∈ lw_ok := ok_of (in_tables_1_1 (List.mem_of_getElem? (i := 115) rfl)) rfl
theorem k_116 : Cond.fieldLink "BedFrontier$Clerk" 81 "BedFrontier$House" "doings" "I" ∈ lw_ok := ok_of (in_tables_1_1 (List.mem_of_getElem? (i := 116) rfl)) rfl
theorem k_117 : Cond.fieldLink "BedFrontier$House" 58 "BedFrontier$House" "notes" "I" ∈ lw_ok := ok_of (in_tables_1_1 (List.mem_of_getElem? (i := 117) rfl)) rfl
theorem k_118 : Cond.fieldLink "BedFrontier$Clerk" 65 "BedFrontier$House" "notes" "I" ∈ lw_ok := ok_of (in_tables_1_1 (List.mem_of_getElem? (i := 118) rfl)) rfl
theorem k_119 : Cond.fieldLink "BedFrontier" 196 "BedFrontier$House" "notes" "I" ∈ lw_ok := ok_of (in_tables_1_1 (List.mem_of_getElem? (i := 119) rfl)) rfl
theorem k_120 : Cond.fieldLink "BedFrontier$House" 61 "BedFrontier$House" "steps" "I" ∈ lw_ok := ok_of (in_tables_1_1 (List.mem_of_getElem? (i := 120) rfl)) rfl
theorem k_121 : Cond.fieldLink "BedFrontier" 136 "BedFrontier$House" "steps" "I" ∈ lw_ok := ok_of (in_tables_1_1 (List.mem_of_getElem? (i := 121) rfl)) rfl
theorem k_122 : Cond.laysFinal "BedFrontier$House" "BedFrontier$House" "kinds" "[LBedFrontier$Plain;" ∈ lw_ok := ok_of (in_tables_1_1 (List.mem_of_getElem? (i := 122) rfl)) rfl
theorem k_123 : Cond.soleField "BedFrontier$House" "kinds" ∈ lw_ok := ok_of (in_tables_1_1 (List.mem_of_getElem? (i := 123) rfl)) rfl
theorem k_124 : Cond.laysFinal "BedFrontier$House" "BedFrontier$House" "rates" "[I" ∈ lw_ok := ok_of (in_tables_1_1 (List.mem_of_getElem? (i := 124) rfl)) rfl
theorem k_125 : Cond.soleField "BedFrontier$House" "rates" ∈ lw_ok := ok_of (in_tables_1_1 (List.mem_of_getElem? (i := 125) rfl)) rfl
theorem k_126 : Cond.laysFinal "BedFrontier$House" "BedFrontier$House" "barred" "[I" ∈ lw_ok := ok_of (in_tables_1_1 (List.mem_of_getElem? (i := 126) rfl)) rfl
theorem k_127 : Cond.soleField "BedFrontier$House" "barred" ∈ lw_ok := ok_of (in_tables_1_1 (List.mem_of_getElem? (i := 127) rfl)) rfl
theorem k_128 : Cond.laysFinal "BedFrontier$House" "BedFrontier$House" "kindOf" "[I" ∈ lw_ok := ok_of (in_tables_1_1 (List.mem_of_getElem? (i := 128) rfl)) rfl
theorem k_129 : Cond.soleField "BedFrontier$House" "kindOf" ∈ lw_ok := ok_of (in_tables_1_1 (List.mem_of_getElem? (i := 129) rfl)) rfl
theorem k_130 : Cond.laysFinal "BedFrontier$House" "BedFrontier$House" "worthOf" "[I" ∈ lw_ok := ok_of (in_tables_1_1 (List.mem_of_getElem? (i := 130) rfl)) rfl
theorem k_131 : Cond.soleField "BedFrontier$House" "worthOf" ∈ lw_ok := ok_of (in_tables_1_1 (List.mem_of_getElem? (i := 131) rfl)) rfl
theorem k_132 : Cond.laysFinal "BedFrontier$House" "BedFrontier$House" "noted" "[I" ∈ lw_ok := ok_of (in_tables_1_1 (List.mem_of_getElem? (i := 132) rfl)) rfl
theorem k_133 : Cond.soleField "BedFrontier$House" "noted" ∈ lw_ok := ok_of (in_tables_1_1 (List.mem_of_getElem? (i := 133) rfl)) rfl
theorem k_134 : Cond.laysFinal "BedFrontier$House" "BedFrontier$House" "past" "[I" ∈ lw_ok := ok_of (in_tables_1_1 (List.mem_of_getElem? (i := 134) rfl)) rfl
theorem k_135 : Cond.soleField "BedFrontier$House" "past" ∈ lw_ok := ok_of (in_tables_1_1 (List.mem_of_getElem? (i := 135) rfl)) rfl
theorem k_136 : Cond.lays "BedFrontier$House" "BedFrontier$House" "toll" "I" ∈ lw_ok := ok_of (in_tables_1_1 (List.mem_of_getElem? (i := 136) rfl)) rfl
theorem k_137 : Cond.soleField "BedFrontier$House" "toll" ∈ lw_ok := ok_of (in_tables_1_1 (List.mem_of_getElem? (i := 137) rfl)) rfl
theorem k_138 : Cond.lays "BedFrontier$House" "BedFrontier$House" "war" "Z" ∈ lw_ok := ok_of (in_tables_1_1 (List.mem_of_getElem? (i := 138) rfl)) rfl
theorem k_139 : Cond.soleField "BedFrontier$House" "war" ∈ lw_ok := ok_of (in_tables_1_1 (List.mem_of_getElem? (i := 139) rfl)) rfl
theorem k_140 : Cond.lays "BedFrontier$House" "BedFrontier$House" "side" "I" ∈ lw_ok := ok_of (in_tables_1_1 (List.mem_of_getElem? (i := 140) rfl)) rfl
theorem k_141 : Cond.soleField "BedFrontier$House" "side" ∈ lw_ok := ok_of (in_tables_1_1 (List.mem_of_getElem? (i := 141) rfl)) rfl
theorem k_142 : Cond.lays "BedFrontier$House" "BedFrontier$House" "hour" "I" ∈ lw_ok := ok_of (in_tables_1_1 (List.mem_of_getElem? (i := 142) rfl)) rfl
theorem k_143 : Cond.soleField "BedFrontier$House" "hour" ∈ lw_ok := ok_of (in_tables_1_1 (List.mem_of_getElem? (i := 143) rfl)) rfl
theorem k_144 : Cond.lays "BedFrontier$House" "BedFrontier$House" "paid" "I" ∈ lw_ok := ok_of (in_tables_1_1 (List.mem_of_getElem? (i := 144) rfl)) rfl
theorem k_145 : Cond.soleField "BedFrontier$House" "paid" ∈ lw_ok := ok_of (in_tables_1_1 (List.mem_of_getElem? (i := 145) rfl)) rfl
theorem k_146 : Cond.lays "BedFrontier$House" "BedFrontier$House" "doings" "I" ∈ lw_ok := ok_of (in_tables_1_1 (List.mem_of_getElem? (i := 146) rfl)) rfl
theorem k_147 : Cond.soleField "BedFrontier$House" "doings" ∈ lw_ok := ok_of (in_tables_1_1 (List.mem_of_getElem? (i := 147) rfl)) rfl
theorem k_148 : Cond.lays "BedFrontier$House" "BedFrontier$House" "notes" "I" ∈ lw_ok := ok_of (in_tables_1_1 (List.mem_of_getElem? (i := 148) rfl)) rfl
theorem k_149 : Cond.soleField "BedFrontier$House" "notes" ∈ lw_ok := ok_of (in_tables_1_1 (List.mem_of_getElem? (i := 149) rfl)) rfl
theorem k_150 : Cond.lays "BedFrontier$House" "BedFrontier$House" "steps" "I" ∈ lw_ok := ok_of (in_tables_1_1 (List.mem_of_getElem? (i := 150) rfl)) rfl
theorem k_151 : Cond.soleField "BedFrontier$House" "steps" ∈ lw_ok := ok_of (in_tables_1_1 (List.mem_of_getElem? (i := 151) rfl)) rfl
theorem k_152 : Cond.superclass "BedFrontier$House" "java/lang/Object" ∈ lw_ok := ok_of (in_tables_1_1 (List.mem_of_getElem? (i := 152) rfl)) rfl
theorem k_153 : Cond.arrayClass FieldType.int ∈ lw_ok := ok_of (in_tables_1_1 (List.mem_of_getElem? (i := 153) rfl)) rfl
theorem k_154 : Cond.classLink "BedFrontier" 36 "BedFrontier$Reader" ∈ lw_ok := ok_of (in_tables_1_1 (List.mem_of_getElem? (i := 154) rfl)) rfl
theorem k_155 : Cond.instantiable "BedFrontier$Reader" 7 ∈ lw_ok := ok_of (in_tables_1_1 (List.mem_of_getElem? (i := 155) rfl)) rfl
theorem k_156 : Cond.methodLink "BedFrontier" 38 ⟨"BedFrontier$Reader", "<init>", "(LBedFrontier$House;)V"⟩ ∈ lw_ok := ok_of (in_tables_1_1 (List.mem_of_getElem? (i := 156) rfl)) rfl
theorem k_157 : Cond.instanceMethod ⟨"BedFrontier$Reader", "<init>", "(LBedFrontier$House;)V"⟩ ∈ lw_ok := ok_of (in_tables_1_1 (List.mem_of_getElem? (i := 157) rfl)) rfl
theorem k_158 : Cond.code ⟨"BedFrontier$Reader", "<init>", "(LBedFrontier$House;)V"⟩ prog_10_method_1_code 2 none ∈ lw_ok := ok_of (in_tables_1_1 (List.mem_of_getElem? (i := 158) rfl)) rfl
theorem k_159 : Cond.methodLink "BedFrontier$Reader" 3 ⟨"java/lang/Object", "<init>", "()V"⟩ ∈ lw_ok := ok_of (in_tables_1_1 (List.mem_of_getElem? (i := 159) rfl)) rfl
theorem k_160 : Cond.fieldLink "BedFrontier$Reader" 15 "BedFrontier$Reader" "draft" "LBedFrontier$House;" ∈ lw_ok := ok_of (in_tables_1_1 (List.mem_of_getElem? (i := 160) rfl)) rfl
theorem k_161 : Cond.fieldLink "BedFrontier" 104 "BedFrontier$Reader" "draft" "LBedFrontier$House;" ∈ lw_ok := ok_of (in_tables_1_1 (List.mem_of_getElem? (i := 161) rfl)) rfl
theorem k_162 : Cond.fieldLink "BedFrontier$Reader" 9 "BedFrontier$Reader" "text" "[B" ∈ lw_ok := ok_of (in_tables_1_1 (List.mem_of_getElem? (i := 162) rfl)) rfl
theorem k_163 : Cond.fieldLink "BedFrontier$Reader" 19 "BedFrontier$Reader" "length" "I" ∈ lw_ok := ok_of (in_tables_1_1 (List.mem_of_getElem? (i := 163) rfl)) rfl
theorem k_164 : Cond.fieldLink "BedFrontier" 95 "BedFrontier$Reader" "length" "I" ∈ lw_ok := ok_of (in_tables_1_1 (List.mem_of_getElem? (i := 164) rfl)) rfl
theorem k_165 : Cond.fieldLink "BedFrontier$Reader" 35 "BedFrontier$Reader" "token" "I" ∈ lw_ok := ok_of (in_tables_1_1 (List.mem_of_getElem? (i := 165) rfl)) rfl
theorem k_166 : Cond.fieldLink "BedFrontier$Reader" 42 "BedFrontier$Reader" "begin" "I" ∈ lw_ok := ok_of (in_tables_1_1 (List.mem_of_getElem? (i := 166) rfl)) rfl
theorem k_167 : Cond.fieldLink "BedFrontier$Reader" 29 "BedFrontier$Reader" "behind" "I" ∈ lw_ok := ok_of (in_tables_1_1 (List.mem_of_getElem? (i := 167) rfl)) rfl
theorem k_168 : Cond.fieldLink "BedFrontier$Reader" 79 "BedFrontier$Reader" "value" "I" ∈ lw_ok := ok_of (in_tables_1_1 (List.mem_of_getElem? (i := 168) rfl)) rfl
theorem k_169 : Cond.laysFinal "BedFrontier$Reader" "BedFrontier$Reader" "draft" "LBedFrontier$House;" ∈ lw_ok := ok_of (in_tables_1_1 (List.mem_of_getElem? (i := 169) rfl)) rfl
theorem k_170 : Cond.soleField "BedFrontier$Reader" "draft" ∈ lw_ok := ok_of (in_tables_1_1 (List.mem_of_getElem? (i := 170) rfl)) rfl
theorem k_171 : Cond.laysFinal "BedFrontier$Reader" "BedFrontier$Reader" "text" "[B" ∈ lw_ok := ok_of (in_tables_1_1 (List.mem_of_getElem? (i := 171) rfl)) rfl
theorem k_172 : Cond.soleField "BedFrontier$Reader" "text" ∈ lw_ok := ok_of (in_tables_1_1 (List.mem_of_getElem? (i := 172) rfl)) rfl
theorem k_173 : Cond.lays "BedFrontier$Reader" "BedFrontier$Reader" "length" "I" ∈ lw_ok := ok_of (in_tables_1_1 (List.mem_of_getElem? (i := 173) rfl)) rfl
theorem k_174 : Cond.soleField "BedFrontier$Reader" "length" ∈ lw_ok := ok_of (in_tables_1_1 (List.mem_of_getElem? (i := 174) rfl)) rfl
theorem k_175 : Cond.lays "BedFrontier$Reader" "BedFrontier$Reader" "token" "I" ∈ lw_ok := ok_of (in_tables_1_1 (List.mem_of_getElem? (i := 175) rfl)) rfl
theorem k_176 : Cond.soleField "BedFrontier$Reader" "token" ∈ lw_ok := ok_of (in_tables_1_1 (List.mem_of_getElem? (i := 176) rfl)) rfl
theorem k_177 : Cond.lays "BedFrontier$Reader" "BedFrontier$Reader" "begin" "I" ∈ lw_ok := ok_of (in_tables_1_1 (List.mem_of_getElem? (i := 177) rfl)) rfl
theorem k_178 : Cond.soleField "BedFrontier$Reader" "begin" ∈ lw_ok := ok_of (in_tables_1_1 (List.mem_of_getElem? (i := 178) rfl)) rfl
theorem k_179 : Cond.lays "BedFrontier$Reader" "BedFrontier$Reader" "behind" "I" ∈ lw_ok := ok_of (in_tables_1_1 (List.mem_of_getElem? (i := 179) rfl)) rfl
theorem k_180 : Cond.soleField "BedFrontier$Reader" "behind" ∈ lw_ok := ok_of (in_tables_1_1 (List.mem_of_getElem? (i := 180) rfl)) rfl
theorem k_181 : Cond.lays "BedFrontier$Reader" "BedFrontier$Reader" "value" "I" ∈ lw_ok := ok_of (in_tables_1_1 (List.mem_of_getElem? (i := 181) rfl)) rfl
theorem k_182 : Cond.soleField "BedFrontier$Reader" "value" ∈ lw_ok := ok_of (in_tables_1_1 (List.mem_of_getElem? (i := 182) rfl)) rfl
theorem k_183 : Cond.superclass "BedFrontier$Reader" "java/lang/Object" ∈ lw_ok := ok_of (in_tables_1_1 (List.mem_of_getElem? (i := 183) rfl)) rfl
theorem k_184 : Cond.arrayClass FieldType.byte ∈ lw_ok := ok_of (in_tables_1_1 (List.mem_of_getElem? (i := 184) rfl)) rfl
theorem k_185 : Cond.classLink "BedFrontier" 45 "BedFrontier$Clerk" ∈ lw_ok := ok_of (in_tables_1_1 (List.mem_of_getElem? (i := 185) rfl)) rfl
theorem k_186 : Cond.instantiable "BedFrontier$Clerk" 2 ∈ lw_ok := ok_of (in_tables_1_1 (List.mem_of_getElem? (i := 186) rfl)) rfl
theorem k_187 : Cond.methodLink "BedFrontier" 47 ⟨"BedFrontier$Clerk", "<init>", "(LBedFrontier$House;)V"⟩ ∈ lw_ok := ok_of (in_tables_1_1 (List.mem_of_getElem? (i := 187) rfl)) rfl
theorem k_188 : Cond.instanceMethod ⟨"BedFrontier$Clerk", "<init>", "(LBedFrontier$House;)V"⟩ ∈ lw_ok := ok_of (in_tables_1_1 (List.mem_of_getElem? (i := 188) rfl)) rfl
theorem k_189 : Cond.code ⟨"BedFrontier$Clerk", "<init>", "(LBedFrontier$House;)V"⟩ prog_3_method_1_code 2 none ∈ lw_ok := ok_of (in_tables_1_1 (List.mem_of_getElem? (i := 189) rfl)) rfl
theorem k_190 : Cond.methodLink "BedFrontier$Clerk" 3 ⟨"java/lang/Object", "<init>", "()V"⟩ ∈ lw_ok := ok_of (in_tables_1_1 (List.mem_of_getElem? (i := 190) rfl)) rfl
theorem k_191 : Cond.fieldLink "BedFrontier$Clerk" 15 "BedFrontier$Clerk" "home" "LBedFrontier$House;" ∈ lw_ok := ok_of (in_tables_1_1 (List.mem_of_getElem? (i := 191) rfl)) rfl
theorem k_192 : Cond.fieldLink "BedFrontier$Clerk" 9 "BedFrontier$Clerk" "prices" "[I" ∈ lw_ok := ok_of (in_tables_1_1 (List.mem_of_getElem? (i := 192) rfl)) rfl
theorem k_193 : Cond.laysFinal "BedFrontier$Clerk" "BedFrontier$Clerk" "home" "LBedFrontier$House;" ∈ lw_ok := ok_of (in_tables_1_1 (List.mem_of_getElem? (i := 193) rfl)) rfl
theorem k_194 : Cond.soleField "BedFrontier$Clerk" "home" ∈ lw_ok := ok_of (in_tables_1_1 (List.mem_of_getElem? (i := 194) rfl)) rfl
theorem k_195 : Cond.laysFinal "BedFrontier$Clerk" "BedFrontier$Clerk" "prices" "[I" ∈ lw_ok := ok_of (in_tables_1_1 (List.mem_of_getElem? (i := 195) rfl)) rfl
theorem k_196 : Cond.soleField "BedFrontier$Clerk" "prices" ∈ lw_ok := ok_of (in_tables_1_1 (List.mem_of_getElem? (i := 196) rfl)) rfl
theorem k_197 : Cond.superclass "BedFrontier$Clerk" "java/lang/Object" ∈ lw_ok := ok_of (in_tables_1_1 (List.mem_of_getElem? (i := 197) rfl)) rfl
theorem k_198 : Cond.arrayOver (FieldType.object "BedFrontier$House") ∈ lw_tbl := in_tables_1_1 (List.mem_of_getElem? (i := 198) rfl)
theorem k_199 : Cond.fieldLink "BedFrontier" 30 "BedFrontier" "home" "LBedFrontier$House;" ∈ lw_ok := ok_of (in_tables_1_1 (List.mem_of_getElem? (i := 199) rfl)) rfl
theorem k_200 : Cond.fieldLink "BedFrontier" 41 "BedFrontier" "reader" "LBedFrontier$Reader;" ∈ lw_ok := ok_of (in_tables_1_1 (List.mem_of_getElem? (i := 200) rfl)) rfl
theorem k_201 : Cond.fieldLink "BedFrontier" 48 "BedFrontier" "clerk" "LBedFrontier$Clerk;" ∈ lw_ok := ok_of (in_tables_1_1 (List.mem_of_getElem? (i := 201) rfl)) rfl
theorem k_202 : Cond.fieldLink "BedFrontier" 52 "BedFrontier" "images" "[LBedFrontier$House;" ∈ lw_ok := ok_of (in_tables_1_1 (List.mem_of_getElem? (i := 202) rfl)) rfl
theorem k_203 : Cond.fieldLink "BedFrontier" 167 "BedFrontier" "planner" "LBedFrontier$Planner;" ∈ lw_ok := ok_of (in_tables_1_1 (List.mem_of_getElem? (i := 203) rfl)) rfl
theorem k_204 : Cond.fieldLink "BedFrontier" 219 "BedFrontier" "above" "I" ∈ lw_ok := ok_of (in_tables_1_1 (List.mem_of_getElem? (i := 204) rfl)) rfl
theorem k_205 : Cond.fieldLink "BedFrontier" 56 "BedFrontier" "below" "I" ∈ lw_ok := ok_of (in_tables_1_1 (List.mem_of_getElem? (i := 205) rfl)) rfl
theorem k_206 : Cond.fieldLink "BedFrontier" 226 "BedFrontier" "bads" "I" ∈ lw_ok := ok_of (in_tables_1_1 (List.mem_of_getElem? (i := 206) rfl)) rfl
theorem k_207 : Cond.fieldLink "BedFrontier" 229 "BedFrontier" "noes" "I" ∈ lw_ok := ok_of (in_tables_1_1 (List.mem_of_getElem? (i := 207) rfl)) rfl
theorem k_208 : Cond.fieldLink "BedFrontier" 232 "BedFrontier" "fulls" "I" ∈ lw_ok := ok_of (in_tables_1_1 (List.mem_of_getElem? (i := 208) rfl)) rfl
theorem k_209 : Cond.laysFinal "BedFrontier" "BedFrontier" "home" "LBedFrontier$House;" ∈ lw_ok := ok_of (in_tables_1_1 (List.mem_of_getElem? (i := 209) rfl)) rfl
theorem k_210 : Cond.soleField "BedFrontier" "home" ∈ lw_ok := ok_of (in_tables_1_1 (List.mem_of_getElem? (i := 210) rfl)) rfl
theorem k_211 : Cond.laysFinal "BedFrontier" "BedFrontier" "reader" "LBedFrontier$Reader;" ∈ lw_ok := ok_of (in_tables_1_1 (List.mem_of_getElem? (i := 211) rfl)) rfl
theorem k_212 : Cond.soleField "BedFrontier" "reader" ∈ lw_ok := ok_of (in_tables_1_1 (List.mem_of_getElem? (i := 212) rfl)) rfl
theorem k_213 : Cond.laysFinal "BedFrontier" "BedFrontier" "clerk" "LBedFrontier$Clerk;" ∈ lw_ok := ok_of (in_tables_1_1 (List.mem_of_getElem? (i := 213) rfl)) rfl
theorem k_214 : Cond.soleField "BedFrontier" "clerk" ∈ lw_ok := ok_of (in_tables_1_1 (List.mem_of_getElem? (i := 214) rfl)) rfl
theorem k_215 : Cond.laysFinal "BedFrontier" "BedFrontier" "images" "[LBedFrontier$House;" ∈ lw_ok := ok_of (in_tables_1_1 (List.mem_of_getElem? (i := 215) rfl)) rfl
theorem k_216 : Cond.soleField "BedFrontier" "images" ∈ lw_ok := ok_of (in_tables_1_1 (List.mem_of_getElem? (i := 216) rfl)) rfl
theorem k_217 : Cond.lays "BedFrontier" "BedFrontier" "planner" "LBedFrontier$Planner;" ∈ lw_ok := ok_of (in_tables_1_1 (List.mem_of_getElem? (i := 217) rfl)) rfl
theorem k_218 : Cond.soleField "BedFrontier" "planner" ∈ lw_ok := ok_of (in_tables_1_1 (List.mem_of_getElem? (i := 218) rfl)) rfl
theorem k_219 : Cond.lays "BedFrontier" "BedFrontier" "above" "I" ∈ lw_ok := ok_of (in_tables_1_1 (List.mem_of_getElem? (i := 219) rfl)) rfl
theorem k_220 : Cond.soleField "BedFrontier" "above" ∈ lw_ok := ok_of (in_tables_1_1 (List.mem_of_getElem? (i := 220) rfl)) rfl
theorem k_221 : Cond.lays "BedFrontier" "BedFrontier" "below" "I" ∈ lw_ok := ok_of (in_tables_1_1 (List.mem_of_getElem? (i := 221) rfl)) rfl
theorem k_222 : Cond.soleField "BedFrontier" "below" ∈ lw_ok := ok_of (in_tables_1_1 (List.mem_of_getElem? (i := 222) rfl)) rfl
theorem k_223 : Cond.lays "BedFrontier" "BedFrontier" "bads" "I" ∈ lw_ok := ok_of (in_tables_1_1 (List.mem_of_getElem? (i := 223) rfl)) rfl
theorem k_224 : Cond.soleField "BedFrontier" "bads" ∈ lw_ok := ok_of (in_tables_1_1 (List.mem_of_getElem? (i := 224) rfl)) rfl
theorem k_225 : Cond.lays "BedFrontier" "BedFrontier" "noes" "I" ∈ lw_ok := ok_of (in_tables_1_1 (List.mem_of_getElem? (i := 225) rfl)) rfl
theorem k_226 : Cond.soleField "BedFrontier" "noes" ∈ lw_ok := ok_of (in_tables_1_1 (List.mem_of_getElem? (i := 226) rfl)) rfl
theorem k_227 : Cond.lays "BedFrontier" "BedFrontier" "fulls" "I" ∈ lw_ok := ok_of (in_tables_1_1 (List.mem_of_getElem? (i := 227) rfl)) rfl
theorem k_228 : Cond.soleField "BedFrontier" "fulls" ∈ lw_ok := ok_of (in_tables_1_1 (List.mem_of_getElem? (i := 228) rfl)) rfl
theorem k_229 : Cond.superclass "BedFrontier" "java/lang/Object" ∈ lw_ok := ok_of (in_tables_1_1 (List.mem_of_getElem? (i := 229) rfl)) rfl
theorem k_230 : Cond.methodLink "BedFrontierLaw" 13 ⟨"BedFrontier", "house", "(I)I"⟩ ∈ lw_ok := ok_of (in_tables_1_1 (List.mem_of_getElem? (i := 230) rfl)) rfl
theorem k_231 : Cond.instanceMethod ⟨"BedFrontier", "house", "(I)I"⟩ ∈ lw_ok := ok_of (in_tables_1_1 (List.mem_of_getElem? (i := 231) rfl)) rfl
theorem k_232 : Cond.selects "BedFrontier" ⟨"BedFrontier", "house", "(I)I"⟩ ⟨"BedFrontier", "house", "(I)I"⟩ ∈ lw_ok := ok_of (in_tables_1_1 (List.mem_of_getElem? (i := 232) rfl)) rfl
theorem k_233 : Cond.code ⟨"BedFrontier", "house", "(I)I"⟩ prog_1_method_2_code 3 (Option.some FieldType.int) ∈ lw_ok := ok_of (in_tables_1_1 (List.mem_of_getElem? (i := 233) rfl)) rfl
theorem k_234 : Cond.methodLink "BedFrontier" 60 ⟨"BedFrontier", "within", "(II)Z"⟩ ∈ lw_ok := ok_of (in_tables_1_1 (List.mem_of_getElem? (i := 234) rfl)) rfl
theorem k_235 : Cond.static ⟨"BedFrontier", "within", "(II)Z"⟩ ∈ lw_ok := ok_of (in_tables_1_1 (List.mem_of_getElem? (i := 235) rfl)) rfl
theorem k_236 : Cond.code ⟨"BedFrontier", "within", "(II)Z"⟩ prog_1_method_42_code 2 (Option.some FieldType.boolean) ∈ lw_ok := ok_of (in_tables_1_1 (List.mem_of_getElem? (i := 236) rfl)) rfl
theorem k_237 : Cond.methodLink "BedFrontier" 64 ⟨"BedFrontier", "refuseBad", "(I)I"⟩ ∈ lw_ok := ok_of (in_tables_1_1 (List.mem_of_getElem? (i := 237) rfl)) rfl
theorem k_238 : Cond.privateMethod ⟨"BedFrontier", "refuseBad", "(I)I"⟩ ∈ lw_tbl := in_tables_1_1 (List.mem_of_getElem? (i := 238) rfl)
theorem k_239 : Cond.instanceMethod ⟨"BedFrontier", "refuseBad", "(I)I"⟩ ∈ lw_ok := ok_of (in_tables_1_1 (List.mem_of_getElem? (i := 239) rfl)) rfl
theorem k_240 : Cond.code ⟨"BedFrontier", "refuseBad", "(I)I"⟩ prog_1_method_36_code 2 (Option.some FieldType.int) ∈ lw_ok := ok_of (in_tables_1_2 (List.mem_of_getElem? (i := 0) rfl)) rfl
theorem k_241 : Cond.methodLink "BedFrontier" 71 ⟨"BedFrontier$House", "start", "(I)V"⟩ ∈ lw_ok := ok_of (in_tables_1_2 (List.mem_of_getElem? (i := 1) rfl)) rfl
theorem k_242 : Cond.methodLink "BedFrontierLaw" 18 ⟨"BedFrontier", "rate", "(II)I"⟩ ∈ lw_ok := ok_of (in_tables_1_2 (List.mem_of_getElem? (i := 2) rfl)) rfl
theorem k_243 : Cond.instanceMethod ⟨"BedFrontier", "rate", "(II)I"⟩ ∈ lw_ok := ok_of (in_tables_1_2 (List.mem_of_getElem? (i := 3) rfl)) rfl
theorem k_244 : Cond.selects "BedFrontier" ⟨"BedFrontier", "rate", "(II)I"⟩ ⟨"BedFrontier", "rate", "(II)I"⟩ ∈ lw_ok := ok_of (in_tables_1_2 (List.mem_of_getElem? (i := 4) rfl)) rfl
theorem k_245 : Cond.code ⟨"BedFrontier", "rate", "(II)I"⟩ prog_1_method_3_code 4 (Option.some FieldType.int) ∈ lw_ok := ok_of (in_tables_1_2 (List.mem_of_getElem? (i := 5) rfl)) rfl
theorem k_246 : Cond.methodLink "BedFrontier" 75 ⟨"BedFrontier", "isSide", "(I)Z"⟩ ∈ lw_ok := ok_of (in_tables_1_2 (List.mem_of_getElem? (i := 6) rfl)) rfl
theorem k_247 : Cond.static ⟨"BedFrontier", "isSide", "(I)Z"⟩ ∈ lw_ok := ok_of (in_tables_1_2 (List.mem_of_getElem? (i := 7) rfl)) rfl
theorem k_248 : Cond.code ⟨"BedFrontier", "isSide", "(I)Z"⟩ prog_1_method_40_code 1 (Option.some FieldType.boolean) ∈ lw_ok := ok_of (in_tables_1_2 (List.mem_of_getElem? (i := 8) rfl)) rfl
theorem k_249 : Cond.methodLink "BedFrontierLaw" 23 ⟨"BedFrontier", "bar", "(II)I"⟩ ∈ lw_ok := ok_of (in_tables_1_2 (List.mem_of_getElem? (i := 9) rfl)) rfl
theorem k_250 : Cond.instanceMethod ⟨"BedFrontier", "bar", "(II)I"⟩ ∈ lw_ok := ok_of (in_tables_1_2 (List.mem_of_getElem? (i := 10) rfl)) rfl
theorem k_251 : Cond.selects "BedFrontier" ⟨"BedFrontier", "bar", "(II)I"⟩ ⟨"BedFrontier", "bar", "(II)I"⟩ ∈ lw_ok := ok_of (in_tables_1_2 (List.mem_of_getElem? (i := 11) rfl)) rfl
theorem k_252 : Cond.code ⟨"BedFrontier", "bar", "(II)I"⟩ prog_1_method_4_code 4 (Option.some FieldType.int) ∈ lw_ok := ok_of (in_tables_1_2 (List.mem_of_getElem? (i := 12) rfl)) rfl
theorem k_253 : Cond.constant "BedFrontier" 83 (16777215 : Int32) ∈ lw_ok := ok_of (in_tables_1_2 (List.mem_of_getElem? (i := 13) rfl)) rfl
theorem k_254 : Cond.methodLink "BedFrontierLaw" 27 ⟨"BedFrontier", "doing", "(II)I"⟩ ∈ lw_ok := ok_of (in_tables_1_2 (List.mem_of_getElem? (i := 14) rfl)) rfl
theorem k_255 : Cond.instanceMethod ⟨"BedFrontier", "doing", "(II)I"⟩ ∈ lw_ok := ok_of (in_tables_1_2 (List.mem_of_getElem? (i := 15) rfl)) rfl
theorem k_256 : Cond.selects "BedFrontier" ⟨"BedFrontier", "doing", "(II)I"⟩ ⟨"BedFrontier", "doing", "(II)I"⟩ ∈ lw_ok := ok_of (in_tables_1_2 (List.mem_of_getElem? (i := 16) rfl)) rfl
theorem k_257 : Cond.code ⟨"BedFrontier", "doing", "(II)I"⟩ prog_1_method_5_code 3 (Option.some FieldType.int) ∈ lw_ok := ok_of (in_tables_1_2 (List.mem_of_getElem? (i := 17) rfl)) rfl
theorem k_258 : Cond.methodLink "BedFrontier" 87 ⟨"BedFrontier", "refuseFull", "()I"⟩ ∈ lw_ok := ok_of (in_tables_1_2 (List.mem_of_getElem? (i := 18) rfl)) rfl
theorem k_259 : Cond.privateMethod ⟨"BedFrontier", "refuseFull", "()I"⟩ ∈ lw_tbl := in_tables_1_2 (List.mem_of_getElem? (i := 19) rfl)
theorem k_260 : Cond.instanceMethod ⟨"BedFrontier", "refuseFull", "()I"⟩ ∈ lw_ok := ok_of (in_tables_1_2 (List.mem_of_getElem? (i := 20) rfl)) rfl
theorem k_261 : Cond.code ⟨"BedFrontier", "refuseFull", "()I"⟩ prog_1_method_38_code 1 (Option.some FieldType.int) ∈ lw_ok := ok_of (in_tables_1_2 (List.mem_of_getElem? (i := 21) rfl)) rfl
theorem k_262 : Cond.methodLink "BedFrontier" 91 ⟨"BedFrontier$House", "addDoing", "(II)I"⟩ ∈ lw_ok := ok_of (in_tables_1_2 (List.mem_of_getElem? (i := 22) rfl)) rfl
theorem k_263 : Cond.instanceMethod ⟨"BedFrontier$House", "addDoing", "(II)I"⟩ ∈ lw_ok := ok_of (in_tables_1_2 (List.mem_of_getElem? (i := 23) rfl)) rfl
theorem k_264 : Cond.selects "BedFrontier$House" ⟨"BedFrontier$House", "addDoing", "(II)I"⟩ ⟨"BedFrontier$House", "addDoing", "(II)I"⟩ ∈ lw_ok := ok_of (in_tables_1_2 (List.mem_of_getElem? (i := 24) rfl)) rfl
theorem k_265 : Cond.code ⟨"BedFrontier$House", "addDoing", "(II)I"⟩ prog_4_method_5_code 3 (Option.some FieldType.int) ∈ lw_ok := ok_of (in_tables_1_2 (List.mem_of_getElem? (i := 25) rfl)) rfl
theorem k_266 : Cond.methodLink "BedFrontierLaw" 31 ⟨"BedFrontier", "type", "(I)I"⟩ ∈ lw_ok := ok_of (in_tables_1_2 (List.mem_of_getElem? (i := 26) rfl)) rfl
theorem k_267 : Cond.instanceMethod ⟨"BedFrontier", "type", "(I)I"⟩ ∈ lw_ok := ok_of (in_tables_1_2 (List.mem_of_getElem? (i := 27) rfl)) rfl
theorem k_268 : Cond.selects "BedFrontier" ⟨"BedFrontier", "type", "(I)I"⟩ ⟨"BedFrontier", "type", "(I)I"⟩ ∈ lw_ok := ok_of (in_tables_1_2 (List.mem_of_getElem? (i := 28) rfl)) rfl
theorem k_269 : Cond.code ⟨"BedFrontier", "type", "(I)I"⟩ prog_1_method_6_code 2 (Option.some FieldType.int) ∈ lw_ok := ok_of (in_tables_1_2 (List.mem_of_getElem? (i := 29) rfl)) rfl
theorem k_270 : Cond.methodLink "BedFrontier" 98 ⟨"BedFrontier$Reader", "append", "(I)I"⟩ ∈ lw_ok := ok_of (in_tables_1_2 (List.mem_of_getElem? (i := 30) rfl)) rfl
theorem k_271 : Cond.instanceMethod ⟨"BedFrontier$Reader", "append", "(I)I"⟩ ∈ lw_ok := ok_of (in_tables_1_2 (List.mem_of_getElem? (i := 31) rfl)) rfl
theorem k_272 : Cond.selects "BedFrontier$Reader" ⟨"BedFrontier$Reader", "append", "(I)I"⟩ ⟨"BedFrontier$Reader", "append", "(I)I"⟩ ∈ lw_ok := ok_of (in_tables_1_2 (List.mem_of_getElem? (i := 32) rfl)) rfl
theorem k_273 : Cond.code ⟨"BedFrontier$Reader", "append", "(I)I"⟩ prog_10_method_2_code 2 (Option.some FieldType.int) ∈ lw_ok := ok_of (in_tables_1_2 (List.mem_of_getElem? (i := 33) rfl)) rfl
theorem k_274 : Cond.methodLink "BedFrontierLaw" 35 ⟨"BedFrontier", "clear", "()I"⟩ ∈ lw_ok := ok_of (in_tables_1_2 (List.mem_of_getElem? (i := 34) rfl)) rfl
theorem k_275 : Cond.instanceMethod ⟨"BedFrontier", "clear", "()I"⟩ ∈ lw_ok := ok_of (in_tables_1_2 (List.mem_of_getElem? (i := 35) rfl)) rfl
theorem k_276 : Cond.selects "BedFrontier" ⟨"BedFrontier", "clear", "()I"⟩ ⟨"BedFrontier", "clear", "()I"⟩ ∈ lw_ok := ok_of (in_tables_1_2 (List.mem_of_getElem? (i := 36) rfl)) rfl
theorem k_277 : Cond.code ⟨"BedFrontier", "clear", "()I"⟩ prog_1_method_7_code 2 (Option.some FieldType.int) ∈ lw_ok := ok_of (in_tables_1_2 (List.mem_of_getElem? (i := 37) rfl)) rfl
theorem k_278 : Cond.methodLink "BedFrontierLaw" 40 ⟨"BedFrontier", "read", "()I"⟩ ∈ lw_ok := ok_of (in_tables_1_2 (List.mem_of_getElem? (i := 38) rfl)) rfl
theorem k_279 : Cond.instanceMethod ⟨"BedFrontier", "read", "()I"⟩ ∈ lw_ok := ok_of (in_tables_1_2 (List.mem_of_getElem? (i := 39) rfl)) rfl
theorem k_280 : Cond.selects "BedFrontier" ⟨"BedFrontier", "read", "()I"⟩ ⟨"BedFrontier", "read", "()I"⟩ ∈ lw_ok := ok_of (in_tables_1_2 (List.mem_of_getElem? (i := 40) rfl)) rfl
theorem k_281 : Cond.code ⟨"BedFrontier", "read", "()I"⟩ prog_1_method_8_code 2 (Option.some FieldType.int) ∈ lw_ok := ok_of (in_tables_1_2 (List.mem_of_getElem? (i := 41) rfl)) rfl
theorem k_282 : Cond.methodLink "BedFrontier" 101 ⟨"BedFrontier$Reader", "parse", "()I"⟩ ∈ lw_ok := ok_of (in_tables_1_2 (List.mem_of_getElem? (i := 42) rfl)) rfl
theorem k_283 : Cond.instanceMethod ⟨"BedFrontier$Reader", "parse", "()I"⟩ ∈ lw_ok := ok_of (in_tables_1_2 (List.mem_of_getElem? (i := 43) rfl)) rfl
theorem k_284 : Cond.selects "BedFrontier$Reader" ⟨"BedFrontier$Reader", "parse", "()I"⟩ ⟨"BedFrontier$Reader", "parse", "()I"⟩ ∈ lw_ok := ok_of (in_tables_1_2 (List.mem_of_getElem? (i := 44) rfl)) rfl
theorem k_285 : Cond.code ⟨"BedFrontier$Reader", "parse", "()I"⟩ prog_10_method_3_code 2 (Option.some FieldType.int) ∈ lw_ok := ok_of (in_tables_1_2 (List.mem_of_getElem? (i := 45) rfl)) rfl
theorem k_286 : Cond.methodLink "BedFrontier$Reader" 23 ⟨"BedFrontier$House", "start", "(I)V"⟩ ∈ lw_ok := ok_of (in_tables_1_2 (List.mem_of_getElem? (i := 46) rfl)) rfl
theorem k_287 : Cond.methodLink "BedFrontier$Reader" 32 ⟨"BedFrontier$Reader", "step", "()V"⟩ ∈ lw_ok := ok_of (in_tables_1_2 (List.mem_of_getElem? (i := 47) rfl)) rfl
theorem k_288 : Cond.instanceMethod ⟨"BedFrontier$Reader", "step", "()V"⟩ ∈ lw_ok := ok_of (in_tables_1_2 (List.mem_of_getElem? (i := 48) rfl)) rfl
theorem k_289 : Cond.selects "BedFrontier$Reader" ⟨"BedFrontier$Reader", "step", "()V"⟩ ⟨"BedFrontier$Reader", "step", "()V"⟩ ∈ lw_ok := ok_of (in_tables_1_2 (List.mem_of_getElem? (i := 49) rfl)) rfl
theorem k_290 : Cond.code ⟨"BedFrontier$Reader", "step", "()V"⟩ prog_10_method_11_code 1 none ∈ lw_ok := ok_of (in_tables_1_2 (List.mem_of_getElem? (i := 50) rfl)) rfl
theorem k_291 : Cond.methodLink "BedFrontier$Reader" 112 ⟨"BedFrontier$Reader", "tokenOf", "(I)I"⟩ ∈ lw_ok := ok_of (in_tables_1_2 (List.mem_of_getElem? (i := 51) rfl)) rfl
theorem k_292 : Cond.static ⟨"BedFrontier$Reader", "tokenOf", "(I)I"⟩ ∈ lw_ok := ok_of (in_tables_1_2 (List.mem_of_getElem? (i := 52) rfl)) rfl
theorem k_293 : Cond.code ⟨"BedFrontier$Reader", "tokenOf", "(I)I"⟩ prog_10_method_12_code 1 (Option.some FieldType.int) ∈ lw_ok := ok_of (in_tables_1_2 (List.mem_of_getElem? (i := 53) rfl)) rfl
theorem k_294 : Cond.methodLink "BedFrontier$Reader" 116 ⟨"BedFrontier$Reader", "valueOfFigures", "()I"⟩ ∈ lw_ok := ok_of (in_tables_1_2 (List.mem_of_getElem? (i := 54) rfl)) rfl
theorem k_295 : Cond.instanceMethod ⟨"BedFrontier$Reader", "valueOfFigures", "()I"⟩ ∈ lw_ok := ok_of (in_tables_1_2 (List.mem_of_getElem? (i := 55) rfl)) rfl
theorem k_296 : Cond.selects "BedFrontier$Reader" ⟨"BedFrontier$Reader", "valueOfFigures", "()I"⟩ ⟨"BedFrontier$Reader", "valueOfFigures", "()I"⟩ ∈ lw_ok := ok_of (in_tables_1_2 (List.mem_of_getElem? (i := 56) rfl)) rfl
theorem k_297 : Cond.code ⟨"BedFrontier$Reader", "valueOfFigures", "()I"⟩ prog_10_method_13_code 2 (Option.some FieldType.int) ∈ lw_ok := ok_of (in_tables_1_2 (List.mem_of_getElem? (i := 57) rfl)) rfl
theorem k_298 : Cond.methodLink "BedFrontier$Reader" 38 ⟨"BedFrontier$Reader", "item", "(Z)Z"⟩ ∈ lw_ok := ok_of (in_tables_1_2 (List.mem_of_getElem? (i := 58) rfl)) rfl
theorem k_299 : Cond.instanceMethod ⟨"BedFrontier$Reader", "item", "(Z)Z"⟩ ∈ lw_ok := ok_of (in_tables_1_2 (List.mem_of_getElem? (i := 59) rfl)) rfl
theorem k_300 : Cond.selects "BedFrontier$Reader" ⟨"BedFrontier$Reader", "item", "(Z)Z"⟩ ⟨"BedFrontier$Reader", "item", "(Z)Z"⟩ ∈ lw_ok := ok_of (in_tables_1_2 (List.mem_of_getElem? (i := 60) rfl)) rfl
theorem k_301 : Cond.code ⟨"BedFrontier$Reader", "item", "(Z)Z"⟩ prog_10_method_4_code 3 (Option.some FieldType.boolean) ∈ lw_ok := ok_of (in_tables_1_2 (List.mem_of_getElem? (i := 61) rfl)) rfl
theorem k_302 : Cond.stringRef "BedFrontier$Reader" 45 "house" ∈ lw_tbl := in_tables_1_2 (List.mem_of_getElem? (i := 62) rfl)
theorem k_303 : Cond.methodLink "BedFrontier$Reader" 47 ⟨"BedFrontier$Reader", "isWord", "(Ljava/lang/String;)Z"⟩ ∈ lw_ok := ok_of (in_tables_1_2 (List.mem_of_getElem? (i := 63) rfl)) rfl
theorem k_304 : Cond.instanceMethod ⟨"BedFrontier$Reader", "isWord", "(Ljava/lang/String;)Z"⟩ ∈ lw_ok := ok_of (in_tables_1_2 (List.mem_of_getElem? (i := 64) rfl)) rfl
theorem k_305 : Cond.selects "BedFrontier$Reader" ⟨"BedFrontier$Reader", "isWord", "(Ljava/lang/String;)Z"⟩ ⟨"BedFrontier$Reader", "isWord", "(Ljava/lang/String;)Z"⟩ ∈ lw_ok := ok_of (in_tables_1_2 (List.mem_of_getElem? (i := 65) rfl)) rfl
theorem k_306 : Cond.code ⟨"BedFrontier$Reader", "isWord", "(Ljava/lang/String;)Z"⟩ prog_10_method_10_code 3 (Option.some FieldType.boolean) ∈ lw_ok := ok_of (in_tables_1_2 (List.mem_of_getElem? (i := 66) rfl)) rfl
theorem k_307 : Cond.methodLink "BedFrontier$Reader" 103 ⟨"java/lang/String", "length", "()I"⟩ ∈ lw_ok := ok_of (in_tables_1_2 (List.mem_of_getElem? (i := 67) rfl)) rfl
theorem k_308 : Cond.instanceMethod ⟨"java/lang/String", "length", "()I"⟩ ∈ lw_ok := ok_of (in_tables_1_2 (List.mem_of_getElem? (i := 68) rfl)) rfl
theorem k_309 : Cond.selects "java/lang/String" ⟨"java/lang/String", "length", "()I"⟩ ⟨"java/lang/String", "length", "()I"⟩ ∈ lw_ok := ok_of (in_tables_1_2 (List.mem_of_getElem? (i := 69) rfl)) rfl
theorem k_310 : Cond.code ⟨"java/lang/String", "length", "()I"⟩ prog_15_method_54_code 1 (Option.some FieldType.int) ∈ lw_ok := ok_of (in_tables_1_2 (List.mem_of_getElem? (i := 70) rfl)) rfl
theorem k_311 : Cond.methodLink "java/lang/String" 335 ⟨"java/lang/String", "coder", "()B"⟩ ∈ lw_ok := ok_of (in_tables_1_2 (List.mem_of_getElem? (i := 71) rfl)) rfl
theorem k_312 : Cond.instanceMethod ⟨"java/lang/String", "coder", "()B"⟩ ∈ lw_ok := ok_of (in_tables_1_2 (List.mem_of_getElem? (i := 72) rfl)) rfl
theorem k_313 : Cond.selects "java/lang/String" ⟨"java/lang/String", "coder", "()B"⟩ ⟨"java/lang/String", "coder", "()B"⟩ ∈ lw_ok := ok_of (in_tables_1_2 (List.mem_of_getElem? (i := 73) rfl)) rfl
theorem k_314 : Cond.code ⟨"java/lang/String", "coder", "()B"⟩ prog_15_method_152_code 1 (Option.some FieldType.byte) ∈ lw_ok := ok_of (in_tables_1_2 (List.mem_of_getElem? (i := 74) rfl)) rfl
theorem k_315 : Cond.fieldLink "java/lang/String" 38 "java/lang/String" "COMPACT_STRINGS" "Z" ∈ lw_ok := ok_of (in_tables_1_2 (List.mem_of_getElem? (i := 75) rfl)) rfl
theorem k_316 : Cond.laysStatic "java/lang/String" "COMPACT_STRINGS" "Z" ∈ lw_tbl := in_tables_1_2 (List.mem_of_getElem? (i := 76) rfl)
theorem k_317 : Cond.methodLink "BedFrontier$Reader" 108 ⟨"java/lang/String", "charAt", "(I)C"⟩ ∈ lw_ok := ok_of (in_tables_1_2 (List.mem_of_getElem? (i := 77) rfl)) rfl
theorem k_318 : Cond.instanceMethod ⟨"java/lang/String", "charAt", "(I)C"⟩ ∈ lw_ok := ok_of (in_tables_1_2 (List.mem_of_getElem? (i := 78) rfl)) rfl
theorem k_319 : Cond.selects "java/lang/String" ⟨"java/lang/String", "charAt", "(I)C"⟩ ⟨"java/lang/String", "charAt", "(I)C"⟩ ∈ lw_ok := ok_of (in_tables_1_2 (List.mem_of_getElem? (i := 79) rfl)) rfl
theorem k_320 : Cond.code ⟨"java/lang/String", "charAt", "(I)C"⟩ prog_15_method_56_code 2 (Option.some FieldType.char) ∈ lw_ok := ok_of (in_tables_1_2 (List.mem_of_getElem? (i := 80) rfl)) rfl
theorem k_321 : Cond.methodLink "java/lang/String" 492 ⟨"java/lang/String", "isLatin1", "()Z"⟩ ∈ lw_ok := ok_of (in_tables_1_2 (List.mem_of_getElem? (i := 81) rfl)) rfl
theorem k_322 : Cond.instanceMethod ⟨"java/lang/String", "isLatin1", "()Z"⟩ ∈ lw_ok := ok_of (in_tables_1_2 (List.mem_of_getElem? (i := 82) rfl)) rfl
theorem k_323 : Cond.selects "java/lang/String" ⟨"java/lang/String", "isLatin1", "()Z"⟩ ⟨"java/lang/String", "isLatin1", "()Z"⟩ ∈ lw_ok := ok_of (in_tables_1_2 (List.mem_of_getElem? (i := 83) rfl)) rfl
theorem k_324 : Cond.code ⟨"java/lang/String", "isLatin1", "()Z"⟩ prog_15_method_154_code 1 (Option.some FieldType.boolean) ∈ lw_ok := ok_of (in_tables_1_2 (List.mem_of_getElem? (i := 84) rfl)) rfl
theorem k_325 : Cond.methodLink "java/lang/String" 495 ⟨"java/lang/StringLatin1", "charAt", "([BI)C"⟩ ∈ lw_ok := ok_of (in_tables_1_2 (List.mem_of_getElem? (i := 85) rfl)) rfl
theorem k_326 : Cond.static ⟨"java/lang/StringLatin1", "charAt", "([BI)C"⟩ ∈ lw_ok := ok_of (in_tables_1_2 (List.mem_of_getElem? (i := 86) rfl)) rfl
theorem k_327 : Cond.code ⟨"java/lang/StringLatin1", "charAt", "([BI)C"⟩ prog_16_method_2_code 2 (Option.some FieldType.char) ∈ lw_ok := ok_of (in_tables_1_2 (List.mem_of_getElem? (i := 87) rfl)) rfl
theorem k_328 : Cond.methodLink "java/lang/StringLatin1" 9 ⟨"java/lang/String", "checkIndex", "(II)V"⟩ ∈ lw_ok := ok_of (in_tables_1_2 (List.mem_of_getElem? (i := 88) rfl)) rfl
theorem k_329 : Cond.static ⟨"java/lang/String", "checkIndex", "(II)V"⟩ ∈ lw_ok := ok_of (in_tables_1_2 (List.mem_of_getElem? (i := 89) rfl)) rfl
theorem k_330 : Cond.code ⟨"java/lang/String", "checkIndex", "(II)V"⟩ prog_15_method_155_code 2 none ∈ lw_ok := ok_of (in_tables_1_2 (List.mem_of_getElem? (i := 90) rfl)) rfl
theorem k_331 : Cond.fieldLink "java/lang/String" 1053 "jdk/internal/util/Preconditions" "SIOOBE_FORMATTER" "Ljava/util/function/BiFunction;" ∈ lw_ok := ok_of (in_tables_1_2 (List.mem_of_getElem? (i := 91) rfl)) rfl
theorem k_332 : Cond.laysStatic "jdk/internal/util/Preconditions" "SIOOBE_FORMATTER" "Ljava/util/function/BiFunction;" ∈ lw_tbl := in_tables_1_2 (List.mem_of_getElem? (i := 92) rfl)
theorem k_333 : Cond.methodLink "java/lang/String" 1059 ⟨"jdk/internal/util/Preconditions", "checkIndex", "(IILjava/util/function/BiFunction;)I"⟩ ∈ lw_ok := ok_of (in_tables_1_2 (List.mem_of_getElem? (i := 93) rfl)) rfl
theorem k_334 : Cond.static ⟨"jdk/internal/util/Preconditions", "checkIndex", "(IILjava/util/function/BiFunction;)I"⟩ ∈ lw_ok := ok_of (in_tables_1_2 (List.mem_of_getElem? (i := 94) rfl)) rfl
theorem k_335 : Cond.code ⟨"jdk/internal/util/Preconditions", "checkIndex", "(IILjava/util/function/BiFunction;)I"⟩ prog_19_method_11_code 3 (Option.some FieldType.int) ∈ lw_ok := ok_of (in_tables_1_2 (List.mem_of_getElem? (i := 95) rfl)) rfl
theorem k_336 : Cond.methodLink "java/lang/String" 498 ⟨"java/lang/StringUTF16", "charAt", "([BI)C"⟩ ∈ lw_ok := ok_of (in_tables_1_2 (List.mem_of_getElem? (i := 96) rfl)) rfl
theorem k_337 : Cond.static ⟨"java/lang/StringUTF16", "charAt", "([BI)C"⟩ ∈ lw_ok := ok_of (in_tables_1_2 (List.mem_of_getElem? (i := 97) rfl)) rfl
theorem k_338 : Cond.code ⟨"java/lang/StringUTF16", "charAt", "([BI)C"⟩ prog_17_method_83_code 2 (Option.some FieldType.char) ∈ lw_ok := ok_of (in_tables_1_2 (List.mem_of_getElem? (i := 98) rfl)) rfl
theorem k_339 : Cond.methodLink "java/lang/StringUTF16" 67 ⟨"java/lang/StringUTF16", "checkIndex", "(I[B)V"⟩ ∈ lw_ok := ok_of (in_tables_1_2 (List.mem_of_getElem? (i := 99) rfl)) rfl
theorem k_340 : Cond.static ⟨"java/lang/StringUTF16", "checkIndex", "(I[B)V"⟩ ∈ lw_ok := ok_of (in_tables_1_2 (List.mem_of_getElem? (i := 100) rfl)) rfl
theorem k_341 : Cond.code ⟨"java/lang/StringUTF16", "checkIndex", "(I[B)V"⟩ prog_17_method_91_code 2 none ∈ lw_ok := ok_of (in_tables_1_2 (List.mem_of_getElem? (i := 101) rfl)) rfl
theorem k_342 : Cond.methodLink "java/lang/StringUTF16" 48 ⟨"java/lang/StringUTF16", "length", "([B)I"⟩ ∈ lw_ok := ok_of (in_tables_1_2 (List.mem_of_getElem? (i := 102) rfl)) rfl
theorem k_343 : Cond.static ⟨"java/lang/StringUTF16", "length", "([B)I"⟩ ∈ lw_ok := ok_of (in_tables_1_2 (List.mem_of_getElem? (i := 103) rfl)) rfl
theorem k_344 : Cond.code ⟨"java/lang/StringUTF16", "length", "([B)I"⟩ prog_17_method_6_code 1 (Option.some FieldType.int) ∈ lw_ok := ok_of (in_tables_1_2 (List.mem_of_getElem? (i := 104) rfl)) rfl
theorem k_345 : Cond.methodLink "java/lang/StringUTF16" 414 ⟨"java/lang/String", "checkIndex", "(II)V"⟩ ∈ lw_ok := ok_of (in_tables_1_2 (List.mem_of_getElem? (i := 105) rfl)) rfl
theorem k_346 : Cond.methodLink "java/lang/StringUTF16" 71 ⟨"java/lang/StringUTF16", "getChar", "([BI)C"⟩ ∈ lw_ok := ok_of (in_tables_1_2 (List.mem_of_getElem? (i := 106) rfl)) rfl
theorem k_347 : Cond.static ⟨"java/lang/StringUTF16", "getChar", "([BI)C"⟩ ∈ lw_ok := ok_of (in_tables_1_2 (List.mem_of_getElem? (i := 107) rfl)) rfl
theorem k_348 : Cond.code ⟨"java/lang/StringUTF16", "getChar", "([BI)C"⟩ prog_17_method_5_code 2 (Option.some FieldType.char) ∈ lw_ok := ok_of (in_tables_1_2 (List.mem_of_getElem? (i := 108) rfl)) rfl
theorem k_349 : Cond.fieldLink "java/lang/StringUTF16" 44 "java/lang/StringUTF16" "$assertionsDisabled" "Z" ∈ lw_ok := ok_of (in_tables_1_2 (List.mem_of_getElem? (i := 109) rfl)) rfl
theorem k_350 : Cond.laysStatic "java/lang/StringUTF16" "$assertionsDisabled" "Z" ∈ lw_tbl := in_tables_1_2 (List.mem_of_getElem? (i := 110) rfl)
theorem k_351 : Cond.fieldLink "java/lang/StringUTF16" 59 "java/lang/StringUTF16" "HI_BYTE_SHIFT" "I" ∈ lw_ok := ok_of (in_tables_1_2 (List.mem_of_getElem? (i := 111) rfl)) rfl
theorem k_352 : Cond.laysStatic "java/lang/StringUTF16" "HI_BYTE_SHIFT" "I" ∈ lw_tbl := in_tables_1_2 (List.mem_of_getElem? (i := 112) rfl)
theorem k_353 : Cond.fieldLink "java/lang/StringUTF16" 63 "java/lang/StringUTF16" "LO_BYTE_SHIFT" "I" ∈ lw_ok := ok_of (in_tables_1_2 (List.mem_of_getElem? (i := 113) rfl)) rfl
theorem k_354 : Cond.laysStatic "java/lang/StringUTF16" "LO_BYTE_SHIFT" "I" ∈ lw_tbl := in_tables_1_2 (List.mem_of_getElem? (i := 114) rfl)
theorem k_355 : Cond.methodLink "BedFrontier$Reader" 51 ⟨"BedFrontier$Reader", "tollItem", "()Z"⟩ ∈ lw_ok := ok_of (in_tables_1_2 (List.mem_of_getElem? (i := 115) rfl)) rfl
theorem k_356 : Cond.instanceMethod ⟨"BedFrontier$Reader", "tollItem", "()Z"⟩ ∈ lw_ok := ok_of (in_tables_1_2 (List.mem_of_getElem? (i := 116) rfl)) rfl
theorem k_357 : Cond.selects "BedFrontier$Reader" ⟨"BedFrontier$Reader", "tollItem", "()Z"⟩ ⟨"BedFrontier$Reader", "tollItem", "()Z"⟩ ∈ lw_ok := ok_of (in_tables_1_2 (List.mem_of_getElem? (i := 117) rfl)) rfl
theorem k_358 : Cond.code ⟨"BedFrontier$Reader", "tollItem", "()Z"⟩ prog_10_method_5_code 1 (Option.some FieldType.boolean) ∈ lw_ok := ok_of (in_tables_1_2 (List.mem_of_getElem? (i := 118) rfl)) rfl
theorem k_359 : Cond.methodLink "BedFrontier$Reader" 75 ⟨"BedFrontier$Reader", "number", "(I)Z"⟩ ∈ lw_ok := ok_of (in_tables_1_2 (List.mem_of_getElem? (i := 119) rfl)) rfl
theorem k_360 : Cond.instanceMethod ⟨"BedFrontier$Reader", "number", "(I)Z"⟩ ∈ lw_ok := ok_of (in_tables_1_2 (List.mem_of_getElem? (i := 120) rfl)) rfl
theorem k_361 : Cond.selects "BedFrontier$Reader" ⟨"BedFrontier$Reader", "number", "(I)Z"⟩ ⟨"BedFrontier$Reader", "number", "(I)Z"⟩ ∈ lw_ok := ok_of (in_tables_1_2 (List.mem_of_getElem? (i := 121) rfl)) rfl
theorem k_362 : Cond.code ⟨"BedFrontier$Reader", "number", "(I)Z"⟩ prog_10_method_9_code 2 (Option.some FieldType.boolean) ∈ lw_ok := ok_of (in_tables_1_2 (List.mem_of_getElem? (i := 122) rfl)) rfl
theorem k_363 : Cond.methodLinkNest "BedFrontier$Reader" 89 ⟨"BedFrontier", "within", "(II)Z"⟩ "BedFrontier" ∈ lw_tbl := in_tables_1_2 (List.mem_of_getElem? (i := 123) rfl)
theorem k_364 : Cond.stringRef "BedFrontier$Reader" 55 "rate" ∈ lw_tbl := in_tables_1_2 (List.mem_of_getElem? (i := 124) rfl)
theorem k_365 : Cond.methodLink "BedFrontier$Reader" 57 ⟨"BedFrontier$Reader", "rateItem", "()Z"⟩ ∈ lw_ok := ok_of (in_tables_1_2 (List.mem_of_getElem? (i := 125) rfl)) rfl
theorem k_366 : Cond.instanceMethod ⟨"BedFrontier$Reader", "rateItem", "()Z"⟩ ∈ lw_ok := ok_of (in_tables_1_2 (List.mem_of_getElem? (i := 126) rfl)) rfl
theorem k_367 : Cond.selects "BedFrontier$Reader" ⟨"BedFrontier$Reader", "rateItem", "()Z"⟩ ⟨"BedFrontier$Reader", "rateItem", "()Z"⟩ ∈ lw_ok := ok_of (in_tables_1_2 (List.mem_of_getElem? (i := 127) rfl)) rfl
theorem k_368 : Cond.code ⟨"BedFrontier$Reader", "rateItem", "()Z"⟩ prog_10_method_6_code 2 (Option.some FieldType.boolean) ∈ lw_ok := ok_of (in_tables_1_2 (List.mem_of_getElem? (i := 128) rfl)) rfl
theorem k_369 : Cond.stringRef "BedFrontier$Reader" 60 "bar" ∈ lw_tbl := in_tables_1_2 (List.mem_of_getElem? (i := 129) rfl)
theorem k_370 : Cond.methodLink "BedFrontier$Reader" 62 ⟨"BedFrontier$Reader", "barItem", "()Z"⟩ ∈ lw_ok := ok_of (in_tables_1_2 (List.mem_of_getElem? (i := 130) rfl)) rfl
theorem k_371 : Cond.instanceMethod ⟨"BedFrontier$Reader", "barItem", "()Z"⟩ ∈ lw_ok := ok_of (in_tables_1_2 (List.mem_of_getElem? (i := 131) rfl)) rfl
theorem k_372 : Cond.selects "BedFrontier$Reader" ⟨"BedFrontier$Reader", "barItem", "()Z"⟩ ⟨"BedFrontier$Reader", "barItem", "()Z"⟩ ∈ lw_ok := ok_of (in_tables_1_2 (List.mem_of_getElem? (i := 132) rfl)) rfl
theorem k_373 : Cond.code ⟨"BedFrontier$Reader", "barItem", "()Z"⟩ prog_10_method_7_code 4 (Option.some FieldType.boolean) ∈ lw_ok := ok_of (in_tables_1_2 (List.mem_of_getElem? (i := 133) rfl)) rfl
theorem k_374 : Cond.stringRef "BedFrontier$Reader" 65 "doing" ∈ lw_tbl := in_tables_1_2 (List.mem_of_getElem? (i := 134) rfl)
theorem k_375 : Cond.methodLink "BedFrontier$Reader" 67 ⟨"BedFrontier$Reader", "doingItem", "()Z"⟩ ∈ lw_ok := ok_of (in_tables_1_2 (List.mem_of_getElem? (i := 135) rfl)) rfl
theorem k_376 : Cond.instanceMethod ⟨"BedFrontier$Reader", "doingItem", "()Z"⟩ ∈ lw_ok := ok_of (in_tables_1_2 (List.mem_of_getElem? (i := 136) rfl)) rfl
theorem k_377 : Cond.selects "BedFrontier$Reader" ⟨"BedFrontier$Reader", "doingItem", "()Z"⟩ ⟨"BedFrontier$Reader", "doingItem", "()Z"⟩ ∈ lw_ok := ok_of (in_tables_1_2 (List.mem_of_getElem? (i := 137) rfl)) rfl
theorem k_378 : Cond.code ⟨"BedFrontier$Reader", "doingItem", "()Z"⟩ prog_10_method_8_code 2 (Option.some FieldType.boolean) ∈ lw_ok := ok_of (in_tables_1_2 (List.mem_of_getElem? (i := 138) rfl)) rfl
theorem k_379 : Cond.methodLink "BedFrontier$Reader" 99 ⟨"BedFrontier$House", "addDoing", "(II)I"⟩ ∈ lw_ok := ok_of (in_tables_1_2 (List.mem_of_getElem? (i := 139) rfl)) rfl
theorem k_380 : Cond.stringRef "BedFrontier$Reader" 70 "war" ∈ lw_tbl := in_tables_1_2 (List.mem_of_getElem? (i := 140) rfl)
theorem k_381 : Cond.methodLink "BedFrontier" 107 ⟨"BedFrontier$House", "takeFrom", "(LBedFrontier$House;)V"⟩ ∈ lw_ok := ok_of (in_tables_1_2 (List.mem_of_getElem? (i := 141) rfl)) rfl
theorem k_382 : Cond.instanceMethod ⟨"BedFrontier$House", "takeFrom", "(LBedFrontier$House;)V"⟩ ∈ lw_ok := ok_of (in_tables_1_2 (List.mem_of_getElem? (i := 142) rfl)) rfl
theorem k_383 : Cond.selects "BedFrontier$House" ⟨"BedFrontier$House", "takeFrom", "(LBedFrontier$House;)V"⟩ ⟨"BedFrontier$House", "takeFrom", "(LBedFrontier$House;)V"⟩ ∈ lw_ok := ok_of (in_tables_1_2 (List.mem_of_getElem? (i := 143) rfl)) rfl
theorem k_384 : Cond.code ⟨"BedFrontier$House", "takeFrom", "(LBedFrontier$House;)V"⟩ prog_4_method_3_code 2 none ∈ lw_ok := ok_of (in_tables_1_2 (List.mem_of_getElem? (i := 144) rfl)) rfl
theorem k_385 : Cond.methodLink "BedFrontier$House" 64 ⟨"java/lang/System", "arraycopy", "(Ljava/lang/Object;ILjava/lang/Object;II)V"⟩ ∈ lw_ok := ok_of (in_tables_1_2 (List.mem_of_getElem? (i := 145) rfl)) rfl
theorem k_386 : Cond.static ⟨"java/lang/System", "arraycopy", "(Ljava/lang/Object;ILjava/lang/Object;II)V"⟩ ∈ lw_ok := ok_of (in_tables_1_2 (List.mem_of_getElem? (i := 146) rfl)) rfl
theorem k_387 : Cond.native ⟨"java/lang/System", "arraycopy", "(Ljava/lang/Object;ILjava/lang/Object;II)V"⟩ ∈ lw_ok := ok_of (in_tables_1_2 (List.mem_of_getElem? (i := 147) rfl)) rfl
theorem k_388 : Cond.methodLink "BedFrontierLaw" 44 ⟨"BedFrontier", "does", "(II)I"⟩ ∈ lw_ok := ok_of (in_tables_1_2 (List.mem_of_getElem? (i := 148) rfl)) rfl
theorem k_389 : Cond.instanceMethod ⟨"BedFrontier", "does", "(II)I"⟩ ∈ lw_ok := ok_of (in_tables_1_2 (List.mem_of_getElem? (i := 149) rfl)) rfl
theorem k_390 : Cond.selects "BedFrontier" ⟨"BedFrontier", "does", "(II)I"⟩ ⟨"BedFrontier", "does", "(II)I"⟩ ∈ lw_ok := ok_of (in_tables_1_2 (List.mem_of_getElem? (i := 150) rfl)) rfl
theorem k_391 : Cond.code ⟨"BedFrontier", "does", "(II)I"⟩ prog_1_method_9_code 3 (Option.some FieldType.int) ∈ lw_ok := ok_of (in_tables_1_2 (List.mem_of_getElem? (i := 151) rfl)) rfl
theorem k_392 : Cond.methodLink "BedFrontier" 110 ⟨"BedFrontier", "isDoing", "(I)Z"⟩ ∈ lw_ok := ok_of (in_tables_1_2 (List.mem_of_getElem? (i := 152) rfl)) rfl
theorem k_393 : Cond.privateMethod ⟨"BedFrontier", "isDoing", "(I)Z"⟩ ∈ lw_tbl := in_tables_1_2 (List.mem_of_getElem? (i := 153) rfl)
theorem k_394 : Cond.instanceMethod ⟨"BedFrontier", "isDoing", "(I)Z"⟩ ∈ lw_ok := ok_of (in_tables_1_2 (List.mem_of_getElem? (i := 154) rfl)) rfl
theorem k_395 : Cond.code ⟨"BedFrontier", "isDoing", "(I)Z"⟩ prog_1_method_39_code 2 (Option.some FieldType.boolean) ∈ lw_ok := ok_of (in_tables_1_2 (List.mem_of_getElem? (i := 155) rfl)) rfl
theorem k_396 : Cond.methodLink "BedFrontier" 116 ⟨"BedFrontier$House", "lets", "(III)Z"⟩ ∈ lw_ok := ok_of (in_tables_1_2 (List.mem_of_getElem? (i := 156) rfl)) rfl
theorem k_397 : Cond.instanceMethod ⟨"BedFrontier$House", "lets", "(III)Z"⟩ ∈ lw_ok := ok_of (in_tables_1_2 (List.mem_of_getElem? (i := 157) rfl)) rfl
theorem k_398 : Cond.selects "BedFrontier$House" ⟨"BedFrontier$House", "lets", "(III)Z"⟩ ⟨"BedFrontier$House", "lets", "(III)Z"⟩ ∈ lw_ok := ok_of (in_tables_1_2 (List.mem_of_getElem? (i := 158) rfl)) rfl
theorem k_399 : Cond.code ⟨"BedFrontier$House", "lets", "(III)Z"⟩ prog_4_method_9_code 4 (Option.some FieldType.boolean) ∈ lw_ok := ok_of (in_tables_1_2 (List.mem_of_getElem? (i := 159) rfl)) rfl
theorem k_400 : Cond.methodLink "BedFrontier$House" 80 ⟨"BedFrontier$House", "isBarred", "(II)Z"⟩ ∈ lw_ok := ok_of (in_tables_1_2 (List.mem_of_getElem? (i := 160) rfl)) rfl
theorem k_401 : Cond.instanceMethod ⟨"BedFrontier$House", "isBarred", "(II)Z"⟩ ∈ lw_ok := ok_of (in_tables_1_2 (List.mem_of_getElem? (i := 161) rfl)) rfl
theorem k_402 : Cond.selects "BedFrontier$House" ⟨"BedFrontier$House", "isBarred", "(II)Z"⟩ ⟨"BedFrontier$House", "isBarred", "(II)Z"⟩ ∈ lw_ok := ok_of (in_tables_1_2 (List.mem_of_getElem? (i := 162) rfl)) rfl
theorem k_403 : Cond.code ⟨"BedFrontier$House", "isBarred", "(II)Z"⟩ prog_4_method_8_code 3 (Option.some FieldType.boolean) ∈ lw_ok := ok_of (in_tables_1_2 (List.mem_of_getElem? (i := 163) rfl)) rfl
theorem k_404 : Cond.methodLinkNest "BedFrontier$House" 70 ⟨"BedFrontier", "ownHour", "(II)I"⟩ "BedFrontier" ∈ lw_tbl := in_tables_1_2 (List.mem_of_getElem? (i := 164) rfl)
theorem k_405 : Cond.static ⟨"BedFrontier", "ownHour", "(II)I"⟩ ∈ lw_ok := ok_of (in_tables_1_2 (List.mem_of_getElem? (i := 165) rfl)) rfl
theorem k_406 : Cond.code ⟨"BedFrontier", "ownHour", "(II)I"⟩ prog_1_method_44_code 2 (Option.some FieldType.int) ∈ lw_ok := ok_of (in_tables_1_2 (List.mem_of_getElem? (i := 166) rfl)) rfl
theorem k_407 : Cond.methodLink "BedFrontier$House" 84 ⟨"BedFrontier$House", "passesBarred", "(III)Z"⟩ ∈ lw_ok := ok_of (in_tables_1_2 (List.mem_of_getElem? (i := 167) rfl)) rfl
theorem k_408 : Cond.instanceMethod ⟨"BedFrontier$House", "passesBarred", "(III)Z"⟩ ∈ lw_ok := ok_of (in_tables_1_2 (List.mem_of_getElem? (i := 168) rfl)) rfl
theorem k_409 : Cond.selects "BedFrontier$House" ⟨"BedFrontier$House", "passesBarred", "(III)Z"⟩ ⟨"BedFrontier$House", "passesBarred", "(III)Z"⟩ ∈ lw_ok := ok_of (in_tables_1_2 (List.mem_of_getElem? (i := 169) rfl)) rfl
theorem k_410 : Cond.code ⟨"BedFrontier$House", "passesBarred", "(III)Z"⟩ prog_4_method_7_code 4 (Option.some FieldType.boolean) ∈ lw_ok := ok_of (in_tables_1_2 (List.mem_of_getElem? (i := 170) rfl)) rfl
theorem k_411 : Cond.methodLink "BedFrontier$House" 74 ⟨"BedFrontier$Plain", "passes", "(IZ)Z"⟩ ∈ lw_ok := ok_of (in_tables_1_2 (List.mem_of_getElem? (i := 171) rfl)) rfl
theorem k_412 : Cond.instanceMethod ⟨"BedFrontier$Plain", "passes", "(IZ)Z"⟩ ∈ lw_ok := ok_of (in_tables_1_2 (List.mem_of_getElem? (i := 172) rfl)) rfl
theorem k_413 : Cond.selects "BedFrontier$Plain" ⟨"BedFrontier$Plain", "passes", "(IZ)Z"⟩ ⟨"BedFrontier$Plain", "passes", "(IZ)Z"⟩ ∈ lw_ok := ok_of (in_tables_1_2 (List.mem_of_getElem? (i := 173) rfl)) rfl
theorem k_414 : Cond.sameMethod "BedFrontier$Plain" "BedFrontier$Plain" "passes" "(IZ)Z" ∈ lw_ok := ok_of (in_tables_1_2 (List.mem_of_getElem? (i := 174) rfl)) rfl
theorem k_415 : Cond.selects "BedFrontier$Cat" ⟨"BedFrontier$Plain", "passes", "(IZ)Z"⟩ ⟨"BedFrontier$Cat", "passes", "(IZ)Z"⟩ ∈ lw_ok := ok_of (in_tables_1_2 (List.mem_of_getElem? (i := 175) rfl)) rfl
theorem k_416 : Cond.instanceMethod ⟨"BedFrontier$Cat", "passes", "(IZ)Z"⟩ ∈ lw_ok := ok_of (in_tables_1_2 (List.mem_of_getElem? (i := 176) rfl)) rfl
theorem k_417 : Cond.code ⟨"BedFrontier$Cat", "passes", "(IZ)Z"⟩ prog_2_method_2_code 3 (Option.some FieldType.boolean) ∈ lw_ok := ok_of (in_tables_1_2 (List.mem_of_getElem? (i := 177) rfl)) rfl
theorem k_418 : Cond.selects "BedFrontier$Kiss" ⟨"BedFrontier$Plain", "passes", "(IZ)Z"⟩ ⟨"BedFrontier$Plain", "passes", "(IZ)Z"⟩ ∈ lw_ok := ok_of (in_tables_1_2 (List.mem_of_getElem? (i := 178) rfl)) rfl
theorem k_419 : Cond.selects "BedFrontier$Lamp" ⟨"BedFrontier$Plain", "passes", "(IZ)Z"⟩ ⟨"BedFrontier$Lamp", "passes", "(IZ)Z"⟩ ∈ lw_ok := ok_of (in_tables_1_2 (List.mem_of_getElem? (i := 179) rfl)) rfl
theorem k_420 : Cond.instanceMethod ⟨"BedFrontier$Lamp", "passes", "(IZ)Z"⟩ ∈ lw_ok := ok_of (in_tables_1_2 (List.mem_of_getElem? (i := 180) rfl)) rfl
theorem k_421 : Cond.code ⟨"BedFrontier$Lamp", "passes", "(IZ)Z"⟩ prog_6_method_3_code 3 (Option.some FieldType.boolean) ∈ lw_ok := ok_of (in_tables_1_2 (List.mem_of_getElem? (i := 181) rfl)) rfl
theorem k_422 : Cond.methodLink "BedFrontier$Lamp" 17 ⟨"BedFrontier$Snoring", "passes", "(IZ)Z"⟩ ∈ lw_ok := ok_of (in_tables_1_2 (List.mem_of_getElem? (i := 182) rfl)) rfl
theorem k_423 : Cond.instanceMethod ⟨"BedFrontier$Snoring", "passes", "(IZ)Z"⟩ ∈ lw_ok := ok_of (in_tables_1_2 (List.mem_of_getElem? (i := 183) rfl)) rfl
theorem k_424 : Cond.code ⟨"BedFrontier$Snoring", "passes", "(IZ)Z"⟩ prog_11_method_3_code 3 (Option.some FieldType.boolean) ∈ lw_ok := ok_of (in_tables_1_2 (List.mem_of_getElem? (i := 184) rfl)) rfl
theorem k_425 : Cond.selects "BedFrontier$Quarrel" ⟨"BedFrontier$Plain", "passes", "(IZ)Z"⟩ ⟨"BedFrontier$Plain", "passes", "(IZ)Z"⟩ ∈ lw_ok := ok_of (in_tables_1_2 (List.mem_of_getElem? (i := 185) rfl)) rfl
theorem k_426 : Cond.selects "BedFrontier$Snoring" ⟨"BedFrontier$Plain", "passes", "(IZ)Z"⟩ ⟨"BedFrontier$Snoring", "passes", "(IZ)Z"⟩ ∈ lw_ok := ok_of (in_tables_1_2 (List.mem_of_getElem? (i := 186) rfl)) rfl
theorem k_427 : Cond.code ⟨"BedFrontier$Plain", "passes", "(IZ)Z"⟩ prog_7_method_3_code 3 (Option.some FieldType.boolean) ∈ lw_ok := ok_of (in_tables_1_2 (List.mem_of_getElem? (i := 187) rfl)) rfl
theorem k_428 : Cond.methodLink "BedFrontier" 120 ⟨"BedFrontier", "refuseNo", "()I"⟩ ∈ lw_ok := ok_of (in_tables_1_2 (List.mem_of_getElem? (i := 188) rfl)) rfl
theorem k_429 : Cond.privateMethod ⟨"BedFrontier", "refuseNo", "()I"⟩ ∈ lw_tbl := in_tables_1_2 (List.mem_of_getElem? (i := 189) rfl)
theorem k_430 : Cond.instanceMethod ⟨"BedFrontier", "refuseNo", "()I"⟩ ∈ lw_ok := ok_of (in_tables_1_2 (List.mem_of_getElem? (i := 190) rfl)) rfl
theorem k_431 : Cond.code ⟨"BedFrontier", "refuseNo", "()I"⟩ prog_1_method_37_code 1 (Option.some FieldType.int) ∈ lw_ok := ok_of (in_tables_1_2 (List.mem_of_getElem? (i := 191) rfl)) rfl
theorem k_432 : Cond.methodLink "BedFrontier" 123 ⟨"BedFrontier$House", "perform", "(II)I"⟩ ∈ lw_ok := ok_of (in_tables_1_2 (List.mem_of_getElem? (i := 192) rfl)) rfl
theorem k_433 : Cond.instanceMethod ⟨"BedFrontier$House", "perform", "(II)I"⟩ ∈ lw_ok := ok_of (in_tables_1_2 (List.mem_of_getElem? (i := 193) rfl)) rfl
theorem k_434 : Cond.selects "BedFrontier$House" ⟨"BedFrontier$House", "perform", "(II)I"⟩ ⟨"BedFrontier$House", "perform", "(II)I"⟩ ∈ lw_ok := ok_of (in_tables_1_2 (List.mem_of_getElem? (i := 194) rfl)) rfl
theorem k_435 : Cond.code ⟨"BedFrontier$House", "perform", "(II)I"⟩ prog_4_method_13_code 4 (Option.some FieldType.int) ∈ lw_ok := ok_of (in_tables_1_2 (List.mem_of_getElem? (i := 195) rfl)) rfl
theorem k_436 : Cond.methodLink "BedFrontier$House" 92 ⟨"BedFrontier$House", "owed", "(III)I"⟩ ∈ lw_ok := ok_of (in_tables_1_2 (List.mem_of_getElem? (i := 196) rfl)) rfl
theorem k_437 : Cond.instanceMethod ⟨"BedFrontier$House", "owed", "(III)I"⟩ ∈ lw_ok := ok_of (in_tables_1_2 (List.mem_of_getElem? (i := 197) rfl)) rfl
theorem k_438 : Cond.selects "BedFrontier$House" ⟨"BedFrontier$House", "owed", "(III)I"⟩ ⟨"BedFrontier$House", "owed", "(III)I"⟩ ∈ lw_ok := ok_of (in_tables_1_2 (List.mem_of_getElem? (i := 198) rfl)) rfl
theorem k_439 : Cond.code ⟨"BedFrontier$House", "owed", "(III)I"⟩ prog_4_method_10_code 4 (Option.some FieldType.int) ∈ lw_ok := ok_of (in_tables_1_2 (List.mem_of_getElem? (i := 199) rfl)) rfl
theorem k_440 : Cond.methodLink "BedFrontier$House" 88 ⟨"BedFrontier$Plain", "price", "(IIIIZ)I"⟩ ∈ lw_ok := ok_of (in_tables_1_2 (List.mem_of_getElem? (i := 200) rfl)) rfl
theorem k_441 : Cond.instanceMethod ⟨"BedFrontier$Plain", "price", "(IIIIZ)I"⟩ ∈ lw_ok := ok_of (in_tables_1_2 (List.mem_of_getElem? (i := 201) rfl)) rfl
theorem k_442 : Cond.selects "BedFrontier$Plain" ⟨"BedFrontier$Plain", "price", "(IIIIZ)I"⟩ ⟨"BedFrontier$Plain", "price", "(IIIIZ)I"⟩ ∈ lw_ok := ok_of (in_tables_1_2 (List.mem_of_getElem? (i := 202) rfl)) rfl
theorem k_443 : Cond.sameMethod "BedFrontier$Plain" "BedFrontier$Plain" "price" "(IIIIZ)I" ∈ lw_ok := ok_of (in_tables_1_2 (List.mem_of_getElem? (i := 203) rfl)) rfl
theorem k_444 : Cond.selects "BedFrontier$Cat" ⟨"BedFrontier$Plain", "price", "(IIIIZ)I"⟩ ⟨"BedFrontier$Kiss", "price", "(IIIIZ)I"⟩ ∈ lw_ok := ok_of (in_tables_1_2 (List.mem_of_getElem? (i := 204) rfl)) rfl
theorem k_445 : Cond.instanceMethod ⟨"BedFrontier$Kiss", "price", "(IIIIZ)I"⟩ ∈ lw_ok := ok_of (in_tables_1_2 (List.mem_of_getElem? (i := 205) rfl)) rfl
theorem k_446 : Cond.code ⟨"BedFrontier$Kiss", "price", "(IIIIZ)I"⟩ prog_5_method_2_code 6 (Option.some FieldType.int) ∈ lw_ok := ok_of (in_tables_1_2 (List.mem_of_getElem? (i := 206) rfl)) rfl
theorem k_447 : Cond.selects "BedFrontier$Kiss" ⟨"BedFrontier$Plain", "price", "(IIIIZ)I"⟩ ⟨"BedFrontier$Kiss", "price", "(IIIIZ)I"⟩ ∈ lw_ok := ok_of (in_tables_1_2 (List.mem_of_getElem? (i := 207) rfl)) rfl
theorem k_448 : Cond.selects "BedFrontier$Lamp" ⟨"BedFrontier$Plain", "price", "(IIIIZ)I"⟩ ⟨"BedFrontier$Lamp", "price", "(IIIIZ)I"⟩ ∈ lw_ok := ok_of (in_tables_1_2 (List.mem_of_getElem? (i := 208) rfl)) rfl
theorem k_449 : Cond.instanceMethod ⟨"BedFrontier$Lamp", "price", "(IIIIZ)I"⟩ ∈ lw_ok := ok_of (in_tables_1_2 (List.mem_of_getElem? (i := 209) rfl)) rfl
theorem k_450 : Cond.code ⟨"BedFrontier$Lamp", "price", "(IIIIZ)I"⟩ prog_6_method_2_code 7 (Option.some FieldType.int) ∈ lw_ok := ok_of (in_tables_1_2 (List.mem_of_getElem? (i := 210) rfl)) rfl
theorem k_451 : Cond.methodLink "BedFrontier$Lamp" 7 ⟨"BedFrontier$Snoring", "price", "(IIIIZ)I"⟩ ∈ lw_ok := ok_of (in_tables_1_2 (List.mem_of_getElem? (i := 211) rfl)) rfl
theorem k_452 : Cond.instanceMethod ⟨"BedFrontier$Snoring", "price", "(IIIIZ)I"⟩ ∈ lw_ok := ok_of (in_tables_1_2 (List.mem_of_getElem? (i := 212) rfl)) rfl
theorem k_453 : Cond.code ⟨"BedFrontier$Snoring", "price", "(IIIIZ)I"⟩ prog_11_method_2_code 7 (Option.some FieldType.int) ∈ lw_ok := ok_of (in_tables_1_2 (List.mem_of_getElem? (i := 213) rfl)) rfl
theorem k_454 : Cond.methodLink "BedFrontier$Snoring" 7 ⟨"BedFrontier$Plain", "price", "(IIIIZ)I"⟩ ∈ lw_ok := ok_of (in_tables_1_2 (List.mem_of_getElem? (i := 214) rfl)) rfl
theorem k_455 : Cond.methodLink "BedFrontier$Lamp" 11 ⟨"java/lang/Math", "max", "(II)I"⟩ ∈ lw_ok := ok_of (in_tables_1_2 (List.mem_of_getElem? (i := 215) rfl)) rfl
theorem k_456 : Cond.static ⟨"java/lang/Math", "max", "(II)I"⟩ ∈ lw_ok := ok_of (in_tables_1_2 (List.mem_of_getElem? (i := 216) rfl)) rfl
theorem k_457 : Cond.code ⟨"java/lang/Math", "max", "(II)I"⟩ prog_14_method_65_code 2 (Option.some FieldType.int) ∈ lw_ok := ok_of (in_tables_1_2 (List.mem_of_getElem? (i := 217) rfl)) rfl
theorem k_458 : Cond.selects "BedFrontier$Quarrel" ⟨"BedFrontier$Plain", "price", "(IIIIZ)I"⟩ ⟨"BedFrontier$Quarrel", "price", "(IIIIZ)I"⟩ ∈ lw_ok := ok_of (in_tables_1_2 (List.mem_of_getElem? (i := 218) rfl)) rfl
theorem k_459 : Cond.instanceMethod ⟨"BedFrontier$Quarrel", "price", "(IIIIZ)I"⟩ ∈ lw_ok := ok_of (in_tables_1_2 (List.mem_of_getElem? (i := 219) rfl)) rfl
theorem k_460 : Cond.code ⟨"BedFrontier$Quarrel", "price", "(IIIIZ)I"⟩ prog_9_method_2_code 7 (Option.some FieldType.int) ∈ lw_ok := ok_of (in_tables_1_2 (List.mem_of_getElem? (i := 220) rfl)) rfl
theorem k_461 : Cond.methodLink "BedFrontier$Quarrel" 7 ⟨"BedFrontier$Plain", "price", "(IIIIZ)I"⟩ ∈ lw_ok := ok_of (in_tables_1_2 (List.mem_of_getElem? (i := 221) rfl)) rfl
theorem k_462 : Cond.selects "BedFrontier$Snoring" ⟨"BedFrontier$Plain", "price", "(IIIIZ)I"⟩ ⟨"BedFrontier$Snoring", "price", "(IIIIZ)I"⟩ ∈ lw_ok := ok_of (in_tables_1_2 (List.mem_of_getElem? (i := 222) rfl)) rfl
theorem k_463 : Cond.code ⟨"BedFrontier$Plain", "price", "(IIIIZ)I"⟩ prog_7_method_2_code 6 (Option.some FieldType.int) ∈ lw_ok := ok_of (in_tables_1_2 (List.mem_of_getElem? (i := 223) rfl)) rfl
theorem k_464 : Cond.methodLink "BedFrontier$House" 96 ⟨"BedFrontier$House", "tollTo", "(II)I"⟩ ∈ lw_ok := ok_of (in_tables_1_2 (List.mem_of_getElem? (i := 224) rfl)) rfl
theorem k_465 : Cond.instanceMethod ⟨"BedFrontier$House", "tollTo", "(II)I"⟩ ∈ lw_ok := ok_of (in_tables_1_2 (List.mem_of_getElem? (i := 225) rfl)) rfl
theorem k_466 : Cond.selects "BedFrontier$House" ⟨"BedFrontier$House", "tollTo", "(II)I"⟩ ⟨"BedFrontier$House", "tollTo", "(II)I"⟩ ∈ lw_ok := ok_of (in_tables_1_2 (List.mem_of_getElem? (i := 226) rfl)) rfl
theorem k_467 : Cond.code ⟨"BedFrontier$House", "tollTo", "(II)I"⟩ prog_4_method_12_code 3 (Option.some FieldType.int) ∈ lw_ok := ok_of (in_tables_1_2 (List.mem_of_getElem? (i := 227) rfl)) rfl
theorem k_468 : Cond.methodLink "BedFrontier$House" 99 ⟨"BedFrontier$House", "keepStep", "()V"⟩ ∈ lw_ok := ok_of (in_tables_1_2 (List.mem_of_getElem? (i := 228) rfl)) rfl
theorem k_469 : Cond.instanceMethod ⟨"BedFrontier$House", "keepStep", "()V"⟩ ∈ lw_ok := ok_of (in_tables_1_2 (List.mem_of_getElem? (i := 229) rfl)) rfl
theorem k_470 : Cond.selects "BedFrontier$House" ⟨"BedFrontier$House", "keepStep", "()V"⟩ ⟨"BedFrontier$House", "keepStep", "()V"⟩ ∈ lw_ok := ok_of (in_tables_1_2 (List.mem_of_getElem? (i := 230) rfl)) rfl
theorem k_471 : Cond.code ⟨"BedFrontier$House", "keepStep", "()V"⟩ prog_4_method_14_code 2 none ∈ lw_ok := ok_of (in_tables_1_2 (List.mem_of_getElem? (i := 231) rfl)) rfl
theorem k_472 : Cond.methodLink "BedFrontier$House" 102 ⟨"BedFrontier$House", "warBit", "()I"⟩ ∈ lw_ok := ok_of (in_tables_1_2 (List.mem_of_getElem? (i := 232) rfl)) rfl
theorem k_473 : Cond.instanceMethod ⟨"BedFrontier$House", "warBit", "()I"⟩ ∈ lw_ok := ok_of (in_tables_1_2 (List.mem_of_getElem? (i := 233) rfl)) rfl
theorem k_474 : Cond.selects "BedFrontier$House" ⟨"BedFrontier$House", "warBit", "()I"⟩ ⟨"BedFrontier$House", "warBit", "()I"⟩ ∈ lw_ok := ok_of (in_tables_1_2 (List.mem_of_getElem? (i := 234) rfl)) rfl
theorem k_475 : Cond.code ⟨"BedFrontier$House", "warBit", "()I"⟩ prog_4_method_4_code 1 (Option.some FieldType.int) ∈ lw_ok := ok_of (in_tables_1_2 (List.mem_of_getElem? (i := 235) rfl)) rfl
theorem k_476 : Cond.methodLink "BedFrontierLaw" 48 ⟨"BedFrontier", "waits", "(I)I"⟩ ∈ lw_ok := ok_of (in_tables_1_2 (List.mem_of_getElem? (i := 236) rfl)) rfl
theorem k_477 : Cond.instanceMethod ⟨"BedFrontier", "waits", "(I)I"⟩ ∈ lw_ok := ok_of (in_tables_1_2 (List.mem_of_getElem? (i := 237) rfl)) rfl
theorem k_478 : Cond.selects "BedFrontier" ⟨"BedFrontier", "waits", "(I)I"⟩ ⟨"BedFrontier", "waits", "(I)I"⟩ ∈ lw_ok := ok_of (in_tables_1_2 (List.mem_of_getElem? (i := 238) rfl)) rfl
theorem k_479 : Cond.code ⟨"BedFrontier", "waits", "(I)I"⟩ prog_1_method_10_code 2 (Option.some FieldType.int) ∈ lw_ok := ok_of (in_tables_1_2 (List.mem_of_getElem? (i := 239) rfl)) rfl
theorem k_480 : Cond.methodLink "BedFrontier" 126 ⟨"BedFrontier$House", "keepStep", "()V"⟩ ∈ lw_ok := ok_of (in_tables_1_3 (List.mem_of_getElem? (i := 0) rfl)) rfl
theorem k_481 : Cond.methodLink "BedFrontierLaw" 52 ⟨"BedFrontier", "war", "(I)I"⟩ ∈ lw_ok := ok_of (in_tables_1_3 (List.mem_of_getElem? (i := 1) rfl)) rfl
theorem k_482 : Cond.instanceMethod ⟨"BedFrontier", "war", "(I)I"⟩ ∈ lw_ok := ok_of (in_tables_1_3 (List.mem_of_getElem? (i := 2) rfl)) rfl
theorem k_483 : Cond.selects "BedFrontier" ⟨"BedFrontier", "war", "(I)I"⟩ ⟨"BedFrontier", "war", "(I)I"⟩ ∈ lw_ok := ok_of (in_tables_1_3 (List.mem_of_getElem? (i := 3) rfl)) rfl
theorem k_484 : Cond.code ⟨"BedFrontier", "war", "(I)I"⟩ prog_1_method_11_code 3 (Option.some FieldType.int) ∈ lw_ok := ok_of (in_tables_1_3 (List.mem_of_getElem? (i := 4) rfl)) rfl
theorem k_485 : Cond.methodLink "BedFrontier" 129 ⟨"BedFrontier$House", "warBit", "()I"⟩ ∈ lw_ok := ok_of (in_tables_1_3 (List.mem_of_getElem? (i := 5) rfl)) rfl
theorem k_486 : Cond.methodLink "BedFrontierLaw" 56 ⟨"BedFrontier", "undo", "()I"⟩ ∈ lw_ok := ok_of (in_tables_1_3 (List.mem_of_getElem? (i := 6) rfl)) rfl
theorem k_487 : Cond.instanceMethod ⟨"BedFrontier", "undo", "()I"⟩ ∈ lw_ok := ok_of (in_tables_1_3 (List.mem_of_getElem? (i := 7) rfl)) rfl
theorem k_488 : Cond.selects "BedFrontier" ⟨"BedFrontier", "undo", "()I"⟩ ⟨"BedFrontier", "undo", "()I"⟩ ∈ lw_ok := ok_of (in_tables_1_3 (List.mem_of_getElem? (i := 8) rfl)) rfl
theorem k_489 : Cond.code ⟨"BedFrontier", "undo", "()I"⟩ prog_1_method_12_code 1 (Option.some FieldType.int) ∈ lw_ok := ok_of (in_tables_1_3 (List.mem_of_getElem? (i := 9) rfl)) rfl
theorem k_490 : Cond.methodLink "BedFrontier" 139 ⟨"BedFrontier$House", "takeBack", "()V"⟩ ∈ lw_ok := ok_of (in_tables_1_3 (List.mem_of_getElem? (i := 10) rfl)) rfl
theorem k_491 : Cond.instanceMethod ⟨"BedFrontier$House", "takeBack", "()V"⟩ ∈ lw_ok := ok_of (in_tables_1_3 (List.mem_of_getElem? (i := 11) rfl)) rfl
theorem k_492 : Cond.selects "BedFrontier$House" ⟨"BedFrontier$House", "takeBack", "()V"⟩ ⟨"BedFrontier$House", "takeBack", "()V"⟩ ∈ lw_ok := ok_of (in_tables_1_3 (List.mem_of_getElem? (i := 12) rfl)) rfl
theorem k_493 : Cond.code ⟨"BedFrontier$House", "takeBack", "()V"⟩ prog_4_method_15_code 2 none ∈ lw_ok := ok_of (in_tables_1_3 (List.mem_of_getElem? (i := 13) rfl)) rfl
theorem k_494 : Cond.methodLink "BedFrontierLaw" 60 ⟨"BedFrontier", "of", "(II)I"⟩ ∈ lw_ok := ok_of (in_tables_1_3 (List.mem_of_getElem? (i := 14) rfl)) rfl
theorem k_495 : Cond.instanceMethod ⟨"BedFrontier", "of", "(II)I"⟩ ∈ lw_ok := ok_of (in_tables_1_3 (List.mem_of_getElem? (i := 15) rfl)) rfl
theorem k_496 : Cond.selects "BedFrontier" ⟨"BedFrontier", "of", "(II)I"⟩ ⟨"BedFrontier", "of", "(II)I"⟩ ∈ lw_ok := ok_of (in_tables_1_3 (List.mem_of_getElem? (i := 16) rfl)) rfl
theorem k_497 : Cond.code ⟨"BedFrontier", "of", "(II)I"⟩ prog_1_method_13_code 3 (Option.some FieldType.int) ∈ lw_ok := ok_of (in_tables_1_3 (List.mem_of_getElem? (i := 17) rfl)) rfl
theorem k_498 : Cond.methodLink "BedFrontierLaw" 64 ⟨"BedFrontier", "now", "(I)I"⟩ ∈ lw_ok := ok_of (in_tables_1_3 (List.mem_of_getElem? (i := 18) rfl)) rfl
theorem k_499 : Cond.instanceMethod ⟨"BedFrontier", "now", "(I)I"⟩ ∈ lw_ok := ok_of (in_tables_1_3 (List.mem_of_getElem? (i := 19) rfl)) rfl
theorem k_500 : Cond.selects "BedFrontier" ⟨"BedFrontier", "now", "(I)I"⟩ ⟨"BedFrontier", "now", "(I)I"⟩ ∈ lw_ok := ok_of (in_tables_1_3 (List.mem_of_getElem? (i := 20) rfl)) rfl
theorem k_501 : Cond.code ⟨"BedFrontier", "now", "(I)I"⟩ prog_1_method_14_code 2 (Option.some FieldType.int) ∈ lw_ok := ok_of (in_tables_1_3 (List.mem_of_getElem? (i := 21) rfl)) rfl
theorem k_502 : Cond.methodLink "BedFrontierLaw" 68 ⟨"BedFrontier", "due", "(III)I"⟩ ∈ lw_ok := ok_of (in_tables_1_3 (List.mem_of_getElem? (i := 22) rfl)) rfl
theorem k_503 : Cond.instanceMethod ⟨"BedFrontier", "due", "(III)I"⟩ ∈ lw_ok := ok_of (in_tables_1_3 (List.mem_of_getElem? (i := 23) rfl)) rfl
theorem k_504 : Cond.selects "BedFrontier" ⟨"BedFrontier", "due", "(III)I"⟩ ⟨"BedFrontier", "due", "(III)I"⟩ ∈ lw_ok := ok_of (in_tables_1_3 (List.mem_of_getElem? (i := 24) rfl)) rfl
theorem k_505 : Cond.code ⟨"BedFrontier", "due", "(III)I"⟩ prog_1_method_15_code 4 (Option.some FieldType.int) ∈ lw_ok := ok_of (in_tables_1_3 (List.mem_of_getElem? (i := 25) rfl)) rfl
theorem k_506 : Cond.methodLink "BedFrontier" 154 ⟨"BedFrontier", "isHour", "(I)Z"⟩ ∈ lw_ok := ok_of (in_tables_1_3 (List.mem_of_getElem? (i := 26) rfl)) rfl
theorem k_507 : Cond.static ⟨"BedFrontier", "isHour", "(I)Z"⟩ ∈ lw_ok := ok_of (in_tables_1_3 (List.mem_of_getElem? (i := 27) rfl)) rfl
theorem k_508 : Cond.code ⟨"BedFrontier", "isHour", "(I)Z"⟩ prog_1_method_41_code 1 (Option.some FieldType.boolean) ∈ lw_ok := ok_of (in_tables_1_3 (List.mem_of_getElem? (i := 28) rfl)) rfl
theorem k_509 : Cond.methodLink "BedFrontier" 157 ⟨"BedFrontier$House", "owed", "(III)I"⟩ ∈ lw_ok := ok_of (in_tables_1_3 (List.mem_of_getElem? (i := 29) rfl)) rfl
theorem k_510 : Cond.methodLink "BedFrontierLaw" 73 ⟨"BedFrontier", "both", "(II)I"⟩ ∈ lw_ok := ok_of (in_tables_1_3 (List.mem_of_getElem? (i := 30) rfl)) rfl
theorem k_511 : Cond.instanceMethod ⟨"BedFrontier", "both", "(II)I"⟩ ∈ lw_ok := ok_of (in_tables_1_3 (List.mem_of_getElem? (i := 31) rfl)) rfl
theorem k_512 : Cond.selects "BedFrontier" ⟨"BedFrontier", "both", "(II)I"⟩ ⟨"BedFrontier", "both", "(II)I"⟩ ∈ lw_ok := ok_of (in_tables_1_3 (List.mem_of_getElem? (i := 32) rfl)) rfl
theorem k_513 : Cond.code ⟨"BedFrontier", "both", "(II)I"⟩ prog_1_method_16_code 4 (Option.some FieldType.int) ∈ lw_ok := ok_of (in_tables_1_3 (List.mem_of_getElem? (i := 33) rfl)) rfl
theorem k_514 : Cond.methodLink "BedFrontier" 161 ⟨"BedFrontier$Clerk", "hoursBothBar", "(I)I"⟩ ∈ lw_ok := ok_of (in_tables_1_3 (List.mem_of_getElem? (i := 34) rfl)) rfl
theorem k_515 : Cond.instanceMethod ⟨"BedFrontier$Clerk", "hoursBothBar", "(I)I"⟩ ∈ lw_ok := ok_of (in_tables_1_3 (List.mem_of_getElem? (i := 35) rfl)) rfl
theorem k_516 : Cond.selects "BedFrontier$Clerk" ⟨"BedFrontier$Clerk", "hoursBothBar", "(I)I"⟩ ⟨"BedFrontier$Clerk", "hoursBothBar", "(I)I"⟩ ∈ lw_ok := ok_of (in_tables_1_3 (List.mem_of_getElem? (i := 36) rfl)) rfl
theorem k_517 : Cond.code ⟨"BedFrontier$Clerk", "hoursBothBar", "(I)I"⟩ prog_3_method_2_code 4 (Option.some FieldType.int) ∈ lw_ok := ok_of (in_tables_1_3 (List.mem_of_getElem? (i := 37) rfl)) rfl
theorem k_518 : Cond.methodLink "BedFrontier$Clerk" 19 ⟨"BedFrontier$House", "lets", "(III)Z"⟩ ∈ lw_ok := ok_of (in_tables_1_3 (List.mem_of_getElem? (i := 38) rfl)) rfl
theorem k_519 : Cond.methodLink "BedFrontier" 164 ⟨"BedFrontier$Clerk", "firstFromNow", "(I)I"⟩ ∈ lw_ok := ok_of (in_tables_1_3 (List.mem_of_getElem? (i := 39) rfl)) rfl
theorem k_520 : Cond.instanceMethod ⟨"BedFrontier$Clerk", "firstFromNow", "(I)I"⟩ ∈ lw_ok := ok_of (in_tables_1_3 (List.mem_of_getElem? (i := 40) rfl)) rfl
theorem k_521 : Cond.selects "BedFrontier$Clerk" ⟨"BedFrontier$Clerk", "firstFromNow", "(I)I"⟩ ⟨"BedFrontier$Clerk", "firstFromNow", "(I)I"⟩ ∈ lw_ok := ok_of (in_tables_1_3 (List.mem_of_getElem? (i := 41) rfl)) rfl
theorem k_522 : Cond.code ⟨"BedFrontier$Clerk", "firstFromNow", "(I)I"⟩ prog_3_method_3_code 4 (Option.some FieldType.int) ∈ lw_ok := ok_of (in_tables_1_3 (List.mem_of_getElem? (i := 42) rfl)) rfl
theorem k_523 : Cond.methodLink "BedFrontierLaw" 77 ⟨"BedFrontier", "least", "(I)I"⟩ ∈ lw_ok := ok_of (in_tables_1_3 (List.mem_of_getElem? (i := 43) rfl)) rfl
theorem k_524 : Cond.instanceMethod ⟨"BedFrontier", "least", "(I)I"⟩ ∈ lw_ok := ok_of (in_tables_1_3 (List.mem_of_getElem? (i := 44) rfl)) rfl
theorem k_525 : Cond.selects "BedFrontier" ⟨"BedFrontier", "least", "(I)I"⟩ ⟨"BedFrontier", "least", "(I)I"⟩ ∈ lw_ok := ok_of (in_tables_1_3 (List.mem_of_getElem? (i := 45) rfl)) rfl
theorem k_526 : Cond.code ⟨"BedFrontier", "least", "(I)I"⟩ prog_1_method_17_code 3 (Option.some FieldType.int) ∈ lw_ok := ok_of (in_tables_1_3 (List.mem_of_getElem? (i := 46) rfl)) rfl
theorem k_527 : Cond.classLink "BedFrontier" 171 "BedFrontier$Planner" ∈ lw_ok := ok_of (in_tables_1_3 (List.mem_of_getElem? (i := 47) rfl)) rfl
theorem k_528 : Cond.instantiable "BedFrontier$Planner" 3 ∈ lw_ok := ok_of (in_tables_1_3 (List.mem_of_getElem? (i := 48) rfl)) rfl
theorem k_529 : Cond.methodLink "BedFrontier" 173 ⟨"BedFrontier$Planner", "<init>", "(LBedFrontier$House;)V"⟩ ∈ lw_ok := ok_of (in_tables_1_3 (List.mem_of_getElem? (i := 49) rfl)) rfl
theorem k_530 : Cond.instanceMethod ⟨"BedFrontier$Planner", "<init>", "(LBedFrontier$House;)V"⟩ ∈ lw_ok := ok_of (in_tables_1_3 (List.mem_of_getElem? (i := 50) rfl)) rfl
theorem k_531 : Cond.code ⟨"BedFrontier$Planner", "<init>", "(LBedFrontier$House;)V"⟩ prog_8_method_1_code 2 none ∈ lw_ok := ok_of (in_tables_1_3 (List.mem_of_getElem? (i := 51) rfl)) rfl
theorem k_532 : Cond.methodLink "BedFrontier$Planner" 3 ⟨"java/lang/Object", "<init>", "()V"⟩ ∈ lw_ok := ok_of (in_tables_1_3 (List.mem_of_getElem? (i := 52) rfl)) rfl
theorem k_533 : Cond.fieldLink "BedFrontier$Planner" 18 "BedFrontier$Planner" "home" "LBedFrontier$House;" ∈ lw_ok := ok_of (in_tables_1_3 (List.mem_of_getElem? (i := 53) rfl)) rfl
theorem k_534 : Cond.fieldLink "BedFrontier$Planner" 11 "BedFrontier$Planner" "costs" "[I" ∈ lw_ok := ok_of (in_tables_1_3 (List.mem_of_getElem? (i := 54) rfl)) rfl
theorem k_535 : Cond.fieldLink "BedFrontier$Planner" 15 "BedFrontier$Planner" "prices" "[I" ∈ lw_ok := ok_of (in_tables_1_3 (List.mem_of_getElem? (i := 55) rfl)) rfl
theorem k_536 : Cond.laysFinal "BedFrontier$Planner" "BedFrontier$Planner" "home" "LBedFrontier$House;" ∈ lw_ok := ok_of (in_tables_1_3 (List.mem_of_getElem? (i := 56) rfl)) rfl
theorem k_537 : Cond.soleField "BedFrontier$Planner" "home" ∈ lw_ok := ok_of (in_tables_1_3 (List.mem_of_getElem? (i := 57) rfl)) rfl
theorem k_538 : Cond.laysFinal "BedFrontier$Planner" "BedFrontier$Planner" "costs" "[I" ∈ lw_ok := ok_of (in_tables_1_3 (List.mem_of_getElem? (i := 58) rfl)) rfl
theorem k_539 : Cond.soleField "BedFrontier$Planner" "costs" ∈ lw_ok := ok_of (in_tables_1_3 (List.mem_of_getElem? (i := 59) rfl)) rfl
theorem k_540 : Cond.laysFinal "BedFrontier$Planner" "BedFrontier$Planner" "prices" "[I" ∈ lw_ok := ok_of (in_tables_1_3 (List.mem_of_getElem? (i := 60) rfl)) rfl
theorem k_541 : Cond.soleField "BedFrontier$Planner" "prices" ∈ lw_ok := ok_of (in_tables_1_3 (List.mem_of_getElem? (i := 61) rfl)) rfl
theorem k_542 : Cond.superclass "BedFrontier$Planner" "java/lang/Object" ∈ lw_ok := ok_of (in_tables_1_3 (List.mem_of_getElem? (i := 62) rfl)) rfl
theorem k_543 : Cond.methodLink "BedFrontier" 174 ⟨"BedFrontier$Planner", "leastCost", "()I"⟩ ∈ lw_ok := ok_of (in_tables_1_3 (List.mem_of_getElem? (i := 63) rfl)) rfl
theorem k_544 : Cond.instanceMethod ⟨"BedFrontier$Planner", "leastCost", "()I"⟩ ∈ lw_ok := ok_of (in_tables_1_3 (List.mem_of_getElem? (i := 64) rfl)) rfl
theorem k_545 : Cond.selects "BedFrontier$Planner" ⟨"BedFrontier$Planner", "leastCost", "()I"⟩ ⟨"BedFrontier$Planner", "leastCost", "()I"⟩ ∈ lw_ok := ok_of (in_tables_1_3 (List.mem_of_getElem? (i := 65) rfl)) rfl
theorem k_546 : Cond.code ⟨"BedFrontier$Planner", "leastCost", "()I"⟩ prog_8_method_2_code 2 (Option.some FieldType.int) ∈ lw_ok := ok_of (in_tables_1_3 (List.mem_of_getElem? (i := 66) rfl)) rfl
theorem k_547 : Cond.methodLink "BedFrontier$Planner" 22 ⟨"BedFrontier$Planner", "endOfDay", "()V"⟩ ∈ lw_ok := ok_of (in_tables_1_3 (List.mem_of_getElem? (i := 67) rfl)) rfl
theorem k_548 : Cond.instanceMethod ⟨"BedFrontier$Planner", "endOfDay", "()V"⟩ ∈ lw_ok := ok_of (in_tables_1_3 (List.mem_of_getElem? (i := 68) rfl)) rfl
theorem k_549 : Cond.selects "BedFrontier$Planner" ⟨"BedFrontier$Planner", "endOfDay", "()V"⟩ ⟨"BedFrontier$Planner", "endOfDay", "()V"⟩ ∈ lw_ok := ok_of (in_tables_1_3 (List.mem_of_getElem? (i := 69) rfl)) rfl
theorem k_550 : Cond.code ⟨"BedFrontier$Planner", "endOfDay", "()V"⟩ prog_8_method_4_code 4 none ∈ lw_ok := ok_of (in_tables_1_3 (List.mem_of_getElem? (i := 70) rfl)) rfl
theorem k_551 : Cond.methodLink "BedFrontier$Planner" 49 ⟨"BedFrontier$Planner", "allDone", "()I"⟩ ∈ lw_ok := ok_of (in_tables_1_3 (List.mem_of_getElem? (i := 71) rfl)) rfl
theorem k_552 : Cond.instanceMethod ⟨"BedFrontier$Planner", "allDone", "()I"⟩ ∈ lw_ok := ok_of (in_tables_1_3 (List.mem_of_getElem? (i := 72) rfl)) rfl
theorem k_553 : Cond.selects "BedFrontier$Planner" ⟨"BedFrontier$Planner", "allDone", "()I"⟩ ⟨"BedFrontier$Planner", "allDone", "()I"⟩ ∈ lw_ok := ok_of (in_tables_1_3 (List.mem_of_getElem? (i := 73) rfl)) rfl
theorem k_554 : Cond.code ⟨"BedFrontier$Planner", "allDone", "()I"⟩ prog_8_method_3_code 1 (Option.some FieldType.int) ∈ lw_ok := ok_of (in_tables_1_3 (List.mem_of_getElem? (i := 74) rfl)) rfl
theorem k_555 : Cond.methodLink "BedFrontier$Planner" 41 ⟨"BedFrontier$Planner", "costAt", "(II)I"⟩ ∈ lw_ok := ok_of (in_tables_1_3 (List.mem_of_getElem? (i := 75) rfl)) rfl
theorem k_556 : Cond.static ⟨"BedFrontier$Planner", "costAt", "(II)I"⟩ ∈ lw_ok := ok_of (in_tables_1_3 (List.mem_of_getElem? (i := 76) rfl)) rfl
theorem k_557 : Cond.code ⟨"BedFrontier$Planner", "costAt", "(II)I"⟩ prog_8_method_8_code 2 (Option.some FieldType.int) ∈ lw_ok := ok_of (in_tables_1_3 (List.mem_of_getElem? (i := 77) rfl)) rfl
theorem k_558 : Cond.constant "BedFrontier$Planner" 45 (1000000 : Int32) ∈ lw_ok := ok_of (in_tables_1_3 (List.mem_of_getElem? (i := 78) rfl)) rfl
theorem k_559 : Cond.methodLink "BedFrontier$Planner" 31 ⟨"BedFrontier$Planner", "priceHour", "(I)V"⟩ ∈ lw_ok := ok_of (in_tables_1_3 (List.mem_of_getElem? (i := 79) rfl)) rfl
theorem k_560 : Cond.instanceMethod ⟨"BedFrontier$Planner", "priceHour", "(I)V"⟩ ∈ lw_ok := ok_of (in_tables_1_3 (List.mem_of_getElem? (i := 80) rfl)) rfl
theorem k_561 : Cond.selects "BedFrontier$Planner" ⟨"BedFrontier$Planner", "priceHour", "(I)V"⟩ ⟨"BedFrontier$Planner", "priceHour", "(I)V"⟩ ∈ lw_ok := ok_of (in_tables_1_3 (List.mem_of_getElem? (i := 81) rfl)) rfl
theorem k_562 : Cond.code ⟨"BedFrontier$Planner", "priceHour", "(I)V"⟩ prog_8_method_5_code 5 none ∈ lw_ok := ok_of (in_tables_1_3 (List.mem_of_getElem? (i := 82) rfl)) rfl
theorem k_563 : Cond.methodLink "BedFrontier$Planner" 53 ⟨"BedFrontier$House", "lets", "(III)Z"⟩ ∈ lw_ok := ok_of (in_tables_1_3 (List.mem_of_getElem? (i := 83) rfl)) rfl
theorem k_564 : Cond.methodLink "BedFrontier$Planner" 57 ⟨"BedFrontier$Planner", "priceAt", "(II)I"⟩ ∈ lw_ok := ok_of (in_tables_1_3 (List.mem_of_getElem? (i := 84) rfl)) rfl
theorem k_565 : Cond.static ⟨"BedFrontier$Planner", "priceAt", "(II)I"⟩ ∈ lw_ok := ok_of (in_tables_1_3 (List.mem_of_getElem? (i := 85) rfl)) rfl
theorem k_566 : Cond.code ⟨"BedFrontier$Planner", "priceAt", "(II)I"⟩ prog_8_method_9_code 2 (Option.some FieldType.int) ∈ lw_ok := ok_of (in_tables_1_3 (List.mem_of_getElem? (i := 86) rfl)) rfl
theorem k_567 : Cond.methodLink "BedFrontier$Planner" 60 ⟨"BedFrontier$House", "owed", "(III)I"⟩ ∈ lw_ok := ok_of (in_tables_1_3 (List.mem_of_getElem? (i := 87) rfl)) rfl
theorem k_568 : Cond.methodLink "BedFrontier$Planner" 35 ⟨"BedFrontier$Planner", "fillHour", "(I)V"⟩ ∈ lw_ok := ok_of (in_tables_1_3 (List.mem_of_getElem? (i := 88) rfl)) rfl
theorem k_569 : Cond.instanceMethod ⟨"BedFrontier$Planner", "fillHour", "(I)V"⟩ ∈ lw_ok := ok_of (in_tables_1_3 (List.mem_of_getElem? (i := 89) rfl)) rfl
theorem k_570 : Cond.selects "BedFrontier$Planner" ⟨"BedFrontier$Planner", "fillHour", "(I)V"⟩ ⟨"BedFrontier$Planner", "fillHour", "(I)V"⟩ ∈ lw_ok := ok_of (in_tables_1_3 (List.mem_of_getElem? (i := 90) rfl)) rfl
theorem k_571 : Cond.code ⟨"BedFrontier$Planner", "fillHour", "(I)V"⟩ prog_8_method_6_code 6 none ∈ lw_ok := ok_of (in_tables_1_3 (List.mem_of_getElem? (i := 91) rfl)) rfl
theorem k_572 : Cond.methodLink "BedFrontier$Planner" 64 ⟨"BedFrontier$Planner", "cheapestOn", "(III)I"⟩ ∈ lw_ok := ok_of (in_tables_1_3 (List.mem_of_getElem? (i := 92) rfl)) rfl
theorem k_573 : Cond.instanceMethod ⟨"BedFrontier$Planner", "cheapestOn", "(III)I"⟩ ∈ lw_ok := ok_of (in_tables_1_3 (List.mem_of_getElem? (i := 93) rfl)) rfl
theorem k_574 : Cond.selects "BedFrontier$Planner" ⟨"BedFrontier$Planner", "cheapestOn", "(III)I"⟩ ⟨"BedFrontier$Planner", "cheapestOn", "(III)I"⟩ ∈ lw_ok := ok_of (in_tables_1_3 (List.mem_of_getElem? (i := 94) rfl)) rfl
theorem k_575 : Cond.code ⟨"BedFrontier$Planner", "cheapestOn", "(III)I"⟩ prog_8_method_7_code 8 (Option.some FieldType.int) ∈ lw_ok := ok_of (in_tables_1_3 (List.mem_of_getElem? (i := 95) rfl)) rfl
theorem k_576 : Cond.methodLink "BedFrontier$Planner" 70 ⟨"java/lang/Math", "min", "(II)I"⟩ ∈ lw_ok := ok_of (in_tables_1_3 (List.mem_of_getElem? (i := 96) rfl)) rfl
theorem k_577 : Cond.static ⟨"java/lang/Math", "min", "(II)I"⟩ ∈ lw_ok := ok_of (in_tables_1_3 (List.mem_of_getElem? (i := 97) rfl)) rfl
theorem k_578 : Cond.code ⟨"java/lang/Math", "min", "(II)I"⟩ prog_14_method_69_code 2 (Option.some FieldType.int) ∈ lw_ok := ok_of (in_tables_1_3 (List.mem_of_getElem? (i := 98) rfl)) rfl
theorem k_579 : Cond.methodLink "BedFrontier" 177 ⟨"BedFrontier$Planner", "placeOf", "(I)I"⟩ ∈ lw_ok := ok_of (in_tables_1_3 (List.mem_of_getElem? (i := 99) rfl)) rfl
theorem k_580 : Cond.instanceMethod ⟨"BedFrontier$Planner", "placeOf", "(I)I"⟩ ∈ lw_ok := ok_of (in_tables_1_3 (List.mem_of_getElem? (i := 100) rfl)) rfl
theorem k_581 : Cond.selects "BedFrontier$Planner" ⟨"BedFrontier$Planner", "placeOf", "(I)I"⟩ ⟨"BedFrontier$Planner", "placeOf", "(I)I"⟩ ∈ lw_ok := ok_of (in_tables_1_3 (List.mem_of_getElem? (i := 101) rfl)) rfl
theorem k_582 : Cond.code ⟨"BedFrontier$Planner", "placeOf", "(I)I"⟩ prog_8_method_10_code 7 (Option.some FieldType.int) ∈ lw_ok := ok_of (in_tables_1_3 (List.mem_of_getElem? (i := 102) rfl)) rfl
theorem k_583 : Cond.methodLink "BedFrontier$Planner" 75 ⟨"BedFrontier$Planner", "firstStep", "(III)I"⟩ ∈ lw_ok := ok_of (in_tables_1_3 (List.mem_of_getElem? (i := 103) rfl)) rfl
theorem k_584 : Cond.instanceMethod ⟨"BedFrontier$Planner", "firstStep", "(III)I"⟩ ∈ lw_ok := ok_of (in_tables_1_3 (List.mem_of_getElem? (i := 104) rfl)) rfl
theorem k_585 : Cond.selects "BedFrontier$Planner" ⟨"BedFrontier$Planner", "firstStep", "(III)I"⟩ ⟨"BedFrontier$Planner", "firstStep", "(III)I"⟩ ∈ lw_ok := ok_of (in_tables_1_3 (List.mem_of_getElem? (i := 105) rfl)) rfl
theorem k_586 : Cond.code ⟨"BedFrontier$Planner", "firstStep", "(III)I"⟩ prog_8_method_11_code 10 (Option.some FieldType.int) ∈ lw_ok := ok_of (in_tables_1_3 (List.mem_of_getElem? (i := 106) rfl)) rfl
theorem k_587 : Cond.methodLink "BedFrontier$Planner" 78 ⟨"BedFrontier$House", "tollTo", "(II)I"⟩ ∈ lw_ok := ok_of (in_tables_1_3 (List.mem_of_getElem? (i := 107) rfl)) rfl
theorem k_588 : Cond.methodLink "BedFrontierLaw" 81 ⟨"BedFrontier", "before", "(IIII)I"⟩ ∈ lw_ok := ok_of (in_tables_1_3 (List.mem_of_getElem? (i := 108) rfl)) rfl
theorem k_589 : Cond.instanceMethod ⟨"BedFrontier", "before", "(IIII)I"⟩ ∈ lw_ok := ok_of (in_tables_1_3 (List.mem_of_getElem? (i := 109) rfl)) rfl
theorem k_590 : Cond.selects "BedFrontier" ⟨"BedFrontier", "before", "(IIII)I"⟩ ⟨"BedFrontier", "before", "(IIII)I"⟩ ∈ lw_ok := ok_of (in_tables_1_3 (List.mem_of_getElem? (i := 110) rfl)) rfl
theorem k_591 : Cond.code ⟨"BedFrontier", "before", "(IIII)I"⟩ prog_1_method_18_code 7 (Option.some FieldType.int) ∈ lw_ok := ok_of (in_tables_1_3 (List.mem_of_getElem? (i := 111) rfl)) rfl
theorem k_592 : Cond.methodLink "BedFrontier" 180 ⟨"BedFrontier", "hisHour", "(II)I"⟩ ∈ lw_ok := ok_of (in_tables_1_3 (List.mem_of_getElem? (i := 112) rfl)) rfl
theorem k_593 : Cond.static ⟨"BedFrontier", "hisHour", "(II)I"⟩ ∈ lw_ok := ok_of (in_tables_1_3 (List.mem_of_getElem? (i := 113) rfl)) rfl
theorem k_594 : Cond.code ⟨"BedFrontier", "hisHour", "(II)I"⟩ prog_1_method_43_code 2 (Option.some FieldType.int) ∈ lw_ok := ok_of (in_tables_1_3 (List.mem_of_getElem? (i := 114) rfl)) rfl
theorem k_595 : Cond.methodLink "BedFrontierLaw" 86 ⟨"BedFrontier", "child", "(I)I"⟩ ∈ lw_ok := ok_of (in_tables_1_3 (List.mem_of_getElem? (i := 115) rfl)) rfl
theorem k_596 : Cond.instanceMethod ⟨"BedFrontier", "child", "(I)I"⟩ ∈ lw_ok := ok_of (in_tables_1_3 (List.mem_of_getElem? (i := 116) rfl)) rfl
theorem k_597 : Cond.selects "BedFrontier" ⟨"BedFrontier", "child", "(I)I"⟩ ⟨"BedFrontier", "child", "(I)I"⟩ ∈ lw_ok := ok_of (in_tables_1_3 (List.mem_of_getElem? (i := 117) rfl)) rfl
theorem k_598 : Cond.code ⟨"BedFrontier", "child", "(I)I"⟩ prog_1_method_19_code 2 (Option.some FieldType.int) ∈ lw_ok := ok_of (in_tables_1_3 (List.mem_of_getElem? (i := 118) rfl)) rfl
theorem k_599 : Cond.methodLink "BedFrontier" 183 ⟨"BedFrontier$Clerk", "cellsOfHers", "(I)I"⟩ ∈ lw_ok := ok_of (in_tables_1_3 (List.mem_of_getElem? (i := 119) rfl)) rfl
theorem k_600 : Cond.static ⟨"BedFrontier$Clerk", "cellsOfHers", "(I)I"⟩ ∈ lw_ok := ok_of (in_tables_1_3 (List.mem_of_getElem? (i := 120) rfl)) rfl
theorem k_601 : Cond.code ⟨"BedFrontier$Clerk", "cellsOfHers", "(I)I"⟩ prog_3_method_4_code 1 (Option.some FieldType.int) ∈ lw_ok := ok_of (in_tables_1_3 (List.mem_of_getElem? (i := 121) rfl)) rfl
theorem k_602 : Cond.methodLink "BedFrontier$Clerk" 29 ⟨"java/lang/Math", "min", "(II)I"⟩ ∈ lw_ok := ok_of (in_tables_1_3 (List.mem_of_getElem? (i := 122) rfl)) rfl
theorem k_603 : Cond.methodLink "BedFrontier$Clerk" 35 ⟨"java/lang/Math", "max", "(II)I"⟩ ∈ lw_ok := ok_of (in_tables_1_3 (List.mem_of_getElem? (i := 123) rfl)) rfl
theorem k_604 : Cond.methodLink "BedFrontier" 186 ⟨"BedFrontier", "setFraction", "(II)V"⟩ ∈ lw_ok := ok_of (in_tables_1_3 (List.mem_of_getElem? (i := 124) rfl)) rfl
theorem k_605 : Cond.privateMethod ⟨"BedFrontier", "setFraction", "(II)V"⟩ ∈ lw_tbl := in_tables_1_3 (List.mem_of_getElem? (i := 125) rfl)
theorem k_606 : Cond.instanceMethod ⟨"BedFrontier", "setFraction", "(II)V"⟩ ∈ lw_ok := ok_of (in_tables_1_3 (List.mem_of_getElem? (i := 126) rfl)) rfl
theorem k_607 : Cond.code ⟨"BedFrontier", "setFraction", "(II)V"⟩ prog_1_method_45_code 4 none ∈ lw_ok := ok_of (in_tables_1_3 (List.mem_of_getElem? (i := 127) rfl)) rfl
theorem k_608 : Cond.methodLink "BedFrontier" 246 ⟨"BedFrontier", "greatestDivisor", "(II)I"⟩ ∈ lw_ok := ok_of (in_tables_1_3 (List.mem_of_getElem? (i := 128) rfl)) rfl
theorem k_609 : Cond.static ⟨"BedFrontier", "greatestDivisor", "(II)I"⟩ ∈ lw_ok := ok_of (in_tables_1_3 (List.mem_of_getElem? (i := 129) rfl)) rfl
theorem k_610 : Cond.code ⟨"BedFrontier", "greatestDivisor", "(II)I"⟩ prog_1_method_46_code 6 (Option.some FieldType.int) ∈ lw_ok := ok_of (in_tables_1_3 (List.mem_of_getElem? (i := 130) rfl)) rfl
theorem k_611 : Cond.methodLink "BedFrontier" 249 ⟨"java/lang/Math", "max", "(II)I"⟩ ∈ lw_ok := ok_of (in_tables_1_3 (List.mem_of_getElem? (i := 131) rfl)) rfl
theorem k_612 : Cond.methodLink "BedFrontierLaw" 90 ⟨"BedFrontier", "where", "(I)I"⟩ ∈ lw_ok := ok_of (in_tables_1_3 (List.mem_of_getElem? (i := 132) rfl)) rfl
theorem k_613 : Cond.instanceMethod ⟨"BedFrontier", "where", "(I)I"⟩ ∈ lw_ok := ok_of (in_tables_1_3 (List.mem_of_getElem? (i := 133) rfl)) rfl
theorem k_614 : Cond.selects "BedFrontier" ⟨"BedFrontier", "where", "(I)I"⟩ ⟨"BedFrontier", "where", "(I)I"⟩ ∈ lw_ok := ok_of (in_tables_1_3 (List.mem_of_getElem? (i := 134) rfl)) rfl
theorem k_615 : Cond.code ⟨"BedFrontier", "where", "(I)I"⟩ prog_1_method_20_code 2 (Option.some FieldType.int) ∈ lw_ok := ok_of (in_tables_1_3 (List.mem_of_getElem? (i := 135) rfl)) rfl
theorem k_616 : Cond.methodLink "BedFrontier" 190 ⟨"BedFrontier$Clerk", "bestCell", "(I)I"⟩ ∈ lw_ok := ok_of (in_tables_1_3 (List.mem_of_getElem? (i := 136) rfl)) rfl
theorem k_617 : Cond.instanceMethod ⟨"BedFrontier$Clerk", "bestCell", "(I)I"⟩ ∈ lw_ok := ok_of (in_tables_1_3 (List.mem_of_getElem? (i := 137) rfl)) rfl
theorem k_618 : Cond.selects "BedFrontier$Clerk" ⟨"BedFrontier$Clerk", "bestCell", "(I)I"⟩ ⟨"BedFrontier$Clerk", "bestCell", "(I)I"⟩ ∈ lw_ok := ok_of (in_tables_1_3 (List.mem_of_getElem? (i := 138) rfl)) rfl
theorem k_619 : Cond.code ⟨"BedFrontier$Clerk", "bestCell", "(I)I"⟩ prog_3_method_5_code 9 (Option.some FieldType.int) ∈ lw_ok := ok_of (in_tables_1_3 (List.mem_of_getElem? (i := 139) rfl)) rfl
theorem k_620 : Cond.methodLink "BedFrontier$Clerk" 38 ⟨"BedFrontier$Clerk", "priceOfCell", "(II)I"⟩ ∈ lw_ok := ok_of (in_tables_1_3 (List.mem_of_getElem? (i := 140) rfl)) rfl
theorem k_621 : Cond.instanceMethod ⟨"BedFrontier$Clerk", "priceOfCell", "(II)I"⟩ ∈ lw_ok := ok_of (in_tables_1_3 (List.mem_of_getElem? (i := 141) rfl)) rfl
theorem k_622 : Cond.selects "BedFrontier$Clerk" ⟨"BedFrontier$Clerk", "priceOfCell", "(II)I"⟩ ⟨"BedFrontier$Clerk", "priceOfCell", "(II)I"⟩ ∈ lw_ok := ok_of (in_tables_1_3 (List.mem_of_getElem? (i := 142) rfl)) rfl
theorem k_623 : Cond.code ⟨"BedFrontier$Clerk", "priceOfCell", "(II)I"⟩ prog_3_method_6_code 3 (Option.some FieldType.int) ∈ lw_ok := ok_of (in_tables_1_3 (List.mem_of_getElem? (i := 143) rfl)) rfl
theorem k_624 : Cond.methodLink "BedFrontier$Clerk" 45 ⟨"BedFrontier$House", "owed", "(III)I"⟩ ∈ lw_ok := ok_of (in_tables_1_3 (List.mem_of_getElem? (i := 144) rfl)) rfl
theorem k_625 : Cond.methodLink "BedFrontier$Clerk" 41 ⟨"BedFrontier$Clerk", "cellsOfHers", "(I)I"⟩ ∈ lw_ok := ok_of (in_tables_1_3 (List.mem_of_getElem? (i := 145) rfl)) rfl
theorem k_626 : Cond.methodLink "BedFrontierLaw" 94 ⟨"BedFrontier", "bars", "(I)I"⟩ ∈ lw_ok := ok_of (in_tables_1_3 (List.mem_of_getElem? (i := 146) rfl)) rfl
theorem k_627 : Cond.instanceMethod ⟨"BedFrontier", "bars", "(I)I"⟩ ∈ lw_ok := ok_of (in_tables_1_3 (List.mem_of_getElem? (i := 147) rfl)) rfl
theorem k_628 : Cond.selects "BedFrontier" ⟨"BedFrontier", "bars", "(I)I"⟩ ⟨"BedFrontier", "bars", "(I)I"⟩ ∈ lw_ok := ok_of (in_tables_1_3 (List.mem_of_getElem? (i := 148) rfl)) rfl
theorem k_629 : Cond.code ⟨"BedFrontier", "bars", "(I)I"⟩ prog_1_method_21_code 2 (Option.some FieldType.int) ∈ lw_ok := ok_of (in_tables_1_3 (List.mem_of_getElem? (i := 149) rfl)) rfl
theorem k_630 : Cond.methodLink "BedFrontier" 193 ⟨"BedFrontier$Clerk", "restingPairs", "(I)I"⟩ ∈ lw_ok := ok_of (in_tables_1_3 (List.mem_of_getElem? (i := 150) rfl)) rfl
theorem k_631 : Cond.instanceMethod ⟨"BedFrontier$Clerk", "restingPairs", "(I)I"⟩ ∈ lw_ok := ok_of (in_tables_1_3 (List.mem_of_getElem? (i := 151) rfl)) rfl
theorem k_632 : Cond.selects "BedFrontier$Clerk" ⟨"BedFrontier$Clerk", "restingPairs", "(I)I"⟩ ⟨"BedFrontier$Clerk", "restingPairs", "(I)I"⟩ ∈ lw_ok := ok_of (in_tables_1_3 (List.mem_of_getElem? (i := 152) rfl)) rfl
theorem k_633 : Cond.code ⟨"BedFrontier$Clerk", "restingPairs", "(I)I"⟩ prog_3_method_7_code 6 (Option.some FieldType.int) ∈ lw_ok := ok_of (in_tables_1_3 (List.mem_of_getElem? (i := 153) rfl)) rfl
theorem k_634 : Cond.methodLink "BedFrontier$Clerk" 49 ⟨"BedFrontier$Clerk", "gainOfHis", "(II)I"⟩ ∈ lw_ok := ok_of (in_tables_1_3 (List.mem_of_getElem? (i := 154) rfl)) rfl
theorem k_635 : Cond.instanceMethod ⟨"BedFrontier$Clerk", "gainOfHis", "(II)I"⟩ ∈ lw_ok := ok_of (in_tables_1_3 (List.mem_of_getElem? (i := 155) rfl)) rfl
theorem k_636 : Cond.selects "BedFrontier$Clerk" ⟨"BedFrontier$Clerk", "gainOfHis", "(II)I"⟩ ⟨"BedFrontier$Clerk", "gainOfHis", "(II)I"⟩ ∈ lw_ok := ok_of (in_tables_1_3 (List.mem_of_getElem? (i := 156) rfl)) rfl
theorem k_637 : Cond.code ⟨"BedFrontier$Clerk", "gainOfHis", "(II)I"⟩ prog_3_method_8_code 5 (Option.some FieldType.int) ∈ lw_ok := ok_of (in_tables_1_3 (List.mem_of_getElem? (i := 157) rfl)) rfl
theorem k_638 : Cond.methodLink "BedFrontier$Clerk" 55 ⟨"BedFrontier$Clerk", "isOpen", "(III)Z"⟩ ∈ lw_ok := ok_of (in_tables_1_3 (List.mem_of_getElem? (i := 158) rfl)) rfl
theorem k_639 : Cond.instanceMethod ⟨"BedFrontier$Clerk", "isOpen", "(III)Z"⟩ ∈ lw_ok := ok_of (in_tables_1_3 (List.mem_of_getElem? (i := 159) rfl)) rfl
theorem k_640 : Cond.selects "BedFrontier$Clerk" ⟨"BedFrontier$Clerk", "isOpen", "(III)Z"⟩ ⟨"BedFrontier$Clerk", "isOpen", "(III)Z"⟩ ∈ lw_ok := ok_of (in_tables_1_3 (List.mem_of_getElem? (i := 160) rfl)) rfl
theorem k_641 : Cond.code ⟨"BedFrontier$Clerk", "isOpen", "(III)Z"⟩ prog_3_method_10_code 4 (Option.some FieldType.boolean) ∈ lw_ok := ok_of (in_tables_1_3 (List.mem_of_getElem? (i := 161) rfl)) rfl
theorem k_642 : Cond.methodLink "BedFrontier$Clerk" 58 ⟨"BedFrontier$House", "passesBarred", "(III)Z"⟩ ∈ lw_ok := ok_of (in_tables_1_3 (List.mem_of_getElem? (i := 162) rfl)) rfl
theorem k_643 : Cond.methodLink "BedFrontier$Clerk" 52 ⟨"BedFrontier$Clerk", "gainOfHers", "(II)I"⟩ ∈ lw_ok := ok_of (in_tables_1_3 (List.mem_of_getElem? (i := 163) rfl)) rfl
theorem k_644 : Cond.instanceMethod ⟨"BedFrontier$Clerk", "gainOfHers", "(II)I"⟩ ∈ lw_ok := ok_of (in_tables_1_3 (List.mem_of_getElem? (i := 164) rfl)) rfl
theorem k_645 : Cond.selects "BedFrontier$Clerk" ⟨"BedFrontier$Clerk", "gainOfHers", "(II)I"⟩ ⟨"BedFrontier$Clerk", "gainOfHers", "(II)I"⟩ ∈ lw_ok := ok_of (in_tables_1_3 (List.mem_of_getElem? (i := 165) rfl)) rfl
theorem k_646 : Cond.code ⟨"BedFrontier$Clerk", "gainOfHers", "(II)I"⟩ prog_3_method_9_code 5 (Option.some FieldType.int) ∈ lw_ok := ok_of (in_tables_1_3 (List.mem_of_getElem? (i := 166) rfl)) rfl
theorem k_647 : Cond.methodLink "BedFrontierLaw" 98 ⟨"BedFrontier", "note", "(IIIII)I"⟩ ∈ lw_ok := ok_of (in_tables_1_3 (List.mem_of_getElem? (i := 167) rfl)) rfl
theorem k_648 : Cond.instanceMethod ⟨"BedFrontier", "note", "(IIIII)I"⟩ ∈ lw_ok := ok_of (in_tables_1_3 (List.mem_of_getElem? (i := 168) rfl)) rfl
theorem k_649 : Cond.selects "BedFrontier" ⟨"BedFrontier", "note", "(IIIII)I"⟩ ⟨"BedFrontier", "note", "(IIIII)I"⟩ ∈ lw_ok := ok_of (in_tables_1_3 (List.mem_of_getElem? (i := 169) rfl)) rfl
theorem k_650 : Cond.code ⟨"BedFrontier", "note", "(IIIII)I"⟩ prog_1_method_22_code 6 (Option.some FieldType.int) ∈ lw_ok := ok_of (in_tables_1_3 (List.mem_of_getElem? (i := 170) rfl)) rfl
theorem k_651 : Cond.methodLink "BedFrontier" 199 ⟨"BedFrontier$House", "addNote", "(IIIII)I"⟩ ∈ lw_ok := ok_of (in_tables_1_3 (List.mem_of_getElem? (i := 171) rfl)) rfl
theorem k_652 : Cond.instanceMethod ⟨"BedFrontier$House", "addNote", "(IIIII)I"⟩ ∈ lw_ok := ok_of (in_tables_1_3 (List.mem_of_getElem? (i := 172) rfl)) rfl
theorem k_653 : Cond.selects "BedFrontier$House" ⟨"BedFrontier$House", "addNote", "(IIIII)I"⟩ ⟨"BedFrontier$House", "addNote", "(IIIII)I"⟩ ∈ lw_ok := ok_of (in_tables_1_3 (List.mem_of_getElem? (i := 173) rfl)) rfl
theorem k_654 : Cond.code ⟨"BedFrontier$House", "addNote", "(IIIII)I"⟩ prog_4_method_6_code 7 (Option.some FieldType.int) ∈ lw_ok := ok_of (in_tables_1_3 (List.mem_of_getElem? (i := 174) rfl)) rfl
theorem k_655 : Cond.methodLink "BedFrontierLaw" 103 ⟨"BedFrontier", "forget", "()I"⟩ ∈ lw_ok := ok_of (in_tables_1_3 (List.mem_of_getElem? (i := 175) rfl)) rfl
theorem k_656 : Cond.instanceMethod ⟨"BedFrontier", "forget", "()I"⟩ ∈ lw_ok := ok_of (in_tables_1_3 (List.mem_of_getElem? (i := 176) rfl)) rfl
theorem k_657 : Cond.selects "BedFrontier" ⟨"BedFrontier", "forget", "()I"⟩ ⟨"BedFrontier", "forget", "()I"⟩ ∈ lw_ok := ok_of (in_tables_1_3 (List.mem_of_getElem? (i := 177) rfl)) rfl
theorem k_658 : Cond.code ⟨"BedFrontier", "forget", "()I"⟩ prog_1_method_23_code 2 (Option.some FieldType.int) ∈ lw_ok := ok_of (in_tables_1_3 (List.mem_of_getElem? (i := 178) rfl)) rfl
theorem k_659 : Cond.methodLink "BedFrontierLaw" 107 ⟨"BedFrontier", "is", "(I)I"⟩ ∈ lw_ok := ok_of (in_tables_1_3 (List.mem_of_getElem? (i := 179) rfl)) rfl
theorem k_660 : Cond.instanceMethod ⟨"BedFrontier", "is", "(I)I"⟩ ∈ lw_ok := ok_of (in_tables_1_3 (List.mem_of_getElem? (i := 180) rfl)) rfl
theorem k_661 : Cond.selects "BedFrontier" ⟨"BedFrontier", "is", "(I)I"⟩ ⟨"BedFrontier", "is", "(I)I"⟩ ∈ lw_ok := ok_of (in_tables_1_3 (List.mem_of_getElem? (i := 181) rfl)) rfl
theorem k_662 : Cond.code ⟨"BedFrontier", "is", "(I)I"⟩ prog_1_method_24_code 2 (Option.some FieldType.int) ∈ lw_ok := ok_of (in_tables_1_3 (List.mem_of_getElem? (i := 182) rfl)) rfl
theorem k_663 : Cond.methodLink "BedFrontier" 203 ⟨"BedFrontier$Clerk", "kindsThatFit", "(I)I"⟩ ∈ lw_ok := ok_of (in_tables_1_3 (List.mem_of_getElem? (i := 183) rfl)) rfl
theorem k_664 : Cond.instanceMethod ⟨"BedFrontier$Clerk", "kindsThatFit", "(I)I"⟩ ∈ lw_ok := ok_of (in_tables_1_3 (List.mem_of_getElem? (i := 184) rfl)) rfl
theorem k_665 : Cond.selects "BedFrontier$Clerk" ⟨"BedFrontier$Clerk", "kindsThatFit", "(I)I"⟩ ⟨"BedFrontier$Clerk", "kindsThatFit", "(I)I"⟩ ∈ lw_ok := ok_of (in_tables_1_3 (List.mem_of_getElem? (i := 185) rfl)) rfl
theorem k_666 : Cond.code ⟨"BedFrontier$Clerk", "kindsThatFit", "(I)I"⟩ prog_3_method_11_code 4 (Option.some FieldType.int) ∈ lw_ok := ok_of (in_tables_1_3 (List.mem_of_getElem? (i := 186) rfl)) rfl
theorem k_667 : Cond.methodLink "BedFrontier$Clerk" 61 ⟨"BedFrontier$Clerk", "fitsNotes", "(II)Z"⟩ ∈ lw_ok := ok_of (in_tables_1_3 (List.mem_of_getElem? (i := 187) rfl)) rfl
theorem k_668 : Cond.instanceMethod ⟨"BedFrontier$Clerk", "fitsNotes", "(II)Z"⟩ ∈ lw_ok := ok_of (in_tables_1_3 (List.mem_of_getElem? (i := 188) rfl)) rfl
theorem k_669 : Cond.selects "BedFrontier$Clerk" ⟨"BedFrontier$Clerk", "fitsNotes", "(II)Z"⟩ ⟨"BedFrontier$Clerk", "fitsNotes", "(II)Z"⟩ ∈ lw_ok := ok_of (in_tables_1_3 (List.mem_of_getElem? (i := 189) rfl)) rfl
theorem k_670 : Cond.code ⟨"BedFrontier$Clerk", "fitsNotes", "(II)Z"⟩ prog_3_method_12_code 7 (Option.some FieldType.boolean) ∈ lw_ok := ok_of (in_tables_1_3 (List.mem_of_getElem? (i := 190) rfl)) rfl
theorem k_671 : Cond.methodLink "BedFrontier$Clerk" 71 ⟨"BedFrontier$House", "priceAs", "(IIIIZ)I"⟩ ∈ lw_ok := ok_of (in_tables_1_3 (List.mem_of_getElem? (i := 191) rfl)) rfl
theorem k_672 : Cond.instanceMethod ⟨"BedFrontier$House", "priceAs", "(IIIIZ)I"⟩ ∈ lw_ok := ok_of (in_tables_1_3 (List.mem_of_getElem? (i := 192) rfl)) rfl
theorem k_673 : Cond.selects "BedFrontier$House" ⟨"BedFrontier$House", "priceAs", "(IIIIZ)I"⟩ ⟨"BedFrontier$House", "priceAs", "(IIIIZ)I"⟩ ∈ lw_ok := ok_of (in_tables_1_3 (List.mem_of_getElem? (i := 193) rfl)) rfl
theorem k_674 : Cond.code ⟨"BedFrontier$House", "priceAs", "(IIIIZ)I"⟩ prog_4_method_11_code 6 (Option.some FieldType.int) ∈ lw_ok := ok_of (in_tables_1_3 (List.mem_of_getElem? (i := 194) rfl)) rfl
theorem k_675 : Cond.methodLink "BedFrontierLaw" 111 ⟨"BedFrontier", "look", "(II)I"⟩ ∈ lw_ok := ok_of (in_tables_1_3 (List.mem_of_getElem? (i := 195) rfl)) rfl
theorem k_676 : Cond.instanceMethod ⟨"BedFrontier", "look", "(II)I"⟩ ∈ lw_ok := ok_of (in_tables_1_3 (List.mem_of_getElem? (i := 196) rfl)) rfl
theorem k_677 : Cond.selects "BedFrontier" ⟨"BedFrontier", "look", "(II)I"⟩ ⟨"BedFrontier", "look", "(II)I"⟩ ∈ lw_ok := ok_of (in_tables_1_3 (List.mem_of_getElem? (i := 197) rfl)) rfl
theorem k_678 : Cond.code ⟨"BedFrontier", "look", "(II)I"⟩ prog_1_method_25_code 3 (Option.some FieldType.int) ∈ lw_ok := ok_of (in_tables_1_3 (List.mem_of_getElem? (i := 198) rfl)) rfl
theorem k_679 : Cond.methodLink "BedFrontier" 206 ⟨"BedFrontier$Clerk", "hourToLook", "(III)I"⟩ ∈ lw_ok := ok_of (in_tables_1_3 (List.mem_of_getElem? (i := 199) rfl)) rfl
theorem k_680 : Cond.instanceMethod ⟨"BedFrontier$Clerk", "hourToLook", "(III)I"⟩ ∈ lw_ok := ok_of (in_tables_1_3 (List.mem_of_getElem? (i := 200) rfl)) rfl
theorem k_681 : Cond.selects "BedFrontier$Clerk" ⟨"BedFrontier$Clerk", "hourToLook", "(III)I"⟩ ⟨"BedFrontier$Clerk", "hourToLook", "(III)I"⟩ ∈ lw_ok := ok_of (in_tables_1_3 (List.mem_of_getElem? (i := 201) rfl)) rfl
theorem k_682 : Cond.code ⟨"BedFrontier$Clerk", "hourToLook", "(III)I"⟩ prog_3_method_13_code 8 (Option.some FieldType.int) ∈ lw_ok := ok_of (in_tables_1_3 (List.mem_of_getElem? (i := 202) rfl)) rfl
theorem k_683 : Cond.methodLink "BedFrontier$Clerk" 75 ⟨"BedFrontier$Clerk", "mostAlike", "(I)I"⟩ ∈ lw_ok := ok_of (in_tables_1_3 (List.mem_of_getElem? (i := 203) rfl)) rfl
theorem k_684 : Cond.instanceMethod ⟨"BedFrontier$Clerk", "mostAlike", "(I)I"⟩ ∈ lw_ok := ok_of (in_tables_1_3 (List.mem_of_getElem? (i := 204) rfl)) rfl
theorem k_685 : Cond.selects "BedFrontier$Clerk" ⟨"BedFrontier$Clerk", "mostAlike", "(I)I"⟩ ⟨"BedFrontier$Clerk", "mostAlike", "(I)I"⟩ ∈ lw_ok := ok_of (in_tables_1_3 (List.mem_of_getElem? (i := 205) rfl)) rfl
theorem k_686 : Cond.code ⟨"BedFrontier$Clerk", "mostAlike", "(I)I"⟩ prog_3_method_14_code 6 (Option.some FieldType.int) ∈ lw_ok := ok_of (in_tables_1_3 (List.mem_of_getElem? (i := 206) rfl)) rfl
theorem k_687 : Cond.methodLink "BedFrontierLaw" 115 ⟨"BedFrontier", "wars", "(II)I"⟩ ∈ lw_ok := ok_of (in_tables_1_3 (List.mem_of_getElem? (i := 207) rfl)) rfl
theorem k_688 : Cond.instanceMethod ⟨"BedFrontier", "wars", "(II)I"⟩ ∈ lw_ok := ok_of (in_tables_1_3 (List.mem_of_getElem? (i := 208) rfl)) rfl
theorem k_689 : Cond.selects "BedFrontier" ⟨"BedFrontier", "wars", "(II)I"⟩ ⟨"BedFrontier", "wars", "(II)I"⟩ ∈ lw_ok := ok_of (in_tables_1_3 (List.mem_of_getElem? (i := 209) rfl)) rfl
theorem k_690 : Cond.code ⟨"BedFrontier", "wars", "(II)I"⟩ prog_1_method_26_code 3 (Option.some FieldType.int) ∈ lw_ok := ok_of (in_tables_1_3 (List.mem_of_getElem? (i := 210) rfl)) rfl
theorem k_691 : Cond.methodLink "BedFrontier" 209 ⟨"BedFrontier$Clerk", "moreInWar", "(II)I"⟩ ∈ lw_ok := ok_of (in_tables_1_3 (List.mem_of_getElem? (i := 211) rfl)) rfl
theorem k_692 : Cond.instanceMethod ⟨"BedFrontier$Clerk", "moreInWar", "(II)I"⟩ ∈ lw_ok := ok_of (in_tables_1_3 (List.mem_of_getElem? (i := 212) rfl)) rfl
theorem k_693 : Cond.selects "BedFrontier$Clerk" ⟨"BedFrontier$Clerk", "moreInWar", "(II)I"⟩ ⟨"BedFrontier$Clerk", "moreInWar", "(II)I"⟩ ∈ lw_ok := ok_of (in_tables_1_3 (List.mem_of_getElem? (i := 213) rfl)) rfl
theorem k_694 : Cond.code ⟨"BedFrontier$Clerk", "moreInWar", "(II)I"⟩ prog_3_method_15_code 7 (Option.some FieldType.int) ∈ lw_ok := ok_of (in_tables_1_3 (List.mem_of_getElem? (i := 214) rfl)) rfl
theorem k_695 : Cond.methodLinkNest "BedFrontier$Clerk" 78 ⟨"BedFrontier", "ownHour", "(II)I"⟩ "BedFrontier" ∈ lw_tbl := in_tables_1_3 (List.mem_of_getElem? (i := 215) rfl)
theorem k_696 : Cond.methodLink "BedFrontierLaw" 119 ⟨"BedFrontier", "sentry", "(II)I"⟩ ∈ lw_ok := ok_of (in_tables_1_3 (List.mem_of_getElem? (i := 216) rfl)) rfl
theorem k_697 : Cond.instanceMethod ⟨"BedFrontier", "sentry", "(II)I"⟩ ∈ lw_ok := ok_of (in_tables_1_3 (List.mem_of_getElem? (i := 217) rfl)) rfl
theorem k_698 : Cond.selects "BedFrontier" ⟨"BedFrontier", "sentry", "(II)I"⟩ ⟨"BedFrontier", "sentry", "(II)I"⟩ ∈ lw_ok := ok_of (in_tables_1_3 (List.mem_of_getElem? (i := 218) rfl)) rfl
theorem k_699 : Cond.code ⟨"BedFrontier", "sentry", "(II)I"⟩ prog_1_method_27_code 3 (Option.some FieldType.int) ∈ lw_ok := ok_of (in_tables_1_3 (List.mem_of_getElem? (i := 219) rfl)) rfl
theorem k_700 : Cond.methodLink "BedFrontier" 212 ⟨"BedFrontier$Clerk", "hundredthsShut", "(II)I"⟩ ∈ lw_ok := ok_of (in_tables_1_3 (List.mem_of_getElem? (i := 220) rfl)) rfl
theorem k_701 : Cond.instanceMethod ⟨"BedFrontier$Clerk", "hundredthsShut", "(II)I"⟩ ∈ lw_ok := ok_of (in_tables_1_3 (List.mem_of_getElem? (i := 221) rfl)) rfl
theorem k_702 : Cond.selects "BedFrontier$Clerk" ⟨"BedFrontier$Clerk", "hundredthsShut", "(II)I"⟩ ⟨"BedFrontier$Clerk", "hundredthsShut", "(II)I"⟩ ∈ lw_ok := ok_of (in_tables_1_3 (List.mem_of_getElem? (i := 222) rfl)) rfl
theorem k_703 : Cond.code ⟨"BedFrontier$Clerk", "hundredthsShut", "(II)I"⟩ prog_3_method_16_code 3 (Option.some FieldType.int) ∈ lw_ok := ok_of (in_tables_1_3 (List.mem_of_getElem? (i := 223) rfl)) rfl
theorem k_704 : Cond.methodLink "BedFrontier$Clerk" 87 ⟨"BedFrontier$Clerk", "tenthsShut", "(III)I"⟩ ∈ lw_ok := ok_of (in_tables_1_3 (List.mem_of_getElem? (i := 224) rfl)) rfl
theorem k_705 : Cond.instanceMethod ⟨"BedFrontier$Clerk", "tenthsShut", "(III)I"⟩ ∈ lw_ok := ok_of (in_tables_1_3 (List.mem_of_getElem? (i := 225) rfl)) rfl
theorem k_706 : Cond.selects "BedFrontier$Clerk" ⟨"BedFrontier$Clerk", "tenthsShut", "(III)I"⟩ ⟨"BedFrontier$Clerk", "tenthsShut", "(III)I"⟩ ∈ lw_ok := ok_of (in_tables_1_3 (List.mem_of_getElem? (i := 226) rfl)) rfl
theorem k_707 : Cond.code ⟨"BedFrontier$Clerk", "tenthsShut", "(III)I"⟩ prog_3_method_17_code 4 (Option.some FieldType.int) ∈ lw_ok := ok_of (in_tables_1_3 (List.mem_of_getElem? (i := 227) rfl)) rfl
theorem k_708 : Cond.methodLink "BedFrontier$Clerk" 90 ⟨"BedFrontier$House", "isBarred", "(II)Z"⟩ ∈ lw_ok := ok_of (in_tables_1_3 (List.mem_of_getElem? (i := 228) rfl)) rfl
theorem k_709 : Cond.methodLink "BedFrontierLaw" 123 ⟨"BedFrontier", "days", "(II)I"⟩ ∈ lw_ok := ok_of (in_tables_1_3 (List.mem_of_getElem? (i := 229) rfl)) rfl
theorem k_710 : Cond.instanceMethod ⟨"BedFrontier", "days", "(II)I"⟩ ∈ lw_ok := ok_of (in_tables_1_3 (List.mem_of_getElem? (i := 230) rfl)) rfl
theorem k_711 : Cond.selects "BedFrontier" ⟨"BedFrontier", "days", "(II)I"⟩ ⟨"BedFrontier", "days", "(II)I"⟩ ∈ lw_ok := ok_of (in_tables_1_3 (List.mem_of_getElem? (i := 231) rfl)) rfl
theorem k_712 : Cond.code ⟨"BedFrontier", "days", "(II)I"⟩ prog_1_method_28_code 3 (Option.some FieldType.int) ∈ lw_ok := ok_of (in_tables_1_3 (List.mem_of_getElem? (i := 232) rfl)) rfl
theorem k_713 : Cond.constant "BedFrontier" 215 (999999 : Int32) ∈ lw_ok := ok_of (in_tables_1_3 (List.mem_of_getElem? (i := 233) rfl)) rfl
theorem k_714 : Cond.methodLink "BedFrontier" 216 ⟨"BedFrontier$Clerk", "paidByChance", "(II)I"⟩ ∈ lw_ok := ok_of (in_tables_1_3 (List.mem_of_getElem? (i := 234) rfl)) rfl
theorem k_715 : Cond.instanceMethod ⟨"BedFrontier$Clerk", "paidByChance", "(II)I"⟩ ∈ lw_ok := ok_of (in_tables_1_3 (List.mem_of_getElem? (i := 235) rfl)) rfl
theorem k_716 : Cond.selects "BedFrontier$Clerk" ⟨"BedFrontier$Clerk", "paidByChance", "(II)I"⟩ ⟨"BedFrontier$Clerk", "paidByChance", "(II)I"⟩ ∈ lw_ok := ok_of (in_tables_1_3 (List.mem_of_getElem? (i := 236) rfl)) rfl
theorem k_717 : Cond.code ⟨"BedFrontier$Clerk", "paidByChance", "(II)I"⟩ prog_3_method_18_code 11 (Option.some FieldType.int) ∈ lw_ok := ok_of (in_tables_1_3 (List.mem_of_getElem? (i := 237) rfl)) rfl
theorem k_718 : Cond.methodLink "BedFrontier$Clerk" 96 ⟨"BedFrontier$Clerk", "nextChance", "(J)J"⟩ ∈ lw_ok := ok_of (in_tables_1_3 (List.mem_of_getElem? (i := 238) rfl)) rfl
theorem k_719 : Cond.static ⟨"BedFrontier$Clerk", "nextChance", "(J)J"⟩ ∈ lw_ok := ok_of (in_tables_1_3 (List.mem_of_getElem? (i := 239) rfl)) rfl
theorem k_720 : Cond.code ⟨"BedFrontier$Clerk", "nextChance", "(J)J"⟩ prog_3_method_19_code 2 (Option.some FieldType.long) ∈ lw_ok := ok_of (in_tables_1_4 (List.mem_of_getElem? (i := 0) rfl)) rfl
theorem k_721 : Cond.constantLong "BedFrontier$Clerk" 107 (1103515245 : Int64) ∈ lw_ok := ok_of (in_tables_1_4 (List.mem_of_getElem? (i := 1) rfl)) rfl
theorem k_722 : Cond.constantLong "BedFrontier$Clerk" 109 (12345 : Int64) ∈ lw_ok := ok_of (in_tables_1_4 (List.mem_of_getElem? (i := 2) rfl)) rfl
theorem k_723 : Cond.constantLong "BedFrontier$Clerk" 111 (2147483648 : Int64) ∈ lw_ok := ok_of (in_tables_1_4 (List.mem_of_getElem? (i := 3) rfl)) rfl
theorem k_724 : Cond.constantLong "BedFrontier$Clerk" 100 (65536 : Int64) ∈ lw_ok := ok_of (in_tables_1_4 (List.mem_of_getElem? (i := 4) rfl)) rfl
theorem k_725 : Cond.constantLong "BedFrontier$Clerk" 102 (2 : Int64) ∈ lw_ok := ok_of (in_tables_1_4 (List.mem_of_getElem? (i := 5) rfl)) rfl
theorem k_726 : Cond.methodLink "BedFrontier$Clerk" 104 ⟨"BedFrontier$House", "tollTo", "(II)I"⟩ ∈ lw_ok := ok_of (in_tables_1_4 (List.mem_of_getElem? (i := 6) rfl)) rfl
theorem k_727 : Cond.methodLink "BedFrontierLaw" 127 ⟨"BedFrontier", "part", "(I)J"⟩ ∈ lw_ok := ok_of (in_tables_1_4 (List.mem_of_getElem? (i := 7) rfl)) rfl
theorem k_728 : Cond.instanceMethod ⟨"BedFrontier", "part", "(I)J"⟩ ∈ lw_ok := ok_of (in_tables_1_4 (List.mem_of_getElem? (i := 8) rfl)) rfl
theorem k_729 : Cond.selects "BedFrontier" ⟨"BedFrontier", "part", "(I)J"⟩ ⟨"BedFrontier", "part", "(I)J"⟩ ∈ lw_ok := ok_of (in_tables_1_4 (List.mem_of_getElem? (i := 9) rfl)) rfl
theorem k_730 : Cond.code ⟨"BedFrontier", "part", "(I)J"⟩ prog_1_method_29_code 2 (Option.some FieldType.long) ∈ lw_ok := ok_of (in_tables_1_4 (List.mem_of_getElem? (i := 10) rfl)) rfl
theorem k_731 : Cond.methodLink "BedFrontierLaw" 132 ⟨"BedFrontier", "image", "(I)I"⟩ ∈ lw_ok := ok_of (in_tables_1_4 (List.mem_of_getElem? (i := 11) rfl)) rfl
theorem k_732 : Cond.instanceMethod ⟨"BedFrontier", "image", "(I)I"⟩ ∈ lw_ok := ok_of (in_tables_1_4 (List.mem_of_getElem? (i := 12) rfl)) rfl
theorem k_733 : Cond.selects "BedFrontier" ⟨"BedFrontier", "image", "(I)I"⟩ ⟨"BedFrontier", "image", "(I)I"⟩ ∈ lw_ok := ok_of (in_tables_1_4 (List.mem_of_getElem? (i := 13) rfl)) rfl
theorem k_734 : Cond.code ⟨"BedFrontier", "image", "(I)I"⟩ prog_1_method_30_code 2 (Option.some FieldType.int) ∈ lw_ok := ok_of (in_tables_1_4 (List.mem_of_getElem? (i := 14) rfl)) rfl
theorem k_735 : Cond.methodLink "BedFrontierLaw" 136 ⟨"BedFrontier", "from", "(I)I"⟩ ∈ lw_ok := ok_of (in_tables_1_4 (List.mem_of_getElem? (i := 15) rfl)) rfl
theorem k_736 : Cond.instanceMethod ⟨"BedFrontier", "from", "(I)I"⟩ ∈ lw_ok := ok_of (in_tables_1_4 (List.mem_of_getElem? (i := 16) rfl)) rfl
theorem k_737 : Cond.selects "BedFrontier" ⟨"BedFrontier", "from", "(I)I"⟩ ⟨"BedFrontier", "from", "(I)I"⟩ ∈ lw_ok := ok_of (in_tables_1_4 (List.mem_of_getElem? (i := 17) rfl)) rfl
theorem k_738 : Cond.code ⟨"BedFrontier", "from", "(I)I"⟩ prog_1_method_31_code 2 (Option.some FieldType.int) ∈ lw_ok := ok_of (in_tables_1_4 (List.mem_of_getElem? (i := 18) rfl)) rfl
theorem k_739 : Cond.methodLink "BedFrontierLaw" 140 ⟨"BedFrontier", "status", "(I)I"⟩ ∈ lw_ok := ok_of (in_tables_1_4 (List.mem_of_getElem? (i := 19) rfl)) rfl
theorem k_740 : Cond.instanceMethod ⟨"BedFrontier", "status", "(I)I"⟩ ∈ lw_ok := ok_of (in_tables_1_4 (List.mem_of_getElem? (i := 20) rfl)) rfl
theorem k_741 : Cond.selects "BedFrontier" ⟨"BedFrontier", "status", "(I)I"⟩ ⟨"BedFrontier", "status", "(I)I"⟩ ∈ lw_ok := ok_of (in_tables_1_4 (List.mem_of_getElem? (i := 21) rfl)) rfl
theorem k_742 : Cond.code ⟨"BedFrontier", "status", "(I)I"⟩ prog_1_method_32_code 2 (Option.some FieldType.int) ∈ lw_ok := ok_of (in_tables_1_4 (List.mem_of_getElem? (i := 22) rfl)) rfl
theorem k_743 : Cond.methodLink "BedFrontierLaw" 144 ⟨"BedFrontier", "count", "(I)I"⟩ ∈ lw_ok := ok_of (in_tables_1_4 (List.mem_of_getElem? (i := 23) rfl)) rfl
theorem k_744 : Cond.instanceMethod ⟨"BedFrontier", "count", "(I)I"⟩ ∈ lw_ok := ok_of (in_tables_1_4 (List.mem_of_getElem? (i := 24) rfl)) rfl
theorem k_745 : Cond.selects "BedFrontier" ⟨"BedFrontier", "count", "(I)I"⟩ ⟨"BedFrontier", "count", "(I)I"⟩ ∈ lw_ok := ok_of (in_tables_1_4 (List.mem_of_getElem? (i := 25) rfl)) rfl
theorem k_746 : Cond.code ⟨"BedFrontier", "count", "(I)I"⟩ prog_1_method_33_code 2 (Option.some FieldType.int) ∈ lw_ok := ok_of (in_tables_1_4 (List.mem_of_getElem? (i := 26) rfl)) rfl
theorem k_747 : Cond.methodLink "BedFrontier" 235 ⟨"BedFrontier", "howMany", "(I)I"⟩ ∈ lw_ok := ok_of (in_tables_1_4 (List.mem_of_getElem? (i := 27) rfl)) rfl
theorem k_748 : Cond.privateMethod ⟨"BedFrontier", "howMany", "(I)I"⟩ ∈ lw_tbl := in_tables_1_4 (List.mem_of_getElem? (i := 28) rfl)
theorem k_749 : Cond.instanceMethod ⟨"BedFrontier", "howMany", "(I)I"⟩ ∈ lw_ok := ok_of (in_tables_1_4 (List.mem_of_getElem? (i := 29) rfl)) rfl
theorem k_750 : Cond.code ⟨"BedFrontier", "howMany", "(I)I"⟩ prog_1_method_35_code 2 (Option.some FieldType.int) ∈ lw_ok := ok_of (in_tables_1_4 (List.mem_of_getElem? (i := 30) rfl)) rfl
theorem k_751 : Cond.methodLink "BedFrontierLaw" 148 ⟨"BedFrontier", "digest", "()J"⟩ ∈ lw_ok := ok_of (in_tables_1_4 (List.mem_of_getElem? (i := 31) rfl)) rfl
theorem k_752 : Cond.instanceMethod ⟨"BedFrontier", "digest", "()J"⟩ ∈ lw_ok := ok_of (in_tables_1_4 (List.mem_of_getElem? (i := 32) rfl)) rfl
theorem k_753 : Cond.selects "BedFrontier" ⟨"BedFrontier", "digest", "()J"⟩ ⟨"BedFrontier", "digest", "()J"⟩ ∈ lw_ok := ok_of (in_tables_1_4 (List.mem_of_getElem? (i := 33) rfl)) rfl
theorem k_754 : Cond.code ⟨"BedFrontier", "digest", "()J"⟩ prog_1_method_34_code 4 (Option.some FieldType.long) ∈ lw_ok := ok_of (in_tables_1_4 (List.mem_of_getElem? (i := 34) rfl)) rfl
theorem k_755 : Cond.constantLong "BedFrontier" 238 (1217 : Int64) ∈ lw_ok := ok_of (in_tables_1_4 (List.mem_of_getElem? (i := 35) rfl)) rfl
theorem k_756 : Cond.constantLong "BedFrontier" 240 (31 : Int64) ∈ lw_ok := ok_of (in_tables_1_4 (List.mem_of_getElem? (i := 36) rfl)) rfl
theorem k_757 : Cond.methodLink "BedFrontier" 242 ⟨"BedFrontier$House", "addedTo", "(J)J"⟩ ∈ lw_ok := ok_of (in_tables_1_4 (List.mem_of_getElem? (i := 37) rfl)) rfl
theorem k_758 : Cond.instanceMethod ⟨"BedFrontier$House", "addedTo", "(J)J"⟩ ∈ lw_ok := ok_of (in_tables_1_4 (List.mem_of_getElem? (i := 38) rfl)) rfl
theorem k_759 : Cond.selects "BedFrontier$House" ⟨"BedFrontier$House", "addedTo", "(J)J"⟩ ⟨"BedFrontier$House", "addedTo", "(J)J"⟩ ∈ lw_ok := ok_of (in_tables_1_4 (List.mem_of_getElem? (i := 39) rfl)) rfl
theorem k_760 : Cond.code ⟨"BedFrontier$House", "addedTo", "(J)J"⟩ prog_4_method_16_code 6 (Option.some FieldType.long) ∈ lw_ok := ok_of (in_tables_1_4 (List.mem_of_getElem? (i := 40) rfl)) rfl
theorem k_761 : Cond.constantLong "BedFrontier$House" 106 (31 : Int64) ∈ lw_ok := ok_of (in_tables_1_4 (List.mem_of_getElem? (i := 41) rfl)) rfl
theorem k_762 : Cond.classLink "BedFrontierLaw" 10 "BedFrontierModel" ∈ lw_ok := ok_of (in_tables_1_4 (List.mem_of_getElem? (i := 42) rfl)) rfl
theorem k_763 : Cond.instantiable "BedFrontierModel" 22 ∈ lw_ok := ok_of (in_tables_1_4 (List.mem_of_getElem? (i := 43) rfl)) rfl
theorem k_764 : Cond.methodLink "BedFrontierLaw" 12 ⟨"BedFrontierModel", "<init>", "()V"⟩ ∈ lw_ok := ok_of (in_tables_1_4 (List.mem_of_getElem? (i := 44) rfl)) rfl
theorem k_765 : Cond.instanceMethod ⟨"BedFrontierModel", "<init>", "()V"⟩ ∈ lw_ok := ok_of (in_tables_1_4 (List.mem_of_getElem? (i := 45) rfl)) rfl
theorem k_766 : Cond.code ⟨"BedFrontierModel", "<init>", "()V"⟩ prog_13_method_1_code 1 none ∈ lw_ok := ok_of (in_tables_1_4 (List.mem_of_getElem? (i := 46) rfl)) rfl
theorem k_767 : Cond.methodLink "BedFrontierModel" 1 ⟨"java/lang/Object", "<init>", "()V"⟩ ∈ lw_ok := ok_of (in_tables_1_4 (List.mem_of_getElem? (i := 47) rfl)) rfl
theorem k_768 : Cond.methodLink "BedFrontierModel" 48 ⟨"BedFrontierModel", "anew", "(I)V"⟩ ∈ lw_ok := ok_of (in_tables_1_4 (List.mem_of_getElem? (i := 48) rfl)) rfl
theorem k_769 : Cond.privateMethod ⟨"BedFrontierModel", "anew", "(I)V"⟩ ∈ lw_tbl := in_tables_1_4 (List.mem_of_getElem? (i := 49) rfl)
theorem k_770 : Cond.instanceMethod ⟨"BedFrontierModel", "anew", "(I)V"⟩ ∈ lw_ok := ok_of (in_tables_1_4 (List.mem_of_getElem? (i := 50) rfl)) rfl
theorem k_771 : Cond.code ⟨"BedFrontierModel", "anew", "(I)V"⟩ prog_13_method_10_code 3 none ∈ lw_ok := ok_of (in_tables_1_4 (List.mem_of_getElem? (i := 51) rfl)) rfl
theorem k_772 : Cond.fieldLink "BedFrontierModel" 7 "BedFrontierModel" "st" "[I" ∈ lw_ok := ok_of (in_tables_1_4 (List.mem_of_getElem? (i := 52) rfl)) rfl
theorem k_773 : Cond.fieldLink "BedFrontierModel" 196 "BedFrontierModel" "above" "J" ∈ lw_ok := ok_of (in_tables_1_4 (List.mem_of_getElem? (i := 53) rfl)) rfl
theorem k_774 : Cond.fieldLink "BedFrontierModel" 13 "BedFrontierModel" "below" "J" ∈ lw_ok := ok_of (in_tables_1_4 (List.mem_of_getElem? (i := 54) rfl)) rfl
theorem k_775 : Cond.fieldLink "BedFrontierModel" 17 "BedFrontierModel" "refused" "[I" ∈ lw_ok := ok_of (in_tables_1_4 (List.mem_of_getElem? (i := 55) rfl)) rfl
theorem k_776 : Cond.fieldLink "BedFrontierModel" 20 "BedFrontierModel" "text" "[I" ∈ lw_ok := ok_of (in_tables_1_4 (List.mem_of_getElem? (i := 56) rfl)) rfl
theorem k_777 : Cond.fieldLink "BedFrontierModel" 87 "BedFrontierModel" "bytes" "I" ∈ lw_ok := ok_of (in_tables_1_4 (List.mem_of_getElem? (i := 57) rfl)) rfl
theorem k_778 : Cond.fieldLink "BedFrontierModel" 90 "BedFrontierModel" "place" "I" ∈ lw_ok := ok_of (in_tables_1_4 (List.mem_of_getElem? (i := 58) rfl)) rfl
theorem k_779 : Cond.fieldLink "BedFrontierModel" 103 "BedFrontierModel" "token" "I" ∈ lw_ok := ok_of (in_tables_1_4 (List.mem_of_getElem? (i := 59) rfl)) rfl
theorem k_780 : Cond.fieldLink "BedFrontierModel" 100 "BedFrontierModel" "value" "I" ∈ lw_ok := ok_of (in_tables_1_4 (List.mem_of_getElem? (i := 60) rfl)) rfl
theorem k_781 : Cond.fieldLink "BedFrontierModel" 97 "BedFrontierModel" "begins" "I" ∈ lw_ok := ok_of (in_tables_1_4 (List.mem_of_getElem? (i := 61) rfl)) rfl
theorem k_782 : Cond.fieldLink "BedFrontierModel" 23 "BedFrontierModel" "row" "[I" ∈ lw_ok := ok_of (in_tables_1_4 (List.mem_of_getElem? (i := 62) rfl)) rfl
theorem k_783 : Cond.fieldLink "BedFrontierModel" 117 "BedFrontierModel" "toldHours" "I" ∈ lw_ok := ok_of (in_tables_1_4 (List.mem_of_getElem? (i := 63) rfl)) rfl
theorem k_784 : Cond.fieldLink "BedFrontierModel" 135 "BedFrontierModel" "toldDoings" "I" ∈ lw_ok := ok_of (in_tables_1_4 (List.mem_of_getElem? (i := 64) rfl)) rfl
theorem k_785 : Cond.fieldLink "BedFrontierModel" 26 "BedFrontierModel" "ahead" "[I" ∈ lw_ok := ok_of (in_tables_1_4 (List.mem_of_getElem? (i := 65) rfl)) rfl
theorem k_786 : Cond.fieldLink "BedFrontierModel" 58 "BedFrontierModel" "undoMany" "I" ∈ lw_ok := ok_of (in_tables_1_4 (List.mem_of_getElem? (i := 66) rfl)) rfl
theorem k_787 : Cond.fieldLink "BedFrontierModel" 29 "BedFrontierModel" "left" "[I" ∈ lw_ok := ok_of (in_tables_1_4 (List.mem_of_getElem? (i := 67) rfl)) rfl
theorem k_788 : Cond.fieldLink "BedFrontierModel" 32 "BedFrontierModel" "aside" "[I" ∈ lw_ok := ok_of (in_tables_1_4 (List.mem_of_getElem? (i := 68) rfl)) rfl
theorem k_789 : Cond.fieldLink "BedFrontierModel" 224 "BedFrontierModel" "drawn" "J" ∈ lw_ok := ok_of (in_tables_1_4 (List.mem_of_getElem? (i := 69) rfl)) rfl
theorem k_790 : Cond.fieldLink "BedFrontierModel" 35 "BedFrontierModel" "isKept" "[Z" ∈ lw_ok := ok_of (in_tables_1_4 (List.mem_of_getElem? (i := 70) rfl)) rfl
theorem k_791 : Cond.fieldLink "BedFrontierModel" 39 "BedFrontierModel" "kept" "[I" ∈ lw_ok := ok_of (in_tables_1_4 (List.mem_of_getElem? (i := 71) rfl)) rfl
theorem k_792 : Cond.fieldLink "BedFrontierModel" 42 "BedFrontierModel" "keptAhead" "[I" ∈ lw_ok := ok_of (in_tables_1_4 (List.mem_of_getElem? (i := 72) rfl)) rfl
theorem k_793 : Cond.fieldLink "BedFrontierModel" 45 "BedFrontierModel" "keptMany" "[I" ∈ lw_ok := ok_of (in_tables_1_4 (List.mem_of_getElem? (i := 73) rfl)) rfl
theorem k_794 : Cond.laysFinal "BedFrontierModel" "BedFrontierModel" "st" "[I" ∈ lw_ok := ok_of (in_tables_1_4 (List.mem_of_getElem? (i := 74) rfl)) rfl
theorem k_795 : Cond.soleField "BedFrontierModel" "st" ∈ lw_ok := ok_of (in_tables_1_4 (List.mem_of_getElem? (i := 75) rfl)) rfl
theorem k_796 : Cond.lays "BedFrontierModel" "BedFrontierModel" "above" "J" ∈ lw_ok := ok_of (in_tables_1_4 (List.mem_of_getElem? (i := 76) rfl)) rfl
theorem k_797 : Cond.soleField "BedFrontierModel" "above" ∈ lw_ok := ok_of (in_tables_1_4 (List.mem_of_getElem? (i := 77) rfl)) rfl
theorem k_798 : Cond.lays "BedFrontierModel" "BedFrontierModel" "below" "J" ∈ lw_ok := ok_of (in_tables_1_4 (List.mem_of_getElem? (i := 78) rfl)) rfl
theorem k_799 : Cond.soleField "BedFrontierModel" "below" ∈ lw_ok := ok_of (in_tables_1_4 (List.mem_of_getElem? (i := 79) rfl)) rfl
theorem k_800 : Cond.laysFinal "BedFrontierModel" "BedFrontierModel" "refused" "[I" ∈ lw_ok := ok_of (in_tables_1_4 (List.mem_of_getElem? (i := 80) rfl)) rfl
theorem k_801 : Cond.soleField "BedFrontierModel" "refused" ∈ lw_ok := ok_of (in_tables_1_4 (List.mem_of_getElem? (i := 81) rfl)) rfl
theorem k_802 : Cond.laysFinal "BedFrontierModel" "BedFrontierModel" "text" "[I" ∈ lw_ok := ok_of (in_tables_1_4 (List.mem_of_getElem? (i := 82) rfl)) rfl
theorem k_803 : Cond.soleField "BedFrontierModel" "text" ∈ lw_ok := ok_of (in_tables_1_4 (List.mem_of_getElem? (i := 83) rfl)) rfl
theorem k_804 : Cond.lays "BedFrontierModel" "BedFrontierModel" "bytes" "I" ∈ lw_ok := ok_of (in_tables_1_4 (List.mem_of_getElem? (i := 84) rfl)) rfl
theorem k_805 : Cond.soleField "BedFrontierModel" "bytes" ∈ lw_ok := ok_of (in_tables_1_4 (List.mem_of_getElem? (i := 85) rfl)) rfl
theorem k_806 : Cond.lays "BedFrontierModel" "BedFrontierModel" "place" "I" ∈ lw_ok := ok_of (in_tables_1_4 (List.mem_of_getElem? (i := 86) rfl)) rfl
theorem k_807 : Cond.soleField "BedFrontierModel" "place" ∈ lw_ok := ok_of (in_tables_1_4 (List.mem_of_getElem? (i := 87) rfl)) rfl
theorem k_808 : Cond.lays "BedFrontierModel" "BedFrontierModel" "token" "I" ∈ lw_ok := ok_of (in_tables_1_4 (List.mem_of_getElem? (i := 88) rfl)) rfl
theorem k_809 : Cond.soleField "BedFrontierModel" "token" ∈ lw_ok := ok_of (in_tables_1_4 (List.mem_of_getElem? (i := 89) rfl)) rfl
theorem k_810 : Cond.lays "BedFrontierModel" "BedFrontierModel" "value" "I" ∈ lw_ok := ok_of (in_tables_1_4 (List.mem_of_getElem? (i := 90) rfl)) rfl
theorem k_811 : Cond.soleField "BedFrontierModel" "value" ∈ lw_ok := ok_of (in_tables_1_4 (List.mem_of_getElem? (i := 91) rfl)) rfl
theorem k_812 : Cond.lays "BedFrontierModel" "BedFrontierModel" "begins" "I" ∈ lw_ok := ok_of (in_tables_1_4 (List.mem_of_getElem? (i := 92) rfl)) rfl
theorem k_813 : Cond.soleField "BedFrontierModel" "begins" ∈ lw_ok := ok_of (in_tables_1_4 (List.mem_of_getElem? (i := 93) rfl)) rfl
theorem k_814 : Cond.laysFinal "BedFrontierModel" "BedFrontierModel" "row" "[I" ∈ lw_ok := ok_of (in_tables_1_4 (List.mem_of_getElem? (i := 94) rfl)) rfl
theorem k_815 : Cond.soleField "BedFrontierModel" "row" ∈ lw_ok := ok_of (in_tables_1_4 (List.mem_of_getElem? (i := 95) rfl)) rfl
theorem k_816 : Cond.lays "BedFrontierModel" "BedFrontierModel" "toldHours" "I" ∈ lw_ok := ok_of (in_tables_1_4 (List.mem_of_getElem? (i := 96) rfl)) rfl
theorem k_817 : Cond.soleField "BedFrontierModel" "toldHours" ∈ lw_ok := ok_of (in_tables_1_4 (List.mem_of_getElem? (i := 97) rfl)) rfl
theorem k_818 : Cond.lays "BedFrontierModel" "BedFrontierModel" "toldDoings" "I" ∈ lw_ok := ok_of (in_tables_1_4 (List.mem_of_getElem? (i := 98) rfl)) rfl
theorem k_819 : Cond.soleField "BedFrontierModel" "toldDoings" ∈ lw_ok := ok_of (in_tables_1_4 (List.mem_of_getElem? (i := 99) rfl)) rfl
theorem k_820 : Cond.laysFinal "BedFrontierModel" "BedFrontierModel" "ahead" "[I" ∈ lw_ok := ok_of (in_tables_1_4 (List.mem_of_getElem? (i := 100) rfl)) rfl
theorem k_821 : Cond.soleField "BedFrontierModel" "ahead" ∈ lw_ok := ok_of (in_tables_1_4 (List.mem_of_getElem? (i := 101) rfl)) rfl
theorem k_822 : Cond.lays "BedFrontierModel" "BedFrontierModel" "undoMany" "I" ∈ lw_ok := ok_of (in_tables_1_4 (List.mem_of_getElem? (i := 102) rfl)) rfl
theorem k_823 : Cond.soleField "BedFrontierModel" "undoMany" ∈ lw_ok := ok_of (in_tables_1_4 (List.mem_of_getElem? (i := 103) rfl)) rfl
theorem k_824 : Cond.laysFinal "BedFrontierModel" "BedFrontierModel" "left" "[I" ∈ lw_ok := ok_of (in_tables_1_4 (List.mem_of_getElem? (i := 104) rfl)) rfl
theorem k_825 : Cond.soleField "BedFrontierModel" "left" ∈ lw_ok := ok_of (in_tables_1_4 (List.mem_of_getElem? (i := 105) rfl)) rfl
theorem k_826 : Cond.laysFinal "BedFrontierModel" "BedFrontierModel" "aside" "[I" ∈ lw_ok := ok_of (in_tables_1_4 (List.mem_of_getElem? (i := 106) rfl)) rfl
theorem k_827 : Cond.soleField "BedFrontierModel" "aside" ∈ lw_ok := ok_of (in_tables_1_4 (List.mem_of_getElem? (i := 107) rfl)) rfl
theorem k_828 : Cond.lays "BedFrontierModel" "BedFrontierModel" "drawn" "J" ∈ lw_ok := ok_of (in_tables_1_4 (List.mem_of_getElem? (i := 108) rfl)) rfl
theorem k_829 : Cond.soleField "BedFrontierModel" "drawn" ∈ lw_ok := ok_of (in_tables_1_4 (List.mem_of_getElem? (i := 109) rfl)) rfl
theorem k_830 : Cond.laysFinal "BedFrontierModel" "BedFrontierModel" "isKept" "[Z" ∈ lw_ok := ok_of (in_tables_1_4 (List.mem_of_getElem? (i := 110) rfl)) rfl
theorem k_831 : Cond.soleField "BedFrontierModel" "isKept" ∈ lw_ok := ok_of (in_tables_1_4 (List.mem_of_getElem? (i := 111) rfl)) rfl
theorem k_832 : Cond.laysFinal "BedFrontierModel" "BedFrontierModel" "kept" "[I" ∈ lw_ok := ok_of (in_tables_1_4 (List.mem_of_getElem? (i := 112) rfl)) rfl
theorem k_833 : Cond.soleField "BedFrontierModel" "kept" ∈ lw_ok := ok_of (in_tables_1_4 (List.mem_of_getElem? (i := 113) rfl)) rfl
theorem k_834 : Cond.laysFinal "BedFrontierModel" "BedFrontierModel" "keptAhead" "[I" ∈ lw_ok := ok_of (in_tables_1_4 (List.mem_of_getElem? (i := 114) rfl)) rfl
theorem k_835 : Cond.soleField "BedFrontierModel" "keptAhead" ∈ lw_ok := ok_of (in_tables_1_4 (List.mem_of_getElem? (i := 115) rfl)) rfl
theorem k_836 : Cond.laysFinal "BedFrontierModel" "BedFrontierModel" "keptMany" "[I" ∈ lw_ok := ok_of (in_tables_1_4 (List.mem_of_getElem? (i := 116) rfl)) rfl
theorem k_837 : Cond.soleField "BedFrontierModel" "keptMany" ∈ lw_ok := ok_of (in_tables_1_4 (List.mem_of_getElem? (i := 117) rfl)) rfl
theorem k_838 : Cond.superclass "BedFrontierModel" "java/lang/Object" ∈ lw_ok := ok_of (in_tables_1_4 (List.mem_of_getElem? (i := 118) rfl)) rfl
theorem k_839 : Cond.arrayClass FieldType.boolean ∈ lw_ok := ok_of (in_tables_1_4 (List.mem_of_getElem? (i := 119) rfl)) rfl
theorem k_840 : Cond.methodLink "BedFrontierLaw" 17 ⟨"BedFrontierModel", "house", "(I)I"⟩ ∈ lw_ok := ok_of (in_tables_1_4 (List.mem_of_getElem? (i := 120) rfl)) rfl
theorem k_841 : Cond.instanceMethod ⟨"BedFrontierModel", "house", "(I)I"⟩ ∈ lw_ok := ok_of (in_tables_1_4 (List.mem_of_getElem? (i := 121) rfl)) rfl
theorem k_842 : Cond.selects "BedFrontierModel" ⟨"BedFrontierModel", "house", "(I)I"⟩ ⟨"BedFrontierModel", "house", "(I)I"⟩ ∈ lw_ok := ok_of (in_tables_1_4 (List.mem_of_getElem? (i := 122) rfl)) rfl
theorem k_843 : Cond.code ⟨"BedFrontierModel", "house", "(I)I"⟩ prog_13_method_11_code 3 (Option.some FieldType.int) ∈ lw_ok := ok_of (in_tables_1_4 (List.mem_of_getElem? (i := 123) rfl)) rfl
theorem k_844 : Cond.constantLong "BedFrontierModel" 62 (9 : Int64) ∈ lw_ok := ok_of (in_tables_1_4 (List.mem_of_getElem? (i := 124) rfl)) rfl
theorem k_845 : Cond.methodLink "BedFrontierModel" 52 ⟨"BedFrontierModel", "in", "(JJJ)Z"⟩ ∈ lw_ok := ok_of (in_tables_1_4 (List.mem_of_getElem? (i := 125) rfl)) rfl
theorem k_846 : Cond.static ⟨"BedFrontierModel", "in", "(JJJ)Z"⟩ ∈ lw_ok := ok_of (in_tables_1_4 (List.mem_of_getElem? (i := 126) rfl)) rfl
theorem k_847 : Cond.code ⟨"BedFrontierModel", "in", "(JJJ)Z"⟩ prog_13_method_2_code 6 (Option.some FieldType.boolean) ∈ lw_ok := ok_of (in_tables_1_4 (List.mem_of_getElem? (i := 127) rfl)) rfl
theorem k_848 : Cond.methodLink "BedFrontierModel" 64 ⟨"BedFrontierModel", "bad", "()I"⟩ ∈ lw_ok := ok_of (in_tables_1_4 (List.mem_of_getElem? (i := 128) rfl)) rfl
theorem k_849 : Cond.privateMethod ⟨"BedFrontierModel", "bad", "()I"⟩ ∈ lw_tbl := in_tables_1_4 (List.mem_of_getElem? (i := 129) rfl)
theorem k_850 : Cond.instanceMethod ⟨"BedFrontierModel", "bad", "()I"⟩ ∈ lw_ok := ok_of (in_tables_1_4 (List.mem_of_getElem? (i := 130) rfl)) rfl
theorem k_851 : Cond.code ⟨"BedFrontierModel", "bad", "()I"⟩ prog_13_method_4_code 1 (Option.some FieldType.int) ∈ lw_ok := ok_of (in_tables_1_4 (List.mem_of_getElem? (i := 131) rfl)) rfl
theorem k_852 : Cond.methodLink "BedFrontierLaw" 22 ⟨"BedFrontierModel", "rate", "(II)I"⟩ ∈ lw_ok := ok_of (in_tables_1_4 (List.mem_of_getElem? (i := 132) rfl)) rfl
theorem k_853 : Cond.instanceMethod ⟨"BedFrontierModel", "rate", "(II)I"⟩ ∈ lw_ok := ok_of (in_tables_1_4 (List.mem_of_getElem? (i := 133) rfl)) rfl
theorem k_854 : Cond.selects "BedFrontierModel" ⟨"BedFrontierModel", "rate", "(II)I"⟩ ⟨"BedFrontierModel", "rate", "(II)I"⟩ ∈ lw_ok := ok_of (in_tables_1_4 (List.mem_of_getElem? (i := 134) rfl)) rfl
theorem k_855 : Cond.code ⟨"BedFrontierModel", "rate", "(II)I"⟩ prog_13_method_12_code 4 (Option.some FieldType.int) ∈ lw_ok := ok_of (in_tables_1_4 (List.mem_of_getElem? (i := 135) rfl)) rfl
theorem k_856 : Cond.methodLink "BedFrontierModel" 68 ⟨"BedFrontierModel", "isSide", "(I)Z"⟩ ∈ lw_ok := ok_of (in_tables_1_4 (List.mem_of_getElem? (i := 136) rfl)) rfl
theorem k_857 : Cond.static ⟨"BedFrontierModel", "isSide", "(I)Z"⟩ ∈ lw_ok := ok_of (in_tables_1_4 (List.mem_of_getElem? (i := 137) rfl)) rfl
theorem k_858 : Cond.code ⟨"BedFrontierModel", "isSide", "(I)Z"⟩ prog_13_method_8_code 1 (Option.some FieldType.boolean) ∈ lw_ok := ok_of (in_tables_1_4 (List.mem_of_getElem? (i := 138) rfl)) rfl
theorem k_859 : Cond.methodLink "BedFrontierLaw" 26 ⟨"BedFrontierModel", "bar", "(II)I"⟩ ∈ lw_ok := ok_of (in_tables_1_4 (List.mem_of_getElem? (i := 139) rfl)) rfl
theorem k_860 : Cond.instanceMethod ⟨"BedFrontierModel", "bar", "(II)I"⟩ ∈ lw_ok := ok_of (in_tables_1_4 (List.mem_of_getElem? (i := 140) rfl)) rfl
theorem k_861 : Cond.selects "BedFrontierModel" ⟨"BedFrontierModel", "bar", "(II)I"⟩ ⟨"BedFrontierModel", "bar", "(II)I"⟩ ∈ lw_ok := ok_of (in_tables_1_4 (List.mem_of_getElem? (i := 141) rfl)) rfl
theorem k_862 : Cond.code ⟨"BedFrontierModel", "bar", "(II)I"⟩ prog_13_method_13_code 4 (Option.some FieldType.int) ∈ lw_ok := ok_of (in_tables_1_4 (List.mem_of_getElem? (i := 142) rfl)) rfl
theorem k_863 : Cond.constantLong "BedFrontierModel" 72 (16777215 : Int64) ∈ lw_ok := ok_of (in_tables_1_4 (List.mem_of_getElem? (i := 143) rfl)) rfl
theorem k_864 : Cond.methodLink "BedFrontierLaw" 30 ⟨"BedFrontierModel", "doing", "(II)I"⟩ ∈ lw_ok := ok_of (in_tables_1_4 (List.mem_of_getElem? (i := 144) rfl)) rfl
theorem k_865 : Cond.instanceMethod ⟨"BedFrontierModel", "doing", "(II)I"⟩ ∈ lw_ok := ok_of (in_tables_1_4 (List.mem_of_getElem? (i := 145) rfl)) rfl
theorem k_866 : Cond.selects "BedFrontierModel" ⟨"BedFrontierModel", "doing", "(II)I"⟩ ⟨"BedFrontierModel", "doing", "(II)I"⟩ ∈ lw_ok := ok_of (in_tables_1_4 (List.mem_of_getElem? (i := 146) rfl)) rfl
theorem k_867 : Cond.code ⟨"BedFrontierModel", "doing", "(II)I"⟩ prog_13_method_15_code 3 (Option.some FieldType.int) ∈ lw_ok := ok_of (in_tables_1_4 (List.mem_of_getElem? (i := 147) rfl)) rfl
theorem k_868 : Cond.constantLong "BedFrontierModel" 74 (5 : Int64) ∈ lw_ok := ok_of (in_tables_1_4 (List.mem_of_getElem? (i := 148) rfl)) rfl
theorem k_869 : Cond.constantLong "BedFrontierModel" 76 (20 : Int64) ∈ lw_ok := ok_of (in_tables_1_4 (List.mem_of_getElem? (i := 149) rfl)) rfl
theorem k_870 : Cond.methodLink "BedFrontierModel" 78 ⟨"BedFrontierModel", "full", "()I"⟩ ∈ lw_ok := ok_of (in_tables_1_4 (List.mem_of_getElem? (i := 150) rfl)) rfl
theorem k_871 : Cond.privateMethod ⟨"BedFrontierModel", "full", "()I"⟩ ∈ lw_tbl := in_tables_1_4 (List.mem_of_getElem? (i := 151) rfl)
theorem k_872 : Cond.instanceMethod ⟨"BedFrontierModel", "full", "()I"⟩ ∈ lw_ok := ok_of (in_tables_1_4 (List.mem_of_getElem? (i := 152) rfl)) rfl
theorem k_873 : Cond.code ⟨"BedFrontierModel", "full", "()I"⟩ prog_13_method_6_code 1 (Option.some FieldType.int) ∈ lw_ok := ok_of (in_tables_1_4 (List.mem_of_getElem? (i := 153) rfl)) rfl
theorem k_874 : Cond.methodLink "BedFrontierModel" 81 ⟨"BedFrontierModel", "add", "(II)V"⟩ ∈ lw_ok := ok_of (in_tables_1_4 (List.mem_of_getElem? (i := 154) rfl)) rfl
theorem k_875 : Cond.privateMethod ⟨"BedFrontierModel", "add", "(II)V"⟩ ∈ lw_tbl := in_tables_1_4 (List.mem_of_getElem? (i := 155) rfl)
theorem k_876 : Cond.instanceMethod ⟨"BedFrontierModel", "add", "(II)V"⟩ ∈ lw_ok := ok_of (in_tables_1_4 (List.mem_of_getElem? (i := 156) rfl)) rfl
theorem k_877 : Cond.code ⟨"BedFrontierModel", "add", "(II)V"⟩ prog_13_method_14_code 3 none ∈ lw_ok := ok_of (in_tables_1_4 (List.mem_of_getElem? (i := 157) rfl)) rfl
theorem k_878 : Cond.methodLink "BedFrontierLaw" 34 ⟨"BedFrontierModel", "type", "(I)I"⟩ ∈ lw_ok := ok_of (in_tables_1_4 (List.mem_of_getElem? (i := 158) rfl)) rfl
theorem k_879 : Cond.instanceMethod ⟨"BedFrontierModel", "type", "(I)I"⟩ ∈ lw_ok := ok_of (in_tables_1_4 (List.mem_of_getElem? (i := 159) rfl)) rfl
theorem k_880 : Cond.selects "BedFrontierModel" ⟨"BedFrontierModel", "type", "(I)I"⟩ ⟨"BedFrontierModel", "type", "(I)I"⟩ ∈ lw_ok := ok_of (in_tables_1_4 (List.mem_of_getElem? (i := 160) rfl)) rfl
theorem k_881 : Cond.code ⟨"BedFrontierModel", "type", "(I)I"⟩ prog_13_method_16_code 2 (Option.some FieldType.int) ∈ lw_ok := ok_of (in_tables_1_4 (List.mem_of_getElem? (i := 161) rfl)) rfl
theorem k_882 : Cond.constantLong "BedFrontierModel" 85 (127 : Int64) ∈ lw_ok := ok_of (in_tables_1_4 (List.mem_of_getElem? (i := 162) rfl)) rfl
theorem k_883 : Cond.methodLink "BedFrontierLaw" 39 ⟨"BedFrontierModel", "clear", "()I"⟩ ∈ lw_ok := ok_of (in_tables_1_4 (List.mem_of_getElem? (i := 163) rfl)) rfl
theorem k_884 : Cond.instanceMethod ⟨"BedFrontierModel", "clear", "()I"⟩ ∈ lw_ok := ok_of (in_tables_1_4 (List.mem_of_getElem? (i := 164) rfl)) rfl
theorem k_885 : Cond.selects "BedFrontierModel" ⟨"BedFrontierModel", "clear", "()I"⟩ ⟨"BedFrontierModel", "clear", "()I"⟩ ∈ lw_ok := ok_of (in_tables_1_4 (List.mem_of_getElem? (i := 165) rfl)) rfl
theorem k_886 : Cond.code ⟨"BedFrontierModel", "clear", "()I"⟩ prog_13_method_17_code 2 (Option.some FieldType.int) ∈ lw_ok := ok_of (in_tables_1_4 (List.mem_of_getElem? (i := 166) rfl)) rfl
theorem k_887 : Cond.methodLink "BedFrontierLaw" 43 ⟨"BedFrontierModel", "read", "()I"⟩ ∈ lw_ok := ok_of (in_tables_1_4 (List.mem_of_getElem? (i := 167) rfl)) rfl
theorem k_888 : Cond.instanceMethod ⟨"BedFrontierModel", "read", "()I"⟩ ∈ lw_ok := ok_of (in_tables_1_4 (List.mem_of_getElem? (i := 168) rfl)) rfl
theorem k_889 : Cond.selects "BedFrontierModel" ⟨"BedFrontierModel", "read", "()I"⟩ ⟨"BedFrontierModel", "read", "()I"⟩ ∈ lw_ok := ok_of (in_tables_1_4 (List.mem_of_getElem? (i := 169) rfl)) rfl
theorem k_890 : Cond.code ⟨"BedFrontierModel", "read", "()I"⟩ prog_13_method_26_code 1 (Option.some FieldType.int) ∈ lw_ok := ok_of (in_tables_1_4 (List.mem_of_getElem? (i := 170) rfl)) rfl
theorem k_891 : Cond.methodLink "BedFrontierModel" 142 ⟨"BedFrontierModel", "readText", "(Z)I"⟩ ∈ lw_ok := ok_of (in_tables_1_4 (List.mem_of_getElem? (i := 171) rfl)) rfl
theorem k_892 : Cond.privateMethod ⟨"BedFrontierModel", "readText", "(Z)I"⟩ ∈ lw_tbl := in_tables_1_4 (List.mem_of_getElem? (i := 172) rfl)
theorem k_893 : Cond.instanceMethod ⟨"BedFrontierModel", "readText", "(Z)I"⟩ ∈ lw_ok := ok_of (in_tables_1_4 (List.mem_of_getElem? (i := 173) rfl)) rfl
theorem k_894 : Cond.code ⟨"BedFrontierModel", "readText", "(Z)I"⟩ prog_13_method_25_code 3 (Option.some FieldType.int) ∈ lw_ok := ok_of (in_tables_1_4 (List.mem_of_getElem? (i := 174) rfl)) rfl
theorem k_895 : Cond.methodLink "BedFrontierModel" 114 ⟨"BedFrontierModel", "nextToken", "()V"⟩ ∈ lw_ok := ok_of (in_tables_1_4 (List.mem_of_getElem? (i := 175) rfl)) rfl
theorem k_896 : Cond.privateMethod ⟨"BedFrontierModel", "nextToken", "()V"⟩ ∈ lw_tbl := in_tables_1_4 (List.mem_of_getElem? (i := 176) rfl)
theorem k_897 : Cond.instanceMethod ⟨"BedFrontierModel", "nextToken", "()V"⟩ ∈ lw_ok := ok_of (in_tables_1_4 (List.mem_of_getElem? (i := 177) rfl)) rfl
theorem k_898 : Cond.code ⟨"BedFrontierModel", "nextToken", "()V"⟩ prog_13_method_19_code 1 none ∈ lw_ok := ok_of (in_tables_1_4 (List.mem_of_getElem? (i := 178) rfl)) rfl
theorem k_899 : Cond.methodLink "BedFrontierModel" 93 ⟨"BedFrontierModel", "byteAt", "(I)I"⟩ ∈ lw_ok := ok_of (in_tables_1_4 (List.mem_of_getElem? (i := 179) rfl)) rfl
theorem k_900 : Cond.privateMethod ⟨"BedFrontierModel", "byteAt", "(I)I"⟩ ∈ lw_tbl := in_tables_1_4 (List.mem_of_getElem? (i := 180) rfl)
theorem k_901 : Cond.instanceMethod ⟨"BedFrontierModel", "byteAt", "(I)I"⟩ ∈ lw_ok := ok_of (in_tables_1_4 (List.mem_of_getElem? (i := 181) rfl)) rfl
theorem k_902 : Cond.code ⟨"BedFrontierModel", "byteAt", "(I)I"⟩ prog_13_method_18_code 2 (Option.some FieldType.int) ∈ lw_ok := ok_of (in_tables_1_4 (List.mem_of_getElem? (i := 182) rfl)) rfl
theorem k_903 : Cond.constantLong "BedFrontierModel" 106 (97 : Int64) ∈ lw_ok := ok_of (in_tables_1_4 (List.mem_of_getElem? (i := 183) rfl)) rfl
theorem k_904 : Cond.constantLong "BedFrontierModel" 108 (122 : Int64) ∈ lw_ok := ok_of (in_tables_1_4 (List.mem_of_getElem? (i := 184) rfl)) rfl
theorem k_905 : Cond.constantLong "BedFrontierModel" 110 (48 : Int64) ∈ lw_ok := ok_of (in_tables_1_4 (List.mem_of_getElem? (i := 185) rfl)) rfl
theorem k_906 : Cond.constantLong "BedFrontierModel" 112 (57 : Int64) ∈ lw_ok := ok_of (in_tables_1_4 (List.mem_of_getElem? (i := 186) rfl)) rfl
theorem k_907 : Cond.methodLink "BedFrontierModel" 138 ⟨"BedFrontierModel", "readItem", "(IZ)Z"⟩ ∈ lw_ok := ok_of (in_tables_1_4 (List.mem_of_getElem? (i := 187) rfl)) rfl
theorem k_908 : Cond.privateMethod ⟨"BedFrontierModel", "readItem", "(IZ)Z"⟩ ∈ lw_tbl := in_tables_1_4 (List.mem_of_getElem? (i := 188) rfl)
theorem k_909 : Cond.instanceMethod ⟨"BedFrontierModel", "readItem", "(IZ)Z"⟩ ∈ lw_ok := ok_of (in_tables_1_4 (List.mem_of_getElem? (i := 189) rfl)) rfl
theorem k_910 : Cond.code ⟨"BedFrontierModel", "readItem", "(IZ)Z"⟩ prog_13_method_24_code 4 (Option.some FieldType.boolean) ∈ lw_ok := ok_of (in_tables_1_4 (List.mem_of_getElem? (i := 190) rfl)) rfl
theorem k_911 : Cond.methodLink "BedFrontierModel" 120 ⟨"BedFrontierModel", "isWord", "(IIIII)Z"⟩ ∈ lw_ok := ok_of (in_tables_1_4 (List.mem_of_getElem? (i := 191) rfl)) rfl
theorem k_912 : Cond.privateMethod ⟨"BedFrontierModel", "isWord", "(IIIII)Z"⟩ ∈ lw_tbl := in_tables_1_4 (List.mem_of_getElem? (i := 192) rfl)
theorem k_913 : Cond.instanceMethod ⟨"BedFrontierModel", "isWord", "(IIIII)Z"⟩ ∈ lw_ok := ok_of (in_tables_1_4 (List.mem_of_getElem? (i := 193) rfl)) rfl
theorem k_914 : Cond.code ⟨"BedFrontierModel", "isWord", "(IIIII)Z"⟩ prog_13_method_20_code 8 (Option.some FieldType.boolean) ∈ lw_ok := ok_of (in_tables_1_4 (List.mem_of_getElem? (i := 194) rfl)) rfl
theorem k_915 : Cond.methodLink "BedFrontierModel" 124 ⟨"BedFrontierModel", "reads", "(II)Z"⟩ ∈ lw_ok := ok_of (in_tables_1_4 (List.mem_of_getElem? (i := 195) rfl)) rfl
theorem k_916 : Cond.privateMethod ⟨"BedFrontierModel", "reads", "(II)Z"⟩ ∈ lw_tbl := in_tables_1_4 (List.mem_of_getElem? (i := 196) rfl)
theorem k_917 : Cond.instanceMethod ⟨"BedFrontierModel", "reads", "(II)Z"⟩ ∈ lw_ok := ok_of (in_tables_1_4 (List.mem_of_getElem? (i := 197) rfl)) rfl
theorem k_918 : Cond.code ⟨"BedFrontierModel", "reads", "(II)Z"⟩ prog_13_method_21_code 3 (Option.some FieldType.boolean) ∈ lw_ok := ok_of (in_tables_1_4 (List.mem_of_getElem? (i := 198) rfl)) rfl
theorem k_919 : Cond.methodLink "BedFrontierModel" 128 ⟨"BedFrontierModel", "ends", "()Z"⟩ ∈ lw_ok := ok_of (in_tables_1_4 (List.mem_of_getElem? (i := 199) rfl)) rfl
theorem k_920 : Cond.privateMethod ⟨"BedFrontierModel", "ends", "()Z"⟩ ∈ lw_tbl := in_tables_1_4 (List.mem_of_getElem? (i := 200) rfl)
theorem k_921 : Cond.instanceMethod ⟨"BedFrontierModel", "ends", "()Z"⟩ ∈ lw_ok := ok_of (in_tables_1_4 (List.mem_of_getElem? (i := 201) rfl)) rfl
theorem k_922 : Cond.code ⟨"BedFrontierModel", "ends", "()Z"⟩ prog_13_method_22_code 1 (Option.some FieldType.boolean) ∈ lw_ok := ok_of (in_tables_1_4 (List.mem_of_getElem? (i := 202) rfl)) rfl
theorem k_923 : Cond.methodLink "BedFrontierModel" 132 ⟨"BedFrontierModel", "readHours", "()Z"⟩ ∈ lw_ok := ok_of (in_tables_1_4 (List.mem_of_getElem? (i := 203) rfl)) rfl
theorem k_924 : Cond.privateMethod ⟨"BedFrontierModel", "readHours", "()Z"⟩ ∈ lw_tbl := in_tables_1_4 (List.mem_of_getElem? (i := 204) rfl)
theorem k_925 : Cond.instanceMethod ⟨"BedFrontierModel", "readHours", "()Z"⟩ ∈ lw_ok := ok_of (in_tables_1_4 (List.mem_of_getElem? (i := 205) rfl)) rfl
theorem k_926 : Cond.code ⟨"BedFrontierModel", "readHours", "()Z"⟩ prog_13_method_23_code 1 (Option.some FieldType.boolean) ∈ lw_ok := ok_of (in_tables_1_4 (List.mem_of_getElem? (i := 206) rfl)) rfl
theorem k_927 : Cond.methodLink "BedFrontierLaw" 47 ⟨"BedFrontierModel", "does", "(II)I"⟩ ∈ lw_ok := ok_of (in_tables_1_4 (List.mem_of_getElem? (i := 207) rfl)) rfl
theorem k_928 : Cond.instanceMethod ⟨"BedFrontierModel", "does", "(II)I"⟩ ∈ lw_ok := ok_of (in_tables_1_4 (List.mem_of_getElem? (i := 208) rfl)) rfl
theorem k_929 : Cond.selects "BedFrontierModel" ⟨"BedFrontierModel", "does", "(II)I"⟩ ⟨"BedFrontierModel", "does", "(II)I"⟩ ∈ lw_ok := ok_of (in_tables_1_4 (List.mem_of_getElem? (i := 209) rfl)) rfl
theorem k_930 : Cond.code ⟨"BedFrontierModel", "does", "(II)I"⟩ prog_13_method_34_code 3 (Option.some FieldType.int) ∈ lw_ok := ok_of (in_tables_1_4 (List.mem_of_getElem? (i := 210) rfl)) rfl
theorem k_931 : Cond.methodLink "BedFrontierModel" 164 ⟨"BedFrontierModel", "isDoing", "(I)Z"⟩ ∈ lw_ok := ok_of (in_tables_1_4 (List.mem_of_getElem? (i := 211) rfl)) rfl
theorem k_932 : Cond.privateMethod ⟨"BedFrontierModel", "isDoing", "(I)Z"⟩ ∈ lw_tbl := in_tables_1_4 (List.mem_of_getElem? (i := 212) rfl)
theorem k_933 : Cond.instanceMethod ⟨"BedFrontierModel", "isDoing", "(I)Z"⟩ ∈ lw_ok := ok_of (in_tables_1_4 (List.mem_of_getElem? (i := 213) rfl)) rfl
theorem k_934 : Cond.code ⟨"BedFrontierModel", "isDoing", "(I)Z"⟩ prog_13_method_7_code 2 (Option.some FieldType.boolean) ∈ lw_ok := ok_of (in_tables_1_4 (List.mem_of_getElem? (i := 214) rfl)) rfl
theorem k_935 : Cond.methodLink "BedFrontierModel" 167 ⟨"BedFrontierModel", "isThrough", "(III)Z"⟩ ∈ lw_ok := ok_of (in_tables_1_4 (List.mem_of_getElem? (i := 215) rfl)) rfl
theorem k_936 : Cond.privateMethod ⟨"BedFrontierModel", "isThrough", "(III)Z"⟩ ∈ lw_tbl := in_tables_1_4 (List.mem_of_getElem? (i := 216) rfl)
theorem k_937 : Cond.instanceMethod ⟨"BedFrontierModel", "isThrough", "(III)Z"⟩ ∈ lw_ok := ok_of (in_tables_1_4 (List.mem_of_getElem? (i := 217) rfl)) rfl
theorem k_938 : Cond.code ⟨"BedFrontierModel", "isThrough", "(III)Z"⟩ prog_13_method_30_code 5 (Option.some FieldType.boolean) ∈ lw_ok := ok_of (in_tables_1_4 (List.mem_of_getElem? (i := 218) rfl)) rfl
theorem k_939 : Cond.methodLink "BedFrontierModel" 146 ⟨"BedFrontierModel", "clockOf", "(II)I"⟩ ∈ lw_ok := ok_of (in_tables_1_4 (List.mem_of_getElem? (i := 219) rfl)) rfl
theorem k_940 : Cond.static ⟨"BedFrontierModel", "clockOf", "(II)I"⟩ ∈ lw_ok := ok_of (in_tables_1_4 (List.mem_of_getElem? (i := 220) rfl)) rfl
theorem k_941 : Cond.code ⟨"BedFrontierModel", "clockOf", "(II)I"⟩ prog_13_method_27_code 2 (Option.some FieldType.int) ∈ lw_ok := ok_of (in_tables_1_4 (List.mem_of_getElem? (i := 221) rfl)) rfl
theorem k_942 : Cond.methodLink "BedFrontierModel" 150 ⟨"BedFrontierModel", "has", "(II)Z"⟩ ∈ lw_ok := ok_of (in_tables_1_4 (List.mem_of_getElem? (i := 222) rfl)) rfl
theorem k_943 : Cond.static ⟨"BedFrontierModel", "has", "(II)Z"⟩ ∈ lw_ok := ok_of (in_tables_1_4 (List.mem_of_getElem? (i := 223) rfl)) rfl
theorem k_944 : Cond.code ⟨"BedFrontierModel", "has", "(II)Z"⟩ prog_13_method_3_code 2 (Option.some FieldType.boolean) ∈ lw_ok := ok_of (in_tables_1_4 (List.mem_of_getElem? (i := 224) rfl)) rfl
theorem k_945 : Cond.methodLink "BedFrontierModel" 153 ⟨"BedFrontierModel", "passes", "(II)Z"⟩ ∈ lw_ok := ok_of (in_tables_1_4 (List.mem_of_getElem? (i := 225) rfl)) rfl
theorem k_946 : Cond.privateMethod ⟨"BedFrontierModel", "passes", "(II)Z"⟩ ∈ lw_tbl := in_tables_1_4 (List.mem_of_getElem? (i := 226) rfl)
theorem k_947 : Cond.instanceMethod ⟨"BedFrontierModel", "passes", "(II)Z"⟩ ∈ lw_ok := ok_of (in_tables_1_4 (List.mem_of_getElem? (i := 227) rfl)) rfl
theorem k_948 : Cond.code ⟨"BedFrontierModel", "passes", "(II)Z"⟩ prog_13_method_29_code 4 (Option.some FieldType.boolean) ∈ lw_ok := ok_of (in_tables_1_4 (List.mem_of_getElem? (i := 228) rfl)) rfl
theorem k_949 : Cond.methodLink "BedFrontierModel" 171 ⟨"BedFrontierModel", "no", "()I"⟩ ∈ lw_ok := ok_of (in_tables_1_4 (List.mem_of_getElem? (i := 229) rfl)) rfl
theorem k_950 : Cond.privateMethod ⟨"BedFrontierModel", "no", "()I"⟩ ∈ lw_tbl := in_tables_1_4 (List.mem_of_getElem? (i := 230) rfl)
theorem k_951 : Cond.instanceMethod ⟨"BedFrontierModel", "no", "()I"⟩ ∈ lw_ok := ok_of (in_tables_1_4 (List.mem_of_getElem? (i := 231) rfl)) rfl
theorem k_952 : Cond.code ⟨"BedFrontierModel", "no", "()I"⟩ prog_13_method_5_code 1 (Option.some FieldType.int) ∈ lw_ok := ok_of (in_tables_1_4 (List.mem_of_getElem? (i := 232) rfl)) rfl
theorem k_953 : Cond.methodLink "BedFrontierModel" 174 ⟨"BedFrontierModel", "noteStep", "()V"⟩ ∈ lw_ok := ok_of (in_tables_1_4 (List.mem_of_getElem? (i := 233) rfl)) rfl
theorem k_954 : Cond.privateMethod ⟨"BedFrontierModel", "noteStep", "()V"⟩ ∈ lw_tbl := in_tables_1_4 (List.mem_of_getElem? (i := 234) rfl)
theorem k_955 : Cond.instanceMethod ⟨"BedFrontierModel", "noteStep", "()V"⟩ ∈ lw_ok := ok_of (in_tables_1_4 (List.mem_of_getElem? (i := 235) rfl)) rfl
theorem k_956 : Cond.code ⟨"BedFrontierModel", "noteStep", "()V"⟩ prog_13_method_32_code 2 none ∈ lw_ok := ok_of (in_tables_1_4 (List.mem_of_getElem? (i := 236) rfl)) rfl
theorem k_957 : Cond.methodLink "BedFrontierModel" 177 ⟨"BedFrontierModel", "isDone", "(II)I"⟩ ∈ lw_ok := ok_of (in_tables_1_4 (List.mem_of_getElem? (i := 237) rfl)) rfl
theorem k_958 : Cond.privateMethod ⟨"BedFrontierModel", "isDone", "(II)I"⟩ ∈ lw_tbl := in_tables_1_4 (List.mem_of_getElem? (i := 238) rfl)
theorem k_959 : Cond.instanceMethod ⟨"BedFrontierModel", "isDone", "(II)I"⟩ ∈ lw_ok := ok_of (in_tables_1_4 (List.mem_of_getElem? (i := 239) rfl)) rfl
theorem k_960 : Cond.code ⟨"BedFrontierModel", "isDone", "(II)I"⟩ prog_13_method_33_code 4 (Option.some FieldType.int) ∈ lw_ok := ok_of (in_tables_1_5 (List.mem_of_getElem? (i := 0) rfl)) rfl
theorem k_961 : Cond.methodLink "BedFrontierModel" 160 ⟨"BedFrontierModel", "dueIn", "(III)I"⟩ ∈ lw_ok := ok_of (in_tables_1_5 (List.mem_of_getElem? (i := 1) rfl)) rfl
theorem k_962 : Cond.privateMethod ⟨"BedFrontierModel", "dueIn", "(III)I"⟩ ∈ lw_tbl := in_tables_1_5 (List.mem_of_getElem? (i := 2) rfl)
theorem k_963 : Cond.instanceMethod ⟨"BedFrontierModel", "dueIn", "(III)I"⟩ ∈ lw_ok := ok_of (in_tables_1_5 (List.mem_of_getElem? (i := 3) rfl)) rfl
theorem k_964 : Cond.code ⟨"BedFrontierModel", "dueIn", "(III)I"⟩ prog_13_method_31_code 4 (Option.some FieldType.int) ∈ lw_ok := ok_of (in_tables_1_5 (List.mem_of_getElem? (i := 4) rfl)) rfl
theorem k_965 : Cond.methodLink "BedFrontierModel" 156 ⟨"BedFrontierModel", "dueBy", "(IIIII)I"⟩ ∈ lw_ok := ok_of (in_tables_1_5 (List.mem_of_getElem? (i := 5) rfl)) rfl
theorem k_966 : Cond.privateMethod ⟨"BedFrontierModel", "dueBy", "(IIIII)I"⟩ ∈ lw_tbl := in_tables_1_5 (List.mem_of_getElem? (i := 6) rfl)
theorem k_967 : Cond.instanceMethod ⟨"BedFrontierModel", "dueBy", "(IIIII)I"⟩ ∈ lw_ok := ok_of (in_tables_1_5 (List.mem_of_getElem? (i := 7) rfl)) rfl
theorem k_968 : Cond.code ⟨"BedFrontierModel", "dueBy", "(IIIII)I"⟩ prog_13_method_28_code 8 (Option.some FieldType.int) ∈ lw_ok := ok_of (in_tables_1_5 (List.mem_of_getElem? (i := 8) rfl)) rfl
theorem k_969 : Cond.methodLink "BedFrontierLaw" 51 ⟨"BedFrontierModel", "waits", "(I)I"⟩ ∈ lw_ok := ok_of (in_tables_1_5 (List.mem_of_getElem? (i := 9) rfl)) rfl
theorem k_970 : Cond.instanceMethod ⟨"BedFrontierModel", "waits", "(I)I"⟩ ∈ lw_ok := ok_of (in_tables_1_5 (List.mem_of_getElem? (i := 10) rfl)) rfl
theorem k_971 : Cond.selects "BedFrontierModel" ⟨"BedFrontierModel", "waits", "(I)I"⟩ ⟨"BedFrontierModel", "waits", "(I)I"⟩ ∈ lw_ok := ok_of (in_tables_1_5 (List.mem_of_getElem? (i := 11) rfl)) rfl
theorem k_972 : Cond.code ⟨"BedFrontierModel", "waits", "(I)I"⟩ prog_13_method_35_code 2 (Option.some FieldType.int) ∈ lw_ok := ok_of (in_tables_1_5 (List.mem_of_getElem? (i := 12) rfl)) rfl
theorem k_973 : Cond.constantLong "BedFrontierModel" 180 (24 : Int64) ∈ lw_ok := ok_of (in_tables_1_5 (List.mem_of_getElem? (i := 13) rfl)) rfl
theorem k_974 : Cond.methodLink "BedFrontierLaw" 55 ⟨"BedFrontierModel", "war", "(I)I"⟩ ∈ lw_ok := ok_of (in_tables_1_5 (List.mem_of_getElem? (i := 14) rfl)) rfl
theorem k_975 : Cond.instanceMethod ⟨"BedFrontierModel", "war", "(I)I"⟩ ∈ lw_ok := ok_of (in_tables_1_5 (List.mem_of_getElem? (i := 15) rfl)) rfl
theorem k_976 : Cond.selects "BedFrontierModel" ⟨"BedFrontierModel", "war", "(I)I"⟩ ⟨"BedFrontierModel", "war", "(I)I"⟩ ∈ lw_ok := ok_of (in_tables_1_5 (List.mem_of_getElem? (i := 16) rfl)) rfl
theorem k_977 : Cond.code ⟨"BedFrontierModel", "war", "(I)I"⟩ prog_13_method_36_code 3 (Option.some FieldType.int) ∈ lw_ok := ok_of (in_tables_1_5 (List.mem_of_getElem? (i := 17) rfl)) rfl
theorem k_978 : Cond.methodLink "BedFrontierLaw" 59 ⟨"BedFrontierModel", "undo", "()I"⟩ ∈ lw_ok := ok_of (in_tables_1_5 (List.mem_of_getElem? (i := 18) rfl)) rfl
theorem k_979 : Cond.instanceMethod ⟨"BedFrontierModel", "undo", "()I"⟩ ∈ lw_ok := ok_of (in_tables_1_5 (List.mem_of_getElem? (i := 19) rfl)) rfl
theorem k_980 : Cond.selects "BedFrontierModel" ⟨"BedFrontierModel", "undo", "()I"⟩ ⟨"BedFrontierModel", "undo", "()I"⟩ ∈ lw_ok := ok_of (in_tables_1_5 (List.mem_of_getElem? (i := 20) rfl)) rfl
theorem k_981 : Cond.code ⟨"BedFrontierModel", "undo", "()I"⟩ prog_13_method_37_code 2 (Option.some FieldType.int) ∈ lw_ok := ok_of (in_tables_1_5 (List.mem_of_getElem? (i := 21) rfl)) rfl
theorem k_982 : Cond.methodLink "BedFrontierLaw" 63 ⟨"BedFrontierModel", "of", "(II)I"⟩ ∈ lw_ok := ok_of (in_tables_1_5 (List.mem_of_getElem? (i := 22) rfl)) rfl
theorem k_983 : Cond.instanceMethod ⟨"BedFrontierModel", "of", "(II)I"⟩ ∈ lw_ok := ok_of (in_tables_1_5 (List.mem_of_getElem? (i := 23) rfl)) rfl
theorem k_984 : Cond.selects "BedFrontierModel" ⟨"BedFrontierModel", "of", "(II)I"⟩ ⟨"BedFrontierModel", "of", "(II)I"⟩ ∈ lw_ok := ok_of (in_tables_1_5 (List.mem_of_getElem? (i := 24) rfl)) rfl
theorem k_985 : Cond.code ⟨"BedFrontierModel", "of", "(II)I"⟩ prog_13_method_38_code 3 (Option.some FieldType.int) ∈ lw_ok := ok_of (in_tables_1_5 (List.mem_of_getElem? (i := 25) rfl)) rfl
theorem k_986 : Cond.methodLink "BedFrontierLaw" 67 ⟨"BedFrontierModel", "now", "(I)I"⟩ ∈ lw_ok := ok_of (in_tables_1_5 (List.mem_of_getElem? (i := 26) rfl)) rfl
theorem k_987 : Cond.instanceMethod ⟨"BedFrontierModel", "now", "(I)I"⟩ ∈ lw_ok := ok_of (in_tables_1_5 (List.mem_of_getElem? (i := 27) rfl)) rfl
theorem k_988 : Cond.selects "BedFrontierModel" ⟨"BedFrontierModel", "now", "(I)I"⟩ ⟨"BedFrontierModel", "now", "(I)I"⟩ ∈ lw_ok := ok_of (in_tables_1_5 (List.mem_of_getElem? (i := 28) rfl)) rfl
theorem k_989 : Cond.code ⟨"BedFrontierModel", "now", "(I)I"⟩ prog_13_method_39_code 2 (Option.some FieldType.int) ∈ lw_ok := ok_of (in_tables_1_5 (List.mem_of_getElem? (i := 29) rfl)) rfl
theorem k_990 : Cond.constantLong "BedFrontierModel" 182 (3 : Int64) ∈ lw_ok := ok_of (in_tables_1_5 (List.mem_of_getElem? (i := 30) rfl)) rfl
theorem k_991 : Cond.methodLink "BedFrontierLaw" 72 ⟨"BedFrontierModel", "due", "(III)I"⟩ ∈ lw_ok := ok_of (in_tables_1_5 (List.mem_of_getElem? (i := 31) rfl)) rfl
theorem k_992 : Cond.instanceMethod ⟨"BedFrontierModel", "due", "(III)I"⟩ ∈ lw_ok := ok_of (in_tables_1_5 (List.mem_of_getElem? (i := 32) rfl)) rfl
theorem k_993 : Cond.selects "BedFrontierModel" ⟨"BedFrontierModel", "due", "(III)I"⟩ ⟨"BedFrontierModel", "due", "(III)I"⟩ ∈ lw_ok := ok_of (in_tables_1_5 (List.mem_of_getElem? (i := 33) rfl)) rfl
theorem k_994 : Cond.code ⟨"BedFrontierModel", "due", "(III)I"⟩ prog_13_method_40_code 4 (Option.some FieldType.int) ∈ lw_ok := ok_of (in_tables_1_5 (List.mem_of_getElem? (i := 34) rfl)) rfl
theorem k_995 : Cond.methodLink "BedFrontierModel" 184 ⟨"BedFrontierModel", "isHour", "(I)Z"⟩ ∈ lw_ok := ok_of (in_tables_1_5 (List.mem_of_getElem? (i := 35) rfl)) rfl
theorem k_996 : Cond.static ⟨"BedFrontierModel", "isHour", "(I)Z"⟩ ∈ lw_ok := ok_of (in_tables_1_5 (List.mem_of_getElem? (i := 36) rfl)) rfl
theorem k_997 : Cond.code ⟨"BedFrontierModel", "isHour", "(I)Z"⟩ prog_13_method_9_code 1 (Option.some FieldType.boolean) ∈ lw_ok := ok_of (in_tables_1_5 (List.mem_of_getElem? (i := 37) rfl)) rfl
theorem k_998 : Cond.constantLong "BedFrontierModel" 56 (23 : Int64) ∈ lw_ok := ok_of (in_tables_1_5 (List.mem_of_getElem? (i := 38) rfl)) rfl
theorem k_999 : Cond.methodLink "BedFrontierLaw" 76 ⟨"BedFrontierModel", "both", "(II)I"⟩ ∈ lw_ok := ok_of (in_tables_1_5 (List.mem_of_getElem? (i := 39) rfl)) rfl
theorem k_1000 : Cond.instanceMethod ⟨"BedFrontierModel", "both", "(II)I"⟩ ∈ lw_ok := ok_of (in_tables_1_5 (List.mem_of_getElem? (i := 40) rfl)) rfl
theorem k_1001 : Cond.selects "BedFrontierModel" ⟨"BedFrontierModel", "both", "(II)I"⟩ ⟨"BedFrontierModel", "both", "(II)I"⟩ ∈ lw_ok := ok_of (in_tables_1_5 (List.mem_of_getElem? (i := 41) rfl)) rfl
theorem k_1002 : Cond.code ⟨"BedFrontierModel", "both", "(II)I"⟩ prog_13_method_41_code 7 (Option.some FieldType.int) ∈ lw_ok := ok_of (in_tables_1_5 (List.mem_of_getElem? (i := 42) rfl)) rfl
theorem k_1003 : Cond.methodLink "BedFrontierLaw" 80 ⟨"BedFrontierModel", "least", "(I)I"⟩ ∈ lw_ok := ok_of (in_tables_1_5 (List.mem_of_getElem? (i := 43) rfl)) rfl
theorem k_1004 : Cond.instanceMethod ⟨"BedFrontierModel", "least", "(I)I"⟩ ∈ lw_ok := ok_of (in_tables_1_5 (List.mem_of_getElem? (i := 44) rfl)) rfl
theorem k_1005 : Cond.selects "BedFrontierModel" ⟨"BedFrontierModel", "least", "(I)I"⟩ ⟨"BedFrontierModel", "least", "(I)I"⟩ ∈ lw_ok := ok_of (in_tables_1_5 (List.mem_of_getElem? (i := 45) rfl)) rfl
theorem k_1006 : Cond.code ⟨"BedFrontierModel", "least", "(I)I"⟩ prog_13_method_45_code 7 (Option.some FieldType.int) ∈ lw_ok := ok_of (in_tables_1_5 (List.mem_of_getElem? (i := 46) rfl)) rfl
theorem k_1007 : Cond.methodLink "BedFrontierModel" 193 ⟨"BedFrontierModel", "findLeast", "()V"⟩ ∈ lw_ok := ok_of (in_tables_1_5 (List.mem_of_getElem? (i := 47) rfl)) rfl
theorem k_1008 : Cond.privateMethod ⟨"BedFrontierModel", "findLeast", "()V"⟩ ∈ lw_tbl := in_tables_1_5 (List.mem_of_getElem? (i := 48) rfl)
theorem k_1009 : Cond.instanceMethod ⟨"BedFrontierModel", "findLeast", "()V"⟩ ∈ lw_ok := ok_of (in_tables_1_5 (List.mem_of_getElem? (i := 49) rfl)) rfl
theorem k_1010 : Cond.code ⟨"BedFrontierModel", "findLeast", "()V"⟩ prog_13_method_44_code 9 none ∈ lw_ok := ok_of (in_tables_1_5 (List.mem_of_getElem? (i := 50) rfl)) rfl
theorem k_1011 : Cond.methodLink "BedFrontierModel" 187 ⟨"BedFrontierModel", "leftAt", "(III)I"⟩ ∈ lw_ok := ok_of (in_tables_1_5 (List.mem_of_getElem? (i := 51) rfl)) rfl
theorem k_1012 : Cond.privateMethod ⟨"BedFrontierModel", "leftAt", "(III)I"⟩ ∈ lw_tbl := in_tables_1_5 (List.mem_of_getElem? (i := 52) rfl)
theorem k_1013 : Cond.instanceMethod ⟨"BedFrontierModel", "leftAt", "(III)I"⟩ ∈ lw_ok := ok_of (in_tables_1_5 (List.mem_of_getElem? (i := 53) rfl)) rfl
theorem k_1014 : Cond.code ⟨"BedFrontierModel", "leftAt", "(III)I"⟩ prog_13_method_42_code 4 (Option.some FieldType.int) ∈ lw_ok := ok_of (in_tables_1_5 (List.mem_of_getElem? (i := 54) rfl)) rfl
theorem k_1015 : Cond.methodLink "BedFrontierModel" 190 ⟨"BedFrontierModel", "costBy", "(IIIII)I"⟩ ∈ lw_ok := ok_of (in_tables_1_5 (List.mem_of_getElem? (i := 55) rfl)) rfl
theorem k_1016 : Cond.privateMethod ⟨"BedFrontierModel", "costBy", "(IIIII)I"⟩ ∈ lw_tbl := in_tables_1_5 (List.mem_of_getElem? (i := 56) rfl)
theorem k_1017 : Cond.instanceMethod ⟨"BedFrontierModel", "costBy", "(IIIII)I"⟩ ∈ lw_ok := ok_of (in_tables_1_5 (List.mem_of_getElem? (i := 57) rfl)) rfl
theorem k_1018 : Cond.code ⟨"BedFrontierModel", "costBy", "(IIIII)I"⟩ prog_13_method_43_code 6 (Option.some FieldType.int) ∈ lw_ok := ok_of (in_tables_1_5 (List.mem_of_getElem? (i := 58) rfl)) rfl
theorem k_1019 : Cond.methodLink "BedFrontierLaw" 85 ⟨"BedFrontierModel", "before", "(IIII)I"⟩ ∈ lw_ok := ok_of (in_tables_1_5 (List.mem_of_getElem? (i := 59) rfl)) rfl
theorem k_1020 : Cond.instanceMethod ⟨"BedFrontierModel", "before", "(IIII)I"⟩ ∈ lw_ok := ok_of (in_tables_1_5 (List.mem_of_getElem? (i := 60) rfl)) rfl
theorem k_1021 : Cond.selects "BedFrontierModel" ⟨"BedFrontierModel", "before", "(IIII)I"⟩ ⟨"BedFrontierModel", "before", "(IIII)I"⟩ ∈ lw_ok := ok_of (in_tables_1_5 (List.mem_of_getElem? (i := 61) rfl)) rfl
theorem k_1022 : Cond.code ⟨"BedFrontierModel", "before", "(IIII)I"⟩ prog_13_method_46_code 7 (Option.some FieldType.int) ∈ lw_ok := ok_of (in_tables_1_5 (List.mem_of_getElem? (i := 62) rfl)) rfl
theorem k_1023 : Cond.methodLink "BedFrontierLaw" 89 ⟨"BedFrontierModel", "child", "(I)I"⟩ ∈ lw_ok := ok_of (in_tables_1_5 (List.mem_of_getElem? (i := 63) rfl)) rfl
theorem k_1024 : Cond.instanceMethod ⟨"BedFrontierModel", "child", "(I)I"⟩ ∈ lw_ok := ok_of (in_tables_1_5 (List.mem_of_getElem? (i := 64) rfl)) rfl
theorem k_1025 : Cond.selects "BedFrontierModel" ⟨"BedFrontierModel", "child", "(I)I"⟩ ⟨"BedFrontierModel", "child", "(I)I"⟩ ∈ lw_ok := ok_of (in_tables_1_5 (List.mem_of_getElem? (i := 65) rfl)) rfl
theorem k_1026 : Cond.code ⟨"BedFrontierModel", "child", "(I)I"⟩ prog_13_method_49_code 2 (Option.some FieldType.int) ∈ lw_ok := ok_of (in_tables_1_5 (List.mem_of_getElem? (i := 66) rfl)) rfl
theorem k_1027 : Cond.constantLong "BedFrontierModel" 199 (7 : Int64) ∈ lw_ok := ok_of (in_tables_1_5 (List.mem_of_getElem? (i := 67) rfl)) rfl
theorem k_1028 : Cond.methodLink "BedFrontierModel" 201 ⟨"BedFrontierModel", "hersOf", "(I)I"⟩ ∈ lw_ok := ok_of (in_tables_1_5 (List.mem_of_getElem? (i := 68) rfl)) rfl
theorem k_1029 : Cond.static ⟨"BedFrontierModel", "hersOf", "(I)I"⟩ ∈ lw_ok := ok_of (in_tables_1_5 (List.mem_of_getElem? (i := 69) rfl)) rfl
theorem k_1030 : Cond.code ⟨"BedFrontierModel", "hersOf", "(I)I"⟩ prog_13_method_47_code 1 (Option.some FieldType.int) ∈ lw_ok := ok_of (in_tables_1_5 (List.mem_of_getElem? (i := 70) rfl)) rfl
theorem k_1031 : Cond.methodLink "BedFrontierModel" 204 ⟨"BedFrontierModel", "setFraction", "(JJ)V"⟩ ∈ lw_ok := ok_of (in_tables_1_5 (List.mem_of_getElem? (i := 71) rfl)) rfl
theorem k_1032 : Cond.privateMethod ⟨"BedFrontierModel", "setFraction", "(JJ)V"⟩ ∈ lw_tbl := in_tables_1_5 (List.mem_of_getElem? (i := 72) rfl)
theorem k_1033 : Cond.instanceMethod ⟨"BedFrontierModel", "setFraction", "(JJ)V"⟩ ∈ lw_ok := ok_of (in_tables_1_5 (List.mem_of_getElem? (i := 73) rfl)) rfl
theorem k_1034 : Cond.code ⟨"BedFrontierModel", "setFraction", "(JJ)V"⟩ prog_13_method_48_code 11 none ∈ lw_ok := ok_of (in_tables_1_5 (List.mem_of_getElem? (i := 74) rfl)) rfl
theorem k_1035 : Cond.methodLink "BedFrontierLaw" 93 ⟨"BedFrontierModel", "where", "(I)I"⟩ ∈ lw_ok := ok_of (in_tables_1_5 (List.mem_of_getElem? (i := 75) rfl)) rfl
theorem k_1036 : Cond.instanceMethod ⟨"BedFrontierModel", "where", "(I)I"⟩ ∈ lw_ok := ok_of (in_tables_1_5 (List.mem_of_getElem? (i := 76) rfl)) rfl
theorem k_1037 : Cond.selects "BedFrontierModel" ⟨"BedFrontierModel", "where", "(I)I"⟩ ⟨"BedFrontierModel", "where", "(I)I"⟩ ∈ lw_ok := ok_of (in_tables_1_5 (List.mem_of_getElem? (i := 77) rfl)) rfl
theorem k_1038 : Cond.code ⟨"BedFrontierModel", "where", "(I)I"⟩ prog_13_method_50_code 8 (Option.some FieldType.int) ∈ lw_ok := ok_of (in_tables_1_5 (List.mem_of_getElem? (i := 78) rfl)) rfl
theorem k_1039 : Cond.methodLink "BedFrontierLaw" 97 ⟨"BedFrontierModel", "bars", "(I)I"⟩ ∈ lw_ok := ok_of (in_tables_1_5 (List.mem_of_getElem? (i := 79) rfl)) rfl
theorem k_1040 : Cond.instanceMethod ⟨"BedFrontierModel", "bars", "(I)I"⟩ ∈ lw_ok := ok_of (in_tables_1_5 (List.mem_of_getElem? (i := 80) rfl)) rfl
theorem k_1041 : Cond.selects "BedFrontierModel" ⟨"BedFrontierModel", "bars", "(I)I"⟩ ⟨"BedFrontierModel", "bars", "(I)I"⟩ ∈ lw_ok := ok_of (in_tables_1_5 (List.mem_of_getElem? (i := 81) rfl)) rfl
theorem k_1042 : Cond.code ⟨"BedFrontierModel", "bars", "(I)I"⟩ prog_13_method_52_code 5 (Option.some FieldType.int) ∈ lw_ok := ok_of (in_tables_1_5 (List.mem_of_getElem? (i := 82) rfl)) rfl
theorem k_1043 : Cond.methodLink "BedFrontierModel" 208 ⟨"BedFrontierModel", "hasBy", "(III)I"⟩ ∈ lw_ok := ok_of (in_tables_1_5 (List.mem_of_getElem? (i := 83) rfl)) rfl
theorem k_1044 : Cond.privateMethod ⟨"BedFrontierModel", "hasBy", "(III)I"⟩ ∈ lw_tbl := in_tables_1_5 (List.mem_of_getElem? (i := 84) rfl)
theorem k_1045 : Cond.instanceMethod ⟨"BedFrontierModel", "hasBy", "(III)I"⟩ ∈ lw_ok := ok_of (in_tables_1_5 (List.mem_of_getElem? (i := 85) rfl)) rfl
theorem k_1046 : Cond.code ⟨"BedFrontierModel", "hasBy", "(III)I"⟩ prog_13_method_51_code 7 (Option.some FieldType.int) ∈ lw_ok := ok_of (in_tables_1_5 (List.mem_of_getElem? (i := 86) rfl)) rfl
theorem k_1047 : Cond.methodLink "BedFrontierLaw" 102 ⟨"BedFrontierModel", "note", "(IIIII)I"⟩ ∈ lw_ok := ok_of (in_tables_1_5 (List.mem_of_getElem? (i := 87) rfl)) rfl
theorem k_1048 : Cond.instanceMethod ⟨"BedFrontierModel", "note", "(IIIII)I"⟩ ∈ lw_ok := ok_of (in_tables_1_5 (List.mem_of_getElem? (i := 88) rfl)) rfl
theorem k_1049 : Cond.selects "BedFrontierModel" ⟨"BedFrontierModel", "note", "(IIIII)I"⟩ ⟨"BedFrontierModel", "note", "(IIIII)I"⟩ ∈ lw_ok := ok_of (in_tables_1_5 (List.mem_of_getElem? (i := 89) rfl)) rfl
theorem k_1050 : Cond.code ⟨"BedFrontierModel", "note", "(IIIII)I"⟩ prog_13_method_53_code 7 (Option.some FieldType.int) ∈ lw_ok := ok_of (in_tables_1_5 (List.mem_of_getElem? (i := 90) rfl)) rfl
theorem k_1051 : Cond.constantLong "BedFrontierModel" 211 (60 : Int64) ∈ lw_ok := ok_of (in_tables_1_5 (List.mem_of_getElem? (i := 91) rfl)) rfl
theorem k_1052 : Cond.methodLink "BedFrontierLaw" 106 ⟨"BedFrontierModel", "forget", "()I"⟩ ∈ lw_ok := ok_of (in_tables_1_5 (List.mem_of_getElem? (i := 92) rfl)) rfl
theorem k_1053 : Cond.instanceMethod ⟨"BedFrontierModel", "forget", "()I"⟩ ∈ lw_ok := ok_of (in_tables_1_5 (List.mem_of_getElem? (i := 93) rfl)) rfl
theorem k_1054 : Cond.selects "BedFrontierModel" ⟨"BedFrontierModel", "forget", "()I"⟩ ⟨"BedFrontierModel", "forget", "()I"⟩ ∈ lw_ok := ok_of (in_tables_1_5 (List.mem_of_getElem? (i := 94) rfl)) rfl
theorem k_1055 : Cond.code ⟨"BedFrontierModel", "forget", "()I"⟩ prog_13_method_54_code 2 (Option.some FieldType.int) ∈ lw_ok := ok_of (in_tables_1_5 (List.mem_of_getElem? (i := 95) rfl)) rfl
theorem k_1056 : Cond.methodLink "BedFrontierLaw" 110 ⟨"BedFrontierModel", "is", "(I)I"⟩ ∈ lw_ok := ok_of (in_tables_1_5 (List.mem_of_getElem? (i := 96) rfl)) rfl
theorem k_1057 : Cond.instanceMethod ⟨"BedFrontierModel", "is", "(I)I"⟩ ∈ lw_ok := ok_of (in_tables_1_5 (List.mem_of_getElem? (i := 97) rfl)) rfl
theorem k_1058 : Cond.selects "BedFrontierModel" ⟨"BedFrontierModel", "is", "(I)I"⟩ ⟨"BedFrontierModel", "is", "(I)I"⟩ ∈ lw_ok := ok_of (in_tables_1_5 (List.mem_of_getElem? (i := 98) rfl)) rfl
theorem k_1059 : Cond.code ⟨"BedFrontierModel", "is", "(I)I"⟩ prog_13_method_56_code 2 (Option.some FieldType.int) ∈ lw_ok := ok_of (in_tables_1_5 (List.mem_of_getElem? (i := 99) rfl)) rfl
theorem k_1060 : Cond.methodLink "BedFrontierModel" 213 ⟨"BedFrontierModel", "kindsOf", "(I)I"⟩ ∈ lw_ok := ok_of (in_tables_1_5 (List.mem_of_getElem? (i := 100) rfl)) rfl
theorem k_1061 : Cond.privateMethod ⟨"BedFrontierModel", "kindsOf", "(I)I"⟩ ∈ lw_tbl := in_tables_1_5 (List.mem_of_getElem? (i := 101) rfl)
theorem k_1062 : Cond.instanceMethod ⟨"BedFrontierModel", "kindsOf", "(I)I"⟩ ∈ lw_ok := ok_of (in_tables_1_5 (List.mem_of_getElem? (i := 102) rfl)) rfl
theorem k_1063 : Cond.code ⟨"BedFrontierModel", "kindsOf", "(I)I"⟩ prog_13_method_55_code 7 (Option.some FieldType.int) ∈ lw_ok := ok_of (in_tables_1_5 (List.mem_of_getElem? (i := 103) rfl)) rfl
theorem k_1064 : Cond.methodLink "BedFrontierLaw" 114 ⟨"BedFrontierModel", "look", "(II)I"⟩ ∈ lw_ok := ok_of (in_tables_1_5 (List.mem_of_getElem? (i := 104) rfl)) rfl
theorem k_1065 : Cond.instanceMethod ⟨"BedFrontierModel", "look", "(II)I"⟩ ∈ lw_ok := ok_of (in_tables_1_5 (List.mem_of_getElem? (i := 105) rfl)) rfl
theorem k_1066 : Cond.selects "BedFrontierModel" ⟨"BedFrontierModel", "look", "(II)I"⟩ ⟨"BedFrontierModel", "look", "(II)I"⟩ ∈ lw_ok := ok_of (in_tables_1_5 (List.mem_of_getElem? (i := 106) rfl)) rfl
theorem k_1067 : Cond.code ⟨"BedFrontierModel", "look", "(II)I"⟩ prog_13_method_58_code 6 (Option.some FieldType.int) ∈ lw_ok := ok_of (in_tables_1_5 (List.mem_of_getElem? (i := 107) rfl)) rfl
theorem k_1068 : Cond.methodLink "BedFrontierModel" 216 ⟨"BedFrontierModel", "partBy", "(IIII)I"⟩ ∈ lw_ok := ok_of (in_tables_1_5 (List.mem_of_getElem? (i := 108) rfl)) rfl
theorem k_1069 : Cond.privateMethod ⟨"BedFrontierModel", "partBy", "(IIII)I"⟩ ∈ lw_tbl := in_tables_1_5 (List.mem_of_getElem? (i := 109) rfl)
theorem k_1070 : Cond.instanceMethod ⟨"BedFrontierModel", "partBy", "(IIII)I"⟩ ∈ lw_ok := ok_of (in_tables_1_5 (List.mem_of_getElem? (i := 110) rfl)) rfl
theorem k_1071 : Cond.code ⟨"BedFrontierModel", "partBy", "(IIII)I"⟩ prog_13_method_57_code 10 (Option.some FieldType.int) ∈ lw_ok := ok_of (in_tables_1_5 (List.mem_of_getElem? (i := 111) rfl)) rfl
theorem k_1072 : Cond.methodLink "BedFrontierLaw" 118 ⟨"BedFrontierModel", "wars", "(II)I"⟩ ∈ lw_ok := ok_of (in_tables_1_5 (List.mem_of_getElem? (i := 112) rfl)) rfl
theorem k_1073 : Cond.instanceMethod ⟨"BedFrontierModel", "wars", "(II)I"⟩ ∈ lw_ok := ok_of (in_tables_1_5 (List.mem_of_getElem? (i := 113) rfl)) rfl
theorem k_1074 : Cond.selects "BedFrontierModel" ⟨"BedFrontierModel", "wars", "(II)I"⟩ ⟨"BedFrontierModel", "wars", "(II)I"⟩ ∈ lw_ok := ok_of (in_tables_1_5 (List.mem_of_getElem? (i := 114) rfl)) rfl
theorem k_1075 : Cond.code ⟨"BedFrontierModel", "wars", "(II)I"⟩ prog_13_method_59_code 6 (Option.some FieldType.int) ∈ lw_ok := ok_of (in_tables_1_5 (List.mem_of_getElem? (i := 115) rfl)) rfl
theorem k_1076 : Cond.methodLink "BedFrontierLaw" 122 ⟨"BedFrontierModel", "sentry", "(II)I"⟩ ∈ lw_ok := ok_of (in_tables_1_5 (List.mem_of_getElem? (i := 116) rfl)) rfl
theorem k_1077 : Cond.instanceMethod ⟨"BedFrontierModel", "sentry", "(II)I"⟩ ∈ lw_ok := ok_of (in_tables_1_5 (List.mem_of_getElem? (i := 117) rfl)) rfl
theorem k_1078 : Cond.selects "BedFrontierModel" ⟨"BedFrontierModel", "sentry", "(II)I"⟩ ⟨"BedFrontierModel", "sentry", "(II)I"⟩ ∈ lw_ok := ok_of (in_tables_1_5 (List.mem_of_getElem? (i := 118) rfl)) rfl
theorem k_1079 : Cond.code ⟨"BedFrontierModel", "sentry", "(II)I"⟩ prog_13_method_60_code 7 (Option.some FieldType.int) ∈ lw_ok := ok_of (in_tables_1_5 (List.mem_of_getElem? (i := 119) rfl)) rfl
theorem k_1080 : Cond.constantLong "BedFrontierModel" 220 (10 : Int64) ∈ lw_ok := ok_of (in_tables_1_5 (List.mem_of_getElem? (i := 120) rfl)) rfl
theorem k_1081 : Cond.constantLong "BedFrontierModel" 222 (100 : Int64) ∈ lw_ok := ok_of (in_tables_1_5 (List.mem_of_getElem? (i := 121) rfl)) rfl
theorem k_1082 : Cond.methodLink "BedFrontierLaw" 126 ⟨"BedFrontierModel", "days", "(II)I"⟩ ∈ lw_ok := ok_of (in_tables_1_5 (List.mem_of_getElem? (i := 122) rfl)) rfl
theorem k_1083 : Cond.instanceMethod ⟨"BedFrontierModel", "days", "(II)I"⟩ ∈ lw_ok := ok_of (in_tables_1_5 (List.mem_of_getElem? (i := 123) rfl)) rfl
theorem k_1084 : Cond.selects "BedFrontierModel" ⟨"BedFrontierModel", "days", "(II)I"⟩ ⟨"BedFrontierModel", "days", "(II)I"⟩ ∈ lw_ok := ok_of (in_tables_1_5 (List.mem_of_getElem? (i := 124) rfl)) rfl
theorem k_1085 : Cond.code ⟨"BedFrontierModel", "days", "(II)I"⟩ prog_13_method_62_code 7 (Option.some FieldType.int) ∈ lw_ok := ok_of (in_tables_1_5 (List.mem_of_getElem? (i := 125) rfl)) rfl
theorem k_1086 : Cond.constantLong "BedFrontierModel" 235 (999999 : Int64) ∈ lw_ok := ok_of (in_tables_1_5 (List.mem_of_getElem? (i := 126) rfl)) rfl
theorem k_1087 : Cond.methodLink "BedFrontierModel" 237 ⟨"BedFrontierModel", "draw", "(I)I"⟩ ∈ lw_ok := ok_of (in_tables_1_5 (List.mem_of_getElem? (i := 127) rfl)) rfl
theorem k_1088 : Cond.privateMethod ⟨"BedFrontierModel", "draw", "(I)I"⟩ ∈ lw_tbl := in_tables_1_5 (List.mem_of_getElem? (i := 128) rfl)
theorem k_1089 : Cond.instanceMethod ⟨"BedFrontierModel", "draw", "(I)I"⟩ ∈ lw_ok := ok_of (in_tables_1_5 (List.mem_of_getElem? (i := 129) rfl)) rfl
theorem k_1090 : Cond.code ⟨"BedFrontierModel", "draw", "(I)I"⟩ prog_13_method_61_code 2 (Option.some FieldType.int) ∈ lw_ok := ok_of (in_tables_1_5 (List.mem_of_getElem? (i := 130) rfl)) rfl
theorem k_1091 : Cond.constantLong "BedFrontierModel" 227 (1103515245 : Int64) ∈ lw_ok := ok_of (in_tables_1_5 (List.mem_of_getElem? (i := 131) rfl)) rfl
theorem k_1092 : Cond.constantLong "BedFrontierModel" 229 (12345 : Int64) ∈ lw_ok := ok_of (in_tables_1_5 (List.mem_of_getElem? (i := 132) rfl)) rfl
theorem k_1093 : Cond.constantLong "BedFrontierModel" 231 (2147483648 : Int64) ∈ lw_ok := ok_of (in_tables_1_5 (List.mem_of_getElem? (i := 133) rfl)) rfl
theorem k_1094 : Cond.constantLong "BedFrontierModel" 233 (65536 : Int64) ∈ lw_ok := ok_of (in_tables_1_5 (List.mem_of_getElem? (i := 134) rfl)) rfl
theorem k_1095 : Cond.methodLink "BedFrontierLaw" 131 ⟨"BedFrontierModel", "part", "(I)J"⟩ ∈ lw_ok := ok_of (in_tables_1_5 (List.mem_of_getElem? (i := 135) rfl)) rfl
theorem k_1096 : Cond.instanceMethod ⟨"BedFrontierModel", "part", "(I)J"⟩ ∈ lw_ok := ok_of (in_tables_1_5 (List.mem_of_getElem? (i := 136) rfl)) rfl
theorem k_1097 : Cond.selects "BedFrontierModel" ⟨"BedFrontierModel", "part", "(I)J"⟩ ⟨"BedFrontierModel", "part", "(I)J"⟩ ∈ lw_ok := ok_of (in_tables_1_5 (List.mem_of_getElem? (i := 137) rfl)) rfl
theorem k_1098 : Cond.code ⟨"BedFrontierModel", "part", "(I)J"⟩ prog_13_method_63_code 2 (Option.some FieldType.long) ∈ lw_ok := ok_of (in_tables_1_5 (List.mem_of_getElem? (i := 138) rfl)) rfl
theorem k_1099 : Cond.methodLink "BedFrontierLaw" 135 ⟨"BedFrontierModel", "image", "(I)I"⟩ ∈ lw_ok := ok_of (in_tables_1_5 (List.mem_of_getElem? (i := 139) rfl)) rfl
theorem k_1100 : Cond.instanceMethod ⟨"BedFrontierModel", "image", "(I)I"⟩ ∈ lw_ok := ok_of (in_tables_1_5 (List.mem_of_getElem? (i := 140) rfl)) rfl
theorem k_1101 : Cond.selects "BedFrontierModel" ⟨"BedFrontierModel", "image", "(I)I"⟩ ⟨"BedFrontierModel", "image", "(I)I"⟩ ∈ lw_ok := ok_of (in_tables_1_5 (List.mem_of_getElem? (i := 141) rfl)) rfl
theorem k_1102 : Cond.code ⟨"BedFrontierModel", "image", "(I)I"⟩ prog_13_method_64_code 3 (Option.some FieldType.int) ∈ lw_ok := ok_of (in_tables_1_5 (List.mem_of_getElem? (i := 142) rfl)) rfl
theorem k_1103 : Cond.methodLink "BedFrontierLaw" 139 ⟨"BedFrontierModel", "from", "(I)I"⟩ ∈ lw_ok := ok_of (in_tables_1_5 (List.mem_of_getElem? (i := 143) rfl)) rfl
theorem k_1104 : Cond.instanceMethod ⟨"BedFrontierModel", "from", "(I)I"⟩ ∈ lw_ok := ok_of (in_tables_1_5 (List.mem_of_getElem? (i := 144) rfl)) rfl
theorem k_1105 : Cond.selects "BedFrontierModel" ⟨"BedFrontierModel", "from", "(I)I"⟩ ⟨"BedFrontierModel", "from", "(I)I"⟩ ∈ lw_ok := ok_of (in_tables_1_5 (List.mem_of_getElem? (i := 145) rfl)) rfl
theorem k_1106 : Cond.code ⟨"BedFrontierModel", "from", "(I)I"⟩ prog_13_method_65_code 3 (Option.some FieldType.int) ∈ lw_ok := ok_of (in_tables_1_5 (List.mem_of_getElem? (i := 146) rfl)) rfl
theorem k_1107 : Cond.methodLink "BedFrontierLaw" 143 ⟨"BedFrontierModel", "status", "(I)I"⟩ ∈ lw_ok := ok_of (in_tables_1_5 (List.mem_of_getElem? (i := 147) rfl)) rfl
theorem k_1108 : Cond.instanceMethod ⟨"BedFrontierModel", "status", "(I)I"⟩ ∈ lw_ok := ok_of (in_tables_1_5 (List.mem_of_getElem? (i := 148) rfl)) rfl
theorem k_1109 : Cond.selects "BedFrontierModel" ⟨"BedFrontierModel", "status", "(I)I"⟩ ⟨"BedFrontierModel", "status", "(I)I"⟩ ∈ lw_ok := ok_of (in_tables_1_5 (List.mem_of_getElem? (i := 149) rfl)) rfl
theorem k_1110 : Cond.code ⟨"BedFrontierModel", "status", "(I)I"⟩ prog_13_method_66_code 2 (Option.some FieldType.int) ∈ lw_ok := ok_of (in_tables_1_5 (List.mem_of_getElem? (i := 150) rfl)) rfl
theorem k_1111 : Cond.constantLong "BedFrontierModel" 240 (2 : Int64) ∈ lw_ok := ok_of (in_tables_1_5 (List.mem_of_getElem? (i := 151) rfl)) rfl
theorem k_1112 : Cond.methodLink "BedFrontierLaw" 147 ⟨"BedFrontierModel", "count", "(I)I"⟩ ∈ lw_ok := ok_of (in_tables_1_5 (List.mem_of_getElem? (i := 152) rfl)) rfl
theorem k_1113 : Cond.instanceMethod ⟨"BedFrontierModel", "count", "(I)I"⟩ ∈ lw_ok := ok_of (in_tables_1_5 (List.mem_of_getElem? (i := 153) rfl)) rfl
theorem k_1114 : Cond.selects "BedFrontierModel" ⟨"BedFrontierModel", "count", "(I)I"⟩ ⟨"BedFrontierModel", "count", "(I)I"⟩ ∈ lw_ok := ok_of (in_tables_1_5 (List.mem_of_getElem? (i := 154) rfl)) rfl
theorem k_1115 : Cond.code ⟨"BedFrontierModel", "count", "(I)I"⟩ prog_13_method_68_code 2 (Option.some FieldType.int) ∈ lw_ok := ok_of (in_tables_1_5 (List.mem_of_getElem? (i := 155) rfl)) rfl
theorem k_1116 : Cond.constantLong "BedFrontierModel" 242 (6 : Int64) ∈ lw_ok := ok_of (in_tables_1_5 (List.mem_of_getElem? (i := 156) rfl)) rfl
theorem k_1117 : Cond.methodLink "BedFrontierModel" 244 ⟨"BedFrontierModel", "countOf", "(I)I"⟩ ∈ lw_ok := ok_of (in_tables_1_5 (List.mem_of_getElem? (i := 157) rfl)) rfl
theorem k_1118 : Cond.privateMethod ⟨"BedFrontierModel", "countOf", "(I)I"⟩ ∈ lw_tbl := in_tables_1_5 (List.mem_of_getElem? (i := 158) rfl)
theorem k_1119 : Cond.instanceMethod ⟨"BedFrontierModel", "countOf", "(I)I"⟩ ∈ lw_ok := ok_of (in_tables_1_5 (List.mem_of_getElem? (i := 159) rfl)) rfl
theorem k_1120 : Cond.code ⟨"BedFrontierModel", "countOf", "(I)I"⟩ prog_13_method_67_code 2 (Option.some FieldType.int) ∈ lw_ok := ok_of (in_tables_1_5 (List.mem_of_getElem? (i := 160) rfl)) rfl
theorem k_1121 : Cond.methodLink "BedFrontierLaw" 152 ⟨"BedFrontierModel", "digest", "()J"⟩ ∈ lw_ok := ok_of (in_tables_1_5 (List.mem_of_getElem? (i := 161) rfl)) rfl
theorem k_1122 : Cond.instanceMethod ⟨"BedFrontierModel", "digest", "()J"⟩ ∈ lw_ok := ok_of (in_tables_1_5 (List.mem_of_getElem? (i := 162) rfl)) rfl
theorem k_1123 : Cond.selects "BedFrontierModel" ⟨"BedFrontierModel", "digest", "()J"⟩ ⟨"BedFrontierModel", "digest", "()J"⟩ ∈ lw_ok := ok_of (in_tables_1_5 (List.mem_of_getElem? (i := 163) rfl)) rfl
theorem k_1124 : Cond.code ⟨"BedFrontierModel", "digest", "()J"⟩ prog_13_method_69_code 4 (Option.some FieldType.long) ∈ lw_ok := ok_of (in_tables_1_5 (List.mem_of_getElem? (i := 164) rfl)) rfl
theorem k_1125 : Cond.constantLong "BedFrontierModel" 247 (1217 : Int64) ∈ lw_ok := ok_of (in_tables_1_5 (List.mem_of_getElem? (i := 165) rfl)) rfl
theorem k_1126 : Cond.constantLong "BedFrontierModel" 249 (31 : Int64) ∈ lw_ok := ok_of (in_tables_1_5 (List.mem_of_getElem? (i := 166) rfl)) rfl
theorem k_1127 : Cond.sameMethod "BedFrontier$Snoring" "BedFrontier$Snoring" "passes" "(IZ)Z" ∈ lw_ok := ok_of (in_tables_1_5 (List.mem_of_getElem? (i := 167) rfl)) rfl
theorem k_1128 : Cond.sameMethod "BedFrontier$Snoring" "BedFrontier$Snoring" "price" "(IIIIZ)I" ∈ lw_ok := ok_of (in_tables_1_5 (List.mem_of_getElem? (i := 168) rfl)) rfl
theorem k_1129 : Cond.castable "BedFrontier$Kiss" "BedFrontier$Plain" ∈ lw_tbl := in_tables_1_5 (List.mem_of_getElem? (i := 169) rfl)
theorem k_1130 : Cond.castable "BedFrontier$Quarrel" "BedFrontier$Plain" ∈ lw_tbl := in_tables_1_5 (List.mem_of_getElem? (i := 170) rfl)
theorem k_1131 : Cond.castable "BedFrontier$Snoring" "BedFrontier$Plain" ∈ lw_tbl := in_tables_1_5 (List.mem_of_getElem? (i := 171) rfl)
theorem k_1132 : Cond.castable "BedFrontier$Cat" "BedFrontier$Plain" ∈ lw_tbl := in_tables_1_5 (List.mem_of_getElem? (i := 172) rfl)
theorem k_1133 : Cond.castable "BedFrontier$Lamp" "BedFrontier$Plain" ∈ lw_tbl := in_tables_1_5 (List.mem_of_getElem? (i := 173) rfl)
theorem k_1134 : Cond.fieldLink "java/lang/String" 9 "java/lang/String" "value" "[B" ∈ lw_ok := ok_of (in_tables_1_5 (List.mem_of_getElem? (i := 174) rfl)) rfl
theorem k_1135 : Cond.fieldLink "java/lang/String" 15 "java/lang/String" "coder" "B" ∈ lw_ok := ok_of (in_tables_1_5 (List.mem_of_getElem? (i := 175) rfl)) rfl
