/-! ===== the items of a text ===== -/
def DrG (w : PW) : Prop := Ok w ∧ w 14 0 = 0
def FrM (sM tM : PW) (a2 : Int32) : Prop := (∀ k, (0 < k ∧ k < 6) ∨ k = 13 ∨ 14 < k → tM k = sM k) ∧ (a2 = 0 → tM 0 = sM 0 ∧ tM 14 = sM 14)
theorem FrM.trans {a b c : PW} {a2 : Int32} (h1 : FrM a b a2) (h2 : FrM b c a2) : FrM a c a2 := ⟨fun k hk => (h2.1 k hk).trans (h1.1 k hk), fun h => ⟨(h2.2 h).1.trans (h1.2 h).1, (h2.2 h).2.trans (h1.2 h).2⟩⟩
theorem FrM_of {a b : PW} {a2 : Int32} (h : ∀ k, k < 6 ∨ 12 < k → b k = a k) : FrM a b a2 := ⟨fun k hk => h k (by omega), fun _ => ⟨h 0 (by omega), h 14 (by omega)⟩⟩
theorem FrM_refl (a : PW) (a2 : Int32) : FrM a a a2 := ⟨fun _ _ => rfl, fun _ => ⟨rfl, rfl⟩⟩
def IT (n : Nat) (tb : Nat → Nat) (sR sM : PW) (e0 : Nat) (a2 : Int32) (rC : Int32) (tR tG : PW) (rM : Int32) (tM : PW) : Prop := (∃ b e, TK n tR tM b e ∧ ((rM = 1 ∧ rC = 1 ∧ tR 3 0 = 2 ∧ e0 ≤ b ∧ b < e ∧ DrG tG ∧ tM 12 0 = tG 12 0 ∧ (a2 = 1 → HR tG (tM 0) (tM 13) (tM 14 0))) ∨ (rM = 0 ∧ (rC = 0 ∨ rC = 1 ∧ tR 3 0 ≠ 2)))) ∧ LX tR tM n tb ∧ FrM sM tM a2 ∧ tR 1 = sR 1 ∧ tR 2 = sR 2
theorem IT_z {n : Nat} {tb : Nat → Nat} {sR sM : PW} {e0 : Nat} {a2 rC : Int32} {tR tG : PW} {rM : Int32} {tM : PW} (h : IT n tb sR sM e0 a2 rC tR tG rM tM) : isZ rC = true := by
  obtain ⟨⟨b, e, -, h⟩, -⟩ := h
  rcases h with ⟨-, h, -⟩ | ⟨-, h | ⟨h, -⟩⟩ <;> rw [h] <;> rfl
/-- the end of an item: both have edited, both read the stop -/
theorem stop_both {sR sM aR aM : PW} (sN : PL) {n p e0 : Nat} {tb : Nat → Nat} {a2 : Int32} {tG : PW} (hL : LX aR aM n tb) (h5 : aR 5 0 = nI p) (h6 : aM 6 0 = nI p) (hp : p ≤ n) (he : e0 ≤ p) (hF : FrM sM aM a2) (g1 : aR 1 = sR 1) (g2 : aR 2 = sR 2) (hG : DrG tG) (h12 : aM 12 0 = tG 12 0) (hH : a2 = 1 → HR tG (aM 0) (aM 13) (aM 14 0)) : ∃ (tR : PW) (rM : Int32) (tM : PW), f_Reader_step aR = some tR ∧ f_Model_ends aM sN = some (rM, tM, sN) ∧ (rM = 0 ∨ rM = 1) ∧ IT n tb sR sM e0 a2 1 tR tG rM tM := by
  obtain ⟨tR, tM, b, e, r, f1, f2, hpb, hK, hL2, hf, hr, q1, q2⟩ := end_both sN hL h5 h6 hp
  have hF2 : FrM sM tM a2 := hF.trans (FrM_of fun k hk => hf k (by omega))
  refine ⟨tR, r, tM, f1, f2, ?_, ⟨b, e, hK, ?_⟩, hL2, hF2, q1.trans g1, q2.trans g2⟩
  · rcases hr with ⟨hr, -⟩ | ⟨hr, -⟩
    · exact Or.inl hr
    · exact Or.inr hr
  · rcases hr with ⟨hr, h3⟩ | ⟨hr, hbe, h3⟩
    · exact Or.inr ⟨hr, Or.inr ⟨rfl, h3⟩⟩
    · refine Or.inl ⟨hr, rfl, h3, by omega, hbe, hG, ?_, ?_⟩
      · rw [hf 12 (by omega)]; exact h12
      · intro ha
        rw [hf 0 (by omega), hf 13 (by omega), hf 14 (by omega)]
        exact hH ha
def SG0 (w : PW) : Prop := w 8 0 = 0 ∧ w 9 0 = 0 ∧ w 10 0 = 0 ∧ w 11 0 = 0 ∧ w 12 0 = 0 ∧ w 13 0 = 0 ∧ w 14 0 = 0 ∧ w 1 0 = 1 ∧ w 1 1 = 1 ∧ w 2 0 = 0 ∧ w 2 1 = 0
theorem toll_item {sR sM sG : PW} (sN : PL) {n p : Nat} {tb : Nat → Nat} {a2 : Int32} (ha : a2 = 0 ∨ a2 = 1) (hL : LX sR sM n tb) (h5 : sR 5 0 = nI p) (h6 : sM 6 0 = nI p) (hp : p ≤ n) (hS : SG0 sG) (h12 : sM 12 0 = 0) : ∃ (rC : Int32) (tR tG : PW) (rM : Int32) (tM : PW), f_Reader_tollItem sR sG = some (rC, tR, tG) ∧ (bd3 (f_Model_reads sM sN (0 : Int32) (9 : Int32)) (fun x127 sM128 sN129 => (if x127 = 0 then f_Model_readItem_J35 a2 sM128 sN129 else f_Model_readItem_J36 a2 (1 : Int32) sM128 sN129))) = some (rM, tM, sN) ∧ IT n tb sR sM p a2 rC tR tG rM tM := by
  obtain ⟨aR, aM, b, e, r, f1', f2', hpb, hK, hL2, hf, -, hr, g1, g2⟩ := num_both sN (row := 0) (mx := 9) hL h5 h6 hp (by decide) (by decide)
  have f1 : f_Reader_number sR (9 : Int32) = some (r, aR) := f1'
  have f2 : f_Model_reads sM sN (0 : Int32) (9 : Int32) = some (r, aM, sN) := f2'
  have hF : FrM sM aM a2 := FrM_of fun k hk => hf k (by omega)
  unfold f_Reader_tollItem f_Model_readItem_J35 f_Model_readItem_J36 f_Model_readItem_J55
  rw [f1, f2, bd2_s, bd3_s]
  rcases hr with hr | ⟨hr, hbe, v, hv, v1, v2⟩
  · subst hr
    rw [if_00, if_00, if_00, if_00]
    exact ⟨_, _, _, _, _, rfl, rfl, ⟨b, e, hK, Or.inr ⟨rfl, Or.inl rfl⟩⟩, hL2, hF, g1, g2⟩
  · subst hr
    obtain ⟨hS8, hS9, hS10, hS11, hS12, hS13, hS14, hS1, hS11', hS2, hS21⟩ := hS
    have hv10 : okI (nI v) 10 = true := okI_nI (by omega) (by omega)
    have hG : DrG (up sG 7 (fun _ => nI v)) := ⟨ok_start (t := nI v) hv10 rfl hS8 hS9 hS10 hS12 hS13 hS14 hS1 hS11', hS14⟩
    have hK5 := hK
    obtain ⟨-, hen, -, r5, -, m6, -⟩ := hK5
    rw [if_10, if_10, if_10, if_10, nm_s, v1]
    rcases ha with ha | ha
    · subst ha
      rw [if_00]
      obtain ⟨tR, rM, tM, e1, e2, hz, hI⟩ := stop_both (sR := sR) (sM := sM) (e0 := p) (a2 := 0) (tG := up sG 7 (fun _ => nI v)) sN hL2 r5 m6 hen (by omega) hF g1 g2 hG (by rw [hf 12 (by omega), h12]; exact hS12.symm) (fun h => absurd h (by decide))
      rw [e1, e2, bd_s, bd3_s]
      rcases hz with hz | hz
      · subst hz
        rw [if_00]
        exact ⟨_, _, _, _, _, rfl, rfl, hI⟩
      · subst hz
        rw [if_10]
        exact ⟨_, _, _, _, _, rfl, rfl, hI⟩
    · subst ha
      rw [if_10, v2, anew_M, bd2_s]
      have hFa : FrM sM (anewW aM (nI v)) 1 := ⟨fun k hk => by rw [show anewW aM (nI v) k = aM k by unfold anewW; rw [up_ne (by omega), up_ne (by omega)]]; exact hF.1 k hk, fun h => absurd h (by decide)⟩
      obtain ⟨tR, rM, tM, e1, e2, hz, hI⟩ := stop_both (sR := sR) (sM := sM) (aM := anewW aM (nI v)) (e0 := p) (a2 := 1) (tG := up sG 7 (fun _ => nI v)) sN (LX_keep hL2 rfl rfl rfl rfl) r5 m6 hen (by omega) hFa g1 g2 hG (by rw [show anewW aM (nI v) 12 0 = aM 12 0 from rfl, hf 12 (by omega), h12]; exact hS12.symm) (fun _ => hr_start (t := nI v) rfl hS8 hS9 hS10 hS11 hS12 hS13 hS14 hS1 hS11' hS2 hS21 rfl)
      rw [e1, e2, bd_s, bd3_s]
      rcases hz with hz | hz
      · subst hz
        rw [if_00]
        exact ⟨_, _, _, _, _, rfl, rfl, hI⟩
      · subst hz
        rw [if_10]
        exact ⟨_, _, _, _, _, rfl, rfl, hI⟩
theorem rate_item {sR sM sG : PW} (sN : PL) {n p : Nat} {tb : Nat → Nat} {a2 : Int32} (ha : a2 = 0 ∨ a2 = 1) (hL : LX sR sM n tb) (h5 : sR 5 0 = nI p) (h6 : sM 6 0 = nI p) (hp : p ≤ n) (hD : DrG sG) (h12 : sM 12 0 = sG 12 0) (hH : a2 = 1 → HR sG (sM 0) (sM 13) (sM 14 0)) : ∃ (rC : Int32) (tR tG : PW) (rM : Int32) (tM : PW), f_Reader_rateItem sR sG = some (rC, tR, tG) ∧ (bd3 (f_Model_reads sM sN (0 : Int32) (1 : Int32)) (fun x79 sM80 sN81 => (if x79 = 0 then f_Model_readItem_J111 a2 sM80 sN81 else bd3 (f_Model_reads sM80 sN81 (1 : Int32) (9 : Int32)) (fun x101 sM102 sN103 => (if x101 = 0 then f_Model_readItem_J111 a2 sM102 sN103 else f_Model_readItem_J112 a2 (1 : Int32) sM102 sN103))))) = some (rM, tM, sN) ∧ IT n tb sR sM p a2 rC tR tG rM tM := by
  obtain ⟨aR, aM, b, e, r, f1', f2', hpb, hK, hL2, hf, -, hr, g1, g2⟩ := num_both sN (row := 0) (mx := 1) hL h5 h6 hp (by decide) (by decide)
  have f1 : f_Reader_number sR (1 : Int32) = some (r, aR) := f1'
  have f2 : f_Model_reads sM sN (0 : Int32) (1 : Int32) = some (r, aM, sN) := f2'
  have hF : FrM sM aM a2 := FrM_of fun k hk => hf k (by omega)
  unfold f_Reader_rateItem f_Model_readItem_J111 f_Model_readItem_J112 f_Model_readItem_J140
  rw [f1, f2, bd2_s, bd3_s]
  rcases hr with hr | ⟨hr, hbe, s, hs, v1, v2⟩
  · subst hr
    rw [if_00, if_00, if_00, if_00]
    exact ⟨_, _, _, _, _, rfl, rfl, ⟨b, e, hK, Or.inr ⟨rfl, Or.inl rfl⟩⟩, hL2, hF, g1, g2⟩
  · subst hr
    have hK5 := hK
    obtain ⟨hbe', hen, -, r5, -, m6, -⟩ := hK5
    rw [if_10, if_10, nm_s, v1]
    obtain ⟨cR, cM, b', e', r, k1', k2', hpb', hK', hL3, hf', hrow, hr, g1', g2'⟩ := num_both sN (row := 1) (mx := 9) hL2 r5 m6 hen (by decide) (by decide)
    have k1 : f_Reader_number aR (9 : Int32) = some (r, cR) := k1'
    have k2 : f_Model_reads aM sN (1 : Int32) (9 : Int32) = some (r, cM, sN) := k2'
    have hF' : FrM sM cM a2 := hF.trans (FrM_of fun k hk => hf' k (by omega))
    rw [k1, k2, bd2_s, bd3_s]
    rcases hr with hr | ⟨hr, hbe2, v, hv, w1, w2⟩
    · subst hr
      rw [if_00, if_00, if_00, if_00]
      exact ⟨_, _, _, _, _, rfl, rfl, ⟨b', e', hK', Or.inr ⟨rfl, Or.inl rfl⟩⟩, hL3, hF', g1'.trans g1, g2'.trans g2⟩
    · subst hr
      have hv10 : okI (nI v) 10 = true := okI_nI (by omega) (by omega)
      have w0 : cM 10 0 = nI s := (hrow 0 (by decide)).trans v2
      have hG : DrG (up sG 1 (upd (sG 1) s (nI v))) := ⟨ok_rate hD.1 (by omega) hv10, hD.2⟩
      have hK6 := hK'
      obtain ⟨-, hen', -, r5', -, m6', -⟩ := hK6
      rw [if_10, if_10, if_10, if_10, okI_nI (show s < 2 by omega) (by omega), nI_clamp (by omega), gd_t, nm_s, w1]
      have h12' : cM 12 0 = sG 12 0 := by rw [hf' 12 (by omega), hf 12 (by omega)]; exact h12
      rcases ha with ha | ha
      · subst ha
        rw [if_00]
        obtain ⟨tR, rM, tM, e1, e2, hz, hI⟩ := stop_both (sR := sR) (sM := sM) (e0 := p) (a2 := 0) (tG := up sG 1 (upd (sG 1) s (nI v))) sN hL3 r5' m6' hen' (by omega) hF' (g1'.trans g1) (g2'.trans g2) hG h12' (fun h => absurd h (by decide))
        rw [e1, e2, bd_s, bd3_s]
        rcases hz with hz | hz
        · subst hz
          rw [if_00]
          exact ⟨_, _, _, _, _, rfl, rfl, hI⟩
        · subst hz
          rw [if_10]
          exact ⟨_, _, _, _, _, rfl, rfl, hI⟩
      · subst ha
        rw [if_10, w0, w2, show (5 : Int32) + nI s = nI (5 + s) from nI_add 5 s, okI_nI (show 5 + s < 53 by omega) (by omega), nI_clamp (by omega), gd_t, nm_s]
        have hFa : FrM sM (up cM 0 (upd (cM 0) (5 + s) (nI v))) 1 := ⟨fun k hk => by rw [up_ne (by omega)]; exact hF'.1 k hk, fun h => absurd h (by decide)⟩
        have hH' : HR sG (cM 0) (cM 13) (cM 14 0) := by
          rw [hf' 0 (by omega), hf 0 (by omega), hf' 13 (by omega), hf 13 (by omega), hf' 14 (by omega), hf 14 (by omega)]
          exact hH rfl
        obtain ⟨tR, rM, tM, e1, e2, hz, hI⟩ := stop_both (sR := sR) (sM := sM) (aM := up cM 0 (upd (cM 0) (5 + s) (nI v))) (e0 := p) (a2 := 1) (tG := up sG 1 (upd (sG 1) s (nI v))) sN (LX_keep hL3 rfl rfl rfl rfl) r5' m6' hen' (by omega) hFa (g1'.trans g1) (g2'.trans g2) hG h12' (fun _ => hr_rate hH' hD.1 (by omega) _)
        rw [e1, e2, bd_s, bd3_s]
        rcases hz with hz | hz
        · subst hz
          rw [if_00]
          exact ⟨_, _, _, _, _, rfl, rfl, hI⟩
        · subst hz
          rw [if_10]
          exact ⟨_, _, _, _, _, rfl, rfl, hI⟩
theorem ok_war {w : PW} (ho : Ok w) : Ok (up w 8 (fun _ => (1 : Int32))) := by
  obtain ⟨h1, h2, h3, h4⟩ := ho
  exact ⟨h1, h2, rfl, h4⟩
theorem hr_war {w : PW} {st ah : Nat → Int32} {um : Int32} (hr : HR w st ah um) : HR (up w 8 (fun _ => (1 : Int32))) (upd st 3 1) ah um := by
  obtain ⟨h0, h1, h2, h3, h4, h5, h6', h7, h8, h9, h22, hu, hk, hn, hp⟩ := hr
  have ne : ∀ j, j ≠ 3 → upd st 3 1 j = st j := fun j hj => upd_ne hj
  refine ⟨?_, ?_, ?_, ?_, ?_, ?_, ?_, ?_, ?_, ?_, ?_, hu, ?_, ?_, hp⟩
  · rw [ne 0 (by omega)]; exact h0
  · rw [ne 1 (by omega)]; exact h1
  · rw [ne 2 (by omega)]; exact h2
  · rw [upd_eq]; rfl
  · rw [ne 4 (by omega)]; exact h4
  · rw [ne 5 (by omega)]; exact h5
  · rw [ne 6 (by omega)]; exact h6'
  · rw [ne 7 (by omega)]; exact h7
  · rw [ne 8 (by omega)]; exact h8
  · rw [ne 9 (by omega)]; exact h9
  · rw [ne 22 (by omega)]; exact h22
  · intro k hk'
    rw [ne _ (by omega), ne _ (by omega)]; exact hk k hk'
  · intro k hk'
    rw [ne _ (by omega)]; exact hn k hk'
theorem upd_self (f : Nat → Int32) (k : Nat) : upd f k (f k) = f := by
  funext j
  by_cases e : j = k
  · subst e; rw [upd_eq]
  · rw [upd_ne e]
theorem war_item {sR sM sG : PW} (sN : PL) {n p : Nat} {tb : Nat → Nat} {a2 : Int32} (ha : a2 = 0 ∨ a2 = 1) (hL : LX sR sM n tb) (h5 : sR 5 0 = nI p) (h6 : sM 6 0 = nI p) (hp : p ≤ n) (hD : DrG sG) (h12 : sM 12 0 = sG 12 0) (hH : a2 = 1 → HR sG (sM 0) (sM 13) (sM 14 0)) : ∃ (rC : Int32) (tR tG : PW) (rM : Int32) (tM : PW), nm (up sG 8 (fun _ => (1 : Int32))) (fun sG17 => bd (f_Reader_step sR) (fun sR18 => some ((1 : Int32), sR18, sG17))) = some (rC, tR, tG) ∧ (if a2 = 0 then nm (up sM 0 (upd (sM 0) 3 (sM 0 3))) (fun sM45 => bd3 (f_Model_ends sM45 sN) (fun x46 sM47 sN48 => gd (isZ x46) (some (x46, sM47, sN48)))) else nm (up sM 0 (upd (sM 0) 3 (1 : Int32))) (fun sM51 => bd3 (f_Model_ends sM51 sN) (fun x52 sM53 sN54 => gd (isZ x52) (some (x52, sM53, sN54))))) = some (rM, tM, sN) ∧ IT n tb sR sM p a2 rC tR tG rM tM := by
  have hG : DrG (up sG 8 (fun _ => (1 : Int32))) := ⟨ok_war hD.1, hD.2⟩
  rw [nm_s]
  rcases ha with ha | ha
  · subst ha
    rw [if_00, upd_self, up_self, nm_s]
    obtain ⟨tR, rM, tM, e1, e2, hz, hI⟩ := stop_both (sR := sR) (sM := sM) (e0 := p) (a2 := 0) (tG := up sG 8 (fun _ => (1 : Int32))) sN hL h5 h6 hp (by omega) (FrM_refl _ _) rfl rfl hG h12 (fun h => absurd h (by decide))
    rw [e1, e2, bd_s, bd3_s]
    rcases hz with hz | hz
    · subst hz
      exact ⟨_, _, _, _, _, rfl, rfl, hI⟩
    · subst hz
      exact ⟨_, _, _, _, _, rfl, rfl, hI⟩
  · subst ha
    rw [if_10, nm_s]
    have hFa : FrM sM (up sM 0 (upd (sM 0) 3 (1 : Int32))) 1 := ⟨fun k hk => by rw [up_ne (by omega)], fun h => absurd h (by decide)⟩
    obtain ⟨tR, rM, tM, e1, e2, hz, hI⟩ := stop_both (sR := sR) (sM := sM) (aM := up sM 0 (upd (sM 0) 3 (1 : Int32))) (e0 := p) (a2 := 1) (tG := up sG 8 (fun _ => (1 : Int32))) sN (LX_keep hL rfl rfl rfl rfl) h5 h6 hp (by omega) hFa rfl rfl hG h12 (fun _ => hr_war (hH rfl))
    rw [e1, e2, bd_s, bd3_s]
    rcases hz with hz | hz
    · subst hz
      exact ⟨_, _, _, _, _, rfl, rfl, hI⟩
    · subst hz
      exact ⟨_, _, _, _, _, rfl, rfl, hI⟩
theorem add_12 {w : PW} (ho : Ok w) {k x : Int32} (hm : vn w 12 0 < 6) : ∃ tH : PW, f_House_addDoing w k x = some (nI (vn w 12 0), tH) ∧ tH 12 0 = nI (vn w 12 0 + 1) := by
  obtain ⟨h7, e⟩ := okV ho.many
  unfold f_House_addDoing
  rw [e, okI_nI (show vn w 12 0 < 6 by omega) (by omega), nI_clamp (by omega)]
  show ∃ tH : PW, gd (okI (w 12 0) 6) (some ((w 12 0 + 1) - 1, up (up (up (up w 3 (upd (w 3) (vn w 12 0) k)) 4 (upd (w 4) (w 12 0).toNatClampNeg x)) 12 (fun _ => w 12 0 + 1)) 14 (fun _ => 0))) = some (nI (vn w 12 0), tH) ∧ _
  rw [e, okI_nI (show vn w 12 0 < 6 by omega) (by omega), nI_clamp (by omega), show nI (vn w 12 0) + (1 : Int32) = nI (vn w 12 0 + 1) from nI_add _ 1, show nI (vn w 12 0 + 1) - (1 : Int32) = nI (vn w 12 0 + 1 - 1) from nI_sub (b := 1) (by omega) (by omega)]
  exact ⟨_, rfl, rfl⟩
theorem TK_up12 {n b e : Nat} {sR sM : PW} {g : Nat → Int32} (h : TK n sR sM b e) : TK n sR (up sM 12 g) b e := h
theorem doing_item {sR sM sG : PW} (sN : PL) {n b0 p : Nat} {tb : Nat → Nat} {a2 : Int32} (ha : a2 = 0 ∨ a2 = 1) (hL : LX sR sM n tb) (hK0 : TK n sR sM b0 p) (hD : DrG sG) (h12 : sM 12 0 = sG 12 0) (hH : a2 = 1 → HR sG (sM 0) (sM 13) (sM 14 0)) : ∃ (rC : Int32) (tR tG : PW) (rM : Int32) (tM : PW), f_Reader_doingItem sR sG = some (rC, tR, tG) ∧ (if (6 : Int32) ≤ (sM 12 0) then f_Model_readItem_J311 a2 sM sN else bd3 (f_Model_reads sM sN (0 : Int32) (5 : Int32)) (fun x34 sM35 sN36 => (if x34 = 0 then f_Model_readItem_J311 a2 sM35 sN36 else bd3 (f_Model_reads sM35 sN36 (1 : Int32) (20 : Int32)) (fun x39 sM40 sN41 => (if x39 = 0 then f_Model_readItem_J311 a2 sM40 sN41 else f_Model_readItem_J312 a2 (1 : Int32) sM40 sN41))))) = some (rM, tM, sN) ∧ IT n tb sR sM p a2 rC tR tG rM tM := by
  have hK00 := hK0
  obtain ⟨-, hp, -, h5, -, h6, -⟩ := hK00
  obtain ⟨hm7, em⟩ := okV hD.1.many
  have fail : ∀ M : PW, f_Model_readItem_J311 a2 M sN = some (0, up M 12 (fun _ => M 12 0 + 1), sN) := by
    intro M
    unfold f_Model_readItem_J311 f_Model_readItem_J312 f_Model_readItem_J347
    rw [nm_s, if_00, if_00]
  have hFu : ∀ M : PW, FrM M (up M 12 (fun _ => M 12 0 + 1)) a2 := fun M => FrM_of fun k hk => up_ne (by omega)
  unfold f_Reader_doingItem
  rw [h12, em]
  by_cases hm : vn sG 12 0 < 6
  · rw [if_neg (show ¬ (6 : Int32) ≤ nI (vn sG 12 0) from nI_ge (b := 6) hm (by decide)), if_neg (show ¬ (6 : Int32) ≤ nI (vn sG 12 0) from nI_ge (b := 6) hm (by decide))]
    obtain ⟨aR, aM, b, e, r, f1', f2', hpb, hK, hL2, hf, -, hr, g1, g2⟩ := num_both sN (row := 0) (mx := 5) hL h5 h6 hp (by decide) (by decide)
    have f1 : f_Reader_number sR (5 : Int32) = some (r, aR) := f1'
    have f2 : f_Model_reads sM sN (0 : Int32) (5 : Int32) = some (r, aM, sN) := f2'
    have hF : FrM sM aM a2 := FrM_of fun k hk => hf k (by omega)
    rw [f1, f2, bd2_s, bd3_s]
    rcases hr with hr | ⟨hr, hbe, s, hs, v1, v2⟩
    · subst hr
      rw [if_00, if_00, fail]
      exact ⟨_, _, _, _, _, rfl, rfl, ⟨b, e, hK, Or.inr ⟨rfl, Or.inl rfl⟩⟩, LX_keep hL2 rfl rfl rfl rfl, hF.trans (hFu _), g1, g2⟩
    · subst hr
      have hK5 := hK
      obtain ⟨hbe', hen, -, r5, -, m6, -⟩ := hK5
      rw [if_10, if_10, nm_s, v1]
      obtain ⟨cR, cM, b', e', r, k1', k2', hpb', hK', hL3, hf', hrow, hr, g1', g2'⟩ := num_both sN (row := 1) (mx := 20) hL2 r5 m6 hen (by decide) (by decide)
      have k1 : f_Reader_number aR (20 : Int32) = some (r, cR) := k1'
      have k2 : f_Model_reads aM sN (1 : Int32) (20 : Int32) = some (r, cM, sN) := k2'
      have hF' : FrM sM cM a2 := hF.trans (FrM_of fun k hk => hf' k (by omega))
      rw [k1, k2, bd2_s, bd3_s]
      rcases hr with hr | ⟨hr, hbe2, v, hv, w1, w2⟩
      · subst hr
        rw [if_00, if_00, fail]
        exact ⟨_, _, _, _, _, rfl, rfl, ⟨b', e', hK', Or.inr ⟨rfl, Or.inl rfl⟩⟩, LX_keep hL3 rfl rfl rfl rfl, hF'.trans (hFu _), g1'.trans g1, g2'.trans g2⟩
      · subst hr
        have w0 : cM 10 0 = nI s := (hrow 0 (by decide)).trans v2
        have hk6 : okI (nI s) 6 = true := okI_nI (by omega) (by omega)
        have hx21 : okI (nI v) 21 = true := okI_nI (by omega) (by omega)
        obtain ⟨tG, ad, oG, g14, hrG⟩ := add_C hD.1 hk6 hx21 hm
        obtain ⟨tG', ad', g12⟩ := add_12 (k := nI s) (x := nI v) hD.1 hm
        have eG : tG' = tG := by
          have := ad'.symm.trans ad
          exact congrArg Prod.snd (Option.some.inj this)
        subst eG
        have hG : DrG tG' := ⟨oG, g14⟩
        have hK6 := hK'
        obtain ⟨-, hen', -, r5', -, m6', -⟩ := hK6
        rw [if_10, if_10, w1, ad, bd2_s]
        unfold f_Model_readItem_J312 f_Model_readItem_J347
        rw [nm_s, if_10, if_10]
        have h12' : cM 12 0 = nI (vn sG 12 0) := by rw [hf' 12 (by omega), hf 12 (by omega), h12]; exact em
        rw [h12', show nI (vn sG 12 0) + (1 : Int32) = nI (vn sG 12 0 + 1) from nI_add _ 1]
        have hFc : FrM sM (up cM 12 (fun _ => nI (vn sG 12 0 + 1))) a2 := hF'.trans (FrM_of fun k hk => up_ne (by omega))
        rcases ha with ha | ha
        · subst ha
          rw [if_00]
          obtain ⟨tR, rM, tM, e1, e2, hz, hI⟩ := stop_both (sR := sR) (sM := sM) (aM := up cM 12 (fun _ => nI (vn sG 12 0 + 1))) (e0 := p) (a2 := 0) (tG := tG') sN (LX_keep hL3 rfl rfl rfl rfl) r5' m6' hen' (by omega) hFc (g1'.trans g1) (g2'.trans g2) hG (by rw [up_eq]; exact g12.symm) (fun h => absurd h (by decide))
          rw [e1, e2, bd_s, bd3_s]
          rcases hz with hz | hz
          · subst hz
            rw [if_00]
            exact ⟨_, _, _, _, _, rfl, rfl, hI⟩
          · subst hz
            rw [if_10]
            exact ⟨_, _, _, _, _, rfl, rfl, hI⟩
        · subst ha
          have hH' : HR sG (cM 0) (cM 13) (cM 14 0) := by
            rw [hf' 0 (by omega), hf 0 (by omega), hf' 13 (by omega), hf 13 (by omega), hf' 14 (by omega), hf 14 (by omega)]
            exact hH rfl
          have hu0 : cM 14 0 = 0 := hH'.steps.trans hD.2
          have hH2 : HR sG (up cM 12 (fun _ => nI (vn sG 12 0 + 1)) 0) (cM 13) (cM 14 0) := hH'
          rw [if_10, show up cM 12 (fun _ => nI (vn sG 12 0 + 1)) 10 0 = nI s from w0, show up cM 12 (fun _ => nI (vn sG 12 0 + 1)) 10 1 = nI v from w2, addM_eq hD.1 hH2 hm, bd2_s]
          have hFa : FrM sM (up (up cM 12 (fun _ => nI (vn sG 12 0 + 1))) 0 (upd (upd (upd (up cM 12 (fun _ => nI (vn sG 12 0 + 1)) 0) (10 + vn sG 12 0) (nI s)) (16 + vn sG 12 0) (nI v)) 9 (nI (vn sG 12 0 + 1)))) 1 := ⟨fun k hk => by rw [up_ne (by omega)]; exact hFc.1 k hk, fun h => absurd h (by decide)⟩
          obtain ⟨tR, rM, tM, e1, e2, hz, hI⟩ := stop_both (sR := sR) (sM := sM) (aM := up (up cM 12 (fun _ => nI (vn sG 12 0 + 1))) 0 (upd (upd (upd (up cM 12 (fun _ => nI (vn sG 12 0 + 1)) 0) (10 + vn sG 12 0) (nI s)) (16 + vn sG 12 0) (nI v)) 9 (nI (vn sG 12 0 + 1)))) (e0 := p) (a2 := 1) (tG := tG') sN (LX_keep hL3 rfl rfl rfl rfl) r5' m6' hen' (by omega) hFa (g1'.trans g1) (g2'.trans g2) hG (by rw [up_ne (by decide), up_eq]; exact g12.symm) (fun _ => by
            have := hrG _ _ _ hH2
            rw [up_eq, show up (up cM 12 (fun _ => nI (vn sG 12 0 + 1))) 0 (upd (upd (upd (up cM 12 (fun _ => nI (vn sG 12 0 + 1)) 0) (10 + vn sG 12 0) (nI s)) (16 + vn sG 12 0) (nI v)) 9 (nI (vn sG 12 0 + 1))) 13 = cM 13 from rfl, show up (up cM 12 (fun _ => nI (vn sG 12 0 + 1))) 0 (upd (upd (upd (up cM 12 (fun _ => nI (vn sG 12 0 + 1)) 0) (10 + vn sG 12 0) (nI s)) (16 + vn sG 12 0) (nI v)) 9 (nI (vn sG 12 0 + 1))) 14 0 = cM 14 0 from rfl, hu0]
            exact this)
          rw [e1, e2, bd_s, bd3_s]
          rcases hz with hz | hz
          · subst hz
            rw [if_00]
            exact ⟨_, _, _, _, _, rfl, rfl, hI⟩
          · subst hz
            rw [if_10]
            exact ⟨_, _, _, _, _, rfl, rfl, hI⟩
  · rw [if_pos (show (6 : Int32) ≤ nI (vn sG 12 0) from nI_le (a := 6) (by omega) (by omega)), if_pos (show (6 : Int32) ≤ nI (vn sG 12 0) from nI_le (a := 6) (by omega) (by omega)), fail]
    exact ⟨_, _, _, _, _, rfl, rfl, ⟨b0, p, TK_up12 hK0, Or.inr ⟨rfl, Or.inl rfl⟩⟩, LX_keep hL rfl rfl rfl rfl, hFu _, rfl, rfl⟩
