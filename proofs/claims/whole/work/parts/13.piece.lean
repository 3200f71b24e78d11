/-! making and sending a piece: walks -/
theorem lx_spoil {post : SX → Prop} {g : Nat → Nat → Nat} {u : SX} {c n : Nat} (hR : lx_R g u) (hc : c < 65536) (hn : g 24 0 = n + 2) (h30 : n + 2 ≤ 30) (hb : ∀ i, g 23 i < 256) (hz : ck_dis (g 23) n = 0)
    (H : ∀ g' u', (∀ f, f ≠ 23 → g' f = g f) → (∀ i, g' 23 i < 256) → ck_dis (g' 23) n ≠ 0 → lx_R g' u' → post u') : wpX_spoilNewPiece post u (nI c) := by
  have hR' := hR
  obtain ⟨cNL, cDL, cDB, cWF, cWC, cWL, cWB, cIF, cIC, cTT, cIL, cIB, cKN, cNX, cTF, cOW, cRS, cOC, cOA, cOK, cPS, cPL, cPT, cPK, cPB, cNP⟩ := u
  obtain ⟨rNL, rDL, rDB, rWF, rWC, rWL, rWB, rIF, rIC, rTT, rIL, rIB, rKN, rNX, rTF, rOW, rRS, rOC, rOA, rOK, rPL, rPT, rPK, rPB, rNP⟩ := hR'
  unfold wpX_spoilNewPiece
  dsimp only
  have rNL2 : cNL = nI (n + 2) := by rw [rNL, hn]
  subst rNL2
  have e1 : ∀ d, 0 < d → d < 2 ^ 31 → ((nI c * 37) + 11) - ((nI c * 37) + 11) / nI d * nI d = nI ((c * 37 + 11) % d) := fun d h0 hd => by
    have : (nI c * 37) + 11 = nI (c * 37 + 11) := by
      show nI c * nI 37 + nI 11 = _
      rw [pk_mul, nI_add]
    rw [this]
    exact pk_rem (by omega) h0 hd
  have e2 : ∀ d, 0 < d → d < 2 ^ 31 → ((nI c * 101) + 5) - ((nI c * 101) + 5) / nI d * nI d = nI ((c * 101 + 5) % d) := fun d h0 hd => by
    have : (nI c * 101) + 5 = nI (c * 101 + 5) := by
      show nI c * nI 101 + nI 5 = _
      rw [pk_mul, nI_add]
    rw [this]
    exact pk_rem (by omega) h0 hd
  have e3 : nI c - nI c / 2 * 2 = nI (c % 2) := pk_rem (d := 2) (by omega) (by decide) (by decide)
  have hd0 : 0 < (n + 2) * 8 := by omega
  have hm1 : (c * 37 + 11) % ((n + 2) * 8) < (n + 2) * 8 := Nat.mod_lt _ hd0
  have hm2 : (c * 101 + 5) % ((n + 2) * 8) < (n + 2) * 8 := Nat.mod_lt _ hd0
  refine nm_r (pk_mul (n + 2) 8) (br_t (nI_le (a := 1) (by omega) (by omega)) ⟨nI_ne0 hd0 (by omega), nm_r (e1 _ hd0 (by omega)) ⟨nI_ne0 hd0 (by omega), nm_r (e2 _ hd0 (by omega)) ?_⟩⟩)
  generalize (c * 37 + 11) % ((n + 2) * 8) = one at *
  generalize (c * 101 + 5) % ((n + 2) * 8) = oth at *
  have hf : ∀ i, i < n + 2 → g 23 i < 256 := fun i _ => hb i
  have hb1 : ∀ i, ls_up g 23 (one / 8) (g 23 (one / 8) ^^^ 2 ^ (one % 8)) 23 i < 256 := fun i => by
    rw [ls_flip]; exact ck_xlt8 (hb i) (ck_bit_lt one i)
  have ho1 : ∀ f, f ≠ 23 → ls_up g 23 (one / 8) (g 23 (one / 8) ^^^ 2 ^ (one % 8)) f = g f := fun f h => by
    funext i; simp [ls_up, h]
  have hz1 : ck_dis (ls_up g 23 (one / 8) (g 23 (one / 8) ^^^ 2 ^ (one % 8)) 23) n ≠ 0 := by
    rw [ls_flip]; exact ck_one hf (by omega) hz
  refine lx_flip hR (by omega) fun u' hR1 => ?_
  obtain ⟨cNL1, cDL1, cDB1, cWF1, cWC1, cWL1, cWB1, cIF1, cIC1, cTT1, cIL1, cIB1, cKN1, cNX1, cTF1, cOW1, cRS1, cOC1, cOA1, cOK1, cPS1, cPL1, cPT1, cPK1, cPB1, cNP1⟩ := u'
  refine ⟨by decide, ?_⟩
  rw [e3]
  refine br_c (fun _ => ?_) (fun _ => H _ _ ho1 hb1 hz1 hR1)
  refine pk_eq oth one (fun _ => H _ _ ho1 hb1 hz1 hR1) (fun hne => ?_) rfl rfl (by omega) (by omega)
  refine lx_flip hR1 (by omega) fun u2 hR2 => ?_
  obtain ⟨cNL2, cDL2, cDB2, cWF2, cWC2, cWL2, cWB2, cIF2, cIC2, cTT2, cIL2, cIB2, cKN2, cNX2, cTF2, cOW2, cRS2, cOC2, cOA2, cOK2, cPS2, cPL2, cPT2, cPK2, cPB2, cNP2⟩ := u2
  refine H _ _ ?_ ?_ ?_ hR2
  · intro f h
    rw [← ho1 f h]
    funext i; simp [ls_up, h]
  · intro i
    rw [ls_flip]; exact ck_xlt8 (hb1 i) (ck_bit_lt oth i)
  · rw [ls_flip, ls_flip]
    exact ck_two h30 hf (by omega) (by omega) hne hz
theorem lx_seal {post : SX → Prop} {g : Nat → Nat → Nat} {u : SX} (hR : lx_R g u) (hn : g 24 0 ≤ 28) (hb : ∀ i, g 23 i < 256) (H : ∀ u', lx_R (ls_seal g) u' → post u') : wpX_sealNewPiece post u := by
  have hR' := hR
  obtain ⟨cNL, cDL, cDB, cWF, cWC, cWL, cWB, cIF, cIC, cTT, cIL, cIB, cKN, cNX, cTF, cOW, cRS, cOC, cOA, cOK, cPS, cPL, cPT, cPK, cPB, cNP⟩ := u
  obtain ⟨rNL, rDL, rDB, rWF, rWC, rWL, rWB, rIF, rIC, rTT, rIL, rIB, rKN, rNX, rTF, rOW, rRS, rOC, rOA, rOK, rPL, rPT, rPK, rPB, rNP⟩ := hR'
  unfold wpX_sealNewPiece
  dsimp only
  subst rNL
  refine lx_ckNP (fr := 0) hR hb (by omega) ?_
  have e : ck_crc (fun i => g 23 (0 + i)) (g 24 0) = ck_crc (g 23) (g 24 0) := ck_crc_congr fun i _ => by rw [Nat.zero_add]
  have hlt : ck_crc (g 23) (g 24 0) < 65536 := ck_crc_lt fun i _ => hb i
  rw [e, nI_1, nI_clamp (by omega), nI_clamp (by omega), lx_shr8 (by omega), lx_255 (by omega)]
  refine ⟨vp_in_nI (by omega) (by decide), nm_e ⟨vp_in_nI (by omega) (by decide), nm_e (nm_r (nI_add (g 24 0) 2) ?_)⟩⟩
  exact H _ (lx_uNL _ (lx_uNP _ _ (lx_uNP _ _ hR)))
theorem lx_to13 {post : Int32 → SX → Prop} {g : Nat → Nat → Nat} {e : Nat} (he : e < 2) (h12 : g 16 e ≤ 12) (hk : ∀ i, i < g 16 e → g 17 (e * 12 + i) < 16 ∧ g 18 (e * 12 + i) ≤ 3)
    (H : ∀ g1 kept fx u', ls_OI g g1 e (g 16 e) kept fx → lx_R (ls_up g1 16 e kept) u' → post (nI fx) u') : ∀ (r i kept fx n : Nat) (g1 : Nat → Nat → Nat) {cNL : Int32} {cDL cDB cWF cWC cWL cWB cIF cIC cTT cIL cIB cKN cNX cTF cOW cRS cOC cOA cOK cPS cPL cPT cPK cPB cNP : Nat → Int32}, i + r = g 16 e → r < n → ls_OI g g1 e i kept fx → lx_R g1 (cNL, cDL, cDB, cWF, cWC, cWL, cWB, cIF, cIC, cTT, cIL, cIB, cKN, cNX, cTF, cOW, cRS, cOC, cOA, cOK, cPS, cPL, cPT, cPK, cPB, cNP) →
    wX_takeOrdersDue_13 post (nI e) (nI (e * 12)) cNL n (nI fx) (nI kept) (nI i) cDL cDB cWF cWC cWL cWB cIF cIC cTT cIL cIB cKN cNX cTF cOW cRS cOC cOA cOK cPS cPL cPT cPK cPB cNP := by
  intro r
  induction r with
  | zero =>
    intro i kept fx n g1 cNL cDL cDB cWF cWC cWL cWB cIF cIC cTT cIL cIB cKN cNX cTF cOW cRS cOC cOA cOK cPS cPL cPT cPK cPB cNP hi hn hO hR
    obtain ⟨m, rfl⟩ : ∃ m, n = m + 1 := ⟨n - 1, by omega⟩
    have hR' := hR
    obtain ⟨rNL, rDL, rDB, rWF, rWC, rWL, rWB, rIF, rIC, rTT, rIL, rIB, rKN, rNX, rTF, rOW, rRS, rOC, rOA, rOK, rPL, rPT, rPK, rPB, rNP⟩ := hR'
    rw [wX_takeOrdersDue_13]
    dsimp only
    rw [nI_clamp (by omega : e < 2 ^ 31), rOC, hO.1 16 (by decide) (by decide)]
    obtain rfl : i = g 16 e := by omega
    exact ⟨vp_in_nI he (by decide), br_t (nI_le (Nat.le_refl _) (by omega)) ⟨vp_in_nI he (by decide), nm_e (H _ _ _ _ hO (lx_uOC _ _ hR))⟩⟩
  | succ r ih =>
    intro i kept fx n g1 cNL cDL cDB cWF cWC cWL cWB cIF cIC cTT cIL cIB cKN cNX cTF cOW cRS cOC cOA cOK cPS cPL cPT cPK cPB cNP hi hn hO hR
    obtain ⟨m, rfl⟩ : ∃ m, n = m + 1 := ⟨n - 1, by omega⟩
    have hR' := hR
    obtain ⟨rNL, rDL, rDB, rWF, rWC, rWL, rWB, rIF, rIC, rTT, rIL, rIB, rKN, rNX, rTF, rOW, rRS, rOC, rOA, rOK, rPL, rPT, rPK, rPB, rNP⟩ := hR'
    rw [wX_takeOrdersDue_13]
    dsimp only
    have hO' := hO
    obtain ⟨h1, h2, h3, h4, h5, h6, h7, h8⟩ := hO'
    obtain ⟨k1, k2⟩ := h7 (e * 12 + i) (by omega)
    have hki := hk i (by omega)
    rw [nI_clamp (by omega : e < 2 ^ 31), rOC, h1 16 (by decide) (by decide), nI_add, nI_add, nI_clamp (by omega), nI_clamp (by omega), rOA, rOK]
    refine ⟨vp_in_nI he (by decide), br_f (nI_ge (by omega) (by omega)) ⟨vp_in_nI (by omega) (by decide), ?_⟩⟩
    refine pk_eq (g1 17 (e * 12 + i)) 0 (fun hz => ⟨vp_in_nI (by omega) (by decide), nm_r (lx_or fx h5 _ (by omega)) (nm_r (nI_1 i) ?_)⟩) (fun hz => ⟨vp_in_nI (by omega) (by decide), vp_in_nI (by omega) (by decide), ?_⟩) rfl rfl (by omega) (by omega)
    · exact ih (i + 1) kept _ m g1 (by omega) (by omega) (ls_OI_due hO (by omega) (by omega)) hR
    · rw [show nI (g1 17 (e * 12 + i)) - 1 = nI (g1 17 (e * 12 + i) - 1) from pk_sub (b := 1) (by omega)]
      refine nm_e ⟨vp_in_nI (by omega) (by decide), vp_in_nI (by omega) (by decide), nm_e (nm_r (nI_1 kept) (nm_r (nI_1 i) ?_))⟩
      exact ih (i + 1) (kept + 1) fx m _ (by omega) (by omega) (ls_OI_keep hO (by omega) hz) (lx_uOK _ _ (lx_uOA _ _ hR))
theorem lx_orders {post : Int32 → SX → Prop} {g : Nat → Nat → Nat} {u : SX} {e : Nat} (hR : lx_R g u) (he : e < 2) (h12 : g 16 e ≤ 12) (hk : ∀ i, i < g 16 e → g 17 (e * 12 + i) < 16 ∧ g 18 (e * 12 + i) ≤ 3)
    (H : ∀ g1 kept fx u', ls_OI g g1 e (g 16 e) kept fx → lx_R (ls_up g1 16 e kept) u' → post (nI fx) u') : wpX_takeOrdersDue post u (nI e) := by
  obtain ⟨cNL, cDL, cDB, cWF, cWC, cWL, cWB, cIF, cIC, cTT, cIL, cIB, cKN, cNX, cTF, cOW, cRS, cOC, cOA, cOK, cPS, cPL, cPT, cPK, cPB, cNP⟩ := u
  unfold wpX_takeOrdersDue
  dsimp only
  refine nm_r (pk_mul e 12) ⟨g 16 e + 1, ?_⟩
  exact lx_to13 he h12 hk H (g 16 e) 0 0 0 _ g (by omega) (by omega) (ls_OI_0 g e) hR
/-! putting a piece under way -/
def ls_pc (g : Nat → Nat → Nat) (q j : Nat) : Nat → Nat → Nat := fun f x => if f = 22 then (if q * 30 ≤ x ∧ x < q * 30 + j then g 23 (x - q * 30) else g 22 x) else g f x
theorem ls_pc_0 (g : Nat → Nat → Nat) (q : Nat) : ls_pc g q 0 = g := by
  funext f x
  unfold ls_pc
  split
  · next e => subst e; exact if_neg (by omega)
  · rfl
theorem ls_pc_s (g : Nat → Nat → Nat) (q j : Nat) : ls_up (ls_pc g q j) 22 (q * 30 + j) (g 23 j) = ls_pc g q (j + 1) := by
  funext f x
  unfold ls_up ls_pc
  by_cases e : f = 22
  · rw [if_pos e, if_pos e, if_pos rfl]
    by_cases h : x = q * 30 + j
    · rw [if_pos h, if_pos (by omega)]
      congr 1; omega
    · rw [if_neg h]
      by_cases h2 : q * 30 ≤ x ∧ x < q * 30 + j
      · rw [if_pos h2, if_pos (by omega)]
      · rw [if_neg h2, if_neg (by omega)]
  · rw [if_neg e, if_neg e, if_neg e]
theorem ls_pc_put (g : Nat → Nat → Nat) (q e t : Nat) : ls_up (ls_up (ls_up (ls_pc g q (g 24 0)) 19 q (g 24 0)) 20 q e) 21 q t = ls_put g q e t := by
  funext f x
  by_cases h : f = 22
  · subst h; rfl
  · simp [ls_put, ls_pc, ls_up, h]
theorem lx_pu20 {post : SX → Prop} {g : Nat → Nat → Nat} {e t q : Nat} (he : e < 2) (hq : q < 40) (h30 : g 24 0 ≤ 30) (H : ∀ u', lx_R (ls_put g q e t) u' → post u') : ∀ (r j n : Nat) {cNL : Int32} {cDL cDB cWF cWC cWL cWB cIF cIC cTT cIL cIB cKN cNX cTF cOW cRS cOC cOA cOK cPS cPL cPT cPK cPB cNP : Nat → Int32}, j + r = g 24 0 → r < n → lx_R (ls_pc g q j) (cNL, cDL, cDB, cWF, cWC, cWL, cWB, cIF, cIC, cTT, cIL, cIB, cKN, cNX, cTF, cOW, cRS, cOC, cOA, cOK, cPS, cPL, cPT, cPK, cPB, cNP) →
    wX_putUnderWay_20 post (nI e) (nI t) (nI q) cNL n (nI j) cDL cDB cWF cWC cWL cWB cIF cIC cTT cIL cIB cKN cNX cTF cOW cRS cOC cOA cOK cPS cPL cPT cPK cPB cNP := by
  intro r
  induction r with
  | zero =>
    intro j n cNL cDL cDB cWF cWC cWL cWB cIF cIC cTT cIL cIB cKN cNX cTF cOW cRS cOC cOA cOK cPS cPL cPT cPK cPB cNP hj hn hR
    obtain ⟨m, rfl⟩ : ∃ m, n = m + 1 := ⟨n - 1, by omega⟩
    have hR' := hR
    obtain ⟨rNL, rDL, rDB, rWF, rWC, rWL, rWB, rIF, rIC, rTT, rIL, rIB, rKN, rNX, rTF, rOW, rRS, rOC, rOA, rOK, rPL, rPT, rPK, rPB, rNP⟩ := hR'
    rw [wX_putUnderWay_20]
    dsimp only
    obtain rfl : j = g 24 0 := by omega
    have rNL' : cNL = nI (g 24 0) := rNL
    rw [nI_clamp (by omega : q < 2 ^ 31), rNL']
    refine br_t (nI_le (Nat.le_refl _) (by omega)) ⟨vp_in_nI hq (by decide), nm_e ⟨vp_in_nI hq (by decide), nm_e ⟨vp_in_nI hq (by decide), nm_e ?_⟩⟩⟩
    refine H _ ?_
    rw [← ls_pc_put]
    rw [rNL'] at hR
    exact lx_uPK _ _ (lx_uPT _ _ (lx_uPL _ _ hR))
  | succ r ih =>
    intro j n cNL cDL cDB cWF cWC cWL cWB cIF cIC cTT cIL cIB cKN cNX cTF cOW cRS cOC cOA cOK cPS cPL cPT cPK cPB cNP hj hn hR
    obtain ⟨m, rfl⟩ : ∃ m, n = m + 1 := ⟨n - 1, by omega⟩
    have hR' := hR
    obtain ⟨rNL, rDL, rDB, rWF, rWC, rWL, rWB, rIF, rIC, rTT, rIL, rIB, rKN, rNX, rTF, rOW, rRS, rOC, rOA, rOK, rPL, rPT, rPK, rPB, rNP⟩ := hR'
    rw [wX_putUnderWay_20]
    dsimp only
    have rNL' : cNL = nI (g 24 0) := rNL
    have rNPj : cNP j = nI (g 23 j) := rNP j
    have em : nI q * 30 = nI (q * 30) := pk_mul q 30
    rw [nI_clamp (by omega : j < 2 ^ 31), rNL', em, nI_add, nI_clamp (by omega : q * 30 + j < 2 ^ 31), rNPj]
    refine br_f (nI_ge (by omega) (by omega)) ⟨vp_in_nI (by omega) (by decide), vp_in_nI (by omega) (by decide), nm_e (nm_r (nI_1 j) ?_)⟩
    have h2 := lx_uPB (q * 30 + j) (g 23 j) hR
    rw [ls_pc_s, rNL'] at h2
    exact ih (j + 1) m (by omega) (by omega) h2
theorem lx_pu2 {post : SX → Prop} {g : Nat → Nat → Nat} {e t : Nat} {cNL : Int32} {cDL cDB cWF cWC cWL cWB cIF cIC cTT cIL cIB cKN cNX cTF cOW cRS cOC cOA cOK cPS cPL cPT cPK cPB cNP : Nat → Int32} (he : e < 2) (h30 : g 24 0 ≤ 30) (hP : ∀ q, q < 40 → g 19 q < 2 ^ 31) (hR : lx_R g (cNL, cDL, cDB, cWF, cWC, cWL, cWB, cIF, cIC, cTT, cIL, cIB, cKN, cNX, cTF, cOW, cRS, cOC, cOA, cOK, cPS, cPL, cPT, cPK, cPB, cNP)) (H : ∀ q u', q < 40 → g 19 q = 0 → lx_R (ls_put g q e t) u' → post u')
    (H0 : (∀ q, q < 40 → g 19 q ≠ 0) → post (cNL, cDL, cDB, cWF, cWC, cWL, cWB, cIF, cIC, cTT, cIL, cIB, cKN, cNX, cTF, cOW, cRS, cOC, cOA, cOK, cPS, cPL, cPT, cPK, cPB, cNP)) : ∀ (r q n : Nat), q + r = 40 → r < n → (∀ x, x < q → g 19 x ≠ 0) → wX_putUnderWay_2 post (nI e) (nI t) cNL cDL cDB cWF cWC cWL cWB cIF cIC cTT cIL cIB cKN cNX cTF cOW cRS cOC cOA cOK cPS cPL cPT cPK cPB cNP n (nI q) := by
  have hR' := hR
  obtain ⟨rNL, rDL, rDB, rWF, rWC, rWL, rWB, rIF, rIC, rTT, rIL, rIB, rKN, rNX, rTF, rOW, rRS, rOC, rOA, rOK, rPL, rPT, rPK, rPB, rNP⟩ := hR'
  intro r
  induction r with
  | zero =>
    intro q n hq hn hx
    obtain ⟨m, rfl⟩ : ∃ m, n = m + 1 := ⟨n - 1, by omega⟩
    rw [wX_putUnderWay_2]
    dsimp only
    exact br_t (nI_le (a := 40) (by omega) (by omega)) (H0 fun x h => hx x (by omega))
  | succ r ih =>
    intro q n hq hn hx
    obtain ⟨m, rfl⟩ : ∃ m, n = m + 1 := ⟨n - 1, by omega⟩
    rw [wX_putUnderWay_2]
    dsimp only
    rw [nI_clamp (by omega : q < 2 ^ 31), rPL]
    refine br_f (nI_ge (b := 40) (by omega) (by decide)) ⟨vp_in_nI (by omega) (by decide), ?_⟩
    refine pk_eq (g 19 q) 0 (fun hz => ⟨g 24 0 + 1, ?_⟩) (fun hz => nm_r (nI_1 q) ?_) rfl rfl (hP q (by omega)) (by omega)
    · exact lx_pu20 he (by omega) h30 (fun u' h => H q u' (by omega) hz h) (g 24 0) 0 _ (by omega) (by omega) (by rw [ls_pc_0]; exact hR)
    · refine ih (q + 1) m (by omega) (by omega) fun x h => ?_
      by_cases e : x = q
      · rw [e]; exact hz
      · exact hx x (by omega)
theorem lx_put {post : SX → Prop} {g : Nat → Nat → Nat} {u : SX} {e t : Nat} (hR : lx_R g u) (he : e < 2) (h30 : g 24 0 ≤ 30) (hP : ∀ q, q < 40 → g 19 q < 2 ^ 31) (H : ∀ q u', q < 40 → g 19 q = 0 → lx_R (ls_put g q e t) u' → post u')
    (H0 : (∀ q, q < 40 → g 19 q ≠ 0) → post u) : wpX_putUnderWay post u (nI e) (nI t) := by
  obtain ⟨cNL, cDL, cDB, cWF, cWC, cWL, cWB, cIF, cIC, cTT, cIL, cIB, cKN, cNX, cTF, cOW, cRS, cOC, cOA, cOK, cPS, cPL, cPT, cPK, cPB, cNP⟩ := u
  exact ⟨41, lx_pu2 he h30 hP hR H H0 40 0 41 rfl (by decide) (fun x h => absurd h (Nat.not_lt_zero x))⟩
