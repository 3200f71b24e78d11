/-! small things of the walks -/
theorem lx_b1 : vp_nar .boolean 1 = nI 1 := by rfl
theorem lx_b0 : vp_nar .boolean 0 = nI 0 := by rfl
theorem lx_shl1 {s : Nat} (h : s < 65536) : nI s <<< ((1 : Int32) &&& 31) = nI (2 * s) := by
  rw [pk_shlN _ 1 (by decide) (by omega), Nat.mul_comm]
theorem lx_shl8 {s : Nat} (h : s < 256) : nI s <<< ((8 : Int32) &&& 31) = nI (s * 256) := pk_shlN _ 8 (by decide) (by omega)
theorem lx_shr8 {s : Nat} (h : s < 2 ^ 31) : nI s >>> ((8 : Int32) &&& 31) = nI (s / 256) := pk_shrN h _ 8 (by decide)
theorem lx_255 {s : Nat} (h : s < 2 ^ 31) : nI s &&& 255 = nI (s % 256) := pk_andN (by omega) 8 (by decide)
theorem lx_65535 {s : Nat} (h : s < 2 ^ 31) : nI s &&& 65535 = nI (s % 65536) := pk_andN (by omega) 16 (by decide)
theorem lx_sh1 : ∀ t, t < 8 → (1 : Int32) <<< (nI t &&& 31) = nI (2 ^ t) := by decide +kernel
theorem lx_or : ∀ a, a < 16 → ∀ k, k < 4 → nI a ||| ((1 : Int32) <<< (nI k &&& 31)) = nI (a ||| 2 ^ k) := by decide +kernel
theorem lx_fx : ∀ a, a < 16 → ∀ k, k < 4 → (((nI a >>> (nI k &&& 31)) &&& 1) = 1 ↔ a / 2 ^ k % 2 = 1) := by decide +kernel
theorem lx_ck27PB {post : Int32 → Prop} {J6 : Int32 → Int32 → Prop} {x1 x2 x4 : Int32} {cNL : Int32} {cDL cDB cWF cWC cWL cWB cIF cIC cTT cIL cIB cKN cNX cTF cOW cRS cOC cOA cOK cPS cPL cPT cPK cPB cNP : Nat → Int32} : ∀ (r j s n : Nat), j + r = 8 → s < 65536 → r < n → J6 (nI (ck_it r s)) (x4 + 1) →
    wX_checksum__pieceBytes_27 post J6 x1 x2 x4 cNL cDL cDB cWF cWC cWL cWB cIF cIC cTT cIL cIB cKN cNX cTF cOW cRS cOC cOA cOK cPS cPL cPT cPK cPB cNP n (nI s) (nI j) := by
  intro r
  induction r with
  | zero =>
    intro j s n hj hs hn H
    obtain ⟨m, rfl⟩ : ∃ m, n = m + 1 := ⟨n - 1, by omega⟩
    rw [wX_checksum__pieceBytes_27]
    exact br_t (nI_le (a := 8) (by omega) (by omega)) (nm_e H)
  | succ r ih =>
    intro j s n hj hs hn H
    obtain ⟨m, rfl⟩ : ∃ m, n = m + 1 := ⟨n - 1, by omega⟩
    rw [wX_checksum__pieceBytes_27]
    refine br_f (nI_ge (b := 8) (by omega) (by decide)) (nm_r (lx_shl1 hs) ?_)
    have hjv := ck_java hs
    refine pk_le (2 * s) 65535 (fun h => nm_r (nI_1 j) ?_) (fun h => nm_r (nx_xor (2 * s) 69665) (nm_r (nI_1 j) ?_)) rfl rfl (by omega) (by omega)
    · rw [if_neg (by omega)] at hjv
      rw [hjv]
      exact ih (j + 1) (ck_st s) m (by omega) (ck_st_lt s) (by omega) H
    · rw [if_pos h] at hjv
      rw [hjv]
      exact ih (j + 1) (ck_st s) m (by omega) (ck_st_lt s) (by omega) H
theorem lx_ck6PB {post : Int32 → Prop} {g : Nat → Nat → Nat} {fr cnt : Nat} {cNL : Int32} {cDL cDB cWF cWC cWL cWB cIF cIC cTT cIL cIB cKN cNX cTF cOW cRS cOC cOA cOK cPS cPL cPT cPK cPB cNP : Nat → Int32} (hr : ∀ i, cPB i = nI (g 22 i)) (hb : ∀ i, g 22 i < 256) (hl : fr + cnt ≤ 1200) (H : post (nI (ck_crc (fun i => g 22 (fr + i)) cnt))) : ∀ (r i n : Nat), i + r = cnt → r < n →
    wX_checksum__pieceBytes_6 post (nI fr) (nI cnt) cNL cDL cDB cWF cWC cWL cWB cIF cIC cTT cIL cIB cKN cNX cTF cOW cRS cOC cOA cOK cPS cPL cPT cPK cPB cNP n (nI (ck_crc (fun i => g 22 (fr + i)) i)) (nI i) := by
  intro r
  induction r with
  | zero =>
    intro i n hi hn
    obtain ⟨m, rfl⟩ : ∃ m, n = m + 1 := ⟨n - 1, by omega⟩
    rw [wX_checksum__pieceBytes_6]
    obtain rfl : i = cnt := by omega
    exact br_t (nI_le (Nat.le_refl _) (by omega)) H
  | succ r ih =>
    intro i n hi hn
    obtain ⟨m, rfl⟩ : ∃ m, n = m + 1 := ⟨n - 1, by omega⟩
    rw [wX_checksum__pieceBytes_6]
    refine br_f (nI_ge (by omega) (by omega)) ⟨?_, nm_r (e' := nI (ck_crc (fun i => g 22 (fr + i)) i ^^^ (g 22 (fr + i) * 256))) ?_ ⟨9, ?_⟩⟩
    · rw [nI_add]; exact vp_in_nI (by omega) (by decide)
    · rw [nI_add, nI_clamp (by omega), hr, lx_shl8 (hb _), nx_xor]
    · refine lx_ck27PB 8 0 _ 9 rfl (ck_xlt (ck_crc_lt fun j _ => hb _) (by have := hb (fr + i); omega)) (by decide) ?_
      rw [nI_1]
      exact ih (i + 1) m (by omega) (by omega)
theorem lx_ckPB {post : Int32 → Prop} {g : Nat → Nat → Nat} {fr cnt : Nat} {u : SX} (hR : lx_R g u) (hb : ∀ i, g 22 i < 256) (hl : fr + cnt ≤ 1200) (H : post (nI (ck_crc (fun i => g 22 (fr + i)) cnt))) :
    wpX_checksum__pieceBytes post u (nI fr) (nI cnt) := by
  obtain ⟨cNL, cDL, cDB, cWF, cWC, cWL, cWB, cIF, cIC, cTT, cIL, cIB, cKN, cNX, cTF, cOW, cRS, cOC, cOA, cOK, cPS, cPL, cPT, cPK, cPB, cNP⟩ := u
  obtain ⟨rNL, rDL, rDB, rWF, rWC, rWL, rWB, rIF, rIC, rTT, rIL, rIB, rKN, rNX, rTF, rOW, rRS, rOC, rOA, rOK, rPL, rPT, rPK, rPB, rNP⟩ := hR
  exact ⟨cnt + 1, lx_ck6PB rPB hb hl H cnt 0 (cnt + 1) (by omega) (by omega)⟩
theorem lx_ck27NP {post : Int32 → Prop} {J6 : Int32 → Int32 → Prop} {x1 x2 x4 : Int32} {cNL : Int32} {cDL cDB cWF cWC cWL cWB cIF cIC cTT cIL cIB cKN cNX cTF cOW cRS cOC cOA cOK cPS cPL cPT cPK cPB cNP : Nat → Int32} : ∀ (r j s n : Nat), j + r = 8 → s < 65536 → r < n → J6 (nI (ck_it r s)) (x4 + 1) →
    wX_checksum__newPiece_27 post J6 x1 x2 x4 cNL cDL cDB cWF cWC cWL cWB cIF cIC cTT cIL cIB cKN cNX cTF cOW cRS cOC cOA cOK cPS cPL cPT cPK cPB cNP n (nI s) (nI j) := by
  intro r
  induction r with
  | zero =>
    intro j s n hj hs hn H
    obtain ⟨m, rfl⟩ : ∃ m, n = m + 1 := ⟨n - 1, by omega⟩
    rw [wX_checksum__newPiece_27]
    exact br_t (nI_le (a := 8) (by omega) (by omega)) (nm_e H)
  | succ r ih =>
    intro j s n hj hs hn H
    obtain ⟨m, rfl⟩ : ∃ m, n = m + 1 := ⟨n - 1, by omega⟩
    rw [wX_checksum__newPiece_27]
    refine br_f (nI_ge (b := 8) (by omega) (by decide)) (nm_r (lx_shl1 hs) ?_)
    have hjv := ck_java hs
    refine pk_le (2 * s) 65535 (fun h => nm_r (nI_1 j) ?_) (fun h => nm_r (nx_xor (2 * s) 69665) (nm_r (nI_1 j) ?_)) rfl rfl (by omega) (by omega)
    · rw [if_neg (by omega)] at hjv
      rw [hjv]
      exact ih (j + 1) (ck_st s) m (by omega) (ck_st_lt s) (by omega) H
    · rw [if_pos h] at hjv
      rw [hjv]
      exact ih (j + 1) (ck_st s) m (by omega) (ck_st_lt s) (by omega) H
theorem lx_ck6NP {post : Int32 → Prop} {g : Nat → Nat → Nat} {fr cnt : Nat} {cNL : Int32} {cDL cDB cWF cWC cWL cWB cIF cIC cTT cIL cIB cKN cNX cTF cOW cRS cOC cOA cOK cPS cPL cPT cPK cPB cNP : Nat → Int32} (hr : ∀ i, cNP i = nI (g 23 i)) (hb : ∀ i, g 23 i < 256) (hl : fr + cnt ≤ 30) (H : post (nI (ck_crc (fun i => g 23 (fr + i)) cnt))) : ∀ (r i n : Nat), i + r = cnt → r < n →
    wX_checksum__newPiece_6 post (nI fr) (nI cnt) cNL cDL cDB cWF cWC cWL cWB cIF cIC cTT cIL cIB cKN cNX cTF cOW cRS cOC cOA cOK cPS cPL cPT cPK cPB cNP n (nI (ck_crc (fun i => g 23 (fr + i)) i)) (nI i) := by
  intro r
  induction r with
  | zero =>
    intro i n hi hn
    obtain ⟨m, rfl⟩ : ∃ m, n = m + 1 := ⟨n - 1, by omega⟩
    rw [wX_checksum__newPiece_6]
    obtain rfl : i = cnt := by omega
    exact br_t (nI_le (Nat.le_refl _) (by omega)) H
  | succ r ih =>
    intro i n hi hn
    obtain ⟨m, rfl⟩ : ∃ m, n = m + 1 := ⟨n - 1, by omega⟩
    rw [wX_checksum__newPiece_6]
    refine br_f (nI_ge (by omega) (by omega)) ⟨?_, nm_r (e' := nI (ck_crc (fun i => g 23 (fr + i)) i ^^^ (g 23 (fr + i) * 256))) ?_ ⟨9, ?_⟩⟩
    · rw [nI_add]; exact vp_in_nI (by omega) (by decide)
    · rw [nI_add, nI_clamp (by omega), hr, lx_shl8 (hb _), nx_xor]
    · refine lx_ck27NP 8 0 _ 9 rfl (ck_xlt (ck_crc_lt fun j _ => hb _) (by have := hb (fr + i); omega)) (by decide) ?_
      rw [nI_1]
      exact ih (i + 1) m (by omega) (by omega)
theorem lx_ckNP {post : Int32 → Prop} {g : Nat → Nat → Nat} {fr cnt : Nat} {u : SX} (hR : lx_R g u) (hb : ∀ i, g 23 i < 256) (hl : fr + cnt ≤ 30) (H : post (nI (ck_crc (fun i => g 23 (fr + i)) cnt))) :
    wpX_checksum__newPiece post u (nI fr) (nI cnt) := by
  obtain ⟨cNL, cDL, cDB, cWF, cWC, cWL, cWB, cIF, cIC, cTT, cIL, cIB, cKN, cNX, cTF, cOW, cRS, cOC, cOA, cOK, cPS, cPL, cPT, cPK, cPB, cNP⟩ := u
  obtain ⟨rNL, rDL, rDB, rWF, rWC, rWL, rWB, rIF, rIC, rTT, rIL, rIB, rKN, rNX, rTF, rOW, rRS, rOC, rOA, rOK, rPL, rPT, rPK, rPB, rNP⟩ := hR
  exact ⟨cnt + 1, lx_ck6NP rNP hb hl H cnt 0 (cnt + 1) (by omega) (by omega)⟩
theorem lx_unsp {post : Int32 → Prop} {g : Nat → Nat → Nat} {u : SX} {q : Nat} (hR : lx_R g u) (hb : ∀ i, g 22 i < 256) (hq : q < 40) (h6 : 6 ≤ g 19 q) (h30 : g 19 q ≤ 30)
    (H1 : ls_ds g q = 0 → post 1) (H0 : ls_ds g q ≠ 0 → post 0) : wpX_isUnspoiled post u (nI q) := by
  have hR' := hR
  obtain ⟨cNL, cDL, cDB, cWF, cWC, cWL, cWB, cIF, cIC, cTT, cIL, cIB, cKN, cNX, cTF, cOW, cRS, cOC, cOA, cOK, cPS, cPL, cPT, cPK, cPB, cNP⟩ := u
  obtain ⟨rNL, rDL, rDB, rWF, rWC, rWL, rWB, rIF, rIC, rTT, rIL, rIB, rKN, rNX, rTF, rOW, rRS, rOC, rOA, rOK, rPL, rPT, rPK, rPB, rNP⟩ := hR'
  unfold wpX_isUnspoiled
  dsimp only
  rw [nI_clamp (by omega : q < 2 ^ 31), rPL]
  refine ⟨vp_in_nI hq (by decide), nm_r (pk_sub (b := 2) (by omega)) (br_t (nI_le (a := 4) (by omega) (by omega)) (nm_r (pk_mul q 30) ?_))⟩
  rw [nI_add, nI_1, nI_clamp (by omega), nI_clamp (by omega), rPB, rPB]
  refine ⟨vp_in_nI (by omega) (by decide), vp_in_nI (by omega) (by decide), nm_r (e' := nI (g 22 (q * 30 + (g 19 q - 2)) * 256 + g 22 (q * 30 + (g 19 q - 2) + 1))) ?_ ?_⟩
  · show nI _ * nI 256 + _ = _
    rw [pk_mul, nI_add]
  · refine lx_ckPB hR hb (by omega) ?_
    have hlt : ck_crc (fun i => g 22 (q * 30 + i)) (g 19 q - 2) < 65536 := ck_crc_lt fun i _ => hb _
    have h1 := hb (q * 30 + (g 19 q - 2))
    have h2 := hb (q * 30 + (g 19 q - 2) + 1)
    have h3 := hb (q * 30 + (g 19 q - 2 + 1))
    have hd : ls_ds g q = 0 ↔ _ := ck_dis0 (f := fun i => g 22 (q * 30 + i)) (n := g 19 q - 2) (hb _)
    exact pk_eq _ _ (fun h => H1 (hd.mpr h)) (fun h => H0 fun z => h (hd.mp z)) rfl rfl (by omega) (by omega)
theorem lx_flip {post : SX → Prop} {g : Nat → Nat → Nat} {u : SX} {b : Nat} (hR : lx_R g u) (hb : b < 240)
    (H : ∀ u', lx_R (ls_up g 23 (b / 8) (g 23 (b / 8) ^^^ 2 ^ (b % 8))) u' → post u') : wpX_flipBit post u (nI b) := by
  have hR' := hR
  obtain ⟨cNL, cDL, cDB, cWF, cWC, cWL, cWB, cIF, cIC, cTT, cIL, cIB, cKN, cNX, cTF, cOW, cRS, cOC, cOA, cOK, cPS, cPL, cPT, cPK, cPB, cNP⟩ := u
  obtain ⟨rNL, rDL, rDB, rWF, rWC, rWL, rWB, rIF, rIC, rTT, rIL, rIB, rKN, rNX, rTF, rOW, rRS, rOC, rOA, rOK, rPL, rPT, rPK, rPB, rNP⟩ := hR'
  unfold wpX_flipBit
  dsimp only
  have e1 : nI b / 8 = nI (b / 8) := pk_div (d := 8) (by omega) (by decide) (by decide)
  have e2 : nI b - nI (b / 8) * 8 = nI (b % 8) := by
    have := pk_rem (a := b) (d := 8) (by omega) (by decide) (by decide)
    rw [← e1]
    exact this
  rw [e1, e2, nI_clamp (by omega), rNP, lx_sh1 _ (by omega), nx_xor]
  exact ⟨by decide, vp_in_nI (by omega) (by decide), by decide, vp_in_nI (by omega) (by decide), nm_e (H _ (lx_uNP _ _ hR))⟩
