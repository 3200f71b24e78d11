/-! walks that read -/
theorem lx_drop {post : SX → Prop} {g : Nat → Nat → Nat} {u : SX} {P : Nat} (hR : lx_R g u) (hP : P < 4) (hW : g 3 P < 2 ^ 30) (hF : g 2 P < 2 ^ 30) (H : ∀ u', lx_R (ls_drop g P) u' → post u') : wpX_dropFirstWaiting post u (nI P) := by
  have hR' := hR
  obtain ⟨cNL, cDL, cDB, cWF, cWC, cWL, cWB, cIF, cIC, cTT, cIL, cIB, cKN, cNX, cTF, cOW, cRS, cOC, cOA, cOK, cPS, cPL, cPT, cPK, cPB, cNP⟩ := u
  obtain ⟨rNL, rDL, rDB, rWF, rWC, rWL, rWB, rIF, rIC, rTT, rIL, rIB, rKN, rNX, rTF, rOW, rRS, rOC, rOA, rOK, rPL, rPT, rPK, rPB, rNP⟩ := hR'
  unfold wpX_dropFirstWaiting
  dsimp only
  rw [nI_clamp (by omega : P < 2 ^ 31), rWC, rWF, nI_1]
  have e1 : nI (g 2 P + 1) - nI (g 2 P + 1) / 8 * 8 = nI ((g 2 P + 1) % 8) := pk_rem (d := 8) (by omega) (by decide) (by decide)
  rw [e1]
  have hv : ∀ {N : Nat}, N = 4 → vp_in (nI P) N := fun h => by subst h; exact vp_in_nI hP (by decide)
  refine ⟨hv rfl, pk_le (g 3 P) 0 (fun h => ?_) (fun h => ?_) rfl rfl (by omega) (by omega)⟩
  · have : ls_drop g P = g := if_neg (by omega)
    exact H _ (by rw [this]; exact hR)
  · have : ls_drop g P = ls_up (ls_up g 2 P ((g 2 P + 1) % 8)) 3 P (g 3 P - 1) := if_pos h
    rw [this] at H
    have e2 : nI (g 3 P) - 1 = nI (g 3 P - 1) := pk_sub (b := 1) (by omega)
    rw [e2]
    exact ⟨hv rfl, by decide, hv rfl, nm_e ⟨hv rfl, hv rfl, nm_e (H _ (lx_uWC _ _ (lx_uWF _ _ hR)))⟩⟩
theorem lx_rA67 {post : SX → Prop} {g1 : Nat → Nat → Nat} {P n fl : Nat} {cNL : Int32} {cDL cDB cWF cWC cWL cWB cIF cIC cTT cIL cIB cKN cNX cTF cOW cRS cOC cOA cOK cPS cPL cPT cPK cPB cNP : Nat → Int32} (hR : lx_R g1 (cNL, cDL, cDB, cWF, cWC, cWL, cWB, cIF, cIC, cTT, cIL, cIB, cKN, cNX, cTF, cOW, cRS, cOC, cOA, cOK, cPS, cPL, cPT, cPK, cPB, cNP)) (hP : P < 4) (hn : n < 65536) (hf : fl ≤ 1) (hX : g1 12 P < 2 ^ 31)
    (H : ∀ u', lx_R (if fl = 1 ∧ n = g1 12 P then ls_up g1 13 P 1 else g1) u' → post u') : wX_readAnswer_67 post (nI P) (nI n) (nI fl) cNL cDL cDB cWF cWC cWL cWB cIF cIC cTT cIL cIB cKN cNX cTF cOW cRS cOC cOA cOK cPS cPL cPT cPK cPB cNP := by
  have hR' := hR
  obtain ⟨rNL, rDL, rDB, rWF, rWC, rWL, rWB, rIF, rIC, rTT, rIL, rIB, rKN, rNX, rTF, rOW, rRS, rOC, rOA, rOK, rPL, rPT, rPK, rPB, rNP⟩ := hR'
  unfold wX_readAnswer_67
  rw [nI_clamp (by omega : P < 2 ^ 31), rNX, lx_b1]
  refine pk_eq fl 0 (fun h => ?_) (fun h => ⟨vp_in_nI hP (by decide), ?_⟩) rfl rfl (by omega) (by omega)
  · rw [if_neg (by omega)] at H
    exact H _ hR
  · refine pk_eq n (g1 12 P) (fun h2 => ⟨vp_in_nI hP (by decide), nm_e ?_⟩) (fun h2 => ?_) rfl rfl (by omega) hX
    · rw [if_pos (by omega)] at H
      exact H _ (lx_uTF _ _ hR)
    · rw [if_neg (by omega)] at H
      exact H _ hR
theorem lx_rA {post : SX → Prop} {g : Nat → Nat → Nat} {u : SX} {P n fl : Nat} (hR : lx_R g u) (hP : P < 4) (hn : n < 65536) (hf : fl ≤ 1) (hX : g 11 P ≠ 0 → g 12 P < 2 ^ 30) (hK : g 11 P ≤ 1) (hW : g 3 P < 2 ^ 30) (hF : g 2 P < 2 ^ 30)
    (H : ∀ u', lx_R (ls_rA g P n fl) u' → post u') : wpX_readAnswer post u (nI P) (nI n) (nI fl) := by
  have hR' := hR
  obtain ⟨cNL, cDL, cDB, cWF, cWC, cWL, cWB, cIF, cIC, cTT, cIL, cIB, cKN, cNX, cTF, cOW, cRS, cOC, cOA, cOK, cPS, cPL, cPT, cPK, cPB, cNP⟩ := u
  obtain ⟨rNL, rDL, rDB, rWF, rWC, rWL, rWB, rIF, rIC, rTT, rIL, rIB, rKN, rNX, rTF, rOW, rRS, rOC, rOA, rOK, rPL, rPT, rPK, rPB, rNP⟩ := hR'
  unfold wpX_readAnswer
  dsimp only
  rw [nI_clamp (by omega : P < 2 ^ 31), rKN, lx_b1]
  have hv : ∀ {N : Nat}, N = 4 → vp_in (nI P) N := fun h => by subst h; exact vp_in_nI hP (by decide)
  unfold ls_rA at H
  refine ⟨hv rfl, pk_eq (g 11 P) 0 (fun h => ?_) (fun h => ⟨hv rfl, ?_⟩) rfl rfl (by omega) (by omega)⟩
  · rw [ls_rA1_0 h] at H
    refine ⟨hv rfl, nm_e ⟨hv rfl, nm_e ⟨hv rfl, nm_e ?_⟩⟩⟩
    refine lx_rA67 (lx_uRS P 0 (lx_uNX P n (lx_uKN P 1 hR))) hP hn hf ?_ H
    show (if P = P then n else g 12 P) < 2 ^ 31
    rw [if_pos rfl]; omega
  · have hX' := hX h
    rw [rNX, nI_1, lx_65535 (by omega)]
    refine pk_eq n ((g 12 P + 1) % 65536) (fun h2 => ⟨hv rfl, nm_e ⟨hv rfl, nm_e ?_⟩⟩) (fun h2 => ?_) rfl rfl (by omega) (by omega)
    · have e1 : ls_rA1 g P n = ls_drop (ls_up (ls_up g 12 P n) 15 P 0) P := by
        unfold ls_rA1; rw [if_neg h, if_pos h2]
      rw [e1] at H
      refine lx_drop (lx_uRS P 0 (lx_uNX P n hR)) hP hW hF fun u' hR1 => ?_
      obtain ⟨cNL1, cDL1, cDB1, cWF1, cWC1, cWL1, cWB1, cIF1, cIC1, cTT1, cIL1, cIB1, cKN1, cNX1, cTF1, cOW1, cRS1, cOC1, cOA1, cOK1, cPS1, cPL1, cPT1, cPK1, cPB1, cNP1⟩ := u'
      refine lx_rA67 hR1 hP hn hf ?_ H
      have e2 : ls_drop (ls_up (ls_up g 12 P n) 15 P 0) P 12 P = n := by
        unfold ls_drop
        split
        · exact if_pos rfl
        · exact if_pos rfl
      rw [e2]; omega
    · rw [ls_rA1_2 h h2] at H
      exact lx_rA67 hR hP hn hf (by omega) H
/-! a message is read -/
def ls_ac (g : Nat → Nat → Nat) (P q j : Nat) : Nat → Nat → Nat := fun f x =>
  if f = 10 then (if ls_slot g P * 24 ≤ x ∧ x < ls_slot g P * 24 + j then g 22 (q * 30 + 4 + (x - ls_slot g P * 24)) else g 10 x) else g f x
theorem ls_ac_0 (g : Nat → Nat → Nat) (P q : Nat) : ls_ac g P q 0 = g := by
  funext f x
  unfold ls_ac
  split
  · next e => subst e; exact if_neg (by omega)
  · rfl
theorem ls_ac_s (g : Nat → Nat → Nat) (P q j : Nat) : ls_up (ls_ac g P q j) 10 (ls_slot g P * 24 + j) (g 22 (q * 30 + 4 + j)) = ls_ac g P q (j + 1) := by
  funext f x
  unfold ls_up ls_ac
  by_cases e : f = 10
  · rw [if_pos e, if_pos e, if_pos rfl]
    by_cases h : x = ls_slot g P * 24 + j
    · rw [if_pos h, if_pos (by omega)]
      congr 1; omega
    · rw [if_neg h]
      by_cases h2 : ls_slot g P * 24 ≤ x ∧ x < ls_slot g P * 24 + j
      · rw [if_pos h2, if_pos (by omega)]
      · rw [if_neg h2, if_neg (by omega)]
  · rw [if_neg e, if_neg e, if_neg e]
theorem ls_ac_acc (g : Nat → Nat → Nat) (P q : Nat) : ls_up (ls_up (ls_up (ls_ac g P q (g 19 q - 6)) 9 (ls_slot g P) (g 19 q - 6)) 7 P (g 7 P + 1)) 8 P (g 8 P + 1) = ls_acc g P q := by
  funext f x
  by_cases h : f = 10
  · subst h; rfl
  · simp [ls_acc, ls_ac, ls_up, h]
theorem lx_rM71 {post : SX → Prop} {g : Nat → Nat → Nat} {P q : Nat} (hP : P < 4) (hq : q < 40) (h30 : g 19 q - 6 ≤ 24) (H : ∀ u', lx_R (ls_acc g P q) u' → post u') : ∀ (r j n : Nat) {cNL : Int32} {cDL cDB cWF cWC cWL cWB cIF cIC cTT cIL cIB cKN cNX cTF cOW cRS cOC cOA cOK cPS cPL cPT cPK cPB cNP : Nat → Int32}, j + r = g 19 q - 6 → r < n → lx_R (ls_ac g P q j) (cNL, cDL, cDB, cWF, cWC, cWL, cWB, cIF, cIC, cTT, cIL, cIB, cKN, cNX, cTF, cOW, cRS, cOC, cOA, cOK, cPS, cPL, cPT, cPK, cPB, cNP) →
    wX_readMessage_71 post (nI P) (nI (ls_slot g P)) (nI (q * 30 + 4)) (nI (g 19 q - 6)) cNL n (nI j) cDL cDB cWF cWC cWL cWB cIF cIC cTT cIL cIB cKN cNX cTF cOW cRS cOC cOA cOK cPS cPL cPT cPK cPB cNP := by
  have hsl : ls_slot g P < 20 := by unfold ls_slot; omega
  intro r
  induction r with
  | zero =>
    intro j n cNL cDL cDB cWF cWC cWL cWB cIF cIC cTT cIL cIB cKN cNX cTF cOW cRS cOC cOA cOK cPS cPL cPT cPK cPB cNP hj hn hR
    obtain ⟨m, rfl⟩ : ∃ m, n = m + 1 := ⟨n - 1, by omega⟩
    have hR' := hR
    obtain ⟨rNL, rDL, rDB, rWF, rWC, rWL, rWB, rIF, rIC, rTT, rIL, rIB, rKN, rNX, rTF, rOW, rRS, rOC, rOA, rOK, rPL, rPT, rPK, rPB, rNP⟩ := hR'
    rw [wX_readMessage_71]
    dsimp only
    have rIC' : cIC P = nI (g 7 P) := rIC P
    have rTT' : cTT P = nI (g 8 P) := rTT P
    rw [nI_clamp (by omega : P < 2 ^ 31), nI_clamp (by omega : ls_slot g P < 2 ^ 31), rIC', rTT', nI_1, nI_1]
    obtain rfl : j = g 19 q - 6 := by omega
    have hv : ∀ {N : Nat}, N = 4 → vp_in (nI P) N := fun h => by subst h; exact vp_in_nI hP (by decide)
    refine br_t (nI_le (Nat.le_refl _) (by omega)) ⟨vp_in_nI hsl (by decide), nm_e ⟨hv rfl, hv rfl, nm_e ⟨hv rfl, hv rfl, nm_e (H _ ?_)⟩⟩⟩
    rw [← ls_ac_acc]
    exact lx_uTT _ _ (lx_uIC _ _ (lx_uIL _ _ hR))
  | succ r ih =>
    intro j n cNL cDL cDB cWF cWC cWL cWB cIF cIC cTT cIL cIB cKN cNX cTF cOW cRS cOC cOA cOK cPS cPL cPT cPK cPB cNP hj hn hR
    obtain ⟨m, rfl⟩ : ∃ m, n = m + 1 := ⟨n - 1, by omega⟩
    have hR' := hR
    obtain ⟨rNL, rDL, rDB, rWF, rWC, rWL, rWB, rIF, rIC, rTT, rIL, rIB, rKN, rNX, rTF, rOW, rRS, rOC, rOA, rOK, rPL, rPT, rPK, rPB, rNP⟩ := hR'
    rw [wX_readMessage_71]
    dsimp only
    have rPBj : cPB (q * 30 + 4 + j) = nI (g 22 (q * 30 + 4 + j)) := rPB _
    have em : nI (ls_slot g P) * 24 = nI (ls_slot g P * 24) := pk_mul _ 24
    rw [em, nI_add, nI_add, nI_clamp (by omega : q * 30 + 4 + j < 2 ^ 31), nI_clamp (by omega : ls_slot g P * 24 + j < 2 ^ 31), rPBj]
    refine br_f (nI_ge (by omega) (by omega)) ⟨vp_in_nI (by omega) (by decide), vp_in_nI (by omega) (by decide), nm_e (nm_r (nI_1 j) ?_)⟩
    have h2 := lx_uIB (ls_slot g P * 24 + j) (g 22 (q * 30 + 4 + j)) hR
    rw [ls_ac_s] at h2
    exact ih (j + 1) m (by omega) (by omega) h2
theorem lx_inboxSlot {post : Int32 → Prop} {g : Nat → Nat → Nat} {u : SX} {P i : Nat} (hR : lx_R g u) (hP : P < 4) (hF : g 6 P < 2 ^ 30) (hi : i < 2 ^ 30) (H : post (nI (P * 5 + (g 6 P + i) % 5))) : wpX_inboxSlot post u (nI P) (nI i) := by
  obtain ⟨cNL, cDL, cDB, cWF, cWC, cWL, cWB, cIF, cIC, cTT, cIL, cIB, cKN, cNX, cTF, cOW, cRS, cOC, cOA, cOK, cPS, cPL, cPT, cPK, cPB, cNP⟩ := u
  obtain ⟨rNL, rDL, rDB, rWF, rWC, rWL, rWB, rIF, rIC, rTT, rIL, rIB, rKN, rNX, rTF, rOW, rRS, rOC, rOA, rOK, rPL, rPT, rPK, rPB, rNP⟩ := hR
  unfold wpX_inboxSlot
  dsimp only
  rw [nI_clamp (by omega : P < 2 ^ 31), rIF, nI_add]
  have e1 : nI (g 6 P + i) - nI (g 6 P + i) / 5 * 5 = nI ((g 6 P + i) % 5) := pk_rem (d := 5) (by omega) (by decide) (by decide)
  have e2 : nI P * 5 = nI (P * 5) := pk_mul P 5
  rw [e1, e2, nI_add]
  exact ⟨vp_in_nI hP (by decide), by decide, H⟩
theorem lx_waitingSlot {post : Int32 → Prop} {g : Nat → Nat → Nat} {u : SX} {P i : Nat} (hR : lx_R g u) (hP : P < 4) (hF : g 2 P < 2 ^ 30) (hi : i < 2 ^ 30) (H : post (nI (P * 8 + (g 2 P + i) % 8))) : wpX_waitingSlot post u (nI P) (nI i) := by
  obtain ⟨cNL, cDL, cDB, cWF, cWC, cWL, cWB, cIF, cIC, cTT, cIL, cIB, cKN, cNX, cTF, cOW, cRS, cOC, cOA, cOK, cPS, cPL, cPT, cPK, cPB, cNP⟩ := u
  obtain ⟨rNL, rDL, rDB, rWF, rWC, rWL, rWB, rIF, rIC, rTT, rIL, rIB, rKN, rNX, rTF, rOW, rRS, rOC, rOA, rOK, rPL, rPT, rPK, rPB, rNP⟩ := hR
  unfold wpX_waitingSlot
  dsimp only
  rw [nI_clamp (by omega : P < 2 ^ 31), rWF, nI_add]
  have e1 : nI (g 2 P + i) - nI (g 2 P + i) / 8 * 8 = nI ((g 2 P + i) % 8) := pk_rem (d := 8) (by omega) (by decide) (by decide)
  have e2 : nI P * 8 = nI (P * 8) := pk_mul P 8
  rw [e1, e2, nI_add]
  exact ⟨vp_in_nI hP (by decide), by decide, H⟩
theorem lx_rM18 {post : SX → Prop} {g : Nat → Nat → Nat} {P q z : Nat} {cNL : Int32} {cDL cDB cWF cWC cWL cWB cIF cIC cTT cIL cIB cKN cNX cTF cOW cRS cOC cOA cOK cPS cPL cPT cPK cPB cNP : Nat → Int32} (hR : lx_R g (cNL, cDL, cDB, cWF, cWC, cWL, cWB, cIF, cIC, cTT, cIL, cIB, cKN, cNX, cTF, cOW, cRS, cOC, cOA, cOK, cPS, cPL, cPT, cPK, cPB, cNP)) (hP : P < 4) (hq : q < 40) (hz : z ≤ 1) (h6 : 6 ≤ g 19 q) (h30 : g 19 q ≤ 30) (hI : g 7 P ≤ 5) (hF : g 6 P < 5)
    (H : ∀ u', lx_R (if z = 1 ∧ g 7 P < 5 then ls_acc g P q else g) u' → post u') : wX_readMessage_18 post (nI P) (nI q) (nI z) cNL cDL cDB cWF cWC cWL cWB cIF cIC cTT cIL cIB cKN cNX cTF cOW cRS cOC cOA cOK cPS cPL cPT cPK cPB cNP := by
  have hR' := hR
  obtain ⟨rNL, rDL, rDB, rWF, rWC, rWL, rWB, rIF, rIC, rTT, rIL, rIB, rKN, rNX, rTF, rOW, rRS, rOC, rOA, rOK, rPL, rPT, rPK, rPB, rNP⟩ := hR'
  unfold wX_readMessage_18
  rw [nI_clamp (by omega : P < 2 ^ 31), nI_clamp (by omega : q < 2 ^ 31), rIC, rPL]
  refine pk_eq z 0 (fun h => ?_) (fun h => ⟨vp_in_nI hP (by decide), ?_⟩) rfl rfl (by omega) (by omega)
  · rw [if_neg (by omega)] at H
    exact H _ hR
  · refine pk_lt (g 7 P) 5 (fun h5 => ⟨vp_in_nI hP (by decide), ?_⟩) (fun h5 => ?_) rfl rfl (by omega) (by omega)
    · rw [if_pos (by omega)] at H
      refine lx_inboxSlot hR hP (by omega) (by omega) ?_
      have e1 : nI q * 30 + 4 = nI (q * 30 + 4) := by
        show nI q * nI 30 + nI 4 = _
        rw [pk_mul, nI_add]
      refine nm_r e1 ⟨vp_in_nI hq (by decide), nm_r (pk_sub (b := 6) h6) ⟨g 19 q - 6 + 1, ?_⟩⟩
      exact lx_rM71 hP hq (by omega) H (g 19 q - 6) 0 _ (by omega) (by omega) (by rw [ls_ac_0]; exact hR)
    · rw [if_neg (by omega)] at H
      exact H _ hR
theorem lx_readMessage {post : SX → Prop} {g : Nat → Nat → Nat} {u : SX} {P n q : Nat} (hR : lx_R g u) (hP : P < 4) (hq : q < 40) (hn : n < 65536) (h6 : 6 ≤ g 19 q) (h30 : g 19 q ≤ 30) (hI : g 7 P ≤ 5) (hF : g 6 P < 5) (hT : g 8 P < 2 ^ 30)
    (H : ∀ u', lx_R (if n = g 8 P % 65536 ∧ g 7 P < 5 then ls_acc g P q else g) u' → post u') : wpX_readMessage post u (nI P) (nI n) (nI q) := by
  have hR' := hR
  obtain ⟨cNL, cDL, cDB, cWF, cWC, cWL, cWB, cIF, cIC, cTT, cIL, cIB, cKN, cNX, cTF, cOW, cRS, cOC, cOA, cOK, cPS, cPL, cPT, cPK, cPB, cNP⟩ := u
  obtain ⟨rNL, rDL, rDB, rWF, rWC, rWL, rWB, rIF, rIC, rTT, rIL, rIB, rKN, rNX, rTF, rOW, rRS, rOC, rOA, rOK, rPL, rPT, rPK, rPB, rNP⟩ := hR'
  unfold wpX_readMessage
  dsimp only
  rw [nI_clamp (by omega : P < 2 ^ 31), rTT, lx_65535 (by omega)]
  refine ⟨vp_in_nI hP (by decide), pk_eq n (g 8 P % 65536) (fun h => ?_) (fun h => ?_) rfl rfl (by omega) (by omega)⟩
  · refine lx_rM18 (z := 1) hR hP hq (by omega) h6 h30 hI hF ?_
    by_cases h5 : g 7 P < 5
    · rw [if_pos ⟨h, h5⟩] at H
      rw [if_pos ⟨rfl, h5⟩]
      exact H
    · rw [if_neg (fun z => h5 z.2)] at H
      rw [if_neg (fun z => h5 z.2)]
      exact H
  · refine lx_rM18 (z := 0) hR hP hq (by omega) h6 h30 hI hF ?_
    rw [if_neg (fun z => h z.1)] at H
    rw [if_neg (by omega)]
    exact H
theorem lx_isPort {post : Int32 → Prop} {P : Nat} (hP : P < 4) (H : post 1) : wpX_isPort post (nI P) := by
  unfold wpX_isPort
  exact br_f (nI_pos (by omega)) (br_f (nI_ge (b := 4) hP (by decide)) H)
theorem lx_readPiece {post : SX → Prop} {g : Nat → Nat → Nat} {u : SX} {q : Nat} (hR : lx_R g u) (hq : q < 40) (hb : ∀ i, g 22 i < 256) (hP : ls_P g q < 4) (hk : 1 ≤ g 22 (q * 30) ∧ g 22 (q * 30) ≤ 4) (h6 : 6 ≤ g 19 q) (h30 : g 19 q ≤ 30)
    (hT : g 20 q ≤ 1) (hS : ∀ s, s < 4 → g 7 s ≤ 5 ∧ g 6 s < 5 ∧ g 8 s < 2 ^ 30 ∧ (g 11 s ≠ 0 → g 12 s < 2 ^ 30) ∧ g 11 s ≤ 1 ∧ g 3 s < 2 ^ 30 ∧ g 2 s < 2 ^ 30)
    (H : ∀ u', lx_R (ls_rp g q) u' → post u') : wpX_readPiece post u (nI q) := by
  have hR' := hR
  obtain ⟨cNL, cDL, cDB, cWF, cWC, cWL, cWB, cIF, cIC, cTT, cIL, cIB, cKN, cNX, cTF, cOW, cRS, cOC, cOA, cOK, cPS, cPL, cPT, cPK, cPB, cNP⟩ := u
  obtain ⟨rNL, rDL, rDB, rWF, rWC, rWL, rWB, rIF, rIC, rTT, rIL, rIB, rKN, rNX, rTF, rOW, rRS, rOC, rOA, rOK, rPL, rPT, rPK, rPB, rNP⟩ := hR'
  unfold wpX_readPiece
  dsimp only
  have h1 := hb (q * 30 + 1); have h2 := hb (q * 30 + 2); have h3 := hb (q * 30 + 3)
  obtain ⟨k1, k2, k3, k4, k5, k6, k7⟩ := hS _ hP
  have hn : ls_n g q < 65536 := by unfold ls_n; omega
  rw [nI_clamp (by omega : q < 2 ^ 31), rPT]
  refine nm_r (pk_mul q 30) ?_
  have a1 : nI (q * 30) + 1 = nI (q * 30 + 1) := nI_add _ 1
  have a2 : nI (q * 30) + 2 = nI (q * 30 + 2) := nI_add _ 2
  have a3 : nI (q * 30) + 3 = nI (q * 30 + 3) := nI_add _ 3
  rw [a1, a2, a3, nI_clamp (by omega : q * 30 < 2 ^ 31), nI_clamp (by omega : q * 30 + 1 < 2 ^ 31), nI_clamp (by omega : q * 30 + 2 < 2 ^ 31), nI_clamp (by omega : q * 30 + 3 < 2 ^ 31), rPB, rPB, rPB, rPB]
  refine ⟨vp_in_nI (by omega) (by decide), nm_e ⟨vp_in_nI hq (by decide), vp_in_nI (by omega) (by decide), nm_r (e' := nI (ls_P g q)) ?_ ⟨vp_in_nI (by omega) (by decide), vp_in_nI (by omega) (by decide), nm_r (e' := nI (ls_n g q)) ?_ ?_⟩⟩⟩
  · show nI _ + nI 2 * nI _ = _
    rw [pk_mul, nI_add]; rfl
  · show nI _ * nI 256 + nI _ = _
    rw [pk_mul, nI_add]; rfl
  · refine lx_isPort hP (br_f (by decide) (br_f (nI_nlt (b := 1) hk.1 (by omega)) (br_f (nI_nlt (a := 4) hk.2 (by decide)) ?_)))
    unfold ls_rp at H
    rw [nI_clamp (by omega : ls_P g q < 2 ^ 31), lx_b1]
    refine pk_eq (g 22 (q * 30)) 1 (fun h => ⟨vp_in_nI hP (by decide), nm_e ?_⟩) (fun e1 => ?_) rfl rfl (by omega) (by omega)
    · rw [if_pos h] at H
      exact H _ (lx_uOW _ _ hR)
    rw [if_neg e1] at H
    refine pk_eq (g 22 (q * 30)) 2 (fun h => ?_) (fun e2 => ?_) rfl rfl (by omega) (by omega)
    · rw [if_pos h] at H
      refine lx_readMessage hR hP hq hn h6 h30 k1 k2 k3 fun u' hR1 => ?_
      obtain ⟨cNL1, cDL1, cDB1, cWF1, cWC1, cWL1, cWB1, cIF1, cIC1, cTT1, cIL1, cIB1, cKN1, cNX1, cTF1, cOW1, cRS1, cOC1, cOA1, cOK1, cPS1, cPL1, cPT1, cPK1, cPB1, cNP1⟩ := u'
      exact ⟨vp_in_nI hP (by decide), nm_e (H _ (lx_uOW _ _ hR1))⟩
    rw [if_neg e2] at H
    refine pk_eq (g 22 (q * 30)) 3 (fun h => ?_) (fun e3 => ?_) rfl rfl (by omega) (by omega)
    · rw [if_pos h] at H
      refine lx_rA (fl := 0) hR hP hn (by omega) k4 k5 k6 k7 fun u' hR1 => ?_
      obtain ⟨cNL1, cDL1, cDB1, cWF1, cWC1, cWL1, cWB1, cIF1, cIC1, cTT1, cIL1, cIB1, cKN1, cNX1, cTF1, cOW1, cRS1, cOC1, cOA1, cOK1, cPS1, cPL1, cPT1, cPK1, cPB1, cNP1⟩ := u'
      exact H _ hR1
    rw [if_neg e3] at H
    refine pk_eq (g 22 (q * 30)) 4 (fun h => ?_) (fun e4 => trivial) rfl rfl (by omega) (by omega)
    rw [if_pos h] at H
    refine lx_rA (fl := 1) hR hP hn (by omega) k4 k5 k6 k7 fun u' hR1 => ?_
    obtain ⟨cNL1, cDL1, cDB1, cWF1, cWC1, cWL1, cWB1, cIF1, cIC1, cTT1, cIL1, cIB1, cKN1, cNX1, cTF1, cOW1, cRS1, cOC1, cOA1, cOK1, cPS1, cPL1, cPT1, cPK1, cPB1, cNP1⟩ := u'
    exact H _ hR1
