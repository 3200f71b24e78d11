/-! the walks of a tick -/
theorem lx_small {b g : Nat → Nat → Nat} {mv d : Nat → Nat} (B : ls_B b) (J : ls_J b g mv d) : ∀ s, s < 4 → g 7 s ≤ 5 ∧ g 6 s < 5 ∧ g 8 s < 2 ^ 30 ∧ (g 11 s ≠ 0 → g 12 s < 2 ^ 30) ∧ g 11 s ≤ 1 ∧ g 3 s < 2 ^ 30 ∧ g 2 s < 2 ^ 30 := by
  intro s hs
  obtain ⟨a1, a2, a3, a4, a5, a6, a7, a8, a9, a10, a11, a12, a13, a14, a15, a16⟩ := (J.1 s hs).1
  obtain ⟨b1, b2, b3, b4, b5, b6, b7, b8, b9, b10, b11, b12, b13, b14, b15, b16⟩ := (J.1 _ (ls_pr_lt hs)).1
  rw [ls_pr_pr] at b2 b6 b7 b14 b15 b16
  obtain ⟨c1, c2, c3, c4, c5⟩ := B.1 s hs
  obtain ⟨e1, e2, e3, e4, e5⟩ := B.1 _ (ls_pr_lt hs)
  exact ⟨by omega, by omega, by omega, fun z => by have := a6 (by omega); omega, a8, by omega, by omega⟩
theorem lx_dv2 {post : SX → Prop} {b gs : Nat → Nat → Nat} {m : Nat} (B : ls_B b) (H : ∀ g' u', ls_DI b gs m 40 g' → lx_R g' u' → post u') : ∀ (r i n : Nat) (g : Nat → Nat → Nat) {cNL : Int32} {cDL cDB cWF cWC cWL cWB cIF cIC cTT cIL cIB cKN cNX cTF cOW cRS cOC cOA cOK cPS cPL cPT cPK cPB cNP : Nat → Int32}, i + r = 40 → r < n → ls_DI b gs m i g → lx_R g (cNL, cDL, cDB, cWF, cWC, cWL, cWB, cIF, cIC, cTT, cIL, cIB, cKN, cNX, cTF, cOW, cRS, cOC, cOA, cOK, cPS, cPL, cPT, cPK, cPB, cNP) →
    wX_deliverDuePieces_2 post n (nI i) cNL cDL cDB cWF cWC cWL cWB cIF cIC cTT cIL cIB cKN cNX cTF cOW cRS cOC cOA cOK cPS cPL cPT cPK cPB cNP := by
  intro r
  induction r with
  | zero =>
    intro i n g cNL cDL cDB cWF cWC cWL cWB cIF cIC cTT cIL cIB cKN cNX cTF cOW cRS cOC cOA cOK cPS cPL cPT cPK cPB cNP hi hn D hR
    obtain ⟨k, rfl⟩ : ∃ k, n = k + 1 := ⟨n - 1, by omega⟩
    obtain rfl : i = 40 := by omega
    rw [wX_deliverDuePieces_2]
    dsimp only
    exact br_t (nI_le (a := 40) (Nat.le_refl _) (by decide)) (H _ _ D hR)
  | succ r ih =>
    intro i n g cNL cDL cDB cWF cWC cWL cWB cIF cIC cTT cIL cIB cKN cNX cTF cOW cRS cOC cOA cOK cPS cPL cPT cPK cPB cNP hi hn D hR
    obtain ⟨k, rfl⟩ : ∃ k, n = k + 1 := ⟨n - 1, by omega⟩
    have hi40 : i < 40 := by omega
    have hR' := hR
    obtain ⟨rNL, rDL, rDB, rWF, rWC, rWL, rWB, rIF, rIC, rTT, rIL, rIB, rKN, rNX, rTF, rOW, rRS, rOC, rOA, rOK, rPL, rPT, rPK, rPB, rNP⟩ := hR'
    have D' := D
    obtain ⟨mv, d, J, Q, O, K, p1, T⟩ := D'
    rw [wX_deliverDuePieces_2]
    dsimp only
    have hv : ∀ {N : Nat}, N = 40 → vp_in (nI i) N := fun h => by subst h; exact vp_in_nI hi40 (by decide)
    rw [nI_clamp (by omega : i < 2 ^ 31), rPL, rPK]
    have hPLb : g 19 i ≤ 30 := by
      rcases Q i hi40 with z | z
      · omega
      · exact z.2.1
    refine br_f (nI_ge (b := 40) hi40 (by decide)) ⟨hv rfl, pk_le (g 19 i) 0 (fun h => nm_r (nI_1 i) ?_) (fun h => ⟨hv rfl, hv rfl, ?_⟩) rfl rfl (by omega) (by omega)⟩
    · exact ih (i + 1) k g (by omega) (by omega) (ls_DI_0 (by omega) D) hR
    · have h0 : g 19 i ≠ 0 := by omega
      rcases Q i hi40 with z | ⟨l1, l2, l3, l4, l5, l6⟩
      · exact absurd z h0
      rw [show nI (g 21 i) - 1 = nI (g 21 i - 1) from pk_sub (b := 1) l4]
      intro a ea
      subst ea
      rw [pk_us]
      have hR1 := lx_uPK i (g 21 i - 1) hR
      refine ⟨hv rfl, pk_lt 0 (g 21 i - 1) (fun h2 => nm_r (nI_1 i) ?_) (fun h2 => ?_) rfl rfl (by omega) (by omega)⟩
      · exact ih (i + 1) k _ (by omega) (by omega) (ls_DI_1 hi40 h0 (by omega) D) hR1
      · refine lx_unsp hR1 J.2.1.2.2.1 hi40 l1 l2 (fun hz => br_f (by decide) ?_) (fun hz => br_t rfl ⟨hv rfl, nm_e (nm_r (nI_1 i) ?_)⟩)
        · have M := l6 hz
          obtain ⟨D3, hP⟩ := ls_DI_3 B hi40 h0 (by omega) hz D
          refine lx_readPiece hR1 hi40 J.2.1.2.2.1 hP ?_ l1 l2 l3 (lx_small B J) fun u' hR2 => ?_
          · have := M.2
            show 1 ≤ g 22 (i * 30) ∧ g 22 (i * 30) ≤ 4
            rcases this with z | ⟨z, _⟩ | ⟨z, _⟩ | ⟨z, _⟩ <;> omega
          · obtain ⟨cNL1, cDL1, cDB1, cWF1, cWC1, cWL1, cWB1, cIF1, cIC1, cTT1, cIL1, cIB1, cKN1, cNX1, cTF1, cOW1, cRS1, cOC1, cOA1, cOK1, cPS1, cPL1, cPT1, cPK1, cPB1, cNP1⟩ := u'
            exact ⟨hv rfl, nm_e (nm_r (nI_1 i) (ih (i + 1) k _ (by omega) (by omega) D3 (lx_uPL _ _ hR2)))⟩
        · exact ih (i + 1) k _ (by omega) (by omega) (ls_DI_2 hi40 h0 (by omega) hz D) (lx_uPL _ _ hR1)
theorem lx_deliver {post : SX → Prop} {b gs g : Nat → Nat → Nat} {m : Nat} {u : SX} (B : ls_B b) (D : ls_DI b gs m 0 g) (hR : lx_R g u) (H : ∀ g' u', ls_DI b gs m 40 g' → lx_R g' u' → post u') : wpX_deliverDuePieces post u := by
  obtain ⟨cNL, cDL, cDB, cWF, cWC, cWL, cWB, cIF, cIC, cTT, cIL, cIB, cKN, cNX, cTF, cOW, cRS, cOC, cOA, cOK, cPS, cPL, cPT, cPK, cPB, cNP⟩ := u
  exact ⟨41, lx_dv2 B H 40 0 41 g rfl (by decide) D hR⟩
/-! sending -/
def ls_hd (g : Nat → Nat → Nat) (j k n : Nat) : Nat → Nat → Nat := ls_up (ls_up (ls_up (ls_up (ls_up g 23 0 k) 23 1 (j / 2)) 23 2 (n / 256 % 256)) 23 3 (n % 256)) 24 0 4
theorem ls_hd_NP (g : Nat → Nat → Nat) (j k n i : Nat) : ls_hd g j k n 23 i = if i = 3 then n % 256 else if i = 2 then n / 256 % 256 else if i = 1 then j / 2 else if i = 0 then k else g 23 i := rfl
theorem ls_hd_o (g : Nat → Nat → Nat) (j k n f : Nat) (h1 : f ≠ 23) (h2 : f ≠ 24) : ls_hd g j k n f = g f := by
  funext i
  simp [ls_hd, ls_up, h1, h2]
theorem ls_hd_b {g : Nat → Nat → Nat} {j k n : Nat} (h : ∀ i, g 23 i < 256) (hj : j < 4) (hk : k < 256) : ∀ i, ls_hd g j k n 23 i < 256 := by
  intro i
  rw [ls_hd_NP]
  have := h i
  split
  · omega
  · split
    · omega
    · split
      · omega
      · split <;> omega
theorem lx_head {post : SX → Prop} {g : Nat → Nat → Nat} {u : SX} {j k n : Nat} (hR : lx_R g u) (hj : j < 4) (hn : n < 65536) (H : ∀ u', lx_R (ls_hd g j k n) u' → post u') : wpX_makeHead post u (nI j) (nI k) (nI n) := by
  obtain ⟨cNL, cDL, cDB, cWF, cWC, cWL, cWB, cIF, cIC, cTT, cIL, cIB, cKN, cNX, cTF, cOW, cRS, cOC, cOA, cOK, cPS, cPL, cPT, cPK, cPB, cNP⟩ := u
  unfold wpX_makeHead
  dsimp only
  have e1 : nI j / 2 = nI (j / 2) := pk_div (d := 2) (by omega) (by decide) (by decide)
  rw [e1, lx_shr8 (by omega), lx_255 (by omega), lx_255 (by omega)]
  refine nm_e ⟨by decide, nm_e (nm_e (nm_e (H _ ?_)))⟩
  exact lx_uNL 4 (lx_uNP 3 (n % 256) (lx_uNP 2 (n / 256 % 256) (lx_uNP 1 (j / 2) (lx_uNP 0 k hR))))
theorem lx_makeAnswer {post : SX → Prop} {g : Nat → Nat → Nat} {u : SX} {j : Nat} (hR : lx_R g u) (hj : j < 4) (hI : g 7 j ≤ 5) (hT : g 8 j < 65536) (H : ∀ u', lx_R (ls_hd g j (if g 7 j < 5 then 3 else 4) (g 8 j)) u' → post u') : wpX_makeAnswer post u (nI j) := by
  have hR' := hR
  obtain ⟨cNL, cDL, cDB, cWF, cWC, cWL, cWB, cIF, cIC, cTT, cIL, cIB, cKN, cNX, cTF, cOW, cRS, cOC, cOA, cOK, cPS, cPL, cPT, cPK, cPB, cNP⟩ := u
  obtain ⟨rNL, rDL, rDB, rWF, rWC, rWL, rWB, rIF, rIC, rTT, rIL, rIB, rKN, rNX, rTF, rOW, rRS, rOC, rOA, rOK, rPL, rPT, rPK, rPB, rNP⟩ := hR'
  unfold wpX_makeAnswer wX_makeAnswer_15
  dsimp only
  rw [nI_clamp (by omega : j < 2 ^ 31), rIC, rTT]
  refine ⟨vp_in_nI hj (by decide), pk_le 5 (g 7 j) (fun h => ⟨vp_in_nI hj (by decide), ?_⟩) (fun h => ⟨vp_in_nI hj (by decide), ?_⟩) rfl rfl (by omega) (by omega)⟩
  · rw [if_neg (by omega)] at H
    refine lx_head (k := 4) hR hj hT fun u' hR1 => ?_
    obtain ⟨cNL1, cDL1, cDB1, cWF1, cWC1, cWL1, cWB1, cIF1, cIC1, cTT1, cIL1, cIB1, cKN1, cNX1, cTF1, cOW1, cRS1, cOC1, cOA1, cOK1, cPS1, cPL1, cPT1, cPK1, cPB1, cNP1⟩ := u'
    exact H _ hR1
  · rw [if_pos h] at H
    refine lx_head (k := 3) hR hj hT fun u' hR1 => ?_
    obtain ⟨cNL1, cDL1, cDB1, cWF1, cWC1, cWL1, cWB1, cIF1, cIC1, cTT1, cIL1, cIB1, cKN1, cNX1, cTF1, cOW1, cRS1, cOC1, cOA1, cOK1, cPS1, cPL1, cPT1, cPK1, cPB1, cNP1⟩ := u'
    exact H _ hR1
def ls_mc (g : Nat → Nat → Nat) (sl j : Nat) : Nat → Nat → Nat := fun f x => if f = 23 then (if 4 ≤ x ∧ x < 4 + j then g 5 (sl * 24 + (x - 4)) else g 23 x) else g f x
theorem ls_mc_0 (g : Nat → Nat → Nat) (sl : Nat) : ls_mc g sl 0 = g := by
  funext f x
  unfold ls_mc
  split
  · next e => subst e; exact if_neg (by omega)
  · rfl
theorem ls_mc_s (g : Nat → Nat → Nat) (sl j : Nat) : ls_up (ls_mc g sl j) 23 (4 + j) (g 5 (sl * 24 + j)) = ls_mc g sl (j + 1) := by
  funext f x
  unfold ls_up ls_mc
  by_cases e : f = 23
  · rw [if_pos e, if_pos e, if_pos rfl]
    by_cases h : x = 4 + j
    · rw [if_pos h, if_pos (by omega)]
      congr 1; omega
    · rw [if_neg h]
      by_cases h2 : 4 ≤ x ∧ x < 4 + j
      · rw [if_pos h2, if_pos (by omega)]
      · rw [if_neg h2, if_neg (by omega)]
  · rw [if_neg e, if_neg e, if_neg e]
theorem lx_mr38 {post : SX → Prop} {g : Nat → Nat → Nat} {sl : Nat} (hs : sl < 32) (hw : g 4 sl ≤ 24) (H : ∀ u', lx_R (ls_up (ls_mc g sl (g 4 sl)) 24 0 (4 + g 4 sl)) u' → post u') : ∀ (r j n : Nat) {cNL : Int32} {cDL cDB cWF cWC cWL cWB cIF cIC cTT cIL cIB cKN cNX cTF cOW cRS cOC cOA cOK cPS cPL cPT cPK cPB cNP : Nat → Int32}, j + r = g 4 sl → r < n → lx_R (ls_mc g sl j) (cNL, cDL, cDB, cWF, cWC, cWL, cWB, cIF, cIC, cTT, cIL, cIB, cKN, cNX, cTF, cOW, cRS, cOC, cOA, cOK, cPS, cPL, cPT, cPK, cPB, cNP) →
    wX_makeRequest_38 post (nI sl) cNL n (nI j) cDL cDB cWF cWC cWL cWB cIF cIC cTT cIL cIB cKN cNX cTF cOW cRS cOC cOA cOK cPS cPL cPT cPK cPB cNP := by
  intro r
  induction r with
  | zero =>
    intro j n cNL cDL cDB cWF cWC cWL cWB cIF cIC cTT cIL cIB cKN cNX cTF cOW cRS cOC cOA cOK cPS cPL cPT cPK cPB cNP hj hn hR
    obtain ⟨m, rfl⟩ : ∃ m, n = m + 1 := ⟨n - 1, by omega⟩
    have hR' := hR
    obtain ⟨rNL, rDL, rDB, rWF, rWC, rWL, rWB, rIF, rIC, rTT, rIL, rIB, rKN, rNX, rTF, rOW, rRS, rOC, rOA, rOK, rPL, rPT, rPK, rPB, rNP⟩ := hR'
    rw [wX_makeRequest_38]
    dsimp only
    have rWL' : cWL sl = nI (g 4 sl) := rWL sl
    rw [nI_clamp (by omega : sl < 2 ^ 31), rWL']
    obtain rfl : j = g 4 sl := by omega
    exact ⟨vp_in_nI hs (by decide), br_t (nI_le (Nat.le_refl _) (by omega)) ⟨vp_in_nI hs (by decide), nm_r (nI_add 4 (g 4 sl)) (H _ (lx_uNL _ hR))⟩⟩
  | succ r ih =>
    intro j n cNL cDL cDB cWF cWC cWL cWB cIF cIC cTT cIL cIB cKN cNX cTF cOW cRS cOC cOA cOK cPS cPL cPT cPK cPB cNP hj hn hR
    obtain ⟨m, rfl⟩ : ∃ m, n = m + 1 := ⟨n - 1, by omega⟩
    have hR' := hR
    obtain ⟨rNL, rDL, rDB, rWF, rWC, rWL, rWB, rIF, rIC, rTT, rIL, rIB, rKN, rNX, rTF, rOW, rRS, rOC, rOA, rOK, rPL, rPT, rPK, rPB, rNP⟩ := hR'
    rw [wX_makeRequest_38]
    dsimp only
    have rWL' : cWL sl = nI (g 4 sl) := rWL sl
    have rWB' : cWB (sl * 24 + j) = nI (g 5 (sl * 24 + j)) := rWB _
    have e1 : nI sl * 24 = nI (sl * 24) := pk_mul sl 24
    have e2 : (4 : Int32) + nI j = nI (4 + j) := nI_add 4 j
    rw [nI_clamp (by omega : sl < 2 ^ 31), rWL', e1, e2, nI_add, nI_clamp (by omega : 4 + j < 2 ^ 31), nI_clamp (by omega : sl * 24 + j < 2 ^ 31), rWB']
    refine ⟨vp_in_nI hs (by decide), br_f (nI_ge (by omega) (by omega)) ⟨vp_in_nI (by omega) (by decide), vp_in_nI (by omega) (by decide), nm_e (nm_r (nI_1 j) ?_)⟩⟩
    have h2 := lx_uNP (4 + j) (g 5 (sl * 24 + j)) hR
    rw [ls_mc_s] at h2
    exact ih (j + 1) m (by omega) (by omega) h2
theorem lx_makeRequest {post : SX → Prop} {g : Nat → Nat → Nat} {u : SX} {j : Nat} (hR : lx_R g u) (hj : j < 4) (hb : ∀ i, g 23 i < 256) (hbW : ∀ i, g 5 i < 256) (hK : g 11 j ≤ 1) (hX : g 11 j = 1 → g 12 j < 65536) (hF : g 2 j < 8) (hw : ∀ i, g 4 i ≤ 24)
    (H : ∀ g2 u' n, (∀ x, x ≠ 23 → x ≠ 24 → g2 x = g x) → (∀ i, g2 23 i < 256) → g2 24 0 = n → 4 ≤ n → n ≤ 28 → g2 23 1 = j / 2 →
      ((g 11 j = 0 ∧ n = 4 ∧ g2 23 0 = 1) ∨ (g 11 j = 1 ∧ g2 23 0 = 2 ∧ g2 23 2 * 256 + g2 23 3 = g 12 j ∧ n = 4 + g 4 (j * 8 + g 2 j % 8) ∧ ∀ i, i < g 4 (j * 8 + g 2 j % 8) → g2 23 (4 + i) = g 5 ((j * 8 + g 2 j % 8) * 24 + i))) →
      lx_R g2 u' → post u') : wpX_makeRequest post u (nI j) := by
  have hR' := hR
  obtain ⟨cNL, cDL, cDB, cWF, cWC, cWL, cWB, cIF, cIC, cTT, cIL, cIB, cKN, cNX, cTF, cOW, cRS, cOC, cOA, cOK, cPS, cPL, cPT, cPK, cPB, cNP⟩ := u
  obtain ⟨rNL, rDL, rDB, rWF, rWC, rWL, rWB, rIF, rIC, rTT, rIL, rIB, rKN, rNX, rTF, rOW, rRS, rOC, rOA, rOK, rPL, rPT, rPK, rPB, rNP⟩ := hR'
  unfold wpX_makeRequest
  dsimp only
  rw [nI_clamp (by omega : j < 2 ^ 31), rKN, rNX]
  refine ⟨vp_in_nI hj (by decide), pk_eq (g 11 j) 0 (fun h => ?_) (fun h => ⟨vp_in_nI hj (by decide), ?_⟩) rfl rfl (by omega) (by omega)⟩
  · refine lx_head (k := 1) (n := 0) hR hj (by decide) fun u' hR1 => ?_
    obtain ⟨cNL1, cDL1, cDB1, cWF1, cWC1, cWL1, cWB1, cIF1, cIC1, cTT1, cIL1, cIB1, cKN1, cNX1, cTF1, cOW1, cRS1, cOC1, cOA1, cOK1, cPS1, cPL1, cPT1, cPK1, cPB1, cNP1⟩ := u'
    exact H _ _ 4 (fun x h1 h2 => ls_hd_o g j 1 0 x h1 h2) (ls_hd_b hb hj (by decide)) rfl (by decide) (by decide) rfl (Or.inl ⟨h, rfl, rfl⟩) hR1
  · have h1 : g 11 j = 1 := by omega
    have hX' := hX h1
    refine lx_head (k := 2) hR hj hX' fun u' hR1 => ?_
    obtain ⟨cNL1, cDL1, cDB1, cWF1, cWC1, cWL1, cWB1, cIF1, cIC1, cTT1, cIL1, cIB1, cKN1, cNX1, cTF1, cOW1, cRS1, cOC1, cOA1, cOK1, cPS1, cPL1, cPT1, cPK1, cPB1, cNP1⟩ := u'
    have hwf : ls_hd g j 2 (g 12 j) 2 j = g 2 j := rfl
    refine lx_waitingSlot (i := 0) hR1 hj (by rw [hwf]; omega) (by decide) ?_
    rw [hwf, Nat.add_zero]
    have hsl : j * 8 + g 2 j % 8 < 32 := by omega
    generalize hsle : j * 8 + g 2 j % 8 = sl at *
    refine ⟨g 4 sl + 1, ?_⟩
    refine lx_mr38 (g := ls_hd g j 2 (g 12 j)) hsl (hw sl) ?_ (g 4 sl) 0 _ (by show 0 + g 4 sl = g 4 sl; omega) (by omega) (by rw [ls_mc_0]; exact hR1)
    intro u2 hR2
    refine H _ _ (4 + g 4 sl) ?_ ?_ rfl (by omega) (by have := hw sl; omega) rfl (Or.inr ⟨h1, rfl, ?_, rfl, ?_⟩) hR2
    · intro x a1 a2
      rw [← ls_hd_o g j 2 (g 12 j) x a1 a2]
      funext i
      simp [ls_up, ls_mc, a1, a2]
    · intro i
      show (if 4 ≤ i ∧ i < 4 + g 4 sl then g 5 (sl * 24 + (i - 4)) else ls_hd g j 2 (g 12 j) 23 i) < 256
      split
      · exact hbW _
      · exact ls_hd_b hb hj (by decide) i
    · show g 12 j / 256 % 256 * 256 + g 12 j % 256 = g 12 j
      omega
    · intro i hi
      show (if 4 ≤ 4 + i ∧ 4 + i < 4 + g 4 sl then g 5 (sl * 24 + (4 + i - 4)) else ls_hd g j 2 (g 12 j) 23 (4 + i)) = g 5 (sl * 24 + i)
      rw [if_pos (by omega)]
      congr 1; omega
theorem lx_hasMsg {post : Int32 → Prop} {g : Nat → Nat → Nat} {u : SX} {j : Nat} (hR : lx_R g u) (hj : j < 4) (hW : g 3 j < 2 ^ 30) (hT : g 13 j ≤ 1) (H1 : ls_act g j → post 1) (H0 : ¬ ls_act g j → post 0) : wpX_hasMessageToSend post u (nI j) := by
  obtain ⟨cNL, cDL, cDB, cWF, cWC, cWL, cWB, cIF, cIC, cTT, cIL, cIB, cKN, cNX, cTF, cOW, cRS, cOC, cOA, cOK, cPS, cPL, cPT, cPK, cPB, cNP⟩ := u
  obtain ⟨rNL, rDL, rDB, rWF, rWC, rWL, rWB, rIF, rIC, rTT, rIL, rIB, rKN, rNX, rTF, rOW, rRS, rOC, rOA, rOK, rPL, rPT, rPK, rPB, rNP⟩ := hR
  unfold wpX_hasMessageToSend
  dsimp only
  rw [nI_clamp (by omega : j < 2 ^ 31), rWC, rTF]
  refine ⟨vp_in_nI hj (by decide), pk_le (g 3 j) 0 (fun h => H0 fun z => by have := z.1; omega) (fun h => ⟨vp_in_nI hj (by decide), ?_⟩) rfl rfl (by omega) (by omega)⟩
  exact pk_eq (g 13 j) 0 (fun h2 => H1 ⟨h, h2⟩) (fun h2 => H0 fun z => h2 z.2) rfl rfl (by omega) (by omega)
