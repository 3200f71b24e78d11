/-! the sending loop, isQuiet, settle -/
/-- what a transmission needs, out of the send invariant -/
theorem lx_SI_tx {b g : Nat → Nat → Nat} {X m ja jb : Nat} (S : ls_SI b X m ja jb g) : (∀ e, e < 2 → g 16 e ≤ 12 ∧ ∀ i, i < g 16 e → g 17 (e * 12 + i) < 16 ∧ g 18 (e * 12 + i) ≤ 3) ∧ (∀ q, q < 40 → g 19 q ≤ 30) ∧ ls_Y g ∧
    ∃ mv d : Nat → Nat, ls_J b g mv d := by
  obtain ⟨mv, d, D, J, Q, O, hU, hL, hX, hT, hW⟩ := S
  refine ⟨fun e he => ⟨(O e he).1.2, fun i hi => ?_⟩, fun q hq => ?_, J.2.1, mv, d, J⟩
  · have h1 := (O e he).2 i hi
    have h2 := (O e he).1.1
    exact ⟨by omega, h1.2⟩
  · rcases Q q hq with z | z
    · omega
    · exact z.2.1
theorem lx_mod2 {j : Nat} (hj : j < 4) : nI j - nI j / 2 * 2 = nI (j % 2) := pk_rem (d := 2) (by omega) (by decide) (by decide)
theorem lx_sd54 {post : SX → Prop} {J2 : Int32 → Int32 → (Nat → Int32) → (Nat → Int32) → (Nat → Int32) → (Nat → Int32) → (Nat → Int32) → (Nat → Int32) → (Nat → Int32) → (Nat → Int32) → (Nat → Int32) → (Nat → Int32) → (Nat → Int32) → (Nat → Int32) → (Nat → Int32) → (Nat → Int32) → (Nat → Int32) → (Nat → Int32) → (Nat → Int32) → (Nat → Int32) → (Nat → Int32) → (Nat → Int32) → (Nat → Int32) → (Nat → Int32) → (Nat → Int32) → (Nat → Int32) → (Nat → Int32) → Prop}
    {b g : Nat → Nat → Nat} {X m j : Nat} {cNL : Int32} {cDL cDB cWF cWC cWL cWB cIF cIC cTT cIL cIB cKN cNX cTF cOW cRS cOC cOA cOK cPS cPL cPT cPK cPB cNP : Nat → Int32} (B : ls_B b) (hj : j < 4) (S : ls_SI b X m (j + 1) j g) (hR : lx_R (ls_dec g j) (cNL, cDL, cDB, cWF, cWC, cWL, cWB, cIF, cIC, cTT, cIL, cIB, cKN, cNX, cTF, cOW, cRS, cOC, cOA, cOK, cPS, cPL, cPT, cPK, cPB, cNP))
    (K : ∀ (g' : Nat → Nat → Nat) {cNL7 : Int32} {cDL7 cDB7 cWF7 cWC7 cWL7 cWB7 cIF7 cIC7 cTT7 cIL7 cIB7 cKN7 cNX7 cTF7 cOW7 cRS7 cOC7 cOA7 cOK7 cPS7 cPL7 cPT7 cPK7 cPB7 cNP7 : Nat → Int32}, ls_SI b X m (j + 1) (j + 1) g' → lx_R g' (cNL7, cDL7, cDB7, cWF7, cWC7, cWL7, cWB7, cIF7, cIC7, cTT7, cIL7, cIB7, cKN7, cNX7, cTF7, cOW7, cRS7, cOC7, cOA7, cOK7, cPS7, cPL7, cPT7, cPK7, cPB7, cNP7) → J2 (nI (j + 1)) cNL7 cDL7 cDB7 cWF7 cWC7 cWL7 cWB7 cIF7 cIC7 cTT7 cIL7 cIB7 cKN7 cNX7 cTF7 cOW7 cRS7 cOC7 cOA7 cOK7 cPS7 cPL7 cPT7 cPK7 cPB7 cNP7) : wX_sendDuePieces_54 post J2 (nI j) cNL cDL cDB cWF cWC cWL cWB cIF cIC cTT cIL cIB cKN cNX cTF cOW cRS cOC cOA cOK cPS cPL cPT cPK cPB cNP := by
  have hR' := hR
  obtain ⟨rNL, rDL, rDB, rWF, rWC, rWL, rWB, rIF, rIC, rTT, rIL, rIB, rKN, rNX, rTF, rOW, rRS, rOC, rOA, rOK, rPL, rPT, rPK, rPB, rNP⟩ := hR'
  obtain ⟨s1, s2, s3, mv, d, J⟩ := lx_SI_tx S
  have sm := lx_small B J j hj
  have h4 := (J.1 j hj).1.2.2.2.2.2.2.2.2.2.2.1
  have h9 := (J.1 j hj).1.2.2.2.2.2.2.2.2.1
  have ho : ∀ f, f ≠ 15 → ls_dec g j f = g f := fun f h => ls_dec_o g j f h
  have hrj : ls_dec g j 15 j = g 15 j - 1 := by rw [ls_dec_RS, if_pos rfl]
  have hact : ls_act (ls_dec g j) j ↔ ls_act g j := ls_RS_act ho j
  unfold wX_sendDuePieces_54
  rw [nI_clamp (by omega : j < 2 ^ 31), rRS]
  refine ⟨vp_in_nI hj (by decide), pk_eq (ls_dec g j 15 j) 0 (fun hz => ?_) (fun hz => nm_r (nI_1 j) ?_) rfl rfl (by omega) (by omega)⟩
  · refine lx_hasMsg hR hj (by rw [ho 3 (by decide)]; exact sm.2.2.2.2.2.1) (by rw [ho 13 (by decide)]; exact h9) (fun ha => br_f (by decide) ⟨vp_in_nI hj (by decide), nm_e ?_⟩) (fun ha => br_t rfl (nm_r (nI_1 j) ?_))
    · have ha' := hact.mp ha
      have hR1 := lx_uRS j 4 hR
      have ho1 : ∀ f, f ≠ 15 → ls_up (ls_dec g j) 15 j 4 f = g f := fun f h => by
        rw [← ho f h]
        funext i; simp [ls_up, h]
      have eKN := ho1 11 (by decide); have eNX := ho1 12 (by decide); have eWF := ho1 2 (by decide); have eWL := ho1 4 (by decide); have eWB := ho1 5 (by decide); have eNP := ho1 23 (by decide)
      have hS := (J.1 j hj).1
      have hBp := B.1 _ (ls_pr_lt hj)
      refine lx_makeRequest hR1 hj (by rw [eNP]; exact s3.2.2.2) (by rw [eWB]; exact s3.1) (by rw [eKN]; exact sm.2.2.2.2.1) (fun z => ?_) ?_ (by rw [eWL, J.2.2.1]; exact B.2) fun g2 u' n k1 k2 k3 k4 k5 k6 k7 hR2 => ?_
      · rw [eKN] at z
        rw [eNX]
        have h6 := hS.2.2.2.2.2.1 z
        have h3 := hS.2.2.1
        have h2 := hS.2.1
        omega
      · rw [eWF]
        have := hS.2.2.2.2.2.2.2.2.2.2.2.2.1
        omega
      obtain ⟨cNL1, cDL1, cDB1, cWF1, cWC1, cWL1, cWB1, cIF1, cIC1, cTT1, cIL1, cIB1, cKN1, cNX1, cTF1, cOW1, cRS1, cOC1, cOA1, cOK1, cPS1, cPL1, cPT1, cPK1, cPB1, cNP1⟩ := u'
      refine ⟨by decide, ?_⟩
      rw [lx_mod2 hj]
      have ge : ∀ f, f ≠ 15 → f ≠ 23 → f ≠ 24 → g2 f = g f := fun f a1 a2 a3 => by rw [k1 f a2 a3, ho1 f a1]
      have hm2 : j % 2 < 2 := Nat.mod_lt _ (by decide)
      have gOC := ge 16 (by decide) (by decide) (by decide); have gOA := ge 17 (by decide) (by decide) (by decide); have gOK := ge 18 (by decide) (by decide) (by decide)
      refine lx_transmit hR2 hm2 k3 k4 k5 k2 (by rw [ge 22 (by decide) (by decide) (by decide)]; exact s3.2.2.1) (by rw [gOC]; exact (s1 _ hm2).1) (by rw [gOC, gOA, gOK]; exact (s1 _ hm2).2) (by rw [ge 19 (by decide) (by decide) (by decide)]; exact s2) fun g' u2 T hR3 => ?_
      obtain ⟨cNL2, cDL2, cDB2, cWF2, cWC2, cWL2, cWB2, cIF2, cIC2, cTT2, cIL2, cIB2, cKN2, cNX2, cTF2, cOW2, cRS2, cOC2, cOA2, cOK2, cPS2, cPL2, cPT2, cPK2, cPB2, cNP2⟩ := u2
      refine nm_r (nI_1 j) (K g' ?_ hR3)
      refine ls_sC hj S ha' (ls_TX_sim k1 T) B k6 ?_
      rw [eKN, eNX, eWF, eWL, eWB] at k7
      exact k7
    · exact K _ (ls_sB hj S fun z => ha (hact.mpr z.2)) hR
  · exact K _ (ls_sB hj S fun z => hz z.1) hR
theorem lx_sd35 {post : SX → Prop} {J2 : Int32 → Int32 → (Nat → Int32) → (Nat → Int32) → (Nat → Int32) → (Nat → Int32) → (Nat → Int32) → (Nat → Int32) → (Nat → Int32) → (Nat → Int32) → (Nat → Int32) → (Nat → Int32) → (Nat → Int32) → (Nat → Int32) → (Nat → Int32) → (Nat → Int32) → (Nat → Int32) → (Nat → Int32) → (Nat → Int32) → (Nat → Int32) → (Nat → Int32) → (Nat → Int32) → (Nat → Int32) → (Nat → Int32) → (Nat → Int32) → (Nat → Int32) → (Nat → Int32) → Prop}
    {b g : Nat → Nat → Nat} {X m j : Nat} {cNL : Int32} {cDL cDB cWF cWC cWL cWB cIF cIC cTT cIL cIB cKN cNX cTF cOW cRS cOC cOA cOK cPS cPL cPT cPK cPB cNP : Nat → Int32} (B : ls_B b) (hj : j < 4) (S : ls_SI b X m (j + 1) j g) (hR : lx_R g (cNL, cDL, cDB, cWF, cWC, cWL, cWB, cIF, cIC, cTT, cIL, cIB, cKN, cNX, cTF, cOW, cRS, cOC, cOA, cOK, cPS, cPL, cPT, cPK, cPB, cNP))
    (K : ∀ (g' : Nat → Nat → Nat) {cNL7 : Int32} {cDL7 cDB7 cWF7 cWC7 cWL7 cWB7 cIF7 cIC7 cTT7 cIL7 cIB7 cKN7 cNX7 cTF7 cOW7 cRS7 cOC7 cOA7 cOK7 cPS7 cPL7 cPT7 cPK7 cPB7 cNP7 : Nat → Int32}, ls_SI b X m (j + 1) (j + 1) g' → lx_R g' (cNL7, cDL7, cDB7, cWF7, cWC7, cWL7, cWB7, cIF7, cIC7, cTT7, cIL7, cIB7, cKN7, cNX7, cTF7, cOW7, cRS7, cOC7, cOA7, cOK7, cPS7, cPL7, cPT7, cPK7, cPB7, cNP7) → J2 (nI (j + 1)) cNL7 cDL7 cDB7 cWF7 cWC7 cWL7 cWB7 cIF7 cIC7 cTT7 cIL7 cIB7 cKN7 cNX7 cTF7 cOW7 cRS7 cOC7 cOA7 cOK7 cPS7 cPL7 cPT7 cPK7 cPB7 cNP7) : wX_sendDuePieces_35 post J2 (nI j) cNL cDL cDB cWF cWC cWL cWB cIF cIC cTT cIL cIB cKN cNX cTF cOW cRS cOC cOA cOK cPS cPL cPT cPK cPB cNP := by
  have hR' := hR
  obtain ⟨rNL, rDL, rDB, rWF, rWC, rWL, rWB, rIF, rIC, rTT, rIL, rIB, rKN, rNX, rTF, rOW, rRS, rOC, rOA, rOK, rPL, rPT, rPK, rPB, rNP⟩ := hR'
  obtain ⟨s1, s2, s3, mv, d, J⟩ := lx_SI_tx S
  have h4 := (J.1 j hj).1.2.2.2.2.2.2.2.2.2.2.1
  unfold wX_sendDuePieces_35
  rw [nI_clamp (by omega : j < 2 ^ 31), rRS]
  refine ⟨vp_in_nI hj (by decide), pk_le (g 15 j) 0 (fun h => ?_) (fun h => ⟨vp_in_nI hj (by decide), vp_in_nI hj (by decide), ?_⟩) rfl rfl (by omega) (by omega)⟩
  · have e : ls_dec g j = g := if_neg (by omega)
    exact lx_sd54 B hj S (by rw [e]; exact hR) K
  · have e : ls_dec g j = ls_up g 15 j (g 15 j - 1) := if_pos h
    rw [show nI (g 15 j) - 1 = nI (g 15 j - 1) from pk_sub (b := 1) h]
    exact nm_e (lx_sd54 B hj S (by rw [e]; exact lx_uRS _ _ hR) K)
theorem lx_sd2 {post : SX → Prop} {b : Nat → Nat → Nat} {X m : Nat} (B : ls_B b) (H : ∀ g' u', ls_SI b X m 4 4 g' → lx_R g' u' → post u') : ∀ (r j n : Nat) (g : Nat → Nat → Nat) {cNL : Int32} {cDL cDB cWF cWC cWL cWB cIF cIC cTT cIL cIB cKN cNX cTF cOW cRS cOC cOA cOK cPS cPL cPT cPK cPB cNP : Nat → Int32}, j + r = 4 → r < n → ls_SI b X m j j g → lx_R g (cNL, cDL, cDB, cWF, cWC, cWL, cWB, cIF, cIC, cTT, cIL, cIB, cKN, cNX, cTF, cOW, cRS, cOC, cOA, cOK, cPS, cPL, cPT, cPK, cPB, cNP) →
    wX_sendDuePieces_2 post n (nI j) cNL cDL cDB cWF cWC cWL cWB cIF cIC cTT cIL cIB cKN cNX cTF cOW cRS cOC cOA cOK cPS cPL cPT cPK cPB cNP := by
  intro r
  induction r with
  | zero =>
    intro j n g cNL cDL cDB cWF cWC cWL cWB cIF cIC cTT cIL cIB cKN cNX cTF cOW cRS cOC cOA cOK cPS cPL cPT cPK cPB cNP hj hn S hR
    obtain ⟨k, rfl⟩ : ∃ k, n = k + 1 := ⟨n - 1, by omega⟩
    obtain rfl : j = 4 := by omega
    rw [wX_sendDuePieces_2]
    dsimp only
    exact br_t (nI_le (a := 4) (Nat.le_refl _) (by decide)) (H _ _ S hR)
  | succ r ih =>
    intro j n g cNL cDL cDB cWF cWC cWL cWB cIF cIC cTT cIL cIB cKN cNX cTF cOW cRS cOC cOA cOK cPS cPL cPT cPK cPB cNP hj hn S hR
    obtain ⟨k, rfl⟩ : ∃ k, n = k + 1 := ⟨n - 1, by omega⟩
    have hj4 : j < 4 := by omega
    have hR' := hR
    obtain ⟨rNL, rDL, rDB, rWF, rWC, rWL, rWB, rIF, rIC, rTT, rIL, rIB, rKN, rNX, rTF, rOW, rRS, rOC, rOA, rOK, rPL, rPT, rPK, rPB, rNP⟩ := hR'
    obtain ⟨s1, s2, s3, mv, d, J⟩ := lx_SI_tx S
    have sm := lx_small B J j hj4
    have h10 := (J.1 j hj4).1.2.2.2.2.2.2.2.2.2.1
    rw [wX_sendDuePieces_2]
    dsimp only
    rw [nI_clamp (by omega : j < 2 ^ 31), rOW, lx_b0]
    refine br_f (nI_ge (b := 4) hj4 (by decide)) ⟨vp_in_nI hj4 (by decide), pk_eq (g 14 j) 0 (fun h => ?_) (fun h => ⟨vp_in_nI hj4 (by decide), nm_e ?_⟩) rfl rfl (by omega) (by omega)⟩
    · exact lx_sd35 B hj4 (ls_sA0 hj4 S h) hR (fun g' cNL7 cDL7 cDB7 cWF7 cWC7 cWL7 cWB7 cIF7 cIC7 cTT7 cIL7 cIB7 cKN7 cNX7 cTF7 cOW7 cRS7 cOC7 cOA7 cOK7 cPS7 cPL7 cPT7 cPK7 cPB7 cNP7 S' hR7 => ih (j + 1) k g' (by omega) (by omega) S' hR7)
    · have how : g 14 j = 1 := by omega
      have hR1 := lx_uOW j 0 hR
      have hTT : g 8 j < 65536 := by
        obtain ⟨b1, b2, b3, b4, b5, b6, b7, b8, b9, b10, b11, b12, b13, b14, b15, b16⟩ := (J.1 _ (ls_pr_lt hj4)).1
        rw [ls_pr_pr] at b2 b6 b7 b14 b15 b16
        have := (B.1 j hj4).2.2.2.2
        omega
      refine lx_makeAnswer hR1 hj4 sm.1 hTT fun u' hR2 => ?_
      obtain ⟨cNL1, cDL1, cDB1, cWF1, cWC1, cWL1, cWB1, cIF1, cIC1, cTT1, cIL1, cIB1, cKN1, cNX1, cTF1, cOW1, cRS1, cOC1, cOA1, cOK1, cPS1, cPL1, cPT1, cPK1, cPB1, cNP1⟩ := u'
      refine ⟨by decide, ?_⟩
      rw [lx_mod2 hj4]
      have hm2 : j % 2 < 2 := Nat.mod_lt _ (by decide)
      have hkk : (if ls_up g 14 j 0 7 j < 5 then 3 else 4) < 256 := by split <;> decide
      refine lx_transmit hR2 hm2 (n := 4) rfl (by decide) (by decide) (ls_hd_b s3.2.2.2 hj4 hkk) s3.2.2.1 (s1 _ hm2).1 (s1 _ hm2).2 s2 fun g' u2 T hR3 => ?_
      obtain ⟨cNL2, cDL2, cDB2, cWF2, cWC2, cWL2, cWB2, cIF2, cIC2, cTT2, cIL2, cIB2, cKN2, cNX2, cTF2, cOW2, cRS2, cOC2, cOA2, cOK2, cPS2, cPL2, cPT2, cPK2, cPB2, cNP2⟩ := u2
      refine lx_sd35 B hj4 ?_ hR3 (fun g' cNL7 cDL7 cDB7 cWF7 cWC7 cWL7 cWB7 cIF7 cIC7 cTT7 cIL7 cIB7 cKN7 cNX7 cTF7 cOW7 cRS7 cOC7 cOA7 cOK7 cPS7 cPL7 cPT7 cPK7 cPB7 cNP7 S' hR7 => ih (j + 1) k g' (by omega) (by omega) S' hR7)
      refine ls_sA hj4 S how (ls_TX_sim (fun x h1 h2 => ls_hd_o _ j _ _ x h1 h2) T) rfl rfl ?_
      show g 8 j / 256 % 256 * 256 + g 8 j % 256 = g 8 j
      omega
theorem lx_send {post : SX → Prop} {b g : Nat → Nat → Nat} {X m : Nat} {u : SX} (B : ls_B b) (S : ls_SI b X m 0 0 g) (hR : lx_R g u) (H : ∀ g' u', ls_SI b X m 4 4 g' → lx_R g' u' → post u') : wpX_sendDuePieces post u := by
  obtain ⟨cNL, cDL, cDB, cWF, cWC, cWL, cWB, cIF, cIC, cTT, cIL, cIB, cKN, cNX, cTF, cOW, cRS, cOC, cOA, cOK, cPS, cPL, cPT, cPK, cPB, cNP⟩ := u
  exact ⟨5, lx_sd2 B H 4 0 5 g rfl (by decide) S hR⟩
theorem lx_q25 {post : Int32 → Prop} {g : Nat → Nat → Nat} {cNL : Int32} {cDL cDB cWF cWC cWL cWB cIF cIC cTT cIL cIB cKN cNX cTF cOW cRS cOC cOA cOK cPS cPL cPT cPK cPB cNP : Nat → Int32} (hR : lx_R g (cNL, cDL, cDB, cWF, cWC, cWL, cWB, cIF, cIC, cTT, cIL, cIB, cKN, cNX, cTF, cOW, cRS, cOC, cOA, cOK, cPS, cPL, cPT, cPK, cPB, cNP)) (hP : ∀ q, q < 40 → g 19 q ≤ 30) (H1 : (∀ q, q < 40 → g 19 q = 0) → post 1) (H0 : (¬ ∀ q, q < 40 → g 19 q = 0) → post 0) : ∀ (r q n : Nat), q + r = 40 → r < n → (∀ x, x < q → g 19 x = 0) → wX_isQuiet_25 post cNL cDL cDB cWF cWC cWL cWB cIF cIC cTT cIL cIB cKN cNX cTF cOW cRS cOC cOA cOK cPS cPL cPT cPK cPB cNP n (nI q) := by
  have hR' := hR
  obtain ⟨rNL, rDL, rDB, rWF, rWC, rWL, rWB, rIF, rIC, rTT, rIL, rIB, rKN, rNX, rTF, rOW, rRS, rOC, rOA, rOK, rPL, rPT, rPK, rPB, rNP⟩ := hR'
  intro r
  induction r with
  | zero =>
    intro q n hq hn hx
    obtain ⟨k, rfl⟩ : ∃ k, n = k + 1 := ⟨n - 1, by omega⟩
    rw [wX_isQuiet_25]
    dsimp only
    exact br_t (nI_le (a := 40) (by omega) (by omega)) (H1 fun x h => hx x (by omega))
  | succ r ih =>
    intro q n hq hn hx
    obtain ⟨k, rfl⟩ : ∃ k, n = k + 1 := ⟨n - 1, by omega⟩
    rw [wX_isQuiet_25]
    dsimp only
    have h30 := hP q (by omega)
    rw [nI_clamp (by omega : q < 2 ^ 31), rPL]
    refine br_f (nI_ge (b := 40) (by omega) (by decide)) ⟨vp_in_nI (by omega) (by decide), pk_le (g 19 q) 0 (fun h => nm_r (nI_1 q) ?_) (fun h => H0 fun z => ?_) rfl rfl (by omega) (by omega)⟩
    · refine ih (q + 1) k (by omega) (by omega) fun x h2 => ?_
      by_cases e : x = q
      · rw [e]; omega
      · exact hx x (by omega)
    · have := z q (by omega)
      omega
theorem lx_q2 {post : Int32 → Prop} {g : Nat → Nat → Nat} {cNL : Int32} {cDL cDB cWF cWC cWL cWB cIF cIC cTT cIL cIB cKN cNX cTF cOW cRS cOC cOA cOK cPS cPL cPT cPK cPB cNP : Nat → Int32} (hR : lx_R g (cNL, cDL, cDB, cWF, cWC, cWL, cWB, cIF, cIC, cTT, cIL, cIB, cKN, cNX, cTF, cOW, cRS, cOC, cOA, cOK, cPS, cPL, cPT, cPK, cPB, cNP)) (hP : ∀ q, q < 40 → g 19 q ≤ 30) (hS : ∀ s, s < 4 → g 3 s < 2 ^ 30 ∧ g 13 s ≤ 1) (H1 : ls_qt g → post 1) (H0 : ¬ ls_qt g → post 0) : ∀ (r s n : Nat), s + r = 4 → r < n → (∀ x, x < s → ¬ ls_act g x) → wX_isQuiet_2 post cNL cDL cDB cWF cWC cWL cWB cIF cIC cTT cIL cIB cKN cNX cTF cOW cRS cOC cOA cOK cPS cPL cPT cPK cPB cNP n (nI s) := by
  intro r
  induction r with
  | zero =>
    intro s n hs hn hx
    obtain ⟨k, rfl⟩ : ∃ k, n = k + 1 := ⟨n - 1, by omega⟩
    rw [wX_isQuiet_2]
    dsimp only
    refine br_t (nI_le (a := 4) (by omega) (by omega)) ⟨41, ?_⟩
    exact lx_q25 hR hP (fun h => H1 ⟨fun x h2 => hx x (by omega), h⟩) (fun h => H0 fun z => h z.2) 40 0 41 rfl (by decide) (fun x h => absurd h (Nat.not_lt_zero x))
  | succ r ih =>
    intro s n hs hn hx
    obtain ⟨k, rfl⟩ : ∃ k, n = k + 1 := ⟨n - 1, by omega⟩
    rw [wX_isQuiet_2]
    dsimp only
    have hs4 : s < 4 := by omega
    refine br_f (nI_ge (b := 4) hs4 (by decide)) (lx_hasMsg hR hs4 (hS s hs4).1 (hS s hs4).2 (fun h => br_f (by decide) (H0 fun z => z.1 s hs4 h)) (fun h => br_t rfl (nm_r (nI_1 s) ?_)))
    refine ih (s + 1) k (by omega) (by omega) fun x h2 => ?_
    by_cases e : x = s
    · rw [e]; exact h
    · exact hx x (by omega)
theorem lx_quiet {post : Int32 → Prop} {g : Nat → Nat → Nat} {u : SX} (hR : lx_R g u) (hP : ∀ q, q < 40 → g 19 q ≤ 30) (hS : ∀ s, s < 4 → g 3 s < 2 ^ 30 ∧ g 13 s ≤ 1) (H1 : ls_qt g → post 1) (H0 : ¬ ls_qt g → post 0) : wpX_isQuiet post u := by
  obtain ⟨cNL, cDL, cDB, cWF, cWC, cWL, cWB, cIF, cIC, cTT, cIL, cIB, cKN, cNX, cTF, cOW, cRS, cOC, cOA, cOK, cPS, cPL, cPT, cPK, cPB, cNP⟩ := u
  exact ⟨5, lx_q2 hR hP hS H1 H0 4 0 5 rfl (by decide) (fun x h => absurd h (Nat.not_lt_zero x))⟩
def lx_sm (g : Nat → Nat → Nat) : Nat → Nat
  | 0 => 0
  | n + 1 => lx_sm g n + g 8 n
theorem lx_aa4 {post : Int32 → Prop} {g : Nat → Nat → Nat} {cNL : Int32} {cDL cDB cWF cWC cWL cWB cIF cIC cTT cIL cIB cKN cNX cTF cOW cRS cOC cOA cOK cPS cPL cPT cPK cPB cNP : Nat → Int32} (hR : lx_R g (cNL, cDL, cDB, cWF, cWC, cWL, cWB, cIF, cIC, cTT, cIL, cIB, cKN, cNX, cTF, cOW, cRS, cOC, cOA, cOK, cPS, cPL, cPT, cPK, cPB, cNP)) (H : post (nI (lx_sm g 4))) : ∀ (r s n : Nat), s + r = 4 → r < n → wX_arrivedInAll_4 post cNL cDL cDB cWF cWC cWL cWB cIF cIC cTT cIL cIB cKN cNX cTF cOW cRS cOC cOA cOK cPS cPL cPT cPK cPB cNP n (nI (lx_sm g s)) (nI s) := by
  have hR' := hR
  obtain ⟨rNL, rDL, rDB, rWF, rWC, rWL, rWB, rIF, rIC, rTT, rIL, rIB, rKN, rNX, rTF, rOW, rRS, rOC, rOA, rOK, rPL, rPT, rPK, rPB, rNP⟩ := hR'
  intro r
  induction r with
  | zero =>
    intro s n hs hn
    obtain ⟨k, rfl⟩ : ∃ k, n = k + 1 := ⟨n - 1, by omega⟩
    obtain rfl : s = 4 := by omega
    rw [wX_arrivedInAll_4]
    dsimp only
    exact br_t (nI_le (a := 4) (Nat.le_refl _) (by decide)) H
  | succ r ih =>
    intro s n hs hn
    obtain ⟨k, rfl⟩ : ∃ k, n = k + 1 := ⟨n - 1, by omega⟩
    rw [wX_arrivedInAll_4]
    dsimp only
    rw [nI_clamp (by omega : s < 2 ^ 31), rTT]
    exact br_f (nI_ge (b := 4) (by omega) (by decide)) ⟨vp_in_nI (by omega) (by decide), nm_r (nI_add _ _) (nm_r (nI_1 s) (ih (s + 1) k (by omega) (by omega)))⟩
theorem lx_all {post : Int32 → Prop} {g : Nat → Nat → Nat} {u : SX} (hR : lx_R g u) (H : post (nI (lx_sm g 4))) : wpX_arrivedInAll post u := by
  obtain ⟨cNL, cDL, cDB, cWF, cWC, cWL, cWB, cIF, cIC, cTT, cIL, cIB, cKN, cNX, cTF, cOW, cRS, cOC, cOA, cOK, cPS, cPL, cPT, cPK, cPB, cNP⟩ := u
  exact ⟨5, lx_aa4 hR H 4 0 5 rfl (by decide)⟩
theorem lr_rs_s (g : Nat → Nat → Nat) (s : Nat) : ls_up (ls_up (lr_rs g s) 13 s 0) 15 s 0 = lr_rs g (s + 1) := by
  funext f i
  unfold ls_up lr_rs
  by_cases e1 : f = 15
  · subst e1
    rw [if_pos rfl]
    by_cases h : i = s
    · rw [if_pos h, if_pos (by omega)]
    · rw [if_neg h, if_neg (by decide)]
      by_cases h2 : i < s
      · rw [if_pos (by omega), if_pos (by omega)]
      · rw [if_neg (by omega), if_neg (by omega)]
  · rw [if_neg e1]
    by_cases e2 : f = 13
    · subst e2
      rw [if_pos rfl]
      by_cases h : i = s
      · rw [if_pos h, if_pos (by omega)]
      · rw [if_neg h]
        by_cases h2 : i < s
        · rw [if_pos (by omega), if_pos (by omega)]
        · rw [if_neg (by omega), if_neg (by omega)]
    · rw [if_neg e2, if_neg (by omega), if_neg (by omega)]
theorem lr_rs_0 (g : Nat → Nat → Nat) : lr_rs g 0 = g := by
  funext f i
  exact if_neg (by omega)
theorem lx_tf2 {post : SX → Prop} {g : Nat → Nat → Nat} (H : ∀ u', lx_R (lr_rs g 4) u' → post u') : ∀ (r s n : Nat) {cNL : Int32} {cDL cDB cWF cWC cWL cWB cIF cIC cTT cIL cIB cKN cNX cTF cOW cRS cOC cOA cOK cPS cPL cPT cPK cPB cNP : Nat → Int32}, s + r = 4 → r < n → lx_R (lr_rs g s) (cNL, cDL, cDB, cWF, cWC, cWL, cWB, cIF, cIC, cTT, cIL, cIB, cKN, cNX, cTF, cOW, cRS, cOC, cOA, cOK, cPS, cPL, cPT, cPK, cPB, cNP) → wX_tryFullInboxesAgain_2 post cNL n (nI s) cDL cDB cWF cWC cWL cWB cIF cIC cTT cIL cIB cKN cNX cTF cOW cRS cOC cOA cOK cPS cPL cPT cPK cPB cNP := by
  intro r
  induction r with
  | zero =>
    intro s n cNL cDL cDB cWF cWC cWL cWB cIF cIC cTT cIL cIB cKN cNX cTF cOW cRS cOC cOA cOK cPS cPL cPT cPK cPB cNP hs hn hR
    obtain ⟨k, rfl⟩ : ∃ k, n = k + 1 := ⟨n - 1, by omega⟩
    obtain rfl : s = 4 := by omega
    rw [wX_tryFullInboxesAgain_2]
    dsimp only
    exact br_t (nI_le (a := 4) (Nat.le_refl _) (by decide)) (H _ hR)
  | succ r ih =>
    intro s n cNL cDL cDB cWF cWC cWL cWB cIF cIC cTT cIL cIB cKN cNX cTF cOW cRS cOC cOA cOK cPS cPL cPT cPK cPB cNP hs hn hR
    obtain ⟨k, rfl⟩ : ∃ k, n = k + 1 := ⟨n - 1, by omega⟩
    rw [wX_tryFullInboxesAgain_2]
    dsimp only
    rw [nI_clamp (by omega : s < 2 ^ 31), lx_b0]
    refine br_f (nI_ge (b := 4) (by omega) (by decide)) ⟨vp_in_nI (by omega) (by decide), nm_e ⟨vp_in_nI (by omega) (by decide), nm_e (nm_r (nI_1 s) ?_)⟩⟩
    have h2 := lx_uRS s 0 (lx_uTF s 0 hR)
    rw [lr_rs_s] at h2
    exact ih (s + 1) k (by omega) (by omega) h2
theorem lx_tryFull {post : SX → Prop} {g : Nat → Nat → Nat} {u : SX} (hR : lx_R g u) (H : ∀ u', lx_R (lr_rs g 4) u' → post u') : wpX_tryFullInboxesAgain post u := by
  obtain ⟨cNL, cDL, cDB, cWF, cWC, cWL, cWB, cIF, cIC, cTT, cIL, cIB, cKN, cNX, cTF, cOW, cRS, cOC, cOA, cOK, cPS, cPL, cPT, cPK, cPB, cNP⟩ := u
  exact ⟨5, lx_tf2 H 4 0 5 rfl (by decide) (by rw [lr_rs_0]; exact hR)⟩
theorem lx_s13q {post : Int32 → SX → Prop} {x1 x3 : Int32} {n : Nat} {cNL : Int32} {cDL cDB cWF cWC cWL cWB cIF cIC cTT cIL cIB cKN cNX cTF cOW cRS cOC cOA cOK cPS cPL cPT cPK cPB cNP : Nat → Int32} (h : wX_settle_42 post x1 cNL cDL cDB cWF cWC cWL cWB cIF cIC cTT cIL cIB cKN cNX cTF cOW cRS cOC cOA cOK cPS cPL cPT cPK cPB cNP) : wX_settle_13 post x1 (n + 1) 1 x3 cNL cDL cDB cWF cWC cWL cWB cIF cIC cTT cIL cIB cKN cNX cTF cOW cRS cOC cOA cOK cPS cPL cPT cPK cPB cNP := by
  rw [wX_settle_13]
  dsimp only
  exact br_c (fun _ => h) (fun _ => br_f (by decide) h)
theorem lx_s13 {post : Int32 → SX → Prop} {b : Nat → Nat → Nat} {x1 : Int32} (B : ls_B b) (H : ∀ g' u' X M, ls_TI b X M g' → ls_qt g' → lx_R g' u' → post (nI (lx_sm g' 4) - x1) u') : ∀ (z tick n X M : Nat) (g : Nat → Nat → Nat) {cNL : Int32} {cDL cDB cWF cWC cWL cWB cIF cIC cTT cIL cIB cKN cNX cTF cOW cRS cOC cOA cOK cPS cPL cPT cPK cPB cNP : Nat → Int32}, tick + z = 2000 → 16 * X + M ≤ z → 1 ≤ M → z + 1 < n → ls_TI b X M g → lx_R g (cNL, cDL, cDB, cWF, cWC, cWL, cWB, cIF, cIC, cTT, cIL, cIB, cKN, cNX, cTF, cOW, cRS, cOC, cOA, cOK, cPS, cPL, cPT, cPK, cPB, cNP) →
    wX_settle_13 post x1 n 0 (nI tick) cNL cDL cDB cWF cWC cWL cWB cIF cIC cTT cIL cIB cKN cNX cTF cOW cRS cOC cOA cOK cPS cPL cPT cPK cPB cNP := by
  intro z
  induction z with
  | zero =>
    intro tick n X M g cNL cDL cDB cWF cWC cWL cWB cIF cIC cTT cIL cIB cKN cNX cTF cOW cRS cOC cOA cOK cPS cPL cPT cPK cPB cNP h1 h2 h3
    omega
  | succ z ih =>
    intro tick n X M g cNL cDL cDB cWF cWC cWL cWB cIF cIC cTT cIL cIB cKN cNX cTF cOW cRS cOC cOA cOK cPS cPL cPT cPK cPB cNP h1 h2 h3 h4 T hR
    obtain ⟨k, rfl⟩ : ∃ k, n = k + 1 := ⟨n - 1, by omega⟩
    rw [wX_settle_13]
    dsimp only
    refine br_f (nI_ge (b := 1000000) (by omega) (by decide)) (br_t rfl ?_)
    refine lx_deliver B (ls_T_start h3 T) hR fun g1 u1 D1 hR1 => ?_
    obtain ⟨cNL1, cDL1, cDB1, cWF1, cWC1, cWL1, cWB1, cIF1, cIC1, cTT1, cIL1, cIB1, cKN1, cNX1, cTF1, cOW1, cRS1, cOC1, cOA1, cOK1, cPS1, cPL1, cPT1, cPK1, cPB1, cNP1⟩ := u1
    refine lx_send B (ls_T_mid T D1) hR1 fun g2 u2 S2 hR2 => ?_
    obtain ⟨cNL2, cDL2, cDB2, cWF2, cWC2, cWL2, cWB2, cIF2, cIC2, cTT2, cIL2, cIB2, cKN2, cNX2, cTF2, cOW2, cRS2, cOC2, cOA2, cOK2, cPS2, cPL2, cPT2, cPK2, cPB2, cNP2⟩ := u2
    have E := ls_T_end S2
    have h30 : ∀ q, q < 40 → g2 19 q ≤ 30 := (lx_SI_tx S2).2.1
    obtain ⟨_, _, _, mv, d, J⟩ := lx_SI_tx S2
    refine lx_quiet hR2 h30 (fun s hs => ⟨(lx_small B J s hs).2.2.2.2.2.1, (J.1 s hs).1.2.2.2.2.2.2.2.2.1⟩) (fun hq => nm_r (nI_1 tick) ?_) (fun hq => nm_r (nI_1 tick) ?_)
    · obtain ⟨k', rfl⟩ : ∃ k', k = k' + 1 := ⟨k - 1, by omega⟩
      refine lx_s13q ?_
      unfold wX_settle_42
      refine lx_all hR2 ?_
      rcases E with E | ⟨_, E⟩
      · exact H _ _ _ _ E hq hR2
      · exact H _ _ _ _ E hq hR2
    · rcases E with E | ⟨hX, E⟩
      · have hM : 1 ≤ M - 1 := by
          refine Nat.pos_of_ne_zero fun z0 => hq ?_
          rw [z0] at E
          obtain ⟨mv, d, D, J', Q, O, hL, hX, hV, hW⟩ := E
          exact ls_LV_0 Q hV
        exact ih (tick + 1) k X (M - 1) g2 (by omega) (by omega) hM (by omega) E hR2
      · exact ih (tick + 1) k (X - 1) 15 g2 (by omega) (by omega) (by decide) (by omega) E hR2
theorem lx_settle {post : Int32 → SX → Prop} {k : Nat} {g : Nat → Nat → Nat} {u : SX} (hR : lx_R g u) (K : lr_K k g) (hk : k ≤ 4096) (H : ∀ g' u' X M, ls_TI g X M g' → ls_qt g' → lx_R g' u' → post (nI (lx_sm g' 4) - nI (lx_sm g 4)) u') : wpX_settle post u := by
  obtain ⟨cNL, cDL, cDB, cWF, cWC, cWL, cWB, cIF, cIC, cTT, cIL, cIB, cKN, cNX, cTF, cOW, cRS, cOC, cOA, cOK, cPS, cPL, cPT, cPK, cPB, cNP⟩ := u
  unfold wpX_settle
  dsimp only
  refine lx_all hR ?_
  refine lx_tryFull hR fun u1 hR1 => ?_
  obtain ⟨cNL1, cDL1, cDB1, cWF1, cWC1, cWL1, cWB1, cIF1, cIC1, cTT1, cIL1, cIB1, cKN1, cNX1, cTF1, cOW1, cRS1, cOC1, cOA1, cOK1, cPS1, cPL1, cPT1, cPK1, cPB1, cNP1⟩ := u1
  exact ⟨2002, lx_s13 (lr_B K hk) H 2000 0 2002 72 15 _ rfl (by decide) (by decide) (by decide) (lr_start K) hR1⟩
