/-! transmit -/
theorem ls_A_0 {g g3 : Nat → Nat → Nat} {e n : Nat} {f : Nat → Nat} (h : ∀ x, x ≠ 23 → x ≠ 24 → x ≠ 16 → x ≠ 17 → x ≠ 18 → g3 x = g x) (hn : g3 24 0 = n + 2) (hb : ∀ i, g 22 i < 256) : ls_A g g3 e n f (g3 23) 0 0 := by
  have hPL := h 19 (by decide) (by decide) (by decide) (by decide) (by decide)
  have hPT := h 20 (by decide) (by decide) (by decide) (by decide) (by decide)
  have hPK := h 21 (by decide) (by decide) (by decide) (by decide) (by decide)
  have hPB := h 22 (by decide) (by decide) (by decide) (by decide) (by decide)
  refine ⟨fun x hx => ?_, rfl, hn, fun q _ => Or.inl ⟨⟨by rw [hPL], by rw [hPT], fun i _ => by rw [hPB]⟩, by rw [hPK]⟩, fun i => by rw [hPB]; exact hb i, ?_, ?_⟩
  · unfold ls_lnk at hx
    exact h x (by omega) (by omega) (by omega) (by omega) (by omega)
  · unfold ls_U; rw [hPL]; exact Nat.le_refl _
  · unfold ls_L; rw [hPL, hPK]; exact Nat.le_refl _
theorem lx_has {post : Int32 → Prop} {fx k : Nat} (hf : fx < 16) (hk : k < 4) (H1 : fx / 2 ^ k % 2 = 1 → post 1) (H0 : fx / 2 ^ k % 2 = 0 → post 0) : wpX_hasEffect post (nI fx) (nI k) := by
  unfold wpX_hasEffect
  have h := lx_fx fx hf k hk
  exact br_c (fun z => H1 (h.mp z)) (fun z => H0 (by
    have : ¬ fx / 2 ^ k % 2 = 1 := fun y => z (h.mpr y)
    omega))
theorem ls_full {g : Nat → Nat → Nat} (h : ∀ q, q < 40 → g 19 q ≠ 0) : ¬ ls_U g < 40 := by
  intro hU
  obtain ⟨q, hq, hz⟩ := ls_cn_free hU
  exact absurd (h q hq) (of_decide_eq_false hz)
theorem ls_TO_eq {g g4 g5 : Nat → Nat → Nat} {e fx : Nat} (h1 : g5 16 = g4 16) (h2 : g5 17 = g4 17) (h3 : g5 18 = g4 18) (O : ls_TO g (g4 16) (g4 17) (g4 18) e fx) : ls_TO g (g5 16) (g5 17) (g5 18) e fx := by
  rw [h1, h2, h3]; exact O
theorem lx_tr64 {post : SX → Prop} {g g3 : Nat → Nat → Nat} {e n fx t : Nat} {f : Nat → Nat} {cNL : Int32} {cDL cDB cWF cWC cWL cWB cIF cIC cTT cIL cIB cKN cNX cTF cOW cRS cOC cOA cOK cPS cPL cPT cPK cPB cNP : Nat → Int32} (he : e < 2) (h4 : 4 ≤ n) (h28 : n ≤ 28) (hP : ∀ q, q < 40 → g 19 q ≤ 30) (hb : ∀ i, g3 23 i < 256)
    (hs : ck_dis (g3 23) n = 0 → ∀ i, i < n → g3 23 i = f i) (hs0 : g 16 e = 0 → ck_dis (g3 23) n = 0) (A : ls_A g g3 e n f (g3 23) 0 0) (hPL : g3 19 = g 19) (O : ls_TO g (g3 16) (g3 17) (g3 18) e fx)
    (ht : (t = 1 ∧ fx / 8 % 2 = 0) ∨ (t = 11 ∧ fx / 8 % 2 = 1)) (hR : lx_R g3 (cNL, cDL, cDB, cWF, cWC, cWL, cWB, cIF, cIC, cTT, cIL, cIB, cKN, cNX, cTF, cOW, cRS, cOC, cOA, cOK, cPS, cPL, cPT, cPK, cPB, cNP)) (H : ∀ g' u', ls_TX g g' e n f → lx_R g' u' → post u') : wX_transmit_64 post (nI e) (nI fx) (nI t) cNL cDL cDB cWF cWC cWL cWB cIF cIC cTT cIL cIB cKN cNX cTF cOW cRS cOC cOA cOK cPS cPL cPT cPK cPB cNP := by
  have hfx := O.2.2.2.2.1
  have h0 := O.2.2.2.2.2
  have e1 : (1 : Int32) - nI e = nI (1 - e) := pk_sub (a := 1) (by omega)
  have e3 : nI t + 3 = nI (t + 3) := nI_add t 3
  have hNL : g3 24 0 = n + 2 := A.2.2.1
  have ht1 : g 16 e = 0 → t = 1 := fun z => by have := h0 z; subst this; omega
  unfold wX_transmit_64
  rw [e1, e3]
  refine lx_put hR (by omega) (by omega) (fun q hq => by rw [hPL]; have := hP q hq; omega) ?_ ?_
  · intro q u' hq hz hR1
    obtain ⟨cNL1, cDL1, cDB1, cWF1, cWC1, cWL1, cWB1, cIF1, cIC1, cTT1, cIL1, cIB1, cKN1, cNX1, cTF1, cOW1, cRS1, cOC1, cOA1, cOK1, cPS1, cPL1, cPT1, cPK1, cPB1, cNP1⟩ := u'
    obtain ⟨A1, N1, D1⟩ := ls_A_put A h28 hq hz hb hs (t := t) (by omega) (by omega) ht1
    have O1 := ls_TO_eq (g5 := ls_put g3 q (1 - e) t) (ls_put_o g3 q _ t 16 (by decide) (by decide) (by decide) (by decide)) (ls_put_o g3 q _ t 17 (by decide) (by decide) (by decide) (by decide)) (ls_put_o g3 q _ t 18 (by decide) (by decide) (by decide) (by decide)) O
    have hc' : 0 + (if 2 ≤ t then 1 else 0) = fx / 8 % 2 := by
      rcases ht with ⟨z, z2⟩ | ⟨z, z2⟩ <;> subst z <;> rw [z2] <;> rfl
    have T1 : ls_TX g (ls_put g3 q (1 - e) t) e n f := by
      refine ls_TX_of A1 O1 hb (by omega) (by omega) fun ho _ => ⟨q, hq, N1.1, N1.2, ?_⟩
      rw [D1]; exact hs0 ho
    refine lx_has (k := 1) hfx (by decide) (fun h1 => ?_) (fun _ => br_t rfl (H _ _ T1 hR1))
    refine br_f (by decide) ?_
    have hNL1 : ls_put g3 q (1 - e) t 24 0 = n + 2 := A1.2.2.1
    refine lx_put hR1 (by omega) (by omega) (fun q' hq' => ?_) ?_ ?_
    · rw [ls_put_PL]
      split
      · omega
      · rw [hPL]; have := hP q' hq'; omega
    · intro q2 u2 hq2 hz2 hR2
      obtain ⟨cNL2, cDL2, cDB2, cWF2, cWC2, cWL2, cWB2, cIF2, cIC2, cTT2, cIL2, cIB2, cKN2, cNX2, cTF2, cOW2, cRS2, cOC2, cOA2, cOK2, cPS2, cPL2, cPT2, cPK2, cPB2, cNP2⟩ := u2
      obtain ⟨A2, N2, D2⟩ := ls_A_put A1 h28 hq2 hz2 hb hs (t := t + 3) (by omega) (by omega) (fun z => by have := h0 z; subst this; omega)
      have O2 := ls_TO_eq (g5 := ls_put (ls_put g3 q (1 - e) t) q2 (1 - e) (t + 3)) (ls_put_o _ q2 _ _ 16 (by decide) (by decide) (by decide) (by decide)) (ls_put_o _ q2 _ _ 17 (by decide) (by decide) (by decide) (by decide)) (ls_put_o _ q2 _ _ 18 (by decide) (by decide) (by decide) (by decide)) O1
      refine H _ _ (ls_TX_of A2 O2 hb (by omega) ?_ fun ho _ => ?_) hR2
      · rw [hc', if_pos (by omega)]
        have : fx / 2 % 2 = 1 := h1
        omega
      · have := h0 ho
        subst this
        exact absurd h1 (by decide)
    · intro _
      exact H _ _ T1 hR1
  · intro hall
    have T0 : ls_TX g g3 e n f := by
      refine ls_TX_of A O hb (by omega) (by omega) fun _ hU => absurd hU (ls_full fun q hq => ?_)
      rw [← hPL]; exact hall q hq
    refine lx_has (k := 1) hfx (by decide) (fun h1 => ?_) (fun _ => br_t rfl (H _ _ T0 hR))
    refine br_f (by decide) ?_
    refine lx_put hR (by omega) (by omega) (fun q hq => by rw [hPL]; have := hP q hq; omega) ?_ ?_
    · intro q u' hq hz _
      exact absurd hz (hall q hq)
    · intro _
      exact H _ _ T0 hR
theorem lx_tr50 {post : SX → Prop} {g g3 : Nat → Nat → Nat} {e n fx : Nat} {f : Nat → Nat} {cNL : Int32} {cDL cDB cWF cWC cWL cWB cIF cIC cTT cIL cIB cKN cNX cTF cOW cRS cOC cOA cOK cPS cPL cPT cPK cPB cNP : Nat → Int32} (he : e < 2) (h4 : 4 ≤ n) (h28 : n ≤ 28) (hP : ∀ q, q < 40 → g 19 q ≤ 30) (hb : ∀ i, g3 23 i < 256)
    (hs : ck_dis (g3 23) n = 0 → ∀ i, i < n → g3 23 i = f i) (hs0 : g 16 e = 0 → ck_dis (g3 23) n = 0) (A : ls_A g g3 e n f (g3 23) 0 0) (hPL : g3 19 = g 19) (O : ls_TO g (g3 16) (g3 17) (g3 18) e fx)
    (hR : lx_R g3 (cNL, cDL, cDB, cWF, cWC, cWL, cWB, cIF, cIC, cTT, cIL, cIB, cKN, cNX, cTF, cOW, cRS, cOC, cOA, cOK, cPS, cPL, cPT, cPK, cPB, cNP)) (H : ∀ g' u', ls_TX g g' e n f → lx_R g' u' → post u') : wX_transmit_50 post (nI e) (nI fx) cNL cDL cDB cWF cWC cWL cWB cIF cIC cTT cIL cIB cKN cNX cTF cOW cRS cOC cOA cOK cPS cPL cPT cPK cPB cNP := by
  unfold wX_transmit_50
  refine lx_has (k := 3) O.2.2.2.2.1 (by decide) (fun h => br_f (by decide) ?_) (fun h => br_t rfl ?_)
  · exact lx_tr64 (t := 11) he h4 h28 hP hb hs hs0 A hPL O (Or.inr ⟨rfl, h⟩) hR H
  · exact lx_tr64 (t := 1) he h4 h28 hP hb hs hs0 A hPL O (Or.inl ⟨rfl, h⟩) hR H
theorem lx_transmit {post : SX → Prop} {g : Nat → Nat → Nat} {u : SX} {e n : Nat} (hR : lx_R g u) (he : e < 2) (hn : g 24 0 = n) (h4 : 4 ≤ n) (h28 : n ≤ 28) (hbN : ∀ i, g 23 i < 256) (hbP : ∀ i, g 22 i < 256)
    (h12 : g 16 e ≤ 12) (hk : ∀ i, i < g 16 e → g 17 (e * 12 + i) < 16 ∧ g 18 (e * 12 + i) ≤ 3) (hP : ∀ q, q < 40 → g 19 q ≤ 30)
    (H : ∀ g' u', ls_TX g g' e n (g 23) → lx_R g' u' → post u') : wpX_transmit post u (nI e) := by
  obtain ⟨cNL, cDL, cDB, cWF, cWC, cWL, cWB, cIF, cIC, cTT, cIL, cIB, cKN, cNX, cTF, cOW, cRS, cOC, cOA, cOK, cPS, cPL, cPT, cPK, cPB, cNP⟩ := u
  unfold wpX_transmit
  dsimp only
  refine lx_seal hR (by omega) hbN fun u1 hR1 => ?_
  obtain ⟨cNL1, cDL1, cDB1, cWF1, cWC1, cWL1, cWB1, cIF1, cIC1, cTT1, cIL1, cIB1, cKN1, cNX1, cTF1, cOW1, cRS1, cOC1, cOA1, cOK1, cPS1, cPL1, cPT1, cPK1, cPB1, cNP1⟩ := u1
  obtain ⟨s1, s2, s3, s4⟩ := ls_seal_ok hbN
  rw [hn] at s2 s3 s4
  have so : ∀ f, f ≠ 23 → f ≠ 24 → ls_seal g f = g f := fun f => ls_seal_o g f
  generalize ls_seal g = g1 at *
  have eOC := so 16 (by decide) (by decide); have eOA := so 17 (by decide) (by decide); have eOK := so 18 (by decide) (by decide)
  refine lx_orders hR1 he (by rw [eOC]; exact h12) (by rw [eOC, eOA, eOK]; exact hk) fun g2 kept fx u2 hO hR2 => ?_
  obtain ⟨cNL2, cDL2, cDB2, cWF2, cWC2, cWL2, cWB2, cIF2, cIC2, cTT2, cIL2, cIB2, cKN2, cNX2, cTF2, cOW2, cRS2, cOC2, cOA2, cOK2, cPS2, cPL2, cPT2, cPK2, cPB2, cNP2⟩ := u2
  have O1 := ls_OI_TO hO (by rw [eOC]; exact h12)
  have O : ls_TO g (ls_up g2 16 e kept 16) (ls_up g2 16 e kept 17) (ls_up g2 16 e kept 18) e fx := by
    unfold ls_TO at O1 ⊢
    rw [eOC, eOA, eOK] at O1
    exact O1
  have hg2 : ∀ x, x ≠ 16 → x ≠ 17 → x ≠ 18 → ls_up g2 16 e kept x = g1 x := fun x h1 h2 h3 => by
    rw [← hO.1 x h2 h3]
    funext i; simp [ls_up, h1]
  clear hO O1
  generalize ls_up g2 16 e kept = g3 at *
  have hg3 : ∀ x, x ≠ 23 → x ≠ 24 → x ≠ 16 → x ≠ 17 → x ≠ 18 → g3 x = g x := fun x a1 a2 a3 a4 a5 => by rw [hg2 x a3 a4 a5, so x a1 a2]
  have eNP : g3 23 = g1 23 := hg2 23 (by decide) (by decide) (by decide)
  have eNL : g3 24 0 = n + 2 := by rw [hg2 24 (by decide) (by decide) (by decide)]; exact s3
  have ePL : g3 19 = g 19 := hg3 19 (by decide) (by decide) (by decide) (by decide) (by decide)
  have hfx := O.2.2.2.2.1
  have h0 := O.2.2.2.2.2
  rw [← eNP] at s1 s2 s4
  have A : ls_A g g3 e n (g 23) (g3 23) 0 0 := ls_A_0 hg3 eNL hbP
  refine ⟨vp_in_nI he (by decide), vp_in_nI he (by decide), ?_⟩
  intro a ea
  have hR3 := lx_uPS (cPS2 := a) hR2
  refine lx_has (k := 0) hfx (by decide) (fun h => br_f (by decide) ?_) (fun h => br_t rfl ?_)
  · refine H _ _ (ls_TX_of A O s1 (by omega) (by omega) fun ho _ => ?_) hR3
    have := h0 ho
    subst this
    exact absurd h (by decide)
  · refine lx_has (k := 2) hfx (by decide) (fun h2 => br_f (by decide) ⟨vp_in_nI he (by decide), ?_⟩) (fun h2 => br_t rfl ?_)
    · obtain ⟨c, hc, ec⟩ := pk_andE (a (nI e).toNatClampNeg) (m := 65535) 16 (by decide)
      rw [ec]
      refine lx_spoil hR3 hc eNL (by omega) s1 s2 fun g4 u4 k1 k2 k3 hR4 => ?_
      obtain ⟨cNL4, cDL4, cDB4, cWF4, cWC4, cWL4, cWB4, cIF4, cIC4, cTT4, cIL4, cIB4, cKN4, cNX4, cTF4, cOW4, cRS4, cOC4, cOA4, cOK4, cPS4, cPL4, cPT4, cPK4, cPB4, cNP4⟩ := u4
      have hoc : g 16 e = 0 → False := fun z => by
        have := h0 z
        subst this
        exact absurd h2 (by decide)
      have A4 : ls_A g g4 e n (g 23) (g4 23) 0 0 := by
        refine ls_A_0 (fun x a1 a2 a3 a4 a5 => by rw [k1 x a1, hg3 x a1 a2 a3 a4 a5]) (by rw [k1 24 (by decide)]; exact eNL) hbP
      exact lx_tr50 he h4 h28 hP k2 (fun z => absurd z k3) (fun z => (hoc z).elim) A4 (by rw [k1 19 (by decide), ePL]) (ls_TO_eq (k1 16 (by decide)) (k1 17 (by decide)) (k1 18 (by decide)) O) hR4 H
    · exact lx_tr50 he h4 h28 hP s1 (fun _ => s4) (fun _ => s2) A ePL O hR3 H
