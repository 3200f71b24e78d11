/-! the calls that only read, and settle -/
theorem i_vc_settle {k : Nat} {u : SX} {v : SY} (I : i_Rel k u v) (hk : k + 4 ≤ 2048) : wpX_settle (fun r u' => wpY_settle (fun r' v' => r' = r ∧ i_Rel (k + 4) u' v') v) u := by
  obtain ⟨g, h, hX, hY, K, R⟩ := I
  refine lx_settle hX K (by omega) fun g' u' X M T hq hX' => ?_
  refine ly_settle hY (fun t ht => by rw [(R.2.1 t ht).1]; exact (K.1 t ht).1) (fun t ht => by rw [(R.2.2 t ht).1]; exact (K.1 t ht).2.2.1) fun h' mv' v' hS hd hf hY' => ?_
  obtain ⟨K2, mv, d, J, hm⟩ := lr_end K T hq
  have hmm : ∀ s, s < 4 → mv s = mv' s := by
    intro s hs
    obtain ⟨m1, m2, m3, m4, m5⟩ := hm s hs
    obtain ⟨y1, y2, y3, y4, y5⟩ := hS s hs
    have d1 := hd s hs
    have e1 := (R.2.1 s hs).1
    have e2 := (R.2.2 _ (ls_pr_lt hs)).1
    omega
  refine ⟨?_, g', h', hX', hY', K2, lr_join K R J (fun s hs => (hm s hs).1) hS hmm hf.1 hf.2⟩
  have t0 := (hm 0 (by decide)).2.2.2.2; have t1 := (hm 1 (by decide)).2.2.2.2; have t2 := (hm 2 (by decide)).2.2.2.2; have t3 := (hm 3 (by decide)).2.2.2.2
  have n0 := hmm 0 (by decide); have n1 := hmm 1 (by decide); have n2 := hmm 2 (by decide); have n3 := hmm 3 (by decide)
  have p0 : ls_pr 0 = 1 := rfl
  have p1 : ls_pr 1 = 0 := rfl
  have p2 : ls_pr 2 = 3 := rfl
  have p3 : ls_pr 3 = 2 := rfl
  rw [p0] at t0
  rw [p1] at t1
  rw [p2] at t2
  rw [p3] at t3
  have s1 : lx_sm g' 4 = 0 + g' 8 0 + g' 8 1 + g' 8 2 + g' 8 3 := rfl
  have s2 : lx_sm g 4 = 0 + g 8 0 + g 8 1 + g 8 2 + g 8 3 := rfl
  have s3 : ly_su mv' = mv' 0 + mv' 1 + mv' 2 + mv' 3 := rfl
  rw [pk_sub (by omega)]
  congr 1
  omega
theorem i_vc_waiting {k : Nat} {u : SX} {v : SY} (I : i_Rel k u v) (hk : k + 4 ≤ 2048) (v1 : Int32) (v2 : Int32) : wpX_waiting (fun r => wpY_waiting (fun r' => r' = r ∧ i_Rel (k + 4) u v) v v1 v2) u v1 v2 := by
  have I' := i_up I
  obtain ⟨g, h, hX, hY, K, R⟩ := I
  obtain ⟨cNL, cDL, cDB, cWF, cWC, cWL, cWB, cIF, cIC, cTT, cIL, cIB, cKN, cNX, cTF, cOW, cRS, cOC, cOA, cOK, cPS, cPL, cPT, cPK, cPB, cNP⟩ := u
  obtain ⟨cYA, cYB, cYC, cYD, cYE, cYF, cYG, cYH, cYI⟩ := v
  obtain ⟨rNL, rDL, rDB, rWF, rWC, rWL, rWB, rIF, rIC, rTT, rIL, rIB, rKN, rNX, rTF, rOW, rRS, rOC, rOA, rOK, rPL, rPT, rPK, rPB, rNP⟩ := hX
  obtain ⟨rYA, rYB, rYC, rYD, rYE, rYF, rYG, rYH, rYI⟩ := hY
  unfold wpX_waiting wpY_waiting
  dsimp only
  rcases lx_two v1 with ⟨e, he, rfl⟩ | hn
  · rcases lx_two v2 with ⟨c, hc, rfl⟩ | hn
    · have hs : e + 2 * c < 4 := by omega
      rw [lx_port, nI_clamp (by omega : e + 2 * c < 2 ^ 31), rWC, rYC, (R.2.1 _ hs).1]
      exact lx_zy he (br_f (by decide) (lx_zy hc (br_f (by decide) ⟨vp_in_nI hs (by decide), ly_zy he (br_f (by decide) (ly_zy hc (br_f (by decide) ⟨vp_in_nI hs (by decide), rfl, I'⟩)))⟩)))
    · exact lx_zy he (br_f (by decide) (lx_zn hn (br_t rfl (ly_zy he (br_f (by decide) (ly_zn hn (br_t rfl ⟨rfl, I'⟩)))))))
  · exact lx_zn hn (br_t rfl (ly_zn hn (br_t rfl ⟨rfl, I'⟩)))
theorem lx_ports (x : Int32) : (∃ p, p < 4 ∧ x = nI p) ∨ (x < 0 ∨ nI 4 ≤ x) := by
  rcases pk_ix x (n := 4) (by decide) with h | h | h
  · exact Or.inr (Or.inl h)
  · exact Or.inr (Or.inr h)
  · exact Or.inl h
theorem i_vc_arrived {k : Nat} {u : SX} {v : SY} (I : i_Rel k u v) (hk : k + 4 ≤ 2048) (v1 : Int32) : wpX_arrived (fun r => wpY_arrived (fun r' => r' = r ∧ i_Rel (k + 4) u v) v v1) u v1 := by
  have I' := i_up I
  obtain ⟨g, h, hX, hY, K, R⟩ := I
  obtain ⟨cNL, cDL, cDB, cWF, cWC, cWL, cWB, cIF, cIC, cTT, cIL, cIB, cKN, cNX, cTF, cOW, cRS, cOC, cOA, cOK, cPS, cPL, cPT, cPK, cPB, cNP⟩ := u
  obtain ⟨cYA, cYB, cYC, cYD, cYE, cYF, cYG, cYH, cYI⟩ := v
  obtain ⟨rNL, rDL, rDB, rWF, rWC, rWL, rWB, rIF, rIC, rTT, rIL, rIB, rKN, rNX, rTF, rOW, rRS, rOC, rOA, rOK, rPL, rPT, rPK, rPB, rNP⟩ := hX
  obtain ⟨rYA, rYB, rYC, rYD, rYE, rYF, rYG, rYH, rYI⟩ := hY
  unfold wpX_arrived wpY_arrived
  dsimp only
  rcases lx_ports v1 with ⟨p, hp, rfl⟩ | hn
  · rw [nI_clamp (by omega : p < 2 ^ 31), rIC, rYF, (R.2.2 p hp).1]
    exact lx_isPort hp (br_f (by decide) ⟨vp_in_nI hp (by decide), ly_py hp (br_f (by decide) ⟨vp_in_nI hp (by decide), rfl, I'⟩)⟩)
  · exact lx_pn hn (br_t rfl (ly_pn hn (br_t rfl ⟨rfl, I'⟩)))
theorem i_vc_total {k : Nat} {u : SX} {v : SY} (I : i_Rel k u v) (hk : k + 4 ≤ 2048) (v1 : Int32) : wpX_total (fun r => wpY_total (fun r' => r' = r ∧ i_Rel (k + 4) u v) v v1) u v1 := by
  have I' := i_up I
  obtain ⟨g, h, hX, hY, K, R⟩ := I
  obtain ⟨cNL, cDL, cDB, cWF, cWC, cWL, cWB, cIF, cIC, cTT, cIL, cIB, cKN, cNX, cTF, cOW, cRS, cOC, cOA, cOK, cPS, cPL, cPT, cPK, cPB, cNP⟩ := u
  obtain ⟨cYA, cYB, cYC, cYD, cYE, cYF, cYG, cYH, cYI⟩ := v
  obtain ⟨rNL, rDL, rDB, rWF, rWC, rWL, rWB, rIF, rIC, rTT, rIL, rIB, rKN, rNX, rTF, rOW, rRS, rOC, rOA, rOK, rPL, rPT, rPK, rPB, rNP⟩ := hX
  obtain ⟨rYA, rYB, rYC, rYD, rYE, rYF, rYG, rYH, rYI⟩ := hY
  unfold wpX_total wpY_total
  dsimp only
  rcases lx_ports v1 with ⟨p, hp, rfl⟩ | hn
  · rw [nI_clamp (by omega : p < 2 ^ 31), rTT, rYI, (R.2.2 p hp).2.1]
    exact lx_isPort hp (br_f (by decide) ⟨vp_in_nI hp (by decide), ly_py hp (br_f (by decide) ⟨vp_in_nI hp (by decide), rfl, I'⟩)⟩)
  · exact lx_pn hn (br_t rfl (ly_pn hn (br_t rfl ⟨rfl, I'⟩)))
theorem i_vc_draft {k : Nat} {u : SX} {v : SY} (I : i_Rel k u v) (hk : k + 4 ≤ 2048) (v1 : Int32) : wpX_draft (fun r => wpY_draft (fun r' => r' = r ∧ i_Rel (k + 4) u v) v v1) u v1 := by
  have I' := i_up I
  obtain ⟨g, h, hX, hY, K, R⟩ := I
  obtain ⟨cNL, cDL, cDB, cWF, cWC, cWL, cWB, cIF, cIC, cTT, cIL, cIB, cKN, cNX, cTF, cOW, cRS, cOC, cOA, cOK, cPS, cPL, cPT, cPK, cPB, cNP⟩ := u
  obtain ⟨cYA, cYB, cYC, cYD, cYE, cYF, cYG, cYH, cYI⟩ := v
  obtain ⟨rNL, rDL, rDB, rWF, rWC, rWL, rWB, rIF, rIC, rTT, rIL, rIB, rKN, rNX, rTF, rOW, rRS, rOC, rOA, rOK, rPL, rPT, rPK, rPB, rNP⟩ := hX
  obtain ⟨rYA, rYB, rYC, rYD, rYE, rYF, rYG, rYH, rYI⟩ := hY
  unfold wpX_draft wpY_draft
  dsimp only
  rcases lx_two v1 with ⟨e, he, rfl⟩ | hn
  · rw [nI_clamp (by omega : e < 2 ^ 31), rDL, rYA, (R.1 e he).1]
    exact lx_zy he (br_f (by decide) ⟨vp_in_nI he (by decide), ly_zy he (br_f (by decide) ⟨vp_in_nI he (by decide), rfl, I'⟩)⟩)
  · exact lx_zn hn (br_t rfl (ly_zn hn (br_t rfl ⟨rfl, I'⟩)))
theorem lr_badY {g h : Nat → Nat → Nat} (R : lr_R g h) {x y : Int32} (hb : lr_bad (g 7) x y) : lr_bad (h 5) x y := by
  rcases hb with hb | ⟨p, hp, e, hb⟩
  · exact Or.inl hb
  · exact Or.inr ⟨p, hp, e, by rw [(R.2.2 p hp).1]; exact hb⟩
theorem i_vc_length {k : Nat} {u : SX} {v : SY} (I : i_Rel k u v) (hk : k + 4 ≤ 2048) (v1 : Int32) (v2 : Int32) : wpX_length (fun r => wpY_length (fun r' => r' = r ∧ i_Rel (k + 4) u v) v v1 v2) u v1 v2 := by
  have I' := i_up I
  obtain ⟨g, h, hX, hY, K, R⟩ := I
  have hc : ∀ p, p < 4 → g 7 p ≤ 5 := fun p hp => (K.1 p hp).2.2.1
  have hXR := hX
  have hYR := hY
  obtain ⟨cNL, cDL, cDB, cWF, cWC, cWL, cWB, cIF, cIC, cTT, cIL, cIB, cKN, cNX, cTF, cOW, cRS, cOC, cOA, cOK, cPS, cPL, cPT, cPK, cPB, cNP⟩ := u
  obtain ⟨cYA, cYB, cYC, cYD, cYE, cYF, cYG, cYH, cYI⟩ := v
  obtain ⟨rNL, rDL, rDB, rWF, rWC, rWL, rWB, rIF, rIC, rTT, rIL, rIB, rKN, rNX, rTF, rOW, rRS, rOC, rOA, rOK, rPL, rPT, rPK, rPB, rNP⟩ := hXR
  obtain ⟨rYA, rYB, rYC, rYD, rYE, rYF, rYG, rYH, rYI⟩ := hYR
  unfold wpX_length wpY_length
  dsimp only
  rcases lr_msg (g 7) v1 v2 hc with ⟨p, i, hp, hi, rfl, rfl⟩ | hb
  · obtain ⟨p1, p2, p3⟩ := R.2.2 p hp
    have h5 := hc p hp
    have hF := (K.1 p hp).2.2.2.1
    have e1 : (5 : Int32) * nI p = nI (5 * p) := pk_mul 5 p
    refine lx_hy hX hp hi h5 (br_f (by decide) (lx_inboxSlot hX hp (by omega) (by omega) ?_))
    rw [nI_clamp (by omega : p * 5 + (g 6 p + i) % 5 < 2 ^ 31), rIL, e1, nI_add, nI_clamp (by omega : 5 * p + i < 2 ^ 31), rYG]
    refine ⟨vp_in_nI (by omega) (by decide), ly_hy hY hp (by omega) (by omega) (br_f (by decide) ⟨vp_in_nI (by omega) (by decide), ?_, I'⟩)⟩
    exact congrArg nI (p3 i hi).1
  · exact lx_hn hX hb (br_t rfl (ly_hn hY (lr_badY R hb) (br_t rfl ⟨rfl, I'⟩)))
theorem i_vc_byteAt {k : Nat} {u : SX} {v : SY} (I : i_Rel k u v) (hk : k + 4 ≤ 2048) (v1 : Int32) (v2 : Int32) (v3 : Int32) : wpX_byteAt (fun r => wpY_byteAt (fun r' => r' = r ∧ i_Rel (k + 4) u v) v v1 v2 v3) u v1 v2 v3 := by
  have I' := i_up I
  obtain ⟨g, h, hX, hY, K, R⟩ := I
  have hc : ∀ p, p < 4 → g 7 p ≤ 5 := fun p hp => (K.1 p hp).2.2.1
  have hXR := hX
  have hYR := hY
  obtain ⟨cNL, cDL, cDB, cWF, cWC, cWL, cWB, cIF, cIC, cTT, cIL, cIB, cKN, cNX, cTF, cOW, cRS, cOC, cOA, cOK, cPS, cPL, cPT, cPK, cPB, cNP⟩ := u
  obtain ⟨cYA, cYB, cYC, cYD, cYE, cYF, cYG, cYH, cYI⟩ := v
  obtain ⟨rNL, rDL, rDB, rWF, rWC, rWL, rWB, rIF, rIC, rTT, rIL, rIB, rKN, rNX, rTF, rOW, rRS, rOC, rOA, rOK, rPL, rPT, rPK, rPB, rNP⟩ := hXR
  obtain ⟨rYA, rYB, rYC, rYD, rYE, rYF, rYG, rYH, rYI⟩ := hYR
  unfold wpX_byteAt wpY_byteAt
  dsimp only
  rcases lr_msg (g 7) v1 v2 hc with ⟨p, i, hp, hi, rfl, rfl⟩ | hb
  · obtain ⟨p1, p2, p3⟩ := R.2.2 p hp
    obtain ⟨q1, q2⟩ := p3 i hi
    have h5 := hc p hp
    have hF := (K.1 p hp).2.2.2.1
    have h24 := K.2.1.2 p hp i hi
    have e1 : (5 : Int32) * nI p = nI (5 * p) := pk_mul 5 p
    have e2 : (120 : Int32) * nI p = nI (120 * p) := pk_mul 120 p
    have e3 : (24 : Int32) * nI i = nI (24 * i) := pk_mul 24 i
    have hsl : p * 5 + (g 6 p + i) % 5 = ls_in g p i := rfl
    have hsl20 : ls_in g p i < 20 := by unfold ls_in; omega
    refine lx_hy hX hp hi h5 (br_f (by decide) (lx_inboxSlot hX hp (by omega) (by omega) ?_))
    rw [hsl, nI_clamp (by omega : ls_in g p i < 2 ^ 31), rIL, e1, e2, e3, nI_add, nI_add, nI_clamp (by omega : 5 * p + i < 2 ^ 31), rYG, q1]
    by_cases h0 : v3 < 0
    · exact br_t h0 (ly_hy hY hp (by omega) (by omega) (br_f (by decide) (br_t h0 ⟨rfl, I'⟩)))
    · obtain ⟨j, hj, rfl⟩ := nI_of h0
      have e4 : nI (ls_in g p i) * 24 = nI (ls_in g p i * 24) := pk_mul _ 24
      rw [e4, nI_add, nI_add]
      refine br_f h0 ⟨vp_in_nI hsl20 (by decide), pk_lt j (g 9 (ls_in g p i)) (fun hl => ⟨vp_in_nI (by omega) (by decide), ?_⟩) (fun hl => ?_) rfl rfl hj (by omega)⟩
      · refine ly_hy hY hp (by omega) (by omega) (br_f (by decide) (br_f h0 ⟨vp_in_nI (by omega) (by decide), br_f (nI_ge hl (by omega)) ⟨vp_in_nI (by omega) (by decide), ?_, I'⟩⟩))
        rw [nI_clamp (by omega : ls_in g p i * 24 + j < 2 ^ 31), nI_clamp (by omega : 120 * p + 24 * i + j < 2 ^ 31), rIB, rYH]
        exact congrArg nI (q2 j hl)
      · exact ly_hy hY hp (by omega) (by omega) (br_f (by decide) (br_f h0 ⟨vp_in_nI (by omega) (by decide), br_t (nI_le hl hj) ⟨rfl, I'⟩⟩))
  · exact lx_hn hX hb (br_t rfl (ly_hn hY (lr_badY R hb) (br_t rfl ⟨rfl, I'⟩)))
/-! settled -/
theorem lx_x1 : ∀ s, s < 4 → nI s ^^^ 1 = nI (ls_pr s) := by decide +kernel
def lr_ok (w c : Nat → Nat) (s : Nat) : Prop := w s = 0 ∨ c (ls_pr s) = 5
theorem lx_st2 {post : Int32 → Prop} {g : Nat → Nat → Nat} {cNL : Int32} {cDL cDB cWF cWC cWL cWB cIF cIC cTT cIL cIB cKN cNX cTF cOW cRS cOC cOA cOK cPS cPL cPT cPK cPB cNP : Nat → Int32} (hR : lx_R g (cNL, cDL, cDB, cWF, cWC, cWL, cWB, cIF, cIC, cTT, cIL, cIB, cKN, cNX, cTF, cOW, cRS, cOC, cOA, cOK, cPS, cPL, cPT, cPK, cPB, cNP)) (hS : ∀ s, s < 4 → g 3 s ≤ 8 ∧ g 7 s ≤ 5) (H1 : (∀ s, s < 4 → lr_ok (g 3) (g 7) s) → post 1) (H0 : (¬ ∀ s, s < 4 → lr_ok (g 3) (g 7) s) → post 0) :
    ∀ (r s n : Nat), s + r = 4 → r < n → (∀ x, x < s → lr_ok (g 3) (g 7) x) → wX_settled_2 post cNL cDL cDB cWF cWC cWL cWB cIF cIC cTT cIL cIB cKN cNX cTF cOW cRS cOC cOA cOK cPS cPL cPT cPK cPB cNP n (nI s) := by
  have hR' := hR
  obtain ⟨rNL, rDL, rDB, rWF, rWC, rWL, rWB, rIF, rIC, rTT, rIL, rIB, rKN, rNX, rTF, rOW, rRS, rOC, rOA, rOK, rPL, rPT, rPK, rPB, rNP⟩ := hR'
  intro r
  induction r with
  | zero =>
    intro s n hs hn hx
    obtain ⟨k, rfl⟩ : ∃ k, n = k + 1 := ⟨n - 1, by omega⟩
    rw [wX_settled_2]
    dsimp only
    exact br_t (nI_le (a := 4) (by omega) (by omega)) (H1 fun x h => hx x (by omega))
  | succ r ih =>
    intro s n hs hn hx
    obtain ⟨k, rfl⟩ : ∃ k, n = k + 1 := ⟨n - 1, by omega⟩
    have hs4 : s < 4 := by omega
    have hps := ls_pr_lt hs4
    have b1 := (hS s hs4).1
    have b2 := (hS _ hps).2
    have next : lr_ok (g 3) (g 7) s → wX_settled_2 post cNL cDL cDB cWF cWC cWL cWB cIF cIC cTT cIL cIB cKN cNX cTF cOW cRS cOC cOA cOK cPS cPL cPT cPK cPB cNP k (nI (s + 1)) := fun hok => ih (s + 1) k (by omega) (by omega) fun x h2 => by
      by_cases e : x = s
      · rw [e]; exact hok
      · exact hx x (by omega)
    rw [wX_settled_2]
    dsimp only
    rw [nI_clamp (by omega : s < 2 ^ 31), rWC, lx_x1 s hs4, nI_clamp (by omega : ls_pr s < 2 ^ 31), rIC]
    refine br_f (nI_ge (b := 4) hs4 (by decide)) ⟨vp_in_nI hs4 (by decide), pk_le (g 3 s) 0 (fun h => nm_r (nI_1 s) (next (Or.inl (by omega)))) (fun h => ⟨vp_in_nI hps (by decide), ?_⟩) rfl rfl (by omega) (by omega)⟩
    refine pk_le 5 (g 7 (ls_pr s)) (fun h2 => nm_r (nI_1 s) (next (Or.inr (by omega)))) (fun h2 => H0 fun z => ?_) rfl rfl (by omega) (by omega)
    rcases z s hs4 with z | z <;> omega
theorem ly_st0 {post : Int32 → Prop} {cYA cYB cYC cYD cYE cYF cYG cYH cYI : Nat → Int32} (H : post 0) : ∀ (r s n : Nat), s + r = 4 → r < n → wY_settled_4 post cYA cYB cYC cYD cYE cYF cYG cYH cYI n 0 (nI s) := by
  intro r
  induction r with
  | zero =>
    intro s n hs hn
    obtain ⟨k, rfl⟩ : ∃ k, n = k + 1 := ⟨n - 1, by omega⟩
    rw [wY_settled_4]
    dsimp only
    exact br_t (nI_le (a := 4) (by omega) (by omega)) ⟨rfl, H⟩
  | succ r ih =>
    intro s n hs hn
    obtain ⟨k, rfl⟩ : ∃ k, n = k + 1 := ⟨n - 1, by omega⟩
    rw [wY_settled_4]
    dsimp only
    exact br_f (nI_ge (b := 4) (by omega) (by decide)) (br_t rfl (nm_r (nI_1 s) (ih (s + 1) k (by omega) (by omega))))
theorem ly_st4 {post : Int32 → Prop} {h : Nat → Nat → Nat} {cYA cYB cYC cYD cYE cYF cYG cYH cYI : Nat → Int32} (hR : ly_R h (cYA, cYB, cYC, cYD, cYE, cYF, cYG, cYH, cYI)) (hS : ∀ s, s < 4 → h 2 s ≤ 8 ∧ h 5 s ≤ 5) (H1 : (∀ s, s < 4 → lr_ok (h 2) (h 5) s) → post 1) (H0 : (¬ ∀ s, s < 4 → lr_ok (h 2) (h 5) s) → post 0) :
    ∀ (r s n : Nat), s + r = 4 → r < n → (∀ x, x < s → lr_ok (h 2) (h 5) x) → wY_settled_4 post cYA cYB cYC cYD cYE cYF cYG cYH cYI n 1 (nI s) := by
  have hR' := hR
  obtain ⟨rYA, rYB, rYC, rYD, rYE, rYF, rYG, rYH, rYI⟩ := hR'
  intro r
  induction r with
  | zero =>
    intro s n hs hn hx
    obtain ⟨k, rfl⟩ : ∃ k, n = k + 1 := ⟨n - 1, by omega⟩
    rw [wY_settled_4]
    dsimp only
    exact br_t (nI_le (a := 4) (by omega) (by omega)) ⟨rfl, H1 fun x h => hx x (by omega)⟩
  | succ r ih =>
    intro s n hs hn hx
    obtain ⟨k, rfl⟩ : ∃ k, n = k + 1 := ⟨n - 1, by omega⟩
    have hs4 : s < 4 := by omega
    have hps := ls_pr_lt hs4
    have b1 := (hS s hs4).1
    have b2 := (hS _ hps).2
    have next : lr_ok (h 2) (h 5) s → wY_settled_4 post cYA cYB cYC cYD cYE cYF cYG cYH cYI k 1 (nI (s + 1)) := fun hok => ih (s + 1) k (by omega) (by omega) fun x h2 => by
      by_cases e : x = s
      · rw [e]; exact hok
      · exact hx x (by omega)
    rw [wY_settled_4]
    dsimp only
    rw [nI_clamp (by omega : s < 2 ^ 31), rYC]
    refine br_f (nI_ge (b := 4) hs4 (by decide)) (br_f (by decide) ⟨vp_in_nI hs4 (by decide), pk_eq (h 2 s) 0 (fun z => nm_r (nI_1 s) (next (Or.inl z))) (fun z => ly_target hs4 ?_) rfl rfl (by omega) (by omega)⟩)
    rw [nI_clamp (by omega : ls_pr s < 2 ^ 31), rYF]
    refine ⟨vp_in_nI hps (by decide), pk_eq (h 5 (ls_pr s)) 5 (fun z2 => nm_r (nI_1 s) (next (Or.inr z2))) (fun z2 => nm_r (nI_1 s) ?_) rfl rfl (by omega) (by omega)⟩
    refine ly_st0 (H0 fun zz => ?_) r (s + 1) k (by omega) (by omega)
    rcases zz s hs4 with w | w
    · exact z w
    · exact z2 w
theorem i_vc_settled {k : Nat} {u : SX} {v : SY} (I : i_Rel k u v) (hk : k + 4 ≤ 2048) : wpX_settled (fun r => wpY_settled (fun r' => r' = r ∧ i_Rel (k + 4) u v) v) u := by
  have I' := i_up I
  obtain ⟨g, h, hX, hY, K, R⟩ := I
  have hSX : ∀ s, s < 4 → g 3 s ≤ 8 ∧ g 7 s ≤ 5 := fun s hs => ⟨(K.1 s hs).1, (K.1 s hs).2.2.1⟩
  have hSY : ∀ s, s < 4 → h 2 s ≤ 8 ∧ h 5 s ≤ 5 := fun s hs => by
    rw [(R.2.1 s hs).1, (R.2.2 s hs).1]; exact hSX s hs
  have hiff : (∀ s, s < 4 → lr_ok (h 2) (h 5) s) ↔ (∀ s, s < 4 → lr_ok (g 3) (g 7) s) := by
    constructor
    · intro z s hs
      have := z s hs
      unfold lr_ok at this ⊢
      rw [(R.2.1 s hs).1, (R.2.2 _ (ls_pr_lt hs)).1] at this
      exact this
    · intro z s hs
      have := z s hs
      unfold lr_ok at this ⊢
      rw [(R.2.1 s hs).1, (R.2.2 _ (ls_pr_lt hs)).1]
      exact this
  obtain ⟨cNL, cDL, cDB, cWF, cWC, cWL, cWB, cIF, cIC, cTT, cIL, cIB, cKN, cNX, cTF, cOW, cRS, cOC, cOA, cOK, cPS, cPL, cPT, cPK, cPB, cNP⟩ := u
  obtain ⟨cYA, cYB, cYC, cYD, cYE, cYF, cYG, cYH, cYI⟩ := v
  refine ⟨5, lx_st2 hX hSX (fun z => ?_) (fun z => ?_) 4 0 5 rfl (by decide) (fun x hx => absurd hx (Nat.not_lt_zero x))⟩
  · exact ⟨5, ly_st4 hY hSY (fun _ => ⟨rfl, I'⟩) (fun w => absurd (hiff.mpr z) w) 4 0 5 rfl (by decide) (fun x hx => absurd hx (Nat.not_lt_zero x))⟩
  · exact ⟨5, ly_st4 hY hSY (fun w => absurd (hiff.mp w) z) (fun _ => ⟨rfl, I'⟩) 4 0 5 rfl (by decide) (fun x hx => absurd hx (Nat.not_lt_zero x))⟩
