/-! the relation, and the calls that write, post, disturb, restart, take -/
def i_Rel (k : Nat) (u : SX) (v : SY) : Prop := ∃ g h : Nat → Nat → Nat, lx_R g u ∧ ly_R h v ∧ lr_K k g ∧ lr_R g h
theorem i_up {k : Nat} {u : SX} {v : SY} (h : i_Rel k u v) : i_Rel (k + 4) u v := by
  obtain ⟨g, h, h1, h2, h3, h4⟩ := h
  exact ⟨g, h, h1, h2, lr_K_up h3, h4⟩
theorem lr_K0 : lr_K 0 (fun _ _ => 0) := by
  refine ⟨fun s _ => ⟨Nat.zero_le _, Nat.zero_lt_succ _, Nat.zero_le _, Nat.zero_lt_succ _, Nat.zero_le _, Nat.zero_le _, fun _ => rfl, Nat.zero_le _, rfl, Nat.zero_le _⟩, ⟨fun _ => Nat.zero_le _, fun _ _ _ _ => Nat.zero_le _⟩, ⟨fun _ => Nat.zero_lt_succ _, fun _ => Nat.zero_lt_succ _, fun _ => Nat.zero_lt_succ _, fun _ => Nat.zero_lt_succ _⟩, fun _ => Nat.zero_lt_succ _, fun _ _ => ⟨Nat.zero_le _, Nat.zero_le _⟩, fun _ _ _ hi => absurd hi (Nat.not_lt_zero _), fun _ _ => rfl⟩
theorem lr_R0 : lr_R (fun _ _ => 0) (fun _ _ => 0) :=
  ⟨fun _ _ => ⟨rfl, fun _ _ => rfl⟩, fun _ _ => ⟨rfl, fun _ hi => absurd hi (Nat.not_lt_zero _)⟩, fun _ _ => ⟨rfl, rfl, fun _ hi => absurd hi (Nat.not_lt_zero _)⟩⟩
theorem lx_R0 : lx_R (fun _ _ => 0) (0, (fun _ => 0), (fun _ => 0), (fun _ => 0), (fun _ => 0), (fun _ => 0), (fun _ => 0), (fun _ => 0), (fun _ => 0), (fun _ => 0), (fun _ => 0), (fun _ => 0), (fun _ => 0), (fun _ => 0), (fun _ => 0), (fun _ => 0), (fun _ => 0), (fun _ => 0), (fun _ => 0), (fun _ => 0), (fun _ => 0), (fun _ => 0), (fun _ => 0), (fun _ => 0), (fun _ => 0), (fun _ => 0)) := by
  refine ⟨?_, ?_, ?_, ?_, ?_, ?_, ?_, ?_, ?_, ?_, ?_, ?_, ?_, ?_, ?_, ?_, ?_, ?_, ?_, ?_, ?_, ?_, ?_, ?_, ?_⟩ <;> first | rfl | exact fun _ => rfl
theorem ly_R0 : ly_R (fun _ _ => 0) ((fun _ => 0), (fun _ => 0), (fun _ => 0), (fun _ => 0), (fun _ => 0), (fun _ => 0), (fun _ => 0), (fun _ => 0), (fun _ => 0)) := by
  refine ⟨?_, ?_, ?_, ?_, ?_, ?_, ?_, ?_, ?_⟩ <;> exact fun _ => rfl
theorem i_vc0 : wpX_init (fun u => wpY_init (fun v => i_Rel 0 u v)) := ⟨_, _, lx_R0, ly_R0, lr_K0, lr_R0⟩
theorem lr_write {g h : Nat → Nat → Nat} {k e x : Nat} (he : e < 2) (hd : g 0 e < 24) (hx : x < 256) (K : lr_K k g) (R : lr_R g h) :
    lr_K k (ls_up (ls_up g 1 (e * 24 + g 0 e) x) 0 e (g 0 e + 1)) ∧ lr_R (ls_up (ls_up g 1 (e * 24 + g 0 e) x) 0 e (g 0 e + 1)) (ls_up (ls_up h 1 (24 * e + g 0 e) x) 0 e (g 0 e + 1)) := by
  refine ⟨⟨K.1, K.2.1, K.2.2.1, ?_, ?_, K.2.2.2.2.2.1, K.2.2.2.2.2.2⟩, ?_, R.2.1, R.2.2⟩
  · intro i
    show (if i = e * 24 + g 0 e then x else g 1 i) < 256
    split
    · exact hx
    · exact K.2.2.2.1 i
  · intro e' he'
    refine ⟨?_, (K.2.2.2.2.1 e' he').2⟩
    show (if e' = e then g 0 e + 1 else g 0 e') ≤ 24
    split
    · omega
    · exact (K.2.2.2.2.1 e' he').1
  · intro e' he'
    obtain ⟨r1, r2⟩ := R.1 e' he'
    have hd' := (K.2.2.2.2.1 e' he').1
    show (if e' = e then g 0 e + 1 else h 0 e') = (if e' = e then g 0 e + 1 else g 0 e') ∧ ∀ j, j < (if e' = e then g 0 e + 1 else g 0 e') → (if 24 * e' + j = 24 * e + g 0 e then x else h 1 (24 * e' + j)) = (if e' * 24 + j = e * 24 + g 0 e then x else g 1 (e' * 24 + j))
    by_cases ee : e' = e
    · subst ee
      rw [if_pos rfl, if_pos rfl]
      refine ⟨rfl, fun j hj => ?_⟩
      by_cases ej : j = g 0 e'
      · rw [if_pos (by omega), if_pos (by omega)]
      · rw [if_neg (by omega), if_neg (by omega)]
        exact r2 j (by omega)
    · rw [if_neg ee, if_neg ee]
      refine ⟨r1, fun j hj => ?_⟩
      rw [if_neg (by omega), if_neg (by omega)]
      exact r2 j hj
theorem i_vc_write {k : Nat} {u : SX} {v : SY} (I : i_Rel k u v) (hk : k + 4 ≤ 2048) (v1 : Int32) (v2 : Int32) : wpX_write (fun r u' => wpY_write (fun r' v' => r' = r ∧ i_Rel (k + 4) u' v') v v1 v2) u v1 v2 := by
  have I' := i_up I
  obtain ⟨g, h, hX, hY, K, R⟩ := I'
  have hXR := hX
  have hYR := hY
  obtain ⟨cNL, cDL, cDB, cWF, cWC, cWL, cWB, cIF, cIC, cTT, cIL, cIB, cKN, cNX, cTF, cOW, cRS, cOC, cOA, cOK, cPS, cPL, cPT, cPK, cPB, cNP⟩ := u
  obtain ⟨cYA, cYB, cYC, cYD, cYE, cYF, cYG, cYH, cYI⟩ := v
  obtain ⟨rNL, rDL, rDB, rWF, rWC, rWL, rWB, rIF, rIC, rTT, rIL, rIB, rKN, rNX, rTF, rOW, rRS, rOC, rOA, rOK, rPL, rPT, rPK, rPB, rNP⟩ := hXR
  obtain ⟨rYA, rYB, rYC, rYD, rYE, rYF, rYG, rYH, rYI⟩ := hYR
  unfold wpX_write wpY_write
  dsimp only
  rcases lx_two v1 with ⟨e, he, rfl⟩ | hn
  · refine lx_zy he (br_f (by decide) ?_)
    by_cases h0 : v2 < 0
    · exact br_t h0 (ly_zy he (br_f (by decide) (br_t h0 ⟨rfl, g, h, hX, hY, K, R⟩)))
    refine br_f h0 ?_
    by_cases h255 : v2 ≤ 255
    · obtain ⟨x, hx, rfl⟩ := nI_of2 (M := 255) (n := 255) (by decide) h0 h255
      obtain ⟨r1, r2⟩ := R.1 e he
      have hd := (K.2.2.2.2.1 e he).1
      have e1 : nI e * 24 = nI (e * 24) := pk_mul e 24
      have e2 : (24 : Int32) * nI e = nI (24 * e) := pk_mul 24 e
      have hve : ∀ {N : Nat}, N = 2 → vp_in (nI e) N := fun z => by subst z; exact vp_in_nI he (by decide)
      refine br_t h255 ?_
      rw [nI_clamp (by omega : e < 2 ^ 31), rDL, rYA, r1, e1, e2, nI_add, nI_add, nI_1, nI_clamp (by omega : e * 24 + g 0 e < 2 ^ 31), nI_clamp (by omega : 24 * e + g 0 e < 2 ^ 31)]
      refine ⟨hve rfl, pk_lt (g 0 e) 24 (fun hl => ⟨hve rfl, vp_in_nI (by omega) (by decide), nm_e ⟨hve rfl, hve rfl, ?_⟩⟩) (fun hl => ?_) rfl rfl (by omega) (by omega)⟩
      · intro a ea
        subst ea
        rw [pk_us]
        refine ⟨hve rfl, ly_zy he (br_f (by decide) (br_f h0 (br_t h255 ⟨hve rfl, br_t (nI_lt (b := 24) hl (by decide)) ⟨hve rfl, vp_in_nI (by omega) (by decide), nm_e ⟨hve rfl, hve rfl, ?_⟩⟩⟩)))⟩
        intro a ea
        subst ea
        rw [pk_us]
        obtain ⟨K2, R2⟩ := lr_write (x := x) he hl (by omega) K R
        exact ⟨hve rfl, rfl, _, _, lx_uDL _ _ (lx_uDB _ _ hX), ly_uYA _ _ (ly_uYB _ _ hY), K2, R2⟩
      · exact ly_zy he (br_f (by decide) (br_f h0 (br_t h255 ⟨hve rfl, br_f (nI_nlt (b := 24) hl (by omega)) ⟨rfl, g, h, hX, hY, K, R⟩⟩)))
    · exact br_f h255 (ly_zy he (br_f (by decide) (br_f h0 (br_f h255 ⟨rfl, g, h, hX, hY, K, R⟩))))
  · exact lx_zn hn (br_t rfl (ly_zn hn (br_t rfl ⟨rfl, g, h, hX, hY, K, R⟩)))
theorem lr_wipe {g h : Nat → Nat → Nat} {k e : Nat} (he : e < 2) (K : lr_K k g) (R : lr_R g h) : lr_K k (ls_up g 0 e 0) ∧ lr_R (ls_up g 0 e 0) (ls_up h 0 e 0) := by
  refine ⟨⟨K.1, K.2.1, K.2.2.1, K.2.2.2.1, ?_, K.2.2.2.2.2.1, K.2.2.2.2.2.2⟩, ?_, R.2.1, R.2.2⟩
  · intro e' he'
    refine ⟨?_, (K.2.2.2.2.1 e' he').2⟩
    show (if e' = e then 0 else g 0 e') ≤ 24
    split
    · omega
    · exact (K.2.2.2.2.1 e' he').1
  · intro e' he'
    obtain ⟨r1, r2⟩ := R.1 e' he'
    show (if e' = e then 0 else h 0 e') = (if e' = e then 0 else g 0 e') ∧ ∀ j, j < (if e' = e then 0 else g 0 e') → h 1 (24 * e' + j) = g 1 (e' * 24 + j)
    by_cases ee : e' = e
    · rw [if_pos ee, if_pos ee]
      exact ⟨rfl, fun j hj => absurd hj (Nat.not_lt_zero j)⟩
    · rw [if_neg ee, if_neg ee]
      exact ⟨r1, r2⟩
theorem i_vc_wipe {k : Nat} {u : SX} {v : SY} (I : i_Rel k u v) (hk : k + 4 ≤ 2048) (v1 : Int32) : wpX_wipe (fun r u' => wpY_wipe (fun r' v' => r' = r ∧ i_Rel (k + 4) u' v') v v1) u v1 := by
  have I' := i_up I
  obtain ⟨g, h, hX, hY, K, R⟩ := I'
  have hXR := hX
  have hYR := hY
  obtain ⟨cNL, cDL, cDB, cWF, cWC, cWL, cWB, cIF, cIC, cTT, cIL, cIB, cKN, cNX, cTF, cOW, cRS, cOC, cOA, cOK, cPS, cPL, cPT, cPK, cPB, cNP⟩ := u
  obtain ⟨cYA, cYB, cYC, cYD, cYE, cYF, cYG, cYH, cYI⟩ := v
  obtain ⟨rNL, rDL, rDB, rWF, rWC, rWL, rWB, rIF, rIC, rTT, rIL, rIB, rKN, rNX, rTF, rOW, rRS, rOC, rOA, rOK, rPL, rPT, rPK, rPB, rNP⟩ := hXR
  obtain ⟨rYA, rYB, rYC, rYD, rYE, rYF, rYG, rYH, rYI⟩ := hYR
  unfold wpX_wipe wpY_wipe
  dsimp only
  rcases lx_two v1 with ⟨e, he, rfl⟩ | hn
  · obtain ⟨r1, r2⟩ := R.1 e he
    obtain ⟨K2, R2⟩ := lr_wipe he K R
    refine lx_zy he (br_f (by decide) ?_)
    rw [nI_clamp (by omega : e < 2 ^ 31), rDL, rYA, r1]
    exact ⟨vp_in_nI he (by decide), nm_e ⟨vp_in_nI he (by decide), nm_e (ly_zy he (br_f (by decide) ⟨vp_in_nI he (by decide), nm_e ⟨vp_in_nI he (by decide), nm_e ⟨rfl, _, _, lx_uDL e 0 hX, ly_uYA e 0 hY, K2, R2⟩⟩⟩))⟩⟩
  · exact lx_zn hn (br_t rfl (ly_zn hn (br_t rfl ⟨rfl, g, h, hX, hY, K, R⟩)))
theorem lr_post {g h : Nat → Nat → Nat} {k e s : Nat} (he : e < 2) (hs : s < 4) (hw : g 3 s < 8) (K : lr_K k g) (R : lr_R g h) : lr_K k (ls_post g e s (ls_sl g s (g 3 s))) ∧ lr_R (ls_post g e s (ls_sl g s (g 3 s))) (ly_post h e s) := by
  obtain ⟨rA, rB⟩ := R.1 e he
  obtain ⟨rC, rD⟩ := R.2.1 s hs
  have hd := (K.2.2.2.2.1 e he).1
  generalize hsl : ls_sl g s (g 3 s) = sl
  have fWB : ∀ x, ls_post g e s sl 5 x = if sl * 24 ≤ x ∧ x < sl * 24 + g 0 e then g 1 (e * 24 + (x - sl * 24)) else g 5 x := fun _ => rfl
  have fWL : ∀ x, ls_post g e s sl 4 x = if x = sl then g 0 e else g 4 x := fun _ => rfl
  have fWC : ∀ x, ls_post g e s sl 3 x = if x = s then g 3 s + 1 else g 3 x := fun _ => rfl
  have fDL : ∀ x, ls_post g e s sl 0 x = if x = e then 0 else g 0 x := fun _ => rfl
  have yE : ∀ x, ly_post h e s 4 x = if 192 * s + 24 * h 2 s ≤ x ∧ x < 192 * s + 24 * h 2 s + h 0 e then h 1 (24 * e + (x - (192 * s + 24 * h 2 s))) else h 4 x := fun _ => rfl
  have yD : ∀ x, ly_post h e s 3 x = if x = 8 * s + h 2 s then h 0 e else h 3 x := fun _ => rfl
  have yC : ∀ x, ly_post h e s 2 x = if x = s then h 2 s + 1 else h 2 x := fun _ => rfl
  have yA : ∀ x, ly_post h e s 0 x = if x = e then 0 else h 0 x := fun _ => rfl
  rw [rA, rC] at yE yD
  rw [rC] at yC
  refine ⟨⟨?_, ⟨?_, K.2.1.2⟩, ⟨?_, K.2.2.1.2⟩, K.2.2.2.1, ?_, K.2.2.2.2.2.1, K.2.2.2.2.2.2⟩, ?_, ?_, R.2.2⟩
  · intro s' hs'
    refine ⟨?_, (K.1 s' hs').2⟩
    rw [fWC]
    split
    · omega
    · exact (K.1 s' hs').1
  · intro i
    rw [fWL]
    split
    · exact hd
    · exact K.2.1.1 i
  · intro i
    rw [fWB]
    split
    · exact K.2.2.2.1 _
    · exact K.2.2.1.1 i
  · intro e' he'
    refine ⟨?_, (K.2.2.2.2.1 e' he').2⟩
    rw [fDL]
    split
    · omega
    · exact (K.2.2.2.2.1 e' he').1
  · intro e' he'
    obtain ⟨r1, r2⟩ := R.1 e' he'
    rw [yA, fDL]
    by_cases ee : e' = e
    · rw [if_pos ee, if_pos ee]
      exact ⟨rfl, fun j hj => absurd hj (Nat.not_lt_zero j)⟩
    · rw [if_neg ee, if_neg ee]
      exact ⟨r1, r2⟩
  · intro s' hs'
    obtain ⟨q1, q2⟩ := R.2.1 s' hs'
    have hw8 := (K.1 s' hs').1
    rw [yC, fWC]
    have esl : ∀ i, ls_sl (ls_post g e s sl) s' i = ls_sl g s' i := fun _ => rfl
    have old : ∀ i, i < g 3 s' → ls_sl g s' i ≠ sl → (8 * s' + i ≠ 8 * s + g 3 s) → (∀ j, j < 24 → ¬ (192 * s + 24 * g 3 s ≤ 192 * s' + 24 * i + j ∧ 192 * s' + 24 * i + j < 192 * s + 24 * g 3 s + g 0 e)) →
        ly_post h e s 3 (8 * s' + i) = ls_post g e s sl 4 (ls_sl (ls_post g e s sl) s' i) ∧ ∀ j, j < ls_post g e s sl 4 (ls_sl (ls_post g e s sl) s' i) → ly_post h e s 4 (192 * s' + 24 * i + j) = ls_post g e s sl 5 (ls_sl (ls_post g e s sl) s' i * 24 + j) := by
      intro i hi n1 n2 n3
      obtain ⟨k1, k2⟩ := q2 i hi
      rw [esl, yD, fWL, if_neg n1, if_neg n2]
      refine ⟨k1, fun j hj => ?_⟩
      have hj24 := K.2.1.1 (ls_sl g s' i)
      rw [yE, fWB, if_neg (n3 j (by omega)), if_neg (ls_far n1 (by omega) hd)]
      exact k2 j hj
    by_cases es : s' = s
    · subst es
      rw [if_pos rfl, if_pos rfl]
      refine ⟨rfl, fun i hi => ?_⟩
      by_cases ei : i = g 3 s'
      · subst ei
        rw [esl, hsl, yD, fWL, if_pos rfl, if_pos rfl]
        refine ⟨rfl, fun j hj => ?_⟩
        rw [yE, fWB, if_pos (by omega), if_pos (by omega)]
        rw [show 192 * s' + 24 * g 3 s' + j - (192 * s' + 24 * g 3 s') = j by omega, show sl * 24 + j - sl * 24 = j by omega]
        exact rB j hj
      · refine old i (by omega) ?_ (by omega) (fun j hj => by omega)
        rw [← hsl]; unfold ls_sl; omega
    · rw [if_neg es, if_neg es]
      refine ⟨q1, fun i hi => old i hi ?_ (by omega) (fun j hj => by omega)⟩
      rw [← hsl]; unfold ls_sl; omega
theorem i_vc_post {k : Nat} {u : SX} {v : SY} (I : i_Rel k u v) (hk : k + 4 ≤ 2048) (v1 : Int32) (v2 : Int32) : wpX_post (fun r u' => wpY_post (fun r' v' => r' = r ∧ i_Rel (k + 4) u' v') v v1 v2) u v1 v2 := by
  have I' := i_up I
  obtain ⟨g, h, hX, hY, K, R⟩ := I'
  rcases lx_two v1 with ⟨e, he, rfl⟩ | hn
  · rcases lx_two v2 with ⟨c, hc, rfl⟩ | hn
    · have hs : e + 2 * c < 4 := by omega
      obtain ⟨rA, rB⟩ := R.1 e he
      obtain ⟨rC, rD⟩ := R.2.1 (e + 2 * c) hs
      have hd := (K.2.2.2.2.1 e he).1
      obtain ⟨k1, k2, k3⟩ := K.1 _ hs
      refine lx_post hX he hc hd k1 k2 (fun hw u' hu => ?_) (fun hw => ?_)
      · refine ly_posts hY he hc (by omega) (by omega) (fun hw' v' hv => ?_) (fun hw' => by omega)
        obtain ⟨K2, R2⟩ := lr_post he hs hw K R
        exact ⟨by rw [rC], _, _, hu, hv, K2, R2⟩
      · exact ly_posts hY he hc (by omega) (by omega) (fun hw' => by omega) (fun hw' => ⟨rfl, g, h, hX, hY, K, R⟩)
    · obtain ⟨cNL, cDL, cDB, cWF, cWC, cWL, cWB, cIF, cIC, cTT, cIL, cIB, cKN, cNX, cTF, cOW, cRS, cOC, cOA, cOK, cPS, cPL, cPT, cPK, cPB, cNP⟩ := u
      obtain ⟨cYA, cYB, cYC, cYD, cYE, cYF, cYG, cYH, cYI⟩ := v
      unfold wpX_post wpY_post
      dsimp only
      exact lx_zy he (br_f (by decide) (lx_zn hn (br_t rfl (ly_zy he (br_f (by decide) (ly_zn hn (br_t rfl ⟨rfl, g, h, hX, hY, K, R⟩)))))))
  · obtain ⟨cNL, cDL, cDB, cWF, cWC, cWL, cWB, cIF, cIC, cTT, cIL, cIB, cKN, cNX, cTF, cOW, cRS, cOC, cOA, cOK, cPS, cPL, cPT, cPK, cPB, cNP⟩ := u
    obtain ⟨cYA, cYB, cYC, cYD, cYE, cYF, cYG, cYH, cYI⟩ := v
    unfold wpX_post wpY_post
    dsimp only
    exact lx_zn hn (br_t rfl (ly_zn hn (br_t rfl ⟨rfl, g, h, hX, hY, K, R⟩)))
theorem lr_order {g h : Nat → Nat → Nat} {k e a b : Nat} (he : e < 2) (hc : g 16 e < 12) (ha : a ≤ 15) (hb : b ≤ 3) (K : lr_K k g) (R : lr_R g h) :
    lr_K k (ls_up (ls_up (ls_up g 17 (e * 12 + g 16 e) a) 18 (e * 12 + g 16 e) b) 16 e (g 16 e + 1)) ∧ lr_R (ls_up (ls_up (ls_up g 17 (e * 12 + g 16 e) a) 18 (e * 12 + g 16 e) b) 16 e (g 16 e + 1)) h := by
  refine ⟨⟨K.1, K.2.1, K.2.2.1, K.2.2.2.1, ?_, ?_, K.2.2.2.2.2.2⟩, R⟩
  · intro e' he'
    refine ⟨(K.2.2.2.2.1 e' he').1, ?_⟩
    show (if e' = e then g 16 e + 1 else g 16 e') ≤ 12
    split
    · omega
    · exact (K.2.2.2.2.1 e' he').2
  · intro e' he' i hi
    have h12 := (K.2.2.2.2.1 e' he').2
    have hi' : i < (if e' = e then g 16 e + 1 else g 16 e') := hi
    show (if e' * 12 + i = e * 12 + g 16 e then a else g 17 (e' * 12 + i)) < 16 ∧ (if e' * 12 + i = e * 12 + g 16 e then b else g 18 (e' * 12 + i)) ≤ 3
    by_cases ee : e' = e
    · subst ee
      rw [if_pos rfl] at hi'
      by_cases ei : i = g 16 e'
      · rw [if_pos (by omega), if_pos (by omega)]; omega
      · rw [if_neg (by omega), if_neg (by omega)]
        exact K.2.2.2.2.2.1 e' he' i (by omega)
    · rw [if_neg ee] at hi'
      rw [if_neg (by omega), if_neg (by omega)]
      exact K.2.2.2.2.2.1 e' he' i hi'
theorem i_vc_disturb {k : Nat} {u : SX} {v : SY} (I : i_Rel k u v) (hk : k + 4 ≤ 2048) (v1 : Int32) (v2 : Int32) (v3 : Int32) : wpX_disturb (fun r u' => wpY_disturb (fun r' => r' = r ∧ i_Rel (k + 4) u' v) v v1 v2 v3) u v1 v2 v3 := by
  have I' := i_up I
  obtain ⟨g, h, hX, hY, K, R⟩ := I'
  have hXR := hX
  obtain ⟨cNL, cDL, cDB, cWF, cWC, cWL, cWB, cIF, cIC, cTT, cIL, cIB, cKN, cNX, cTF, cOW, cRS, cOC, cOA, cOK, cPS, cPL, cPT, cPK, cPB, cNP⟩ := u
  obtain ⟨cYA, cYB, cYC, cYD, cYE, cYF, cYG, cYH, cYI⟩ := v
  obtain ⟨rNL, rDL, rDB, rWF, rWC, rWL, rWB, rIF, rIC, rTT, rIL, rIB, rKN, rNX, rTF, rOW, rRS, rOC, rOA, rOK, rPL, rPT, rPK, rPB, rNP⟩ := hXR
  unfold wpX_disturb wpY_disturb
  dsimp only
  have fin : ∀ {r : Int32}, r = r ∧ i_Rel (k + 4) (cNL, cDL, cDB, cWF, cWC, cWL, cWB, cIF, cIC, cTT, cIL, cIB, cKN, cNX, cTF, cOW, cRS, cOC, cOA, cOK, cPS, cPL, cPT, cPK, cPB, cNP) (cYA, cYB, cYC, cYD, cYE, cYF, cYG, cYH, cYI) := ⟨rfl, g, h, hX, hY, K, R⟩
  rcases lx_two v1 with ⟨e, he, rfl⟩ | hn
  · refine lx_zy he (br_f (by decide) ?_)
    by_cases h0 : v2 < 0
    · exact br_t h0 (ly_zy he (br_f (by decide) (br_t h0 fin)))
    refine br_f h0 ?_
    by_cases h15 : 15 < v2
    · exact br_t h15 (ly_zy he (br_f (by decide) (br_f h0 (br_t h15 fin))))
    refine br_f h15 ?_
    by_cases h3 : v3 < 0
    · exact br_t h3 (ly_zy he (br_f (by decide) (br_f h0 (br_f h15 (br_t h3 fin)))))
    refine br_f h3 ?_
    by_cases h4 : v3 ≤ 3
    · obtain ⟨a, ha, rfl⟩ := nI_of2 (M := 15) (n := 15) (by decide) h0 (Int32.not_lt.mp h15)
      obtain ⟨b, hb, rfl⟩ := nI_of2 (M := 3) (n := 3) (by decide) h3 h4
      have h12 := (K.2.2.2.2.1 e he).2
      have hve : ∀ {N : Nat}, N = 2 → vp_in (nI e) N := fun z => by subst z; exact vp_in_nI he (by decide)
      have e1 : nI e * 12 = nI (e * 12) := pk_mul e 12
      refine br_t h4 ?_
      rw [nI_clamp (by omega : e < 2 ^ 31), rOC, e1, nI_add, nI_1]
      refine ⟨hve rfl, pk_le 12 (g 16 e) (fun z => ?_) (fun z => ⟨hve rfl, nm_e ?_⟩) rfl rfl (by omega) (by omega)⟩
      · exact ly_zy he (br_f (by decide) (br_f h0 (br_f h15 (br_f h3 (br_f (Int32.not_lt.mpr h4) fin)))))
      · rw [nI_clamp (by omega : e * 12 + g 16 e < 2 ^ 31)]
        obtain ⟨K2, R2⟩ := lr_order he z ha hb K R
        refine ⟨vp_in_nI (by omega) (by decide), nm_e ⟨vp_in_nI (by omega) (by decide), nm_e ⟨hve rfl, hve rfl, nm_e ?_⟩⟩⟩
        exact ly_zy he (br_f (by decide) (br_f h0 (br_f h15 (br_f h3 (br_f (Int32.not_lt.mpr h4) ⟨rfl, _, _, lx_uOC _ _ (lx_uOK _ _ (lx_uOA _ _ hX)), hY, K2, R2⟩)))))
    · exact br_f h4 (ly_zy he (br_f (by decide) (br_f h0 (br_f h15 (br_f h3 (br_t (Int32.not_le.mp h4) fin))))))
  · exact lx_zn hn (br_t rfl (ly_zn hn (br_t rfl fin)))
def ls_rt (g : Nat → Nat → Nat) (p : Nat) : Nat → Nat → Nat := ls_up (ls_up (ls_up (ls_up (ls_up g 11 p 0) 12 p 0) 13 p 0) 14 p 0) 15 p 0
theorem lr_rt {g h : Nat → Nat → Nat} {k p : Nat} (K : lr_K k g) (R : lr_R g h) : lr_K k (ls_rt g p) ∧ lr_R (ls_rt g p) h := by
  refine ⟨⟨?_, K.2⟩, R⟩
  intro s hs
  obtain ⟨a1, a2, a3, a4, a5, a6, a7, a8, a9, a10⟩ := K.1 s hs
  refine ⟨a1, a2, a3, a4, a5, ?_, ?_, ?_, ?_, ?_⟩
  · show (if s = p then 0 else g 11 s) ≤ 1
    split <;> omega
  · show (if s = p then 0 else g 11 s) = 1 → (if s = p then 0 else g 12 s) = g 8 (ls_pr s)
    by_cases e : s = p
    · rw [if_pos e]; intro z; exact absurd z (by decide)
    · rw [if_neg e, if_neg e]; exact a7
  · show (if s = p then 0 else g 13 s) ≤ 1
    split <;> omega
  · show (if s = p then 0 else g 14 s) = 0
    split <;> omega
  · show (if s = p then 0 else g 15 s) ≤ 4
    split <;> omega
theorem lx_rt {post : Int32 → SX → Prop} {g : Nat → Nat → Nat} {p n : Nat} {cNL : Int32} {cDL cDB cWF cWC cWL cWB cIF cIC cTT cIL cIB cKN cNX cTF cOW cRS cOC cOA cOK cPS cPL cPT cPK cPB cNP : Nat → Int32} (hp : p < 4) (hR : lx_R g (cNL, cDL, cDB, cWF, cWC, cWL, cWB, cIF, cIC, cTT, cIL, cIB, cKN, cNX, cTF, cOW, cRS, cOC, cOA, cOK, cPS, cPL, cPT, cPK, cPB, cNP)) (H : ∀ {cNL7 : Int32} {cDL7 cDB7 cWF7 cWC7 cWL7 cWB7 cIF7 cIC7 cTT7 cIL7 cIB7 cKN7 cNX7 cTF7 cOW7 cRS7 cOC7 cOA7 cOK7 cPS7 cPL7 cPT7 cPK7 cPB7 cNP7 : Nat → Int32}, lx_R (ls_rt g p) (cNL7, cDL7, cDB7, cWF7, cWC7, cWL7, cWB7, cIF7, cIC7, cTT7, cIL7, cIB7, cKN7, cNX7, cTF7, cOW7, cRS7, cOC7, cOA7, cOK7, cPS7, cPL7, cPT7, cPK7, cPB7, cNP7) → wX_restart_11 post cNL7 n (nI (p + 2)) cDL7 cDB7 cWF7 cWC7 cWL7 cWB7 cIF7 cIC7 cTT7 cIL7 cIB7 cKN7 cNX7 cTF7 cOW7 cRS7 cOC7 cOA7 cOK7 cPS7 cPL7 cPT7 cPK7 cPB7 cNP7) : wX_restart_11 post cNL (n + 1) (nI p) cDL cDB cWF cWC cWL cWB cIF cIC cTT cIL cIB cKN cNX cTF cOW cRS cOC cOA cOK cPS cPL cPT cPK cPB cNP := by
  rw [wX_restart_11]
  dsimp only
  have hv : ∀ {N : Nat}, N = 4 → vp_in (nI p) N := fun z => by subst z; exact vp_in_nI hp (by decide)
  rw [nI_clamp (by omega : p < 2 ^ 31), lx_b0]
  refine br_f (nI_ge (b := 4) hp (by decide)) ⟨hv rfl, nm_e ⟨hv rfl, nm_e ⟨hv rfl, nm_e ⟨hv rfl, nm_e ⟨hv rfl, nm_e (nm_r (nI_add p 2) ?_)⟩⟩⟩⟩⟩
  exact H (lx_uRS p 0 (lx_uOW p 0 (lx_uTF p 0 (lx_uNX p 0 (lx_uKN p 0 hR)))))
theorem lx_rtx {post : Int32 → SX → Prop} {p n : Nat} {cNL : Int32} {cDL cDB cWF cWC cWL cWB cIF cIC cTT cIL cIB cKN cNX cTF cOW cRS cOC cOA cOK cPS cPL cPT cPK cPB cNP : Nat → Int32} (hp : 4 ≤ p) (h31 : p < 2 ^ 31) (H : post 1 (cNL, cDL, cDB, cWF, cWC, cWL, cWB, cIF, cIC, cTT, cIL, cIB, cKN, cNX, cTF, cOW, cRS, cOC, cOA, cOK, cPS, cPL, cPT, cPK, cPB, cNP)) : wX_restart_11 post cNL (n + 1) (nI p) cDL cDB cWF cWC cWL cWB cIF cIC cTT cIL cIB cKN cNX cTF cOW cRS cOC cOA cOK cPS cPL cPT cPK cPB cNP := by
  rw [wX_restart_11]
  dsimp only
  exact br_t (nI_le (a := 4) hp h31) H
theorem i_vc_restart {k : Nat} {u : SX} {v : SY} (I : i_Rel k u v) (hk : k + 4 ≤ 2048) (v1 : Int32) : wpX_restart (fun r u' => wpY_restart (fun r' => r' = r ∧ i_Rel (k + 4) u' v) v v1) u v1 := by
  have I' := i_up I
  obtain ⟨g, h, hX, hY, K, R⟩ := I'
  obtain ⟨cNL, cDL, cDB, cWF, cWC, cWL, cWB, cIF, cIC, cTT, cIL, cIB, cKN, cNX, cTF, cOW, cRS, cOC, cOA, cOK, cPS, cPL, cPT, cPK, cPB, cNP⟩ := u
  obtain ⟨cYA, cYB, cYC, cYD, cYE, cYF, cYG, cYH, cYI⟩ := v
  unfold wpX_restart wpY_restart
  dsimp only
  rcases lx_two v1 with ⟨e, he, rfl⟩ | hn
  · refine lx_zy he (br_f (by decide) ⟨3, ?_⟩)
    obtain ⟨K1, R1⟩ := lr_rt (p := e) K R
    obtain ⟨K2, R2⟩ := lr_rt (p := e + 2) K1 R1
    refine lx_rt (by omega) hX fun hR1 => ?_
    refine lx_rt (by omega) hR1 fun hR2 => ?_
    exact lx_rtx (by omega) (by omega) (ly_zy he ⟨rfl, rfl, _, _, hR2, hY, K2, R2⟩)
  · exact lx_zn hn (br_t rfl (ly_zn hn ⟨rfl, rfl, g, h, hX, hY, K, R⟩))
theorem lr_take {g h : Nat → Nat → Nat} {k p : Nat} (hp : p < 4) (h0 : 0 < g 7 p) (K : lr_K k g) (R : lr_R g h) :
    lr_K k (ls_up (ls_up g 6 p ((g 6 p + 1) % 5)) 7 p (g 7 p - 1)) ∧ lr_R (ls_up (ls_up g 6 p ((g 6 p + 1) % 5)) 7 p (g 7 p - 1)) (ly_tk h p) := by
  have fIF : ∀ x, ls_up (ls_up g 6 p ((g 6 p + 1) % 5)) 7 p (g 7 p - 1) 6 x = if x = p then (g 6 p + 1) % 5 else g 6 x := fun _ => rfl
  have fIC : ∀ x, ls_up (ls_up g 6 p ((g 6 p + 1) % 5)) 7 p (g 7 p - 1) 7 x = if x = p then g 7 p - 1 else g 7 x := fun _ => rfl
  have fIL : ls_up (ls_up g 6 p ((g 6 p + 1) % 5)) 7 p (g 7 p - 1) 9 = g 9 := rfl
  have fIB : ls_up (ls_up g 6 p ((g 6 p + 1) % 5)) 7 p (g 7 p - 1) 10 = g 10 := rfl
  have fTT : ls_up (ls_up g 6 p ((g 6 p + 1) % 5)) 7 p (g 7 p - 1) 8 = g 8 := rfl
  have fin : ∀ x i, ls_in (ls_up (ls_up g 6 p ((g 6 p + 1) % 5)) 7 p (g 7 p - 1)) x i = ls_in g x (if x = p then i + 1 else i) := fun x i => by
    unfold ls_in
    rw [fIF]
    by_cases e : x = p
    · rw [if_pos e, if_pos e, e]; omega
    · rw [if_neg e, if_neg e]
  obtain ⟨p1, p2, p3⟩ := R.2.2 p hp
  have yG : ∀ x, ly_tk h p 6 x = if 5 * p ≤ x ∧ x < 5 * p + (h 5 p - 1) then h 6 (x + 1) else h 6 x := fun _ => rfl
  have yH : ∀ x, ly_tk h p 7 x = if 120 * p ≤ x ∧ x < 120 * p + 24 * (h 5 p - 1) then h 7 (x + 24) else h 7 x := fun _ => rfl
  have yF : ∀ x, ly_tk h p 5 x = if x = p then h 5 p - 1 else h 5 x := fun _ => rfl
  have yI : ly_tk h p 8 = h 8 := rfl
  rw [p1] at yG yH yF
  refine ⟨⟨?_, ⟨K.2.1.1, ?_⟩, K.2.2⟩, R.1, R.2.1, ?_⟩
  · intro s hs
    obtain ⟨a1, a2, a3, a4, a5, a6⟩ := K.1 s hs
    refine ⟨a1, a2, ?_, ?_, a5, a6⟩
    · rw [fIC]
      split
      · have := (K.1 p hp).2.2.1; omega
      · exact a3
    · rw [fIF]
      split
      · omega
      · exact a4
  · intro x hx i hi
    rw [fIC] at hi
    rw [fin, fIL]
    by_cases e : x = p
    · subst e
      rw [if_pos rfl] at hi ⊢
      exact K.2.1.2 x hx (i + 1) (by omega)
    · rw [if_neg e] at hi ⊢
      exact K.2.1.2 x hx i hi
  · intro x hx
    obtain ⟨q1, q2, q3⟩ := R.2.2 x hx
    have h5p := (K.1 p hp).2.2.1
    have h5x := (K.1 x hx).2.2.1
    rw [yF, fIC, yI, fTT, fIL, fIB]
    by_cases e : x = p
    · subst e
      rw [if_pos rfl, if_pos rfl]
      refine ⟨rfl, q2, fun i hi => ?_⟩
      rw [fin, if_pos rfl, yG, if_pos (by omega)]
      obtain ⟨k1, k2⟩ := q3 (i + 1) (by omega)
      refine ⟨by rw [Nat.add_assoc]; exact k1, fun j hj => ?_⟩
      have hj24 := K.2.1.2 x hx (i + 1) (by omega)
      rw [yH, if_pos (by omega), ← k2 j hj]
      congr 1; omega
    · rw [if_neg e, if_neg e]
      refine ⟨q1, q2, fun i hi => ?_⟩
      rw [fin, if_neg e, yG, if_neg (by omega)]
      obtain ⟨k1, k2⟩ := q3 i hi
      refine ⟨k1, fun j hj => ?_⟩
      have hj24 := K.2.1.2 x hx i hi
      rw [yH, if_neg (by omega)]
      exact k2 j hj
theorem i_vc_take {k : Nat} {u : SX} {v : SY} (I : i_Rel k u v) (hk : k + 4 ≤ 2048) (v1 : Int32) : wpX_take (fun r u' => wpY_take (fun r' v' => r' = r ∧ i_Rel (k + 4) u' v') v v1) u v1 := by
  have I' := i_up I
  obtain ⟨g, h, hX, hY, K, R⟩ := I'
  have hc : ∀ p, p < 4 → g 7 p ≤ 5 := fun p hp => (K.1 p hp).2.2.1
  have hXR := hX
  obtain ⟨cNL, cDL, cDB, cWF, cWC, cWL, cWB, cIF, cIC, cTT, cIL, cIB, cKN, cNX, cTF, cOW, cRS, cOC, cOA, cOK, cPS, cPL, cPT, cPK, cPB, cNP⟩ := u
  obtain ⟨rNL, rDL, rDB, rWF, rWC, rWL, rWB, rIF, rIC, rTT, rIL, rIB, rKN, rNX, rTF, rOW, rRS, rOC, rOA, rOK, rPL, rPT, rPK, rPB, rNP⟩ := hXR
  unfold wpX_take
  dsimp only
  rcases lr_msg (g 7) v1 0 hc with ⟨p, i, hp, hi, rfl, hi0⟩ | hb
  · have hi00 : 0 < g 7 p := by omega
    obtain ⟨p1, p2, p3⟩ := R.2.2 p hp
    have h5 := hc p hp
    have hF := (K.1 p hp).2.2.2.1
    refine lx_hy (i := 0) hX hp hi00 h5 (br_f (by decide) (lx_inboxSlot (i := 0) hX hp (by omega) (by decide) ?_))
    have e1 : nI (g 6 p + 1) - nI (g 6 p + 1) / 5 * 5 = nI ((g 6 p + 1) % 5) := pk_rem (d := 5) (by omega) (by decide) (by decide)
    have e2 : nI (g 7 p) - 1 = nI (g 7 p - 1) := pk_sub (b := 1) hi00
    rw [nI_clamp (by omega : p * 5 + (g 6 p + 0) % 5 < 2 ^ 31), nI_clamp (by omega : p < 2 ^ 31), rIL, rIF, rIC, nI_1, e1, e2]
    have hv : ∀ {N : Nat}, N = 4 → vp_in (nI p) N := fun z => by subst z; exact vp_in_nI hp (by decide)
    refine ⟨vp_in_nI (by omega) (by decide), nm_e ⟨hv rfl, by decide, hv rfl, nm_e ⟨hv rfl, hv rfl, nm_e ?_⟩⟩⟩
    obtain ⟨K2, R2⟩ := lr_take hp hi00 K R
    refine ly_take hY hp (by omega) (by omega) fun v' hv' => ⟨?_, _, _, lx_uIC _ _ (lx_uIF _ _ hX), hv', K2, R2⟩
    exact congrArg nI (p3 0 hi00).1
  · refine lx_hn hX hb (br_t rfl ?_)
    obtain ⟨cYA, cYB, cYC, cYD, cYE, cYF, cYG, cYH, cYI⟩ := v
    unfold wpY_take
    dsimp only
    refine ly_hn hY ?_ (br_t rfl ⟨rfl, g, h, hX, hY, K, R⟩)
    rcases hb with hb | ⟨p, hp, e, hb⟩
    · exact Or.inl hb
    · exact Or.inr ⟨p, hp, e, by rw [(R.2.2 p hp).1]; exact hb⟩
