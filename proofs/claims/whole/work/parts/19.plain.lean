/-! the plain methods -/
theorem lx_two (x : Int32) : (∃ e, e < 2 ∧ x = nI e) ∨ (x ≠ 0 ∧ x ≠ 1) := by
  by_cases h0 : x = 0
  · exact Or.inl ⟨0, by decide, h0⟩
  · by_cases h1 : x = 1
    · exact Or.inl ⟨1, by decide, h1⟩
    · exact Or.inr ⟨h0, h1⟩
theorem lx_zy {post : Int32 → Prop} {e : Nat} (he : e < 2) (H : post 1) : wpX_isZeroOrOne post (nI e) := by
  unfold wpX_isZeroOrOne
  rcases (by omega : e = 0 ∨ e = 1) with z | z
  · subst z; exact br_t rfl H
  · subst z; exact br_f (by decide) (br_t rfl H)
theorem lx_zn {post : Int32 → Prop} {x : Int32} (h : x ≠ 0 ∧ x ≠ 1) (H : post 0) : wpX_isZeroOrOne post x := br_f h.1 (br_f h.2 H)
theorem ly_zy {post : Int32 → Prop} {u : SY} {e : Nat} (he : e < 2) (H : post 1) : wpY_two post u (nI e) := by
  obtain ⟨cYA, cYB, cYC, cYD, cYE, cYF, cYG, cYH, cYI⟩ := u
  unfold wpY_two
  dsimp only
  rcases (by omega : e = 0 ∨ e = 1) with z | z
  · subst z; exact br_t rfl H
  · subst z; exact br_f (by decide) (br_t rfl H)
theorem ly_zn {post : Int32 → Prop} {u : SY} {x : Int32} (h : x ≠ 0 ∧ x ≠ 1) (H : post 0) : wpY_two post u x := by
  obtain ⟨cYA, cYB, cYC, cYD, cYE, cYF, cYG, cYH, cYI⟩ := u
  exact br_f h.1 (br_f h.2 H)
theorem lx_4 : (4 : Int32) = nI 4 := rfl
theorem lx_gt3 {x : Int32} (h : nI 4 ≤ x) : (3 : Int32) < x := by
  have h1 : (3 : Int32) < 4 := by decide
  exact Int32.lt_of_lt_of_le h1 h
theorem lx_nneg {x : Int32} (h : nI 4 ≤ x) : ¬ x < 0 := by
  have h1 : (0 : Int32) ≤ 4 := by decide
  exact Int32.not_lt.mpr (Int32.le_trans h1 h)
theorem lx_pn {post : Int32 → Prop} {x : Int32} (h : x < 0 ∨ nI 4 ≤ x) (H : post 0) : wpX_isPort post x := by
  unfold wpX_isPort
  rcases h with h | h
  · exact br_t h H
  · exact br_f (lx_nneg h) (br_t h H)
theorem ly_py {post : Int32 → Prop} {u : SY} {p : Nat} (hp : p < 4) (H : post 1) : wpY_isInbox post u (nI p) := by
  obtain ⟨cYA, cYB, cYC, cYD, cYE, cYF, cYG, cYH, cYI⟩ := u
  unfold wpY_isInbox
  dsimp only
  exact br_f (nI_pos (by omega)) (br_f (nI_nlt (a := 3) (by omega) (by decide)) H)
theorem ly_pn {post : Int32 → Prop} {u : SY} {x : Int32} (h : x < 0 ∨ nI 4 ≤ x) (H : post 0) : wpY_isInbox post u x := by
  obtain ⟨cYA, cYB, cYC, cYD, cYE, cYF, cYG, cYH, cYI⟩ := u
  unfold wpY_isInbox
  dsimp only
  rcases h with h | h
  · exact br_t h H
  · exact br_f (lx_nneg h) (br_t (lx_gt3 h) H)
/-! messages that are, and that are not -/
def lr_bad (c : Nat → Nat) (x y : Int32) : Prop := (x < 0 ∨ nI 4 ≤ x) ∨ ∃ p, p < 4 ∧ x = nI p ∧ (y < 0 ∨ nI (c p) ≤ y)
theorem lr_msg (c : Nat → Nat) (x y : Int32) (hc : ∀ p, p < 4 → c p ≤ 5) : (∃ p i, p < 4 ∧ i < c p ∧ x = nI p ∧ y = nI i) ∨ lr_bad c x y := by
  rcases pk_ix x (n := 4) (by decide) with h | h | ⟨p, hp, rfl⟩
  · exact Or.inr (Or.inl (Or.inl h))
  · exact Or.inr (Or.inl (Or.inr h))
  · have := hc p hp
    rcases pk_ix y (n := c p) (by omega) with h | h | ⟨i, hi, rfl⟩
    · exact Or.inr (Or.inr ⟨p, hp, rfl, Or.inl h⟩)
    · exact Or.inr (Or.inr ⟨p, hp, rfl, Or.inr h⟩)
    · exact Or.inl ⟨p, i, hp, hi, rfl, rfl⟩
theorem lx_hy {post : Int32 → Prop} {g : Nat → Nat → Nat} {u : SX} {p i : Nat} (hR : lx_R g u) (hp : p < 4) (hi : i < g 7 p) (hc : g 7 p ≤ 5) (H : post 1) : wpX_holdsMessage post u (nI p) (nI i) := by
  obtain ⟨cNL, cDL, cDB, cWF, cWC, cWL, cWB, cIF, cIC, cTT, cIL, cIB, cKN, cNX, cTF, cOW, cRS, cOC, cOA, cOK, cPS, cPL, cPT, cPK, cPB, cNP⟩ := u
  obtain ⟨rNL, rDL, rDB, rWF, rWC, rWL, rWB, rIF, rIC, rTT, rIL, rIB, rKN, rNX, rTF, rOW, rRS, rOC, rOA, rOK, rPL, rPT, rPK, rPB, rNP⟩ := hR
  unfold wpX_holdsMessage
  dsimp only
  rw [nI_clamp (by omega : p < 2 ^ 31), rIC]
  exact lx_isPort hp (br_f (by decide) (br_f (nI_pos (by omega)) ⟨vp_in_nI hp (by decide), br_f (nI_ge hi (by omega)) H⟩))
theorem lx_hn {post : Int32 → Prop} {g : Nat → Nat → Nat} {u : SX} {x y : Int32} (hR : lx_R g u) (h : lr_bad (g 7) x y) (H : post 0) : wpX_holdsMessage post u x y := by
  obtain ⟨cNL, cDL, cDB, cWF, cWC, cWL, cWB, cIF, cIC, cTT, cIL, cIB, cKN, cNX, cTF, cOW, cRS, cOC, cOA, cOK, cPS, cPL, cPT, cPK, cPB, cNP⟩ := u
  obtain ⟨rNL, rDL, rDB, rWF, rWC, rWL, rWB, rIF, rIC, rTT, rIL, rIB, rKN, rNX, rTF, rOW, rRS, rOC, rOA, rOK, rPL, rPT, rPK, rPB, rNP⟩ := hR
  unfold wpX_holdsMessage
  dsimp only
  rcases h with h | ⟨p, hp, rfl, h⟩
  · exact lx_pn h (br_t rfl H)
  · rw [nI_clamp (by omega : p < 2 ^ 31), rIC]
    refine lx_isPort hp (br_f (by decide) ?_)
    rcases h with h | h
    · exact br_t h H
    · exact br_c (fun _ => H) (fun _ => ⟨vp_in_nI hp (by decide), br_t h H⟩)
theorem ly_hy {post : Int32 → Prop} {h : Nat → Nat → Nat} {u : SY} {p i : Nat} (hR : ly_R h u) (hp : p < 4) (hi : i < h 5 p) (hc : h 5 p ≤ 5) (H : post 1) : wpY_is post u (nI p) (nI i) := by
  obtain ⟨cYA, cYB, cYC, cYD, cYE, cYF, cYG, cYH, cYI⟩ := u
  obtain ⟨rYA, rYB, rYC, rYD, rYE, rYF, rYG, rYH, rYI⟩ := hR
  unfold wpY_is
  dsimp only
  rw [nI_clamp (by omega : p < 2 ^ 31), rYF]
  exact ly_py hp (br_f (by decide) (br_f (nI_pos (by omega)) ⟨vp_in_nI hp (by decide), br_f (nI_ge hi (by omega)) H⟩))
theorem ly_hn {post : Int32 → Prop} {h : Nat → Nat → Nat} {u : SY} {x y : Int32} (hR : ly_R h u) (hb : lr_bad (h 5) x y) (H : post 0) : wpY_is post u x y := by
  obtain ⟨cYA, cYB, cYC, cYD, cYE, cYF, cYG, cYH, cYI⟩ := u
  obtain ⟨rYA, rYB, rYC, rYD, rYE, rYF, rYG, rYH, rYI⟩ := hR
  unfold wpY_is
  dsimp only
  rcases hb with hb | ⟨p, hp, rfl, hb⟩
  · exact ly_pn hb (br_t rfl H)
  · rw [nI_clamp (by omega : p < 2 ^ 31), rYF]
    refine ly_py hp (br_f (by decide) ?_)
    rcases hb with hb | hb
    · exact br_t hb H
    · exact br_c (fun _ => H) (fun _ => ⟨vp_in_nI hp (by decide), br_t hb H⟩)
/-! post: the component's loop -/
def ls_po (g : Nat → Nat → Nat) (e sl j : Nat) : Nat → Nat → Nat := fun f x => if f = 5 then (if sl * 24 ≤ x ∧ x < sl * 24 + j then g 1 (e * 24 + (x - sl * 24)) else g 5 x) else g f x
theorem ls_po_0 (g : Nat → Nat → Nat) (e sl : Nat) : ls_po g e sl 0 = g := by
  funext f x
  unfold ls_po
  split
  · next e => subst e; exact if_neg (by omega)
  · rfl
theorem ls_po_s (g : Nat → Nat → Nat) (e sl j : Nat) : ls_up (ls_po g e sl j) 5 (sl * 24 + j) (g 1 (e * 24 + j)) = ls_po g e sl (j + 1) := by
  funext f x
  unfold ls_up ls_po
  by_cases e1 : f = 5
  · rw [if_pos e1, if_pos e1, if_pos rfl]
    by_cases h : x = sl * 24 + j
    · rw [if_pos h, if_pos (by omega)]
      congr 1; omega
    · rw [if_neg h]
      by_cases h2 : sl * 24 ≤ x ∧ x < sl * 24 + j
      · rw [if_pos h2, if_pos (by omega)]
      · rw [if_neg h2, if_neg (by omega)]
  · rw [if_neg e1, if_neg e1, if_neg e1]
def ls_post (g : Nat → Nat → Nat) (e s sl : Nat) : Nat → Nat → Nat := ls_up (ls_up (ls_up (ls_po g e sl (g 0 e)) 4 sl (g 0 e)) 3 s (g 3 s + 1)) 0 e 0
theorem lx_po52 {post : Int32 → SX → Prop} {g : Nat → Nat → Nat} {e s sl : Nat} (he : e < 2) (hs : s < 4) (hsl : sl < 32) (hd : g 0 e ≤ 24) (hw : g 3 s < 8) (H : ∀ u', lx_R (ls_post g e s sl) u' → post (nI (g 3 s + 1)) u') : ∀ (r j n : Nat) {cNL : Int32} {cDL cDB cWF cWC cWL cWB cIF cIC cTT cIL cIB cKN cNX cTF cOW cRS cOC cOA cOK cPS cPL cPT cPK cPB cNP : Nat → Int32}, j + r = g 0 e → r < n → lx_R (ls_po g e sl j) (cNL, cDL, cDB, cWF, cWC, cWL, cWB, cIF, cIC, cTT, cIL, cIB, cKN, cNX, cTF, cOW, cRS, cOC, cOA, cOK, cPS, cPL, cPT, cPK, cPB, cNP) →
    wX_post_52 post (nI e) (nI s) (nI sl) cNL n (nI j) cDL cDB cWF cWC cWL cWB cIF cIC cTT cIL cIB cKN cNX cTF cOW cRS cOC cOA cOK cPS cPL cPT cPK cPB cNP := by
  intro r
  induction r with
  | zero =>
    intro j n cNL cDL cDB cWF cWC cWL cWB cIF cIC cTT cIL cIB cKN cNX cTF cOW cRS cOC cOA cOK cPS cPL cPT cPK cPB cNP hj hn hR
    obtain ⟨m, rfl⟩ : ∃ m, n = m + 1 := ⟨n - 1, by omega⟩
    have hR' := hR
    obtain ⟨rNL, rDL, rDB, rWF, rWC, rWL, rWB, rIF, rIC, rTT, rIL, rIB, rKN, rNX, rTF, rOW, rRS, rOC, rOA, rOK, rPL, rPT, rPK, rPB, rNP⟩ := hR'
    rw [wX_post_52]
    dsimp only
    have e1 : cDL e = nI (g 0 e) := rDL e
    have e2 : cWC s = nI (g 3 s) := rWC s
    have hve : ∀ {N : Nat}, N = 2 → vp_in (nI e) N := fun z => by subst z; exact vp_in_nI he (by decide)
    have hvs : ∀ {N : Nat}, N = 4 → vp_in (nI s) N := fun z => by subst z; exact vp_in_nI hs (by decide)
    rw [nI_clamp (by omega : e < 2 ^ 31), nI_clamp (by omega : s < 2 ^ 31), nI_clamp (by omega : sl < 2 ^ 31), e1, e2, nI_1]
    obtain rfl : j = g 0 e := by omega
    refine ⟨hve rfl, br_t (nI_le (Nat.le_refl _) (by omega)) ⟨hve rfl, vp_in_nI hsl (by decide), nm_e ⟨hvs rfl, hvs rfl, ?_⟩⟩⟩
    intro a ea
    subst ea
    rw [pk_us]
    exact ⟨hve rfl, nm_e ⟨hvs rfl, H _ (lx_uDL e 0 (lx_uWC s (g 3 s + 1) (lx_uWL sl (g 0 e) hR)))⟩⟩
  | succ r ih =>
    intro j n cNL cDL cDB cWF cWC cWL cWB cIF cIC cTT cIL cIB cKN cNX cTF cOW cRS cOC cOA cOK cPS cPL cPT cPK cPB cNP hj hn hR
    obtain ⟨m, rfl⟩ : ∃ m, n = m + 1 := ⟨n - 1, by omega⟩
    have hR' := hR
    obtain ⟨rNL, rDL, rDB, rWF, rWC, rWL, rWB, rIF, rIC, rTT, rIL, rIB, rKN, rNX, rTF, rOW, rRS, rOC, rOA, rOK, rPL, rPT, rPK, rPB, rNP⟩ := hR'
    rw [wX_post_52]
    dsimp only
    have e1 : cDL e = nI (g 0 e) := rDL e
    have e2 : nI e * 24 = nI (e * 24) := pk_mul e 24
    have e3 : nI sl * 24 = nI (sl * 24) := pk_mul sl 24
    have ev : cDB (e * 24 + j) = nI (g 1 (e * 24 + j)) := rDB _
    rw [nI_clamp (by omega : e < 2 ^ 31), e1, e2, e3, nI_add, nI_add, nI_clamp (by omega : e * 24 + j < 2 ^ 31), nI_clamp (by omega : sl * 24 + j < 2 ^ 31), ev]
    refine ⟨vp_in_nI he (by decide), br_f (nI_ge (by omega) (by omega)) ⟨vp_in_nI (by omega) (by decide), vp_in_nI (by omega) (by decide), nm_e (nm_r (nI_1 j) ?_)⟩⟩
    have h2 := lx_uWB (sl * 24 + j) (g 1 (e * 24 + j)) hR
    rw [ls_po_s] at h2
    exact ih (j + 1) m (by omega) (by omega) h2
theorem lx_port {e c : Nat} : nI e + 2 * nI c = nI (e + 2 * c) := by
  show nI e + nI 2 * nI c = _
  rw [pk_mul, nI_add]
theorem lx_post {post : Int32 → SX → Prop} {g : Nat → Nat → Nat} {u : SX} {e c : Nat} (hR : lx_R g u) (he : e < 2) (hc : c < 2) (hd : g 0 e ≤ 24) (hw : g 3 (e + 2 * c) ≤ 8) (hf : g 2 (e + 2 * c) < 8)
    (H : g 3 (e + 2 * c) < 8 → ∀ u', lx_R (ls_post g e (e + 2 * c) (ls_sl g (e + 2 * c) (g 3 (e + 2 * c)))) u' → post (nI (g 3 (e + 2 * c) + 1)) u') (H0 : g 3 (e + 2 * c) = 8 → post (-2) u) : wpX_post post u (nI e) (nI c) := by
  have hR' := hR
  obtain ⟨cNL, cDL, cDB, cWF, cWC, cWL, cWB, cIF, cIC, cTT, cIL, cIB, cKN, cNX, cTF, cOW, cRS, cOC, cOA, cOK, cPS, cPL, cPT, cPK, cPB, cNP⟩ := u
  obtain ⟨rNL, rDL, rDB, rWF, rWC, rWL, rWB, rIF, rIC, rTT, rIL, rIB, rKN, rNX, rTF, rOW, rRS, rOC, rOA, rOK, rPL, rPT, rPK, rPB, rNP⟩ := hR'
  unfold wpX_post
  dsimp only
  refine lx_zy he (br_f (by decide) (lx_zy hc (br_f (by decide) (nm_r lx_port ?_))))
  rw [nI_clamp (by omega : e + 2 * c < 2 ^ 31), rWC]
  refine ⟨vp_in_nI (by omega) (by decide), pk_lt (g 3 (e + 2 * c)) 8 (fun h => ⟨vp_in_nI (by omega) (by decide), ?_⟩) (fun h => H0 (by omega)) rfl rfl (by omega) (by omega)⟩
  refine lx_waitingSlot hR (by omega) (by omega) (by omega) ⟨g 0 e + 1, ?_⟩
  exact lx_po52 he (by omega) (by unfold ls_sl; omega) hd h (H h) (g 0 e) 0 _ (by omega) (by omega) (by rw [ls_po_0]; exact hR)
/-! post: the reference's loop -/
def ly_po (h : Nat → Nat → Nat) (e a j : Nat) : Nat → Nat → Nat := fun f x => if f = 4 then (if a ≤ x ∧ x < a + j then h 1 (24 * e + (x - a)) else h 4 x) else h f x
theorem ly_po_0 (h : Nat → Nat → Nat) (e a : Nat) : ly_po h e a 0 = h := by
  funext f x
  unfold ly_po
  split
  · next e => subst e; exact if_neg (by omega)
  · rfl
theorem ly_po_s (h : Nat → Nat → Nat) (e a j : Nat) : ls_up (ly_po h e a j) 4 (a + j) (h 1 (24 * e + j)) = ly_po h e a (j + 1) := by
  funext f x
  unfold ls_up ly_po
  by_cases e1 : f = 4
  · rw [if_pos e1, if_pos e1, if_pos rfl]
    by_cases h : x = a + j
    · rw [if_pos h, if_pos (by omega)]
      congr 1; omega
    · rw [if_neg h]
      by_cases h2 : a ≤ x ∧ x < a + j
      · rw [if_pos h2, if_pos (by omega)]
      · rw [if_neg h2, if_neg (by omega)]
  · rw [if_neg e1, if_neg e1, if_neg e1]
def ly_post (h : Nat → Nat → Nat) (e s : Nat) : Nat → Nat → Nat := ls_up (ls_up (ly_po (ls_up h 3 (8 * s + h 2 s) (h 0 e)) e (192 * s + 24 * h 2 s) (h 0 e)) 0 e 0) 2 s (h 2 s + 1)
theorem ly_po63 {post : Int32 → SY → Prop} {h : Nat → Nat → Nat} {e s : Nat} (he : e < 2) (hs : s < 4) (hd : h 0 e ≤ 24) (hw : h 2 s < 8) (H : ∀ u', ly_R (ly_post h e s) u' → post (nI (h 2 s + 1)) u') : ∀ (r j n : Nat) {cYA cYB cYC cYD cYE cYF cYG cYH cYI : Nat → Int32}, j + r = h 0 e → r < n →
    ly_R (ly_po (ls_up h 3 (8 * s + h 2 s) (h 0 e)) e (192 * s + 24 * h 2 s) j) (cYA, cYB, cYC, cYD, cYE, cYF, cYG, cYH, cYI) → wY_post_63 post (nI e) (nI s) n (nI j) cYA cYB cYC cYD cYE cYF cYG cYH cYI := by
  intro r
  induction r with
  | zero =>
    intro j n cYA cYB cYC cYD cYE cYF cYG cYH cYI hj hn hR
    obtain ⟨m, rfl⟩ : ∃ m, n = m + 1 := ⟨n - 1, by omega⟩
    have hR' := hR
    obtain ⟨rYA, rYB, rYC, rYD, rYE, rYF, rYG, rYH, rYI⟩ := hR'
    rw [wY_post_63]
    dsimp only
    have e1 : cYA e = nI (h 0 e) := rYA e
    have e2 : cYC s = nI (h 2 s) := rYC s
    have hve : ∀ {N : Nat}, N = 2 → vp_in (nI e) N := fun z => by subst z; exact vp_in_nI he (by decide)
    have hvs : ∀ {N : Nat}, N = 4 → vp_in (nI s) N := fun z => by subst z; exact vp_in_nI hs (by decide)
    rw [nI_clamp (by omega : e < 2 ^ 31), nI_clamp (by omega : s < 2 ^ 31), e1, e2, nI_1]
    obtain rfl : j = h 0 e := by omega
    refine ⟨hve rfl, br_t (nI_le (Nat.le_refl _) (by omega)) ⟨hve rfl, nm_e ⟨hvs rfl, hvs rfl, ?_⟩⟩⟩
    intro a ea
    subst ea
    rw [pk_us]
    exact ⟨hvs rfl, H _ (ly_uYC s (h 2 s + 1) (ly_uYA e 0 hR))⟩
  | succ r ih =>
    intro j n cYA cYB cYC cYD cYE cYF cYG cYH cYI hj hn hR
    obtain ⟨m, rfl⟩ : ∃ m, n = m + 1 := ⟨n - 1, by omega⟩
    have hR' := hR
    obtain ⟨rYA, rYB, rYC, rYD, rYE, rYF, rYG, rYH, rYI⟩ := hR'
    rw [wY_post_63]
    dsimp only
    have e1 : cYA e = nI (h 0 e) := rYA e
    have e2 : cYC s = nI (h 2 s) := rYC s
    have e3 : (24 : Int32) * nI e = nI (24 * e) := pk_mul 24 e
    have e4 : (192 : Int32) * nI s = nI (192 * s) := pk_mul 192 s
    have e5 : (24 : Int32) * nI (h 2 s) = nI (24 * h 2 s) := pk_mul 24 _
    have ev : cYB (24 * e + j) = nI (h 1 (24 * e + j)) := rYB _
    rw [nI_clamp (by omega : e < 2 ^ 31), nI_clamp (by omega : s < 2 ^ 31), e1, e2, e3, e4, e5, nI_add, nI_add, nI_add, nI_clamp (by omega : 24 * e + j < 2 ^ 31), nI_clamp (by omega : 192 * s + 24 * h 2 s + j < 2 ^ 31), ev]
    refine ⟨vp_in_nI he (by decide), br_f (nI_ge (by omega) (by omega)) ⟨vp_in_nI hs (by decide), vp_in_nI (by omega) (by decide), vp_in_nI (by omega) (by decide), nm_e (nm_r (nI_1 j) ?_)⟩⟩
    have h2 := ly_uYE (192 * s + 24 * h 2 s + j) (h 1 (24 * e + j)) hR
    have h3 := ly_po_s (ls_up h 3 (8 * s + h 2 s) (h 0 e)) e (192 * s + 24 * h 2 s) j
    have h4 : ls_up h 3 (8 * s + h 2 s) (h 0 e) 1 (24 * e + j) = h 1 (24 * e + j) := rfl
    rw [h4] at h3
    rw [h3] at h2
    exact ih (j + 1) m (by omega) (by omega) h2
theorem ly_posts {post : Int32 → SY → Prop} {h : Nat → Nat → Nat} {u : SY} {e c : Nat} (hR : ly_R h u) (he : e < 2) (hc : c < 2) (hd : h 0 e ≤ 24) (hw : h 2 (e + 2 * c) ≤ 8)
    (H : h 2 (e + 2 * c) < 8 → ∀ u', ly_R (ly_post h e (e + 2 * c)) u' → post (nI (h 2 (e + 2 * c) + 1)) u') (H0 : h 2 (e + 2 * c) = 8 → post (-2) u) : wpY_post post u (nI e) (nI c) := by
  have hR' := hR
  obtain ⟨cYA, cYB, cYC, cYD, cYE, cYF, cYG, cYH, cYI⟩ := u
  obtain ⟨rYA, rYB, rYC, rYD, rYE, rYF, rYG, rYH, rYI⟩ := hR'
  unfold wpY_post
  dsimp only
  refine ly_zy he (br_f (by decide) (ly_zy hc (br_f (by decide) (nm_r lx_port ?_))))
  have e1 : (8 : Int32) * nI (e + 2 * c) = nI (8 * (e + 2 * c)) := pk_mul 8 _
  rw [nI_clamp (by omega : e + 2 * c < 2 ^ 31), rYC, e1, nI_add, nI_clamp (by omega : e < 2 ^ 31), rYA, nI_clamp (by omega : 8 * (e + 2 * c) + h 2 (e + 2 * c) < 2 ^ 31)]
  refine ⟨vp_in_nI (by omega) (by decide), pk_lt (h 2 (e + 2 * c)) 8 (fun z => ⟨vp_in_nI (by omega) (by decide), vp_in_nI he (by decide), vp_in_nI (by omega) (by decide), nm_e ⟨h 0 e + 1, ?_⟩⟩) (fun z => H0 (by omega)) rfl rfl (by omega) (by omega)⟩
  exact ly_po63 he (by omega) hd z (H z) (h 0 e) 0 _ (by omega) (by omega) (by rw [ly_po_0]; exact ly_uYD _ _ hR)
/-! take: the reference's loops -/
def ly_tf (h : Nat → Nat → Nat) (p i t : Nat) : Nat → Nat → Nat := fun f x =>
  if f = 6 then (if 5 * p ≤ x ∧ x < 5 * p + i then h 6 (x + 1) else h 6 x)
  else if f = 7 then (if 120 * p ≤ x ∧ x < 120 * p + t then h 7 (x + 24) else h 7 x) else h f x
theorem ly_tf_0 (h : Nat → Nat → Nat) (p : Nat) : ly_tf h p 0 (24 * 0) = h := by
  funext f x
  unfold ly_tf
  split
  · next e => subst e; exact if_neg (by omega)
  · split
    · next e => subst e; exact if_neg (by omega)
    · rfl
theorem ly_tf_G (h : Nat → Nat → Nat) (p i t : Nat) : ls_up (ly_tf h p i t) 6 (5 * p + i) (h 6 (5 * p + i + 1)) = ly_tf h p (i + 1) t := by
  funext f x
  by_cases e : f = 6
  · subst e
    show (if x = 5 * p + i then h 6 (5 * p + i + 1) else (if 5 * p ≤ x ∧ x < 5 * p + i then h 6 (x + 1) else h 6 x)) = (if 5 * p ≤ x ∧ x < 5 * p + (i + 1) then h 6 (x + 1) else h 6 x)
    by_cases h1 : x = 5 * p + i
    · rw [if_pos h1, if_pos (by omega), h1]
    · rw [if_neg h1]
      by_cases h2 : 5 * p ≤ x ∧ x < 5 * p + i
      · rw [if_pos h2, if_pos (by omega)]
      · rw [if_neg h2, if_neg (by omega)]
  · simp [ls_up, ly_tf, e]
theorem ly_tf_H (h : Nat → Nat → Nat) (p i t : Nat) : ls_up (ly_tf h p i t) 7 (120 * p + t) (h 7 (120 * p + t + 24)) = ly_tf h p i (t + 1) := by
  funext f x
  by_cases e : f = 7
  · subst e
    show (if x = 120 * p + t then h 7 (120 * p + t + 24) else (if 120 * p ≤ x ∧ x < 120 * p + t then h 7 (x + 24) else h 7 x)) = (if 120 * p ≤ x ∧ x < 120 * p + (t + 1) then h 7 (x + 24) else h 7 x)
    by_cases h1 : x = 120 * p + t
    · rw [if_pos h1, if_pos (by omega), h1]
    · rw [if_neg h1]
      by_cases h2 : 120 * p ≤ x ∧ x < 120 * p + t
      · rw [if_pos h2, if_pos (by omega)]
      · rw [if_neg h2, if_neg (by omega)]
  · by_cases e2 : f = 6
    · subst e2; rfl
    · simp [ls_up, ly_tf, e, e2]
theorem ly_67 {post : Int32 → SY → Prop} {J32 : Int32 → (Nat → Int32) → (Nat → Int32) → (Nat → Int32) → (Nat → Int32) → (Nat → Int32) → (Nat → Int32) → (Nat → Int32) → (Nat → Int32) → (Nat → Int32) → Prop} {h : Nat → Nat → Nat} {p i : Nat} {x2 : Int32} (hp : p < 4) (hi : i < 4)
    (K : ∀ {cYA7 cYB7 cYC7 cYD7 cYE7 cYF7 cYG7 cYH7 cYI7 : Nat → Int32}, ly_R (ly_tf h p (i + 1) (24 * (i + 1))) (cYA7, cYB7, cYC7, cYD7, cYE7, cYF7, cYG7, cYH7, cYI7) → J32 (nI (i + 1)) cYA7 cYB7 cYC7 cYD7 cYE7 cYF7 cYG7 cYH7 cYI7) : ∀ (r k n : Nat) {cYA cYB cYC cYD cYE cYF cYG cYH cYI : Nat → Int32}, k + r = 24 → r < n → ly_R (ly_tf h p (i + 1) (24 * i + k)) (cYA, cYB, cYC, cYD, cYE, cYF, cYG, cYH, cYI) → wY_take_67 post J32 (nI p) x2 (nI i) n (nI k) cYA cYB cYC cYD cYE cYF cYG cYH cYI := by
  intro r
  induction r with
  | zero =>
    intro k n cYA cYB cYC cYD cYE cYF cYG cYH cYI hk hn hR
    obtain ⟨m, rfl⟩ : ∃ m, n = m + 1 := ⟨n - 1, by omega⟩
    obtain rfl : k = 24 := by omega
    rw [wY_take_67]
    dsimp only
    exact br_t (nI_le (a := 24) (Nat.le_refl _) (by decide)) (nm_r (nI_1 i) (K hR))
  | succ r ih =>
    intro k n cYA cYB cYC cYD cYE cYF cYG cYH cYI hk hn hR
    obtain ⟨m, rfl⟩ : ∃ m, n = m + 1 := ⟨n - 1, by omega⟩
    have hR' := hR
    obtain ⟨rYA, rYB, rYC, rYD, rYE, rYF, rYG, rYH, rYI⟩ := hR'
    rw [wY_take_67]
    dsimp only
    have e1 : (120 : Int32) * nI p = nI (120 * p) := pk_mul 120 p
    have e2 : (24 : Int32) * nI i = nI (24 * i) := pk_mul 24 i
    have e3 : nI (120 * p + 24 * i) + 24 = nI (120 * p + 24 * i + 24) := nI_add _ 24
    have ev : cYH (120 * p + 24 * i + 24 + k) = nI (h 7 (120 * p + (24 * i + k) + 24)) := by
      rw [rYH]
      show nI (if 120 * p ≤ 120 * p + 24 * i + 24 + k ∧ 120 * p + 24 * i + 24 + k < 120 * p + (24 * i + k) then h 7 (120 * p + 24 * i + 24 + k + 24) else h 7 (120 * p + 24 * i + 24 + k)) = _
      rw [if_neg (by omega)]
      congr 2; omega
    rw [e1, e2, nI_add, e3, nI_add, nI_add, nI_clamp (by omega : 120 * p + 24 * i + 24 + k < 2 ^ 31), nI_clamp (by omega : 120 * p + 24 * i + k < 2 ^ 31), ev, Nat.add_assoc (120 * p) (24 * i) k]
    refine br_f (nI_ge (b := 24) (by omega) (by decide)) ⟨vp_in_nI (by omega) (by decide), vp_in_nI (by omega) (by decide), nm_e (nm_r (nI_1 k) ?_)⟩
    have h2 := ly_uYH (120 * p + (24 * i + k)) (h 7 (120 * p + (24 * i + k) + 24)) hR
    rw [ly_tf_H] at h2
    exact ih (k + 1) m (by omega) (by omega) h2
theorem ly_32 {post : Int32 → SY → Prop} {h : Nat → Nat → Nat} {p : Nat} {x2 : Int32} (hp : p < 4) (hw : h 5 p ≤ 4) (H : ∀ u', ly_R (ly_tf h p (h 5 p) (24 * h 5 p)) u' → post x2 u') : ∀ (r i n : Nat) {cYA cYB cYC cYD cYE cYF cYG cYH cYI : Nat → Int32}, i + r = h 5 p → r < n → ly_R (ly_tf h p i (24 * i)) (cYA, cYB, cYC, cYD, cYE, cYF, cYG, cYH, cYI) → wY_take_32 post (nI p) x2 n (nI i) cYA cYB cYC cYD cYE cYF cYG cYH cYI := by
  intro r
  induction r with
  | zero =>
    intro i n cYA cYB cYC cYD cYE cYF cYG cYH cYI hi hn hR
    obtain ⟨m, rfl⟩ : ∃ m, n = m + 1 := ⟨n - 1, by omega⟩
    have hR' := hR
    obtain ⟨rYA, rYB, rYC, rYD, rYE, rYF, rYG, rYH, rYI⟩ := hR'
    rw [wY_take_32]
    dsimp only
    have ev : cYF p = nI (h 5 p) := rYF p
    rw [nI_clamp (by omega : p < 2 ^ 31), ev]
    obtain rfl : i = h 5 p := by omega
    exact ⟨vp_in_nI hp (by decide), br_t (nI_le (Nat.le_refl _) (by omega)) (H _ hR)⟩
  | succ r ih =>
    intro i n cYA cYB cYC cYD cYE cYF cYG cYH cYI hi hn hR
    obtain ⟨m, rfl⟩ : ∃ m, n = m + 1 := ⟨n - 1, by omega⟩
    have hR' := hR
    obtain ⟨rYA, rYB, rYC, rYD, rYE, rYF, rYG, rYH, rYI⟩ := hR'
    rw [wY_take_32]
    dsimp only
    have ev : cYF p = nI (h 5 p) := rYF p
    have e1 : (5 : Int32) * nI p = nI (5 * p) := pk_mul 5 p
    have ed : cYG (5 * p + i + 1) = nI (h 6 (5 * p + i + 1)) := by
      rw [rYG]
      show nI (if 5 * p ≤ 5 * p + i + 1 ∧ 5 * p + i + 1 < 5 * p + i then h 6 (5 * p + i + 1 + 1) else h 6 (5 * p + i + 1)) = _
      rw [if_neg (by omega)]
    rw [nI_clamp (by omega : p < 2 ^ 31), ev, e1, nI_add, nI_1 (5 * p + i), nI_clamp (by omega : 5 * p + i + 1 < 2 ^ 31), nI_clamp (by omega : 5 * p + i < 2 ^ 31), ed]
    refine ⟨vp_in_nI hp (by decide), br_f (nI_ge (by omega) (by omega)) ⟨vp_in_nI (by omega) (by decide), vp_in_nI (by omega) (by decide), nm_e ⟨25, ?_⟩⟩⟩
    have h2 := ly_uYG (5 * p + i) (h 6 (5 * p + i + 1)) hR
    rw [ly_tf_G] at h2
    exact ly_67 hp (by omega) (fun hR7 => ih (i + 1) m (by omega) (by omega) hR7) 24 0 25 rfl (by decide) h2
def ly_tk (h : Nat → Nat → Nat) (p : Nat) : Nat → Nat → Nat := ly_tf (ls_up h 5 p (h 5 p - 1)) p (h 5 p - 1) (24 * (h 5 p - 1))
theorem ly_take {post : Int32 → SY → Prop} {h : Nat → Nat → Nat} {u : SY} {p : Nat} (hR : ly_R h u) (hp : p < 4) (h0 : 0 < h 5 p) (h5 : h 5 p ≤ 5) (H : ∀ u', ly_R (ly_tk h p) u' → post (nI (h 6 (5 * p))) u') : wpY_take post u (nI p) := by
  have hR' := hR
  obtain ⟨cYA, cYB, cYC, cYD, cYE, cYF, cYG, cYH, cYI⟩ := u
  obtain ⟨rYA, rYB, rYC, rYD, rYE, rYF, rYG, rYH, rYI⟩ := hR'
  unfold wpY_take
  dsimp only
  refine ly_hy (i := 0) hR hp h0 h5 (br_f (by decide) ?_)
  have e1 : (5 : Int32) * nI p = nI (5 * p) := pk_mul 5 p
  have e2 : nI (h 5 p) - 1 = nI (h 5 p - 1) := pk_sub (b := 1) h0
  rw [e1, nI_clamp (by omega : 5 * p < 2 ^ 31), nI_clamp (by omega : p < 2 ^ 31), rYG, rYF, e2]
  refine ⟨vp_in_nI (by omega) (by decide), nm_e ⟨vp_in_nI hp (by decide), vp_in_nI hp (by decide), nm_e ⟨h 5 p - 1 + 1, ?_⟩⟩⟩
  have hF : ls_up h 5 p (h 5 p - 1) 5 p = h 5 p - 1 := ls_up_s h 5 p _
  refine ly_32 (h := ls_up h 5 p (h 5 p - 1)) hp (by rw [hF]; omega) ?_ (h 5 p - 1) 0 _ (by rw [hF]; omega) (by omega) (by rw [ly_tf_0]; exact ly_uYF _ _ hR)
  intro u' hu
  rw [hF] at hu
  exact H _ hu
