/-! the reference's settle -/
def ly_c1 (h : Nat → Nat → Nat) (s p : Nat) (j : Nat) : Nat → Nat → Nat := fun f x =>
  if f = 7 then (if 120 * p + 24 * h 5 p ≤ x ∧ x < 120 * p + 24 * h 5 p + j then h 4 (192 * s + (x - (120 * p + 24 * h 5 p))) else h 7 x)
  else ls_up h 6 (5 * p + h 5 p) (h 3 (8 * s)) f x
theorem ly_c1_0 (h : Nat → Nat → Nat) (s p : Nat) : ly_c1 h s p 0 = ls_up h 6 (5 * p + h 5 p) (h 3 (8 * s)) := by
  funext f x
  unfold ly_c1
  split
  · next e => subst e; rw [if_neg (by omega)]; rfl
  · rfl
theorem ly_c1_s (h : Nat → Nat → Nat) (s p j : Nat) : ls_up (ly_c1 h s p j) 7 (120 * p + 24 * h 5 p + j) (h 4 (192 * s + j)) = ly_c1 h s p (j + 1) := by
  funext f x
  unfold ly_c1
  by_cases e : f = 7
  · subst e
    show (if x = 120 * p + 24 * h 5 p + j then h 4 (192 * s + j) else (if 120 * p + 24 * h 5 p ≤ x ∧ x < 120 * p + 24 * h 5 p + j then h 4 (192 * s + (x - (120 * p + 24 * h 5 p))) else h 7 x)) = (if 120 * p + 24 * h 5 p ≤ x ∧ x < 120 * p + 24 * h 5 p + (j + 1) then h 4 (192 * s + (x - (120 * p + 24 * h 5 p))) else h 7 x)
    by_cases h1 : x = 120 * p + 24 * h 5 p + j
    · rw [if_pos h1, if_pos (by omega)]
      congr 1; omega
    · rw [if_neg h1]
      by_cases h2 : 120 * p + 24 * h 5 p ≤ x ∧ x < 120 * p + 24 * h 5 p + j
      · rw [if_pos h2, if_pos (by omega)]
      · rw [if_neg h2, if_neg (by omega)]
  · simp [ls_up, e]
def ly_sf (h : Nat → Nat → Nat) (s i t : Nat) : Nat → Nat → Nat := fun f x =>
  if f = 3 then (if 8 * s ≤ x ∧ x < 8 * s + i then h 3 (x + 1) else h 3 x)
  else if f = 4 then (if 192 * s ≤ x ∧ x < 192 * s + t then h 4 (x + 24) else h 4 x) else h f x
theorem ly_sf_0 (h : Nat → Nat → Nat) (s : Nat) : ly_sf h s 0 (24 * 0) = h := by
  funext f x
  unfold ly_sf
  split
  · next e => subst e; exact if_neg (by omega)
  · split
    · next e => subst e; exact if_neg (by omega)
    · rfl
theorem ly_sf_D (h : Nat → Nat → Nat) (s i t : Nat) : ls_up (ly_sf h s i t) 3 (8 * s + i) (h 3 (8 * s + i + 1)) = ly_sf h s (i + 1) t := by
  funext f x
  by_cases e : f = 3
  · subst e
    show (if x = 8 * s + i then h 3 (8 * s + i + 1) else (if 8 * s ≤ x ∧ x < 8 * s + i then h 3 (x + 1) else h 3 x)) = (if 8 * s ≤ x ∧ x < 8 * s + (i + 1) then h 3 (x + 1) else h 3 x)
    by_cases h1 : x = 8 * s + i
    · rw [if_pos h1, if_pos (by omega), h1]
    · rw [if_neg h1]
      by_cases h2 : 8 * s ≤ x ∧ x < 8 * s + i
      · rw [if_pos h2, if_pos (by omega)]
      · rw [if_neg h2, if_neg (by omega)]
  · simp [ls_up, ly_sf, e]
theorem ly_sf_E (h : Nat → Nat → Nat) (s i t : Nat) : ls_up (ly_sf h s i t) 4 (192 * s + t) (h 4 (192 * s + t + 24)) = ly_sf h s i (t + 1) := by
  funext f x
  by_cases e : f = 4
  · subst e
    show (if x = 192 * s + t then h 4 (192 * s + t + 24) else (if 192 * s ≤ x ∧ x < 192 * s + t then h 4 (x + 24) else h 4 x)) = (if 192 * s ≤ x ∧ x < 192 * s + (t + 1) then h 4 (x + 24) else h 4 x)
    by_cases h1 : x = 192 * s + t
    · rw [if_pos h1, if_pos (by omega), h1]
    · rw [if_neg h1]
      by_cases h2 : 192 * s ≤ x ∧ x < 192 * s + t
      · rw [if_pos h2, if_pos (by omega)]
      · rw [if_neg h2, if_neg (by omega)]
  · by_cases e2 : f = 3
    · subst e2; rfl
    · simp [ls_up, ly_sf, e, e2]
def ly_hA (h : Nat → Nat → Nat) (s p : Nat) : Nat → Nat → Nat := ls_up (ls_up (ls_up (ly_c1 h s p 24) 5 p (h 5 p + 1)) 8 p (h 8 p + 1)) 2 s (h 2 s - 1)
theorem ly_hA_mv (h : Nat → Nat → Nat) (s p : Nat) : ly_sf (ly_hA h s p) s (h 2 s - 1) (24 * (h 2 s - 1)) = ly_mv h s p := by
  funext f x
  by_cases e1 : f = 6
  · subst e1; rfl
  by_cases e2 : f = 7
  · subst e2; rfl
  by_cases e3 : f = 5
  · subst e3; rfl
  by_cases e4 : f = 8
  · subst e4; rfl
  by_cases e5 : f = 2
  · subst e5; rfl
  by_cases e6 : f = 3
  · subst e6; rfl
  by_cases e7 : f = 4
  · subst e7; rfl
  simp [ly_sf, ly_hA, ly_mv, ly_c1, ls_up, e1, e2, e3, e4, e5, e6, e7]
theorem ly_145 {post : SY → Prop} {J105 : Int32 → (Nat → Int32) → (Nat → Int32) → (Nat → Int32) → (Nat → Int32) → (Nat → Int32) → (Nat → Int32) → (Nat → Int32) → (Nat → Int32) → (Nat → Int32) → Prop} {h : Nat → Nat → Nat} {s i : Nat} (hs : s < 4) (hi : i < 7)
    (K : ∀ {cYA7 cYB7 cYC7 cYD7 cYE7 cYF7 cYG7 cYH7 cYI7 : Nat → Int32}, ly_R (ly_sf h s (i + 1) (24 * (i + 1))) (cYA7, cYB7, cYC7, cYD7, cYE7, cYF7, cYG7, cYH7, cYI7) → J105 (nI (i + 1)) cYA7 cYB7 cYC7 cYD7 cYE7 cYF7 cYG7 cYH7 cYI7) : ∀ (r k n : Nat) {cYA cYB cYC cYD cYE cYF cYG cYH cYI : Nat → Int32}, k + r = 24 → r < n → ly_R (ly_sf h s (i + 1) (24 * i + k)) (cYA, cYB, cYC, cYD, cYE, cYF, cYG, cYH, cYI) → wY_move_145 post J105 (nI s) (nI i) n (nI k) cYA cYB cYC cYD cYE cYF cYG cYH cYI := by
  intro r
  induction r with
  | zero =>
    intro k n cYA cYB cYC cYD cYE cYF cYG cYH cYI hk hn hR
    obtain ⟨m, rfl⟩ : ∃ m, n = m + 1 := ⟨n - 1, by omega⟩
    obtain rfl : k = 24 := by omega
    rw [wY_move_145]
    dsimp only
    exact br_t (nI_le (a := 24) (Nat.le_refl _) (by decide)) (nm_r (nI_1 i) (K hR))
  | succ r ih =>
    intro k n cYA cYB cYC cYD cYE cYF cYG cYH cYI hk hn hR
    obtain ⟨m, rfl⟩ : ∃ m, n = m + 1 := ⟨n - 1, by omega⟩
    have hR' := hR
    obtain ⟨rYA, rYB, rYC, rYD, rYE, rYF, rYG, rYH, rYI⟩ := hR'
    rw [wY_move_145]
    dsimp only
    have e1 : (192 : Int32) * nI s = nI (192 * s) := pk_mul 192 s
    have e2 : (24 : Int32) * nI i = nI (24 * i) := pk_mul 24 i
    have e3 : nI (192 * s + 24 * i) + 24 = nI (192 * s + 24 * i + 24) := nI_add _ 24
    have ev : cYE (192 * s + 24 * i + 24 + k) = nI (h 4 (192 * s + (24 * i + k) + 24)) := by
      rw [rYE]
      show nI (if 192 * s ≤ 192 * s + 24 * i + 24 + k ∧ 192 * s + 24 * i + 24 + k < 192 * s + (24 * i + k) then h 4 (192 * s + 24 * i + 24 + k + 24) else h 4 (192 * s + 24 * i + 24 + k)) = _
      rw [if_neg (by omega)]
      congr 2; omega
    rw [e1, e2, nI_add, e3, nI_add, nI_add, nI_clamp (by omega : 192 * s + 24 * i + 24 + k < 2 ^ 31), nI_clamp (by omega : 192 * s + 24 * i + k < 2 ^ 31), ev, Nat.add_assoc (192 * s) (24 * i) k]
    refine br_f (nI_ge (b := 24) (by omega) (by decide)) ⟨vp_in_nI (by omega) (by decide), vp_in_nI (by omega) (by decide), nm_e (nm_r (nI_1 k) ?_)⟩
    have h2 := ly_uYE (192 * s + (24 * i + k)) (h 4 (192 * s + (24 * i + k) + 24)) hR
    rw [ly_sf_E] at h2
    exact ih (k + 1) m (by omega) (by omega) h2
theorem ly_105 {post : SY → Prop} {h : Nat → Nat → Nat} {s : Nat} (hs : s < 4) (hw : h 2 s ≤ 7) (H : ∀ u', ly_R (ly_sf h s (h 2 s) (24 * h 2 s)) u' → post u') : ∀ (r i n : Nat) {cYA cYB cYC cYD cYE cYF cYG cYH cYI : Nat → Int32}, i + r = h 2 s → r < n → ly_R (ly_sf h s i (24 * i)) (cYA, cYB, cYC, cYD, cYE, cYF, cYG, cYH, cYI) → wY_move_105 post (nI s) n (nI i) cYA cYB cYC cYD cYE cYF cYG cYH cYI := by
  intro r
  induction r with
  | zero =>
    intro i n cYA cYB cYC cYD cYE cYF cYG cYH cYI hi hn hR
    obtain ⟨m, rfl⟩ : ∃ m, n = m + 1 := ⟨n - 1, by omega⟩
    have hR' := hR
    obtain ⟨rYA, rYB, rYC, rYD, rYE, rYF, rYG, rYH, rYI⟩ := hR'
    rw [wY_move_105]
    dsimp only
    have ev : cYC s = nI (h 2 s) := rYC s
    rw [nI_clamp (by omega : s < 2 ^ 31), ev]
    obtain rfl : i = h 2 s := by omega
    exact ⟨vp_in_nI hs (by decide), br_t (nI_le (Nat.le_refl _) (by omega)) (H _ hR)⟩
  | succ r ih =>
    intro i n cYA cYB cYC cYD cYE cYF cYG cYH cYI hi hn hR
    obtain ⟨m, rfl⟩ : ∃ m, n = m + 1 := ⟨n - 1, by omega⟩
    have hR' := hR
    obtain ⟨rYA, rYB, rYC, rYD, rYE, rYF, rYG, rYH, rYI⟩ := hR'
    rw [wY_move_105]
    dsimp only
    have ev : cYC s = nI (h 2 s) := rYC s
    have e1 : (8 : Int32) * nI s = nI (8 * s) := pk_mul 8 s
    have ed : cYD (8 * s + i + 1) = nI (h 3 (8 * s + i + 1)) := by
      rw [rYD]
      show nI (if 8 * s ≤ 8 * s + i + 1 ∧ 8 * s + i + 1 < 8 * s + i then h 3 (8 * s + i + 1 + 1) else h 3 (8 * s + i + 1)) = _
      rw [if_neg (by omega)]
    rw [nI_clamp (by omega : s < 2 ^ 31), ev, e1, nI_add, nI_1 (8 * s + i), nI_clamp (by omega : 8 * s + i + 1 < 2 ^ 31), nI_clamp (by omega : 8 * s + i < 2 ^ 31), ed]
    refine ⟨vp_in_nI hs (by decide), br_f (nI_ge (by omega) (by omega)) ⟨vp_in_nI (by omega) (by decide), vp_in_nI (by omega) (by decide), nm_e ⟨25, ?_⟩⟩⟩
    have h2 := ly_uYD (8 * s + i) (h 3 (8 * s + i + 1)) hR
    rw [ly_sf_D] at h2
    exact ly_145 hs (by omega) (fun hR7 => ih (i + 1) m (by omega) (by omega) hR7) 24 0 25 rfl (by decide) h2
theorem ly_29 {post : SY → Prop} {h : Nat → Nat → Nat} {s p : Nat} (hs : s < 4) (hp : p < 4) (hw : 0 < h 2 s) (hw8 : h 2 s ≤ 8) (hc : h 5 p < 5) (H : ∀ u', ly_R (ly_mv h s p) u' → post u') : ∀ (r j n : Nat) {cYA cYB cYC cYD cYE cYF cYG cYH cYI : Nat → Int32}, j + r = 24 → r < n → ly_R (ly_c1 h s p j) (cYA, cYB, cYC, cYD, cYE, cYF, cYG, cYH, cYI) →
    wY_move_29 post (nI s) (nI p) (nI (h 5 p)) n (nI j) cYA cYB cYC cYD cYE cYF cYG cYH cYI := by
  intro r
  induction r with
  | zero =>
    intro j n cYA cYB cYC cYD cYE cYF cYG cYH cYI hj hn hR
    obtain ⟨m, rfl⟩ : ∃ m, n = m + 1 := ⟨n - 1, by omega⟩
    obtain rfl : j = 24 := by omega
    have hR' := hR
    obtain ⟨rYA, rYB, rYC, rYD, rYE, rYF, rYG, rYH, rYI⟩ := hR'
    rw [wY_move_29]
    dsimp only
    have e1 : cYF p = nI (h 5 p) := rYF p
    have e2 : cYI p = nI (h 8 p) := rYI p
    have e3 : cYC s = nI (h 2 s) := rYC s
    have e4 : nI (h 2 s) - 1 = nI (h 2 s - 1) := pk_sub (b := 1) (by omega)
    have hvp : ∀ {N : Nat}, N = 4 → vp_in (nI p) N := fun z => by subst z; exact vp_in_nI hp (by decide)
    have hvs : ∀ {N : Nat}, N = 4 → vp_in (nI s) N := fun z => by subst z; exact vp_in_nI hs (by decide)
    rw [nI_clamp (by omega : p < 2 ^ 31), nI_clamp (by omega : s < 2 ^ 31), e1, e2, e3, nI_1, nI_1, e4]
    refine br_t (nI_le (a := 24) (Nat.le_refl _) (by decide)) ⟨hvp rfl, hvp rfl, nm_e ⟨hvp rfl, hvp rfl, nm_e ⟨hvs rfl, hvs rfl, nm_e ⟨h 2 s - 1 + 1, ?_⟩⟩⟩⟩
    have hR2 : ly_R (ly_hA h s p) _ := ly_uYC s (h 2 s - 1) (ly_uYI p (h 8 p + 1) (ly_uYF p (h 5 p + 1) hR))
    have hAC : ly_hA h s p 2 s = h 2 s - 1 := if_pos rfl
    refine ly_105 (h := ly_hA h s p) hs (by rw [hAC]; omega) ?_ (h 2 s - 1) 0 _ (by rw [hAC]; omega) (by omega) (by rw [ly_sf_0]; exact hR2)
    intro u' hu
    rw [hAC, ly_hA_mv] at hu
    exact H _ hu
  | succ r ih =>
    intro j n cYA cYB cYC cYD cYE cYF cYG cYH cYI hj hn hR
    obtain ⟨m, rfl⟩ : ∃ m, n = m + 1 := ⟨n - 1, by omega⟩
    have hR' := hR
    obtain ⟨rYA, rYB, rYC, rYD, rYE, rYF, rYG, rYH, rYI⟩ := hR'
    rw [wY_move_29]
    dsimp only
    have e1 : (192 : Int32) * nI s = nI (192 * s) := pk_mul 192 s
    have e2 : (120 : Int32) * nI p = nI (120 * p) := pk_mul 120 p
    have e3 : (24 : Int32) * nI (h 5 p) = nI (24 * h 5 p) := pk_mul 24 _
    have ev : cYE (192 * s + j) = nI (h 4 (192 * s + j)) := rYE _
    rw [e1, e2, e3, nI_add, nI_add, nI_add, nI_clamp (by omega : 192 * s + j < 2 ^ 31), nI_clamp (by omega : 120 * p + 24 * h 5 p + j < 2 ^ 31), ev]
    refine br_f (nI_ge (b := 24) (by omega) (by decide)) ⟨vp_in_nI (by omega) (by decide), vp_in_nI (by omega) (by decide), nm_e (nm_r (nI_1 j) ?_)⟩
    have h2 := ly_uYH (120 * p + 24 * h 5 p + j) (h 4 (192 * s + j)) hR
    rw [ly_c1_s] at h2
    exact ih (j + 1) m (by omega) (by omega) h2
theorem ly_move {post : SY → Prop} {h : Nat → Nat → Nat} {u : SY} {s p : Nat} (hR : ly_R h u) (hs : s < 4) (hp : p < 4) (hw : 0 < h 2 s) (hw8 : h 2 s ≤ 8) (hc : h 5 p < 5) (H : ∀ u', ly_R (ly_mv h s p) u' → post u') : wpY_move post u (nI s) (nI p) := by
  have hR' := hR
  obtain ⟨cYA, cYB, cYC, cYD, cYE, cYF, cYG, cYH, cYI⟩ := u
  obtain ⟨rYA, rYB, rYC, rYD, rYE, rYF, rYG, rYH, rYI⟩ := hR'
  unfold wpY_move
  dsimp only
  have e1 : (8 : Int32) * nI s = nI (8 * s) := pk_mul 8 s
  have e2 : (5 : Int32) * nI p = nI (5 * p) := pk_mul 5 p
  rw [nI_clamp (by omega : p < 2 ^ 31), rYF, e1, e2, nI_clamp (by omega : 8 * s < 2 ^ 31), rYD]
  refine ⟨vp_in_nI hp (by decide), nm_e ⟨vp_in_nI (by omega) (by decide), ?_⟩⟩
  rw [nI_add, nI_clamp (by omega : 5 * p + h 5 p < 2 ^ 31)]
  refine ⟨vp_in_nI (by omega) (by decide), nm_e ⟨25, ?_⟩⟩
  exact ly_29 hs hp hw hw8 hc H 24 0 25 rfl (by decide) (by rw [ly_c1_0]; exact ly_uYG _ _ hR)
theorem ly_target {post : Int32 → Prop} {u : SY} {s : Nat} (hs : s < 4) (H : post (nI (ls_pr s))) : wpY_target post u (nI s) := by
  obtain ⟨cYA, cYB, cYC, cYD, cYE, cYF, cYG, cYH, cYI⟩ := u
  unfold wpY_target
  dsimp only
  rw [lx_mod2 hs]
  refine ⟨by decide, pk_eq (s % 2) 0 (fun h => ?_) (fun h => ?_) rfl rfl (by omega) (by omega)⟩
  · rw [nI_1]
    have e : ls_pr s = s + 1 := by unfold ls_pr; omega
    rw [← e]; exact H
  · have e1 : nI s - 1 = nI (s - 1) := pk_sub (b := 1) (by omega)
    have e : ls_pr s = s - 1 := by unfold ls_pr; omega
    rw [e1, ← e]; exact H
def ly_su (mv : Nat → Nat) : Nat := mv 0 + mv 1 + mv 2 + mv 3
theorem ly_su_s {mv : Nat → Nat} {s : Nat} (hs : s < 4) : ly_su (fun t => if t = s then mv t + 1 else mv t) = ly_su mv + 1 := by
  unfold ly_su
  rcases (by omega : s = 0 ∨ s = 1 ∨ s = 2 ∨ s = 3) with e | e | e | e <;> subst e <;> simp <;> omega
theorem ly_15 {post : Int32 → SY → Prop} {J4 : Int32 → Int32 → (Nat → Int32) → (Nat → Int32) → (Nat → Int32) → (Nat → Int32) → (Nat → Int32) → (Nat → Int32) → (Nat → Int32) → (Nat → Int32) → (Nat → Int32) → Prop} {h0 : Nat → Nat → Nat} {s : Nat} {mv0 : Nat → Nat} (h8 : ∀ t, t < 4 → h0 2 t ≤ 8) (hs : s < 4)
    (K : ∀ (h' : Nat → Nat → Nat) (mv' : Nat → Nat) {cYA7 cYB7 cYC7 cYD7 cYE7 cYF7 cYG7 cYH7 cYI7 : Nat → Int32}, (∀ t, t < 4 → ly_S h0 h' mv' t) → (∀ t, t ≠ s → mv' t = mv0 t) → (h' 2 s = 0 ∨ 5 ≤ h' 5 (ls_pr s)) → (h' 0 = h0 0 ∧ h' 1 = h0 1) → ly_R h' (cYA7, cYB7, cYC7, cYD7, cYE7, cYF7, cYG7, cYH7, cYI7) → J4 (nI (ly_su mv')) (nI (s + 1)) cYA7 cYB7 cYC7 cYD7 cYE7 cYF7 cYG7 cYH7 cYI7) :
    ∀ (r n : Nat) (h : Nat → Nat → Nat) (mv : Nat → Nat) {cYA cYB cYC cYD cYE cYF cYG cYH cYI : Nat → Int32}, h 2 s = r → r < n → (∀ t, t < 4 → ly_S h0 h mv t) → (∀ t, t ≠ s → mv t = mv0 t) → (h 0 = h0 0 ∧ h 1 = h0 1) → ly_R h (cYA, cYB, cYC, cYD, cYE, cYF, cYG, cYH, cYI) → wY_settle_15 post J4 (nI s) (nI (ls_pr s)) n (nI (ly_su mv)) cYA cYB cYC cYD cYE cYF cYG cYH cYI := by
  intro r
  induction r with
  | zero =>
    intro n h mv cYA cYB cYC cYD cYE cYF cYG cYH cYI hr hn hS hm hf hR
    obtain ⟨m, rfl⟩ : ∃ m, n = m + 1 := ⟨n - 1, by omega⟩
    have hR' := hR
    obtain ⟨rYA, rYB, rYC, rYD, rYE, rYF, rYG, rYH, rYI⟩ := hR'
    rw [wY_settle_15]
    dsimp only
    rw [nI_clamp (by omega : s < 2 ^ 31), rYC, hr]
    exact ⟨vp_in_nI hs (by decide), br_t (nI_le (a := 0) (Nat.le_refl _) (by decide)) (nm_r (nI_1 s) (K h mv hS hm (Or.inl hr) hf hR))⟩
  | succ r ih =>
    intro n h mv cYA cYB cYC cYD cYE cYF cYG cYH cYI hr hn hS hm hf hR
    obtain ⟨m, rfl⟩ : ∃ m, n = m + 1 := ⟨n - 1, by omega⟩
    have hR' := hR
    obtain ⟨rYA, rYB, rYC, rYD, rYE, rYF, rYG, rYH, rYI⟩ := hR'
    have hps := ls_pr_lt hs
    have h8s := h8 s hs
    have hs1 := (hS s hs).1
    have hs4 := (hS s hs).2.2.2.1
    rw [wY_settle_15]
    dsimp only
    rw [nI_clamp (by omega : s < 2 ^ 31), nI_clamp (by omega : ls_pr s < 2 ^ 31), rYC, rYF]
    refine ⟨vp_in_nI hs (by decide), pk_le (h 2 s) 0 (fun z => by omega) (fun z => ⟨vp_in_nI hps (by decide), pk_le 5 (h 5 (ls_pr s)) (fun z2 => nm_r (nI_1 s) (K h mv hS hm (Or.inr z2) hf hR)) (fun z2 => ?_) rfl rfl (by omega) (by omega)⟩) rfl rfl (by omega) (by omega)⟩
    refine ly_move hR hs hps (by omega) (by omega) z2 fun u' hR1 => ?_
    obtain ⟨cYA1, cYB1, cYC1, cYD1, cYE1, cYF1, cYG1, cYH1, cYI1⟩ := u'
    refine nm_r (nI_1 _) ?_
    rw [← ly_su_s hs]
    refine ih m _ _ ?_ (by omega) (ly_mv_S h8 hS hs (by omega) z2) (fun t ht => ?_) hf hR1
    · rw [ly_mv_C, if_pos rfl]; omega
    · rw [if_neg ht]; exact hm t ht
theorem ly_4 {post : Int32 → SY → Prop} {h0 : Nat → Nat → Nat} (h8 : ∀ t, t < 4 → h0 2 t ≤ 8)
    (H : ∀ h' mv' u', (∀ t, t < 4 → ly_S h0 h' mv' t) → (∀ t, t < 4 → h' 2 t = 0 ∨ 5 ≤ h' 5 (ls_pr t)) → (h' 0 = h0 0 ∧ h' 1 = h0 1) → ly_R h' u' → post (nI (ly_su mv')) u') :
    ∀ (r s n : Nat) (h : Nat → Nat → Nat) (mv : Nat → Nat) {cYA cYB cYC cYD cYE cYF cYG cYH cYI : Nat → Int32}, s + r = 4 → r < n → (∀ t, t < 4 → ly_S h0 h mv t) → (∀ t, t < s → h 2 t = 0 ∨ 5 ≤ h 5 (ls_pr t)) → (h 0 = h0 0 ∧ h 1 = h0 1) → ly_R h (cYA, cYB, cYC, cYD, cYE, cYF, cYG, cYH, cYI) → wY_settle_4 post n (nI (ly_su mv)) (nI s) cYA cYB cYC cYD cYE cYF cYG cYH cYI := by
  intro r
  induction r with
  | zero =>
    intro s n h mv cYA cYB cYC cYD cYE cYF cYG cYH cYI hs hn hS hd hf hR
    obtain ⟨m, rfl⟩ : ∃ m, n = m + 1 := ⟨n - 1, by omega⟩
    obtain rfl : s = 4 := by omega
    rw [wY_settle_4]
    dsimp only
    exact br_t (nI_le (a := 4) (Nat.le_refl _) (by decide)) (H h mv _ hS hd hf hR)
  | succ r ih =>
    intro s n h mv cYA cYB cYC cYD cYE cYF cYG cYH cYI hs hn hS hd hf hR
    obtain ⟨m, rfl⟩ : ∃ m, n = m + 1 := ⟨n - 1, by omega⟩
    have hs4 : s < 4 := by omega
    rw [wY_settle_4]
    dsimp only
    refine br_f (nI_ge (b := 4) hs4 (by decide)) (ly_target hs4 ⟨h 2 s + 1, ?_⟩)
    refine ly_15 (mv0 := mv) h8 hs4 ?_ (h 2 s) _ h mv rfl (by omega) hS (fun _ _ => rfl) hf hR
    intro h' mv' cYA7 cYB7 cYC7 cYD7 cYE7 cYF7 cYG7 cYH7 cYI7 hS' hm' hdone hf' hR7
    refine ih (s + 1) m h' mv' (by omega) (by omega) hS' (fun t ht => ?_) hf' hR7
    by_cases e : t = s
    · rw [e]; exact hdone
    · have e1 := (hS t (by omega))
      have e2 := (hS' t (by omega))
      have e3 := hm' t e
      have e4 := hd t (by omega)
      have a1 := e1.1; have a2 := e2.1; have a3 := e1.2.1; have a4 := e2.2.1
      omega
theorem ly_settle {post : Int32 → SY → Prop} {h0 : Nat → Nat → Nat} {u : SY} (hR : ly_R h0 u) (h8 : ∀ t, t < 4 → h0 2 t ≤ 8) (h5 : ∀ t, t < 4 → h0 5 t ≤ 5)
    (H : ∀ h' mv' u', (∀ t, t < 4 → ly_S h0 h' mv' t) → (∀ t, t < 4 → h' 2 t = 0 ∨ 5 ≤ h' 5 (ls_pr t)) → (h' 0 = h0 0 ∧ h' 1 = h0 1) → ly_R h' u' → post (nI (ly_su mv')) u') : wpY_settle post u := by
  obtain ⟨cYA, cYB, cYC, cYD, cYE, cYF, cYG, cYH, cYI⟩ := u
  refine ⟨5, ly_4 h8 H 4 0 5 h0 (fun _ => 0) rfl (by decide) ?_ (fun t ht => absurd ht (Nat.not_lt_zero t)) ⟨rfl, rfl⟩ hR⟩
  intro t ht
  refine ⟨rfl, rfl, rfl, h5 _ (ls_pr_lt ht), fun i _ => ⟨rfl, fun _ _ => rfl⟩, fun i _ => ⟨rfl, fun _ _ => rfl⟩, fun i hi => absurd hi (Nat.not_lt_zero i)⟩
