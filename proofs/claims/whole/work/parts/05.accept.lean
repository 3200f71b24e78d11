/-! a message is accepted; a piece is read -/
def ls_slot (g : Nat → Nat → Nat) (P : Nat) : Nat := P * 5 + (g 6 P + g 7 P) % 5
def ls_acc (g : Nat → Nat → Nat) (P q : Nat) : Nat → Nat → Nat := fun f i =>
  if f = 10 then (if ls_slot g P * 24 ≤ i ∧ i < ls_slot g P * 24 + (g 19 q - 6) then g 22 (q * 30 + 4 + (i - ls_slot g P * 24)) else g 10 i)
  else ls_up (ls_up (ls_up g 9 (ls_slot g P) (g 19 q - 6)) 7 P (g 7 P + 1)) 8 P (g 8 P + 1) f i
theorem ls_acc_IL (g : Nat → Nat → Nat) (P q x : Nat) : ls_acc g P q 9 x = if x = ls_slot g P then g 19 q - 6 else g 9 x := rfl
theorem ls_acc_IB (g : Nat → Nat → Nat) (P q x : Nat) : ls_acc g P q 10 x = if ls_slot g P * 24 ≤ x ∧ x < ls_slot g P * 24 + (g 19 q - 6) then g 22 (q * 30 + 4 + (x - ls_slot g P * 24)) else g 10 x := rfl
theorem ls_acc_IC (g : Nat → Nat → Nat) (P q x : Nat) : ls_acc g P q 7 x = if x = P then g 7 P + 1 else g 7 x := rfl
theorem ls_acc_TT (g : Nat → Nat → Nat) (P q x : Nat) : ls_acc g P q 8 x = if x = P then g 8 P + 1 else g 8 x := rfl
theorem ls_acc_o (g : Nat → Nat → Nat) (P q f : Nat) (h1 : f ≠ 10) (h2 : f ≠ 9) (h3 : f ≠ 7) (h4 : f ≠ 8) : ls_acc g P q f = g f := by
  funext i
  simp [ls_acc, ls_up, h1, h2, h3, h4]
theorem ls_far {a c j w : Nat} (h : a ≠ c) (hj : j < 24) (hw : w ≤ 24) : ¬ (c * 24 ≤ a * 24 + j ∧ a * 24 + j < c * 24 + w) := by omega
theorem ls_acc_J {b g : Nat → Nat → Nat} {mv d : Nat → Nat} {P q : Nat} (B : ls_B b) (J : ls_J b g mv d) (hP : P < 4) (hD : ls_MD b g d q P (g 8 P)) (hI : g 7 P < 5) :
    ls_J b (ls_acc g P q) (fun s => if s = ls_pr P then mv s + 1 else mv s) d ∧ g 8 P = g 12 (ls_pr P) ∧ g 11 (ls_pr P) = 1 := by
  obtain ⟨m1, m2, m3, m4, m5, m6⟩ := hD
  have hs0 := ls_pr_lt hP
  obtain ⟨a1, a2, a3, a4, a5, a6, a7, a8, a9, a10, a11, a12, a13, a14, a15, a16⟩ := (J.1 (ls_pr P) hs0).1
  have hC0 := (J.1 (ls_pr P) hs0).2
  rw [ls_pr_pr] at a2 a6 a7 a14 a15 a16
  have en := a6 m1
  have hd : d (ls_pr P) = mv (ls_pr P) := by omega
  have hm : g 8 P - b 8 P = mv (ls_pr P) := by omega
  rw [hm] at m4 m5 m6
  have hL := B.2 (ls_sl b (ls_pr P) (mv (ls_pr P)))
  have hsz : g 19 q - 6 = b 4 (ls_sl b (ls_pr P) (mv (ls_pr P))) := by omega
  have hsl : ls_slot g P = ls_in b P (b 7 P + mv (ls_pr P)) := by
    unfold ls_slot ls_in
    rw [a16, a14]
  have hBP := B.1 P hP
  refine ⟨⟨?_, ?_, ?_, ?_, ?_, ?_⟩, by omega, m1⟩
  · intro s hs
    obtain ⟨b1, b2, b3, b4, b5, b6, b7, b8, b9, b10, b11, b12, b13, b14, b15, b16⟩ := (J.1 s hs).1
    obtain ⟨c1, c2⟩ := (J.1 s hs).2
    have f1 := ls_acc_IC g P q (ls_pr s)
    have f2 := ls_acc_TT g P q (ls_pr s)
    by_cases e : s = ls_pr P
    · have e2 : ls_pr s = P := by rw [e, ls_pr_pr]
      have f6 : (if s = ls_pr P then mv s + 1 else mv s) = mv s + 1 := if_pos e
      rw [if_pos e2] at f1 f2
      rw [← e] at a1 a2 a3 a4 a14 a15 hd m1 m4 m5 m6 hsz hsl en hL
      constructor
      · unfold ls_S
        dsimp only
        rw [f6, f1, f2]
        rw [e2] at b2 b6 b7 b14 b15 b16 ⊢
        exact ⟨by omega, by omega, by omega, by omega, fun z => absurd (m1.symm.trans z) (by decide), b6, b7, b8, b9, b10, b11, b12, b13, by omega, by omega, b16⟩
      · rw [e2] at c1 c2
        unfold ls_C
        dsimp only
        rw [f6, e2]
        constructor
        · intro i hi
          by_cases ei : i = mv s
          · subst ei
            rw [ls_acc_IL, ← hsl, if_pos rfl]
            refine ⟨hsz, fun j hj => ?_⟩
            rw [ls_acc_IB, if_pos (by omega)]
            rw [show ls_slot g P * 24 + j - ls_slot g P * 24 = j by omega]
            exact m6 j hj
          · have hne : ls_in b P (b 7 P + i) ≠ ls_slot g P := by
              rw [hsl]; unfold ls_in; omega
            obtain ⟨k1, k2⟩ := c1 i (by omega)
            rw [ls_acc_IL, if_neg hne]
            refine ⟨k1, fun j hj => ?_⟩
            have hL2 := B.2 (ls_sl b s i)
            rw [ls_acc_IB, if_neg (ls_far hne (by omega) (by omega))]
            exact k2 j hj
        · intro i hi
          have hne : ls_in b P i ≠ ls_slot g P := by
            rw [hsl]; unfold ls_in; omega
          obtain ⟨k1, k2⟩ := c2 i hi
          rw [ls_acc_IL, if_neg hne]
          refine ⟨k1, fun j hj => ?_⟩
          rw [ls_acc_IB, if_neg (ls_far hne (by omega) (by omega))]
          exact k2 j hj
    · have e2 : ls_pr s ≠ P := fun z => e (by rw [← z, ls_pr_pr])
      have f6 : (if s = ls_pr P then mv s + 1 else mv s) = mv s := if_neg e
      rw [if_neg e2] at f1 f2
      constructor
      · unfold ls_S
        dsimp only
        rw [f6, f1, f2]
        exact ⟨b1, b2, b3, b4, b5, b6, b7, b8, b9, b10, b11, b12, b13, b14, b15, b16⟩
      · unfold ls_C
        dsimp only
        rw [f6]
        constructor
        · intro i hi
          have hne : ls_in b (ls_pr s) (b 7 (ls_pr s) + i) ≠ ls_slot g P := by
            unfold ls_in ls_slot; omega
          obtain ⟨k1, k2⟩ := c1 i hi
          rw [ls_acc_IL, if_neg hne]
          refine ⟨k1, fun j hj => ?_⟩
          have hL2 := B.2 (ls_sl b s i)
          rw [ls_acc_IB, if_neg (ls_far hne (by omega) (by omega))]
          exact k2 j hj
        · intro i hi
          have hne : ls_in b (ls_pr s) i ≠ ls_slot g P := by
            unfold ls_in ls_slot; omega
          obtain ⟨k1, k2⟩ := c2 i hi
          rw [ls_acc_IL, if_neg hne]
          refine ⟨k1, fun j hj => ?_⟩
          rw [ls_acc_IB, if_neg (ls_far hne (by omega) (by omega))]
          exact k2 j hj
  · obtain ⟨y1, y2, y3, y4⟩ := J.2.1
    refine ⟨y1, fun i => ?_, y3, y4⟩
    rw [ls_acc_IB]
    split
    · exact y3 _
    · exact y2 _
  · exact J.2.2.1
  · exact J.2.2.2.1
  · exact J.2.2.2.2.1
  · exact J.2.2.2.2.2
theorem ls_OW_J {b g : Nat → Nat → Nat} {mv d : Nat → Nat} (P : Nat) (J : ls_J b g mv d) : ls_J b (ls_up g 14 P 1) mv d := by
  refine ls_J_of J ?_ rfl rfl rfl rfl rfl rfl rfl rfl
  intro s hs
  obtain ⟨b1, b2, b3, b4, b5, b6, b7, b8, b9, b10, b11, b12, b13, b14, b15, b16⟩ := (J.1 s hs).1
  refine ⟨b1, b2, b3, b4, b5, b6, b7, b8, b9, ?_, b11, b12, b13, b14, b15, b16⟩
  show (if s = P then 1 else g 14 s) ≤ 1
  split <;> omega
def ls_rp (g : Nat → Nat → Nat) (q : Nat) : Nat → Nat → Nat :=
  if g 22 (q * 30) = 1 then ls_up g 14 (ls_P g q) 1
  else if g 22 (q * 30) = 2 then ls_up (if ls_n g q = g 8 (ls_P g q) % 65536 ∧ g 7 (ls_P g q) < 5 then ls_acc g (ls_P g q) q else g) 14 (ls_P g q) 1
  else if g 22 (q * 30) = 3 then ls_rA g (ls_P g q) (ls_n g q) 0
  else if g 22 (q * 30) = 4 then ls_rA g (ls_P g q) (ls_n g q) 1
  else g
/-- the peer of s owes an answer that will be progress for s -/
def ls_del (g : Nat → Nat → Nat) (s : Nat) : Prop :=
  g 14 (ls_pr s) = 1 ∧ (g 11 s = 1 → g 8 (ls_pr s) = g 12 s + 1 ∨ (g 8 (ls_pr s) = g 12 s ∧ g 7 (ls_pr s) = 5))
def ls_lnk (f : Nat) : Prop := f = 16 ∨ f = 17 ∨ f = 18 ∨ f = 19 ∨ f = 20 ∨ f = 21 ∨ f = 22 ∨ f = 23 ∨ f = 24
def ls_snd (f : Nat) : Prop := f = 11 ∨ f = 12 ∨ f = 13 ∨ f = 15 ∨ f = 3 ∨ f = 2
/-- what reading place q does, for the rest of the proof -/
def ls_RD (b g g' : Nat → Nat → Nat) (mv d : Nat → Nat) (q : Nat) : Prop :=
  (∃ mv' d' : Nat → Nat, ls_J b g' mv' d' ∧ (∀ s, mv s ≤ mv' s) ∧ (∀ s, d s ≤ d' s)) ∧ (∀ s, g 11 s = 1 → g' 11 s = 1) ∧
  (∀ f, ls_lnk f → g' f = g f) ∧ (ls_pg g' < ls_pg g ∨ (ls_pg g' = ls_pg g ∧ ∀ f, ls_snd f → g' f = g f)) ∧
  (∀ p, g 14 p = 1 → g' 14 p = 1) ∧ (∀ p, g' 14 p = 1 → g 14 p = 1 ∨ g 22 (q * 30) = 1 ∨ g 22 (q * 30) = 2) ∧
  (∀ s, s < 4 → ls_del g s → ls_pg g' < ls_pg g ∨ ls_del g' s) ∧
  (∀ s, s < 4 → ls_P g q = ls_pr s → (g 22 (q * 30) = 1 ∨ g 22 (q * 30) = 2) → (g 11 s = 1 → g 22 (q * 30) = 2 ∧ ls_n g q = g 12 s) → ls_del g' s) ∧
  ((g 22 (q * 30) = 3 ∨ g 22 (q * 30) = 4) → g 13 (ls_P g q) = 0 →
    (g 11 (ls_P g q) = 1 → ls_n g q = g 12 (ls_P g q) + 1 ∨ (ls_n g q = g 12 (ls_P g q) ∧ g 22 (q * 30) = 4)) → ls_pg g' < ls_pg g)
theorem ls_rd_ask {b g : Nat → Nat → Nat} {mv d : Nat → Nat} {q : Nat} (J : ls_J b g mv d) (hk : g 22 (q * 30) = 1) :
    ls_RD b g (ls_up g 14 (ls_P g q) 1) mv d q := by
  refine ⟨⟨mv, d, ls_OW_J _ J, fun _ => Nat.le_refl _, fun _ => Nat.le_refl _⟩, fun _ h => h, ?_, Or.inr ⟨rfl, ?_⟩, ?_, fun _ _ => Or.inr (Or.inl hk), ?_, ?_, ?_⟩
  · intro f hf
    rcases hf with h | h | h | h | h | h | h | h | h <;> subst h <;> rfl
  · intro f hf
    rcases hf with h | h | h | h | h | h <;> subst h <;> rfl
  · intro p hp
    show (if p = ls_P g q then 1 else g 14 p) = 1
    split
    · rfl
    · exact hp
  · intro s _ h
    refine Or.inr ⟨?_, h.2⟩
    show (if ls_pr s = ls_P g q then 1 else g 14 (ls_pr s)) = 1
    split
    · rfl
    · exact h.1
  · intro s _ hP _ h
    refine ⟨?_, fun z => absurd (h z).1 (by omega)⟩
    show (if ls_pr s = ls_P g q then 1 else g 14 (ls_pr s)) = 1
    exact if_pos hP.symm
  · intro h; omega
theorem ls_rd_ans {b g : Nat → Nat → Nat} {mv d : Nat → Nat} {q fl : Nat} (B : ls_B b) (J : ls_J b g mv d) (hP : ls_P g q < 4) (hA : ls_MA b mv (ls_P g q) (ls_n g q))
    (hk : (g 22 (q * 30) = 3 ∧ fl = 0) ∨ (g 22 (q * 30) = 4 ∧ fl = 1 ∧ ls_n g q + b 7 (ls_pr (ls_P g q)) = b 8 (ls_pr (ls_P g q)) + 5)) :
    ls_RD b g (ls_rA g (ls_P g q) (ls_n g q) fl) mv d q := by
  obtain ⟨d', J', hd, hkn, hpg, hpr, hfr⟩ := ls_rA_J (fl := fl) B J hP hA (fun h => by rcases hk with h' | h'; omega; exact h'.2.2)
  have hOW : ls_rA g (ls_P g q) (ls_n g q) fl 14 = g 14 := hfr 14 (by decide) (by decide) (by decide) (by decide) (by decide) (by decide)
  refine ⟨⟨mv, d', J', fun _ => Nat.le_refl _, hd⟩, hkn, ?_, ?_, fun p h => by rw [hOW]; exact h, fun p h => Or.inl (by rw [hOW] at h; exact h), ?_, ?_, ?_⟩
  · intro f hf
    rcases hf with h | h | h | h | h | h | h | h | h <;> subst h <;> exact hfr _ (by decide) (by decide) (by decide) (by decide) (by decide) (by decide)
  · rcases hpg with h | h
    · rw [h]; exact Or.inr ⟨rfl, fun _ _ => rfl⟩
    · exact Or.inl h
  · intro s _ h
    rcases hpg with e | e
    · rw [e]; exact Or.inr h
    · exact Or.inl e
  · intro s _ _ h; omega
  · intro _ ht h
    refine hpr ht fun z => ?_
    rcases h z with h | h
    · exact Or.inl h
    · exact Or.inr ⟨h.1, by omega⟩
theorem ls_rd_data {b g : Nat → Nat → Nat} {mv d : Nat → Nat} {q : Nat} (B : ls_B b) (J : ls_J b g mv d) (hP : ls_P g q < 4) (hk : g 22 (q * 30) = 2) (hD : ls_MD b g d q (ls_P g q) (ls_n g q)) :
    ls_RD b g (ls_up (if ls_n g q = g 8 (ls_P g q) % 65536 ∧ g 7 (ls_P g q) < 5 then ls_acc g (ls_P g q) q else g) 14 (ls_P g q) 1) mv d q := by
  have hs0 := ls_pr_lt hP
  obtain ⟨a1, a2, a3, a4, a5, a6, a7, a8, a9, a10, a11, a12, a13, a14, a15, a16⟩ := (J.1 (ls_pr (ls_P g q)) hs0).1
  rw [ls_pr_pr] at a2 a6 a7 a14 a15 a16
  have hBP := B.1 _ hP
  have hT : g 8 (ls_P g q) % 65536 = g 8 (ls_P g q) := Nat.mod_eq_of_lt (by omega)
  rw [hT]
  obtain ⟨m1, m2, m3, m4, m5, m6⟩ := hD
  have en := a6 m1
  by_cases hc : ls_n g q = g 8 (ls_P g q) ∧ g 7 (ls_P g q) < 5
  · rw [if_pos hc]
    obtain ⟨J', e1, e2⟩ := ls_acc_J (q := q) B J hP (by rw [← hc.1]; exact ⟨m1, m2, m3, m4, m5, m6⟩) hc.2
    refine ⟨⟨fun s => if s = ls_pr (ls_P g q) then mv s + 1 else mv s, d, ls_OW_J _ J', fun s => by dsimp only; split <;> omega, fun _ => Nat.le_refl _⟩, fun _ h => h, ?_, Or.inr ⟨rfl, ?_⟩, ?_, fun _ _ => Or.inr (Or.inr hk), ?_, ?_, ?_⟩
    · intro f hf
      rcases hf with h | h | h | h | h | h | h | h | h <;> subst h <;> rfl
    · intro f hf
      rcases hf with h | h | h | h | h | h <;> subst h <;> rfl
    · intro p hp
      show (if p = ls_P g q then 1 else g 14 p) = 1
      split
      · rfl
      · exact hp
    · intro s hs h
      refine Or.inr ⟨?_, ?_⟩
      · show (if ls_pr s = ls_P g q then 1 else g 14 (ls_pr s)) = 1
        split
        · rfl
        · exact h.1
      · intro z
        show (if ls_pr s = ls_P g q then g 8 (ls_P g q) + 1 else g 8 (ls_pr s)) = g 12 s + 1 ∨ ((if ls_pr s = ls_P g q then g 8 (ls_P g q) + 1 else g 8 (ls_pr s)) = g 12 s ∧ (if ls_pr s = ls_P g q then g 7 (ls_P g q) + 1 else g 7 (ls_pr s)) = 5)
        by_cases ep : ls_pr s = ls_P g q
        · have es : s = ls_pr (ls_P g q) := by rw [← ep, ls_pr_pr]
          rw [if_pos ep]
          rw [← es] at e1
          exact Or.inl (by omega)
        · rw [if_neg ep, if_neg ep]
          exact h.2 z
    · intro s hs ep _ h
      have es : s = ls_pr (ls_P g q) := by rw [ep, ls_pr_pr]
      refine ⟨?_, fun z => Or.inl ?_⟩
      · show (if ls_pr s = ls_P g q then 1 else g 14 (ls_pr s)) = 1
        exact if_pos ep.symm
      · show (if ls_pr s = ls_P g q then g 8 (ls_P g q) + 1 else g 8 (ls_pr s)) = g 12 s + 1
        rw [if_pos ep.symm, e1, ← es]
    · intro h; omega
  · rw [if_neg hc]
    refine ⟨⟨mv, d, ls_OW_J _ J, fun _ => Nat.le_refl _, fun _ => Nat.le_refl _⟩, fun _ h => h, ?_, Or.inr ⟨rfl, ?_⟩, ?_, fun _ _ => Or.inr (Or.inr hk), ?_, ?_, ?_⟩
    · intro f hf
      rcases hf with h | h | h | h | h | h | h | h | h <;> subst h <;> rfl
    · intro f hf
      rcases hf with h | h | h | h | h | h <;> subst h <;> rfl
    · intro p hp
      show (if p = ls_P g q then 1 else g 14 p) = 1
      split
      · rfl
      · exact hp
    · intro s _ h
      refine Or.inr ⟨?_, h.2⟩
      show (if ls_pr s = ls_P g q then 1 else g 14 (ls_pr s)) = 1
      split
      · rfl
      · exact h.1
    · intro s hs ep _ h
      have es : s = ls_pr (ls_P g q) := by rw [ep, ls_pr_pr]
      refine ⟨?_, fun z => ?_⟩
      · show (if ls_pr s = ls_P g q then 1 else g 14 (ls_pr s)) = 1
        exact if_pos ep.symm
      · have hn := (h z).2
        show g 8 (ls_pr s) = g 12 s + 1 ∨ (g 8 (ls_pr s) = g 12 s ∧ g 7 (ls_pr s) = 5)
        rw [← es] at en a15 a14 a2 a3 a4
        rw [← ep]
        omega
    · intro h; omega
theorem ls_read {b g : Nat → Nat → Nat} {mv d : Nat → Nat} {q : Nat} (B : ls_B b) (J : ls_J b g mv d) (hT : g 20 q ≤ 1) (M : ls_M b g mv d q) : ls_RD b g (ls_rp g q) mv d q ∧ ls_P g q < 4 := by
  have hP : ls_P g q < 4 := by
    have := M.1
    unfold ls_P; omega
  refine ⟨?_, hP⟩
  unfold ls_rp
  rcases M.2 with h | ⟨h, h2⟩ | ⟨h, h2⟩ | ⟨h, h2, h3⟩
  · rw [if_pos h]
    exact ls_rd_ask J h
  · rw [if_neg (by omega), if_pos h]
    exact ls_rd_data B J hP h h2
  · rw [if_neg (by omega), if_neg (by omega), if_pos h]
    exact ls_rd_ans B J hP h2 (Or.inl ⟨h, rfl⟩)
  · rw [if_neg (by omega), if_neg (by omega), if_neg (by omega), if_pos h]
    exact ls_rd_ans B J hP h2 (Or.inr ⟨h, rfl, h3⟩)
