/-! reading pieces keeps the numbers -/
theorem ls_J_of {b g g' : Nat → Nat → Nat} {mv d d' : Nat → Nat} (J : ls_J b g mv d) (hS : ∀ s, s < 4 → ls_S b g' mv d' s)
    (h9 : g' 9 = g 9) (h10 : g' 10 = g 10) (h4 : g' 4 = g 4) (h5 : g' 5 = g 5) (h0 : g' 0 = g 0) (h1 : g' 1 = g 1) (h22 : g' 22 = g 22) (h23 : g' 23 = g 23) : ls_J b g' mv d' := by
  refine ⟨fun s hs => ⟨hS s hs, ?_⟩, ?_, h4.trans J.2.2.1, h5.trans J.2.2.2.1, h0.trans J.2.2.2.2.1, h1.trans J.2.2.2.2.2⟩
  · have h := (J.1 s hs).2
    unfold ls_C at h ⊢
    rw [h9, h10]
    exact h
  · have h := J.2.1
    unfold ls_Y at h ⊢
    rw [h5, h10, h22, h23]
    exact h
theorem ls_rA1_0 {g : Nat → Nat → Nat} {P n : Nat} (h : g 11 P = 0) : ls_rA1 g P n = ls_up (ls_up (ls_up g 11 P 1) 12 P n) 15 P 0 := by
  unfold ls_rA1; rw [if_pos h]
theorem ls_rA1_1 {g : Nat → Nat → Nat} {P n : Nat} (h : g 11 P ≠ 0) (hn : n = (g 12 P + 1) % 65536) (hw : 0 < g 3 P) :
    ls_rA1 g P n = ls_up (ls_up (ls_up (ls_up g 12 P n) 15 P 0) 2 P ((g 2 P + 1) % 8)) 3 P (g 3 P - 1) := by
  unfold ls_rA1
  rw [if_neg h, if_pos hn]
  unfold ls_drop
  exact if_pos hw
theorem ls_rA1_2 {g : Nat → Nat → Nat} {P n : Nat} (h : g 11 P ≠ 0) (hn : n ≠ (g 12 P + 1) % 65536) : ls_rA1 g P n = g := by
  unfold ls_rA1; rw [if_neg h, if_neg hn]
theorem ls_rA1_J {b g : Nat → Nat → Nat} {mv d : Nat → Nat} {P n : Nat} (B : ls_B b) (J : ls_J b g mv d) (hP : P < 4) (hA : ls_MA b mv P n) :
    ∃ d' : Nat → Nat, ls_J b (ls_rA1 g P n) mv d' ∧ (∀ s, d s ≤ d' s) ∧ (∀ s, g 11 s = 1 → ls_rA1 g P n 11 s = 1) ∧ ls_rA1 g P n 11 P = 1 ∧
      (ls_rA1 g P n = g ∨ ls_pg (ls_rA1 g P n) < ls_pg g) ∧ ((g 11 P = 1 → n = g 12 P + 1) → ls_pg (ls_rA1 g P n) < ls_pg g) ∧
      (∀ f, f ≠ 11 → f ≠ 12 → f ≠ 15 → f ≠ 2 → f ≠ 3 → ls_rA1 g P n f = g f) := by
  have hSP := (J.1 P hP).1
  have hBP := B.1 P hP
  have hBp := B.1 (ls_pr P) (ls_pr_lt hP)
  obtain ⟨a1, a2, a3, a4, a5, a6, a7, a8, a9, a10, a11, a12, a13, a14, a15, a16⟩ := hSP
  obtain ⟨c1, c2⟩ := hA
  by_cases hk : g 11 P = 0
  · rw [ls_rA1_0 hk]
    have hm := a5 hk
    have en : n = b 8 (ls_pr P) + d P := by omega
    refine ⟨d, ls_J_of J ?_ rfl rfl rfl rfl rfl rfl rfl rfl, fun s => Nat.le_refl _, ?_, ?_, Or.inr ?_, fun _ => ?_, ?_⟩
    · intro s hs
      have h := (J.1 s hs).1
      obtain ⟨b1, b2, b3, b4, b5, b6, b7, b8, b9, b10, b11, b12, b13, b14, b15, b16⟩ := h
      have f1 : ls_up (ls_up (ls_up g 11 P 1) 12 P n) 15 P 0 11 s = if s = P then 1 else g 11 s := rfl
      have f2 : ls_up (ls_up (ls_up g 11 P 1) 12 P n) 15 P 0 12 s = if s = P then n else g 12 s := rfl
      have f3 : ls_up (ls_up (ls_up g 11 P 1) 12 P n) 15 P 0 15 s = if s = P then 0 else g 15 s := rfl
      by_cases e : s = P
      · subst e
        rw [if_pos rfl] at f1 f2 f3
        exact ⟨b1, b2, b3, b4, by omega, by omega, b7, by omega, b9, b10, by omega, b12, b13, b14, b15, b16⟩
      · rw [if_neg e] at f1 f2 f3
        exact ⟨b1, b2, b3, b4, by omega, by omega, b7, by omega, b9, b10, by omega, b12, b13, b14, b15, b16⟩
    · intro s hs
      show (if s = P then 1 else g 11 s) = 1
      split
      · rfl
      · exact hs
    · exact if_pos rfl
    · refine ls_pg_lt hP ?_ ?_
      · show (1 - (if P = P then 1 else g 11 P)) + g 3 P + (1 - g 13 P) < (1 - g 11 P) + g 3 P + (1 - g 13 P)
        rw [if_pos rfl]; omega
      · intro s hs
        show (1 - (if s = P then 1 else g 11 s)) + g 3 s + (1 - g 13 s) = (1 - g 11 s) + g 3 s + (1 - g 13 s)
        rw [if_neg hs]
    · refine ls_pg_lt hP ?_ ?_
      · show (1 - (if P = P then 1 else g 11 P)) + g 3 P + (1 - g 13 P) < (1 - g 11 P) + g 3 P + (1 - g 13 P)
        rw [if_pos rfl]; omega
      · intro s hs
        show (1 - (if s = P then 1 else g 11 s)) + g 3 s + (1 - g 13 s) = (1 - g 11 s) + g 3 s + (1 - g 13 s)
        rw [if_neg hs]
    · intro f k1 k2 k3 k4 k5
      funext i
      simp [ls_up, k1, k2, k3]
  · have hk1 : g 11 P = 1 := by omega
    have en := a6 hk1
    by_cases hn : n = (g 12 P + 1) % 65536
    · have en1 : n = b 8 (ls_pr P) + d P + 1 := by omega
      have hw : 0 < g 3 P := by omega
      rw [ls_rA1_1 hk hn hw]
      refine ⟨fun s => if s = P then d s + 1 else d s, ls_J_of J ?_ rfl rfl rfl rfl rfl rfl rfl rfl, ?_, fun s hs => hs, hk1, Or.inr ?_, fun _ => ?_, ?_⟩
      · intro s hs
        have h := (J.1 s hs).1
        obtain ⟨b1, b2, b3, b4, b5, b6, b7, b8, b9, b10, b11, b12, b13, b14, b15, b16⟩ := h
        have f2 : ls_up (ls_up (ls_up (ls_up g 12 P n) 15 P 0) 2 P ((g 2 P + 1) % 8)) 3 P (g 3 P - 1) 12 s = if s = P then n else g 12 s := rfl
        have f3 : ls_up (ls_up (ls_up (ls_up g 12 P n) 15 P 0) 2 P ((g 2 P + 1) % 8)) 3 P (g 3 P - 1) 15 s = if s = P then 0 else g 15 s := rfl
        have f4 : ls_up (ls_up (ls_up (ls_up g 12 P n) 15 P 0) 2 P ((g 2 P + 1) % 8)) 3 P (g 3 P - 1) 2 s = if s = P then ((g 2 P + 1) % 8) else g 2 s := rfl
        have f5 : ls_up (ls_up (ls_up (ls_up g 12 P n) 15 P 0) 2 P ((g 2 P + 1) % 8)) 3 P (g 3 P - 1) 3 s = if s = P then g 3 P - 1 else g 3 s := rfl
        by_cases e : s = P
        · subst e
          rw [if_pos rfl] at f2 f3 f4 f5
          have f6 : (if s = s then d s + 1 else d s) = d s + 1 := if_pos rfl
          unfold ls_S
          dsimp only
          rw [f6, f2, f3, f4, f5]
          exact ⟨b1, b2, by omega, by omega, b5, fun _ => by omega, fun z => by have := b7 z; omega, b8, b9, b10, by omega, by omega, by omega, b14, b15, b16⟩
        · rw [if_neg e] at f2 f3 f4 f5
          have f6 : (if s = P then d s + 1 else d s) = d s := if_neg e
          unfold ls_S
          dsimp only
          rw [f6, f2, f3, f4, f5]
          exact ⟨b1, b2, b3, b4, b5, b6, b7, b8, b9, b10, b11, b12, b13, b14, b15, b16⟩
      · intro s
        dsimp only
        split <;> omega
      · refine ls_pg_lt hP ?_ ?_
        · show (1 - g 11 P) + (if P = P then g 3 P - 1 else g 3 P) + (1 - g 13 P) < (1 - g 11 P) + g 3 P + (1 - g 13 P)
          rw [if_pos rfl]; omega
        · intro s hs
          show (1 - g 11 s) + (if s = P then g 3 P - 1 else g 3 s) + (1 - g 13 s) = (1 - g 11 s) + g 3 s + (1 - g 13 s)
          rw [if_neg hs]
      · refine ls_pg_lt hP ?_ ?_
        · show (1 - g 11 P) + (if P = P then g 3 P - 1 else g 3 P) + (1 - g 13 P) < (1 - g 11 P) + g 3 P + (1 - g 13 P)
          rw [if_pos rfl]; omega
        · intro s hs
          show (1 - g 11 s) + (if s = P then g 3 P - 1 else g 3 s) + (1 - g 13 s) = (1 - g 11 s) + g 3 s + (1 - g 13 s)
          rw [if_neg hs]
      · intro f k1 k2 k3 k4 k5
        funext i
        simp [ls_up, k2, k3, k4, k5]
    · rw [ls_rA1_2 hk hn]
      refine ⟨d, J, fun _ => Nat.le_refl _, fun _ h => h, hk1, Or.inl rfl, fun h => ?_, fun _ _ _ _ _ _ => rfl⟩
      exact absurd (by have := h hk1; omega) hn
/-- the whole of reading an answer -/
theorem ls_rA_J {b g : Nat → Nat → Nat} {mv d : Nat → Nat} {P n fl : Nat} (B : ls_B b) (J : ls_J b g mv d) (hP : P < 4) (hA : ls_MA b mv P n)
    (hf : fl = 1 → n + b 7 (ls_pr P) = b 8 (ls_pr P) + 5) :
    ∃ d' : Nat → Nat, ls_J b (ls_rA g P n fl) mv d' ∧ (∀ s, d s ≤ d' s) ∧ (∀ s, g 11 s = 1 → ls_rA g P n fl 11 s = 1) ∧
      (ls_rA g P n fl = g ∨ ls_pg (ls_rA g P n fl) < ls_pg g) ∧
      (g 13 P = 0 → (g 11 P = 1 → n = g 12 P + 1 ∨ (n = g 12 P ∧ fl = 1)) → ls_pg (ls_rA g P n fl) < ls_pg g) ∧
      (∀ f, f ≠ 11 → f ≠ 12 → f ≠ 15 → f ≠ 2 → f ≠ 3 → f ≠ 13 → ls_rA g P n fl f = g f) := by
  obtain ⟨d', J', hd, hk, hkP, hpg, hpr, hfr⟩ := ls_rA1_J B J hP hA
  have hTF : ls_rA1 g P n 13 = g 13 := hfr 13 (by decide) (by decide) (by decide) (by decide) (by decide)
  by_cases hc : fl = 1 ∧ n = ls_rA1 g P n 12 P
  · have e : ls_rA g P n fl = ls_up (ls_rA1 g P n) 13 P 1 := if_pos hc
    rw [e]
    generalize hg1 : ls_rA1 g P n = g1 at *
    have hSP := (J'.1 P hP).1
    obtain ⟨a1, a2, a3, a4, a5, a6, a7, a8, a9, a10, a11, a12, a13, a14, a15, a16⟩ := hSP
    have hfl := hf hc.1
    have hnx := a6 hkP
    refine ⟨d', ls_J_of J' ?_ rfl rfl rfl rfl rfl rfl rfl rfl, hd, hk, ?_, ?_, ?_⟩
    · intro s hs
      have h := (J'.1 s hs).1
      obtain ⟨b1, b2, b3, b4, b5, b6, b7, b8, b9, b10, b11, b12, b13, b14, b15, b16⟩ := h
      have f1 : ls_up g1 13 P 1 13 s = if s = P then 1 else g1 13 s := rfl
      by_cases es : s = P
      · subst es
        rw [if_pos rfl] at f1
        exact ⟨b1, b2, b3, b4, b5, b6, fun _ => by omega, b8, by omega, b10, b11, b12, b13, b14, b15, b16⟩
      · rw [if_neg es] at f1
        exact ⟨b1, b2, b3, b4, b5, b6, fun z => b7 (by omega), b8, by omega, b10, b11, b12, b13, b14, b15, b16⟩
    · by_cases ht : g1 13 P = 1
      · rw [ls_up_id g1 13 P 1 ht]
        exact hpg
      · refine Or.inr (Nat.lt_of_lt_of_le (m := ls_pg g1) ?_ ?_)
        · refine ls_pg_lt hP ?_ ?_
          · show (1 - g1 11 P) + g1 3 P + (1 - (if P = P then 1 else g1 13 P)) < (1 - g1 11 P) + g1 3 P + (1 - g1 13 P)
            rw [if_pos rfl]; omega
          · intro s hs
            show (1 - g1 11 s) + g1 3 s + (1 - (if s = P then 1 else g1 13 s)) = (1 - g1 11 s) + g1 3 s + (1 - g1 13 s)
            rw [if_neg hs]
        · rcases hpg with h | h
          · rw [h]; exact Nat.le_refl _
          · exact Nat.le_of_lt h
    · intro ht _
      refine Nat.lt_of_lt_of_le (m := ls_pg g1) ?_ ?_
      · have ht1 : g1 13 P = 0 := by rw [hTF]; exact ht
        refine ls_pg_lt hP ?_ ?_
        · show (1 - g1 11 P) + g1 3 P + (1 - (if P = P then 1 else g1 13 P)) < (1 - g1 11 P) + g1 3 P + (1 - g1 13 P)
          rw [if_pos rfl]; omega
        · intro s hs
          show (1 - g1 11 s) + g1 3 s + (1 - (if s = P then 1 else g1 13 s)) = (1 - g1 11 s) + g1 3 s + (1 - g1 13 s)
          rw [if_neg hs]
      · rcases hpg with h | h
        · rw [h]; exact Nat.le_refl _
        · exact Nat.le_of_lt h
    · intro f k1 k2 k3 k4 k5 k6
      rw [← hfr f k1 k2 k3 k4 k5]
      funext i
      simp [ls_up, k6]
  · have e : ls_rA g P n fl = ls_rA1 g P n := if_neg hc
    rw [e]
    refine ⟨d', J', hd, hk, hpg, fun ht h => hpr fun hk1 => ?_, fun f k1 k2 k3 k4 k5 _ => hfr f k1 k2 k3 k4 k5⟩
    rcases h hk1 with h | ⟨h, h'⟩
    · exact h
    · refine absurd ⟨h', ?_⟩ hc
      have hB := B.1 (ls_pr P) (ls_pr_lt hP)
      have hS := (J.1 P hP).1
      have hn6 := hS.2.2.2.2.2.1 hk1
      have hm5 := hS.2.1
      have hd5 := hS.2.2.1
      rw [ls_rA1_2 (by omega) (by omega)]
      exact h
