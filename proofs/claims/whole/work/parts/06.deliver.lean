/-! delivering one place -/
def ls_act (g : Nat → Nat → Nat) (s : Nat) : Prop := 0 < g 3 s ∧ g 13 s = 0
def ls_gd (g : Nat → Nat → Nat) (q : Nat) : Prop := g 19 q ≠ 0 ∧ ls_ds g q = 0
def ls_rq (g : Nat → Nat → Nat) (s q : Nat) : Prop :=
  ls_gd g q ∧ ls_P g q = ls_pr s ∧ (g 22 (q * 30) = 1 ∨ g 22 (q * 30) = 2) ∧ (g 11 s = 1 → g 22 (q * 30) = 2 ∧ ls_n g q = g 12 s)
def ls_an (g : Nat → Nat → Nat) (s q : Nat) : Prop :=
  ls_gd g q ∧ ls_P g q = s ∧ (g 22 (q * 30) = 3 ∨ g 22 (q * 30) = 4) ∧ (g 11 s = 1 → ls_n g q = g 12 s + 1 ∨ (ls_n g q = g 12 s ∧ g 22 (q * 30) = 4))
def ls_re (g : Nat → Nat → Nat) (q : Nat) : Prop := ls_gd g q ∧ (g 22 (q * 30) = 1 ∨ g 22 (q * 30) = 2)
def ls_tr (m i : Nat) (g : Nat → Nat → Nat) : Prop :=
  (∃ s, s < 4 ∧ ls_act g s ∧ 2 + g 15 s ≤ m) ∨
  (∃ s, s < 4 ∧ ls_act g s ∧ 1 ≤ m ∧ ∃ q, i ≤ q ∧ q < 40 ∧ g 21 q = 1 ∧ ls_rq g s q) ∨
  (∃ s, s < 4 ∧ ls_act g s ∧ 1 ≤ m ∧ ls_del g s) ∨
  (∃ s, s < 4 ∧ ls_act g s ∧ ∃ q, i ≤ q ∧ q < 40 ∧ g 21 q = 1 ∧ ls_an g s q) ∨
  ((∀ s, s < 4 → ¬ ls_act g s) ∧ (∀ q, q < 40 → g 19 q ≠ 0 → (i ≤ q → g 21 q ≤ m + 1 ∧ (ls_re g q → g 21 q ≤ m)) ∧ (q < i → g 21 q ≤ m ∧ (ls_re g q → g 21 q + 1 ≤ m))) ∧
    ∀ p, p < 4 → g 14 p = 1 → 1 ≤ m)
def ls_DI (b gs : Nat → Nat → Nat) (m i : Nat) (g : Nat → Nat → Nat) : Prop :=
  ∃ mv d : Nat → Nat, ls_J b g mv d ∧ (∀ q, q < 40 → ls_Q b g mv d q) ∧ (∀ f, (f = 16 ∨ f = 17 ∨ f = 18) → g f = gs f) ∧
    (∀ q, q < 40 → g 19 q ≠ 0 → gs 19 q ≠ 0 ∧ (q < i → gs 21 q = g 21 q + 1) ∧ (i ≤ q → gs 21 q = g 21 q)) ∧
    ls_pg g ≤ ls_pg gs ∧ (ls_pg g < ls_pg gs ∨ ls_tr m i g)
def ls_dv (g : Nat → Nat → Nat) (i : Nat) : Nat → Nat → Nat :=
  if g 19 i = 0 then g
  else if g 21 i - 1 = 0 then ls_up (if ls_ds g i = 0 then ls_rp (ls_up g 21 i (g 21 i - 1)) i else ls_up g 21 i (g 21 i - 1)) 19 i 0
  else ls_up g 21 i (g 21 i - 1)
theorem ls_gd_E {g g' : Nat → Nat → Nat} {q : Nat} (h : ls_E g g' q) (h1 : 2 ≤ g 19 q) (h3 : g 19 q ≤ 30) : ls_gd g' q ↔ ls_gd g q := by
  unfold ls_gd
  rw [ls_E_ds h h1 h3, h.1]
theorem ls_re_E {g g' : Nat → Nat → Nat} {q : Nat} (h : ls_E g g' q) (h1 : 2 ≤ g 19 q) (h3 : g 19 q ≤ 30) : ls_re g' q ↔ ls_re g q := by
  unfold ls_re
  rw [ls_gd_E h h1 h3, ls_E_k h]
theorem ls_rq_E {g g' : Nat → Nat → Nat} {s q : Nat} (h : ls_E g g' q) (h1 : 2 ≤ g 19 q) (h3 : g 19 q ≤ 30) (hk : g' 11 = g 11) (hn : g' 12 = g 12) : ls_rq g' s q ↔ ls_rq g s q := by
  unfold ls_rq
  rw [ls_gd_E h h1 h3, ls_E_k h, ls_E_P h, ls_E_n h, hk, hn]
theorem ls_an_E {g g' : Nat → Nat → Nat} {s q : Nat} (h : ls_E g g' q) (h1 : 2 ≤ g 19 q) (h3 : g 19 q ≤ 30) (hk : g' 11 = g 11) (hn : g' 12 = g 12) : ls_an g' s q ↔ ls_an g s q := by
  unfold ls_an
  rw [ls_gd_E h h1 h3, ls_E_k h, ls_E_P h, ls_E_n h, hk, hn]
theorem ls_Q_len {b g : Nat → Nat → Nat} {mv d : Nat → Nat} {q : Nat} (h : ls_Q b g mv d q) (h0 : g 19 q ≠ 0) : 6 ≤ g 19 q ∧ g 19 q ≤ 30 := by
  rcases h with h | h
  · exact absurd h h0
  · exact ⟨h.1, h.2.1⟩
theorem ls_dv_0 {g : Nat → Nat → Nat} {i : Nat} (h : g 19 i = 0) : ls_dv g i = g := if_pos h
theorem ls_dv_1 {g : Nat → Nat → Nat} {i : Nat} (h : g 19 i ≠ 0) (h2 : g 21 i - 1 ≠ 0) : ls_dv g i = ls_up g 21 i (g 21 i - 1) := by
  unfold ls_dv; rw [if_neg h, if_neg h2]
theorem ls_dv_2 {g : Nat → Nat → Nat} {i : Nat} (h : g 19 i ≠ 0) (h2 : g 21 i - 1 = 0) : ls_dv g i = ls_up (if ls_ds g i = 0 then ls_rp (ls_up g 21 i (g 21 i - 1)) i else ls_up g 21 i (g 21 i - 1)) 19 i 0 := by
  unfold ls_dv; rw [if_neg h, if_pos h2]
theorem ls_E_rfl (g : Nat → Nat → Nat) (q : Nat) : ls_E g g q := ⟨rfl, rfl, fun _ _ => rfl⟩
/-- a place that is free -/
theorem ls_DI_0 {b gs g : Nat → Nat → Nat} {m i : Nat} (h : g 19 i = 0) (D : ls_DI b gs m i g) : ls_DI b gs m (i + 1) g := by
  obtain ⟨mv, d, J, Q, O, K, p1, T⟩ := D
  refine ⟨mv, d, J, Q, O, ?_, p1, ?_⟩
  · intro q hq h0
    obtain ⟨k1, k2, k3⟩ := K q hq h0
    have hne : q ≠ i := fun z => h0 (by rw [z]; exact h)
    exact ⟨k1, fun z => k2 (by omega), fun z => k3 (by omega)⟩
  · rcases T with T | T
    · exact Or.inl T
    · refine Or.inr ?_
      rcases T with ⟨s, hs, ha, hr⟩ | ⟨s, hs, ha, hm, q, q1, q2, q3, q4⟩ | ⟨s, hs, ha, hm, hd⟩ | ⟨s, hs, ha, q, q1, q2, q3, q4⟩ | ⟨t1, t2, t3⟩
      · exact Or.inl ⟨s, hs, ha, hr⟩
      · have hne : q ≠ i := fun z => q4.1.1 (by rw [z]; exact h)
        exact Or.inr (Or.inl ⟨s, hs, ha, hm, q, by omega, q2, q3, q4⟩)
      · exact Or.inr (Or.inr (Or.inl ⟨s, hs, ha, hm, hd⟩))
      · have hne : q ≠ i := fun z => q4.1.1 (by rw [z]; exact h)
        exact Or.inr (Or.inr (Or.inr (Or.inl ⟨s, hs, ha, q, by omega, q2, q3, q4⟩)))
      · refine Or.inr (Or.inr (Or.inr (Or.inr ⟨t1, fun q hq h0 => ?_, t3⟩)))
        have hne : q ≠ i := fun z => h0 (by rw [z]; exact h)
        obtain ⟨k1, k2⟩ := t2 q hq h0
        exact ⟨fun z => k1 (by omega), fun z => k2 (by omega)⟩
theorem ls_PK_J {b g : Nat → Nat → Nat} {mv d : Nat → Nat} (i v : Nat) (J : ls_J b g mv d) : ls_J b (ls_up g 21 i v) mv d :=
  ls_J_of J (fun s hs => (J.1 s hs).1) rfl rfl rfl rfl rfl rfl rfl rfl
theorem ls_PL_J {b g : Nat → Nat → Nat} {mv d : Nat → Nat} (i v : Nat) (J : ls_J b g mv d) : ls_J b (ls_up g 19 i v) mv d :=
  ls_J_of J (fun s hs => (J.1 s hs).1) rfl rfl rfl rfl rfl rfl rfl rfl
theorem ls_PK_E (g : Nat → Nat → Nat) (i v q : Nat) : ls_E g (ls_up g 21 i v) q := ⟨rfl, rfl, fun _ _ => rfl⟩
theorem ls_PK_s (g : Nat → Nat → Nat) (i v q : Nat) : ls_up g 21 i v 21 q = if q = i then v else g 21 q := rfl
theorem ls_PL_s (g : Nat → Nat → Nat) (i v q : Nat) : ls_up g 19 i v 19 q = if q = i then v else g 19 q := rfl
/-- a place whose time has not come -/
theorem ls_DI_1 {b gs g : Nat → Nat → Nat} {m i : Nat} (hi : i < 40) (h : g 19 i ≠ 0) (h2 : g 21 i - 1 ≠ 0) (D : ls_DI b gs m i g) : ls_DI b gs m (i + 1) (ls_up g 21 i (g 21 i - 1)) := by
  obtain ⟨mv, d, J, Q, O, K, p1, T⟩ := D
  refine ⟨mv, d, ls_PK_J _ _ J, ?_, ?_, ?_, p1, ?_⟩
  · intro q hq
    refine ls_Q_mono (ls_PK_E g i _ q) (fun _ z => z) (fun _ => Nat.le_refl _) (fun _ => Nat.le_refl _) (fun h0 => ?_) (Q q hq)
    rw [ls_PK_s]
    rcases Q q hq with z | ⟨_, _, _, z1, z2, _⟩
    · exact absurd z h0
    · split
      · next e => subst e; omega
      · omega
  · intro f hf
    rw [← O f hf]
    rcases hf with e | e | e <;> subst e <;> rfl
  · intro q hq h0
    obtain ⟨k1, k2, k3⟩ := K q hq h0
    rw [ls_PK_s]
    refine ⟨k1, fun z => ?_, fun z => ?_⟩
    · split
      · next e => subst e; have := k3 (Nat.le_refl _); omega
      · exact k2 (by omega)
    · rw [if_neg (by omega)]; exact k3 (by omega)
  · rcases T with T | T
    · exact Or.inl T
    · refine Or.inr ?_
      rcases T with ⟨s, hs, ha, hr⟩ | ⟨s, hs, ha, hm, q, q1, q2, q3, q4⟩ | ⟨s, hs, ha, hm, hd⟩ | ⟨s, hs, ha, q, q1, q2, q3, q4⟩ | ⟨t1, t2, t3⟩
      · exact Or.inl ⟨s, hs, ha, hr⟩
      · have hne : q ≠ i := fun z => by rw [z] at q3; omega
        have hl := ls_Q_len (Q q q2) q4.1.1
        exact Or.inr (Or.inl ⟨s, hs, ha, hm, q, by omega, q2, by rw [ls_PK_s, if_neg hne]; exact q3, (ls_rq_E (ls_PK_E g i _ q) (by omega) hl.2 rfl rfl).mpr q4⟩)
      · exact Or.inr (Or.inr (Or.inl ⟨s, hs, ha, hm, hd⟩))
      · have hne : q ≠ i := fun z => by rw [z] at q3; omega
        have hl := ls_Q_len (Q q q2) q4.1.1
        exact Or.inr (Or.inr (Or.inr (Or.inl ⟨s, hs, ha, q, by omega, q2, by rw [ls_PK_s, if_neg hne]; exact q3, (ls_an_E (ls_PK_E g i _ q) (by omega) hl.2 rfl rfl).mpr q4⟩)))
      · refine Or.inr (Or.inr (Or.inr (Or.inr ⟨t1, fun q hq h0 => ?_, t3⟩)))
        have hl := ls_Q_len (Q q hq) h0
        obtain ⟨k1, k2⟩ := t2 q hq h0
        have er : ls_re (ls_up g 21 i (g 21 i - 1)) q ↔ ls_re g q := ls_re_E (ls_PK_E g i _ q) (by omega) hl.2
        rw [er, ls_PK_s]
        by_cases e : q = i
        · rw [if_pos e]
          subst e
          obtain ⟨k3, k4⟩ := k1 (Nat.le_refl _)
          exact ⟨fun z => by omega, fun _ => ⟨by omega, fun z => by have := k4 z; omega⟩⟩
        · rw [if_neg e]
          exact ⟨fun z => k1 (by omega), fun z => k2 (by omega)⟩
/-- a place whose time has come, and which is spoiled: it goes -/
theorem ls_DI_2 {b gs g : Nat → Nat → Nat} {m i : Nat} (hi : i < 40) (h : g 19 i ≠ 0) (h2 : g 21 i - 1 = 0) (hz : ls_ds g i ≠ 0) (D : ls_DI b gs m i g) :
    ls_DI b gs m (i + 1) (ls_up (ls_up g 21 i (g 21 i - 1)) 19 i 0) := by
  obtain ⟨mv, d, J, Q, O, K, p1, T⟩ := D
  have hE : ∀ q, q ≠ i → ls_E g (ls_up (ls_up g 21 i (g 21 i - 1)) 19 i 0) q := fun q hq => ⟨by rw [ls_PL_s, if_neg hq]; rfl, rfl, fun _ _ => rfl⟩
  have hPL : ∀ q, ls_up (ls_up g 21 i (g 21 i - 1)) 19 i 0 19 q = if q = i then 0 else g 19 q := fun q => rfl
  have hPK : ∀ q, ls_up (ls_up g 21 i (g 21 i - 1)) 19 i 0 21 q = if q = i then g 21 i - 1 else g 21 q := fun q => rfl
  refine ⟨mv, d, ls_PL_J _ _ (ls_PK_J _ _ J), ?_, ?_, ?_, p1, ?_⟩
  · intro q hq
    by_cases e : q = i
    · exact Or.inl (by rw [hPL, if_pos e])
    · refine ls_Q_mono (hE q e) (fun _ z => z) (fun _ => Nat.le_refl _) (fun _ => Nat.le_refl _) (fun h0 => ?_) (Q q hq)
      rw [hPK, if_neg e]
      rcases Q q hq with z | ⟨_, _, _, z1, z2, _⟩
      · exact absurd z h0
      · exact ⟨z1, z2⟩
  · intro f hf
    rw [← O f hf]
    rcases hf with e | e | e <;> subst e <;> rfl
  · intro q hq h0
    have e : q ≠ i := fun e => h0 (by rw [hPL, if_pos e])
    rw [hPL, if_neg e] at h0
    obtain ⟨k1, k2, k3⟩ := K q hq h0
    rw [hPK, if_neg e]
    exact ⟨k1, fun z => k2 (by omega), fun z => k3 (by omega)⟩
  · rcases T with T | T
    · exact Or.inl T
    · refine Or.inr ?_
      rcases T with ⟨s, hs, ha, hr⟩ | ⟨s, hs, ha, hm, q, q1, q2, q3, q4⟩ | ⟨s, hs, ha, hm, hd⟩ | ⟨s, hs, ha, q, q1, q2, q3, q4⟩ | ⟨t1, t2, t3⟩
      · exact Or.inl ⟨s, hs, ha, hr⟩
      · have hne : q ≠ i := fun z => hz (by rw [← z]; exact q4.1.2)
        have hl := ls_Q_len (Q q q2) q4.1.1
        exact Or.inr (Or.inl ⟨s, hs, ha, hm, q, by omega, q2, by rw [hPK, if_neg hne]; exact q3, (ls_rq_E (hE q hne) (by omega) hl.2 rfl rfl).mpr q4⟩)
      · exact Or.inr (Or.inr (Or.inl ⟨s, hs, ha, hm, hd⟩))
      · have hne : q ≠ i := fun z => hz (by rw [← z]; exact q4.1.2)
        have hl := ls_Q_len (Q q q2) q4.1.1
        exact Or.inr (Or.inr (Or.inr (Or.inl ⟨s, hs, ha, q, by omega, q2, by rw [hPK, if_neg hne]; exact q3, (ls_an_E (hE q hne) (by omega) hl.2 rfl rfl).mpr q4⟩)))
      · refine Or.inr (Or.inr (Or.inr (Or.inr ⟨t1, fun q hq h0 => ?_, t3⟩)))
        have e : q ≠ i := fun e => h0 (by rw [hPL, if_pos e])
        rw [hPL, if_neg e] at h0
        have hl := ls_Q_len (Q q hq) h0
        obtain ⟨k1, k2⟩ := t2 q hq h0
        rw [ls_re_E (hE q e) (by omega) hl.2, hPK, if_neg e]
        exact ⟨fun z => k1 (by omega), fun z => k2 (by omega)⟩
/-- a place whose time has come, and which is read -/
theorem ls_DI_3 {b gs g : Nat → Nat → Nat} {m i : Nat} (B : ls_B b) (hi : i < 40) (h : g 19 i ≠ 0) (h2 : g 21 i - 1 = 0) (hz : ls_ds g i = 0) (D : ls_DI b gs m i g) :
    ls_DI b gs m (i + 1) (ls_up (ls_rp (ls_up g 21 i (g 21 i - 1)) i) 19 i 0) ∧ ls_P g i < 4 := by
  obtain ⟨mv, d, J, Q, O, K, p1, T⟩ := D
  have hQi := Q i hi
  rcases hQi with z | ⟨l1, l2, l3, l4, l5, l6⟩
  · exact absurd z h
  have M1 : ls_M b (ls_up g 21 i (g 21 i - 1)) mv d i := ls_M_mono (ls_PK_E g i _ i) l2 (fun _ z => z) (fun _ => Nat.le_refl _) (fun _ => Nat.le_refl _) (l6 hz)
  obtain ⟨R, hP⟩ := ls_read B (ls_PK_J i (g 21 i - 1) J) l3 M1
  refine ⟨?_, hP⟩
  generalize hg' : ls_rp (ls_up g 21 i (g 21 i - 1)) i = g' at *
  obtain ⟨⟨mv', d', J', hm', hd'⟩, rk, rl, rp, ro, ro2, rd, rr, ra⟩ := R
  have ePL : g' 19 = g 19 := rl 19 (Or.inr (Or.inr (Or.inr (Or.inl rfl))))
  have ePT : g' 20 = g 20 := rl 20 (Or.inr (Or.inr (Or.inr (Or.inr (Or.inl rfl)))))
  have ePK : g' 21 = (ls_up g 21 i (g 21 i - 1)) 21 := rl 21 (Or.inr (Or.inr (Or.inr (Or.inr (Or.inr (Or.inl rfl))))))
  have ePB : g' 22 = g 22 := rl 22 (Or.inr (Or.inr (Or.inr (Or.inr (Or.inr (Or.inr (Or.inl rfl)))))))
  have hE : ∀ q, q ≠ i → ls_E g (ls_up g' 19 i 0) q := fun q hq => ⟨by rw [ls_PL_s, if_neg hq, ePL], by show g' 20 q = _; rw [ePT], fun j _ => by show g' 22 _ = _; rw [ePB]⟩
  have hPL : ∀ q, ls_up g' 19 i 0 19 q = if q = i then 0 else g 19 q := fun q => by rw [ls_PL_s, ePL]
  have hPK : ∀ q, ls_up g' 19 i 0 21 q = if q = i then g 21 i - 1 else g 21 q := fun q => by show g' 21 q = _; rw [ePK, ls_PK_s]
  refine ⟨mv', d', ls_PL_J _ _ J', ?_, ?_, ?_, ?_, ?_⟩
  · intro q hq
    by_cases e : q = i
    · exact Or.inl (by rw [hPL, if_pos e])
    · refine ls_Q_mono (hE q e) rk hm' hd' (fun h0 => ?_) (Q q hq)
      rw [hPK, if_neg e]
      rcases Q q hq with z | ⟨_, _, _, z1, z2, _⟩
      · exact absurd z h0
      · exact ⟨z1, z2⟩
  · intro f hf
    rw [← O f hf]
    rcases hf with e | e | e
    · subst e; exact rl 16 (Or.inl rfl)
    · subst e; exact rl 17 (Or.inr (Or.inl rfl))
    · subst e; exact rl 18 (Or.inr (Or.inr (Or.inl rfl)))
  · intro q hq h0
    have e : q ≠ i := fun e => h0 (by rw [hPL, if_pos e])
    rw [hPL, if_neg e] at h0
    obtain ⟨k1, k2, k3⟩ := K q hq h0
    rw [hPK, if_neg e]
    exact ⟨k1, fun z => k2 (by omega), fun z => k3 (by omega)⟩
  · refine Nat.le_trans ?_ p1
    show ls_pg g' ≤ ls_pg g
    rcases rp with z | z
    · exact Nat.le_of_lt z
    · exact Nat.le_of_eq z.1
  · show ls_pg g' < ls_pg gs ∨ _
    rcases rp with rp | ⟨rp, rs⟩
    · exact Or.inl (Nat.lt_of_lt_of_le rp p1)
    rcases T with T | T
    · exact Or.inl (by rw [rp]; exact T)
    · have eKN : g' 11 = g 11 := rs 11 (Or.inl rfl)
      have eNX : g' 12 = g 12 := rs 12 (Or.inr (Or.inl rfl))
      have eTF : g' 13 = g 13 := rs 13 (Or.inr (Or.inr (Or.inl rfl)))
      have eRS : g' 15 = g 15 := rs 15 (Or.inr (Or.inr (Or.inr (Or.inl rfl))))
      have eWC : g' 3 = g 3 := rs 3 (Or.inr (Or.inr (Or.inr (Or.inr (Or.inl rfl)))))
      have eA : ∀ s, ls_act (ls_up g' 19 i 0) s ↔ ls_act g s := fun s => by
        show (0 < g' 3 s ∧ g' 13 s = 0) ↔ _
        rw [eWC, eTF]; exact Iff.rfl
      have np : ¬ ls_pg g' < ls_pg (ls_up g 21 i (g 21 i - 1)) := by omega
      rcases T with ⟨s, hs, ha, hr⟩ | ⟨s, hs, ha, hm, q, q1, q2, q3, q4⟩ | ⟨s, hs, ha, hm, hd⟩ | ⟨s, hs, ha, q, q1, q2, q3, q4⟩ | ⟨t1, t2, t3⟩
      · exact Or.inr (Or.inl ⟨s, hs, (eA s).mpr ha, by show 2 + g' 15 s ≤ m; rw [eRS]; exact hr⟩)
      · by_cases e : q = i
        · subst e
          exact Or.inr (Or.inr (Or.inr (Or.inl ⟨s, hs, (eA s).mpr ha, hm, rr s hs q4.2.1 q4.2.2.1 q4.2.2.2⟩)))
        · have hl := ls_Q_len (Q q q2) q4.1.1
          exact Or.inr (Or.inr (Or.inl ⟨s, hs, (eA s).mpr ha, hm, q, by omega, q2, by rw [hPK, if_neg e]; exact q3, (ls_rq_E (hE q e) (by omega) hl.2 eKN eNX).mpr q4⟩))
      · rcases rd s hs hd with z | z
        · exact absurd z np
        · exact Or.inr (Or.inr (Or.inr (Or.inl ⟨s, hs, (eA s).mpr ha, hm, z⟩)))
      · by_cases e : q = i
        · subst e
          refine absurd (ra q4.2.2.1 ?_ ?_) np
          · show g 13 (ls_P g q) = 0
            rw [q4.2.1]; exact ha.2
          · intro z
            have hsP : ls_P (ls_up g 21 q (g 21 q - 1)) q = s := q4.2.1
            rw [hsP] at z ⊢
            exact q4.2.2.2 z
        · have hl := ls_Q_len (Q q q2) q4.1.1
          exact Or.inr (Or.inr (Or.inr (Or.inr (Or.inl ⟨s, hs, (eA s).mpr ha, q, by omega, q2, by rw [hPK, if_neg e]; exact q3, (ls_an_E (hE q e) (by omega) hl.2 eKN eNX).mpr q4⟩))))
      · refine Or.inr (Or.inr (Or.inr (Or.inr (Or.inr ⟨fun s hs z => t1 s hs ((eA s).mp z), fun q hq h0 => ?_, fun p hp z => ?_⟩))))
        · have e : q ≠ i := fun e => h0 (by rw [hPL, if_pos e])
          rw [hPL, if_neg e] at h0
          have hl := ls_Q_len (Q q hq) h0
          obtain ⟨k1, k2⟩ := t2 q hq h0
          rw [ls_re_E (hE q e) (by omega) hl.2, hPK, if_neg e]
          exact ⟨fun z => k1 (by omega), fun z => k2 (by omega)⟩
        · rcases ro2 p z with z | z
          · exact t3 p hp z
          · have := ((t2 i hi h).1 (Nat.le_refl _)).2 ⟨⟨h, hz⟩, z⟩
            omega
theorem ls_dv_DI {b gs g : Nat → Nat → Nat} {m i : Nat} (B : ls_B b) (hi : i < 40) (D : ls_DI b gs m i g) : ls_DI b gs m (i + 1) (ls_dv g i) := by
  by_cases h : g 19 i = 0
  · rw [ls_dv_0 h]; exact ls_DI_0 h D
  · by_cases h2 : g 21 i - 1 = 0
    · rw [ls_dv_2 h h2]
      by_cases hz : ls_ds g i = 0
      · rw [if_pos hz]; exact (ls_DI_3 B hi h h2 hz D).1
      · rw [if_neg hz]; exact ls_DI_2 hi h h2 hz D
    · rw [ls_dv_1 h h2]; exact ls_DI_1 hi h h2 D
