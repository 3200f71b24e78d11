/-! the state as naturals: g f i is field f at index i; b: the state when settle begins -/
def ls_up (g : Nat → Nat → Nat) (f k v : Nat) : Nat → Nat → Nat := fun f' i => if f' = f then (if i = k then v else g f i) else g f' i
theorem ls_up_s (g : Nat → Nat → Nat) (f k v : Nat) : ls_up g f k v f k = v := by simp [ls_up]
theorem ls_up_id (g : Nat → Nat → Nat) (f k v : Nat) (h : g f k = v) : ls_up g f k v = g := by
  funext f' i
  unfold ls_up
  split
  · next e => subst e; split
              · next e => subst e; exact h.symm
              · rfl
  · rfl
def ls_pr (s : Nat) : Nat := s + 1 - 2 * (s % 2)
theorem ls_pr_lt {s : Nat} (h : s < 4) : ls_pr s < 4 := by unfold ls_pr; omega
theorem ls_pr_pr (s : Nat) : ls_pr (ls_pr s) = s := by unfold ls_pr; omega
theorem ls_pr_inj {s t : Nat} (h : ls_pr s = ls_pr t) : s = t := by unfold ls_pr at h; omega
theorem ls_pr_ne (s : Nat) : ls_pr s ≠ s := by unfold ls_pr; omega
def ls_sl (b : Nat → Nat → Nat) (s i : Nat) : Nat := s * 8 + (b 2 s + i) % 8
def ls_in (b : Nat → Nat → Nat) (p i : Nat) : Nat := p * 5 + (b 6 p + i) % 5
/-- what holds of the base state -/
def ls_B (b : Nat → Nat → Nat) : Prop :=
  (∀ s, s < 4 → b 3 s ≤ 8 ∧ b 2 s < 8 ∧ b 7 s ≤ 5 ∧ b 6 s < 5 ∧ b 8 s + 6 < 65536) ∧ (∀ i, b 4 i ≤ 24)
/-- bytes -/
def ls_Y (g : Nat → Nat → Nat) : Prop := (∀ i, g 5 i < 256) ∧ (∀ i, g 10 i < 256) ∧ (∀ i, g 22 i < 256) ∧ (∀ i, g 23 i < 256)
/-- numbers of one direction, from port s to its peer -/
def ls_S (b g : Nat → Nat → Nat) (mv d : Nat → Nat) (s : Nat) : Prop :=
  mv s ≤ b 3 s ∧ mv s + b 7 (ls_pr s) ≤ 5 ∧ d s ≤ mv s ∧ mv s ≤ d s + 1 ∧
  (g 11 s = 0 → mv s = 0) ∧ (g 11 s = 1 → g 12 s = b 8 (ls_pr s) + d s) ∧ (g 13 s = 1 → d s + b 7 (ls_pr s) = 5) ∧
  g 11 s ≤ 1 ∧ g 13 s ≤ 1 ∧ g 14 s ≤ 1 ∧ g 15 s ≤ 4 ∧
  g 3 s + d s = b 3 s ∧ g 2 s = (b 2 s + d s) % 8 ∧
  g 7 (ls_pr s) = b 7 (ls_pr s) + mv s ∧ g 8 (ls_pr s) = b 8 (ls_pr s) + mv s ∧ g 6 (ls_pr s) = b 6 (ls_pr s)
/-- contents of the inbox of port s's peer -/
def ls_C (b g : Nat → Nat → Nat) (mv : Nat → Nat) (s : Nat) : Prop :=
  (∀ i, i < mv s → g 9 (ls_in b (ls_pr s) (b 7 (ls_pr s) + i)) = b 4 (ls_sl b s i) ∧
    ∀ j, j < b 4 (ls_sl b s i) → g 10 (ls_in b (ls_pr s) (b 7 (ls_pr s) + i) * 24 + j) = b 5 (ls_sl b s i * 24 + j)) ∧
  (∀ i, i < b 7 (ls_pr s) → g 9 (ls_in b (ls_pr s) i) = b 9 (ls_in b (ls_pr s) i) ∧
    ∀ j, j < 24 → g 10 (ls_in b (ls_pr s) i * 24 + j) = b 10 (ls_in b (ls_pr s) i * 24 + j))
def ls_J (b g : Nat → Nat → Nat) (mv d : Nat → Nat) : Prop :=
  (∀ s, s < 4 → ls_S b g mv d s ∧ ls_C b g mv s) ∧ ls_Y g ∧ g 4 = b 4 ∧ g 5 = b 5 ∧ g 0 = b 0 ∧ g 1 = b 1
/-! pieces -/
def ls_n (g : Nat → Nat → Nat) (q : Nat) : Nat := g 22 (q * 30 + 2) * 256 + g 22 (q * 30 + 3)
def ls_P (g : Nat → Nat → Nat) (q : Nat) : Nat := g 20 q + 2 * g 22 (q * 30 + 1)
def ls_ds (g : Nat → Nat → Nat) (q : Nat) : Nat := ck_dis (fun i => g 22 (q * 30 + i)) (g 19 q - 2)
def ls_MD (b g : Nat → Nat → Nat) (d : Nat → Nat) (q p n : Nat) : Prop :=
  g 11 (ls_pr p) = 1 ∧ b 8 p ≤ n ∧ n ≤ b 8 p + d (ls_pr p) ∧ n - b 8 p < b 3 (ls_pr p) ∧
  g 19 q = 6 + b 4 (ls_sl b (ls_pr p) (n - b 8 p)) ∧
  ∀ j, j < b 4 (ls_sl b (ls_pr p) (n - b 8 p)) → g 22 (q * 30 + 4 + j) = b 5 (ls_sl b (ls_pr p) (n - b 8 p) * 24 + j)
def ls_MA (b : Nat → Nat → Nat) (mv : Nat → Nat) (s n : Nat) : Prop := b 8 (ls_pr s) ≤ n ∧ n ≤ b 8 (ls_pr s) + mv s
def ls_M (b g : Nat → Nat → Nat) (mv d : Nat → Nat) (q : Nat) : Prop :=
  g 22 (q * 30 + 1) ≤ 1 ∧ (g 22 (q * 30) = 1 ∨ (g 22 (q * 30) = 2 ∧ ls_MD b g d q (ls_P g q) (ls_n g q)) ∨
    (g 22 (q * 30) = 3 ∧ ls_MA b mv (ls_P g q) (ls_n g q)) ∨
    (g 22 (q * 30) = 4 ∧ ls_MA b mv (ls_P g q) (ls_n g q) ∧ ls_n g q + b 7 (ls_pr (ls_P g q)) = b 8 (ls_pr (ls_P g q)) + 5))
def ls_Q (b g : Nat → Nat → Nat) (mv d : Nat → Nat) (q : Nat) : Prop :=
  g 19 q = 0 ∨ (6 ≤ g 19 q ∧ g 19 q ≤ 30 ∧ g 20 q ≤ 1 ∧ 1 ≤ g 21 q ∧ g 21 q ≤ 14 ∧ (ls_ds g q = 0 → ls_M b g mv d q))
/-- a place's bytes and length and end are alike -/
def ls_E (g g' : Nat → Nat → Nat) (q : Nat) : Prop :=
  g' 19 q = g 19 q ∧ g' 20 q = g 20 q ∧ ∀ i, i < 30 → g' 22 (q * 30 + i) = g 22 (q * 30 + i)
theorem ls_E_n {g g' : Nat → Nat → Nat} {q : Nat} (h : ls_E g g' q) : ls_n g' q = ls_n g q := by
  unfold ls_n; rw [h.2.2 2 (by omega), h.2.2 3 (by omega)]
theorem ls_E_P {g g' : Nat → Nat → Nat} {q : Nat} (h : ls_E g g' q) : ls_P g' q = ls_P g q := by
  unfold ls_P; rw [h.2.2 1 (by omega), h.2.1]
theorem ls_E_k {g g' : Nat → Nat → Nat} {q : Nat} (h : ls_E g g' q) : g' 22 (q * 30) = g 22 (q * 30) := h.2.2 0 (by omega)
theorem ls_E_ds {g g' : Nat → Nat → Nat} {q : Nat} (h : ls_E g g' q) (hl : 2 ≤ g 19 q) (h3 : g 19 q ≤ 30) : ls_ds g' q = ls_ds g q := by
  unfold ls_ds
  rw [h.1]
  exact ck_dis_congr fun i hi => h.2.2 i (by omega)
theorem ls_M_mono {b g g' : Nat → Nat → Nat} {mv d mv' d' : Nat → Nat} {q : Nat} (h : ls_E g g' q) (h3 : g 19 q ≤ 30)
    (hk : ∀ s, g 11 s = 1 → g' 11 s = 1) (hm : ∀ s, mv s ≤ mv' s) (hd : ∀ s, d s ≤ d' s) (hM : ls_M b g mv d q) : ls_M b g' mv' d' q := by
  unfold ls_M at hM ⊢
  rw [ls_E_n h, ls_E_P h, ls_E_k h, h.2.2 1 (by omega)]
  refine ⟨hM.1, ?_⟩
  rcases hM.2 with h1 | ⟨h1, h2⟩ | ⟨h1, h2⟩ | ⟨h1, h2, h4⟩
  · exact Or.inl h1
  · refine Or.inr (Or.inl ⟨h1, ?_⟩)
    obtain ⟨a1, a2, a3, a4, a5, a6⟩ := h2
    refine ⟨hk _ a1, a2, Nat.le_trans a3 (Nat.add_le_add_left (hd _) _), a4, by rw [h.1]; exact a5, fun j hj => ?_⟩
    rw [Nat.add_assoc, h.2.2 (4 + j) (by omega), ← Nat.add_assoc]
    exact a6 j hj
  · exact Or.inr (Or.inr (Or.inl ⟨h1, h2.1, Nat.le_trans h2.2 (Nat.add_le_add_left (hm _) _)⟩))
  · exact Or.inr (Or.inr (Or.inr ⟨h1, ⟨h2.1, Nat.le_trans h2.2 (Nat.add_le_add_left (hm _) _)⟩, h4⟩))
theorem ls_Q_mono {b g g' : Nat → Nat → Nat} {mv d mv' d' : Nat → Nat} {q : Nat} (h : ls_E g g' q)
    (hk : ∀ s, g 11 s = 1 → g' 11 s = 1) (hm : ∀ s, mv s ≤ mv' s) (hd : ∀ s, d s ≤ d' s) (ht : g 19 q ≠ 0 → 1 ≤ g' 21 q ∧ g' 21 q ≤ 14) (hQ : ls_Q b g mv d q) : ls_Q b g' mv' d' q := by
  rcases hQ with h0 | ⟨a1, a2, a3, a4, a5, a6⟩
  · exact Or.inl (by rw [h.1]; exact h0)
  · refine Or.inr ⟨by rw [h.1]; exact a1, by rw [h.1]; exact a2, by rw [h.2.1]; exact a3, (ht (by omega)).1, (ht (by omega)).2, fun hz => ?_⟩
    rw [ls_E_ds h (by omega) a2] at hz
    exact ls_M_mono h a2 hk hm hd (a6 hz)
/-! progress -/
def ls_p1 (g : Nat → Nat → Nat) (s : Nat) : Nat := (1 - g 11 s) + g 3 s + (1 - g 13 s)
def ls_pg (g : Nat → Nat → Nat) : Nat := ls_p1 g 0 + ls_p1 g 1 + ls_p1 g 2 + ls_p1 g 3
theorem ls_pg_lt {g g' : Nat → Nat → Nat} {P : Nat} (hP : P < 4) (h : ls_p1 g' P < ls_p1 g P) (ho : ∀ s, s ≠ P → ls_p1 g' s = ls_p1 g s) : ls_pg g' < ls_pg g := by
  unfold ls_pg
  have h0 := ho 0; have h1 := ho 1; have h2 := ho 2; have h3 := ho 3
  rcases (by omega : P = 0 ∨ P = 1 ∨ P = 2 ∨ P = 3) with e | e | e | e <;> subst e <;> omega
theorem ls_pg_eq {g g' : Nat → Nat → Nat} (h : ∀ s, ls_p1 g' s = ls_p1 g s) : ls_pg g' = ls_pg g := by
  unfold ls_pg; rw [h 0, h 1, h 2, h 3]
/-! reading an answer -/
def ls_drop (g : Nat → Nat → Nat) (P : Nat) : Nat → Nat → Nat := if 0 < g 3 P then ls_up (ls_up g 2 P ((g 2 P + 1) % 8)) 3 P (g 3 P - 1) else g
def ls_rA1 (g : Nat → Nat → Nat) (P n : Nat) : Nat → Nat → Nat :=
  if g 11 P = 0 then ls_up (ls_up (ls_up g 11 P 1) 12 P n) 15 P 0
  else if n = (g 12 P + 1) % 65536 then ls_drop (ls_up (ls_up g 12 P n) 15 P 0) P else g
def ls_rA (g : Nat → Nat → Nat) (P n fl : Nat) : Nat → Nat → Nat :=
  if fl = 1 ∧ n = ls_rA1 g P n 12 P then ls_up (ls_rA1 g P n) 13 P 1 else ls_rA1 g P n
