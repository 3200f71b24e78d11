/-! counting places -/
def ls_cn (p : Nat → Bool) : Nat → Nat
  | 0 => 0
  | n + 1 => ls_cn p n + (if p n then 1 else 0)
theorem ls_cn_le (p : Nat → Bool) (n : Nat) : ls_cn p n ≤ n := by
  induction n with
  | zero => exact Nat.le_refl _
  | succ n ih => show ls_cn p n + (if p n then 1 else 0) ≤ n + 1; split <;> omega
theorem ls_cn_mono {p r : Nat → Bool} {n : Nat} (h : ∀ i, i < n → p i = true → r i = true) : ls_cn p n ≤ ls_cn r n := by
  induction n with
  | zero => exact Nat.le_refl _
  | succ n ih =>
    have := ih fun i hi => h i (by omega)
    show ls_cn p n + (if p n then 1 else 0) ≤ ls_cn r n + (if r n then 1 else 0)
    by_cases e : p n = true
    · rw [if_pos e, if_pos (h n (by omega) e)]; omega
    · rw [if_neg e]; omega
theorem ls_cn_one {p r : Nat → Bool} {n k : Nat} (h : ∀ i, i < n → i ≠ k → p i = true → r i = true) : ls_cn p n ≤ ls_cn r n + (if p k then 1 else 0) := by
  induction n with
  | zero => exact Nat.zero_le _
  | succ n ih =>
    have h' := ih fun i hi => h i (by omega)
    show ls_cn p n + (if p n then 1 else 0) ≤ ls_cn r n + (if r n then 1 else 0) + _
    by_cases e : n = k
    · subst e
      have : ls_cn p n ≤ ls_cn r n := ls_cn_mono fun i hi => h i (by omega) (by omega)
      omega
    · by_cases e2 : p n = true
      · rw [if_pos e2, if_pos (h n (by omega) e e2)]; omega
      · rw [if_neg e2]; omega
theorem ls_cn_free {p : Nat → Bool} {n : Nat} (h : ls_cn p n < n) : ∃ i, i < n ∧ p i = false := by
  induction n with
  | zero => omega
  | succ n ih =>
    by_cases e : p n = true
    · have : ls_cn p n + (if p n then 1 else 0) < n + 1 := h
      rw [if_pos e] at this
      obtain ⟨i, hi, hp⟩ := ih (by omega)
      exact ⟨i, by omega, hp⟩
    · exact ⟨n, by omega, by simpa using e⟩
def ls_U (g : Nat → Nat → Nat) : Nat := ls_cn (fun q => decide (g 19 q ≠ 0)) 40
def ls_L (g : Nat → Nat → Nat) : Nat := ls_cn (fun q => decide (g 19 q ≠ 0 ∧ 2 ≤ g 21 q)) 40
/-! what a transmission does: the piece's first n bytes are f -/
def ls_new (g g' : Nat → Nat → Nat) (e n : Nat) (f : Nat → Nat) (q : Nat) : Prop :=
  g' 19 q = n + 2 ∧ g' 20 q = 1 - e ∧ 1 ≤ g' 21 q ∧ g' 21 q ≤ 14 ∧ (g 16 e = 0 → g' 21 q = 1) ∧ (ls_ds g' q = 0 → ∀ i, i < n → g' 22 (q * 30 + i) = f i)
def ls_TX (g g' : Nat → Nat → Nat) (e n : Nat) (f : Nat → Nat) : Prop :=
  (∀ x, ¬ ls_lnk x → g' x = g x) ∧
  (g' 16 e ≤ g 16 e ∧ ∀ x, x ≠ e → g' 16 x = g 16 x) ∧ (∀ i, i < e * 12 ∨ e * 12 + 12 ≤ i → g' 17 i = g 17 i ∧ g' 18 i = g 18 i) ∧
  (∀ D, (∀ i, i < g 16 e → g 17 (e * 12 + i) < D ∧ g 18 (e * 12 + i) ≤ 3) → ∀ i, i < g' 16 e → g' 17 (e * 12 + i) < D - 1 ∧ g' 18 (e * 12 + i) ≤ 3) ∧
  (∀ q, q < 40 → (ls_E g g' q ∧ g' 21 q = g 21 q) ∨ (g 19 q = 0 ∧ ls_new g g' e n f q)) ∧
  (∀ i, g' 22 i < 256) ∧ (∀ i, g' 23 i < 256) ∧
  ls_U g' ≤ ls_U g + 2 ∧ ls_L g' + g' 16 e ≤ ls_L g + g 16 e ∧
  (g 16 e = 0 → ls_U g < 40 → ∃ q, q < 40 ∧ g 19 q = 0 ∧ ls_new g g' e n f q ∧ ls_ds g' q = 0)
def ls_F (b g : Nat → Nat → Nat) (mv d : Nat → Nat) (e n : Nat) (f : Nat → Nat) : Prop :=
  4 ≤ n ∧ n ≤ 28 ∧ f 1 ≤ 1 ∧ (f 0 = 1 ∨
    (f 0 = 2 ∧ g 11 (ls_pr (1 - e + 2 * f 1)) = 1 ∧ b 8 (1 - e + 2 * f 1) ≤ f 2 * 256 + f 3 ∧ f 2 * 256 + f 3 ≤ b 8 (1 - e + 2 * f 1) + d (ls_pr (1 - e + 2 * f 1)) ∧
      f 2 * 256 + f 3 - b 8 (1 - e + 2 * f 1) < b 3 (ls_pr (1 - e + 2 * f 1)) ∧
      n = 4 + b 4 (ls_sl b (ls_pr (1 - e + 2 * f 1)) (f 2 * 256 + f 3 - b 8 (1 - e + 2 * f 1))) ∧
      ∀ j, j < b 4 (ls_sl b (ls_pr (1 - e + 2 * f 1)) (f 2 * 256 + f 3 - b 8 (1 - e + 2 * f 1))) →
        f (4 + j) = b 5 (ls_sl b (ls_pr (1 - e + 2 * f 1)) (f 2 * 256 + f 3 - b 8 (1 - e + 2 * f 1)) * 24 + j)) ∨
    (f 0 = 3 ∧ ls_MA b mv (1 - e + 2 * f 1) (f 2 * 256 + f 3)) ∨
    (f 0 = 4 ∧ ls_MA b mv (1 - e + 2 * f 1) (f 2 * 256 + f 3) ∧ f 2 * 256 + f 3 + b 7 (ls_pr (1 - e + 2 * f 1)) = b 8 (ls_pr (1 - e + 2 * f 1)) + 5))
theorem ls_nlnk {x : Nat} (h : x < 16) : ¬ ls_lnk x := by
  unfold ls_lnk; omega
/-- what a new piece says -/
theorem ls_new_say {g g' : Nat → Nat → Nat} {e n q : Nat} {f : Nat → Nat} (hn : 4 ≤ n) (N : ls_new g g' e n f q) (hz : ls_ds g' q = 0) :
    g' 22 (q * 30) = f 0 ∧ g' 22 (q * 30 + 1) = f 1 ∧ ls_P g' q = 1 - e + 2 * f 1 ∧ ls_n g' q = f 2 * 256 + f 3 := by
  have h := N.2.2.2.2.2 hz
  have h0 := h 0 (by omega); have h1 := h 1 (by omega); have h2 := h 2 (by omega); have h3 := h 3 (by omega)
  refine ⟨h0, h1, ?_, ?_⟩
  · unfold ls_P; rw [h1, N.2.1]
  · unfold ls_n; rw [h2, h3]
theorem ls_TX_Q {b g g' : Nat → Nat → Nat} {mv d : Nat → Nat} {e n : Nat} {f : Nat → Nat} (he : e < 2) (T : ls_TX g g' e n f) (F : ls_F b g mv d e n f) (Q : ∀ q, q < 40 → ls_Q b g mv d q) : ∀ q, q < 40 → ls_Q b g' mv d q := by
  obtain ⟨t1, t2, t3, t4, t5, t6, t7, t8, t9, t10⟩ := T
  have eKN : g' 11 = g 11 := t1 _ (ls_nlnk (by decide))
  intro q hq
  rcases t5 q hq with ⟨hE, hP⟩ | ⟨h0, N⟩
  · refine ls_Q_mono hE (fun s hs => by rw [eKN]; exact hs) (fun _ => Nat.le_refl _) (fun _ => Nat.le_refl _) (fun h0 => ?_) (Q q hq)
    rw [hP]
    rcases Q q hq with z | ⟨_, _, _, z1, z2, _⟩
    · exact absurd z h0
    · exact ⟨z1, z2⟩
  · obtain ⟨f1, f2, f3, f4⟩ := F
    have N' := N
    obtain ⟨n1, n2, n3, n4, n5, n6⟩ := N
    refine Or.inr ⟨by omega, by omega, by omega, n3, n4, fun hz => ?_⟩
    obtain ⟨s1, s2, s3, s4⟩ := ls_new_say f1 N' hz
    have hf := n6 hz
    refine ⟨by omega, ?_⟩
    rw [s1, s3, s4]
    rcases f4 with h | ⟨h, a1, a2, a3, a4, a5, a6⟩ | ⟨h, a1⟩ | ⟨h, a1, a2⟩
    · exact Or.inl h
    · refine Or.inr (Or.inl ⟨h, by rw [eKN]; exact a1, a2, a3, a4, by omega, fun j hj => ?_⟩)
      rw [Nat.add_assoc, hf (4 + j) (by omega)]
      exact a6 j hj
    · exact Or.inr (Or.inr (Or.inl ⟨h, a1⟩))
    · exact Or.inr (Or.inr (Or.inr ⟨h, a1, a2⟩))
theorem ls_TX_J {b g g' : Nat → Nat → Nat} {mv d : Nat → Nat} {e n : Nat} {f : Nat → Nat} (T : ls_TX g g' e n f) (J : ls_J b g mv d) : ls_J b g' mv d := by
  obtain ⟨t1, t2, t3, t4, t5, t6, t7, t8, t9, t10⟩ := T
  have e : ∀ x, x < 16 → g' x = g x := fun x hx => t1 x (ls_nlnk hx)
  have eIL := e 9 (by decide); have eIB := e 10 (by decide); have eWL := e 4 (by decide); have eWB := e 5 (by decide)
  have eDL := e 0 (by decide); have eDB := e 1 (by decide); have eKN := e 11 (by decide); have eNX := e 12 (by decide)
  have eTF := e 13 (by decide); have eOW := e 14 (by decide); have eRS := e 15 (by decide); have eWC := e 3 (by decide)
  have eWF := e 2 (by decide); have eIC := e 7 (by decide); have eTT := e 8 (by decide); have eIF := e 6 (by decide)
  refine ⟨fun s hs => ?_, ?_, by rw [eWL]; exact J.2.2.1, by rw [eWB]; exact J.2.2.2.1, by rw [eDL]; exact J.2.2.2.2.1, by rw [eDB]; exact J.2.2.2.2.2⟩
  · have h := J.1 s hs
    unfold ls_S ls_C at h ⊢
    rw [eKN, eNX, eTF, eOW, eRS, eWC, eWF, eIC, eTT, eIF, eIL, eIB]
    exact h
  · obtain ⟨y1, y2, y3, y4⟩ := J.2.1
    exact ⟨fun i => by rw [eWB]; exact y1 i, fun i => by rw [eIB]; exact y2 i, t6, t7⟩
def ls_OB (g : Nat → Nat → Nat) (D : Nat → Nat) : Prop := ∀ e, e < 2 → (D e ≤ 16 ∧ g 16 e ≤ 12) ∧ ∀ i, i < g 16 e → g 17 (e * 12 + i) < D e ∧ g 18 (e * 12 + i) ≤ 3
theorem ls_TX_OB {g g' : Nat → Nat → Nat} {e n : Nat} {f D : Nat → Nat} (he : e < 2) (T : ls_TX g g' e n f) (O : ls_OB g D) : ls_OB g' (fun x => if x = e then D x - 1 else D x) := by
  obtain ⟨t1, t2, t3, t4, t5, t6, t7, t8, t9, t10⟩ := T
  intro x hx
  obtain ⟨o1, o2⟩ := O x hx
  by_cases e1 : x = e
  · subst e1
    have hd : (fun y => if y = x then D y - 1 else D y) x = D x - 1 := if_pos rfl
    rw [hd]
    have hb := t4 (D x) o2
    exact ⟨⟨by omega, Nat.le_trans t2.1 o1.2⟩, hb⟩
  · have hd : (fun y => if y = e then D y - 1 else D y) x = D x := if_neg e1
    rw [hd, t2.2 x e1]
    refine ⟨o1, fun i hi => ?_⟩
    obtain ⟨k1, k2⟩ := t3 (x * 12 + i) (by omega)
    rw [k1, k2]
    exact o2 i hi
