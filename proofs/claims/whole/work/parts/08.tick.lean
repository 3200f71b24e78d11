/-! the sending half of a tick -/
def ls_ts (m ja jb : Nat) (g : Nat → Nat → Nat) : Prop :=
  (∃ s, s < 4 ∧ jb ≤ s ∧ ls_act g s ∧ 2 + g 15 s ≤ m) ∨
  (∃ s, s < 4 ∧ ja ≤ ls_pr s ∧ ls_act g s ∧ 1 ≤ m ∧ ls_del g s) ∨
  (∃ s, s < 4 ∧ ls_act g s ∧ ((s < jb ∧ 3 + g 15 s ≤ m) ∨ (2 ≤ m ∧ ∃ q, q < 40 ∧ g 21 q = 1 ∧ ls_rq g s q) ∨ (1 ≤ m ∧ ∃ q, q < 40 ∧ g 21 q = 1 ∧ ls_an g s q))) ∨
  ((∀ s, s < 4 → ¬ ls_act g s) ∧ (∀ q, q < 40 → g 19 q ≠ 0 → g 21 q ≤ m ∧ (ls_re g q → g 21 q + 1 ≤ m)) ∧ ∀ p, p < 4 → ja ≤ p → g 14 p = 1 → 1 ≤ m)
def ls_SI (b : Nat → Nat → Nat) (X m ja jb : Nat) (g : Nat → Nat → Nat) : Prop :=
  ∃ mv d D : Nat → Nat, ls_J b g mv d ∧ (∀ q, q < 40 → ls_Q b g mv d q) ∧ ls_OB g D ∧ ls_U g ≤ 24 + 2 * (ja + jb) ∧ ls_L g + g 16 0 + g 16 1 ≤ 24 ∧
    D 0 + D 1 + ls_pg g ≤ X ∧ (D 0 + D 1 + ls_pg g < X ∨ ls_ts m ja jb g) ∧ ∀ p, p < ja → g 14 p = 0
theorem ls_TX_pg {g g' : Nat → Nat → Nat} {e n : Nat} {f : Nat → Nat} (T : ls_TX g g' e n f) : ls_pg g' = ls_pg g := by
  have h := T.1
  refine ls_pg_eq fun s => ?_
  unfold ls_p1
  rw [h 11 (ls_nlnk (by decide)), h 3 (ls_nlnk (by decide)), h 13 (ls_nlnk (by decide))]
theorem ls_TX_act {g g' : Nat → Nat → Nat} {e n : Nat} {f : Nat → Nat} (T : ls_TX g g' e n f) (s : Nat) : ls_act g' s ↔ ls_act g s := by
  have h := T.1
  unfold ls_act
  rw [h 3 (ls_nlnk (by decide)), h 13 (ls_nlnk (by decide))]
theorem ls_TX_old {g g' : Nat → Nat → Nat} {e n q : Nat} {f : Nat → Nat} (T : ls_TX g g' e n f) (hq : q < 40) (h0 : g 19 q ≠ 0) : ls_E g g' q ∧ g' 21 q = g 21 q := by
  rcases T.2.2.2.2.1 q hq with z | z
  · exact z
  · exact absurd z.1 h0
theorem ls_ts_keep {b g g' : Nat → Nat → Nat} {mv d : Nat → Nat} {m ja jb e n : Nat} {f : Nat → Nat} (hn : 4 ≤ n) (T : ls_TX g g' e n f) (Q : ∀ q, q < 40 → ls_Q b g mv d q)
    (h4 : (∀ s, s < 4 → ¬ ls_act g s) → 1 ≤ m ∧ g 16 e = 0 ∧ f 0 ≠ 1 ∧ f 0 ≠ 2) (S : ls_ts m ja jb g) : ls_ts m ja jb g' := by
  have h := T.1
  have eKN := h 11 (ls_nlnk (by decide)); have eNX := h 12 (ls_nlnk (by decide)); have eRS := h 15 (ls_nlnk (by decide)); have eOW := h 14 (ls_nlnk (by decide))
  have eTT := h 8 (ls_nlnk (by decide)); have eIC := h 7 (ls_nlnk (by decide))
  rcases S with ⟨s, hs, h1, h2, h3⟩ | ⟨s, hs, h1, h2, h3, h5⟩ | ⟨s, hs, h1, h2⟩ | ⟨t1, t2, t3⟩
  · exact Or.inl ⟨s, hs, h1, (ls_TX_act T s).mpr h2, by rw [eRS]; exact h3⟩
  · refine Or.inr (Or.inl ⟨s, hs, h1, (ls_TX_act T s).mpr h2, h3, ?_⟩)
    unfold ls_del at h5 ⊢
    rw [eOW, eKN, eTT, eNX, eIC]
    exact h5
  · refine Or.inr (Or.inr (Or.inl ⟨s, hs, (ls_TX_act T s).mpr h1, ?_⟩))
    rcases h2 with h2 | ⟨h2, q, q1, q2, q3⟩ | ⟨h2, q, q1, q2, q3⟩
    · exact Or.inl (by rw [eRS]; exact h2)
    · have hl := ls_Q_len (Q q q1) q3.1.1
      obtain ⟨k1, k2⟩ := ls_TX_old T q1 q3.1.1
      exact Or.inr (Or.inl ⟨h2, q, q1, by rw [k2]; exact q2, (ls_rq_E k1 (by omega) hl.2 eKN eNX).mpr q3⟩)
    · have hl := ls_Q_len (Q q q1) q3.1.1
      obtain ⟨k1, k2⟩ := ls_TX_old T q1 q3.1.1
      exact Or.inr (Or.inr ⟨h2, q, q1, by rw [k2]; exact q2, (ls_an_E k1 (by omega) hl.2 eKN eNX).mpr q3⟩)
  · obtain ⟨u1, u2, u3, u4⟩ := h4 t1
    refine Or.inr (Or.inr (Or.inr ⟨fun s hs z => t1 s hs ((ls_TX_act T s).mp z), fun q hq h0 => ?_, fun p hp hj z => u1⟩))
    rcases T.2.2.2.2.1 q hq with ⟨k1, k2⟩ | ⟨z, N⟩
    · have h0' : g 19 q ≠ 0 := by rw [← k1.1]; exact h0
      have hl := ls_Q_len (Q q hq) h0'
      rw [k2, ls_re_E k1 (by omega) hl.2]
      exact t2 q hq h0'
    · refine ⟨by have := N.2.2.2.2.1 u2; omega, fun hr => ?_⟩
      have := (ls_new_say hn N hr.1.2).1
      rcases hr.2 with z | z <;> omega
theorem ls_ab {L o0 o1 L' p0 p1 e : Nat} (g g' : Nat → Nat) (he : e < 2) (h0 : g 0 = o0) (h1 : g 1 = o1) (h0' : g' 0 = p0) (h1' : g' 1 = p1) (ho : ∀ x, x ≠ e → g' x = g x) (hs : L' + g' e ≤ L + g e) (h : L + o0 + o1 ≤ 24) : L' + p0 + p1 ≤ 24 := by
  rcases (by omega : e = 0 ∨ e = 1) with z | z
  · subst z
    have := ho 1 (by decide)
    omega
  · subst z
    have := ho 0 (by decide)
    omega
theorem ls_D1 {D : Nat → Nat} {e : Nat} (he : e < 2) : (if 0 = e then D 0 - 1 else D 0) + (if 1 = e then D 1 - 1 else D 1) = D 0 + D 1 - (if D e = 0 then 0 else 1) := by
  rcases (by omega : e = 0 ∨ e = 1) with z | z
  · subst z
    rw [if_pos rfl, if_neg (by decide)]
    split <;> omega
  · subst z
    rw [if_neg (by decide), if_pos rfl]
    split <;> omega
/-- sending: what holds before, with the track that is looked for -/
theorem ls_send {b g g' : Nat → Nat → Nat} {mv d D : Nat → Nat} {X m ja jb ja' jb' e n : Nat} {f : Nat → Nat} (he : e < 2) (T : ls_TX g g' e n f)
    (J : ls_J b g mv d) (Q : ∀ q, q < 40 → ls_Q b g mv d q) (O : ls_OB g D) (hU : ls_U g ≤ 24 + 2 * (ja + jb)) (hL : ls_L g + g 16 0 + g 16 1 ≤ 24)
    (hX : D 0 + D 1 + ls_pg g ≤ X) (hc : ja' + jb' = ja + jb + 1) (hc7 : ja + jb ≤ 7) (F : ls_F b g mv d e n f) (hW : ∀ p, p < ja' → g 14 p = 0)
    (hT : D 0 + D 1 + ls_pg g < X ∨ (g 16 e = 0 → (∃ q, q < 40 ∧ g 19 q = 0 ∧ ls_new g g' e n f q ∧ ls_ds g' q = 0) → ls_ts m ja' jb' g')) : ls_SI b X m ja' jb' g' := by
  have hpg := ls_TX_pg T
  have hS := ls_D1 (D := D) he
  refine ⟨mv, d, fun x => if x = e then D x - 1 else D x, ls_TX_J T J, ls_TX_Q he T F Q, ls_TX_OB he T O, ?_, ?_, ?_, ?_, ?_⟩
  · have := T.2.2.2.2.2.2.2.1
    omega
  · exact ls_ab (e := e) (g 16) (g' 16) he rfl rfl rfl rfl T.2.1.2 T.2.2.2.2.2.2.2.2.1 hL
  · dsimp only
    rw [hS, hpg]; omega
  · dsimp only
    rw [hS, hpg]
    by_cases hD : D e = 0
    · rw [if_pos hD]
      rcases hT with z | z
      · exact Or.inl (by omega)
      · have ho : g 16 e = 0 := by
          refine Nat.eq_zero_of_not_pos fun hp => ?_
          have := ((O e he).2 0 hp).1
          omega
        exact Or.inr (z ho (T.2.2.2.2.2.2.2.2.2 ho (by omega)))
    · rw [if_neg hD]
      exact Or.inl (by
        have : 0 < D 0 + D 1 := by
          rcases (by omega : e = 0 ∨ e = 1) with z | z <;> subst z <;> omega
        omega)
  · intro p hp
    rw [T.1 14 (ls_nlnk (by decide))]
    exact hW p hp
theorem ls_port {j : Nat} : 1 - j % 2 + 2 * (j / 2) = ls_pr j := by unfold ls_pr; omega
/-- port j owes no answer -/
theorem ls_sA0 {b g : Nat → Nat → Nat} {X m j : Nat} (hj : j < 4) (S : ls_SI b X m j j g) (how : g 14 j = 0) : ls_SI b X m (j + 1) j g := by
  obtain ⟨mv, d, D, J, Q, O, hU, hL, hX, hT, hW⟩ := S
  refine ⟨mv, d, D, J, Q, O, by omega, hL, hX, ?_, ?_⟩
  · rcases hT with z | z
    · exact Or.inl z
    · refine Or.inr ?_
      rcases z with z | ⟨s, hs, h1, h2, h3, h5⟩ | z | ⟨t1, t2, t3⟩
      · exact Or.inl z
      · have : ls_pr s ≠ j := fun z => by
          have := h5.1
          rw [z] at this
          omega
        exact Or.inr (Or.inl ⟨s, hs, by omega, h2, h3, h5⟩)
      · exact Or.inr (Or.inr (Or.inl z))
      · exact Or.inr (Or.inr (Or.inr ⟨t1, t2, fun p hp hj => t3 p hp (by omega)⟩))
  · intro p hp
    by_cases e : p = j
    · rw [e]; exact how
    · exact hW p (by omega)
/-- port j answers -/
theorem ls_sA {b g g' : Nat → Nat → Nat} {X m j : Nat} {f : Nat → Nat} (hj : j < 4) (S : ls_SI b X m j j g) (how : g 14 j = 1)
    (T : ls_TX (ls_up g 14 j 0) g' (j % 2) 4 f) (hf0 : f 0 = if g 7 j < 5 then 3 else 4) (hf1 : f 1 = j / 2) (hf2 : f 2 * 256 + f 3 = g 8 j) : ls_SI b X m (j + 1) j g' := by
  obtain ⟨mv, d, D, J, Q, O, hU, hL, hX, hT, hW⟩ := S
  have J1 : ls_J b (ls_up g 14 j 0) mv d := by
    refine ls_J_of J ?_ rfl rfl rfl rfl rfl rfl rfl rfl
    intro s hs
    obtain ⟨b1, b2, b3, b4, b5, b6, b7, b8, b9, b10, b11, b12, b13, b14, b15, b16⟩ := (J.1 s hs).1
    refine ⟨b1, b2, b3, b4, b5, b6, b7, b8, b9, ?_, b11, b12, b13, b14, b15, b16⟩
    show (if s = j then 0 else g 14 s) ≤ 1
    split <;> omega
  have Q1 : ∀ q, q < 40 → ls_Q b (ls_up g 14 j 0) mv d q := fun q hq => Q q hq
  obtain ⟨b1, b2, b3, b4, b5, b6, b7, b8, b9, b10, b11, b12, b13, b14, b15, b16⟩ := (J.1 (ls_pr j) (ls_pr_lt hj)).1
  rw [ls_pr_pr] at b2 b6 b7 b14 b15 b16
  have hMA : ls_MA b mv (ls_pr j) (g 8 j) := by
    unfold ls_MA
    rw [ls_pr_pr]; omega
  have F : ls_F b (ls_up g 14 j 0) mv d (j % 2) 4 f := by
    refine ⟨Nat.le_refl _, by decide, by omega, ?_⟩
    rw [hf1, ls_port, hf2]
    by_cases h5 : g 7 j < 5
    · rw [if_pos h5] at hf0
      exact Or.inr (Or.inr (Or.inl ⟨hf0, hMA⟩))
    · rw [if_neg h5] at hf0
      refine Or.inr (Or.inr (Or.inr ⟨hf0, hMA, ?_⟩))
      rw [ls_pr_pr]; omega
  refine ls_send (ja := j) (jb := j) (D := D) (Nat.mod_lt _ (by decide)) T J1 Q1 O hU hL hX (by omega) (by omega) F ?_ ?_
  · intro p hp
    show (if p = j then 0 else g 14 p) = 0
    split
    · rfl
    · exact hW p (by omega)
  · rcases hT with z | z
    · exact Or.inl z
    · refine Or.inr fun ho hq => ?_
      have keep : ls_ts m (j + 1) j (ls_up g 14 j 0) → ls_ts m (j + 1) j g' := fun S1 =>
        ls_ts_keep (Nat.le_refl 4) T Q1 (fun na => ⟨by
          rcases z with ⟨s, hs, _, h2, _⟩ | ⟨s, hs, _, h2, _⟩ | ⟨s, hs, h2, _⟩ | ⟨t1, t2, t3⟩
          · exact absurd h2 (na s hs)
          · exact absurd h2 (na s hs)
          · exact absurd h2 (na s hs)
          · exact t3 j hj (Nat.le_refl _) how, ho, by rw [hf0]; split <;> omega, by rw [hf0]; split <;> omega⟩) S1
      rcases z with z | ⟨s, hs, h1, h2, h3, h5⟩ | z | ⟨t1, t2, t3⟩
      · exact keep (Or.inl z)
      · by_cases e : ls_pr s = j
        · have es : s = ls_pr j := by rw [← e, ls_pr_pr]
          obtain ⟨q, q1, q2, q3, q4⟩ := hq
          obtain ⟨s1, s2, s3, s4⟩ := ls_new_say (Nat.le_refl 4) q3 q4
          have hKN : g' 11 = g 11 := T.1 11 (ls_nlnk (by decide))
          have hNX : g' 12 = g 12 := T.1 12 (ls_nlnk (by decide))
          refine Or.inr (Or.inr (Or.inl ⟨s, hs, (ls_TX_act T s).mpr h2, Or.inr (Or.inr ⟨h3, q, q1, q3.2.2.2.2.1 ho, ⟨by rw [q3.1]; omega, q4⟩, ?_, ?_, ?_⟩)⟩))
          · rw [s3, hf1, ls_port, es]
          · rw [s1, hf0]; split <;> omega
          · intro zk
            rw [hKN] at zk
            rw [s4, hf2, hNX, s1]
            have := h5.2 zk
            rw [e] at this
            rcases this with w | ⟨w, w2⟩
            · exact Or.inl w
            · refine Or.inr ⟨w, ?_⟩
              rw [hf0, if_neg (by omega)]
        · refine keep (Or.inr (Or.inl ⟨s, hs, by omega, h2, h3, ?_, h5.2⟩))
          show (if ls_pr s = j then 0 else g 14 (ls_pr s)) = 1
          rw [if_neg e]; exact h5.1
      · exact keep (Or.inr (Or.inr (Or.inl z)))
      · refine keep (Or.inr (Or.inr (Or.inr ⟨t1, t2, fun p hp hjp zz => ?_⟩)))
        refine t3 p hp (by omega) ?_
        have : (if p = j then 0 else g 14 p) = 1 := zz
        rw [if_neg (by omega)] at this
        exact this
def ls_dec (g : Nat → Nat → Nat) (j : Nat) : Nat → Nat → Nat := if 0 < g 15 j then ls_up g 15 j (g 15 j - 1) else g
theorem ls_dec_RS (g : Nat → Nat → Nat) (j s : Nat) : ls_dec g j 15 s = if s = j then g 15 j - 1 else g 15 s := by
  unfold ls_dec
  split
  · rfl
  · split
    · next e => subst e; omega
    · rfl
theorem ls_dec_o (g : Nat → Nat → Nat) (j f : Nat) (h : f ≠ 15) : ls_dec g j f = g f := by
  unfold ls_dec
  split
  · funext i; simp [ls_up, h]
  · rfl
/-- only RS differs, at j -/
theorem ls_RS_J {b g g1 : Nat → Nat → Nat} {mv d : Nat → Nat} {j : Nat} (J : ls_J b g mv d) (ho : ∀ f, f ≠ 15 → g1 f = g f) (hr : ∀ s, s ≠ j → g1 15 s = g 15 s) (hj : g1 15 j ≤ 4) : ls_J b g1 mv d := by
  refine ls_J_of J ?_ (ho _ (by decide)) (ho _ (by decide)) (ho _ (by decide)) (ho _ (by decide)) (ho _ (by decide)) (ho _ (by decide)) (ho _ (by decide)) (ho _ (by decide))
  intro s hs
  have h := (J.1 s hs).1
  have h4 : g1 15 s ≤ 4 := by
    by_cases e : s = j
    · rw [e]; exact hj
    · rw [hr s e]; exact h.2.2.2.2.2.2.2.2.2.2.1
  unfold ls_S at h ⊢
  rw [ho 11 (by decide), ho 12 (by decide), ho 13 (by decide), ho 14 (by decide), ho 3 (by decide), ho 2 (by decide), ho 7 (by decide), ho 8 (by decide), ho 6 (by decide)]
  obtain ⟨b1, b2, b3, b4, b5, b6, b7, b8, b9, b10, b11, b12, b13, b14, b15, b16⟩ := h
  exact ⟨b1, b2, b3, b4, b5, b6, b7, b8, b9, b10, h4, b12, b13, b14, b15, b16⟩
theorem ls_RS_E {g g1 : Nat → Nat → Nat} (ho : ∀ f, f ≠ 15 → g1 f = g f) (q : Nat) : ls_E g g1 q :=
  ⟨by rw [ho 19 (by decide)], by rw [ho 20 (by decide)], fun i _ => by rw [ho 22 (by decide)]⟩
theorem ls_RS_Q {b g g1 : Nat → Nat → Nat} {mv d : Nat → Nat} (ho : ∀ f, f ≠ 15 → g1 f = g f) {q : Nat} (Q : ls_Q b g mv d q) : ls_Q b g1 mv d q := by
  refine ls_Q_mono (ls_RS_E ho q) (fun s hs => by rw [ho 11 (by decide)]; exact hs) (fun _ => Nat.le_refl _) (fun _ => Nat.le_refl _) (fun h0 => ?_) Q
  rw [ho 21 (by decide)]
  rcases Q with z | ⟨_, _, _, z1, z2, _⟩
  · exact absurd z h0
  · exact ⟨z1, z2⟩
theorem ls_RS_pg {g g1 : Nat → Nat → Nat} (ho : ∀ f, f ≠ 15 → g1 f = g f) : ls_pg g1 = ls_pg g := by
  refine ls_pg_eq fun s => ?_
  unfold ls_p1
  rw [ho 11 (by decide), ho 3 (by decide), ho 13 (by decide)]
theorem ls_RS_act {g g1 : Nat → Nat → Nat} (ho : ∀ f, f ≠ 15 → g1 f = g f) (s : Nat) : ls_act g1 s ↔ ls_act g s := by
  unfold ls_act
  rw [ho 3 (by decide), ho 13 (by decide)]
theorem ls_RS_U {g g1 : Nat → Nat → Nat} (ho : ∀ f, f ≠ 15 → g1 f = g f) : ls_U g1 = ls_U g ∧ ls_L g1 = ls_L g := by
  unfold ls_U ls_L
  rw [ho 19 (by decide), ho 21 (by decide)]
  exact ⟨rfl, rfl⟩
/-- the track over a change of RS at j, for what does not speak of j's RS -/
theorem ls_RS_ts {b g g1 : Nat → Nat → Nat} {mv d : Nat → Nat} {m ja j : Nat} (ho : ∀ f, f ≠ 15 → g1 f = g f) (hr : ∀ s, s ≠ j → g1 15 s = g 15 s) (Q : ∀ q, q < 40 → ls_Q b g mv d q)
    (S : ls_ts m ja j g) : (ls_act g j ∧ 2 + g 15 j ≤ m) ∨ ls_ts m ja (j + 1) g1 := by
  have eKN := ho 11 (by decide); have eNX := ho 12 (by decide); have ePK := ho 21 (by decide)
  rcases S with ⟨s, hs, h1, h2, h3⟩ | ⟨s, hs, h1, h2, h3, h5⟩ | ⟨s, hs, h1, h2⟩ | ⟨t1, t2, t3⟩
  · by_cases e : s = j
    · subst e; exact Or.inl ⟨h2, h3⟩
    · exact Or.inr (Or.inl ⟨s, hs, by omega, (ls_RS_act ho s).mpr h2, by rw [hr s e]; exact h3⟩)
  · refine Or.inr (Or.inr (Or.inl ⟨s, hs, h1, (ls_RS_act ho s).mpr h2, h3, ?_⟩))
    unfold ls_del at h5 ⊢
    rw [ho 14 (by decide), eKN, ho 8 (by decide), eNX, ho 7 (by decide)]
    exact h5
  · refine Or.inr (Or.inr (Or.inr (Or.inl ⟨s, hs, (ls_RS_act ho s).mpr h1, ?_⟩)))
    rcases h2 with ⟨h2, h3⟩ | ⟨h2, q, q1, q2, q3⟩ | ⟨h2, q, q1, q2, q3⟩
    · exact Or.inl ⟨by omega, by rw [hr s (by omega)]; exact h3⟩
    · have hl := ls_Q_len (Q q q1) q3.1.1
      exact Or.inr (Or.inl ⟨h2, q, q1, by rw [ePK]; exact q2, (ls_rq_E (ls_RS_E ho q) (by omega) hl.2 eKN eNX).mpr q3⟩)
    · have hl := ls_Q_len (Q q q1) q3.1.1
      exact Or.inr (Or.inr ⟨h2, q, q1, by rw [ePK]; exact q2, (ls_an_E (ls_RS_E ho q) (by omega) hl.2 eKN eNX).mpr q3⟩)
  · refine Or.inr (Or.inr (Or.inr (Or.inr ⟨fun s hs z => t1 s hs ((ls_RS_act ho s).mp z), fun q hq h0 => ?_, fun p hp hj z => t3 p hp hj (by rw [← ho 14 (by decide)]; exact z)⟩)))
    rw [ho 19 (by decide)] at h0
    have hl := ls_Q_len (Q q hq) h0
    rw [ePK, ls_re_E (ls_RS_E ho q) (by omega) hl.2]
    exact t2 q hq h0
/-- port j has nothing to send now -/
theorem ls_sB {b g : Nat → Nat → Nat} {X m j : Nat} (hj : j < 4) (S : ls_SI b X m (j + 1) j g) (hn : ¬ (ls_dec g j 15 j = 0 ∧ ls_act g j)) : ls_SI b X m (j + 1) (j + 1) (ls_dec g j) := by
  obtain ⟨mv, d, D, J, Q, O, hU, hL, hX, hT, hW⟩ := S
  have ho : ∀ f, f ≠ 15 → ls_dec g j f = g f := fun f h => ls_dec_o g j f h
  have hr : ∀ s, s ≠ j → ls_dec g j 15 s = g 15 s := fun s h => by rw [ls_dec_RS, if_neg h]
  have hrj : ls_dec g j 15 j = g 15 j - 1 := by rw [ls_dec_RS, if_pos rfl]
  have h4 := (J.1 j hj).1.2.2.2.2.2.2.2.2.2.2.1
  have hUL := ls_RS_U ho
  refine ⟨mv, d, D, ls_RS_J J ho hr (by omega), fun q hq => ls_RS_Q ho (Q q hq), ?_, by rw [hUL.1]; omega, ?_, ?_, ?_, ?_⟩
  · unfold ls_OB
    rw [ho 16 (by decide), ho 17 (by decide), ho 18 (by decide)]
    exact O
  · rw [hUL.2, ho 16 (by decide)]; exact hL
  · rw [ls_RS_pg ho]; exact hX
  · rw [ls_RS_pg ho]
    rcases hT with z | z
    · exact Or.inl z
    · refine Or.inr ?_
      rcases ls_RS_ts ho hr Q z with ⟨h1, h2⟩ | h
      · refine Or.inr (Or.inr (Or.inl ⟨j, hj, (ls_RS_act ho j).mpr h1, Or.inl ⟨by omega, ?_⟩⟩))
        have : ls_dec g j 15 j ≠ 0 := fun z => hn ⟨z, h1⟩
        omega
      · exact h
  · intro p hp
    rw [ho 14 (by decide)]; exact hW p hp
/-- port j sends a request -/
theorem ls_sC {b g g' : Nat → Nat → Nat} {X m j n : Nat} {f : Nat → Nat} (hj : j < 4) (S : ls_SI b X m (j + 1) j g) (ha : ls_act g j)
    (T : ls_TX (ls_up (ls_dec g j) 15 j 4) g' (j % 2) n f) (B : ls_B b) (hf1 : f 1 = j / 2)
    (hf : (g 11 j = 0 ∧ n = 4 ∧ f 0 = 1) ∨ (g 11 j = 1 ∧ f 0 = 2 ∧ f 2 * 256 + f 3 = g 12 j ∧ n = 4 + g 4 (j * 8 + g 2 j % 8) ∧ ∀ i, i < g 4 (j * 8 + g 2 j % 8) → f (4 + i) = g 5 ((j * 8 + g 2 j % 8) * 24 + i))) :
    ls_SI b X m (j + 1) (j + 1) g' := by
  obtain ⟨mv, d, D, J, Q, O, hU, hL, hX, hT, hW⟩ := S
  have ho : ∀ f, f ≠ 15 → ls_up (ls_dec g j) 15 j 4 f = g f := fun f h => by
    rw [← ls_dec_o g j f h]
    funext i; simp [ls_up, h]
  have hr : ∀ s, s ≠ j → ls_up (ls_dec g j) 15 j 4 15 s = g 15 s := fun s h => by
    show (if s = j then 4 else ls_dec g j 15 s) = g 15 s
    rw [if_neg h, ls_dec_RS, if_neg h]
  have hrj : ls_up (ls_dec g j) 15 j 4 15 j = 4 := by
    show (if j = j then 4 else ls_dec g j 15 j) = 4
    exact if_pos rfl
  generalize hg1 : ls_up (ls_dec g j) 15 j 4 = g1 at *
  have hUL := ls_RS_U ho
  have eKN := ho 11 (by decide); have eNX := ho 12 (by decide)
  obtain ⟨b1, b2, b3, b4, b5, b6, b7, b8, b9, b10, b11, b12, b13, b14, b15, b16⟩ := (J.1 j hj).1
  have hWL := J.2.2.1
  have hWB := J.2.2.2.1
  have hn4 : 4 ≤ n := by rcases hf with h | h <;> omega
  have F : ls_F b g1 mv d (j % 2) n f := by
    unfold ls_F
    rw [hf1, ls_port, ls_pr_pr]
    rcases hf with ⟨h1, h2, h3⟩ | ⟨h1, h2, h3, h5, h6⟩
    · exact ⟨by omega, by omega, by omega, Or.inl h3⟩
    · have hx := b6 h1
      have hsl : j * 8 + g 2 j % 8 = ls_sl b j (g 12 j - b 8 (ls_pr j)) := by
        unfold ls_sl; rw [b13, hx]; omega
      rw [h3]
      rw [hsl, hWL] at h5
      have hL24 := B.2 (ls_sl b j (g 12 j - b 8 (ls_pr j)))
      refine ⟨by omega, by omega, by omega, Or.inr (Or.inl ⟨h2, by rw [eKN]; exact h1, by omega, by omega, by have := ha.1; omega, h5, fun i hi => ?_⟩)⟩
      rw [hsl, hWL, hWB] at h6
      exact h6 i hi
  refine ls_send (ja := j + 1) (jb := j) (D := D) (Nat.mod_lt _ (by decide)) T (ls_RS_J J ho hr (by omega)) (fun q hq => ls_RS_Q ho (Q q hq)) ?_ (by rw [hUL.1]; omega) ?_ ?_ (by omega) (by omega) F ?_ ?_
  · unfold ls_OB
    rw [ho 16 (by decide), ho 17 (by decide), ho 18 (by decide)]
    exact O
  · rw [hUL.2, ho 16 (by decide)]; exact hL
  · rw [ls_RS_pg ho]; exact hX
  · intro p hp
    rw [ho 14 (by decide)]; exact hW p hp
  · rw [ls_RS_pg ho]
    rcases hT with z | z
    · exact Or.inl z
    · refine Or.inr fun hoc hq => ?_
      rcases ls_RS_ts ho hr Q z with ⟨h1, h2⟩ | h
      · obtain ⟨q, q1, q2, q3, q4⟩ := hq
        obtain ⟨s1, s2, s3, s4⟩ := ls_new_say hn4 q3 q4
        have hKN : g' 11 = g1 11 := T.1 11 (ls_nlnk (by decide))
        have hNX : g' 12 = g1 12 := T.1 12 (ls_nlnk (by decide))
        refine Or.inr (Or.inr (Or.inl ⟨j, hj, (ls_TX_act T j).mpr ((ls_RS_act ho j).mpr h1), Or.inr (Or.inl ⟨by omega, q, q1, q3.2.2.2.2.1 hoc, ⟨by rw [q3.1]; omega, q4⟩, ?_, ?_, ?_⟩)⟩))
        · rw [s3, hf1, ls_port]
        · rw [s1]; rcases hf with h | h <;> omega
        · intro zk
          rw [hKN, eKN] at zk
          rw [s1, s4, hNX, eNX]
          rcases hf with h | h
          · omega
          · exact ⟨h.2.1, h.2.2.1⟩
      · exact ls_ts_keep hn4 T (fun q hq => ls_RS_Q ho (Q q hq)) (fun na => absurd ((ls_RS_act ho j).mpr ha) (na j hj)) h
/-! a whole tick -/
def ls_LV (M : Nat) (g : Nat → Nat → Nat) : Prop :=
  (∃ s, s < 4 ∧ ls_act g s ∧ (3 + g 15 s ≤ M ∨ (2 ≤ M ∧ ∃ q, q < 40 ∧ g 21 q = 1 ∧ ls_rq g s q) ∨ (1 ≤ M ∧ ∃ q, q < 40 ∧ g 21 q = 1 ∧ ls_an g s q))) ∨
  ((∀ s, s < 4 → ¬ ls_act g s) ∧ (∀ q, q < 40 → g 19 q ≠ 0 → g 21 q ≤ M ∧ (ls_re g q → g 21 q + 1 ≤ M)))
def ls_TI (b : Nat → Nat → Nat) (X M : Nat) (g : Nat → Nat → Nat) : Prop :=
  ∃ mv d D : Nat → Nat, ls_J b g mv d ∧ (∀ q, q < 40 → ls_Q b g mv d q) ∧ ls_OB g D ∧ ls_L g + g 16 0 + g 16 1 ≤ 24 ∧
    D 0 + D 1 + ls_pg g ≤ X ∧ ls_LV M g ∧ ∀ p, p < 4 → g 14 p = 0
def ls_qt (g : Nat → Nat → Nat) : Prop := (∀ s, s < 4 → ¬ ls_act g s) ∧ ∀ q, q < 40 → g 19 q = 0
theorem ls_LV_0 {b g : Nat → Nat → Nat} {mv d : Nat → Nat} (Q : ∀ q, q < 40 → ls_Q b g mv d q) (h : ls_LV 0 g) : ls_qt g := by
  rcases h with ⟨s, hs, h1, h2⟩ | ⟨t1, t2⟩
  · omega
  · refine ⟨t1, fun q hq => ?_⟩
    refine Classical.byContradiction fun h0 => ?_
    have h1 := (t2 q hq h0).1
    rcases Q q hq with z | ⟨_, _, _, z1, z2, _⟩
    · exact h0 z
    · omega
theorem ls_LV_15 {b g : Nat → Nat → Nat} {mv d : Nat → Nat} (J : ls_J b g mv d) (Q : ∀ q, q < 40 → ls_Q b g mv d q) : ls_LV 15 g := by
  by_cases h : ∃ s, s < 4 ∧ ls_act g s
  · obtain ⟨s, hs, ha⟩ := h
    have h4 := (J.1 s hs).1.2.2.2.2.2.2.2.2.2.2.1
    exact Or.inl ⟨s, hs, ha, Or.inl (by omega)⟩
  · refine Or.inr ⟨fun s hs ha => h ⟨s, hs, ha⟩, fun q hq h0 => ?_⟩
    rcases Q q hq with z | ⟨_, _, _, z1, z2, _⟩
    · exact absurd z h0
    · exact ⟨by omega, fun _ => by omega⟩
theorem ls_T_start {b g : Nat → Nat → Nat} {X M : Nat} (hM : 1 ≤ M) (T : ls_TI b X M g) : ls_DI b g (M - 1) 0 g := by
  obtain ⟨mv, d, D, J, Q, O, hL, hX, hV, hW⟩ := T
  refine ⟨mv, d, J, Q, fun _ _ => rfl, fun q hq h0 => ⟨h0, fun z => by omega, fun _ => rfl⟩, Nat.le_refl _, Or.inr ?_⟩
  rcases hV with ⟨s, hs, ha, h⟩ | ⟨t1, t2⟩
  · rcases h with h | ⟨h, q, q1, q2, q3⟩ | ⟨h, q, q1, q2, q3⟩
    · exact Or.inl ⟨s, hs, ha, by omega⟩
    · exact Or.inr (Or.inl ⟨s, hs, ha, by omega, q, Nat.zero_le _, q1, q2, q3⟩)
    · exact Or.inr (Or.inr (Or.inr (Or.inl ⟨s, hs, ha, q, Nat.zero_le _, q1, q2, q3⟩)))
  · refine Or.inr (Or.inr (Or.inr (Or.inr ⟨t1, fun q hq h0 => ?_, fun p hp z => by have := hW p hp; omega⟩)))
    obtain ⟨k1, k2⟩ := t2 q hq h0
    exact ⟨fun _ => ⟨by omega, fun z => by have := k2 z; omega⟩, fun z => by omega⟩
theorem ls_T_mid {b gs g : Nat → Nat → Nat} {X M m : Nat} (T : ls_TI b X M gs) (D : ls_DI b gs m 40 g) : ls_SI b X m 0 0 g := by
  obtain ⟨mv0, d0, D0, J0, Q0, O0, hL, hX, hV, hW⟩ := T
  obtain ⟨mv, d, J, Q, O, K, p1, T⟩ := D
  have eOC := O 16 (Or.inl rfl); have eOA := O 17 (Or.inr (Or.inl rfl)); have eOK := O 18 (Or.inr (Or.inr rfl))
  have hUL : ls_U g ≤ ls_L gs ∧ ls_L g ≤ ls_L gs := by
    constructor
    · refine ls_cn_mono fun q hq h => ?_
      have h0 : g 19 q ≠ 0 := by simpa using h
      obtain ⟨k1, k2, k3⟩ := K q hq h0
      have h3 := k2 hq
      rcases Q q hq with z | ⟨_, _, _, z1, z2, _⟩
      · exact absurd z h0
      · have : gs 19 q ≠ 0 ∧ 2 ≤ gs 21 q := ⟨k1, by omega⟩
        exact decide_eq_true this
    · refine ls_cn_mono fun q hq h => ?_
      have h0 : g 19 q ≠ 0 ∧ 2 ≤ g 21 q := of_decide_eq_true h
      obtain ⟨k1, k2, k3⟩ := K q hq h0.1
      have h3 := k2 hq
      have : gs 19 q ≠ 0 ∧ 2 ≤ gs 21 q := ⟨k1, by omega⟩
      exact decide_eq_true this
  refine ⟨mv, d, D0, J, Q, ?_, by omega, by rw [eOC]; omega, by omega, ?_, fun p hp => by omega⟩
  · unfold ls_OB
    rw [eOC, eOA, eOK]
    exact O0
  · rcases T with T | T
    · exact Or.inl (by omega)
    · refine Or.inr ?_
      rcases T with ⟨s, hs, ha, hr⟩ | ⟨s, hs, ha, hm, q, q1, q2, q3, q4⟩ | ⟨s, hs, ha, hm, hd⟩ | ⟨s, hs, ha, q, q1, q2, q3, q4⟩ | ⟨t1, t2, t3⟩
      · exact Or.inl ⟨s, hs, Nat.zero_le _, ha, hr⟩
      · omega
      · exact Or.inr (Or.inl ⟨s, hs, Nat.zero_le _, ha, hm, hd⟩)
      · omega
      · exact Or.inr (Or.inr (Or.inr ⟨t1, fun q hq h0 => (t2 q hq h0).2 hq, fun p hp _ => t3 p hp⟩))
theorem ls_T_end {b g : Nat → Nat → Nat} {X m : Nat} (S : ls_SI b X m 4 4 g) : ls_TI b X m g ∨ (1 ≤ X ∧ ls_TI b (X - 1) 15 g) := by
  obtain ⟨mv, d, D, J, Q, O, hU, hL, hX, hT, hW⟩ := S
  rcases hT with z | z
  · exact Or.inr ⟨by omega, mv, d, D, J, Q, O, hL, by omega, ls_LV_15 J Q, hW⟩
  · refine Or.inl ⟨mv, d, D, J, Q, O, hL, hX, ?_, hW⟩
    rcases z with ⟨s, hs, h1, h2, h3⟩ | ⟨s, hs, h1, h2, h3, h5⟩ | ⟨s, hs, h1, h2⟩ | ⟨t1, t2, t3⟩
    · omega
    · have := ls_pr_lt hs; omega
    · refine Or.inl ⟨s, hs, h1, ?_⟩
      rcases h2 with h2 | h2 | h2
      · exact Or.inl h2.2
      · exact Or.inr (Or.inl h2)
      · exact Or.inr (Or.inr h2)
    · exact Or.inr ⟨t1, t2⟩
