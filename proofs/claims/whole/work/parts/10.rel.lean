/-! the reference's state as naturals (h), and the relation -/
def lr_R (g h : Nat → Nat → Nat) : Prop :=
  (∀ e, e < 2 → h 0 e = g 0 e ∧ ∀ j, j < g 0 e → h 1 (24 * e + j) = g 1 (e * 24 + j)) ∧
  (∀ s, s < 4 → h 2 s = g 3 s ∧ ∀ i, i < g 3 s → h 3 (8 * s + i) = g 4 (ls_sl g s i) ∧ ∀ j, j < g 4 (ls_sl g s i) → h 4 (192 * s + 24 * i + j) = g 5 (ls_sl g s i * 24 + j)) ∧
  (∀ p, p < 4 → h 5 p = g 7 p ∧ h 8 p = g 8 p ∧ ∀ i, i < g 7 p → h 6 (5 * p + i) = g 9 (ls_in g p i) ∧ ∀ j, j < g 9 (ls_in g p i) → h 7 (120 * p + 24 * i + j) = g 10 (ls_in g p i * 24 + j))
/-- what holds of the component between two calls; k: the turn's first cell -/
def lr_K (k : Nat) (g : Nat → Nat → Nat) : Prop :=
  (∀ s, s < 4 → g 3 s ≤ 8 ∧ g 2 s < 8 ∧ g 7 s ≤ 5 ∧ g 6 s < 5 ∧ g 8 s ≤ 2 * k ∧ g 11 s ≤ 1 ∧ (g 11 s = 1 → g 12 s = g 8 (ls_pr s)) ∧ g 13 s ≤ 1 ∧ g 14 s = 0 ∧ g 15 s ≤ 4) ∧
  ((∀ i, g 4 i ≤ 24) ∧ ∀ p, p < 4 → ∀ i, i < g 7 p → g 9 (ls_in g p i) ≤ 24) ∧ ls_Y g ∧ (∀ i, g 1 i < 256) ∧ (∀ e, e < 2 → g 0 e ≤ 24 ∧ g 16 e ≤ 12) ∧
  (∀ e, e < 2 → ∀ i, i < g 16 e → g 17 (e * 12 + i) < 16 ∧ g 18 (e * 12 + i) ≤ 3) ∧ ∀ q, q < 40 → g 19 q = 0
theorem lr_K_up {k : Nat} {g : Nat → Nat → Nat} (h : lr_K k g) : lr_K (k + 4) g := by
  refine ⟨fun s hs => ?_, h.2⟩
  obtain ⟨a1, a2, a3, a4, a5, a6⟩ := h.1 s hs
  exact ⟨a1, a2, a3, a4, by omega, a6⟩
def ly_S (h0 h : Nat → Nat → Nat) (mv : Nat → Nat) (s : Nat) : Prop :=
  h 2 s + mv s = h0 2 s ∧ h 5 (ls_pr s) = h0 5 (ls_pr s) + mv s ∧ h 8 (ls_pr s) = h0 8 (ls_pr s) + mv s ∧ h 5 (ls_pr s) ≤ 5 ∧
  (∀ i, i < h 2 s → h 3 (8 * s + i) = h0 3 (8 * s + (i + mv s)) ∧ ∀ j, j < 24 → h 4 (192 * s + 24 * i + j) = h0 4 (192 * s + 24 * (i + mv s) + j)) ∧
  (∀ i, i < h0 5 (ls_pr s) → h 6 (5 * ls_pr s + i) = h0 6 (5 * ls_pr s + i) ∧ ∀ j, j < 24 → h 7 (120 * ls_pr s + 24 * i + j) = h0 7 (120 * ls_pr s + 24 * i + j)) ∧
  (∀ i, i < mv s → h 6 (5 * ls_pr s + (h0 5 (ls_pr s) + i)) = h0 3 (8 * s + i) ∧ ∀ j, j < 24 → h 7 (120 * ls_pr s + 24 * (h0 5 (ls_pr s) + i) + j) = h0 4 (192 * s + 24 * i + j))
def ly_mv (h : Nat → Nat → Nat) (s p : Nat) : Nat → Nat → Nat := fun f x =>
  if f = 6 then (if x = 5 * p + h 5 p then h 3 (8 * s) else h 6 x)
  else if f = 7 then (if 120 * p + 24 * h 5 p ≤ x ∧ x < 120 * p + 24 * h 5 p + 24 then h 4 (192 * s + (x - (120 * p + 24 * h 5 p))) else h 7 x)
  else if f = 5 then (if x = p then h 5 p + 1 else h 5 x)
  else if f = 8 then (if x = p then h 8 p + 1 else h 8 x)
  else if f = 2 then (if x = s then h 2 s - 1 else h 2 x)
  else if f = 3 then (if 8 * s ≤ x ∧ x < 8 * s + (h 2 s - 1) then h 3 (x + 1) else h 3 x)
  else if f = 4 then (if 192 * s ≤ x ∧ x < 192 * s + 24 * (h 2 s - 1) then h 4 (x + 24) else h 4 x)
  else h f x
theorem ly_mv_G (h : Nat → Nat → Nat) (s p x : Nat) : ly_mv h s p 6 x = if x = 5 * p + h 5 p then h 3 (8 * s) else h 6 x := rfl
theorem ly_mv_H (h : Nat → Nat → Nat) (s p x : Nat) : ly_mv h s p 7 x = if 120 * p + 24 * h 5 p ≤ x ∧ x < 120 * p + 24 * h 5 p + 24 then h 4 (192 * s + (x - (120 * p + 24 * h 5 p))) else h 7 x := rfl
theorem ly_mv_F (h : Nat → Nat → Nat) (s p x : Nat) : ly_mv h s p 5 x = if x = p then h 5 p + 1 else h 5 x := rfl
theorem ly_mv_I (h : Nat → Nat → Nat) (s p x : Nat) : ly_mv h s p 8 x = if x = p then h 8 p + 1 else h 8 x := rfl
theorem ly_mv_C (h : Nat → Nat → Nat) (s p x : Nat) : ly_mv h s p 2 x = if x = s then h 2 s - 1 else h 2 x := rfl
theorem ly_mv_D (h : Nat → Nat → Nat) (s p x : Nat) : ly_mv h s p 3 x = if 8 * s ≤ x ∧ x < 8 * s + (h 2 s - 1) then h 3 (x + 1) else h 3 x := rfl
theorem ly_mv_E (h : Nat → Nat → Nat) (s p x : Nat) : ly_mv h s p 4 x = if 192 * s ≤ x ∧ x < 192 * s + 24 * (h 2 s - 1) then h 4 (x + 24) else h 4 x := rfl
theorem ly_mv_S {h0 h : Nat → Nat → Nat} {mv : Nat → Nat} {s : Nat} (h8 : ∀ t, t < 4 → h0 2 t ≤ 8) (hS : ∀ t, t < 4 → ly_S h0 h mv t) (hs : s < 4) (hw : 0 < h 2 s) (hc : h 5 (ls_pr s) < 5) :
    ∀ t, t < 4 → ly_S h0 (ly_mv h s (ls_pr s)) (fun t => if t = s then mv t + 1 else mv t) t := by
  intro t ht
  obtain ⟨a1, a2, a3, a4, a5, a6, a7⟩ := hS t ht
  have h8t := h8 t ht
  have hps := ls_pr_lt hs
  have hpt := ls_pr_lt ht
  unfold ly_S
  dsimp only
  rw [ly_mv_C, ly_mv_F, ly_mv_I]
  by_cases e : t = s
  · subst e
    have f6 : (if t = t then mv t + 1 else mv t) = mv t + 1 := if_pos rfl
    rw [f6, if_pos rfl, if_pos rfl, if_pos rfl]
    refine ⟨by omega, by omega, by omega, by omega, fun i hi => ?_, fun i hi => ?_, fun i hi => ?_⟩
    · obtain ⟨k1, k2⟩ := a5 (i + 1) (by omega)
      refine ⟨?_, fun j hj => ?_⟩
      · rw [ly_mv_D, if_pos (by omega), Nat.add_assoc, k1]
        congr 1; omega
      · have k3 := k2 j hj
        rw [ly_mv_E, if_pos (by omega), show 192 * t + 24 * i + j + 24 = 192 * t + 24 * (i + 1) + j by omega, k3]
        congr 1; omega
    · obtain ⟨k1, k2⟩ := a6 i hi
      refine ⟨?_, fun j hj => ?_⟩
      · rw [ly_mv_G, if_neg (by omega)]; exact k1
      · rw [ly_mv_H, if_neg (by omega)]; exact k2 j hj
    · by_cases ei : i = mv t
      · subst ei
        obtain ⟨k1, k2⟩ := a5 0 (by omega)
        refine ⟨?_, fun j hj => ?_⟩
        · rw [ly_mv_G, if_pos (by omega)]
          rw [Nat.add_zero, Nat.zero_add] at k1
          exact k1
        · rw [ly_mv_H, if_pos (by omega), show 192 * t + (120 * ls_pr t + 24 * (h0 5 (ls_pr t) + mv t) + j - (120 * ls_pr t + 24 * h 5 (ls_pr t))) = 192 * t + 24 * 0 + j by omega, k2 j hj, Nat.zero_add]
      · obtain ⟨k1, k2⟩ := a7 i (by omega)
        refine ⟨?_, fun j hj => ?_⟩
        · rw [ly_mv_G, if_neg (by omega)]; exact k1
        · rw [ly_mv_H, if_neg (by omega)]; exact k2 j hj
  · have f6 : (if t = s then mv t + 1 else mv t) = mv t := if_neg e
    have e2 : ls_pr t ≠ ls_pr s := fun z => e (ls_pr_inj z)
    rw [f6, if_neg e, if_neg e2, if_neg e2]
    have hcs := (hS s hs).1
    have h8s := h8 s hs
    refine ⟨a1, a2, a3, a4, fun i hi => ?_, fun i hi => ?_, fun i hi => ?_⟩
    · obtain ⟨k1, k2⟩ := a5 i hi
      refine ⟨?_, fun j hj => ?_⟩
      · rw [ly_mv_D, if_neg (by omega)]; exact k1
      · rw [ly_mv_E, if_neg (by omega)]; exact k2 j hj
    · obtain ⟨k1, k2⟩ := a6 i hi
      refine ⟨?_, fun j hj => ?_⟩
      · rw [ly_mv_G, if_neg (by omega)]; exact k1
      · rw [ly_mv_H, if_neg (by omega)]; exact k2 j hj
    · obtain ⟨k1, k2⟩ := a7 i hi
      refine ⟨?_, fun j hj => ?_⟩
      · rw [ly_mv_G, if_neg (by omega)]; exact k1
      · rw [ly_mv_H, if_neg (by omega)]; exact k2 j hj
/-- the two sides after settle -/
theorem lr_join {k : Nat} {g h g' h' : Nat → Nat → Nat} {mv d mv' : Nat → Nat} (K : lr_K k g) (R : lr_R g h) (J : ls_J g g' mv d) (hq : ∀ s, s < 4 → mv s = d s) (hY : ∀ s, s < 4 → ly_S h h' mv' s)
    (hm : ∀ s, s < 4 → mv s = mv' s) (hA : h' 0 = h 0) (hB : h' 1 = h 1) : lr_R g' h' := by
  obtain ⟨r1, r2, r3⟩ := R
  obtain ⟨j1, j2, j3, j4, j5, j6⟩ := J
  refine ⟨?_, ?_, ?_⟩
  · rw [hA, hB, j5, j6]; exact r1
  · intro s hs
    obtain ⟨a1, a2, a3, a4, a5, a6, a7, a8, a9, a10, a11, a12, a13, a14, a15, a16⟩ := (j1 s hs).1
    obtain ⟨y1, y2, y3, y4, y5, y6, y7⟩ := hY s hs
    obtain ⟨q1, q2⟩ := r2 s hs
    have e1 := hq s hs
    have e2 := hm s hs
    have ew : h' 2 s = g' 3 s := by omega
    refine ⟨ew, fun i hi => ?_⟩
    have esl : ls_sl g' s i = ls_sl g s (i + mv' s) := by unfold ls_sl; rw [a13]; omega
    obtain ⟨k1, k2⟩ := y5 i (by omega)
    obtain ⟨k3, k4⟩ := q2 (i + mv' s) (by omega)
    rw [j3, j4, esl]
    refine ⟨k1.trans k3, fun j hj => ?_⟩
    have := K.2.1.1 (ls_sl g s (i + mv' s))
    exact (k2 j (by omega)).trans (k4 j hj)
  · intro p hp
    have hs := ls_pr_lt hp
    obtain ⟨a1, a2, a3, a4, a5, a6, a7, a8, a9, a10, a11, a12, a13, a14, a15, a16⟩ := (j1 (ls_pr p) hs).1
    obtain ⟨c1, c2⟩ := (j1 (ls_pr p) hs).2
    obtain ⟨y1, y2, y3, y4, y5, y6, y7⟩ := hY (ls_pr p) hs
    obtain ⟨p1, p2, p3⟩ := r3 p hp
    obtain ⟨q1, q2⟩ := r2 (ls_pr p) hs
    have e1 := hq (ls_pr p) hs
    have e2 := hm (ls_pr p) hs
    rw [ls_pr_pr] at a2 a14 a15 a16 y2 y3 y4 y6 y7 c1 c2
    refine ⟨by omega, by omega, fun i hi => ?_⟩
    have ein : ls_in g' p i = ls_in g p i := by unfold ls_in; rw [a16]
    rw [ein]
    by_cases hlt : i < g 7 p
    · obtain ⟨k1, k2⟩ := y6 i (by omega)
      obtain ⟨k3, k4⟩ := p3 i hlt
      obtain ⟨k5, k6⟩ := c2 i hlt
      refine ⟨by rw [k1, k3, k5], fun j hj => ?_⟩
      rw [k5] at hj
      have := K.2.1.2 p hp i hlt
      rw [k2 j (by omega), k4 j hj, k6 j (by omega)]
    · obtain ⟨i', rfl⟩ : ∃ i', i = g 7 p + i' := ⟨i - g 7 p, by omega⟩
      obtain ⟨k1, k2⟩ := y7 i' (by omega)
      obtain ⟨k3, k4⟩ := q2 i' (by omega)
      obtain ⟨k5, k6⟩ := c1 i' (by omega)
      rw [p1] at k1 k2
      refine ⟨by rw [k1, k3, k5], fun j hj => ?_⟩
      rw [k5] at hj
      have := K.2.1.1 (ls_sl g (ls_pr p) i')
      rw [k2 j (by omega), k4 j hj, k6 j hj]
/-- settle begins -/
def lr_rs (g : Nat → Nat → Nat) (n : Nat) : Nat → Nat → Nat := fun f i => if (f = 13 ∨ f = 15) ∧ i < n then 0 else g f i
theorem lr_rs_o (g : Nat → Nat → Nat) (n f : Nat) (h1 : f ≠ 13) (h2 : f ≠ 15) : lr_rs g n f = g f := by
  funext i
  exact if_neg (by omega)
theorem lr_cn0 {p : Nat → Bool} {n : Nat} (h : ∀ i, i < n → p i = false) : ls_cn p n = 0 := by
  induction n with
  | zero => rfl
  | succ n ih =>
    show ls_cn p n + (if p n then 1 else 0) = 0
    rw [ih fun i hi => h i (by omega), h n (by omega)]
    rfl
theorem lr_B {k : Nat} {g : Nat → Nat → Nat} (K : lr_K k g) (hk : k ≤ 4096) : ls_B g := by
  refine ⟨fun s hs => ?_, K.2.1.1⟩
  obtain ⟨a1, a2, a3, a4, a5, a6⟩ := K.1 s hs
  exact ⟨a1, a2, a3, a4, by omega⟩
theorem lr_start {k : Nat} {g : Nat → Nat → Nat} (K : lr_K k g) : ls_TI g 72 15 (lr_rs g 4) := by
  obtain ⟨k1, ⟨k2, k3⟩, k4, k5, k6, k7, k8⟩ := K
  have hTF : ∀ s, s < 4 → lr_rs g 4 13 s = 0 := fun s hs => if_pos ⟨Or.inl rfl, hs⟩
  have hRS : ∀ s, s < 4 → lr_rs g 4 15 s = 0 := fun s hs => if_pos ⟨Or.inr rfl, hs⟩
  have ho : ∀ f, f ≠ 13 → f ≠ 15 → lr_rs g 4 f = g f := fun f h1 h2 => lr_rs_o g 4 f h1 h2
  have J : ls_J g (lr_rs g 4) (fun _ => 0) (fun _ => 0) := by
    refine ⟨fun s hs => ⟨?_, ?_⟩, ?_, ho _ (by decide) (by decide), ho _ (by decide) (by decide), ho _ (by decide) (by decide), ho _ (by decide) (by decide)⟩
    · obtain ⟨a1, a2, a3, a4, a5, a6, a7, a8, a9, a10⟩ := k1 s hs
      obtain ⟨b1, b2, b3, b4, b5, b6, b7, b8, b9, b10⟩ := k1 _ (ls_pr_lt hs)
      unfold ls_S
      dsimp only
      rw [hTF s hs, hRS s hs, ho 11 (by decide) (by decide), ho 12 (by decide) (by decide), ho 14 (by decide) (by decide), ho 3 (by decide) (by decide), ho 2 (by decide) (by decide), ho 7 (by decide) (by decide), ho 8 (by decide) (by decide), ho 6 (by decide) (by decide)]
      exact ⟨by omega, by omega, by omega, by omega, fun _ => rfl, fun z => by have := a7 z; omega, fun z => by omega, a6, by omega, by omega, by omega, by omega, by omega, by omega, by omega, rfl⟩
    · unfold ls_C
      rw [ho 9 (by decide) (by decide), ho 10 (by decide) (by decide)]
      exact ⟨fun i hi => absurd hi (Nat.not_lt_zero _), fun i _ => ⟨rfl, fun _ _ => rfl⟩⟩
    · unfold ls_Y at k4 ⊢
      rw [ho 5 (by decide) (by decide), ho 10 (by decide) (by decide), ho 22 (by decide) (by decide), ho 23 (by decide) (by decide)]
      exact k4
  have Q : ∀ q, q < 40 → ls_Q g (lr_rs g 4) (fun _ => 0) (fun _ => 0) q := fun q hq => Or.inl (by rw [ho 19 (by decide) (by decide)]; exact k8 q hq)
  refine ⟨_, _, fun _ => 16, J, Q, ?_, ?_, ?_, ls_LV_15 J Q, ?_⟩
  · intro e he
    rw [ho 16 (by decide) (by decide), ho 17 (by decide) (by decide), ho 18 (by decide) (by decide)]
    exact ⟨⟨Nat.le_refl _, (k6 e he).2⟩, k7 e he⟩
  · have hL : ls_L (lr_rs g 4) = 0 := by
      refine lr_cn0 fun q hq => ?_
      rw [ho 19 (by decide) (by decide), k8 q hq]
      simp
    rw [hL, ho 16 (by decide) (by decide)]
    have h0 := (k6 0 (by decide)).2
    have h1 := (k6 1 (by decide)).2
    omega
  · have h : ∀ s, s < 4 → ls_p1 (lr_rs g 4) s ≤ 10 := fun s hs => by
      unfold ls_p1
      rw [ho 3 (by decide) (by decide)]
      have := (k1 s hs).1
      omega
    have h0 := h 0 (by decide); have h1 := h 1 (by decide); have h2 := h 2 (by decide); have h3 := h 3 (by decide)
    unfold ls_pg
    dsimp only
    omega
  · intro p hp
    rw [ho 14 (by decide) (by decide)]
    exact (k1 p hp).2.2.2.2.2.2.2.2.1
/-- settle ends -/
theorem lr_end {k X M : Nat} {g g' : Nat → Nat → Nat} (K : lr_K k g) (T : ls_TI g X M g') (hq : ls_qt g') :
    lr_K (k + 4) g' ∧ ∃ mv d : Nat → Nat, ls_J g g' mv d ∧ ∀ s, s < 4 → mv s = d s ∧ mv s ≤ g 3 s ∧ mv s + g 7 (ls_pr s) ≤ 5 ∧ (mv s = g 3 s ∨ mv s + g 7 (ls_pr s) = 5) ∧ g' 8 (ls_pr s) = g 8 (ls_pr s) + mv s := by
  obtain ⟨k1, ⟨k2, k3⟩, k4, k5, k6, k7, k8⟩ := K
  obtain ⟨mv, d, D, J, Q, O, hL, hX, hV, hW⟩ := T
  have hm : ∀ s, s < 4 → mv s = d s ∧ mv s ≤ g 3 s ∧ mv s + g 7 (ls_pr s) ≤ 5 ∧ (mv s = g 3 s ∨ mv s + g 7 (ls_pr s) = 5) ∧ g' 8 (ls_pr s) = g 8 (ls_pr s) + mv s := by
    intro s hs
    obtain ⟨a1, a2, a3, a4, a5, a6, a7, a8, a9, a10, a11, a12, a13, a14, a15, a16⟩ := (J.1 s hs).1
    have hna := hq.1 s hs
    by_cases ht : g' 13 s = 1
    · have := a7 ht; omega
    · have hw : g' 3 s = 0 := by
        refine Nat.eq_zero_of_not_pos fun hp => hna ⟨hp, by omega⟩
      omega
  refine ⟨⟨fun s hs => ?_, ⟨?_, ?_⟩, J.2.1, ?_, ?_, ?_, hq.2⟩, mv, d, J, hm⟩
  · obtain ⟨a1, a2, a3, a4, a5, a6, a7, a8, a9, a10, a11, a12, a13, a14, a15, a16⟩ := (J.1 s hs).1
    obtain ⟨b1, b2, b3, b4, b5, b6, b7, b8, b9, b10, b11, b12, b13, b14, b15, b16⟩ := (J.1 _ (ls_pr_lt hs)).1
    rw [ls_pr_pr] at b2 b6 b7 b14 b15 b16
    obtain ⟨c1, c2, c3, c4, c5, c6⟩ := k1 s hs
    obtain ⟨m1, m2, m3, m4, m5⟩ := hm s hs
    refine ⟨by omega, by omega, by omega, by omega, by omega, a8, fun z => by have := a6 z; omega, a9, hW s hs, a11⟩
  · intro i; rw [J.2.2.1]; exact k2 i
  · intro p hp i hi
    obtain ⟨b1, b2, b3, b4, b5, b6, b7, b8, b9, b10, b11, b12, b13, b14, b15, b16⟩ := (J.1 _ (ls_pr_lt hp)).1
    obtain ⟨c1, c2⟩ := (J.1 _ (ls_pr_lt hp)).2
    rw [ls_pr_pr] at b2 b6 b7 b14 b15 b16 c1 c2
    have ein : ls_in g' p i = ls_in g p i := by unfold ls_in; rw [b16]
    rw [ein]
    by_cases hlt : i < g 7 p
    · rw [(c2 i hlt).1]; exact k3 p hp i hlt
    · obtain ⟨i', rfl⟩ : ∃ i', i = g 7 p + i' := ⟨i - g 7 p, by omega⟩
      rw [(c1 i' (by omega)).1]; exact k2 _
  · intro i; rw [J.2.2.2.2.2]; exact k5 i
  · intro e he
    rw [J.2.2.2.2.1]
    exact ⟨(k6 e he).1, (O e he).1.2⟩
  · intro e he i hi
    obtain ⟨o1, o2⟩ := O e he
    have := o2 i hi
    exact ⟨by omega, this.2⟩
