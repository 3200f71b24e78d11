/-! the parts of a transmission -/
def ls_put (g : Nat → Nat → Nat) (q e t : Nat) : Nat → Nat → Nat := fun f i =>
  if f = 22 then (if q * 30 ≤ i ∧ i < q * 30 + g 24 0 then g 23 (i - q * 30) else g 22 i)
  else ls_up (ls_up (ls_up g 19 q (g 24 0)) 20 q e) 21 q t f i
theorem ls_put_PB (g : Nat → Nat → Nat) (q e t i : Nat) : ls_put g q e t 22 i = if q * 30 ≤ i ∧ i < q * 30 + g 24 0 then g 23 (i - q * 30) else g 22 i := rfl
theorem ls_put_PL (g : Nat → Nat → Nat) (q e t i : Nat) : ls_put g q e t 19 i = if i = q then g 24 0 else g 19 i := rfl
theorem ls_put_PT (g : Nat → Nat → Nat) (q e t i : Nat) : ls_put g q e t 20 i = if i = q then e else g 20 i := rfl
theorem ls_put_PK (g : Nat → Nat → Nat) (q e t i : Nat) : ls_put g q e t 21 i = if i = q then t else g 21 i := rfl
theorem ls_put_o (g : Nat → Nat → Nat) (q e t f : Nat) (h1 : f ≠ 22) (h2 : f ≠ 19) (h3 : f ≠ 20) (h4 : f ≠ 21) : ls_put g q e t f = g f := by
  funext i
  simp [ls_put, ls_up, h1, h2, h3, h4]
theorem ls_put_E {g : Nat → Nat → Nat} {q e t n q' : Nat} (hn : g 24 0 = n) (h30 : n ≤ 30) (h : q' ≠ q) : ls_E g (ls_put g q e t) q' ∧ ls_put g q e t 21 q' = g 21 q' := by
  refine ⟨⟨by rw [ls_put_PL, if_neg h], by rw [ls_put_PT, if_neg h], fun i hi => ?_⟩, by rw [ls_put_PK, if_neg h]⟩
  rw [ls_put_PB, if_neg (by omega)]
def ls_A (g g1 : Nat → Nat → Nat) (e n : Nat) (f np : Nat → Nat) (c c' : Nat) : Prop :=
  (∀ x, ¬ ls_lnk x → g1 x = g x) ∧ g1 23 = np ∧ g1 24 0 = n + 2 ∧
  (∀ q, q < 40 → (ls_E g g1 q ∧ g1 21 q = g 21 q) ∨ (g 19 q = 0 ∧ ls_new g g1 e n f q)) ∧
  (∀ i, g1 22 i < 256) ∧ ls_U g1 ≤ ls_U g + c ∧ ls_L g1 ≤ ls_L g + c'
theorem ls_A_put {g g1 : Nat → Nat → Nat} {e n c c' q t : Nat} {f np : Nat → Nat} (A : ls_A g g1 e n f np c c') (hn : n ≤ 28) (hq : q < 40) (h0 : g1 19 q = 0)
    (hb : ∀ i, np i < 256) (hs : ck_dis np n = 0 → ∀ i, i < n → np i = f i) (t1 : 1 ≤ t) (t2 : t ≤ 14) (t3 : g 16 e = 0 → t = 1) :
    ls_A g (ls_put g1 q (1 - e) t) e n f np (c + 1) (c' + (if 2 ≤ t then 1 else 0)) ∧ (g 19 q = 0 ∧ ls_new g (ls_put g1 q (1 - e) t) e n f q) ∧ ls_ds (ls_put g1 q (1 - e) t) q = ck_dis np n := by
  obtain ⟨a1, a2, a3, a4, a5, a6, a7⟩ := A
  have hg0 : g 19 q = 0 := by
    rcases a4 q hq with z | z
    · rw [← z.1.1]; exact h0
    · exact z.1
  have hPBq : ∀ i, i < n + 2 → ls_put g1 q (1 - e) t 22 (q * 30 + i) = np i := fun i hi => by
    rw [ls_put_PB, if_pos (by omega), a2]
    congr 1
    omega
  have hPLq : ls_put g1 q (1 - e) t 19 q = n + 2 := by rw [ls_put_PL, if_pos rfl, a3]
  have hds : ls_ds (ls_put g1 q (1 - e) t) q = ck_dis np n := by
    unfold ls_ds
    rw [hPLq]
    exact ck_dis_congr fun i hi => hPBq i (by omega)
  have hnew : ls_new g (ls_put g1 q (1 - e) t) e n f q := by
    refine ⟨hPLq, by rw [ls_put_PT, if_pos rfl], ?_, ?_, ?_, fun hz i hi => ?_⟩
    · rw [ls_put_PK, if_pos rfl]; exact t1
    · rw [ls_put_PK, if_pos rfl]; exact t2
    · rw [ls_put_PK, if_pos rfl]; exact t3
    · rw [hPBq i (by omega)]
      exact hs (by rw [← hds]; exact hz) i hi
  refine ⟨⟨?_, ?_, ?_, ?_, ?_, ?_, ?_⟩, ⟨hg0, hnew⟩, hds⟩
  · intro x hx
    rw [← a1 x hx]
    exact ls_put_o g1 q _ t x (fun z => hx (by subst z; unfold ls_lnk; omega)) (fun z => hx (by subst z; unfold ls_lnk; omega)) (fun z => hx (by subst z; unfold ls_lnk; omega)) (fun z => hx (by subst z; unfold ls_lnk; omega))
  · rw [ls_put_o g1 q _ t 23 (by decide) (by decide) (by decide) (by decide)]; exact a2
  · rw [ls_put_o g1 q _ t 24 (by decide) (by decide) (by decide) (by decide)]; exact a3
  · intro q' hq'
    by_cases e1 : q' = q
    · subst e1; exact Or.inr ⟨hg0, hnew⟩
    · obtain ⟨k1, k2⟩ := ls_put_E (e := 1 - e) (t := t) a3 (by omega) e1
      rcases a4 q' hq' with ⟨z1, z2⟩ | ⟨z1, z2⟩
      · refine Or.inl ⟨⟨by rw [k1.1, z1.1], by rw [k1.2.1, z1.2.1], fun i hi => by rw [k1.2.2 i hi, z1.2.2 i hi]⟩, by rw [k2, z2]⟩
      · refine Or.inr ⟨z1, ?_⟩
        obtain ⟨n1, n2, n3, n4, n5, n6⟩ := z2
        refine ⟨by rw [k1.1]; exact n1, by rw [k1.2.1]; exact n2, by rw [k2]; exact n3, by rw [k2]; exact n4, by rw [k2]; exact n5, fun hz i hi => ?_⟩
        rw [ls_E_ds k1 (by omega) (by omega)] at hz
        rw [k1.2.2 i (by omega)]
        exact n6 hz i hi
  · intro i
    rw [ls_put_PB]
    split
    · rw [a2]; exact hb _
    · exact a5 i
  · have h := ls_cn_one (p := fun x => decide (ls_put g1 q (1 - e) t 19 x ≠ 0)) (r := fun x => decide (g1 19 x ≠ 0)) (n := 40) (k := q) (fun i hi hne hp => by
      have : ls_put g1 q (1 - e) t 19 i ≠ 0 := of_decide_eq_true hp
      rw [ls_put_PL, if_neg hne] at this
      exact decide_eq_true this)
    have h1 : ls_U (ls_put g1 q (1 - e) t) ≤ ls_U g1 + 1 := by
      refine Nat.le_trans h (Nat.add_le_add_left ?_ _)
      split <;> omega
    omega
  · have h := ls_cn_one (p := fun x => decide (ls_put g1 q (1 - e) t 19 x ≠ 0 ∧ 2 ≤ ls_put g1 q (1 - e) t 21 x)) (r := fun x => decide (g1 19 x ≠ 0 ∧ 2 ≤ g1 21 x)) (n := 40) (k := q) (fun i hi hne hp => by
      have : ls_put g1 q (1 - e) t 19 i ≠ 0 ∧ 2 ≤ ls_put g1 q (1 - e) t 21 i := of_decide_eq_true hp
      rw [ls_put_PL, if_neg hne, ls_put_PK, if_neg hne] at this
      exact decide_eq_true this)
    have h1 : ls_L (ls_put g1 q (1 - e) t) ≤ ls_L g1 + (if 2 ≤ t then 1 else 0) := by
      refine Nat.le_trans h (Nat.add_le_add_left ?_ _)
      by_cases ht : 2 ≤ t
      · rw [if_pos ht]; split <;> omega
      · rw [if_neg ht, if_neg]
        · exact Nat.le_refl _
        · intro hp
          have : ls_put g1 q (1 - e) t 19 q ≠ 0 ∧ 2 ≤ ls_put g1 q (1 - e) t 21 q := of_decide_eq_true hp
          rw [ls_put_PK, if_pos rfl] at this
          omega
    omega
/-- what happened to the orders of end e -/
def ls_TO (g : Nat → Nat → Nat) (oc oa ok : Nat → Nat) (e fx : Nat) : Prop :=
  (oc e ≤ g 16 e ∧ ∀ x, x ≠ e → oc x = g 16 x) ∧ (∀ i, i < e * 12 ∨ e * 12 + 12 ≤ i → oa i = g 17 i ∧ ok i = g 18 i) ∧
  (∀ D, (∀ i, i < g 16 e → g 17 (e * 12 + i) < D ∧ g 18 (e * 12 + i) ≤ 3) → ∀ i, i < oc e → oa (e * 12 + i) < D - 1 ∧ ok (e * 12 + i) ≤ 3) ∧
  oc e + fx / 2 % 2 + fx / 8 % 2 ≤ g 16 e ∧ fx < 16 ∧ (g 16 e = 0 → fx = 0)
theorem ls_TX_of {g g' : Nat → Nat → Nat} {e n c c' fx : Nat} {f np : Nat → Nat} (A : ls_A g g' e n f np c c') (O : ls_TO g (g' 16) (g' 17) (g' 18) e fx) (hb : ∀ i, np i < 256) (hc : c ≤ 2) (hc' : c' ≤ fx / 2 % 2 + fx / 8 % 2)
    (h10 : g 16 e = 0 → ls_U g < 40 → ∃ q, q < 40 ∧ g 19 q = 0 ∧ ls_new g g' e n f q ∧ ls_ds g' q = 0) : ls_TX g g' e n f := by
  obtain ⟨a1, a2, a3, a4, a5, a6, a7⟩ := A
  obtain ⟨o1, o2, o3, o4, o5, o6⟩ := O
  exact ⟨a1, o1, o2, o3, a4, a5, fun i => by rw [a2]; exact hb i, by omega, by omega, h10⟩
/-- NP and NL of the state before do not matter -/
theorem ls_TX_sim {g g2 g' : Nat → Nat → Nat} {e n : Nat} {f : Nat → Nat} (h : ∀ x, x ≠ 23 → x ≠ 24 → g2 x = g x) (T : ls_TX g2 g' e n f) : ls_TX g g' e n f := by
  have hOC := h 16 (by decide) (by decide); have hOA := h 17 (by decide) (by decide); have hOK := h 18 (by decide) (by decide)
  have hPL := h 19 (by decide) (by decide); have hPT := h 20 (by decide) (by decide); have hPK := h 21 (by decide) (by decide); have hPB := h 22 (by decide) (by decide)
  obtain ⟨t1, t2, t3, t4, t5, t6, t7, t8, t9, t10⟩ := T
  unfold ls_U ls_L ls_E ls_new at *
  rw [hOC] at t2 t4 t9 t10
  rw [hOA, hOK] at t3 t4
  simp only [hOC, hPL, hPT, hPK, hPB] at t5 t8 t9 t10
  refine ⟨fun x hx => ?_, t2, t3, t4, t5, t6, t7, t8, t9, t10⟩
  rw [t1 x hx]
  exact h x (fun z => hx (by subst z; unfold ls_lnk; omega)) (fun z => hx (by subst z; unfold ls_lnk; omega))
theorem ls_bits : ∀ fx, fx < 16 → ∀ k, k < 4 → (fx ||| 2 ^ k) < 16 ∧ (fx ||| 2 ^ k) / 2 % 2 + (fx ||| 2 ^ k) / 8 % 2 ≤ fx / 2 % 2 + fx / 8 % 2 + 1 := by decide
/-! the loop over the orders -/
def ls_OI (g g1 : Nat → Nat → Nat) (e i kept fx : Nat) : Prop :=
  (∀ f, f ≠ 17 → f ≠ 18 → g1 f = g f) ∧ kept ≤ i ∧ i ≤ g 16 e ∧ kept + fx / 2 % 2 + fx / 8 % 2 ≤ i ∧ fx < 16 ∧ (i = 0 → fx = 0) ∧
  (∀ x, x < e * 12 ∨ e * 12 + kept ≤ x → g1 17 x = g 17 x ∧ g1 18 x = g 18 x) ∧
  (∀ D, (∀ y, y < g 16 e → g 17 (e * 12 + y) < D ∧ g 18 (e * 12 + y) ≤ 3) → ∀ y, y < kept → g1 17 (e * 12 + y) < D - 1 ∧ g1 18 (e * 12 + y) ≤ 3)
theorem ls_OI_0 (g : Nat → Nat → Nat) (e : Nat) : ls_OI g g e 0 0 0 :=
  ⟨fun _ _ _ => rfl, Nat.le_refl _, Nat.zero_le _, by decide, by decide, fun _ => rfl, fun _ _ => ⟨rfl, rfl⟩, fun _ _ y hy => absurd hy (Nat.not_lt_zero y)⟩
theorem ls_OI_due {g g1 : Nat → Nat → Nat} {e i kept fx : Nat} (h : ls_OI g g1 e i kept fx) (hi : i < g 16 e) (hk : g1 18 (e * 12 + i) ≤ 3) : ls_OI g g1 e (i + 1) kept (fx ||| 2 ^ g1 18 (e * 12 + i)) := by
  obtain ⟨h1, h2, h3, h4, h5, h6, h7, h8⟩ := h
  have hb := ls_bits fx h5 (g1 18 (e * 12 + i)) (by omega)
  exact ⟨h1, by omega, by omega, by omega, hb.1, fun z => by omega, h7, h8⟩
theorem ls_OI_keep {g g1 : Nat → Nat → Nat} {e i kept fx : Nat} (h : ls_OI g g1 e i kept fx) (hi : i < g 16 e) (hz : g1 17 (e * 12 + i) ≠ 0) :
    ls_OI g (ls_up (ls_up g1 17 (e * 12 + kept) (g1 17 (e * 12 + i) - 1)) 18 (e * 12 + kept) (g1 18 (e * 12 + i))) e (i + 1) (kept + 1) fx := by
  obtain ⟨h1, h2, h3, h4, h5, h6, h7, h8⟩ := h
  obtain ⟨k1, k2⟩ := h7 (e * 12 + i) (by omega)
  have fA : ∀ x, ls_up (ls_up g1 17 (e * 12 + kept) (g1 17 (e * 12 + i) - 1)) 18 (e * 12 + kept) (g1 18 (e * 12 + i)) 17 x = if x = e * 12 + kept then g1 17 (e * 12 + i) - 1 else g1 17 x := fun _ => rfl
  have fK : ∀ x, ls_up (ls_up g1 17 (e * 12 + kept) (g1 17 (e * 12 + i) - 1)) 18 (e * 12 + kept) (g1 18 (e * 12 + i)) 18 x = if x = e * 12 + kept then g1 18 (e * 12 + i) else g1 18 x := fun _ => rfl
  refine ⟨fun f f1 f2 => ?_, by omega, by omega, by omega, h5, fun z => by omega, fun x hx => ?_, fun D hD y hy => ?_⟩
  · rw [← h1 f f1 f2]
    funext x
    simp [ls_up, f1, f2]
  · rw [fA, fK, if_neg (by omega), if_neg (by omega)]
    exact h7 x (by omega)
  · rw [fA, fK]
    by_cases e1 : y = kept
    · subst e1
      rw [if_pos rfl, if_pos rfl]
      have := hD i hi
      omega
    · rw [if_neg (by omega), if_neg (by omega)]
      exact h8 D hD y (by omega)
theorem ls_OI_TO {g g1 : Nat → Nat → Nat} {e kept fx : Nat} (h : ls_OI g g1 e (g 16 e) kept fx) (h12 : g 16 e ≤ 12) : ls_TO g (ls_up g1 16 e kept 16) (ls_up g1 16 e kept 17) (ls_up g1 16 e kept 18) e fx := by
  obtain ⟨h1, h2, h3, h4, h5, h6, h7, h8⟩ := h
  have fC : ∀ x, ls_up g1 16 e kept 16 x = if x = e then kept else g 16 x := fun x => by
    show (if x = e then kept else g1 16 x) = _
    rw [h1 16 (by decide) (by decide)]
  have fe : ls_up g1 16 e kept 16 e = kept := by rw [fC, if_pos rfl]
  refine ⟨⟨by rw [fe]; exact h2, fun x hx => by rw [fC, if_neg hx]⟩, fun i hi => h7 i (by omega), fun D hD i hi => ?_, by rw [fe]; omega, h5, h6⟩
  rw [fe] at hi
  exact h8 D hD i hi
/-! flips, and the seal -/
theorem ls_flip (g : Nat → Nat → Nat) (b : Nat) : ls_up g 23 (b / 8) (g 23 (b / 8) ^^^ 2 ^ (b % 8)) 23 = fun i => g 23 i ^^^ ck_bit b i := by
  funext i
  show (if i = b / 8 then g 23 (b / 8) ^^^ 2 ^ (b % 8) else g 23 i) = _
  unfold ck_bit
  by_cases e : i = b / 8
  · rw [if_pos e, if_pos e, e]
  · rw [if_neg e, if_neg e, Nat.xor_zero]
def ls_seal (g : Nat → Nat → Nat) : Nat → Nat → Nat :=
  ls_up (ls_up (ls_up g 23 (g 24 0) (ck_crc (g 23) (g 24 0) / 256)) 23 (g 24 0 + 1) (ck_crc (g 23) (g 24 0) % 256)) 24 0 (g 24 0 + 2)
theorem ls_seal_NP (g : Nat → Nat → Nat) (i : Nat) : ls_seal g 23 i = if i = g 24 0 + 1 then ck_crc (g 23) (g 24 0) % 256 else if i = g 24 0 then ck_crc (g 23) (g 24 0) / 256 else g 23 i := rfl
theorem ls_seal_o (g : Nat → Nat → Nat) (f : Nat) (h1 : f ≠ 23) (h2 : f ≠ 24) : ls_seal g f = g f := by
  funext i
  simp [ls_seal, ls_up, h1, h2]
theorem ls_seal_ok {g : Nat → Nat → Nat} (h : ∀ i, g 23 i < 256) : (∀ i, ls_seal g 23 i < 256) ∧ ck_dis (ls_seal g 23) (g 24 0) = 0 ∧ ls_seal g 24 0 = g 24 0 + 2 ∧ ∀ i, i < g 24 0 → ls_seal g 23 i = g 23 i := by
  have hc : ck_crc (g 23) (g 24 0) < 65536 := ck_crc_lt fun i _ => h i
  have hb : ∀ i, ls_seal g 23 i < 256 := fun i => by
    rw [ls_seal_NP]
    split
    · omega
    · split
      · omega
      · exact h i
  refine ⟨hb, ?_, rfl, fun i hi => ?_⟩
  · rw [ck_dis0 (hb _)]
    have e : ck_crc (ls_seal g 23) (g 24 0) = ck_crc (g 23) (g 24 0) := ck_crc_congr fun i hi => by
      rw [ls_seal_NP, if_neg (by omega), if_neg (by omega)]
    rw [e, ls_seal_NP, ls_seal_NP, if_neg (by omega), if_pos rfl, if_pos rfl]
    omega
  · rw [ls_seal_NP, if_neg (by omega), if_neg (by omega)]
