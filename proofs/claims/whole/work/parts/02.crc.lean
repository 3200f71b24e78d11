/-! the checksum: CRC-16 over naturals, linear in its bits -/
def ck_st (s : Nat) : Nat := ((2 * s) % 65536) ^^^ (if s < 32768 then 0 else 4129)
theorem ck_xlt {a b : Nat} (ha : a < 65536) (hb : b < 65536) : a ^^^ b < 65536 := Nat.xor_lt_two_pow (n := 16) ha hb
theorem ck_xlt8 {a b : Nat} (ha : a < 256) (hb : b < 256) : a ^^^ b < 256 := Nat.xor_lt_two_pow (n := 8) ha hb
theorem ck_mod16 (a b : Nat) : (a ^^^ b) % 65536 = (a % 65536) ^^^ (b % 65536) := Nat.xor_mod_two_pow (n := 16)
theorem ck_div16 (a b : Nat) : (a ^^^ b) / 65536 = (a / 65536) ^^^ (b / 65536) := Nat.xor_div_two_pow (n := 16)
theorem ck_div15 (a b : Nat) : (a ^^^ b) / 32768 = (a / 32768) ^^^ (b / 32768) := Nat.xor_div_two_pow (n := 15)
theorem ck_mod8 (a b : Nat) : (a ^^^ b) % 256 = (a % 256) ^^^ (b % 256) := Nat.xor_mod_two_pow (n := 8)
theorem ck_div8 (a b : Nat) : (a ^^^ b) / 256 = (a / 256) ^^^ (b / 256) := Nat.xor_div_two_pow (n := 8)
theorem ck_mul (a b k : Nat) : (a ^^^ b) * 2 ^ k = (a * 2 ^ k) ^^^ (b * 2 ^ k) := by
  have h := Nat.shiftLeft_xor_distrib (i := k) (a := a) (b := b)
  rwa [Nat.shiftLeft_eq, Nat.shiftLeft_eq, Nat.shiftLeft_eq] at h
theorem ck_mul2 (a b : Nat) : 2 * (a ^^^ b) = (2 * a) ^^^ (2 * b) := by
  have h := ck_mul a b 1
  rwa [Nat.pow_one, Nat.mul_comm, Nat.mul_comm a, Nat.mul_comm b] at h
theorem ck_mul256 (a b : Nat) : (a ^^^ b) * 256 = (a * 256) ^^^ (b * 256) := ck_mul a b 8
theorem ck_xx (a b : Nat) : a ^^^ (a ^^^ b) = b := by rw [← Nat.xor_assoc, Nat.xor_self, Nat.zero_xor]
theorem ck_x0 {a b : Nat} (h : a ^^^ b = 0) : a = b := by
  have e := ck_xx a b
  rw [h, Nat.xor_zero] at e
  exact e
theorem ck_x4 (a b c d : Nat) : (a ^^^ b) ^^^ (c ^^^ d) = (a ^^^ c) ^^^ (b ^^^ d) := by ac_rfl
theorem ck_st_lt (s : Nat) : ck_st s < 65536 := by
  unfold ck_st
  apply ck_xlt
  · omega
  · split <;> omega
theorem ck_lin {a b : Nat} (ha : a < 65536) (hb : b < 65536) : ck_st (a ^^^ b) = ck_st a ^^^ ck_st b := by
  unfold ck_st
  rw [ck_mul2, ck_mod16, ck_x4]
  congr 1
  have h := ck_div15 a b
  by_cases h1 : a < 32768
  · by_cases h2 : b < 32768
    · have e1 : a / 32768 = 0 := by omega
      have e2 : b / 32768 = 0 := by omega
      rw [e1, e2] at h
      have h3 : a ^^^ b < 32768 := by
        have : (a ^^^ b) / 32768 = 0 := h
        omega
      rw [if_pos h1, if_pos h2, if_pos h3]; rfl
    · have e1 : a / 32768 = 0 := by omega
      have e2 : b / 32768 = 1 := by omega
      rw [e1, e2] at h
      have h3 : ¬ a ^^^ b < 32768 := by
        have : (a ^^^ b) / 32768 = 1 := h
        omega
      rw [if_pos h1, if_neg h2, if_neg h3]; rfl
  · by_cases h2 : b < 32768
    · have e1 : a / 32768 = 1 := by omega
      have e2 : b / 32768 = 0 := by omega
      rw [e1, e2] at h
      have h3 : ¬ a ^^^ b < 32768 := by
        have : (a ^^^ b) / 32768 = 1 := h
        omega
      rw [if_neg h1, if_pos h2, if_neg h3]; rfl
    · have e1 : a / 32768 = 1 := by omega
      have e2 : b / 32768 = 1 := by omega
      rw [e1, e2] at h
      have h3 : a ^^^ b < 32768 := by
        have : (a ^^^ b) / 32768 = 0 := h
        omega
      rw [if_neg h1, if_neg h2, if_pos h3]; rfl
/-- what Java does: shift, and reduce where bit 16 is set -/
theorem ck_java {s : Nat} (h : s < 65536) : (if 65535 < 2 * s then (2 * s) ^^^ 69665 else 2 * s) = ck_st s := by
  unfold ck_st
  by_cases h1 : s < 32768
  · rw [if_neg (by omega), if_pos h1, Nat.xor_zero, Nat.mod_eq_of_lt (by omega)]
  · rw [if_pos (by omega), if_neg h1]
    have e := ck_div16 (2 * s) 69665
    have e1 : 2 * s / 65536 = 1 := by omega
    rw [e1] at e
    have e2 : ((2 * s) ^^^ 69665) / 65536 = 0 := e
    have e3 := ck_mod16 (2 * s) 69665
    rw [Nat.mod_eq_of_lt (by omega)] at e3
    exact e3
theorem ck_st0 {s : Nat} (h : s < 65536) (z : ck_st s = 0) : s = 0 := by
  unfold ck_st at z
  have e := ck_x0 z
  by_cases h1 : s < 32768
  · rw [if_pos h1] at e; omega
  · rw [if_neg h1] at e; omega
theorem ck_inj {a b : Nat} (ha : a < 65536) (hb : b < 65536) (e : ck_st a = ck_st b) : a = b := by
  have h := ck_lin ha hb
  rw [e, Nat.xor_self] at h
  exact ck_x0 (ck_st0 (ck_xlt ha hb) h)
def ck_it : Nat → Nat → Nat
  | 0, s => s
  | n + 1, s => ck_it n (ck_st s)
theorem ck_it_add (a b s : Nat) : ck_it (a + b) s = ck_it b (ck_it a s) := by
  induction a generalizing s with
  | zero => rw [Nat.zero_add]; rfl
  | succ a ih => rw [Nat.succ_add]; exact ih (ck_st s)
theorem ck_it_lt {s : Nat} (h : s < 65536) (n : Nat) : ck_it n s < 65536 := by
  induction n generalizing s with
  | zero => exact h
  | succ n ih => exact ih (ck_st_lt s)
theorem ck_it_lin {a b : Nat} (ha : a < 65536) (hb : b < 65536) (n : Nat) : ck_it n (a ^^^ b) = ck_it n a ^^^ ck_it n b := by
  induction n generalizing a b with
  | zero => rfl
  | succ n ih =>
    show ck_it n (ck_st (a ^^^ b)) = _
    rw [ck_lin ha hb]
    exact ih (ck_st_lt a) (ck_st_lt b)
theorem ck_it_inj {a b : Nat} (ha : a < 65536) (hb : b < 65536) (n : Nat) (e : ck_it n a = ck_it n b) : a = b := by
  induction n generalizing a b with
  | zero => exact e
  | succ n ih => exact ck_inj ha hb (ih (ck_st_lt a) (ck_st_lt b) e)
theorem ck_it0 (n : Nat) : ck_it n 0 = 0 := by
  induction n with
  | zero => rfl
  | succ n ih => exact ih
def ck_T (k : Nat) : Nat := ck_it k 1
theorem ck_T_lt (k : Nat) : ck_T k < 65536 := ck_it_lt (by decide) k
theorem ck_T_add (k m : Nat) : ck_it m (ck_T k) = ck_T (k + m) := (ck_it_add k m 1).symm
theorem ck_T16 : ∀ t, t < 16 → ck_T t = 2 ^ t := by decide +kernel
def ck_tab : List Nat := [2, 4, 8, 16, 32, 64, 128, 256, 512, 1024, 2048, 4096, 8192, 16384, 32768, 4129, 8258, 16516, 33032, 4657, 9314, 18628, 37256, 13105, 26210, 52420, 35241, 883, 1766, 3532, 7064, 14128, 28256, 56512, 43425, 17251, 34502, 7597, 15194, 30388, 60776, 51953, 34243, 7079, 14158, 28316, 56632, 43601, 17539, 35078, 557, 1114, 2228, 4456, 8912, 17824, 35648, 1697, 3394, 6788, 13576, 27152, 54304, 47201, 24803, 49606, 37805, 14203, 28406, 56812, 44025, 18387, 36774, 3949, 7898, 15796, 31592, 63184, 64897, 60195, 50791, 40175, 10751, 21502, 43004, 24537, 49074, 28485, 56970, 44341, 19019, 38038, 14605, 29210, 58420, 55369, 41139, 20807, 41614, 21821, 43642, 17621, 35242, 885, 1770, 3540, 7080, 14160, 28320, 56640, 43681, 17763, 35526, 1453, 2906, 5812, 11624, 23248, 46496, 31585, 63170, 64933, 60267, 50935, 40399, 11199, 22398, 44796, 19929, 39858, 10053, 20106, 40212, 10761, 21522, 43044, 16489, 32978, 4485, 8970, 17940, 35880, 2161, 4322, 8644, 17288, 34576, 7681, 15362, 30724, 61448, 61489, 61507, 61607, 61807, 62207, 62943, 64415, 59167, 56863, 44063, 18463, 36926, 12381, 24762, 49524, 37577, 13747, 27494, 54988, 48569, 27475, 54950, 48493, 27387, 54774, 48077, 26555, 53110, 36557, 3515, 7030, 14060, 28120, 56240, 42817, 24227, 48454, 27309, 54618, 47765, 25867, 51734, 33805, 6203, 12406, 24812, 49624, 37777, 14083, 28166, 56332, 43065, 16467, 32934, 4461, 8922, 17844, 35688, 1777, 3554, 7108, 14216, 28432, 56864, 44129, 18659, 37318, 13229, 26458, 52916, 36169, 2739, 5478, 10956, 21912, 43824, 17985, 35970, 2341, 4682, 9364, 18728, 37456, 13441, 26882, 53764, 46121, 30835]
def ck_chk : Nat → List Nat → Bool
  | _, [] => true
  | a, b :: r => Nat.beq (ck_st a) b && (!Nat.beq b 1) && ck_chk b r
theorem ck_chk_ok : ck_chk 1 ck_tab = true := by decide +kernel
theorem ck_chk_len : ck_tab.length = 239 := by decide +kernel
theorem ck_chk_it {a : Nat} {r : List Nat} (h : ck_chk a r = true) : ∀ k, k < r.length → ck_it (k + 1) a ≠ 1 := by
  induction r generalizing a with
  | nil => intro k hk; exact absurd hk (Nat.not_lt_zero k)
  | cons b r ih =>
    unfold ck_chk at h
    rw [Bool.and_eq_true, Bool.and_eq_true] at h
    obtain ⟨⟨h1, h2⟩, h3⟩ := h
    have e1 : ck_st a = b := Nat.eq_of_beq_eq_true h1
    have e2 : b ≠ 1 := by
      intro z
      rw [z] at h2
      exact absurd h2 (by decide)
    intro k hk
    show ck_it k (ck_st a) ≠ 1
    rw [e1]
    cases k with
    | zero => exact e2
    | succ k => exact ih h3 k (Nat.lt_of_succ_lt_succ hk)
theorem ck_T_ne1 {d : Nat} (h0 : 0 < d) (h : d < 240) : ck_T d ≠ 1 := by
  obtain ⟨k, rfl⟩ : ∃ k, d = k + 1 := ⟨d - 1, by omega⟩
  exact ck_chk_it ck_chk_ok k (by rw [ck_chk_len]; omega)
theorem ck_T_ne0 (d : Nat) : ck_T d ≠ 0 := by
  intro h
  have e : ck_it d 1 = ck_it d 0 := by rw [ck_it0]; exact h
  exact absurd (ck_it_inj (by decide) (by decide) d e) (by decide)
theorem ck_T_lt_ne {j k : Nat} (h : j < k) (hk : k < 240) : ck_T j ≠ ck_T k := by
  intro e
  have e2 : ck_T k = ck_it j (ck_T (k - j)) := by rw [ck_T_add]; congr 1; omega
  rw [e2] at e
  exact ck_T_ne1 (by omega) (by omega) (ck_it_inj (by decide) (ck_T_lt _) j e).symm
theorem ck_T_ne {j k : Nat} (h : j ≠ k) (hj : j < 240) (hk : k < 240) : ck_T j ≠ ck_T k := by
  rcases Nat.lt_or_gt_of_ne h with z | z
  · exact ck_T_lt_ne z hk
  · exact (ck_T_lt_ne z hj).symm
def ck_step (s b : Nat) : Nat := ck_it 8 (s ^^^ (b * 256))
def ck_crc (f : Nat → Nat) : Nat → Nat
  | 0 => 65535
  | n + 1 => ck_step (ck_crc f n) (f n)
def ck_syn (d : Nat → Nat) : Nat → Nat
  | 0 => 0
  | n + 1 => ck_step (ck_syn d n) (d n)
theorem ck_step_lt {s b : Nat} (hs : s < 65536) (hb : b < 256) : ck_step s b < 65536 := ck_it_lt (ck_xlt hs (by omega)) 8
theorem ck_crc_lt {f : Nat → Nat} {n : Nat} (h : ∀ i, i < n → f i < 256) : ck_crc f n < 65536 := by
  induction n with
  | zero => exact (by decide : 65535 < 65536)
  | succ n ih => exact ck_step_lt (ih fun i hi => h i (by omega)) (h n (by omega))
theorem ck_syn_lt {f : Nat → Nat} {n : Nat} (h : ∀ i, i < n → f i < 256) : ck_syn f n < 65536 := by
  induction n with
  | zero => exact (by decide : 0 < 65536)
  | succ n ih => exact ck_step_lt (ih fun i hi => h i (by omega)) (h n (by omega))
theorem ck_crc_congr {f g : Nat → Nat} {n : Nat} (h : ∀ i, i < n → f i = g i) : ck_crc f n = ck_crc g n := by
  induction n with
  | zero => rfl
  | succ n ih =>
    show ck_step _ _ = ck_step _ _
    rw [ih fun i hi => h i (by omega), h n (by omega)]
theorem ck_step_lin {s t b c : Nat} (hs : s < 65536) (ht : t < 65536) (hb : b < 256) (hc : c < 256) : ck_step (s ^^^ t) (b ^^^ c) = ck_step s b ^^^ ck_step t c := by
  unfold ck_step
  rw [ck_mul256, ck_x4]
  exact ck_it_lin (ck_xlt hs (by omega)) (ck_xlt ht (by omega)) 8
theorem ck_crc_lin {f d : Nat → Nat} {n : Nat} (hf : ∀ i, i < n → f i < 256) (hd : ∀ i, i < n → d i < 256) : ck_crc (fun i => f i ^^^ d i) n = ck_crc f n ^^^ ck_syn d n := by
  induction n with
  | zero => exact (Nat.xor_zero 65535).symm
  | succ n ih =>
    show ck_step (ck_crc (fun i => f i ^^^ d i) n) (f n ^^^ d n) = _
    rw [ih (fun i hi => hf i (by omega)) (fun i hi => hd i (by omega))]
    exact ck_step_lin (ck_crc_lt fun i hi => hf i (by omega)) (ck_syn_lt fun i hi => hd i (by omega)) (hf n (by omega)) (hd n (by omega))
def ck_bit (b : Nat) (i : Nat) : Nat := if i = b / 8 then 2 ^ (b % 8) else 0
theorem ck_p8 : ∀ t, t < 8 → 2 ^ t < 256 := by decide
theorem ck_bit_lt (b i : Nat) : ck_bit b i < 256 := by
  unfold ck_bit
  split
  · exact ck_p8 _ (Nat.mod_lt _ (by decide))
  · decide
theorem ck_syn_lo {b n : Nat} (h : n ≤ b / 8) : ck_syn (ck_bit b) n = 0 := by
  induction n with
  | zero => rfl
  | succ n ih =>
    show ck_step _ _ = 0
    have e : ck_bit b n = 0 := if_neg (by omega)
    rw [ih (by omega), e]
    rfl
theorem ck_syn_hi (b m : Nat) : ck_syn (ck_bit b) (b / 8 + 1 + m) = ck_T (16 + b % 8 + 8 * m) := by
  induction m with
  | zero =>
    show ck_step (ck_syn (ck_bit b) (b / 8)) (ck_bit b (b / 8)) = _
    have e : ck_bit b (b / 8) = 2 ^ (b % 8) := if_pos rfl
    rw [ck_syn_lo (Nat.le_refl _), e]
    unfold ck_step
    rw [Nat.zero_xor]
    have e2 : 2 ^ (b % 8) * 256 = ck_T (8 + b % 8) := by
      rw [ck_T16 _ (by omega), Nat.pow_add, Nat.mul_comm]
    rw [e2, ck_T_add]
    congr 1
    omega
  | succ m ih =>
    show ck_step (ck_syn (ck_bit b) (b / 8 + 1 + m)) (ck_bit b (b / 8 + 1 + m)) = _
    have e : ck_bit b (b / 8 + 1 + m) = 0 := if_neg (by omega)
    rw [ih, e]
    unfold ck_step
    rw [Nat.zero_mul, Nat.xor_zero, ck_T_add]
    congr 1
/-- 0 exactly where the checksum of the first n bytes stands behind them -/
def ck_dis (f : Nat → Nat) (n : Nat) : Nat := ck_crc f n ^^^ ((f n * 256) ^^^ f (n + 1))
theorem ck_ex {n b : Nat} (h : b < 8 * (n + 2)) : 8 * (n + 1 - b / 8) + b % 8 < 8 * (n + 2) := by omega
theorem ck_dis_bit {f : Nat → Nat} {n b : Nat} (hf : ∀ i, i < n + 2 → f i < 256) (hb : b < 8 * (n + 2)) : ck_dis (fun i => f i ^^^ ck_bit b i) n = ck_dis f n ^^^ ck_T (8 * (n + 1 - b / 8) + b % 8) := by
  unfold ck_dis
  rw [ck_crc_lin (fun i hi => hf i (by omega)) (fun i _ => ck_bit_lt b i)]
  show (_ ^^^ _) ^^^ (((f n ^^^ ck_bit b n) * 256) ^^^ (f (n + 1) ^^^ ck_bit b (n + 1))) = _
  rw [ck_mul256, ck_x4 (f n * 256), ck_x4 (ck_crc f n)]
  congr 1
  by_cases h1 : b / 8 < n
  · have e1 : ck_bit b n = 0 := if_neg (by omega)
    have e2 : ck_bit b (n + 1) = 0 := if_neg (by omega)
    rw [e1, e2, Nat.zero_mul, Nat.xor_zero, Nat.xor_zero]
    obtain ⟨m, rfl⟩ : ∃ m, n = b / 8 + 1 + m := ⟨n - (b / 8 + 1), by omega⟩
    rw [ck_syn_hi]
    congr 1
    omega
  · rw [ck_syn_lo (by omega), Nat.zero_xor]
    by_cases h2 : b / 8 = n
    · have e1 : ck_bit b n = 2 ^ (b % 8) := if_pos h2.symm
      have e2 : ck_bit b (n + 1) = 0 := if_neg (by omega)
      have e3 : 8 * (n + 1 - b / 8) + b % 8 = 8 + b % 8 := by omega
      rw [e1, e2, e3, ck_T16 _ (by omega), Nat.xor_zero, Nat.pow_add, Nat.mul_comm]
    · have e1 : ck_bit b n = 0 := if_neg (by omega)
      have e2 : ck_bit b (n + 1) = 2 ^ (b % 8) := if_pos (by omega)
      have e3 : 8 * (n + 1 - b / 8) + b % 8 = b % 8 := by omega
      rw [e1, e2, e3, ck_T16 _ (by omega), Nat.zero_mul, Nat.zero_xor]
theorem ck_one {f : Nat → Nat} {n b : Nat} (hf : ∀ i, i < n + 2 → f i < 256) (hb : b < 8 * (n + 2)) (hz : ck_dis f n = 0) : ck_dis (fun i => f i ^^^ ck_bit b i) n ≠ 0 := by
  rw [ck_dis_bit hf hb, hz, Nat.zero_xor]
  exact ck_T_ne0 _
theorem ck_two {f : Nat → Nat} {n b c : Nat} (hn : n + 2 ≤ 30) (hf : ∀ i, i < n + 2 → f i < 256) (hb : b < 8 * (n + 2)) (hc : c < 8 * (n + 2)) (hbc : c ≠ b) (hz : ck_dis f n = 0) :
    ck_dis (fun i => (f i ^^^ ck_bit b i) ^^^ ck_bit c i) n ≠ 0 := by
  rw [ck_dis_bit (f := fun i => f i ^^^ ck_bit b i) (fun i hi => ck_xlt8 (hf i hi) (ck_bit_lt b i)) hc, ck_dis_bit hf hb, hz, Nat.zero_xor]
  intro e
  exact ck_T_ne (by omega) (by omega) (by omega) (ck_x0 e)
theorem ck_hl {a b : Nat} (hb : b < 256) : (a * 256) ^^^ b = a * 256 + b := by
  have h1 := ck_div8 (a * 256) b
  have h2 := ck_mod8 (a * 256) b
  have e1 : a * 256 / 256 = a := by omega
  have e2 : b / 256 = 0 := by omega
  have e3 : a * 256 % 256 = 0 := by omega
  have e4 : b % 256 = b := by omega
  rw [e1, e2, Nat.xor_zero] at h1
  rw [e3, e4, Nat.zero_xor] at h2
  omega
theorem ck_dis0 {f : Nat → Nat} {n : Nat} (hb : f (n + 1) < 256) : ck_dis f n = 0 ↔ f n * 256 + f (n + 1) = ck_crc f n := by
  unfold ck_dis
  rw [ck_hl hb]
  constructor
  · intro h; exact (ck_x0 h).symm
  · intro h; rw [h, Nat.xor_self]
theorem ck_dis_congr {f g : Nat → Nat} {n : Nat} (h : ∀ i, i < n + 2 → f i = g i) : ck_dis f n = ck_dis g n := by
  unfold ck_dis
  rw [ck_crc_congr (n := n) fun i hi => h i (by omega), h n (by omega), h (n + 1) (by omega)]
