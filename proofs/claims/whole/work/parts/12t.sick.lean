/-! SIM sick -/
def wl (c t : Nat) : Nat → Nat
  | 0 => 1
  | p + 1 => wl c t p * (if t.testBit p then 10 - c else c)
def WA (P : Nat → Bool) (w : Nat → Nat) : Nat → Nat
  | 0 => 0
  | t + 1 => WA P w t + (if P t then w t else 0)
theorem WA_le (P : Nat → Bool) (w : Nat → Nat) : ∀ t, WA P w t ≤ WA (fun _ => true) w t
  | 0 => Nat.le_refl _
  | t + 1 => by
    have := WA_le P w t
    show WA P w t + (if P t then w t else 0) ≤ WA (fun _ => true) w t + w t
    split <;> omega
theorem wl_eq : ∀ c, c < 11 → ∀ np, np < 7 → ∀ t, t < 64 → t < 2 ^ np → wl c t np = (10 - c) ^ popc t * c ^ (np - popc t) := by decide +kernel
theorem wl_sum : ∀ c, c < 11 → ∀ np, np < 7 → WA (fun _ => true) (fun t => wl c t np) (2 ^ np) = 10 ^ np := by decide +kernel
theorem c_power_L (N : Nat) {b e : Nat} (he : e ≤ 6) : ∀ (n j : Nat), j ≤ e → e - j < n → fX1_power_L4 N (nI b) (nI e) n (nI (b ^ j)) (nI j) = some (nI (b ^ e), nI e) := by
  intro n
  induction n with
  | zero => intro j h1 h2; omega
  | succ n ih =>
    intro j h1 h2
    rw [fX1_power_L4]
    by_cases q : j = e
    · subst q; rw [if_pos ((nle (by omega) (by omega)).mpr (Nat.le_refl _))]
    · rw [if_neg (fun z => by have := (nle (by omega) (by omega)).mp z; omega), n_mul, n_s1, ← Nat.pow_succ]
      exact ih (j + 1) (by omega) (by omega)
theorem c_power (N : Nat) (hN : 1000 ≤ N) {b e : Nat} (he : e ≤ 6) : fX1_power N (nI b) (nI e) = some (nI (b ^ e)) := by
  unfold fX1_power
  have := c_power_L N (b := b) he N 0 (by omega) (by omega)
  rw [show nI (b ^ 0) = 1 from rfl, show (nI 0 : Int32) = 0 from rfl] at this
  rw [this, bnd_s]
theorem m_ways_L (N : Nat) {np c t : Nat} {x1 x3 x4 x5 : Int32} {row : Nat → Int32} (h6 : np ≤ 6) (hc : c ≤ 10) (ht : t < 64) (e27 : row 27 = nI np) : ∀ (n p : Nat), p ≤ np → np - p < n → fX8_sick_L56 N x1 (nI c) x3 x4 x5 (nI t) row n (nI (wl c t p)) (nI p) = some (nI (wl c t np), nI np) := by
  intro n
  induction n with
  | zero => intro p h1 h2; omega
  | succ n ih =>
    intro p h1 h2
    rw [fX8_sick_L56, e27]
    by_cases q : p = np
    · subst q; rw [if_pos ((nle (by omega) (by omega)).mpr (Nat.le_refl _))]
    · have i := ih (p + 1) (by omega) (by omega)
      have eu : wl c t (p + 1) = wl c t p * (if t.testBit p then 10 - c else c) := rfl
      rw [if_neg (fun z => by have := (nle (by omega) (by omega)).mp z; omega), m_has N ht (by omega), bnd_s, ite_b2i, n_s1, show (10 : Int32) - nI c = nI (10 - c) from n_sub hc, n_mul, n_mul]
      by_cases qb : t.testBit p = true
      · rw [eu, if_pos qb] at i; rw [if_pos qb]; exact i
      · rw [eu, if_neg qb] at i; rw [if_neg qb]; exact i
theorem m_gcd_L (N : Nat) {x1 x2 x3 x4 x5 : Int32} : ∀ (k n x y : Nat), y < 2 ^ k → 2 * k < n → x < 2 ^ 31 → y < 2 ^ 31 → fX8_sick_L161 N x1 x2 x3 x4 x5 n (nI x) (nI y) = some (nI (Nat.gcd x y), 0) := by
  intro k
  induction k with
  | zero =>
    intro n x y hy hn hx hy2
    have : y = 0 := by simpa using hy
    subst this
    obtain ⟨n', rfl⟩ : ∃ n', n = n' + 1 := ⟨n - 1, by omega⟩
    rw [fX8_sick_L161, if_pos (show nI 0 = 0 from rfl), Nat.gcd_zero_right]; rfl
  | succ k ih =>
    intro n x y hy hn hx hy2
    obtain ⟨n', rfl⟩ : ∃ n', n = n' + 2 := ⟨n - 2, by omega⟩
    rw [fX8_sick_L161]
    by_cases h0 : y = 0
    · subst h0; rw [if_pos (show nI 0 = 0 from rfl), Nat.gcd_zero_right]; rfl
    · have hne : ¬ nI y = 0 := fun z => h0 ((neq (b := 0) hy2 (by omega)).mp z)
      have hlt : x % y < y := Nat.mod_lt _ (by omega)
      unfold dvb
      rw [if_neg hne, if_neg hne, n_irem hx (by omega) hy2, show Nat.gcd x y = Nat.gcd y (x % y) by rw [Nat.gcd_comm x y, Nat.gcd_rec, Nat.gcd_comm], fX8_sick_L161]
      by_cases h1 : x % y = 0
      · rw [h1, if_pos (show nI 0 = 0 from rfl), Nat.gcd_zero_right]; rfl
      · have hne1 : ¬ nI (x % y) = 0 := fun z => h1 ((neq (b := 0) (by omega) (by omega)).mp z)
        have hlt2 : y % (x % y) < x % y := Nat.mod_lt _ (by omega)
        have hle : y % (x % y) ≤ y - x % y := by
          rw [Nat.mod_eq_sub_mod (Nat.le_of_lt hlt)]; exact Nat.mod_le _ _
        unfold dvb
        rw [if_neg hne1, if_neg hne1, n_irem hy2 (by omega) (by omega), show Nat.gcd y (x % y) = Nat.gcd (x % y) (y % (x % y)) by rw [Nat.gcd_comm y (x % y), Nat.gcd_rec, Nat.gcd_comm]]
        exact ih n' _ _ (by rw [Nat.pow_succ] at hy; omega) (by omega) (by omega) (by omega)
theorem cop5 {a : Nat} (h : ¬ a % 5 = 0) : Nat.Coprime a 5 := by
  have hd : Nat.gcd a 5 ∣ 5 := Nat.gcd_dvd_right a 5
  have ha : Nat.gcd a 5 ∣ a := Nat.gcd_dvd_left a 5
  have hle : Nat.gcd a 5 ≤ 5 := Nat.le_of_dvd (by omega) hd
  have hc : ∀ g, g < 6 → g ∣ 5 → g = 1 ∨ g = 5 := by decide
  rcases hc _ (by omega) hd with q | q
  · exact q
  · rw [q] at ha; exact absurd (Nat.mod_eq_zero_of_dvd ha) h
theorem cop2 {a : Nat} (h : ¬ a % 2 = 0) : Nat.Coprime a 2 := by
  have hd : Nat.gcd a 2 ∣ 2 := Nat.gcd_dvd_right a 2
  have ha : Nat.gcd a 2 ∣ a := Nat.gcd_dvd_left a 2
  have hle : Nat.gcd a 2 ≤ 2 := Nat.le_of_dvd (by omega) hd
  have hc : ∀ g, g < 3 → g ∣ 2 → g = 1 ∨ g = 2 := by decide
  rcases hc _ (by omega) hd with q | q
  · exact q
  · rw [q] at ha; exact absurd (Nat.mod_eq_zero_of_dvd ha) h
/-- what stands after p rounds of cutting -/
def CUT (np A p a b : Nat) : Prop := ∃ x y D, b = 2 ^ x * 5 ^ y ∧ a * D = A ∧ b * D = 10 ^ np ∧ (x = np - p ∨ ¬ a % 2 = 0) ∧ (y = np - p ∨ ¬ a % 5 = 0)
theorem cut2 {np A x y D a : Nat} (h1 : a * D = A) (h2 : (2 ^ (x + 1) * 5 ^ y) * D = 10 ^ np) (h : a % 2 = 0) : 2 ^ (x + 1) * 5 ^ y / 2 = 2 ^ x * 5 ^ y ∧ (a / 2) * (2 * D) = A ∧ (2 ^ x * 5 ^ y) * (2 * D) = 10 ^ np := by
  have e : 2 ^ (x + 1) * 5 ^ y = 2 * (2 ^ x * 5 ^ y) := by rw [Nat.pow_succ, Nat.mul_comm (2 ^ x) 2, Nat.mul_assoc]
  refine ⟨by rw [e, Nat.mul_div_cancel_left _ (by omega)], ?_, ?_⟩
  · rw [← Nat.mul_assoc, Nat.div_mul_cancel (Nat.dvd_of_mod_eq_zero h)]; exact h1
  · rw [← h2, e, ← Nat.mul_assoc, Nat.mul_comm (2 ^ x * 5 ^ y) 2]
theorem cut5 {np A x y D a : Nat} (h1 : a * D = A) (h2 : (2 ^ x * 5 ^ (y + 1)) * D = 10 ^ np) (h : a % 5 = 0) : 2 ^ x * 5 ^ (y + 1) / 5 = 2 ^ x * 5 ^ y ∧ (a / 5) * (5 * D) = A ∧ (2 ^ x * 5 ^ y) * (5 * D) = 10 ^ np := by
  have e : 2 ^ x * 5 ^ (y + 1) = 5 * (2 ^ x * 5 ^ y) := by rw [Nat.pow_succ, ← Nat.mul_assoc, Nat.mul_comm]
  refine ⟨by rw [e, Nat.mul_div_cancel_left _ (by omega)], ?_, ?_⟩
  · rw [← Nat.mul_assoc, Nat.div_mul_cancel (Nat.dvd_of_mod_eq_zero h)]; exact h1
  · rw [← h2, e, ← Nat.mul_assoc, Nat.mul_comm (2 ^ x * 5 ^ y) 5]
theorem odd_div5 {a : Nat} (h : ¬ a % 2 = 0) (h5 : a % 5 = 0) : ¬ (a / 5) % 2 = 0 := by omega
theorem five_div2 {a : Nat} (h : ¬ a % 5 = 0) (h2 : a % 2 = 0) : ¬ (a / 2) % 5 = 0 := by omega
theorem cut_bound {np A p a b : Nat} (h6 : np ≤ 6) (h : CUT np A p a b) : b ≤ 1000000 := by
  obtain ⟨x, y, D, -, -, h3, -⟩ := h
  have h1 : 10 ^ np ≤ 10 ^ 6 := Nat.pow_le_pow_right (by decide) h6
  have h0 : 0 < 10 ^ np := Nat.pos_of_ne_zero (by simp)
  have hD : 0 < D := Nat.pos_of_ne_zero (fun z => by rw [z, Nat.mul_zero] at h3; omega)
  have : b * 1 ≤ b * D := Nat.mul_le_mul_left b hD
  omega
theorem c_cut_L (N : Nat) {np A : Nat} {x2 x3 x4 : Int32} (h6 : np ≤ 6) (hA : A ≤ 1000000) : ∀ (n p a b : Nat), p ≤ np → np - p < n → a ≤ 1000000 → CUT np A p a b → ∃ a' b', fX1_likelihood_L37 N x2 x3 x4 (nI np) n (nI a) (nI b) (nI p) = some (nI a', nI b', nI np) ∧ CUT np A np a' b' := by
  intro n
  induction n with
  | zero => intro p a b h1 h2; omega
  | succ n ih =>
    intro p a b h1 h2 ha hb
    have hb1 := cut_bound h6 hb
    rw [fX1_likelihood_L37]
    by_cases q : p = np
    · subst q; exact ⟨a, b, if_pos ((nle (by omega) (by omega)).mpr (Nat.le_refl _)), hb⟩
    · have e2 : ∀ v, v ≤ 1000000 → irem (nI v) 2 = nI (v % 2) := fun v hv => n_irem (d := 2) (by omega) (by omega) (by omega)
      have e5 : ∀ v, v ≤ 1000000 → irem (nI v) 5 = nI (v % 5) := fun v hv => n_irem (d := 5) (by omega) (by omega) (by omega)
      have d2 : ∀ v, v ≤ 1000000 → nI v / 2 = nI (v / 2) := fun v hv => n_div (d := 2) (by omega) (by omega) (by omega)
      have d5 : ∀ v, v ≤ 1000000 → nI v / 5 = nI (v / 5) := fun v hv => n_div (d := 5) (by omega) (by omega) (by omega)
      have z : ∀ v, v ≤ 1000000 → (nI v = 0 ↔ v = 0) := fun v hv => neq (b := 0) (by omega) (by omega)
      rw [if_neg (fun z => by have := (nle (by omega) (by omega)).mp z; omega), e2 a ha, d2 a ha, e5 (a / 2) (by omega), d5 (a / 2) (by omega), d2 b hb1, d5 (b / 2) (by omega), e5 a ha, d5 a ha, d5 b hb1, n_s1]
      obtain ⟨x, y, D, h3, h4, h5, h7, h8⟩ := hb
      by_cases q2 : a % 2 = 0
      · rw [if_pos ((z _ (by omega)).mpr q2)]
        have hx : x = (np - (p + 1)) + 1 := by omega
        subst hx; subst h3
        obtain ⟨c1, c2, c3⟩ := cut2 h4 h5 q2
        by_cases q5 : (a / 2) % 5 = 0
        · rw [if_pos ((z _ (by omega)).mpr q5)]
          have hy : y = (np - (p + 1)) + 1 := by omega
          subst hy
          rw [c1]
          obtain ⟨f1, f2, f3⟩ := cut5 c2 c3 q5
          rw [f1]
          exact ih (p + 1) _ _ (by omega) (by omega) (by omega) ⟨_, _, _, rfl, f2, f3, Or.inl rfl, Or.inl rfl⟩
        · rw [if_neg (fun w => q5 ((z _ (by omega)).mp w)), c1]
          exact ih (p + 1) _ _ (by omega) (by omega) (by omega) ⟨_, _, _, rfl, c2, c3, Or.inl rfl, Or.inr q5⟩
      · rw [if_neg (fun w => q2 ((z _ (by omega)).mp w))]
        by_cases q5 : a % 5 = 0
        · rw [if_pos ((z _ (by omega)).mpr q5)]
          have hy : y = (np - (p + 1)) + 1 := by omega
          subst hy; subst h3
          obtain ⟨f1, f2, f3⟩ := cut5 h4 h5 q5
          rw [f1]
          exact ih (p + 1) _ _ (by omega) (by omega) (by omega) ⟨_, _, _, rfl, f2, f3, Or.inr (odd_div5 q2 q5), Or.inl rfl⟩
        · rw [if_neg (fun w => q5 ((z _ (by omega)).mp w))]
          exact ih (p + 1) _ _ (by omega) (by omega) (by omega) ⟨_, _, _, h3, h4, h5, Or.inr q2, Or.inr q5⟩
theorem cut_end {np A a b : Nat} (h : CUT np A np a b) : 0 < Nat.gcd A (10 ^ np) ∧ A / Nat.gcd A (10 ^ np) = a ∧ 10 ^ np / Nat.gcd A (10 ^ np) = b := by
  obtain ⟨x, y, D, h3, h4, h5, h7, h8⟩ := h
  have h0 : 0 < 10 ^ np := Nat.pos_of_ne_zero (by simp)
  have hD : 0 < D := Nat.pos_of_ne_zero (fun z => by rw [z, Nat.mul_zero] at h5; omega)
  have c2 : Nat.Coprime a (2 ^ x) := by
    rcases h7 with q | q
    · rw [q, Nat.sub_self, Nat.pow_zero]; exact Nat.coprime_one_right a
    · exact Nat.Coprime.pow_right x (cop2 q)
  have c5 : Nat.Coprime a (5 ^ y) := by
    rcases h8 with q | q
    · rw [q, Nat.sub_self, Nat.pow_zero]; exact Nat.coprime_one_right a
    · exact Nat.Coprime.pow_right y (cop5 q)
  have cc : Nat.Coprime a b := by rw [h3]; exact Nat.Coprime.mul_right c2 c5
  have eg : Nat.gcd A (10 ^ np) = D := by rw [← h4, ← h5, Nat.gcd_mul_right, show Nat.gcd a b = 1 from cc, Nat.one_mul]
  rw [eg]
  exact ⟨hD, by rw [← h4, Nat.mul_div_cancel _ hD], by rw [← h5, Nat.mul_div_cancel _ hD]⟩
