/-! SIM felt -/
theorem lg_cmp_neg (a b : Int64) : lg_cmp a b < 0 ↔ a.toInt < b.toInt := by
  unfold lg_cmp
  by_cases h : a > b
  · rw [if_pos h]
    have : b.toInt < a.toInt := Int64.lt_iff_toInt_lt.mp h
    exact ⟨fun z => absurd z (by decide), fun z => by omega⟩
  · rw [if_neg h]
    have hn : ¬ b.toInt < a.toInt := fun z => h (Int64.lt_iff_toInt_lt.mpr z)
    by_cases e : a = b
    · rw [if_pos e, e]; exact ⟨fun z => absurd z (by decide), fun z => absurd z (Int.lt_irrefl _)⟩
    · rw [if_neg e]
      have : a.toInt ≠ b.toInt := fun z => e (Int64.toInt_inj.mp z)
      exact ⟨fun _ => by omega, fun _ => by decide⟩
theorem c_isSay (N : Nat) {ns : Nat} (h5 : ns ≤ 5) (v : Int64) : fX7_isSaying N (nI ns) v = some (b2i (decide (0 ≤ v.toInt ∧ v.toInt < ns))) := by
  unfold fX7_isSaying
  have k1 := lg_cmp_neg v 0
  have k2 := lg_cmp_neg v (nI ns).toInt64
  rw [show (0 : Int64).toInt = 0 from rfl] at k1
  rw [Int32.toInt_toInt64, tI ns] at k2
  by_cases h1 : v.toInt < 0
  · rw [if_pos (k1.mpr h1), show decide (0 ≤ v.toInt ∧ v.toInt < ns) = false by simp; omega]; rfl
  · rw [if_neg (fun z => h1 (k1.mp z))]
    by_cases h2 : v.toInt < ns
    · rw [if_neg (fun z => by have q := k2.mpr h2; rw [Int32.le_iff_toInt_le] at z; rw [Int32.lt_iff_toInt_lt] at q; omega), show decide (0 ≤ v.toInt ∧ v.toInt < ns) = true by simp; omega]; rfl
    · rw [if_pos (show 0 ≤ lg_cmp v (nI ns).toInt64 by
        have q : ¬ lg_cmp v (nI ns).toInt64 < 0 := fun z => h2 (k2.mp z)
        rw [Int32.lt_iff_toInt_lt] at q; rw [Int32.le_iff_toInt_le]; omega), show decide (0 ≤ v.toInt ∧ v.toInt < ns) = false by simp; omega]; rfl
theorem m_isSay (N : Nat) {ns : Nat} (h5 : ns ≤ 5) (v : Int64) : fX8_in N v 0 (nI ns - 1).toInt64 = some (b2i (decide (0 ≤ v.toInt ∧ v.toInt < ns))) := by
  rw [m_in, Int32.toInt_toInt64, show (nI ns - 1).toInt = (ns : Int) - 1 from pk_sub_toInt (b := 1) (by omega) (by decide), show (0 : Int64).toInt = 0 from rfl]
  congr 3
  apply propext
  constructor <;> intro h <;> omega
/-- all pairs begin with a saying, or both refuse -/
theorem felt_ok_L (N : Nat) {q a n1 ns : Nat} (hq : q < 4) (hn : n1 ≤ 5) (ha : a + 2 * n1 ≤ 24) (h5 : ns ≤ 5) {x1 x2 x5 x7 x2' x5' x7' : Int32} {Zi : Nat → Nat → Int64} {it : Nat → Int64} {row : Nat → Int32} (e28 : row 28 = nI ns) (hI : IT Zi it) :
    ∀ (n x : Nat), x ≤ n1 → n1 - x < n → (∀ k, k < x → 0 ≤ (Zi q (a + 2 * k)).toInt ∧ (Zi q (a + 2 * k)).toInt < ns) → ∃ o o', fX7_felt_L68 N q x1 x2 (nI a) (nI n1) x5 x7 (nI ns) Zi n (nI x) = some o ∧ fX8_felt_L74 N (nI q) x2' (nI a) (nI n1) x5' x7' row it n (nI (24 * q + a + 2 * x)) = some o' ∧ ((o = .inl (-2) ∧ o' = .inl (-2)) ∨ (∃ u v, o = .inr u ∧ o' = .inr v ∧ ∀ k, k < n1 → 0 ≤ (Zi q (a + 2 * k)).toInt ∧ (Zi q (a + 2 * k)).toInt < ns)) := by
  intro n
  induction n with
  | zero => intro x h1 h2; omega
  | succ n ih =>
    intro x h1 h2 h
    rw [fX7_felt_L68, fX8_felt_L74]
    have eE : (24 : Int32) * nI q + nI a + 2 * nI n1 = nI (24 * q + a + 2 * n1) := by rw [show (24 : Int32) = nI 24 from rfl, show (2 : Int32) = nI 2 from rfl, n_mul, n_mul, nI_add, nI_add]
    rw [eE]
    by_cases he : x = n1
    · subst he
      exact ⟨_, _, if_pos ((nle (by omega) (by omega)).mpr (Nat.le_refl _)), if_pos ((nle (by omega) (by omega)).mpr (Nat.le_refl _)), Or.inr ⟨_, _, rfl, rfl, h⟩⟩
    · have q1 : ¬ nI n1 ≤ nI x := fun z => by have := (nle (by omega) (by omega)).mp z; omega
      have q2 : ¬ nI (24 * q + a + 2 * n1) ≤ nI (24 * q + a + 2 * x) := fun z => by have := (nle (by omega) (by omega)).mp z; omega
      have ex : nI a + 2 * nI x = nI (a + 2 * x) := by rw [show (2 : Int32) = nI 2 from rfl, n_mul, nI_add]
      have en : nI (24 * q + a + 2 * x) + 2 = nI (24 * q + a + 2 * (x + 1)) := by rw [show (2 : Int32) = nI 2 from rfl, nI_add]; congr 1
      have ei : it (24 * q + a + 2 * x) = Zi q (a + 2 * x) := by rw [hI q hq (a + 2 * x) (by omega)]; exact congrArg it (by omega)
      rw [if_neg q1, if_neg q2, ex, ixb_nI (by omega), ixb_nI (by omega), ei, c_isSay N h5, bnd_s, e28, m_isSay N h5, bnd_s, ite_b2i, ite_b2i, n_s1, en]
      simp only [decide_eq_true_eq]
      by_cases hs : 0 ≤ (Zi q (a + 2 * x)).toInt ∧ (Zi q (a + 2 * x)).toInt < ns
      · rw [if_pos hs, if_pos hs]
        refine ih (x + 1) (by omega) (by omega) (fun k hk => ?_)
        by_cases e : k = x
        · subst e; exact hs
        · exact h k (by omega)
      · rw [if_neg hs, if_neg hs]; exact ⟨_, _, rfl, rfl, Or.inl ⟨rfl, rfl⟩⟩
theorem l_small {v : Int64} {ns : Nat} (h5 : ns ≤ 5) (h : 0 ≤ v.toInt ∧ v.toInt < ns) : ∃ s : Nat, s < ns ∧ v.toInt32 = nI s := by
  refine ⟨v.toInt.toNat, by omega, ?_⟩
  rw [← Int32.toInt_inj, Int64.toInt_toInt32, nI_toInt (by omega), Int.bmod_eq_of_le] <;> omega
/-- one set of those for it, tried on all pairs -/
theorem felt_one (N : Nat) (hN : 1000 ≤ N) {q a n1 ns np nm t : Nat} {kd wt ju fo : Nat → Nat} (hq : q < 4) (hn : n1 ≤ 5) (ha : a + 2 * n1 ≤ 24) {kind weight juice fors row : Nat → Int32} {Zi : Nat → Nat → Int64} {it : Nat → Int64} (P : PR np kd wt kind weight) (SS : SR ns np ju fo juice fors) (Q : QR np kd wt row) (TT : TR 0 ns np ju fo row) (hm : nm < 2 ^ 31) (em : row 1 = nI nm) (ht : t < 2 ^ np) (hI : IT Zi it) (hs : ∀ k, k < n1 → 0 ≤ (Zi q (a + 2 * k)).toInt ∧ (Zi q (a + 2 * k)).toInt < ns) :
    ∃ b : Bool, fX7_isFeltBy N (nI np) kind weight (nI nm) juice (Zi q) (nI t) (nI a) (nI n1) = some (b2i b) ∧ fX8_isFeltSo N row it (nI q) (nI a) (nI n1) (nI t) = some (b2i b) := by
  have h5 := SS.1
  have h6 := P.1
  have h64 := pow6 h6
  have hpos : 0 < 2 ^ np := Nat.pos_of_ne_zero (by simp)
  have eE : (24 : Int32) * nI q + nI a + 2 * nI n1 = nI (24 * q + a + 2 * n1) := by rw [show (24 : Int32) = nI 24 from rfl, show (2 : Int32) = nI 2 from rfl, n_mul, n_mul, nI_add, nI_add]
  -- once it failed the reference only counts on
  have off : ∀ (n x : Nat), x ≤ n1 → n1 - x < n → ∃ o, fX8_isFeltSo_L11 N (nI q) (nI a) (nI n1) (nI t) row it n 0 (nI (24 * q + a + 2 * x)) = some o ∧ o.1 = 0 := by
    intro n
    induction n with
    | zero => intro x h1 h2; omega
    | succ n ih =>
      intro x h1 h2
      rw [fX8_isFeltSo_L11, eE]
      by_cases he : x = n1
      · subst he
        exact ⟨_, if_pos ((nle (by omega) (by omega)).mpr (Nat.le_refl _)), rfl⟩
      · have q2 : ¬ nI (24 * q + a + 2 * n1) ≤ nI (24 * q + a + 2 * x) := fun z => by have := (nle (by omega) (by omega)).mp z; omega
        have en : nI (24 * q + a + 2 * x) + 2 = nI (24 * q + a + 2 * (x + 1)) := by rw [show (2 : Int32) = nI 2 from rfl, nI_add]; congr 1
        rw [if_neg q2, if_pos rfl, en]
        exact ih (x + 1) (by omega) (by omega)
  have on : ∀ (n x : Nat), x ≤ n1 → n1 - x < n → ∃ o o', fX7_isFeltBy_L3 N (nI t) (nI a) (nI n1) (nI np) kind weight (nI nm) juice (Zi q) n (nI x) = some o ∧ fX8_isFeltSo_L11 N (nI q) (nI a) (nI n1) (nI t) row it n 1 (nI (24 * q + a + 2 * x)) = some o' ∧ ((o = .inl 0 ∧ o'.1 = 0) ∨ (∃ u, o = .inr u ∧ o'.1 = 1)) := by
    intro n
    induction n with
    | zero => intro x h1 h2; omega
    | succ n ih =>
      intro x h1 h2
      rw [fX7_isFeltBy_L3, fX8_isFeltSo_L11, eE]
      by_cases he : x = n1
      · subst he
        exact ⟨_, _, if_pos ((nle (by omega) (by omega)).mpr (Nat.le_refl _)), if_pos ((nle (by omega) (by omega)).mpr (Nat.le_refl _)), Or.inr ⟨_, rfl, rfl⟩⟩
      · have q1 : ¬ nI n1 ≤ nI x := fun z => by have := (nle (by omega) (by omega)).mp z; omega
        have q2 : ¬ nI (24 * q + a + 2 * n1) ≤ nI (24 * q + a + 2 * x) := fun z => by have := (nle (by omega) (by omega)).mp z; omega
        have ex : nI a + 2 * nI x = nI (a + 2 * x) := by rw [show (2 : Int32) = nI 2 from rfl, n_mul, nI_add]
        have en : nI (24 * q + a + 2 * x) + 2 = nI (24 * q + a + 2 * (x + 1)) := by rw [show (2 : Int32) = nI 2 from rfl, nI_add]; congr 1
        have ei : it (24 * q + a + 2 * x) = Zi q (a + 2 * x) := by rw [hI q hq (a + 2 * x) (by omega)]; exact congrArg it (by omega)
        have ei2 : it (24 * q + a + 2 * x + 1) = Zi q (a + 2 * x + 1) := by rw [hI q hq (a + 2 * x + 1) (by omega)]; exact congrArg it (by omega)
        obtain ⟨s, hs1, hs2⟩ := l_small h5 (hs x (by omega))
        obtain ⟨s3, s4, s5, s6⟩ := SS.2.2 s hs1
        have wr := m_with N hN Q TT em hm hs1 (show t < 64 by omega) (show 2 ^ np - 1 < 2 ^ np by omega)
        rw [if_neg q1, if_neg q2, if_neg (show ¬ (1 : Int32) = 0 by decide), ex, ixb_nI (by omega), ixb_nI (by omega), ei, hs2, ixb_nI (by omega), c_all N h6, bnd_s, c_even N hm, bnd_s, s3, c_boat N hN P (by omega) (by omega) s5, bnd_s, n_s1, n_s1, n_s1, ixb_nI (by omega), m_all N h6 Q.2.1, bnd_s, wr, bnd_s, ixb_nI (by omega), ei2, en]
        have k1 := lg_cmp_z (Zi q (a + 2 * x + 1)) (nI (brk np kd wt (ju s) t (2 ^ np - 1) (decide (nm % 2 = 0)))).toInt64
        have k2 := lg_cmp_z (nI (brk np kd wt (ju s) t (2 ^ np - 1) (decide (nm % 2 = 0)))).toInt64 (Zi q (a + 2 * x + 1))
        by_cases hv : Zi q (a + 2 * x + 1) = (nI (brk np kd wt (ju s) t (2 ^ np - 1) (decide (nm % 2 = 0)))).toInt64
        · rw [if_pos (k1.mpr hv), if_pos (k2.mpr hv.symm)]
          exact ih (x + 1) (by omega) (by omega)
        · rw [if_neg (fun z => hv (k1.mp z)), if_neg (fun z => hv (k2.mp z).symm)]
          obtain ⟨o', p1, p2⟩ := off n (x + 1) (by omega) (by omega)
          exact ⟨_, o', rfl, p1, Or.inl ⟨rfl, p2⟩⟩
  obtain ⟨o, o', p1, p2, p3⟩ := on N 0 (by omega) (by omega)
  have eA : (24 : Int32) * nI q + nI a = nI (24 * q + a + 2 * 0) := by rw [show (24 : Int32) = nI 24 from rfl, n_mul, nI_add, Nat.mul_zero, Nat.add_zero]
  unfold fX7_isFeltBy fX8_isFeltSo
  rw [show (0 : Int32) = nI 0 from rfl, p1, bnd_s, eA, p2, bnd_s]
  rcases p3 with ⟨rfl, r2⟩ | ⟨u, rfl, r2⟩
  · refine ⟨false, rfl, ?_⟩
    rw [r2]; exact zb_b false _
  · refine ⟨true, rfl, ?_⟩
    rw [r2]; exact zb_b true _
theorem x_m1 (x : Int32) : x + (-1) = x - 1 := (Int32.sub_eq_add_neg x 1).symm
def cF (F : Nat → Bool) : Nat → Nat
  | 0 => 0
  | t + 1 => cF F t + (if F t then 1 else 0)
theorem cF_le (F : Nat → Bool) : ∀ t, cF F t ≤ t
  | 0 => Nat.le_refl _
  | t + 1 => by have := cF_le F t; unfold cF; split <;> omega
def lF (F : Nat → Bool) : Nat → Nat → Int32
  | 0, _ => -4
  | m + 1, t => if F t = true then nI t else lF F m (t + 1)
theorem count_L (N : Nat) {np : Nat} {F : Nat → Bool} {people minute x2 x3 : Int32} {kind weight juice : Nat → Int32} {its : Nat → Int64} (h6 : np ≤ 6) (hp : people = nI np) (H : ∀ t, t < 2 ^ np → fX7_isFeltBy N people kind weight minute juice its (nI t) x2 x3 = some (b2i (F t))) :
    ∀ (n t : Nat), t ≤ 2 ^ np → 2 ^ np - t < n → ∃ o, fX7_countFelt_L6 N x2 x3 people kind weight minute juice its n (nI (cF F t)) (nI t) = some o ∧ o.1 = nI (cF F (2 ^ np)) := by
  have h64 := pow6 h6
  have hpos : 0 < 2 ^ np := Nat.pos_of_ne_zero (by simp)
  intro n
  induction n with
  | zero => intro t h1 h2; omega
  | succ n ih =>
    intro t h1 h2
    rw [fX7_countFelt_L6, show fX0_everybody N people = some (nI (2 ^ np - 1)) by rw [hp]; exact c_all N h6, bnd_s]
    by_cases he : t = 2 ^ np
    · exact ⟨_, if_pos ((nlt (by omega) (by omega)).mpr (by omega)), by rw [he]⟩
    · have q : ¬ nI (2 ^ np - 1) < nI t := fun z => by have := (nlt (by omega) (by omega)).mp z; omega
      have i := ih (t + 1) (by omega) (by omega)
      have eu : cF F (t + 1) = cF F t + (if F t = true then 1 else 0) := rfl
      rw [if_neg q, H t (by omega), bnd_s, ite_b2i, n_s1, n_s1]
      by_cases qf : F t = true
      · rw [eu, if_pos qf] at i; rw [if_pos qf]; exact i
      · rw [eu, if_neg qf] at i; rw [if_neg qf]; exact i
theorem least_L (N : Nat) {np : Nat} {F : Nat → Bool} {people minute x2 x3 : Int32} {kind weight juice : Nat → Int32} {its : Nat → Int64} (h6 : np ≤ 6) (hp : people = nI np) (H : ∀ t, t < 2 ^ np → fX7_isFeltBy N people kind weight minute juice its (nI t) x2 x3 = some (b2i (F t))) :
    ∀ (n t : Nat), t ≤ 2 ^ np → 2 ^ np - t < n → ∃ o, fX7_leastFelt_L3 N x2 x3 people kind weight minute juice its n (nI t) = some o ∧ (lret o fun _ => some (-4 : Int32)) = some (lF F (2 ^ np - t) t) := by
  have h64 := pow6 h6
  have hpos : 0 < 2 ^ np := Nat.pos_of_ne_zero (by simp)
  intro n
  induction n with
  | zero => intro t h1 h2; omega
  | succ n ih =>
    intro t h1 h2
    rw [fX7_leastFelt_L3, show fX0_everybody N people = some (nI (2 ^ np - 1)) by rw [hp]; exact c_all N h6, bnd_s]
    by_cases he : t = 2 ^ np
    · exact ⟨_, if_pos ((nlt (by omega) (by omega)).mpr (by omega)), by rw [he, Nat.sub_self]; rfl⟩
    · have q : ¬ nI (2 ^ np - 1) < nI t := fun z => by have := (nlt (by omega) (by omega)).mp z; omega
      have i := ih (t + 1) (by omega) (by omega)
      have eu : lF F (2 ^ np - t) t = if F t = true then nI t else lF F (2 ^ np - (t + 1)) (t + 1) := by
        rw [show 2 ^ np - t = (2 ^ np - (t + 1)) + 1 by omega]; rfl
      rw [if_neg q, H t (by omega), bnd_s, ite_b2i, n_s1, eu]
      by_cases qf : F t = true
      · rw [if_pos qf, if_pos qf]; exact ⟨_, rfl, rfl⟩
      · rw [if_neg qf, if_neg qf]; exact i
theorem down_L (N : Nat) {np : Nat} {F : Nat → Bool} {x1 x2 x3 x4 x5 x6 : Int32} {row : Nat → Int32} {it : Nat → Int64} (h6 : np ≤ 6) (H : ∀ t, t < 2 ^ np → fX8_isFeltSo N row it x1 x3 x4 (nI t) = some (b2i (F t))) :
    ∀ (t n acc : Nat), t ≤ 2 ^ np → t < n → acc + cF F t = cF F (2 ^ np) → ∃ o, fX8_felt_L136 N x1 x2 x3 x4 x5 x6 row it n (nI acc) (lF F (2 ^ np - t) t) (nI t - 1) = some o ∧ o.1 = nI (cF F (2 ^ np)) ∧ o.2.1 = lF F (2 ^ np) 0 := by
  have h64 := pow6 h6
  intro t
  induction t with
  | zero =>
    intro n acc h1 h2 h3
    obtain ⟨n', rfl⟩ : ∃ n', n = n' + 1 := ⟨n - 1, by omega⟩
    rw [fX8_felt_L136]
    exact ⟨_, if_pos (show nI 0 - 1 < 0 by decide), by rw [← h3]; rfl, rfl⟩
  | succ t ih =>
    intro n acc h1 h2 h3
    obtain ⟨n', rfl⟩ : ∃ n', n = n' + 1 := ⟨n - 1, by omega⟩
    have eu : cF F (t + 1) = cF F t + (if F t = true then 1 else 0) := rfl
    have el : lF F (2 ^ np - t) t = if F t = true then nI t else lF F (2 ^ np - (t + 1)) (t + 1) := by
      rw [show 2 ^ np - t = (2 ^ np - (t + 1)) + 1 by omega]; rfl
    rw [fX8_felt_L136, n_p1, if_neg (nI_pos (by omega)), H t (by omega), bnd_s, ite_b2i]
    simp only [ite_b2i]
    by_cases qf : F t = true
    · rw [if_pos qf] at eu el
      simp only [if_pos qf]
      have i := ih n' (acc + 1) (by omega) (by omega) (by omega)
      rw [el] at i
      rw [n_s1, x_m1]; exact i
    · rw [if_neg qf] at eu el
      simp only [if_neg qf]
      have i := ih n' acc (by omega) (by omega) (by omega)
      rw [el] at i
      rw [show nI acc + 0 = nI acc from nI_add acc 0, x_m1]; exact i
theorem sim_felt (N : Nat) (hN : 1000 ≤ N) : Simfelt N Rel := by
  intro S M y0 y1 y2 y3 y4 hR
  obtain ⟨⟨c, m, k, h, hB, hC, hM⟩, hI, hT, hD, hZ⟩ := id hR
  have h6 := hB.1.2.1
  have h5 := hB.1.2.2.1
  have h64 := pow6 h6
  have hpos : 0 < 2 ^ c.2.1 := Nat.pos_of_ne_zero (by simp)
  have hmm := hB.2.1.2.1
  have e1 : S.1.2.1 = nI c.2.1 := hC.1.2.1
  have e2 : S.1.2.2.1 = nI c.2.2.1 := hC.1.2.2.1
  have e3 : S.1.2.2.2.2.2.2.2.1 = nI m.2.1 := hC.2.1.2.1
  unfold fX7_felt fX8_felt
  rw [c_sheet, m_sheet, c_lane, m_lane, c_within, c_within, m_in32, m_in32, e1, e2, e3]
  simp only [bnd_s, ite_b2i, L32, L64, decide_eq_true_eq]
  by_cases hy : 0 ≤ y0.toInt ∧ y0.toInt < (4 : Nat)
  · rw [if_pos hy, if_pos hy]
    obtain ⟨q, hq, rfl⟩ := rng (n := 4) hy
    by_cases hl : 0 ≤ y1.toInt ∧ y1.toInt < (4 : Nat)
    · rw [if_pos hl, if_pos hl]
      by_cases hn : 1 ≤ y3.toInt ∧ y3.toInt ≤ 5
      · rw [if_pos hn, if_pos hn]
        obtain ⟨n1, hn1, hn2, rfl⟩ := rngl (a := 1) (n := 5) hn
        by_cases hw : 0 ≤ y4.toInt ∧ y4.toInt ≤ 1
        · rw [if_pos hw, if_pos hw, ixb_nI hq]
          obtain ⟨v, v1, v2, v3⟩ := sheet_ref N hZ hq y1 y2 (2 * nI n1)
          rw [v1, bnd_s, v2, bnd_s]
          by_cases h0 : v = 0
          · rw [if_pos h0, if_pos h0]
            obtain ⟨L, a, b, s1, s2, s3, rfl, s5, s6⟩ := v3 h0
            have hb : 2 * n1 = b := (neq (by omega) (by omega)).mp ((show nI (2 * n1) = 2 * nI n1 by rw [show (2 : Int32) = nI 2 from rfl, n_mul]).trans s5)
            obtain ⟨o, o', g1, g2, g3⟩ := felt_ok_L N (q := q) (a := a) (n1 := n1) (ns := c.2.2.1) hq hn2 (by omega) h5 (x1 := nI q) (x2 := y1) (x5 := y4) (x7 := v) (x2' := y1) (x5' := y4) (x7' := v) hM.1.2.2.2.1 (it_of hZ) N 0 (by omega) (by omega) (fun k hk => absurd hk (Nat.not_lt_zero _))
            have eA : (24 : Int32) * nI q + nI a = nI (24 * q + a + 2 * 0) := by rw [show (24 : Int32) = nI 24 from rfl, n_mul, nI_add, Nat.mul_zero, Nat.add_zero]
            rw [show fX7_felt_L68 N q (nI q) y1 (nI a) (nI n1) y4 v (nI c.2.2.1) _ N 0 = _ from g1, bnd_s, eA, g2, bnd_s]
            rcases g3 with ⟨rfl, rfl⟩ | ⟨u, w, rfl, rfl, hs⟩
            · exact ⟨_, _, rfl, rfl, rfl, hR⟩
            · have one := fun t ht => felt_one N hN (t := t) hq hn2 (by omega) (PR.of hB.1 hC.1) (SR.of hB.1 hB.2.1 hC.2.1) (QR.of hB.1 hM.1) (TR.of hB.1 hB.2.1 hM.1 (by omega) hM.2.1) (show m.2.1 < 2 ^ 31 by omega) hM.2.1.2.1 ht (it_of hZ) hs
              let F : Nat → Bool := fun t => if ht : t < 2 ^ c.2.1 then (one t ht).choose else false
              have H1 : ∀ t, t < 2 ^ c.2.1 → fX7_isFeltBy N (nI c.2.1) S.1.2.2.2.2.1 S.1.2.2.2.2.2.1 (nI m.2.1) S.1.2.2.2.2.2.2.2.2.2.2.1 (S.2.2.2.2.2.2.2.2.2.2.2 q) (nI t) (nI a) (nI n1) = some (b2i (F t)) := fun t ht => by
                rw [(one t ht).choose_spec.1]; simp only [F]; rw [dif_pos ht]
              have H2 : ∀ t, t < 2 ^ c.2.1 → fX8_isFeltSo N M.2.2.2.2.2.2.2.2.2.1 M.2.2.2.2.2.2.2.2.2.2.2.2.1 (nI q) (nI a) (nI n1) (nI t) = some (b2i (F t)) := fun t ht => by
                rw [(one t ht).choose_spec.2]; simp only [F]; rw [dif_pos ht]
              obtain ⟨oc, c1, c2⟩ := count_L N h6 rfl H1 N 0 (Nat.zero_le _) (by omega)
              obtain ⟨ol, l1, l2⟩ := least_L N h6 rfl H1 N 0 (Nat.zero_le _) (by omega)
              obtain ⟨od, d1, d2, d3⟩ := down_L N (x2 := y1) (x5 := y4) (x6 := v) h6 H2 (2 ^ c.2.1) N 0 (Nat.le_refl _) (by omega) (Nat.zero_add _)
              rw [Nat.sub_self] at d1
              have n1e : nI (2 ^ c.2.1) - 1 = nI (2 ^ c.2.1 - 1) := by rw [show (2 ^ c.2.1) = (2 ^ c.2.1 - 1) + 1 by omega, n_p1]; rfl
              rw [n1e] at d1
              have ec : fX7_countFelt N (nI c.2.1) S.1.2.2.2.2.1 S.1.2.2.2.2.2.1 (nI m.2.1) S.1.2.2.2.2.2.2.2.2.2.2.1 (S.2.2.2.2.2.2.2.2.2.2.2 q) (nI a) (nI n1) = some (nI (cF F (2 ^ c.2.1))) := by
                unfold fX7_countFelt
                rw [show fX7_countFelt_L6 N (nI a) (nI n1) (nI c.2.1) _ _ _ _ _ N 0 0 = _ from c1, bnd_s, c2]
              have el : fX7_leastFelt N (nI c.2.1) S.1.2.2.2.2.1 S.1.2.2.2.2.2.1 (nI m.2.1) S.1.2.2.2.2.2.2.2.2.2.2.1 (S.2.2.2.2.2.2.2.2.2.2.2 q) (nI a) (nI n1) = some (lF F (2 ^ c.2.1) 0) := by
                unfold fX7_leastFelt
                rw [show fX7_leastFelt_L3 N (nI a) (nI n1) (nI c.2.1) _ _ _ _ _ N 0 = _ from l1, bnd_s, l2]; rfl
              have ed : (bnd (fX8_everybody N M.2.2.2.2.2.2.2.2.2.1) fun o24 => bnd (fX8_felt_L136 N (nI q) y1 (nI a) (nI n1) y4 v M.2.2.2.2.2.2.2.2.2.1 M.2.2.2.2.2.2.2.2.2.2.2.2.1 N 0 (-4) o24) fun o32 => if y4 = 0 then some o32.1 else some o32.2.1) = if y4 = 0 then some (nI (cF F (2 ^ c.2.1))) else some (lF F (2 ^ c.2.1) 0) := by
                rw [m_all N h6 hM.1.2.2.1, bnd_s, show fX8_felt_L136 N (nI q) y1 (nI a) (nI n1) y4 v _ _ N 0 (-4) (nI (2 ^ c.2.1 - 1)) = _ from d1, bnd_s, d2, d3]
              rw [ec, el, bnd_s, bnd_s]
              show ∃ o o', (if y4 = 0 then some (nI (cF F (2 ^ c.2.1))) else some (lF F (2 ^ c.2.1) 0)) = some o ∧ (bnd (fX8_everybody N M.2.2.2.2.2.2.2.2.2.1) fun o24 => bnd (fX8_felt_L136 N (nI q) y1 (nI a) (nI n1) y4 v M.2.2.2.2.2.2.2.2.2.1 M.2.2.2.2.2.2.2.2.2.2.2.2.1 N 0 (-4) o24) fun o32 => if y4 = 0 then some o32.1 else some o32.2.1) = some o' ∧ o = o' ∧ Rel S M
              rw [ed]
              by_cases q4 : y4 = 0
              · rw [if_pos q4]; exact ⟨_, _, rfl, rfl, rfl, hR⟩
              · rw [if_neg q4]; exact ⟨_, _, rfl, rfl, rfl, hR⟩
          · rw [if_neg h0, if_neg h0]; exact ⟨_, _, rfl, rfl, rfl, hR⟩
        · rw [if_neg hw, if_neg hw]; exact ⟨_, _, rfl, rfl, rfl, hR⟩
      · rw [if_neg hn, if_neg hn]; exact ⟨_, _, rfl, rfl, rfl, hR⟩
    · rw [if_neg hl, if_neg hl]; exact ⟨_, _, rfl, rfl, rfl, hR⟩
  · rw [if_neg hy, if_neg hy]; exact ⟨_, _, rfl, rfl, rfl, hR⟩
