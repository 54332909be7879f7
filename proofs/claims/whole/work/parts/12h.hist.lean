/-! PURE: rows copied -/
theorem cpy_upd {row : Nat → Int32} {sp dp x : Nat} (h : dp ≤ sp ∨ sp + x < dp) : upd (va_cpy row row sp dp x) (dp + x) (va_cpy row row sp dp x (sp + x)) = va_cpy row row sp dp (x + 1) := by
  have e : va_cpy row row sp dp x (sp + x) = row (sp + x) := pk_cpy_out (by omega)
  rw [e]
  funext j
  by_cases hj : j = dp + x
  · subst hj; rw [upd_s, pk_cpy_in (by omega) (by omega)]; congr 1; omega
  · rw [upd_n hj]
    by_cases hi : dp ≤ j ∧ j < dp + x
    · rw [pk_cpy_in hi.1 hi.2, pk_cpy_in hi.1 (by omega)]
    · rw [pk_cpy_out (by omega), pk_cpy_out (by omega)]
theorem cpy0 {row : Nat → Int32} {sp dp : Nat} : va_cpy row row sp dp 0 = row := by
  funext j; exact pk_cpy_out (by omega)
theorem m_lay_L (N : Nat) {row : Nat → Int32} : ∀ (n x : Nat), x ≤ 41 → 41 - x < n → fX8_layTried_L2 N n (nI x) (va_cpy row row 0 484 x) = some (nI 41, va_cpy row row 0 484 41) := by
  intro n
  induction n with
  | zero => intro x hx hn; omega
  | succ n ih =>
    intro x hx hn
    rw [fX8_layTried_L2]
    by_cases he : x = 41
    · subst he; exact (if_pos (show (41 : Int32) ≤ nI 41 by decide)).trans rfl
    · refine (if_neg (fun z => by have := (nle (a := 41) (by omega) (by omega)).mp z; omega)).trans ?_
      rw [ixb_nI (by omega), show (484 : Int32) + nI x = nI (484 + x) from nI_add 484 x, ixb_nI (by omega), n_s1]
      have := cpy_upd (row := row) (sp := 0) (dp := 484) (x := x) (by omega)
      rw [Nat.zero_add] at this
      rw [this]
      exact ih (x + 1) (by omega) (by omega)
theorem m_lay (N : Nat) (hN : 1000 ≤ N) (row : Nat → Int32) : fX8_layTried N row = some (va_cpy row row 0 484 41) := by
  unfold fX8_layTried
  have := m_lay_L N (row := row) N 0 (by omega) (by omega)
  rw [cpy0] at this
  exact bnd_eq this
theorem m_kp_L (N : Nat) {row : Nat → Int32} {u : Nat} (hu : u < 8) (e : row 41 = nI u) : ∀ (n x : Nat), x ≤ 25 → 25 - x < n → fX8_keepPast_L58 N n (nI x) (va_cpy row row 0 (42 + 25 * u) x) = some (nI 25, va_cpy row row 0 (42 + 25 * u) 25) := by
  intro n
  induction n with
  | zero => intro x hx hn; omega
  | succ n ih =>
    intro x hx hn
    rw [fX8_keepPast_L58]
    by_cases he : x = 25
    · subst he; exact (if_pos (show (25 : Int32) ≤ nI 25 by decide)).trans rfl
    · refine (if_neg (fun z => by have := (nle (a := 25) (by omega) (by omega)).mp z; omega)).trans ?_
      have e2 : va_cpy row row 0 (42 + 25 * u) x 41 = nI u := (pk_cpy_out (by omega)).trans e
      rw [ixb_nI (by omega), e2, show (25 : Int32) * nI u = nI (25 * u) from n_mul 25 u, show (42 : Int32) + nI (25 * u) = nI (42 + 25 * u) from nI_add 42 _, nI_add, ixb_nI (by omega), n_s1]
      have := cpy_upd (row := row) (sp := 0) (dp := 42 + 25 * u) (x := x) (by omega)
      rw [Nat.zero_add] at this
      rw [this]
      exact ih (x + 1) (by omega) (by omega)
theorem m_sh_L (N : Nat) {row : Nat → Int32} : ∀ (n x : Nat), x ≤ 175 → 175 - x < n → fX8_keepPast_L14 N n (nI x) (va_cpy row row 67 42 x) = some (nI 175, va_cpy row row 67 42 175) := by
  intro n
  induction n with
  | zero => intro x hx hn; omega
  | succ n ih =>
    intro x hx hn
    rw [fX8_keepPast_L14]
    by_cases he : x = 175
    · subst he; exact (if_pos (show (175 : Int32) ≤ nI 175 by decide)).trans rfl
    · refine (if_neg (fun z => by have := (nle (a := 175) (by omega) (by omega)).mp z; omega)).trans ?_
      rw [show (67 : Int32) + nI x = nI (67 + x) from nI_add 67 x, show (42 : Int32) + nI x = nI (42 + x) from nI_add 42 x, ixb_nI (by omega), ixb_nI (by omega), n_s1, cpy_upd (by omega)]
      exact ih (x + 1) (by omega) (by omega)
/-- the row behind keepPast -/
def kpRow (u : Nat) (row : Nat → Int32) : Nat → Int32 :=
  if u < 8 then upd (va_cpy row row 0 (42 + 25 * u) 25) 41 (nI (u + 1))
  else upd (va_cpy (upd (va_cpy row row 67 42 175) 41 (nI 7)) (upd (va_cpy row row 67 42 175) 41 (nI 7)) 0 217 25) 41 (nI 8)
theorem m_keep (N : Nat) (hN : 1000 ≤ N) {row : Nat → Int32} {u : Nat} (hu : u ≤ 8) (e : row 41 = nI u) : fX8_keepPast N row = some (kpRow u row) := by
  unfold fX8_keepPast kpRow
  rw [e]
  by_cases h8 : u < 8
  · refine (if_neg (fun z => by have := (neq (b := 8) (by omega) (by omega)).mp z; omega)).trans ?_
    have l := m_kp_L N h8 e N 0 (by omega) (by omega)
    rw [cpy0] at l
    rw [if_pos h8, show fX8_keepPast_L58 N N 0 row = _ from l, bnd_s]
    have e2 : va_cpy row row 0 (42 + 25 * u) 25 41 = nI u := (pk_cpy_out (by omega)).trans e
    show some (upd _ 41 (va_cpy row row 0 (42 + 25 * u) 25 41 + 1)) = _
    rw [e2, n_s1]
  · have h8' : u = 8 := by omega
    subst h8'
    refine (if_pos (show nI 8 = 8 from rfl)).trans ?_
    have l := m_sh_L N (row := row) N 0 (by omega) (by omega)
    rw [cpy0] at l
    rw [if_neg h8, show fX8_keepPast_L14 N N 0 row = _ from l, bnd_s]
    have e2 : va_cpy row row 67 42 175 41 = nI 8 := (pk_cpy_out (by omega)).trans e
    show bnd (fX8_keepPast_L58 N N 0 (upd (va_cpy row row 67 42 175) 41 (va_cpy row row 67 42 175 41 - 1))) _ = _
    rw [e2, show nI 8 - 1 = nI 7 from n_p1 7]
    have l2 := m_kp_L N (u := 7) (row := upd (va_cpy row row 67 42 175) 41 (nI 7)) (by omega) upd_s N 0 (by omega) (by omega)
    rw [cpy0] at l2
    rw [show fX8_keepPast_L58 N N 0 (upd (va_cpy row row 67 42 175) 41 (nI 7)) = _ from l2, bnd_s]
    have e3 : va_cpy (upd (va_cpy row row 67 42 175) 41 (nI 7)) (upd (va_cpy row row 67 42 175) 41 (nI 7)) 0 217 25 41 = nI 7 := (pk_cpy_out (by omega)).trans upd_s
    show some (upd _ 41 (va_cpy (upd (va_cpy row row 67 42 175) 41 (nI 7)) (upd (va_cpy row row 67 42 175) 41 (nI 7)) 0 217 25 41 + 1)) = _
    rw [e3, n_s1]
/-- pushed: the count, the moments -/
def hpk (k : Nat) : Nat := if k < 8 then k + 1 else 8
def hph (k : Nat) (h : Nat → AM) (m : AM) : Nat → AM := fun i => if i + 1 = hpk k then m else if k < 8 then h i else h (i + 1)
theorem kp_out {u : Nat} {row : Nat → Int32} (hu : u ≤ 8) {j : Nat} (h : j < 41 ∨ 242 ≤ j) : kpRow u row j = row j := by
  unfold kpRow
  split
  · rw [upd_n (by omega), pk_cpy_out (by omega)]
  · rw [upd_n (by omega), pk_cpy_out (by omega), upd_n (by omega), pk_cpy_out (by omega)]
theorem kp_41 {u : Nat} {row : Nat → Int32} : kpRow u row 41 = nI (hpk u) := by
  unfold kpRow hpk
  split
  · exact upd_s
  · exact upd_s
/-- a place of a moment i of the new past -/
theorem kp_in {u : Nat} {row : Nat → Int32} (hu : u ≤ 8) {i q : Nat} (hi : i < hpk u) (hq : q < 25) : kpRow u row (42 + 25 * i + q) = row (if i + 1 = hpk u then q else if u < 8 then 42 + 25 * i + q else 42 + 25 * (i + 1) + q) := by
  unfold kpRow
  unfold hpk at hi ⊢
  by_cases h8 : u < 8
  · rw [if_pos h8] at hi ⊢
    rw [if_pos h8, if_pos h8, upd_n (by omega)]
    by_cases hx : i + 1 = u + 1
    · rw [if_pos hx, pk_cpy_in (by omega) (by omega)]; congr 1; omega
    · rw [if_neg hx, pk_cpy_out (by omega)]
  · rw [if_neg h8] at hi ⊢
    rw [if_neg h8, if_neg h8, upd_n (by omega)]
    by_cases hx : i + 1 = 8
    · rw [if_pos hx, pk_cpy_in (by omega) (by omega), upd_n (by omega), pk_cpy_out (by omega)]; exact congrArg row (by omega)
    · rw [if_neg hx, pk_cpy_out (by omega), upd_n (by omega), pk_cpy_in (by omega) (by omega)]; congr 1; omega
theorem mom_keep {nc ns u : Nat} {row : Nat → Int32} {m : AM} {h : Nat → AM} (hnc : nc ≤ 12) (hns : ns ≤ 5) (hu : u ≤ 8) (h0 : MOM nc ns 0 m row) (hp : ∀ i, i < u → MOM nc ns (42 + 25 * i) (h i) row) : ∀ i, i < hpk u → MOM nc ns (42 + 25 * i) (hph u h m i) (kpRow u row) := by
  intro i hi
  have key : ∀ q, q < 25 → kpRow u row (42 + 25 * i + q) = row (if i + 1 = hpk u then q else if u < 8 then 42 + 25 * i + q else 42 + 25 * (i + 1) + q) := fun q hq => kp_in hu hi hq
  unfold hph
  by_cases hx : i + 1 = hpk u
  · simp only [if_pos hx] at key ⊢
    obtain ⟨a1, a2, a3, a4, a5⟩ := h0
    refine ⟨(key 0 (by omega)).trans a1, (key 1 (by omega)).trans a2, (key 2 (by omega)).trans a3, fun j hj => ?_, fun j hj => ⟨?_, ?_⟩⟩
    · rw [show 42 + 25 * i + 3 + j = 42 + 25 * i + (3 + j) by omega, key _ (by omega)]; have := a4 j hj; rwa [Nat.zero_add] at this
    · rw [show 42 + 25 * i + 15 + j = 42 + 25 * i + (15 + j) by omega, key _ (by omega)]; have := (a5 j hj).1; rwa [Nat.zero_add] at this
    · rw [show 42 + 25 * i + 20 + j = 42 + 25 * i + (20 + j) by omega, key _ (by omega)]; have := (a5 j hj).2; rwa [Nat.zero_add] at this
  · simp only [if_neg hx] at key ⊢
    by_cases h8 : u < 8
    · simp only [if_pos h8] at key ⊢
      have hiu : i < u := by unfold hpk at hi hx; rw [if_pos h8] at hi hx; omega
      obtain ⟨a1, a2, a3, a4, a5⟩ := hp i hiu
      refine ⟨(key 0 (by omega)).trans a1, (key 1 (by omega)).trans a2, (key 2 (by omega)).trans a3, fun j hj => ?_, fun j hj => ⟨?_, ?_⟩⟩
      · rw [show 42 + 25 * i + 3 + j = 42 + 25 * i + (3 + j) by omega, key _ (by omega), ← a4 j hj]; congr 1; omega
      · rw [show 42 + 25 * i + 15 + j = 42 + 25 * i + (15 + j) by omega, key _ (by omega), ← (a5 j hj).1]; congr 1; omega
      · rw [show 42 + 25 * i + 20 + j = 42 + 25 * i + (20 + j) by omega, key _ (by omega), ← (a5 j hj).2]; congr 1; omega
    · simp only [if_neg h8] at key ⊢
      have hiu : i + 1 < u := by unfold hpk at hi hx; rw [if_neg h8] at hi hx; omega
      obtain ⟨a1, a2, a3, a4, a5⟩ := hp (i + 1) hiu
      refine ⟨(key 0 (by omega)).trans a1, (key 1 (by omega)).trans a2, (key 2 (by omega)).trans a3, fun j hj => ?_, fun j hj => ⟨?_, ?_⟩⟩
      · rw [show 42 + 25 * i + 3 + j = 42 + 25 * i + (3 + j) by omega, key _ (by omega), ← a4 j hj]; congr 1; omega
      · rw [show 42 + 25 * i + 15 + j = 42 + 25 * i + (15 + j) by omega, key _ (by omega), ← (a5 j hj).1]; congr 1; omega
      · rw [show 42 + 25 * i + 20 + j = 42 + 25 * i + (20 + j) by omega, key _ (by omega), ← (a5 j hj).2]; congr 1; omega
/-- the boat's past -/
def HCR (nc ns k : Nat) (h : Nat → AM) (next known : Int32) (mb mm md : Nat → Int32) (mi mj mf : Nat → Nat → Int32) : Prop := known = nI k ∧ ∃ x, x < 8 ∧ next = nI x ∧ ∀ i, i < k → CMO nc ns (h i) (mb (hix x k i)) (mm (hix x k i)) (md (hix x k i)) (mi (hix x k i)) (mj (hix x k i)) (mf (hix x k i))
theorem va_up_eq {α : Type} (f : Nat → α) (k : Nat) (v : α) : va_up f k v k = v := by simp [va_up]
theorem va_up_n {α : Type} (f : Nat → α) {k j : Nat} (v : α) (h : j ≠ k) : va_up f k v j = f j := by simp [va_up, h]
theorem c_keep (N : Nat) {nc ns k : Nat} {h : Nat → AM} {m : AM} {next known : Int32} {mb mm md : Nat → Int32} {mi mj mf : Nat → Nat → Int32} {boat minute draw : Int32} {ice juice fors : Nat → Int32} (hnc : nc ≤ 12) (hns : ns ≤ 5) (hk : k ≤ 8) (H : HCR nc ns k h next known mb mm md mi mj mf) (Hm : CMO nc ns m boat minute draw ice juice fors) :
    ∃ o, fX2_keep N next known mb mm md mi mj mf boat minute draw ice juice fors = some o ∧ HCR nc ns (hpk k) (hph k h m) o.1 o.2.1 o.2.2.1 o.2.2.2.1 o.2.2.2.2.1 o.2.2.2.2.2.1 o.2.2.2.2.2.2.1 o.2.2.2.2.2.2.2 := by
  obtain ⟨h1, x, hx, h2, h3⟩ := H
  subst h1; subst h2
  unfold fX2_keep
  rw [ixb_nI hx]
  unfold fX3_take
  rw [bnd_s]
  refine ⟨_, rfl, ?_, (x + 1) % 8, by omega, ?_, fun i hi => ?_⟩
  · show imin 8 (nI k + 1) = _
    rw [n_s1, show (8 : Int32) = nI 8 from rfl, n_imin (by omega) (by omega)]
    unfold hpk
    split
    · rw [Nat.min_eq_right (by omega)]
    · rw [Nat.min_eq_left (by omega)]
  · show irem (nI x + 1) 8 = _
    rw [n_s1, show (8 : Int32) = nI 8 from rfl, n_irem (by omega) (by omega) (by omega)]
  · show CMO nc ns (hph k h m i) (va_up mb x boat _) (va_up mm x minute _) (va_up md x draw _) (va_up mi x (va_cpy ice (mi x) 0 0 12) _) (va_up mj x (va_cpy juice (mj x) 0 0 5) _) (va_up mf x (va_cpy fors (mf x) 0 0 5) _)
    unfold hph
    by_cases hl : i + 1 = hpk k
    · have e : hix ((x + 1) % 8) (hpk k) i = x := by
        unfold hix hpk at *
        split at hl <;> rename_i q
        · rw [if_pos q]; omega
        · rw [if_neg q]; omega
      rw [e, if_pos hl, va_up_eq, va_up_eq, va_up_eq, va_up_eq, va_up_eq, va_up_eq]
      obtain ⟨a1, a2, a3, a4, a5⟩ := Hm
      refine ⟨a1, a2, a3, fun j hj => ?_, fun j hj => ⟨?_, ?_⟩⟩
      · rw [sb_cpy0 (by omega)]; exact a4 j hj
      · rw [sb_cpy0 (by omega)]; exact (a5 j hj).1
      · rw [sb_cpy0 (by omega)]; exact (a5 j hj).2
    · rw [if_neg hl]
      by_cases q : k < 8
      · have hik : i < k := by unfold hpk at hi hl; rw [if_pos q] at hi hl; omega
        have e : hix ((x + 1) % 8) (hpk k) i = hix x k i := by
          unfold hix hpk
          rw [if_pos q]; omega
        have ne : hix x k i ≠ x := by unfold hix; omega
        rw [e, if_pos q, va_up_n _ _ ne, va_up_n _ _ ne, va_up_n _ _ ne, va_up_n _ _ ne, va_up_n _ _ ne, va_up_n _ _ ne]
        exact h3 i hik
      · have hik : i + 1 < k := by unfold hpk at hi hl; rw [if_neg q] at hi hl; omega
        have e : hix ((x + 1) % 8) (hpk k) i = hix x k (i + 1) := by
          unfold hix hpk
          rw [if_neg q]; omega
        have ne : hix x k (i + 1) ≠ x := by unfold hix; omega
        rw [e, if_neg q, va_up_n _ _ ne, va_up_n _ _ ne, va_up_n _ _ ne, va_up_n _ _ ne, va_up_n _ _ ne, va_up_n _ _ ne]
        exact h3 (i + 1) hik
