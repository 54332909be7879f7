/-! PURE: the best line -/
abbrev SBT : Type := Option (Nat × Nat × List Nat)
def aRun (c : AC) (m : AM) (l : List Nat) : AM := l.foldl (fun m s => aPass c.1 c.2.1 c.2.2.1 c.2.2.2.1 c.2.2.2.2.1 c.2.2.2.2.2 m s) m
theorem aRun_snoc (c : AC) (m : AM) (l : List Nat) (s : Nat) : aRun c m (l ++ [s]) = aPass c.1 c.2.1 c.2.2.1 c.2.2.2.1 c.2.2.2.2.1 c.2.2.2.2.2 (aRun c m l) s := by
  unfold aRun; rw [List.foldl_append]; rfl
def aJd (c : AC) (m : AM) (SB : SBT) (l : List Nat) : SBT :=
  match SB with
  | none => some ((aRun c m l).1, aAh c.1 (aRun c m l), l)
  | some (f, i, b) => if f < (aRun c m l).1 ∨ ((aRun c m l).1 = f ∧ aAh c.1 (aRun c m l) < i) then some ((aRun c m l).1, aAh c.1 (aRun c m l), l) else some (f, i, b)
def BR (n : Nat) (SB : SBT) (far ice : Int32) (bo : Nat → Int32) : Prop :=
  match SB with
  | none => far = -1
  | some (f, i, b) => far = nI f ∧ ice = nI i ∧ f ≤ 12 ∧ i ≤ 60 ∧ ∀ k, k < n → bo k = nI (b.getD k 0)
theorem aRun_bd {c : AC} {m : AM} {T : Nat} (h : MBD c.1 c.2.1 c.2.2.1 T m) : ∀ l : List Nat, MBD c.1 c.2.1 c.2.2.1 (T + l.length) (aRun c m l) := by
  intro l
  induction l generalizing m T with
  | nil => exact h
  | cons s l ih =>
    have := ih (aPass_bd (fr := c.2.2.2.1) (kd := c.2.2.2.2.1) (wt := c.2.2.2.2.2) (s := s) h)
    rw [show T + (s :: l).length = T + 1 + l.length by simp; omega]
    exact this
theorem m_tl_L (N : Nat) (hN : 1000 ≤ N) {c : AC} {m : AM} {n : Nat} {l : List Nat} {row line : Nat → Int32} (hB : CAB' c) (hM : MCA' c row) (hb : MBD c.1 c.2.1 c.2.2.1 9999 m) (hn : n ≤ 5) (hl : l.length = n) (hv : ∀ k, k < n → l.getD k 0 < c.2.2.1) (hq : ∀ k, k < n → line k = nI (l.getD k 0)) :
    ∀ (fu x : Nat) (row' : Nat → Int32), x ≤ n → n - x < fu → MOM c.1 c.2.2.1 484 (aRun c m (l.take x)) row' → (∀ q, q < 484 → row' q = row q) → ∃ o, fX8_tryLine_L6 N (nI n) line fu (nI x) row' = some o ∧ MOM c.1 c.2.2.1 484 (aRun c m l) o.2 ∧ ∀ q, q < 484 → o.2 q = row q := by
  have h5 := hB.2.2.1
  intro fu
  induction fu with
  | zero => intro x row' h1 h2; omega
  | succ fu ih =>
    intro x row' h1 h2 hO e
    rw [fX8_tryLine_L6]
    by_cases he : x = n
    · subst he
      refine ⟨_, if_pos ((nle (by omega) (by omega)).mpr (Nat.le_refl _)), ?_, e⟩
      rw [show l.take x = l by rw [← hl, List.take_length]] at hO
      exact hO
    · have q : ¬ nI n ≤ nI x := fun z => by have := (nle (by omega) (by omega)).mp z; omega
      have hvx := hv x (by omega)
      have es : line x = sI c.2.2.1 (l.getD x 0) := by rw [hq x (by omega)]; unfold sI; rw [if_pos hvx]
      have hM' : MCA' c row' := mca_agree hB.2.1 hM (fun q h1 h2 => e q (by omega))
      have hbd := aRun_bd hb (l.take x)
      have hlen : (l.take x).length ≤ 5 := by rw [List.length_take]; omega
      obtain ⟨r, p1, p2, p3⟩ := m_pass N hN (base := 484) hB hbd (by omega) hM' (by omega) (by omega) hO (l.getD x 0)
      have et : l.take (x + 1) = l.take x ++ [l.getD x 0] := by
        rw [List.take_succ, List.getD_eq_getElem?_getD, List.getElem?_eq_getElem (by omega)]; rfl
      rw [if_neg q, ixb_nI (by omega), es, show fX8_pass N row' 484 (sI c.2.2.1 (l.getD x 0)) = some r from p1, bnd_s, n_s1]
      exact ih (x + 1) r (by omega) (by omega) (by rw [et, aRun_snoc]; exact p2) (fun q hq => (p3 q (by omega)).trans (e q hq))
theorem m_bl_L (N : Nat) {n : Nat} {x2 : Int32} {line : Nat → Int32} (hn : n ≤ 5) : ∀ (fu x : Nat) (bl : Nat → Int32), x ≤ n → n - x < fu → (∀ k, k < x → bl k = line k) → ∃ o, fX8_tryLine_L87 N (nI n) x2 line fu (nI x) bl = some o ∧ ∀ k, k < n → o.2 k = line k := by
  intro fu
  induction fu with
  | zero => intro x bl h1 h2; omega
  | succ fu ih =>
    intro x bl h1 h2 h
    rw [fX8_tryLine_L87]
    by_cases he : x = n
    · subst he
      exact ⟨_, if_pos ((nle (by omega) (by omega)).mpr (Nat.le_refl _)), h⟩
    · have q : ¬ nI n ≤ nI x := fun z => by have := (nle (by omega) (by omega)).mp z; omega
      rw [if_neg q, ixb_nI (by omega), ixb_nI (by omega), n_s1]
      refine ih (x + 1) _ (by omega) (by omega) (fun k hk => ?_)
      by_cases e : k = x
      · subst e; rw [upd_s]
      · rw [upd_n e]; exact h k (by omega)
theorem m1_lt {a : Nat} (h : a < 2 ^ 31) : (-1 : Int32) < nI a := by rw [Int32.lt_iff_toInt_lt, tI _ h, show ((-1 : Int32)).toInt = -1 by decide]; omega
theorem m_try (N : Nat) (hN : 1000 ≤ N) {c : AC} {m : AM} {n : Nat} {l : List Nat} {row row' line bl : Nat → Int32} {far ice : Int32} {SB : SBT} (hB : CAB' c) (hM : MCA' c row) (hb : MBD c.1 c.2.1 c.2.2.1 9999 m) (hO : MOM c.1 c.2.2.1 0 m row) (hn : n ≤ 5) (hl : l.length = n) (hv : ∀ k, k < n → l.getD k 0 < c.2.2.1) (hq : ∀ k, k < n → line k = nI (l.getD k 0)) (e : ∀ q, q < 484 → row' q = row q) (hR : BR n SB far ice bl) :
    ∃ o, fX8_tryLine N far ice row' line bl (nI n) = some o ∧ BR n (aJd c m SB l) o.1 o.2.1 o.2.2.2 ∧ ∀ q, q < 484 → o.2.2.1 q = row q := by
  have h12 := hB.1
  have h5 := hB.2.2.1
  have hO' : MOM c.1 c.2.2.1 0 m row' := mom_agree h12 h5 hO (fun q h1 h2 => e q (by omega))
  obtain ⟨o, t1, t2, t3⟩ := m_tl_L N hN (l := l) hB hM hb hn hl hv hq N 0 (va_cpy row' row' 0 484 41) (by omega) (by omega) (lay_mom h12 h5 hO') (fun q hq => (lay_low q hq).trans (e q hq))
  have hbd := aRun_bd hb l
  have ha := aAh_le hbd
  have h1 := hbd.1
  have em : fX8_iceAhead N o.2 484 = some (nI (aAh c.1 (aRun c m l))) := m_ahead N (base := 484) h12 (Nat.le_refl _) hbd ((t3 26 (by omega)).trans hM.2.1) t2
  obtain ⟨ob, b1, b2⟩ := m_bl_L N (x2 := nI (aRun c m l).1) (line := line) hn N 0 bl (by omega) (by omega) (fun k hk => absurd hk (Nat.not_lt_zero _))
  unfold fX8_tryLine
  rw [m_lay N hN, bnd_s, show fX8_tryLine_L6 N (nI n) line N 0 _ = _ from t1, bnd_s, show o.2 484 = nI (aRun c m l).1 from t2.1, em, bnd_s, show fX8_tryLine_L87 N (nI n) (nI (aRun c m l).1) line N 0 bl = _ from b1]
  simp only [bnd_s]
  have win : BR n (some ((aRun c m l).1, aAh c.1 (aRun c m l), l)) (nI (aRun c m l).1) (nI (aAh c.1 (aRun c m l))) ob.2 := ⟨rfl, rfl, by omega, by omega, fun k hk => (b2 k hk).trans (hq k hk)⟩
  cases SB with
  | none =>
    have hf : far = -1 := hR
    subst hf
    rw [if_pos (m1_lt (by omega))]
    exact ⟨_, rfl, win, t3⟩
  | some v =>
    obtain ⟨f, i, b⟩ := v
    obtain ⟨r1, r2, r3, r4, r5⟩ := hR
    subst r1; subst r2
    have ej : aJd c m (some (f, i, b)) l = if f < (aRun c m l).1 ∨ ((aRun c m l).1 = f ∧ aAh c.1 (aRun c m l) < i) then some ((aRun c m l).1, aAh c.1 (aRun c m l), l) else some (f, i, b) := rfl
    rw [ej]
    by_cases q1 : f < (aRun c m l).1
    · rw [if_pos ((nlt (by omega) (by omega)).mpr q1), if_pos (Or.inl q1)]
      exact ⟨_, rfl, win, t3⟩
    · rw [if_neg (fun z => q1 ((nlt (by omega) (by omega)).mp z))]
      by_cases q2 : (aRun c m l).1 = f
      · rw [if_pos ((neq (by omega) (by omega)).mpr q2)]
        by_cases q3 : aAh c.1 (aRun c m l) < i
        · rw [if_neg (fun z => by have := (nle (by omega) (by omega)).mp z; omega), if_pos (Or.inr ⟨q2, q3⟩)]
          exact ⟨_, rfl, win, t3⟩
        · rw [if_pos ((nle (by omega) (by omega)).mpr (by omega)), if_neg (by omega)]
          exact ⟨_, rfl, ⟨rfl, rfl, r3, r4, r5⟩, t3⟩
      · rw [if_neg (fun z => q2 ((neq (by omega) (by omega)).mp z)), if_neg (by omega)]
        exact ⟨_, rfl, ⟨rfl, rfl, r3, r4, r5⟩, t3⟩
theorem chk_len {nx : List Nat → Option (List Nat)} {n ns : Nat} {l : List Nat} {t : List (List Nat)} (h : lchk nx n ns l t = true) : l.length = n ∧ ∀ k, k < n → l.getD k 0 < ns := by
  have h' : l.length = n ∧ l.all (fun v => decide (v < ns)) = true := by
    cases t with
    | nil => simp only [lchk, Bool.and_eq_true, beq_iff_eq] at h; exact h.1
    | cons a t => simp only [lchk, Bool.and_eq_true, beq_iff_eq] at h; exact h.1.1
  refine ⟨h'.1, fun k hk => ?_⟩
  have := List.all_eq_true.mp h'.2 (l.getD k 0) (by rw [List.getD_eq_getElem?_getD, List.getElem?_eq_getElem (by omega)]; exact List.getElem_mem _)
  simpa using this
theorem plan_L (N : Nat) (hN : 1000 ≤ N) {c : AC} {m : AM} {n : Nat} {row : Nat → Int32} {x2 : Int32} (hB : CAB' c) (hM : MCA' c row) (hb : MBD c.1 c.2.1 c.2.2.1 9999 m) (hO : MOM c.1 c.2.2.1 0 m row) (hn : n ≤ 5) (hs : 0 < c.2.2.1) :
    ∀ (t : List (List Nat)) (fu : Nat) (l : List Nat) (far ice : Int32) (row' line bl : Nat → Int32) (SB : SBT), t.length + 1 < fu → lchk (nxR c.2.2.1 n) n c.2.2.1 l t = true → (∀ k, k < n → line k = nI (l.getD k 0)) → (∀ q, q < 484 → row' q = row q) → BR n SB far ice bl →
    ∃ o, fX8_plan_L59 N (nI n) x2 fu 1 far ice row' line bl = some o ∧ BR n ((l :: t).foldl (aJd c m) SB) o.2.1 o.2.2.1 o.2.2.2.2.2 ∧ ∀ q, q < 484 → o.2.2.2.1 q = row q := by
  have h5 := hB.2.2.1
  intro t
  induction t with
  | nil =>
    intro fu l far ice row' line bl SB hf hc hq e hR
    obtain ⟨fu', rfl⟩ : ∃ fu', fu = fu' + 2 := ⟨fu - 2, by simp at hf; omega⟩
    obtain ⟨c1, c2⟩ := chk_len hc
    obtain ⟨o, t1, t2, t3⟩ := m_try N hN (l := l) hB hM hb hO hn c1 c2 hq e hR
    obtain ⟨o2, r1, r2⟩ := m_nextRow N hN (l := l) (row := o.2.2.1) (line := line) hn hs h5 ((t3 28 (by omega)).trans hM.2.2.2.1) (fun k hk => ⟨hq k hk, by have := c2 k hk; show l.getD k 0 < 100; omega⟩)
    have hnone : nxR c.2.2.1 n l = none := by simp only [lchk, Bool.and_eq_true, beq_iff_eq] at hc; exact hc.2
    rcases r2 with ⟨-, r3⟩ | ⟨l', r3, -⟩
    · rw [fX8_plan_L59, if_neg (show ¬ (1 : Int32) = 0 by decide), t1, bnd_s, r1, bnd_s, fX8_plan_L59, if_pos r3]
      exact ⟨_, rfl, t2, t3⟩
    · rw [hnone] at r3; cases r3
  | cons l2 t ih =>
    intro fu l far ice row' line bl SB hf hc hq e hR
    obtain ⟨fu', rfl⟩ : ∃ fu', fu = fu' + 1 := ⟨fu - 1, by omega⟩
    obtain ⟨c1, c2⟩ := chk_len hc
    obtain ⟨o, t1, t2, t3⟩ := m_try N hN (l := l) hB hM hb hO hn c1 c2 hq e hR
    obtain ⟨o2, r1, r2⟩ := m_nextRow N hN (l := l) (row := o.2.2.1) (line := line) hn hs h5 ((t3 28 (by omega)).trans hM.2.2.2.1) (fun k hk => ⟨hq k hk, by have := c2 k hk; show l.getD k 0 < 100; omega⟩)
    have hc2 : nxR c.2.2.1 n l = some l2 ∧ lchk (nxR c.2.2.1 n) n c.2.2.1 l2 t = true := by simp only [lchk, Bool.and_eq_true, beq_iff_eq] at hc; exact ⟨hc.1.2, hc.2⟩
    rcases r2 with ⟨r3, -⟩ | ⟨l', r3, r4, r5⟩
    · rw [hc2.1] at r3; cases r3
    · rw [hc2.1] at r3
      injection r3 with r3
      subst r3
      rw [fX8_plan_L59, if_neg (show ¬ (1 : Int32) = 0 by decide), t1, bnd_s, r1, bnd_s, r4]
      exact ih fu' l2 _ _ _ _ _ _ (by simp at hf; omega) hc2.2 r5 t3 t2
theorem once_L (N : Nat) (hN : 1000 ≤ N) {c : AC} {m : AM} {n : Nat} {row : Nat → Int32} {x1 : Int32} (hB : CAB' c) (hM : MCA' c row) (hb : MBD c.1 c.2.1 c.2.2.1 9999 m) (hO : MOM c.1 c.2.2.1 0 m row) (hn : n = c.2.2.1) (hs : 0 < n) :
    ∀ (t : List (List Nat)) (fu : Nat) (l : List Nat) (far ice : Int32) (row' line bl : Nat → Int32) (SB : SBT), t.length + 1 < fu → lchk (nxO n) n n l t = true → (∀ k, k < n → line k = nI (l.getD k 0)) → (∀ q, q < 484 → row' q = row q) → BR n SB far ice bl →
    ∃ o, fX8_once_L49 N x1 (nI n) fu 1 far ice row' line bl = some o ∧ BR n ((l :: t).foldl (aJd c m) SB) o.2.1 o.2.2.1 o.2.2.2.2.2 ∧ ∀ q, q < 484 → o.2.2.2.1 q = row q := by
  have h5 : n ≤ 5 := by rw [hn]; exact hB.2.2.1
  intro t
  induction t with
  | nil =>
    intro fu l far ice row' line bl SB hf hc hq e hR
    obtain ⟨fu', rfl⟩ : ∃ fu', fu = fu' + 2 := ⟨fu - 2, by simp at hf; omega⟩
    obtain ⟨c1, c2⟩ := chk_len hc
    obtain ⟨o, t1, t2, t3⟩ := m_try N hN (l := l) hB hM hb hO h5 c1 (fun k hk => by rw [← hn]; exact c2 k hk) hq e hR
    obtain ⟨o2, r1, r2⟩ := m_nextOrder N hN (l := l) (line := line) h5 hs (fun k hk => ⟨hq k hk, by have := c2 k hk; show l.getD k 0 < 100; omega⟩)
    have hnone : nxO n l = none := by simp only [lchk, Bool.and_eq_true, beq_iff_eq] at hc; exact hc.2
    rcases r2 with ⟨-, r3⟩ | ⟨l', r3, -⟩
    · rw [fX8_once_L49, if_neg (show ¬ (1 : Int32) = 0 by decide), t1, bnd_s, r1, bnd_s, fX8_once_L49, if_pos r3]
      exact ⟨_, rfl, t2, t3⟩
    · rw [hnone] at r3; cases r3
  | cons l2 t ih =>
    intro fu l far ice row' line bl SB hf hc hq e hR
    obtain ⟨fu', rfl⟩ : ∃ fu', fu = fu' + 1 := ⟨fu - 1, by omega⟩
    obtain ⟨c1, c2⟩ := chk_len hc
    obtain ⟨o, t1, t2, t3⟩ := m_try N hN (l := l) hB hM hb hO h5 c1 (fun k hk => by rw [← hn]; exact c2 k hk) hq e hR
    obtain ⟨o2, r1, r2⟩ := m_nextOrder N hN (l := l) (line := line) h5 hs (fun k hk => ⟨hq k hk, by have := c2 k hk; show l.getD k 0 < 100; omega⟩)
    have hc2 : nxO n l = some l2 ∧ lchk (nxO n) n n l2 t = true := by simp only [lchk, Bool.and_eq_true, beq_iff_eq] at hc; exact ⟨hc.1.2, hc.2⟩
    rcases r2 with ⟨r3, -⟩ | ⟨l', r3, r4, r5⟩
    · rw [hc2.1] at r3; cases r3
    · rw [hc2.1] at r3
      injection r3 with r3
      subst r3
      rw [fX8_once_L49, if_neg (show ¬ (1 : Int32) = 0 by decide), t1, bnd_s, r1, bnd_s, r4]
      exact ih fu' l2 _ _ _ _ _ _ (by simp at hf; omega) hc2.2 r5 t3 t2
