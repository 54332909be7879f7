/-! SIM plan, once -/
theorem fold_some (c : AC) (m : AM) : ∀ (t : List (List Nat)) (v : Nat × Nat × List Nat), ∃ w, t.foldl (aJd c m) (some v) = some w
  | [], v => ⟨v, rfl⟩
  | l :: t, v => by
    obtain ⟨f, i, b⟩ := v
    have : ∃ w, aJd c m (some (f, i, b)) l = some w := by
      unfold aJd
      dsimp only
      split
      · exact ⟨_, rfl⟩
      · exact ⟨_, rfl⟩
    obtain ⟨w, hw⟩ := this
    rw [List.foldl_cons, hw]
    exact fold_some c m t w
theorem fold_none (c : AC) (m : AM) (l : List Nat) (t : List (List Nat)) : ∃ w, (l :: t).foldl (aJd c m) none = some w := by
  rw [List.foldl_cons]
  exact fold_some c m t _
theorem lall_inv {nx : List Nat → Option (List Nat)} {n ns : Nat} {first : List Nat} {ls : List (List Nat)} (h : lall nx n ns first ls = true) : ∃ t, ls = first :: t ∧ lchk nx n ns first t = true ∧ t.length < 700 := by
  cases ls with
  | nil => cases h
  | cons l t =>
    simp only [lall, Bool.and_eq_true, beq_iff_eq, decide_eq_true_eq] at h
    obtain ⟨⟨rfl, h2⟩, h3⟩ := h
    exact ⟨t, rfl, h2, h3⟩
theorem best_try (N : Nat) (hN : 1000 ≤ N) {c : AC} {m : AM} {k : Nat} {h : Nat → AM} {C : BV_canal} {Y : BV_history} {once : Bool} {n : Nat} (hB : SNB c m k h) (hC : SNC c m k h C Y) (hn : n ≤ 5) (Q : BV_search) : ∃ W', fX4_tryFrom N 7 (nI n) (b2i once) (-1) Q.2.2.2.1 (va_up Q.2.2.2.2.2.2.1 0 C.2.2.2.2.2.2.1) (va_up Q.2.2.2.2.2.2.2.1 0 C.2.2.2.2.2.2.2.1) (va_up Q.2.2.2.2.2.2.2.2.1 0 C.2.2.2.2.2.2.2.2.1) (va_up Q.2.2.2.2.2.2.2.2.2.1 0 (va_cpy C.2.2.2.2.2.2.2.2.2.1 (Q.2.2.2.2.2.2.2.2.2.1 0) 0 0 12)) (va_up Q.2.2.2.2.2.2.2.2.2.2.1 0 (va_cpy C.2.2.2.2.2.2.2.2.2.2.1 (Q.2.2.2.2.2.2.2.2.2.2.1 0) 0 0 5)) (va_up Q.2.2.2.2.2.2.2.2.2.2.2 0 (va_cpy C.2.2.2.2.2.2.2.2.2.2.2 (Q.2.2.2.2.2.2.2.2.2.2.2 0) 0 0 5)) Q.2.2.2.2.1 Q.2.2.2.2.2.1 C.1 C.2.1 C.2.2.1 C.2.2.2.1 C.2.2.2.2.1 C.2.2.2.2.2.1 0 0 = some W' ∧ BR n ((lns once c.2.2.1 n []).foldl (aJd c m) none) W'.1 W'.2.1 W'.2.2.2.2.2.2.2.2.2 := by
  obtain ⟨W', t1, t2⟩ := try_L N hN (C := C) (m := m) (n := n) (once := once) hB.1 hC.1 hB.2.1 hn n 7 [] 0 none (-1, Q.2.2.2.1, va_up Q.2.2.2.2.2.2.1 0 C.2.2.2.2.2.2.1, va_up Q.2.2.2.2.2.2.2.1 0 C.2.2.2.2.2.2.2.1, va_up Q.2.2.2.2.2.2.2.2.1 0 C.2.2.2.2.2.2.2.2.1, va_up Q.2.2.2.2.2.2.2.2.2.1 0 (va_cpy C.2.2.2.2.2.2.2.2.2.1 (Q.2.2.2.2.2.2.2.2.2.1 0) 0 0 12), va_up Q.2.2.2.2.2.2.2.2.2.2.1 0 (va_cpy C.2.2.2.2.2.2.2.2.2.2.1 (Q.2.2.2.2.2.2.2.2.2.2.1 0) 0 0 5), va_up Q.2.2.2.2.2.2.2.2.2.2.2 0 (va_cpy C.2.2.2.2.2.2.2.2.2.2.2 (Q.2.2.2.2.2.2.2.2.2.2.2 0) 0 0 5), Q.2.2.2.2.1, Q.2.2.2.2.2.1) (by simp) (by omega) (by omega) (fun s hs => by simp) ⟨fun j hj => by
      have e : j = 0 := by simpa using hj
      subst e
      exact cmo_take hB.1.1 hB.1.2.2.1 hC.2.1, fun j hj => absurd hj (Nat.not_lt_zero _), rfl⟩
  exact ⟨W', t1, t2.2.2⟩
theorem m_l0_L (N : Nat) {n : Nat} {x2 : Int32} (hn : n ≤ 5) : ∀ (fu x : Nat) (line : Nat → Int32), x ≤ n → n - x < fu → (∀ k, k < x → line k = 0) → ∃ o, fX8_plan_L39 N (nI n) x2 fu (nI x) line = some o ∧ ∀ k, k < n → o.2 k = 0 := by
  intro fu
  induction fu with
  | zero => intro x line h1 h2; omega
  | succ fu ih =>
    intro x line h1 h2 h
    rw [fX8_plan_L39]
    by_cases he : x = n
    · subst he
      exact ⟨_, if_pos ((nle (by omega) (by omega)).mpr (Nat.le_refl _)), h⟩
    · have q : ¬ nI n ≤ nI x := fun z => by have := (nle (by omega) (by omega)).mp z; omega
      rw [if_neg q, ixb_nI (by omega), n_s1]
      refine ih (x + 1) _ (by omega) (by omega) (fun k hk => ?_)
      by_cases e : k = x
      · subst e; rw [upd_s]
      · rw [upd_n e]; exact h k (by omega)
theorem m_li_L (N : Nat) {n : Nat} {x1 : Int32} (hn : n ≤ 5) : ∀ (fu x : Nat) (line : Nat → Int32), x ≤ n → n - x < fu → (∀ k, k < x → line k = nI k) → ∃ o, fX8_once_L29 N x1 (nI n) fu (nI x) line = some o ∧ ∀ k, k < n → o.2 k = nI k := by
  intro fu
  induction fu with
  | zero => intro x line h1 h2; omega
  | succ fu ih =>
    intro x line h1 h2 h
    rw [fX8_once_L29]
    by_cases he : x = n
    · subst he
      exact ⟨_, if_pos ((nle (by omega) (by omega)).mpr (Nat.le_refl _)), h⟩
    · have q : ¬ nI n ≤ nI x := fun z => by have := (nle (by omega) (by omega)).mp z; omega
      rw [if_neg q, ixb_nI (by omega), n_s1]
      refine ih (x + 1) _ (by omega) (by omega) (fun k hk => ?_)
      by_cases e : k = x
      · subst e; rw [upd_s]
      · rw [upd_n e]; exact h k (by omega)
theorem gd_rep (n k : Nat) : (List.replicate n 0).getD k 0 = 0 := by
  rw [List.getD_eq_getElem?_getD, List.getElem?_replicate]
  split <;> rfl
theorem gd_rng {n k : Nat} (h : k < n) : (List.range n).getD k 0 = k := by
  rw [List.getD_eq_getElem?_getD, List.getElem?_range h]; rfl
theorem sim_plan (N : Nat) (hN : 1000 ≤ N) : Simplan N Rel := by
  intro S M y0 y1 hR
  obtain ⟨⟨c, m, k, h, hB, hC, hM⟩, hI, hT, hD, hZ⟩ := id hR
  have h5 := hB.1.2.2.1
  have e2 : S.1.2.2.1 = nI c.2.2.1 := hC.1.2.2.1
  have e28 : M.2.2.2.2.2.2.2.2.2.1 28 = nI c.2.2.1 := hM.1.2.2.2.1
  unfold fX7_plan fX8_plan
  rw [c_within, m_in32, e28]
  simp only [bnd_s, ite_b2i, L32, L64, decide_eq_true_eq]
  by_cases hy : 1 ≤ y0.toInt ∧ y0.toInt ≤ 4
  · rw [if_pos hy, if_pos hy]
    obtain ⟨n, hn1, hn2, rfl⟩ := rngl (a := 1) (n := 4) hy
    by_cases hk : -1 ≤ y1
    · rw [if_pos hk, if_pos hk]
      unfold fX4_best
      by_cases h0 : c.2.2.1 = 0
      · rw [if_pos (show S.1.2.2.1 = 0 by rw [e2, h0]; rfl), bnd_s]
        exact ⟨_, _, rfl, if_pos (by rw [h0]; rfl), rfl, hR⟩
      · have hne : ¬ nI c.2.2.1 = 0 := fun z => h0 ((neq (b := 0) (by omega) (by omega)).mp z)
        rw [if_neg (show ¬ S.1.2.2.1 = 0 by rw [e2]; exact hne), if_neg hne]
        obtain ⟨t, lt1, lt2, lt3⟩ := lall_inv (rows_ok c.2.2.1 (by omega) n (by omega) (by omega) (by omega))
        obtain ⟨o0, i1, i2⟩ := m_l0_L N (n := n) (x2 := y1) (by omega) N 0 M.2.2.2.2.2.2.2.2.2.2.2.2.2.2.2.2.2.1 (by omega) (by omega) (fun k hk => absurd hk (Nat.not_lt_zero _))
        obtain ⟨o1, p1, p2, p3⟩ := plan_L N hN (x2 := y1) hB.1 hM.1 hB.2.1 hM.2.1 (show n ≤ 5 by omega) (by omega) t N (List.replicate n 0) (-1) M.2.2.2.2.2.2.2.2.1 M.2.2.2.2.2.2.2.2.2.1 o0.2 M.2.2.2.2.2.2.2.2.2.2.2.2.2.2.2.2.2.2.1 none (by omega) lt2 (fun k hk => by rw [i2 k hk, gd_rep]; rfl) (fun _ _ => rfl) rfl
        obtain ⟨W', t1, t2⟩ := best_try N hN (once := false) (n := n) hB hC (by omega) S.2.2.2.2.2.2.2.2.1
        obtain ⟨⟨f, i, b⟩, ew⟩ := fold_none c m (List.replicate n 0) t
        rw [lt1, ew] at t2
        rw [ew] at p2
        obtain ⟨a1, a2, a3, a4, a5⟩ := t2
        obtain ⟨b1, b2, b3, b4, b5⟩ := p2
        rw [show fX8_plan_L39 N (nI n) y1 N 0 _ = _ from i1, bnd_s, p1, bnd_s]
        have fin : RC S.1 S.2.1 o1.2.2.2.1 ∧ RI S.2.2.1 S.2.2.2.1 S.2.2.2.2.1 M.1 o1.2.2.2.1 := ⟨⟨c, m, k, h, hB, hC, snm_agree hB hM (fun q hq => p3 q (by omega))⟩, hI.keep (fun j h1 h2 => p3 j h2)⟩
        have emin : imin 5 (nI n) = nI n := by rw [show (5 : Int32) = nI 5 from rfl, n_imin (by omega) (by omega), Nat.min_eq_right (by omega)]
        unfold fX3_take fX8_tellLine
        simp only [bnd_s, emin]
        rw [show (0 : Int32) = b2i false from rfl, zb_b, show (b2i false : Int32) = 0 from rfl, show fX4_tryFrom N 7 (nI n) 0 (-1) _ _ _ _ _ _ _ _ _ _ _ _ _ _ _ 0 0 = _ from t1]
        simp only [bnd_s]
        by_cases hk0 : 0 ≤ y1
        · obtain ⟨kk, hkk, rfl⟩ := nI_of (x := y1) (by rw [Int32.lt_iff_toInt_lt]; rw [Int32.le_iff_toInt_le] at hk0; omega)
          by_cases hkn : kk < n
          · have q1 : nI kk < nI n := (nlt (by omega) (by omega)).mpr hkn
            have q2 : ¬ nI n ≤ nI kk := fun z => by have := (nle (by omega) (by omega)).mp z; omega
            rw [if_pos q1, if_pos hk0, if_pos hk0, if_neg q2, ixb_nI (by omega), ixb_nI (by omega)]
            simp only [bnd_s]
            exact ⟨_, _, rfl, rfl, (a5 kk hkn).trans (b5 kk hkn).symm, fin.1, fin.2, hT, hD, hZ⟩
          · have q1 : ¬ nI kk < nI n := fun z => hkn ((nlt (by omega) (by omega)).mp z)
            have q2 : nI n ≤ nI kk := (nle (by omega) (by omega)).mpr (by omega)
            rw [if_neg q1, if_pos hk0, if_pos q2]
            simp only [bnd_s]
            exact ⟨_, _, rfl, rfl, rfl, fin.1, fin.2, hT, hD, hZ⟩
        · have q1 : y1 < nI n := by
            rw [Int32.lt_iff_toInt_lt, tI n]; rw [Int32.le_iff_toInt_le, show (0 : Int32).toInt = 0 from rfl] at hk0; omega
          rw [if_pos q1, if_neg hk0, if_neg hk0]
          simp only [bnd_s]
          exact ⟨_, _, rfl, rfl, a1.trans b1.symm, fin.1, fin.2, hT, hD, hZ⟩
    · rw [if_neg hk, if_neg hk]; exact ⟨_, _, rfl, rfl, rfl, hR⟩
  · rw [if_neg hy, if_neg hy]; exact ⟨_, _, rfl, rfl, rfl, hR⟩
theorem sim_once (N : Nat) (hN : 1000 ≤ N) : Simonce N Rel := by
  intro S M y1 hR
  obtain ⟨⟨c, m, k, h, hB, hC, hM⟩, hI, hT, hD, hZ⟩ := id hR
  have h5 := hB.1.2.2.1
  have e2 : S.1.2.2.1 = nI c.2.2.1 := hC.1.2.2.1
  have e28 : M.2.2.2.2.2.2.2.2.2.1 28 = nI c.2.2.1 := hM.1.2.2.2.1
  unfold fX7_once fX8_once
  rw [e28]
  by_cases hk : -1 ≤ y1
  · rw [if_pos hk, if_pos hk]
    unfold fX4_best
    by_cases h0 : c.2.2.1 = 0
    · rw [if_pos (show S.1.2.2.1 = 0 by rw [e2, h0]; rfl), bnd_s]
      exact ⟨_, _, rfl, if_pos (by rw [h0]; rfl), rfl, hR⟩
    · have hne : ¬ nI c.2.2.1 = 0 := fun z => h0 ((neq (b := 0) (by omega) (by omega)).mp z)
      rw [if_neg (show ¬ S.1.2.2.1 = 0 by rw [e2]; exact hne), if_neg hne]
      obtain ⟨t, lt1, lt2, lt3⟩ := lall_inv (orders_ok c.2.2.1 (by omega) (by omega))
      obtain ⟨o0, i1, i2⟩ := m_li_L N (n := c.2.2.1) (x1 := y1) (by omega) N 0 M.2.2.2.2.2.2.2.2.2.2.2.2.2.2.2.2.2.1 (by omega) (by omega) (fun k hk => absurd hk (Nat.not_lt_zero _))
      obtain ⟨o1, p1, p2, p3⟩ := once_L N hN (x1 := y1) hB.1 hM.1 hB.2.1 hM.2.1 rfl (by omega) t N (List.range c.2.2.1) (-1) M.2.2.2.2.2.2.2.2.1 M.2.2.2.2.2.2.2.2.2.1 o0.2 M.2.2.2.2.2.2.2.2.2.2.2.2.2.2.2.2.2.2.1 none (by omega) lt2 (fun k hk => by rw [i2 k hk, gd_rng hk]) (fun _ _ => rfl) rfl
      obtain ⟨W', t1, t2⟩ := best_try N hN (once := true) (n := c.2.2.1) hB hC (by omega) S.2.2.2.2.2.2.2.2.1
      obtain ⟨⟨f, i, b⟩, ew⟩ := fold_none c m (List.range c.2.2.1) t
      rw [lt1, ew] at t2
      rw [ew] at p2
      obtain ⟨a1, a2, a3, a4, a5⟩ := t2
      obtain ⟨b1, b2, b3, b4, b5⟩ := p2
      rw [show fX8_once_L29 N y1 (nI c.2.2.1) N 0 _ = _ from i1, bnd_s, p1, bnd_s]
      have fin : RC S.1 S.2.1 o1.2.2.2.1 ∧ RI S.2.2.1 S.2.2.2.1 S.2.2.2.2.1 M.1 o1.2.2.2.1 := ⟨⟨c, m, k, h, hB, hC, snm_agree hB hM (fun q hq => p3 q (by omega))⟩, hI.keep (fun j h1 h2 => p3 j h2)⟩
      have emin : imin 5 S.1.2.2.1 = nI c.2.2.1 := by rw [e2, show (5 : Int32) = nI 5 from rfl, n_imin (by omega) (by omega), Nat.min_eq_right (by omega)]
      unfold fX3_take fX8_tellLine
      simp only [bnd_s, emin]
      rw [show (1 : Int32) = b2i true from rfl, zb_b, show (b2i true : Int32) = 1 from rfl, show fX4_tryFrom N 7 (nI c.2.2.1) 1 (-1) _ _ _ _ _ _ _ _ _ _ _ _ _ _ _ 0 0 = _ from t1]
      simp only [bnd_s]
      by_cases hk0 : 0 ≤ y1
      · obtain ⟨kk, hkk, rfl⟩ := nI_of (x := y1) (by rw [Int32.lt_iff_toInt_lt]; rw [Int32.le_iff_toInt_le] at hk0; omega)
        by_cases hkn : kk < c.2.2.1
        · have q1 : nI kk < S.1.2.2.1 := by rw [e2]; exact (nlt (by omega) (by omega)).mpr hkn
          have q2 : ¬ nI c.2.2.1 ≤ nI kk := fun z => by have := (nle (by omega) (by omega)).mp z; omega
          rw [if_pos q1, if_pos hk0, if_pos hk0, if_neg q2, ixb_nI (by omega), ixb_nI (by omega)]
          simp only [bnd_s]
          exact ⟨_, _, rfl, rfl, (a5 kk hkn).trans (b5 kk hkn).symm, fin.1, fin.2, hT, hD, hZ⟩
        · have q1 : ¬ nI kk < S.1.2.2.1 := by rw [e2]; exact fun z => hkn ((nlt (by omega) (by omega)).mp z)
          have q2 : nI c.2.2.1 ≤ nI kk := (nle (by omega) (by omega)).mpr (by omega)
          rw [if_neg q1, if_pos hk0, if_pos q2]
          simp only [bnd_s]
          exact ⟨_, _, rfl, rfl, rfl, fin.1, fin.2, hT, hD, hZ⟩
      · have q1 : y1 < S.1.2.2.1 := by
          rw [e2, Int32.lt_iff_toInt_lt, tI _]; rw [Int32.le_iff_toInt_le, show (0 : Int32).toInt = 0 from rfl] at hk0; omega
        rw [if_pos q1, if_neg hk0, if_neg hk0]
        simp only [bnd_s]
        exact ⟨_, _, rfl, rfl, a1.trans b1.symm, fin.1, fin.2, hT, hD, hZ⟩
  · rw [if_neg hk, if_neg hk]; exact ⟨_, _, rfl, rfl, rfl, hR⟩
