/-! PURE: the boat's search -/
abbrev TS : Type := Int32 × Int32 × (Nat → Int32) × (Nat → Int32) × (Nat → Int32) × (Nat → Nat → Int32) × (Nat → Nat → Int32) × (Nat → Nat → Int32) × (Nat → Int32) × (Nat → Int32)
/-- what holds at a prefix -/
def SI (c : AC) (m : AM) (n : Nat) (pre : List Nat) (SB : SBT) (W : TS) : Prop :=
  (∀ j, j ≤ pre.length → CMO c.1 c.2.2.1 (aRun c m (pre.take j)) (W.2.2.1 j) (W.2.2.2.1 j) (W.2.2.2.2.1 j) (W.2.2.2.2.2.1 j) (W.2.2.2.2.2.2.1 j) (W.2.2.2.2.2.2.2.1 j)) ∧
  (∀ j, j < pre.length → W.2.2.2.2.2.2.2.2.1 j = nI (pre.getD j 0)) ∧ BR n SB W.1 W.2.1 W.2.2.2.2.2.2.2.2.2
theorem s_or : ∀ a, a < 32 → ∀ s, s < 5 → nI a ||| ((1 : Int32) <<< (nI s &&& 31)) = nI (a ||| 2 ^ s) := by decide +kernel
theorem or_lt {a s : Nat} (ha : a < 32) (hs : s < 5) : a ||| 2 ^ s < 32 := Nat.or_lt_two_pow (n := 5) ha (Nat.pow_lt_pow_right (by decide) hs)
theorem c_judge (N : Nat) (hN : 1000 ≤ N) {c : AC} {m : AM} {n : Nat} {l : List Nat} {far ice boat minute draw : Int32} {iced juice fors order bo : Nat → Int32} {SB : SBT} (hB : CAB' c) (hb : MBD c.1 c.2.1 c.2.2.1 9999 m) (hn : n ≤ 5) (hO : CMO c.1 c.2.2.1 (aRun c m l) boat minute draw iced juice fors) (hq : ∀ k, k < n → order k = nI (l.getD k 0)) (hR : BR n SB far ice bo) :
    ∃ o, fX4_judge N (nI n) far ice order bo (nI c.1) boat iced = some o ∧ BR n (aJd c m SB l) o.1 o.2.1 o.2.2 := by
  have h12 := hB.1
  have hbd := aRun_bd hb l
  have ha := aAh_le hbd
  have h1 := hbd.1
  have ea : fX0_iceAhead N (nI c.1) boat iced = some (nI (aAh c.1 (aRun c m l))) := c_ahead N h12 hbd hO
  have hcp : cpB 0 0 (nI n) 5 5 = true := by
    simp only [cpB, Bool.and_eq_true, Bool.not_eq_true', decide_eq_true_eq, decide_eq_false_iff_not]
    rw [nI_clamp (by omega)]
    exact ⟨by decide, by decide, nI_pos (by omega), by show 0 + n ≤ 5; omega, by show 0 + n ≤ 5; omega⟩
  unfold fX4_judge
  rw [ea, bnd_s, hO.1]
  unfold cpb
  rw [if_pos hcp, nI_clamp (by omega)]
  have win : BR n (some ((aRun c m l).1, aAh c.1 (aRun c m l), l)) (nI (aRun c m l).1) (nI (aAh c.1 (aRun c m l))) (va_cpy order bo 0 0 n) := ⟨rfl, rfl, by omega, by omega, fun k hk => (sb_cpy0 hk).trans (hq k hk)⟩
  cases SB with
  | none =>
    have hf : far = -1 := hR
    subst hf
    rw [if_pos (m1_lt (by omega))]
    exact ⟨_, rfl, win⟩
  | some v =>
    obtain ⟨f, i, b⟩ := v
    obtain ⟨r1, r2, r3, r4, r5⟩ := hR
    subst r1; subst r2
    have ej : aJd c m (some (f, i, b)) l = if f < (aRun c m l).1 ∨ ((aRun c m l).1 = f ∧ aAh c.1 (aRun c m l) < i) then some ((aRun c m l).1, aAh c.1 (aRun c m l), l) else some (f, i, b) := rfl
    rw [ej]
    by_cases q1 : f < (aRun c m l).1
    · rw [if_pos ((nlt (by omega) (by omega)).mpr q1), if_pos (Or.inl q1)]
      exact ⟨_, rfl, win⟩
    · rw [if_neg (fun z => q1 ((nlt (by omega) (by omega)).mp z))]
      by_cases q2 : (aRun c m l).1 = f
      · rw [if_pos ((neq (by omega) (by omega)).mpr q2)]
        by_cases q3 : aAh c.1 (aRun c m l) < i
        · rw [if_neg (fun z => by have := (nle (by omega) (by omega)).mp z; omega), if_pos (Or.inr ⟨q2, q3⟩)]
          exact ⟨_, rfl, win⟩
        · rw [if_pos ((nle (by omega) (by omega)).mpr (by omega)), if_neg (by omega)]
          exact ⟨_, rfl, ⟨rfl, rfl, r3, r4, r5⟩⟩
      · rw [if_neg (fun z => q2 ((neq (by omega) (by omega)).mp z)), if_neg (by omega)]
        exact ⟨_, rfl, ⟨rfl, rfl, r3, r4, r5⟩⟩
theorem gd_app {l l' : List Nat} {j : Nat} (h : j < l.length) : (l ++ l').getD j 0 = l.getD j 0 := by rw [List.getD_eq_getElem?_getD, List.getD_eq_getElem?_getD, List.getElem?_append_left h]
theorem SI.back {c : AC} {m : AM} {n : Nat} {pre : List Nat} {s : Nat} {SB : SBT} {W : TS} (h : SI c m n (pre ++ [s]) SB W) : SI c m n pre SB W := by
  obtain ⟨h1, h2, h3⟩ := h
  refine ⟨fun j hj => ?_, fun j hj => ?_, h3⟩
  · have := h1 j (by simp; omega)
    rwa [List.take_append_of_le_length hj] at this
  · have := h2 j (by simp; omega)
    rw [gd_app hj] at this
    exact this
/-- one more saying -/
theorem s_step (N : Nat) (hN : 1000 ≤ N) {c : AC} {C : BV_canal} {m : AM} {n : Nat} {pre : List Nat} {SB : SBT} {W : TS} (hB : CAB' c) (hC : CCA' c C) (hb : MBD c.1 c.2.1 c.2.2.1 9999 m) (hn : n ≤ 5) (hp : pre.length < n) (h : SI c m n pre SB W) {s : Nat} (hs : s < c.2.2.1) :
    ∃ o9, fX0_pass N C.1 C.2.1 C.2.2.1 C.2.2.2.1 C.2.2.2.2.1 C.2.2.2.2.2.1 (va_up W.2.2.1 (pre.length + 1) (W.2.2.1 pre.length) (pre.length + 1)) (va_up W.2.2.2.1 (pre.length + 1) (W.2.2.2.1 pre.length) (pre.length + 1)) (va_up W.2.2.2.2.2.1 (pre.length + 1) (va_cpy (W.2.2.2.2.2.1 pre.length) (W.2.2.2.2.2.1 (pre.length + 1)) 0 0 12) (pre.length + 1)) (va_up W.2.2.2.2.2.2.1 (pre.length + 1) (va_cpy (W.2.2.2.2.2.2.1 pre.length) (W.2.2.2.2.2.2.1 (pre.length + 1)) 0 0 5) (pre.length + 1)) (va_up W.2.2.2.2.2.2.2.1 (pre.length + 1) (va_cpy (W.2.2.2.2.2.2.2.1 pre.length) (W.2.2.2.2.2.2.2.1 (pre.length + 1)) 0 0 5) (pre.length + 1)) (nI s) = some o9 ∧
    SI c m n (pre ++ [s]) SB (W.1, W.2.1, va_up (va_up W.2.2.1 (pre.length + 1) (W.2.2.1 pre.length)) (pre.length + 1) o9.1, va_up (va_up W.2.2.2.1 (pre.length + 1) (W.2.2.2.1 pre.length)) (pre.length + 1) o9.2.1, va_up W.2.2.2.2.1 (pre.length + 1) (W.2.2.2.2.1 pre.length), va_up (va_up W.2.2.2.2.2.1 (pre.length + 1) (va_cpy (W.2.2.2.2.2.1 pre.length) (W.2.2.2.2.2.1 (pre.length + 1)) 0 0 12)) (pre.length + 1) o9.2.2.1, va_up (va_up W.2.2.2.2.2.2.1 (pre.length + 1) (va_cpy (W.2.2.2.2.2.2.1 pre.length) (W.2.2.2.2.2.2.1 (pre.length + 1)) 0 0 5)) (pre.length + 1) o9.2.2.2, va_up W.2.2.2.2.2.2.2.1 (pre.length + 1) (va_cpy (W.2.2.2.2.2.2.2.1 pre.length) (W.2.2.2.2.2.2.2.1 (pre.length + 1)) 0 0 5), upd W.2.2.2.2.2.2.2.2.1 pre.length (nI s), W.2.2.2.2.2.2.2.2.2) := by
  obtain ⟨h1, h2, h3⟩ := h
  have h12 := hB.1
  have h5 := hB.2.2.1
  have hO := h1 pre.length (Nat.le_refl _)
  rw [List.take_length] at hO
  have hT := cmo_take h12 h5 hO (i2 := W.2.2.2.2.2.1 (pre.length + 1)) (j2 := W.2.2.2.2.2.2.1 (pre.length + 1)) (f2 := W.2.2.2.2.2.2.2.1 (pre.length + 1))
  have hbd := aRun_bd hb pre
  obtain ⟨o9, p1, p2⟩ := c_pass N hN hB hbd (by omega) hC hT s (by omega)
  rw [show sI c.2.2.1 s = nI s by unfold sI; rw [if_pos hs]] at p1
  simp only [va_up_eq]
  refine ⟨o9, p1, fun j hj => ?_, fun j hj => ?_, h3⟩
  · have hj' : j ≤ pre.length + 1 := by simpa using hj
    by_cases e : j = pre.length + 1
    · subst e
      rw [show (pre ++ [s]).take (pre.length + 1) = pre ++ [s] by rw [show pre.length + 1 = (pre ++ [s]).length by simp, List.take_length], aRun_snoc]
      show CMO _ _ _ (va_up _ _ _ (pre.length + 1)) (va_up _ _ _ (pre.length + 1)) (va_up _ _ _ (pre.length + 1)) (va_up _ _ _ (pre.length + 1)) (va_up _ _ _ (pre.length + 1)) (va_up _ _ _ (pre.length + 1))
      simp only [va_up_eq]
      exact p2
    · rw [List.take_append_of_le_length (by omega)]
      show CMO _ _ _ (va_up _ _ _ j) (va_up _ _ _ j) (va_up _ _ _ j) (va_up _ _ _ j) (va_up _ _ _ j) (va_up _ _ _ j)
      simp only [va_up_n _ _ e]
      exact h1 j (by omega)
  · have hj' : j < pre.length + 1 := by simpa using hj
    show upd _ pre.length (nI s) j = _
    by_cases e : j = pre.length
    · subst e; rw [upd_s, List.getD_eq_getElem?_getD, List.getElem?_append_right (Nat.le_refl _), Nat.sub_self]; rfl
    · rw [upd_n e, gd_app (by omega)]; exact h2 j (by omega)
theorem try_L (N : Nat) (hN : 1000 ≤ N) {c : AC} {C : BV_canal} {m : AM} {n : Nat} {once : Bool} (hB : CAB' c) (hC : CCA' c C) (hb : MBD c.1 c.2.1 c.2.2.1 9999 m) (hn : n ≤ 5) :
    ∀ (r d : Nat) (pre : List Nat) (sd : Nat) (SB : SBT) (W : TS), pre.length + r = n → r < d → sd < 32 → (∀ s, s < 5 → (sd.testBit s = true ↔ pre.contains s = true)) → SI c m n pre SB W →
    ∃ W', fX4_tryFrom N d (nI n) (b2i once) W.1 W.2.1 W.2.2.1 W.2.2.2.1 W.2.2.2.2.1 W.2.2.2.2.2.1 W.2.2.2.2.2.2.1 W.2.2.2.2.2.2.2.1 W.2.2.2.2.2.2.2.2.1 W.2.2.2.2.2.2.2.2.2 C.1 C.2.1 C.2.2.1 C.2.2.2.1 C.2.2.2.2.1 C.2.2.2.2.2.1 (nI pre.length) (nI sd) = some W' ∧ SI c m n pre ((lns once c.2.2.1 r pre).foldl (aJd c m) SB) W' := by
  have h5 := hB.2.2.1
  intro r
  induction r with
  | zero =>
    intro d pre sd SB W hl hd hsd hbit h
    obtain ⟨d', rfl⟩ : ∃ d', d = d' + 1 := ⟨d - 1, by omega⟩
    have hl' : pre.length = n := by omega
    obtain ⟨h1, h2, h3⟩ := id h
    have hO := h1 pre.length (Nat.le_refl _)
    rw [List.take_length, hl'] at hO
    rw [hl'] at h2
    obtain ⟨o, j1, j2⟩ := c_judge N hN (l := pre) hB hb hn hO h2 h3
    rw [fX4_tryFrom, hl', if_neg (fun z => by have := (nlt (by omega) (by omega)).mp z; omega), ixb_nI (by omega), show fX4_judge N (nI n) W.1 W.2.1 W.2.2.2.2.2.2.2.2.1 W.2.2.2.2.2.2.2.2.2 C.1 (W.2.2.1 n) (W.2.2.2.2.2.1 n) = some o by rw [hC.1]; exact j1, bnd_s]
    refine ⟨_, rfl, h1, ?_, j2⟩
    rw [hl']; exact h2
  | succ r ih =>
    intro d pre sd SB W hl hd hsd hbit h
    obtain ⟨d', rfl⟩ : ∃ d', d = d' + 1 := ⟨d - 1, by omega⟩
    have hp : pre.length < n := by omega
    have loop : ∀ (k fu s : Nat) (SB : SBT) (W : TS), s + k = c.2.2.1 → k < fu → SI c m n pre SB W → ∃ o, fX4_tryFrom_L26 N (fX4_tryFrom N d') (nI pre.length) (nI sd) (nI n) (b2i once) C.1 C.2.1 C.2.2.1 C.2.2.2.1 C.2.2.2.2.1 C.2.2.2.2.2.1 fu (nI s) W.1 W.2.1 W.2.2.1 W.2.2.2.1 W.2.2.2.2.1 W.2.2.2.2.2.1 W.2.2.2.2.2.2.1 W.2.2.2.2.2.2.2.1 W.2.2.2.2.2.2.2.2.1 W.2.2.2.2.2.2.2.2.2 = some o ∧ SI c m n pre ((lcat (fun s => if (once && pre.contains s) = true then [] else lns once c.2.2.1 r (pre ++ [s])) k s).foldl (aJd c m) SB) o.2 := by
      intro k
      induction k with
      | zero =>
        intro fu s SB W hs hf h
        obtain ⟨fu', rfl⟩ : ∃ fu', fu = fu' + 1 := ⟨fu - 1, by omega⟩
        rw [fX4_tryFrom_L26]
        exact ⟨_, if_pos (by rw [hC.2.2.1]; exact (nle (by omega) (by omega)).mpr (by omega)), h⟩
      | succ k ihk =>
        intro fu s SB W hs hf h
        obtain ⟨fu', rfl⟩ : ∃ fu', fu = fu' + 1 := ⟨fu - 1, by omega⟩
        have q : ¬ C.2.2.1 ≤ nI s := by rw [hC.2.2.1]; exact fun z => by have := (nle (by omega) (by omega)).mp z; omega
        have el : lcat (fun s => if (once && pre.contains s) = true then [] else lns once c.2.2.1 r (pre ++ [s])) (k + 1) s = (if (once && pre.contains s) = true then [] else lns once c.2.2.1 r (pre ++ [s])) ++ lcat (fun s => if (once && pre.contains s) = true then [] else lns once c.2.2.1 r (pre ++ [s])) k (s + 1) := rfl
        have hs5 : s < 5 := by omega
        rw [fX4_tryFrom_L26, if_neg q, el, List.foldl_append, s_shr sd (by omega) s (by omega)]
        -- a saying that is tried
        have go : (once && pre.contains s) = false → ∃ o, (ixb (nI pre.length + 1) 6 fun κ4 => ixb (nI pre.length) 6 fun κ5 =>
            bnd (fX3_take N (W.2.2.1 κ4) (W.2.2.2.1 κ4) (W.2.2.2.2.1 κ4) (W.2.2.2.2.2.1 κ4) (W.2.2.2.2.2.2.1 κ4) (W.2.2.2.2.2.2.2.1 κ4) (W.2.2.1 κ5) (W.2.2.2.1 κ5) (W.2.2.2.2.1 κ5) (W.2.2.2.2.2.1 κ5) (W.2.2.2.2.2.2.1 κ5) (W.2.2.2.2.2.2.2.1 κ5)) fun o6 =>
            bnd (fX0_pass N C.1 C.2.1 C.2.2.1 C.2.2.2.1 C.2.2.2.2.1 C.2.2.2.2.2.1 ((va_up W.2.2.1 κ4 o6.1) κ4) ((va_up W.2.2.2.1 κ4 o6.2.1) κ4) ((va_up W.2.2.2.2.2.1 κ4 o6.2.2.2.1) κ4) ((va_up W.2.2.2.2.2.2.1 κ4 o6.2.2.2.2.1) κ4) ((va_up W.2.2.2.2.2.2.2.1 κ4 o6.2.2.2.2.2) κ4) (nI s)) fun o9 =>
            ixb (nI pre.length) 5 fun κ11 =>
            bnd (fX4_tryFrom N d' (nI n) (b2i once) W.1 W.2.1 (va_up (va_up W.2.2.1 κ4 o6.1) κ4 o9.1) (va_up (va_up W.2.2.2.1 κ4 o6.2.1) κ4 o9.2.1) (va_up W.2.2.2.2.1 κ4 o6.2.2.1) (va_up (va_up W.2.2.2.2.2.1 κ4 o6.2.2.2.1) κ4 o9.2.2.1) (va_up (va_up W.2.2.2.2.2.2.1 κ4 o6.2.2.2.2.1) κ4 o9.2.2.2) (va_up W.2.2.2.2.2.2.2.1 κ4 o6.2.2.2.2.2) (upd W.2.2.2.2.2.2.2.2.1 κ11 (nI s)) W.2.2.2.2.2.2.2.2.2 C.1 C.2.1 C.2.2.1 C.2.2.2.1 C.2.2.2.2.1 C.2.2.2.2.2.1 (nI pre.length + 1) (nI sd ||| (1 <<< (nI s &&& 31)))) fun o12 =>
            fX4_tryFrom_L26 N (fX4_tryFrom N d') (nI pre.length) (nI sd) (nI n) (b2i once) C.1 C.2.1 C.2.2.1 C.2.2.2.1 C.2.2.2.2.1 C.2.2.2.2.2.1 fu' (nI s + 1) o12.1 o12.2.1 o12.2.2.1 o12.2.2.2.1 o12.2.2.2.2.1 o12.2.2.2.2.2.1 o12.2.2.2.2.2.2.1 o12.2.2.2.2.2.2.2.1 o12.2.2.2.2.2.2.2.2.1 o12.2.2.2.2.2.2.2.2.2) = some o ∧ SI c m n pre ((lcat (fun s => if (once && pre.contains s) = true then [] else lns once c.2.2.1 r (pre ++ [s])) k (s + 1)).foldl (aJd c m) ((if (once && pre.contains s) = true then [] else lns once c.2.2.1 r (pre ++ [s])).foldl (aJd c m) SB)) o.2 := by
          intro hc
          obtain ⟨o9, p1, p2⟩ := s_step N hN hB hC hb hn hp h (show s < c.2.2.1 by omega)
          have hbit' : ∀ s', s' < 5 → ((sd ||| 2 ^ s).testBit s' = true ↔ (pre ++ [s]).contains s' = true) := by
            intro s' hs'
            have := hbit s' hs'
            rw [Nat.testBit_or, Nat.testBit_two_pow, Bool.or_eq_true, this]
            simp only [List.contains_eq_mem, decide_eq_true_eq, List.mem_append, List.mem_singleton]
            constructor
            · rintro (a | a)
              · exact Or.inl a
              · exact Or.inr (by omega)
            · rintro (a | a)
              · exact Or.inl a
              · exact Or.inr (by omega)
          obtain ⟨W2, t1, t2⟩ := ih d' (pre ++ [s]) (sd ||| 2 ^ s) SB _ (by simp; omega) (by omega) (or_lt hsd hs5) hbit' p2
          obtain ⟨o, l1, l2⟩ := ihk fu' (s + 1) _ W2 (by omega) (by omega) t2.back
          have el1 : (pre ++ [s]).length = pre.length + 1 := by simp
          rw [el1] at t1
          refine ⟨o, ?_, ?_⟩
          · rw [n_s1, n_s1, s_or sd hsd s hs5]
            unfold fX3_take
            rw [ixb_nI (by omega), ixb_nI (by omega), bnd_s]
            refine (bnd_eq p1).trans ?_
            rw [ixb_nI (by omega)]
            refine (bnd_eq t1).trans ?_
            exact l1
          · rw [hc, if_neg (by decide)]; exact l2
        cases once with
        | false =>
          rw [if_pos (show b2i false = 0 from rfl)]
          exact go rfl
        | true =>
          rw [if_neg (show ¬ b2i true = 0 by decide), ite_b2i]
          by_cases hm : sd.testBit s = true
          · have hcs : pre.contains s = true := (hbit s hs5).mp hm
            rw [if_pos hm, if_pos (show (true && pre.contains s) = true by rw [hcs]; rfl), n_s1]
            exact ihk fu' (s + 1) SB W (by omega) (by omega) h
          · have hcs : pre.contains s = false := by
              cases e : pre.contains s
              · rfl
              · exact absurd ((hbit s hs5).mpr e) hm
            rw [if_neg hm]
            exact go (by rw [hcs]; rfl)
    obtain ⟨o, l1, l2⟩ := loop c.2.2.1 N 0 SB W (by omega) (by omega) h
    rw [fX4_tryFrom, if_pos ((nlt (by omega) (by omega)).mpr hp)]
    refine ⟨_, (bnd_eq l1).trans rfl, l2⟩
