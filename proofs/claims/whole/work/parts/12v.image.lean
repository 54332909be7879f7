/-! SIM image, restore -/
def CPD (mb mm md : Nat → Int32) (mi mj mf : Nat → Nat → Int32) (nb nm nd : Nat → Int32) (ni nj nf : Nat → Nat → Int32) (i : Nat) : Prop := nb i = mb i ∧ nm i = mm i ∧ nd i = md i ∧ (∀ j, j < 12 → ni i j = mi i j) ∧ ∀ j, j < 5 → nj i j = mj i j ∧ nf i j = mf i j
theorem h_take_L (N : Nat) {mb mm md : Nat → Int32} {mi mj mf : Nat → Nat → Int32} : ∀ (n x : Nat) (nb nm nd : Nat → Int32) (ni nj nf : Nat → Nat → Int32), x ≤ 8 → 8 - x < n → (∀ i, i < x → CPD mb mm md mi mj mf nb nm nd ni nj nf i) → ∃ o, fX2_take_L2 N mb mm md mi mj mf n (nI x) nb nm nd ni nj nf = some o ∧ ∀ i, i < 8 → CPD mb mm md mi mj mf o.2.1 o.2.2.1 o.2.2.2.1 o.2.2.2.2.1 o.2.2.2.2.2.1 o.2.2.2.2.2.2 i := by
  intro n
  induction n with
  | zero => intro x nb nm nd ni nj nf h1 h2; omega
  | succ n ih =>
    intro x nb nm nd ni nj nf h1 h2 h
    rw [fX2_take_L2]
    by_cases he : x = 8
    · subst he
      exact ⟨_, if_pos (show (8 : Int32) ≤ nI 8 by decide), h⟩
    · have q : ¬ (8 : Int32) ≤ nI x := fun z => by have := (nle (a := 8) (by omega) (by omega)).mp z; omega
      unfold fX3_take
      rw [if_neg q, ixb_nI (by omega), ixb_nI (by omega), bnd_s, n_s1]
      refine ih (x + 1) _ _ _ _ _ _ (by omega) (by omega) (fun i hi => ?_)
      by_cases qi : i = x
      · subst qi
        refine ⟨va_up_eq _ _ _, va_up_eq _ _ _, va_up_eq _ _ _, fun j hj => ?_, fun j hj => ⟨?_, ?_⟩⟩
        · rw [va_up_eq]; exact sb_cpy0 hj
        · rw [va_up_eq]; exact sb_cpy0 hj
        · rw [va_up_eq]; exact sb_cpy0 hj
      · obtain ⟨a1, a2, a3, a4, a5⟩ := h i (by omega)
        refine ⟨(va_up_n _ _ qi).trans a1, (va_up_n _ _ qi).trans a2, (va_up_n _ _ qi).trans a3, fun j hj => ?_, fun j hj => ⟨?_, ?_⟩⟩
        · rw [va_up_n _ _ qi]; exact a4 j hj
        · rw [va_up_n _ _ qi]; exact (a5 j hj).1
        · rw [va_up_n _ _ qi]; exact (a5 j hj).2
theorem take_sn (N : Nat) (hN : 1000 ≤ N) {c : AC} {m : AM} {k : Nat} {h : Nat → AM} {C : BV_canal} {Y : BV_history} (hB : SNB c m k h) (hC : SNC c m k h C Y) (D : BV_canal) (Z : BV_history) : ∃ o1 o3, fX0_take N D.1 D.2.1 D.2.2.1 D.2.2.2.1 D.2.2.2.2.1 D.2.2.2.2.2.1 D.2.2.2.2.2.2.1 D.2.2.2.2.2.2.2.1 D.2.2.2.2.2.2.2.2.1 D.2.2.2.2.2.2.2.2.2.1 D.2.2.2.2.2.2.2.2.2.2.1 D.2.2.2.2.2.2.2.2.2.2.2 C.1 C.2.1 C.2.2.1 C.2.2.2.1 C.2.2.2.2.1 C.2.2.2.2.2.1 C.2.2.2.2.2.2.1 C.2.2.2.2.2.2.2.1 C.2.2.2.2.2.2.2.2.1 C.2.2.2.2.2.2.2.2.2.1 C.2.2.2.2.2.2.2.2.2.2.1 C.2.2.2.2.2.2.2.2.2.2.2 = some o1 ∧
    fX2_take N Z.1 Z.2.1 Z.2.2.1 Z.2.2.2.1 Z.2.2.2.2.1 Z.2.2.2.2.2.1 Z.2.2.2.2.2.2.1 Z.2.2.2.2.2.2.2 Y.1 Y.2.1 Y.2.2.1 Y.2.2.2.1 Y.2.2.2.2.1 Y.2.2.2.2.2.1 Y.2.2.2.2.2.2.1 Y.2.2.2.2.2.2.2 = some o3 ∧ SNC c m k h o1 o3 := by
  obtain ⟨hC1, hC2, hk, x, hx, hxe, hH⟩ := hC
  have h12 := hB.1.1
  have h6 := hB.1.2.1
  have h5 := hB.1.2.2.1
  have hk8 := hB.2.2.1
  obtain ⟨o, l1, l2⟩ := h_take_L N (mb := Y.2.2.1) (mm := Y.2.2.2.1) (md := Y.2.2.2.2.1) (mi := Y.2.2.2.2.2.1) (mj := Y.2.2.2.2.2.2.1) (mf := Y.2.2.2.2.2.2.2) N 0 Z.2.2.1 Z.2.2.2.1 Z.2.2.2.2.1 Z.2.2.2.2.2.1 Z.2.2.2.2.2.2.1 Z.2.2.2.2.2.2.2 (by omega) (by omega) (fun i hi => absurd hi (Nat.not_lt_zero _))
  unfold fX0_take fX2_take fX3_take
  rw [show fX2_take_L2 N _ _ _ _ _ _ N 0 _ _ _ _ _ _ = _ from l1, bnd_s, bnd_s]
  refine ⟨_, _, rfl, rfl, ⟨hC1.1, hC1.2.1, hC1.2.2.1, hC1.2.2.2.1, fun p hp => ⟨(sb_cpy0 (by omega)).trans (hC1.2.2.2.2 p hp).1, (sb_cpy0 (by omega)).trans (hC1.2.2.2.2 p hp).2⟩⟩, cmo_take h12 h5 hC2, hk, x, hx, hxe, fun i hi => ?_⟩
  obtain ⟨a1, a2, a3, a4, a5⟩ := hH i hi
  obtain ⟨b1, b2, b3, b4, b5⟩ := l2 (hix x k i) (by unfold hix; omega)
  exact ⟨b1.trans a1, b2.trans a2, b3.trans a3, fun j hj => (b4 j (by omega)).trans (a4 j hj), fun j hj => ⟨(b5 j (by omega)).1.trans (a5 j hj).1, (b5 j (by omega)).2.trans (a5 j hj).2⟩⟩
theorem m_img_L (N : Nat) {row : Nat → Int32} : ∀ (n x : Nat), x ≤ 242 → 242 - x < n → fX8_image_L2 N n (nI x) (va_cpy row row 0 242 x) = some (nI 242, va_cpy row row 0 242 242) := by
  intro n
  induction n with
  | zero => intro x hx hn; omega
  | succ n ih =>
    intro x hx hn
    rw [fX8_image_L2]
    by_cases he : x = 242
    · subst he; exact (if_pos (show (242 : Int32) ≤ nI 242 by decide)).trans rfl
    · refine (if_neg (fun z => by have := (nle (a := 242) (by omega) (by omega)).mp z; omega)).trans ?_
      rw [ixb_nI (by omega), show (242 : Int32) + nI x = nI (242 + x) from nI_add 242 x, ixb_nI (by omega), n_s1]
      have := cpy_upd (row := row) (sp := 0) (dp := 242) (x := x) (by omega)
      rw [Nat.zero_add] at this
      rw [this]
      exact ih (x + 1) (by omega) (by omega)
theorem m_rst_L (N : Nat) {row : Nat → Int32} : ∀ (n x : Nat), x ≤ 242 → 242 - x < n → fX8_restore_L12 N n (nI x) (va_cpy row row 242 0 x) = some (nI 242, va_cpy row row 242 0 242) := by
  intro n
  induction n with
  | zero => intro x hx hn; omega
  | succ n ih =>
    intro x hx hn
    rw [fX8_restore_L12]
    by_cases he : x = 242
    · subst he; exact (if_pos (show (242 : Int32) ≤ nI 242 by decide)).trans rfl
    · refine (if_neg (fun z => by have := (nle (a := 242) (by omega) (by omega)).mp z; omega)).trans ?_
      rw [show (242 : Int32) + nI x = nI (242 + x) from nI_add 242 x, ixb_nI (by omega), ixb_nI (by omega), n_s1]
      have := cpy_upd (row := row) (sp := 242) (dp := 0) (x := x) (by omega)
      rw [Nat.zero_add] at this
      rw [this]
      exact ih (x + 1) (by omega) (by omega)
theorem sim_image (N : Nat) (hN : 1000 ≤ N) : Simimage N Rel := by
  intro S M hR
  obtain ⟨⟨c, m, k, h, hB, hC, hM⟩, hI, hT, hD, hZ⟩ := id hR
  obtain ⟨o1, o3, t1, t2, t3⟩ := take_sn N hN hB hC S.2.2.1 S.2.2.2.1
  have l := m_img_L N (row := M.2.2.2.2.2.2.2.2.2.1) N 0 (by omega) (by omega)
  rw [cpy0] at l
  unfold fX7_image fX8_image
  rw [t1, bnd_s, t2, bnd_s, show fX8_image_L2 N N 0 M.2.2.2.2.2.2.2.2.2.1 = _ from l, bnd_s]
  have e1 : ∀ q, q < 242 → va_cpy M.2.2.2.2.2.2.2.2.2.1 M.2.2.2.2.2.2.2.2.2.1 0 242 242 q = M.2.2.2.2.2.2.2.2.2.1 q := fun q hq => pk_cpy_out (by omega)
  have e2 : ∀ q, q < 242 → va_cpy M.2.2.2.2.2.2.2.2.2.1 M.2.2.2.2.2.2.2.2.2.1 0 242 242 (242 + q) = M.2.2.2.2.2.2.2.2.2.1 q := fun q hq => by rw [pk_cpy_in (by omega) (by omega)]; exact congrArg M.2.2.2.2.2.2.2.2.2.1 (by omega)
  exact ⟨_, _, rfl, rfl, rfl, ⟨c, m, k, h, hB, hC, snm_agree hB hM e1⟩, ⟨rfl, Or.inr ⟨rfl, ⟨c, m, k, h, hB, t3, snm_agree hB hM e2⟩⟩⟩, hT, hD, hZ⟩
theorem sim_restore (N : Nat) (hN : 1000 ≤ N) : Simrestore N Rel := by
  intro S M hR
  obtain ⟨hRC, hI, hT, hD, hZ⟩ := id hR
  obtain ⟨hI1, hI2⟩ := id hI
  unfold fX7_restore fX8_restore
  rcases hI2 with h0 | ⟨h1, c, m, k, h, hB, hC, hM⟩
  · exact ⟨_, _, if_pos h0, if_pos (hI1.symm.trans h0), rfl, hR⟩
  · have hne : ¬ S.2.2.2.2.1 = 0 := by rw [h1]; decide
    have hne2 : ¬ M.1 = 0 := by rw [← hI1, h1]; decide
    obtain ⟨o1, o3, t1, t2, t3⟩ := take_sn N hN hB hC S.1 S.2.1
    have l := m_rst_L N (row := M.2.2.2.2.2.2.2.2.2.1) N 0 (by omega) (by omega)
    rw [cpy0] at l
    rw [t1, bnd_s, t2, bnd_s, show fX8_restore_L12 N N 0 M.2.2.2.2.2.2.2.2.2.1 = _ from l, bnd_s]
    have e1 : ∀ q, q < 242 → va_cpy M.2.2.2.2.2.2.2.2.2.1 M.2.2.2.2.2.2.2.2.2.1 242 0 242 q = (fun j => M.2.2.2.2.2.2.2.2.2.1 (242 + j)) q := fun q hq => by rw [pk_cpy_in (by omega) (by omega)]; rfl
    exact ⟨_, _, if_neg hne, if_neg hne2, rfl, ⟨c, m, k, h, hB, t3, snm_agree hB hM e1⟩, hI.keep (fun j j1 j2 => pk_cpy_out (by omega)), hT, hD, hZ⟩
