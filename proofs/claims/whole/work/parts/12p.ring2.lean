/-! SIM ring -/
theorem fore_step2 (N : Nat) (hN : 1000 ≤ N) {c : AC} {C : BV_canal} {m : AM} {T : Nat} {boat minute draw : Int32} {ice juice fors row row' : Nat → Int32} (hB : CAB' c) (hC : CCA' c C) (hM : MCA' c row) (hb : MBD c.1 c.2.1 c.2.2.1 T m) (hT : T ≤ 20000) (hO : CMO c.1 c.2.2.1 m boat minute draw ice juice fors) (hO' : MOM c.1 c.2.2.1 484 m row') (e : ∀ q, q < 484 → row' q = row q) :
    ∃ x o r, fX0_mostRocking N C.2.1 C.2.2.1 C.2.2.2.2.1 C.2.2.2.2.2.1 minute juice fors = some x ∧ fX0_pass N C.1 C.2.1 C.2.2.1 C.2.2.2.1 C.2.2.2.2.1 C.2.2.2.2.2.1 boat minute ice juice fors x = some o ∧ fX8_nextAt N row' 484 = some x ∧ fX8_pass N row' 484 x = some r ∧ MBD c.1 c.2.1 c.2.2.1 (T + 1) (aG c m) ∧ CMO c.1 c.2.2.1 (aG c m) o.1 o.2.1 draw o.2.2.1 o.2.2.2 fors ∧ MOM c.1 c.2.2.1 484 (aG c m) r ∧ (∀ q, q < 484 → r q = row q) ∧ ∀ j, c.2.2.1 ≤ j → r (499 + j) = row' (499 + j) := by
  obtain ⟨f1, f2⟩ := fore_most N hN hB hC hM hb hT hO hO' e
  have hl : aNx (rok c.2.1 c.2.2.2.2.1 c.2.2.2.2.2 m.2.2.2.2.1 m.2.2.2.2.2 m.2.1) c.2.2.1 < 2 ^ 31 := by
    have := hB.2.2.1
    by_cases q : c.2.2.1 = 0
    · rw [q]; simp [aNx]
    · have := aNx_lt (rok c.2.1 c.2.2.2.2.1 c.2.2.2.2.2 m.2.2.2.2.1 m.2.2.2.2.2 m.2.1) c.2.2.1 (by omega); omega
  have hM' : MCA' c row' := mca_agree hB.2.1 hM (fun q h1 h2 => e q (by omega))
  obtain ⟨o, h1, h2⟩ := c_pass N hN hB hb hT hC hO _ hl
  obtain ⟨r, h3, h4, h5⟩ := m_pass2 N hN (base := 484) hB hb hT hM' (by omega) (by omega) hO' (aNx (rok c.2.1 c.2.2.2.2.1 c.2.2.2.2.2 m.2.2.2.2.1 m.2.2.2.2.2 m.2.1) c.2.2.1)
  exact ⟨_, o, r, f1, h1, f2, h3, aPass_bd hb, h2, h4, fun q hq => (h5 q (by omega)).trans (e q hq), fun j hj => h5 (499 + j) (by omega)⟩
def gI (c : AC) (m : AM) : Nat → AM
  | 0 => m
  | i + 1 => aG c (gI c m i)
theorem lg_cmp_z (a b : Int64) : lg_cmp a b = 0 ↔ a = b := by
  unfold lg_cmp
  by_cases h : a = b
  · subst h
    rw [if_neg (by simp [Int64.lt_iff_toInt_lt]), if_pos rfl]; simp
  · by_cases q : a > b
    · rw [if_pos q]; simp [h]
    · rw [if_neg q, if_neg h]; simp [h]
theorem like_L (N : Nat) (hN : 1000 ≤ N) {nc np ns T x : Nat} {g : Nat → AM} {row row0 seen : Nat → Int32} {marks : Nat → Int64} {y1 : Int32} (h12 : nc ≤ 12) (h5 : ns ≤ 5) (hx : x ≤ 200) (hm : ∀ i, i ≤ x → marks i = lN (amk nc ns (g i))) (hs : ∀ i, i ≤ x → SK nc ns row0 i (g i) seen) (hb : ∀ i, i ≤ x → MBD nc np ns T (g i)) : ∀ (n j : Nat), j ≤ x → x - j < n →
    (∃ k, k < x ∧ fX1_firstLike_L2 N (nI x) marks n (nI j) = some (.inl (nI k)) ∧ fX8_ring_L51 N y1 (nI x) row seen n (nI j) = some (.inl (if y1 = 0 then nI x else nI x - nI k, row, seen))) ∨ (fX1_firstLike_L2 N (nI x) marks n (nI j) = some (.inr (nI x)) ∧ fX8_ring_L51 N y1 (nI x) row seen n (nI j) = some (.inr (nI x))) := by
  intro n
  induction n with
  | zero => intro j h1 h2; omega
  | succ n ih =>
    intro j h1 h2
    rw [fX1_firstLike_L2, fX8_ring_L51]
    by_cases he : j = x
    · subst he
      have q : nI j ≤ nI j := (nle (by omega) (by omega)).mpr (Nat.le_refl _)
      exact Or.inr ⟨if_pos q, if_pos q⟩
    · have q : ¬ nI x ≤ nI j := fun z => by have := (nle (by omega) (by omega)).mp z; omega
      obtain ⟨t, t1, t2⟩ := m_alike N hN (a := j) (b := x) (seen := seen) (by omega) (by omega)
      rw [if_neg q, if_neg q, ixb_nI (by omega), ixb_nI (by omega), t1, bnd_s, ite_b2i, n_s1]
      have key : lg_cmp (marks j) (marks x) = 0 ↔ t = true := by
        rw [lg_cmp_z, hm j h1, hm x (Nat.le_refl _), lN_eq' (amk_lt h12 h5 (hb j h1)) (amk_lt h12 h5 (hb x (Nat.le_refl _))), amk_eq h12 h5 (hb j h1) (hb x (Nat.le_refl _)), t2, sk_eq h12 (hb j h1) (hb x (Nat.le_refl _)) (hs j h1) (hs x (Nat.le_refl _)) h5]
      by_cases qt : t = true
      · rw [if_pos (key.mpr qt), if_pos qt]
        refine Or.inl ⟨j, by omega, rfl, ?_⟩
        by_cases qy : y1 = 0
        · rw [if_pos qy, if_pos qy]
        · rw [if_neg qy, if_neg qy]
      · rw [if_neg (fun z => qt (key.mp z)), if_neg qt]
        exact ih (j + 1) (by omega) (by omega)
theorem like_b (N : Nat) (hN : 1000 ≤ N) {nc np ns T x : Nat} {g : Nat → AM} {row row0 seen : Nat → Int32} {marks : Nat → Int64} {y1 : Int32} (h12 : nc ≤ 12) (h5 : ns ≤ 5) (hx : x ≤ 200) (hm : ∀ i, i ≤ x → marks i = lN (amk nc ns (g i))) (hs : ∀ i, i ≤ x → SK nc ns row0 i (g i) seen) (hb : ∀ i, i ≤ x → MBD nc np ns T (g i)) :
    (∃ k, k < x ∧ fX1_firstLike N marks (nI x) = some (nI k) ∧ fX8_ring_L51 N y1 (nI x) row seen N 0 = some (.inl (if y1 = 0 then nI x else nI x - nI k, row, seen))) ∨ (fX1_firstLike N marks (nI x) = some (nI x) ∧ fX8_ring_L51 N y1 (nI x) row seen N 0 = some (.inr (nI x))) := by
  unfold fX1_firstLike
  rcases like_L N hN (row := row) (y1 := y1) h12 h5 hx hm hs hb N 0 (by omega) (by omega) with ⟨k, k1, k2, k3⟩ | ⟨k2, k3⟩
  · exact Or.inl ⟨k, k1, by rw [show (0 : Int32) = nI 0 from rfl, k2]; rfl, k3⟩
  · exact Or.inr ⟨by rw [show (0 : Int32) = nI 0 from rfl, k2]; rfl, k3⟩
theorem updL_s {f : Nat → Int64} {k : Nat} {x : Int64} : vp_updL f k x k = x := if_pos rfl
theorem updL_n {f : Nat → Int64} {k j : Nat} {x : Int64} (h : j ≠ k) : vp_updL f k x j = f j := if_neg h
theorem ring_L (N : Nat) (hN : 1000 ≤ N) {c : AC} {C : BV_canal} {row : Nat → Int32} (hB : CAB' c) (hC : CCA' c C) (hM : MCA' c row) {draw : Int32} {fors : Nat → Int32} {m : AM} (hb0 : MBD c.1 c.2.1 c.2.2.1 9999 m) {y1 : Int32} : ∀ (n y : Nat) (boat minute : Int32) (ice juice row' seen : Nat → Int32) (marks : Nat → Int64), y ≤ 200 → 200 - y < n → (∀ i, i ≤ y → MBD c.1 c.2.1 c.2.2.1 (9999 + y) (gI c m i)) → CMO c.1 c.2.2.1 (gI c m y) boat minute draw ice juice fors → MOM c.1 c.2.2.1 484 (gI c m y) row' → (∀ q, q < 484 → row' q = row q) → (∀ j, c.2.2.1 ≤ j → j < 5 → row' (499 + j) = row (15 + j)) → (∀ i, i ≤ y → marks i = lN (amk c.1 c.2.2.1 (gI c m i))) → (∀ i, i ≤ y → SK c.1 c.2.2.1 row i (gI c m i) seen) →
    ∃ o o', fX1_ringEnd_L24 N draw fors C.1 C.2.1 C.2.2.1 C.2.2.2.1 C.2.2.2.2.1 C.2.2.2.2.2.1 n (nI (y + 1)) boat minute ice juice marks = some o ∧ fX8_ring_L23 N y1 n (nI (y + 1)) row' seen = some o' ∧ ((∃ u v x k, o = .inl u ∧ o' = .inl v ∧ x ≤ 200 ∧ u.1 = nI x ∧ fX1_firstLike N u.2.2.2.2.2.2.2 (nI x) = some (nI k) ∧ v.1 = (if y1 = 0 then nI x else nI x - nI k) ∧ ∀ q, q < 484 → v.2.1 q = row q) ∨ (∃ u v, o = .inr u ∧ o' = .inr v ∧ ∀ q, q < 484 → v.2.1 q = row q)) := by
  intro n
  induction n with
  | zero => intro y boat minute ice juice row' seen marks h1 h2; omega
  | succ n ih =>
    intro y boat minute ice juice row' seen marks h1 h2 hb hO hO' e e5 hm hs
    rw [fX1_ringEnd_L24, fX8_ring_L23]
    have h12 := hB.1
    have h5 := hB.2.2.1
    by_cases he : y = 200
    · subst he
      exact ⟨_, _, if_pos (show (200 : Int32) < nI (200 + 1) by decide), if_pos (show (201 : Int32) ≤ nI (200 + 1) by decide), Or.inr ⟨_, _, rfl, rfl, e⟩⟩
    · have q1 : ¬ (200 : Int32) < nI (y + 1) := fun z => by have := (nlt (a := 200) (by omega) (by omega)).mp z; omega
      have q2 : ¬ (201 : Int32) ≤ nI (y + 1) := fun z => by have := (nle (a := 201) (by omega) (by omega)).mp z; omega
      obtain ⟨x, o, r, f1, f2, f3, f4, f5, f6, f7, f8, f9⟩ := fore_step2 N hN hB hC hM (hb y (Nat.le_refl _)) (by omega) hO hO' e
      have ek := c_mark N hN h12 h5 (by omega) f5 f6
      have e5' : ∀ j, c.2.2.1 ≤ j → j < 5 → r (499 + j) = row (15 + j) := fun j j1 j2 => (f9 j j1).trans (e5 j j1 j2)
      obtain ⟨sn, s1, s2, s3⟩ := m_see N hN (i := y + 1) (seen := seen) (row0 := row) h12 h5 (show 9999 + y + 1 ≤ 20000 by omega) (by omega) f5 ((f8 26 (by omega)).trans hM.2.1) f7 e5'
      have hb' : ∀ i, i ≤ y + 1 → MBD c.1 c.2.1 c.2.2.1 (9999 + (y + 1)) (gI c m i) := by
        intro i hi
        by_cases qi : i = y + 1
        · subst qi; exact f5
        · have := hb i (by omega); exact ⟨this.1, by have := this.2.1; omega, this.2.2⟩
      have hm' : ∀ i, i ≤ y + 1 → vp_updL marks (y + 1) (lN (amk c.1 c.2.2.1 (aG c (gI c m y)))) i = lN (amk c.1 c.2.2.1 (gI c m i)) := by
        intro i hi
        by_cases qi : i = y + 1
        · subst qi; rw [updL_s]; rfl
        · rw [updL_n qi]; exact hm i (by omega)
      have hs' : ∀ i, i ≤ y + 1 → SK c.1 c.2.2.1 row i (gI c m i) sn := by
        intro i hi
        by_cases qi : i = y + 1
        · subst qi; exact s2
        · obtain ⟨a1, a2, a3⟩ := hs i (by omega)
          exact ⟨(s3 _ (by omega)).trans a1, (s3 _ (by omega)).trans a2, fun j hj => (s3 _ (by omega)).trans (a3 j hj)⟩
      rw [if_neg q1, if_neg q2, f1, bnd_s, f2, bnd_s, f3, bnd_s, f4, bnd_s, show fX1_mark N o.1 o.2.1 o.2.2.1 o.2.2.2 C.1 C.2.2.1 = some (lN (amk c.1 c.2.2.1 (aG c (gI c m y)))) by rw [hC.1, hC.2.2.1]; exact ek, bnd_s, ixb_nI (by omega), s1, bnd_s]
      rcases like_b N hN (row := r) (y1 := y1) h12 h5 (show y + 1 ≤ 200 by omega) hm' hs' hb' with ⟨k, k1, k2, k3⟩ | ⟨k2, k3⟩
      · rw [k2, bnd_s, k3, bnd_s, if_neg (fun z => by have := (nle (by omega) (by omega)).mp z; omega)]
        exact ⟨_, _, rfl, rfl, Or.inl ⟨_, _, y + 1, k, rfl, rfl, by omega, rfl, k2, rfl, f8⟩⟩
      · rw [k2, bnd_s, k3, bnd_s, if_pos ((nle (by omega) (by omega)).mpr (Nat.le_refl _)), n_s1]
        exact ih (y + 1) _ _ _ _ _ _ _ (by omega) (by omega) hb' f6 f7 f8 e5' hm' hs'
theorem sim_ring (N : Nat) (hN : 1000 ≤ N) : Simring N Rel := by
  intro S M y0 hR
  obtain ⟨⟨c, m, k, h, hB, hC, hM⟩, hI, hT, hD, hZ⟩ := id hR
  have h12 := hB.1.1
  have h5 := hB.1.2.2.1
  have hO := cmo_take h12 h5 hC.2.1 (i2 := S.2.2.2.2.2.2.2.1.2.2.2.1) (j2 := S.2.2.2.2.2.2.2.1.2.2.2.2.1) (f2 := S.2.2.2.2.2.2.2.1.2.2.2.2.2.1)
  have hO' := lay_mom h12 h5 hM.2.1
  have e5 : ∀ j, c.2.2.1 ≤ j → j < 5 → va_cpy M.2.2.2.2.2.2.2.2.2.1 M.2.2.2.2.2.2.2.2.2.1 0 484 41 (499 + j) = M.2.2.2.2.2.2.2.2.2.1 (15 + j) := fun j _ hj => by rw [pk_cpy_in (by omega) (by omega)]; exact congrArg M.2.2.2.2.2.2.2.2.2.1 (by omega)
  have ek := c_mark N hN h12 h5 (by omega) hB.2.1 hO
  obtain ⟨sn, s1, s2, s3⟩ := m_see N hN (i := 0) (seen := M.2.2.2.2.2.2.2.2.2.2.2.2.2.2.2.2.2.2.2.1) (row0 := M.2.2.2.2.2.2.2.2.2.1) h12 h5 (show 9999 ≤ 20000 by omega) (by omega) hB.2.1 ((lay_low 26 (by omega)).trans hM.1.2.1) hO' e5
  obtain ⟨o, o', g1, g2, g3⟩ := ring_L N hN (C := S.1) (row := M.2.2.2.2.2.2.2.2.2.1) hB.1 hC.1 hM.1 hB.2.1 (y1 := y0) N 0 _ _ _ _ _ sn (vp_updL S.2.2.2.2.2.2.2.1.2.2.2.2.2.2 0 (lN (amk c.1 c.2.2.1 m))) (by omega) (by omega) (fun i hi => by rw [show i = 0 by omega]; exact hB.2.1) hO hO' lay_low e5 (fun i hi => by rw [show i = 0 by omega, updL_s]; rfl) (fun i hi => by rw [show i = 0 by omega]; exact s2)
  unfold fX7_ring fX8_ring fX1_ringEnd fX3_take
  rw [c_within, m_in32, m_lay N hN]
  simp only [bnd_s, ite_b2i, L64, L32, decide_eq_true_eq]
  by_cases hy : 0 ≤ y0.toInt ∧ y0.toInt ≤ 1
  · rw [if_pos hy, if_pos hy, show fX8_see N _ _ 0 = _ from s1, bnd_s, show fX8_ring_L23 N y0 N 1 _ _ = _ from g2, bnd_s, show fX1_mark N S.1.2.2.2.2.2.2.1 S.1.2.2.2.2.2.2.2.1 _ _ S.1.1 S.1.2.2.1 = some (lN (amk c.1 c.2.2.1 m)) by rw [show S.1.1 = nI c.1 from hC.1.1, show S.1.2.2.1 = nI c.2.2.1 from hC.1.2.2.1]; exact ek, bnd_s, show fX1_ringEnd_L24 N _ _ _ _ _ _ _ _ N 1 _ _ _ _ _ = _ from g1, bnd_s]
    rcases g3 with ⟨u, v, x, k2, rfl, rfl, x1, x2, x3, x4, x5⟩ | ⟨u, v, rfl, rfl, x5⟩
    · have fin : RC S.1 S.2.1 v.2.1 ∧ RI S.2.2.1 S.2.2.2.1 S.2.2.2.2.1 M.1 v.2.1 := ⟨⟨c, m, k, h, hB, hC, snm_agree hB hM (fun q hq => x5 q (by omega))⟩, hI.keep (fun j h1 h2 => x5 j h2)⟩
      have hne : ¬ u.1 = -4 := by rw [x2]; exact n_ne4 (by omega)
      have el : (lret (Sum.inl u) fun v18 : Int32 × Int32 × Int32 × (Nat → Int32) × (Nat → Int32) × (Nat → Int64) => some ((-4 : Int32), v18.2.1, v18.2.2.1, S.1.2.2.2.2.2.2.2.2.1, v18.2.2.2.1, v18.2.2.2.2.1, va_cpy S.1.2.2.2.2.2.2.2.2.2.2.2 S.2.2.2.2.2.2.2.1.2.2.2.2.2.1 0 0 5, v18.2.2.2.2.2)) = some u := rfl
      rw [el, bnd_s, if_neg hne]
      by_cases q : y0 = 0
      · rw [if_pos q]
        exact ⟨_, _, rfl, rfl, by rw [if_pos q] at x4; exact x2.trans x4.symm, fin.1, fin.2, hT, hD, hZ⟩
      · rw [if_neg q, show fX1_firstLike N u.2.2.2.2.2.2.2 u.1 = some (nI k2) by rw [x2]; exact x3, bnd_s]
        exact ⟨_, _, rfl, rfl, by rw [if_neg q] at x4; rw [x2]; exact x4.symm, fin.1, fin.2, hT, hD, hZ⟩
    · have fin : RC S.1 S.2.1 v.2.1 ∧ RI S.2.2.1 S.2.2.2.1 S.2.2.2.2.1 M.1 v.2.1 := ⟨⟨c, m, k, h, hB, hC, snm_agree hB hM (fun q hq => x5 q (by omega))⟩, hI.keep (fun j h1 h2 => x5 j h2)⟩
      exact ⟨_, _, rfl, rfl, rfl, fin.1, fin.2, hT, hD, hZ⟩
  · rw [if_neg hy, if_neg hy]; exact ⟨_, _, rfl, rfl, rfl, hR⟩
