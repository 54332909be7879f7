/-! PURE: the end of the text, and the whole of it, both in step -/
def ENDR (N : Nat) (tl : Nat) (ch : Nat → Nat) (T : Nat → Int32) (np q : Nat) (nu' : Int32) (rs : Nat → Int32) (ju fo : Nat → Int32) (o : Int32 × Int32 × Int32 × Int32 × (Nat → Int32) × (Nat → Int32)) : Prop :=
  (¬ hit tl ch q 59 = true ∧ ((sk tl ch q = tl ∧ ∃ nu, o = (1, nI tl, nu, 0, ju, fo)) ∨ (sk tl ch q ≠ tl ∧ o.1 = 0 ∧ o.2.1 = nI (sk tl ch q)))) ∨
  (hit tl ch q 59 = true ∧ ∃ r', (bnd (fX8_readsSaying N (nI tl) (nI (sk tl ch (sk tl ch q + 1))) nu' (nI np) 0 T rs) fun o => fX8_reads_L133 N (nI tl) (nI np) T N o.1 o.2.1 o.2.2.1 o.2.2.2.1 o.2.2.2.2) = some r' ∧
    ((∃ b, b ≤ tl ∧ o.1 = 0 ∧ o.2.1 = nI b ∧ r'.2.1 = nI b ∧ (r'.1 = 0 ∨ (r'.1 = 1 ∧ b ≠ tl))) ∨
     (∃ ns nu nu' ju' fo' rs', 1 ≤ ns ∧ ns ≤ 5 ∧ o = (1, nI tl, nu, nI ns, ju', fo') ∧ r' = (1, nI tl, nu', nI ns, rs') ∧ SAYD np ns ju' fo' rs')))
theorem end_co (N : Nat) (hN : 1000 ≤ N) {tl : Nat} {ch : Nat → Nat} {L T : Nat → Int32} (h : TP tl ch L T) {np q : Nat} (hnp : np ≤ 6) (hq : q ≤ tl) (nu nu' : Int32) (ju fo rs : Nat → Int32) :
    ∃ o, fX6_readEnd N (nI tl) (nI q) nu L (nI np) 0 ju fo = some o ∧ ENDR N tl ch T np q nu' rs ju fo o := by
  have h1 := h.1
  have hs := sk_le ch hq
  unfold fX6_readEnd
  by_cases qh : hit tl ch q 59 = true
  · have hq1 := hit_lt qh
    obtain ⟨r, r', e, e', hr⟩ := said_loop N hN h hnp N 0 (sk tl ch q + 1) nu nu' ju fo rs (by omega) (by omega) hq1 (fun j hj => absurd hj (Nat.not_lt_zero _))
    have e : fX6_readSayings_L2 N (nI tl) L (nI np) N 0 (nI (sk tl ch q + 1)) nu 0 ju fo = some r := e
    rw [show fX6_readLetter N (nI tl) (nI q) L 59 = _ from c_let_t N hN h hq (x := 59) (by omega) qh, bnd_s]
    dsimp only
    rw [if_neg i10]
    unfold fX6_readSayings
    rw [e, bnd_s]
    refine Exists.elim (show ∃ o, _ = some o ∧ _ from ?_) (fun o ho => ⟨o, ho.1, Or.inr ⟨qh, r', e', ho.2⟩⟩)
    rcases hr with ⟨b, z, hb, rfl, z3, z4⟩ | ⟨b, ns, x, nu1, nu2, ju', fo', rs', hb, hn1, hn2, rfl, rfl, hD⟩ | ⟨b, x, z, hd, rfl, z3, z4⟩ | ⟨b, z, hd, rfl, z3, z4⟩
    · unfold lret
      dsimp only
      rw [bnd_s]
      dsimp only
      rw [if_pos rfl]
      exact ⟨_, rfl, Or.inl ⟨b, hb, rfl, rfl, z4, Or.inl z3⟩⟩
    · unfold lret
      dsimp only
      rw [bnd_s]
      dsimp only
      rw [if_neg i10, c_sk N hN h hb, bnd_s]
      have hsb := sk_le ch hb
      by_cases y : sk tl ch b = tl
      · rw [if_pos (by rw [y])]
        exact ⟨_, rfl, Or.inr ⟨ns, _, _, _, _, _, hn1, hn2, by rw [y], by rw [y], hD⟩⟩
      · rw [if_neg (fun z => y ((neq (by omega) (by omega)).mp z))]
        exact ⟨_, rfl, Or.inl ⟨sk tl ch b, hsb, rfl, rfl, rfl, Or.inr ⟨rfl, y⟩⟩⟩
    · have hb : b ≤ tl := Nat.le_of_lt hd.1
      have := hd.1
      unfold lret
      dsimp only
      rw [bnd_s]
      dsimp only
      rw [if_neg i10, c_sk N hN h hb, bnd_s, dgt_sk hd, if_neg (fun z => by have := (neq (by omega) (by omega)).mp z; omega)]
      exact ⟨_, rfl, Or.inl ⟨b, hb, rfl, rfl, z4, Or.inl z3⟩⟩
    · have hb : b ≤ tl := Nat.le_of_lt hd.1
      have := hd.1
      unfold lret
      dsimp only
      rw [bnd_s]
      dsimp only
      rw [if_pos rfl]
      exact ⟨_, rfl, Or.inl ⟨b, hb, rfl, rfl, z4, Or.inr ⟨z3, by omega⟩⟩⟩
  · rw [show fX6_readLetter N (nI tl) (nI q) L 59 = _ from c_let_f N hN h hq (x := 59) (by omega) qh, bnd_s]
    dsimp only
    rw [if_pos rfl, c_sk N hN h hs, sk_sk, bnd_s]
    by_cases y : sk tl ch q = tl
    · rw [if_pos (by rw [y])]
      exact ⟨_, rfl, Or.inl ⟨qh, Or.inl ⟨y, _, by rw [y]⟩⟩⟩
    · rw [if_neg (fun z => y ((neq (by omega) (by omega)).mp z))]
      exact ⟨_, rfl, Or.inl ⟨qh, Or.inr ⟨y, rfl, rfl⟩⟩⟩
/-- the reference's end -/
def rdF (N : Nat) (l : Int32) (T rs : Nat → Int32) (nu cells : Int32) (ice : Nat → Int32) (o83 : Int32 × Int32 × Int32 × (Nat → Int32)) : Option (Int32 × Int32 × Int32 × Int32 × Int32 × Int32 × (Nat → Int32) × (Nat → Int32) × (Nat → Int32)) :=
  if o83.1 = 0 then
  if o83.1 = 0 then
  some (0, o83.2.1, nu, cells, o83.2.2.1, 0, ice, o83.2.2.2, rs)
  else
  if o83.2.1 = l then
  some (1, o83.2.1, nu, cells, o83.2.2.1, 0, ice, o83.2.2.2, rs)
  else
  some (0, o83.2.1, nu, cells, o83.2.2.1, 0, ice, o83.2.2.2, rs)
  else
  bnd (fX8_sign N l o83.2.1 T 59) fun o88 =>
  if o88.1 = 0 then
  if o83.1 = 0 then
  some (0, o88.2, nu, cells, o83.2.2.1, 0, ice, o83.2.2.2, rs)
  else
  if o88.2 = l then
  some (1, o88.2, nu, cells, o83.2.2.1, 0, ice, o83.2.2.2, rs)
  else
  some (0, o88.2, nu, cells, o83.2.2.1, 0, ice, o83.2.2.2, rs)
  else
  bnd (fX8_readsSaying N l o88.2 nu o83.2.2.1 0 T rs) fun o93 =>
  bnd (fX8_reads_L133 N l o83.2.2.1 T N o93.1 o93.2.1 o93.2.2.1 o93.2.2.2.1 o93.2.2.2.2) fun o95 =>
  if o95.1 = 0 then
  some (0, o95.2.1, o95.2.2.1, cells, o83.2.2.1, o95.2.2.2.1, ice, o83.2.2.2, o95.2.2.2.2)
  else
  if o95.2.1 = l then
  some (1, o95.2.1, o95.2.2.1, cells, o83.2.2.1, o95.2.2.2.1, ice, o83.2.2.2, o95.2.2.2.2)
  else
  some (0, o95.2.1, o95.2.2.1, cells, o83.2.2.1, o95.2.2.2.1, ice, o83.2.2.2, o95.2.2.2.2)
theorem reads_eq (N : Nat) (l a nu mc mm ms : Int32) (T rice rp rs : Nat → Int32) : fX8_reads N l a nu mc mm ms T rice rp rs = 
    bnd (fX8_skip N l 0 T) fun o1 =>
    bnd (fX8_readsCell N l o1 nu 0 T rice) fun o3 =>
    bnd (fX8_reads_L29 N l T N o3.1 o3.2.1 o3.2.2.1 o3.2.2.2.1 o3.2.2.2.2) fun o12 =>
    if o12.1 = 0 then
    bnd (fX8_reads_L85 N l T N 0 o12.2.1 0 rp) (rdF N l T rs o12.2.2.1 o12.2.2.2.1 o12.2.2.2.2)
    else
    bnd (fX8_sign N l o12.2.1 T 59) fun o45 =>
    if o45.1 = 0 then
    bnd (fX8_reads_L85 N l T N 0 o45.2 0 rp) (rdF N l T rs o12.2.2.1 o12.2.2.2.1 o12.2.2.2.2)
    else
    bnd (fX8_readsPerson N l o45.2 0 T rp) fun o64 =>
    if o64.1 = 0 then
    bnd (fX8_reads_L85 N l T N 0 o64.2.1 o64.2.2.1 o64.2.2.2) (rdF N l T rs o12.2.2.1 o12.2.2.2.1 o12.2.2.2.2)
    else
    bnd (fX8_reads_L85 N l T N 1 o64.2.1 o64.2.2.1 o64.2.2.2) (rdF N l T rs o12.2.2.1 o12.2.2.2.1 o12.2.2.2.2) := rfl
theorem rd0 (N : Nat) {l : Int32} {T rs : Nat → Int32} {nu cells : Int32} {ice : Nat → Int32} {o : Int32 × Int32 × Int32 × (Nat → Int32)} (e : o.1 = 0) : rdF N l T rs nu cells ice o = some (0, o.2.1, nu, cells, o.2.2.1, 0, ice, o.2.2.2, rs) := by
  unfold rdF; rw [if_pos e, if_pos e]
theorem l85_0 (N : Nat) (hN : 1000 ≤ N) {l a many : Int32} {T rp : Nat → Int32} : fX8_reads_L85 N l T N 0 a many rp = some (0, a, many, rp) := by
  obtain ⟨n, rfl⟩ : ∃ n, N = n + 1 := ⟨N - 1, by omega⟩
  rw [fX8_reads_L85, if_pos rfl]
def REAR (tl : Nat) (C : BV_canal) (bo mi : Int32) (o : Int32 × Int32 × Int32 × Int32 × Int32 × Int32 × Int32 × (Nat → Int32) × (Nat → Int32) × Int32 × (Nat → Int32) × (Nat → Int32) × (Nat → Int32) × BV_canal) (o' : Int32 × Int32 × Int32 × Int32 × Int32 × Int32 × (Nat → Int32) × (Nat → Int32) × (Nat → Int32)) : Prop :=
  (∃ q, q ≤ tl ∧ o.1 = -20 - nI q ∧ o.2.2.2.2.2.2.2.2.2.2.2.2.2 = C ∧ o'.1 = 0 ∧ o'.2.1 = nI q) ∨
  (∃ nc np ns ice kind weight ju fo rice rp rs, 1 ≤ nc ∧ nc ≤ 12 ∧ np ≤ 6 ∧ ns ≤ 5 ∧ CELLD nc ice rice ∧ PERD np kind weight rp ∧ SAYD np ns ju fo rs ∧ o.1 = nI nc ∧
    o.2.2.2.2.2.2.2.2.2.2.2.2.2 = (nI nc, nI np, nI ns, C.2.2.2.1, va_cpy kind C.2.2.2.2.1 0 0 6, va_cpy weight C.2.2.2.2.2.1 0 0 6, bo, mi, C.2.2.2.2.2.2.2.2.1, va_cpy ice C.2.2.2.2.2.2.2.2.2.1 0 0 12, va_cpy ju C.2.2.2.2.2.2.2.2.2.2.1 0 0 5, va_cpy fo C.2.2.2.2.2.2.2.2.2.2.2 0 0 5) ∧
    o'.1 = 1 ∧ o'.2.2.2.1 = nI nc ∧ o'.2.2.2.2.1 = nI np ∧ o'.2.2.2.2.2.1 = nI ns ∧ o'.2.2.2.2.2.2.1 = rice ∧ o'.2.2.2.2.2.2.2.1 = rp ∧ o'.2.2.2.2.2.2.2.2 = rs)
theorem reads_co (N : Nat) (hN : 1000 ≤ N) {tl : Nat} {ch : Nat → Nat} {L T : Nat → Int32} (h : TP tl ch L T) (pl nu rc rpe rsa rfr : Int32) (kind weight : Nat → Int32) (bo mi dr : Int32) (ice ju fo : Nat → Int32) (C : BV_canal) (a nu' mc mm ms : Int32) (rice rp rs : Nat → Int32) :
    ∃ o o', fX6_readInto N (nI tl) pl nu L rc rpe rsa rfr kind weight bo mi dr ice ju fo C.1 C.2.1 C.2.2.1 C.2.2.2.1 C.2.2.2.2.1 C.2.2.2.2.2.1 C.2.2.2.2.2.2.1 C.2.2.2.2.2.2.2.1 C.2.2.2.2.2.2.2.2.1 C.2.2.2.2.2.2.2.2.2.1 C.2.2.2.2.2.2.2.2.2.2.1 C.2.2.2.2.2.2.2.2.2.2.2 = some o ∧ fX8_reads N (nI tl) a nu' mc mm ms T rice rp rs = some o' ∧ REAR tl C bo mi o o' := by
  have h1 := h.1
  obtain ⟨o1, r1, e1, e1', c1⟩ := cells_co N hN h nu nu' ice rice
  obtain ⟨o3, e3, e12⟩ := bnd_some e1'
  rw [reads_eq, show fX8_skip N (nI tl) 0 T = _ from m_sk N hN h (Nat.zero_le tl), bnd_s, e3, bnd_s, e12, bnd_s]
  unfold fX6_readInto
  rw [e1, bnd_s]
  rcases c1 with ⟨q, hq, z1, z2, z3, z4⟩ | ⟨q, nc, nu1, nu2, ice1, rice1, hq, hn1, hn2, hD, rfl, hx⟩
  · rw [if_pos z1, if_pos z3, l85_0 N hN, bnd_s, rd0 N rfl]
    exact ⟨_, _, rfl, rfl, Or.inl ⟨q, hq, by rw [z2], rfl, rfl, z4⟩⟩
  · have hs := sk_le ch hq
    dsimp only
    rw [if_neg i10]
    rcases hx with ⟨qh, rfl⟩ | ⟨qh, z1, z2⟩
    · have hq1 := hit_lt qh
      rw [show fX8_sign N (nI tl) (nI (sk tl ch q)) T 59 = _ from m_sign_t N hN h hq (x := 59) (by omega) qh, bnd_s]
      dsimp only
      rw [if_neg i10, if_neg i10]
      obtain ⟨o2, r2, e2, e2', c2⟩ := people_co N hN h hq1 kind weight rp
      obtain ⟨o4, e4, e5⟩ := bnd_some e2'
      rw [e2, bnd_s, e4, bnd_s]
      have key : ∀ G : Int32 × Int32 × Int32 × (Nat → Int32) → Option (Int32 × Int32 × Int32 × Int32 × Int32 × Int32 × (Nat → Int32) × (Nat → Int32) × (Nat → Int32)), (if o4.1 = 0 then bnd (fX8_reads_L85 N (nI tl) T N 0 o4.2.1 o4.2.2.1 o4.2.2.2) G else bnd (fX8_reads_L85 N (nI tl) T N 1 o4.2.1 o4.2.2.1 o4.2.2.2) G) = G r2 := by
        intro G
        by_cases y : o4.1 = 0
        · rw [if_pos y] at e5 ⊢; rw [e5, bnd_s]
        · rw [if_neg y] at e5 ⊢; rw [e5, bnd_s]
      rw [key]
      rcases c2 with ⟨p, hp, z1, z2, z3, z4⟩ | ⟨p, np, kind1, weight1, rp1, hp, hp1, hp2, rfl, rfl, hP⟩
      · rw [if_pos z1, rd0 N z3]
        exact ⟨_, _, rfl, rfl, Or.inl ⟨p, hp, by rw [z2], rfl, rfl, z4⟩⟩
      · dsimp only
        rw [if_neg i10]
        obtain ⟨o7, e7, c7⟩ := end_co N hN h hp2 hp nu1 nu2 ju fo rs
        rw [e7, bnd_s]
        unfold rdF
        dsimp only
        rw [if_neg i10]
        have hsp := sk_le ch hp
        rcases c7 with ⟨qe, c7⟩ | ⟨qe, r7, e8, c7⟩
        · rw [show fX8_sign N (nI tl) (nI (sk tl ch p)) T 59 = _ from m_sign_f N hN h hp (x := 59) (by omega) qe, bnd_s]
          dsimp only
          rw [if_pos rfl, if_neg i10]
          rcases c7 with ⟨y, nu3, rfl⟩ | ⟨y, z1, z2⟩
          · dsimp only
            rw [if_neg i10, if_pos (by rw [y])]
            exact ⟨_, _, rfl, rfl, Or.inr ⟨nc, np, 0, ice1, kind1, weight1, ju, fo, rice1, rp1, rs, hn1, hn2, hp2, by omega, hD, hP, fun j hj => absurd hj (Nat.not_lt_zero _), rfl, rfl, rfl, rfl, rfl, rfl, rfl, rfl, rfl⟩⟩
          · rw [if_pos z1, if_neg (fun z => y ((neq (by omega) (by omega)).mp z))]
            exact ⟨_, _, rfl, rfl, Or.inl ⟨sk tl ch p, hsp, by rw [z2], rfl, rfl, rfl⟩⟩
        · obtain ⟨o9, e9, e10⟩ := bnd_some e8
          rw [show fX8_sign N (nI tl) (nI (sk tl ch p)) T 59 = _ from m_sign_t N hN h hp (x := 59) (by omega) qe, bnd_s]
          dsimp only
          rw [if_neg i10, e9, bnd_s, e10, bnd_s]
          rcases c7 with ⟨b, hb, z1, z2, z3, z4⟩ | ⟨ns, nu3, nu4, ju1, fo1, rs1, hs1, hs2, rfl, rfl, hS⟩
          · rw [if_pos z1]
            rcases z4 with z4 | ⟨z4, z5⟩
            · rw [if_pos z4]
              exact ⟨_, _, rfl, rfl, Or.inl ⟨b, hb, by rw [z2], rfl, rfl, z3⟩⟩
            · rw [if_neg (by rw [z4]; exact i10), z3, if_neg (fun z => z5 ((neq (by omega) (by omega)).mp z))]
              exact ⟨_, _, rfl, rfl, Or.inl ⟨b, hb, by rw [z2], rfl, rfl, rfl⟩⟩
          · dsimp only
            rw [if_neg i10, if_neg i10, if_pos rfl]
            exact ⟨_, _, rfl, rfl, Or.inr ⟨nc, np, ns, ice1, kind1, weight1, ju1, fo1, rice1, rp1, rs1, hn1, hn2, hp2, hs2, hD, hP, hS, rfl, rfl, rfl, rfl, rfl, rfl, rfl, rfl, rfl⟩⟩
    · rw [if_pos z1, show fX8_sign N (nI tl) (nI (sk tl ch q)) T 59 = _ from m_sign_f N hN h hq (x := 59) (by omega) qh, bnd_s]
      dsimp only
      rw [if_pos rfl, l85_0 N hN, bnd_s, rd0 N rfl]
      exact ⟨_, _, rfl, rfl, Or.inl ⟨sk tl ch q, hs, by rw [z2], rfl, rfl, rfl⟩⟩
