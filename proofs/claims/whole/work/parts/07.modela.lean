abbrev rmX8_in : Room := { frames := 0, cells := 0, slots := 0, locals := 0 }
def fX8_in (N : Nat)  (x0 : Int64) (x2 : Int64) (x4 : Int64) : Option (Int32) :=
  if (lg_cmp x0 x2) < 0 then
  some (0)
  else
  if 0 < (lg_cmp x0 x4) then
  some (0)
  else
  some (1)
set_option maxHeartbeats 4000000 in
set_option maxRecDepth 100000 in
theorem ctX8_in (l : Launch) (E : Ev) (N : Nat)   (x0 : Int64) (x2 : Int64) (x4 : Int64) (out : Int32) (hf : fX8_in N  x0 x2 x4 = some out) : Ct l E yX8_in cX8_in 6 (some .boolean) rmX8_in [.long x0, .long x2, .long x4] [] (Pe (some (.int out)) []) := by
  refine Ct.of rfl (Nat.le_of_ble_eq_true rfl) (fun K hL k r hin => ?_)
  subst hL
  unfold fX8_in at hf
  show G E K 6 0 0 [(0, .long x0), (2, .long x2), (4, .long x4)] [] [] 0
  refine g_lload_n k 0 dX8_in_0 rfl rfl ?_
  refine g_lload_n k 1 dX8_in_1 rfl rfl ?_
  refine g_lcmp k dX8_in_2 ?_
  refine g_if_lt k (tgt := 17) dX8_in_3 (by decide) (fun c1 => ?_) (fun c1 => ?_)
  · replace hf := ite_t c1 hf
    refine g_iconst k dX8_in_17 ic_0 ?_
    obtain rfl := Option.some.inj hf
    exact g_zret k (rfl) r dX8_in_18 ⟨rfl, rfl⟩
  · replace hf := ite_f c1 hf
    refine g_lload_n k 0 dX8_in_6 rfl rfl ?_
    refine g_lload k 2 dX8_in_7 rfl ?_
    refine g_lcmp k dX8_in_9 ?_
    refine g_if_gt k (tgt := 17) dX8_in_10 (by decide) (fun c2 => ?_) (fun c2 => ?_)
    · replace hf := ite_t c2 hf
      refine g_iconst k dX8_in_17 ic_0 ?_
      obtain rfl := Option.some.inj hf
      exact g_zret k (rfl) r dX8_in_18 ⟨rfl, rfl⟩
    · replace hf := ite_f c2 hf
      refine g_iconst k dX8_in_13 ic_1 ?_
      refine g_goto k (tgt := 18) dX8_in_14 (by decide) ?_
      obtain rfl := Option.some.inj hf
      exact g_zret k (rfl) r dX8_in_18 ⟨rfl, rfl⟩
abbrev rmX8_has : Room := { frames := 0, cells := 0, slots := 0, locals := 0 }
def fX8_has (N : Nat)  (x0 : Int32) (x1 : Int32) : Option (Int32) :=
  if ((x0 >>> (x1 &&& 31)) &&& 1) = 1 then
  some (1)
  else
  some (0)
set_option maxHeartbeats 4000000 in
set_option maxRecDepth 100000 in
theorem ctX8_has (l : Launch) (E : Ev) (N : Nat)   (x0 : Int32) (x1 : Int32) (out : Int32) (hf : fX8_has N  x0 x1 = some out) : Ct l E yX8_has cX8_has 2 (some .boolean) rmX8_has [.int x0, .int x1] [] (Pe (some (.int out)) []) := by
  refine Ct.of rfl (Nat.le_of_ble_eq_true rfl) (fun K hL k r hin => ?_)
  subst hL
  unfold fX8_has at hf
  show G E K 2 0 0 [(0, .int x0), (1, .int x1)] [] [] 0
  refine g_iload_n k 0 dX8_has_0 rfl rfl ?_
  refine g_iload_n k 1 dX8_has_1 rfl rfl ?_
  refine g_ishr k dX8_has_2 ?_
  refine g_iconst k dX8_has_3 ic_1 ?_
  refine g_iand k dX8_has_4 ?_
  refine g_iconst k dX8_has_5 ic_1 ?_
  refine g_icmp_ne k (tgt := 13) dX8_has_6 (by decide) (fun c1 => ?_) (fun c1 => ?_)
  · replace hf := ite_f c1 hf
    refine g_iconst k dX8_has_13 ic_0 ?_
    obtain rfl := Option.some.inj hf
    exact g_zret k (rfl) r dX8_has_14 ⟨rfl, rfl⟩
  · replace hf := ite_t c1 hf
    refine g_iconst k dX8_has_9 ic_1 ?_
    refine g_goto k (tgt := 14) dX8_has_10 (by decide) ?_
    obtain rfl := Option.some.inj hf
    exact g_zret k (rfl) r dX8_has_14 ⟨rfl, rfl⟩
abbrev rmX8_bits : Room := { frames := 0, cells := 0, slots := 0, locals := 0 }
def fX8_bits_L4 (N : Nat) (x0 : Int32) : Nat → Int32 → Int32 → Option (Int32 × Int32)
  | 0, _, _ => none
  | n + 1, x1, x2 =>
    if 6 ≤ x2 then
    some (x1, x2)
    else
    fX8_bits_L4 N x0 n (x1 + ((x0 >>> (x2 &&& 31)) &&& 1)) (x2 + 1)
set_option maxHeartbeats 4000000 in
set_option maxRecDepth 100000 in
theorem wX8_bits_L4 {E : Ev} {K : KX} (k : OKX E K cX8_bits RX8 3 rmX8_bits) (N : Nat)  (x0 : Int32) : ∀ (n : Nat) (x1 : Int32) (x2 : Int32) (o : Int32 × Int32), fX8_bits_L4 N x0 n x1 x2 = some o → G E K 3 0 0 [(0, .int x0), (1, .int o.1), (2, .int o.2)] [] [] 24 → G E K 3 0 0 [(0, .int x0), (1, .int x1), (2, .int x2)] [] [] 4 := by
  intro n
  induction n with
  | zero => intro x1 x2 o hf; cases hf
  | succ n ih =>
    intro x1 x2 o hf hG
    rw [fX8_bits_L4] at hf
    refine g_iload_n k 2 dX8_bits_4 rfl rfl ?_
    refine g_bipush k dX8_bits_5 bi_6 ?_
    refine g_icmp_ge k (tgt := 24) dX8_bits_7 (by decide) (fun c1 => ?_) (fun c1 => ?_)
    · replace hf := ite_t c1 hf
      refine g_lv [0, 1, 2] rfl ?_
      obtain rfl := Option.some.inj hf
      exact hG
    · replace hf := ite_f c1 hf
      refine g_iload_n k 1 dX8_bits_10 rfl rfl ?_
      refine g_iload_n k 0 dX8_bits_11 rfl rfl ?_
      refine g_iload_n k 2 dX8_bits_12 rfl rfl ?_
      refine g_ishr k dX8_bits_13 ?_
      refine g_iconst k dX8_bits_14 ic_1 ?_
      refine g_iand k dX8_bits_15 ?_
      refine g_iadd k dX8_bits_16 ?_
      refine g_istore_n k (lv' := [(1, .int (x1 + ((x0 >>> (x2 &&& 31)) &&& 1))), (0, .int x0), (2, .int x2)]) dX8_bits_17 rfl (by decide) rfl ?_
      refine g_iinc k (lv' := [(2, .int (x2 + 1)), (1, .int (x1 + ((x0 >>> (x2 &&& 31)) &&& 1))), (0, .int x0)]) 2 dX8_bits_18 rfl (ii_1 _) (by decide) rfl ?_
      refine g_goto k (tgt := 4) dX8_bits_21 (by decide) ?_
      refine g_lv [2, 1, 0] rfl ?_
      exact ih (x1 + ((x0 >>> (x2 &&& 31)) &&& 1)) (x2 + 1) o hf hG
def fX8_bits (N : Nat)  (x0 : Int32) : Option (Int32) :=
  bnd (fX8_bits_L4 N x0 N 0 0) fun o2 =>
  some (o2.1)
set_option maxHeartbeats 4000000 in
set_option maxRecDepth 100000 in
theorem ctX8_bits (l : Launch) (E : Ev) (N : Nat)   (x0 : Int32) (out : Int32) (hf : fX8_bits N  x0 = some out) : Ct l E yX8_bits cX8_bits 3 (some .int) rmX8_bits [.int x0] [] (Pe (some (.int out)) []) := by
  refine Ct.of rfl (Nat.le_of_ble_eq_true rfl) (fun K hL k r hin => ?_)
  subst hL
  unfold fX8_bits at hf
  show G E K 3 0 0 [(0, .int x0)] [] [] 0
  refine g_iconst k dX8_bits_0 ic_0 ?_
  refine g_istore_n k (lv' := [(1, .int 0), (0, .int x0)]) dX8_bits_1 rfl (by decide) rfl ?_
  refine g_iconst k dX8_bits_2 ic_0 ?_
  refine g_istore_n k (lv' := [(2, .int 0), (1, .int 0), (0, .int x0)]) dX8_bits_3 rfl (by decide) rfl ?_
  obtain ⟨o2, ho3, hf⟩ := bnd_some hf
  refine g_lv [2, 1, 0] (lv' := [(0, .int x0), (1, .int 0), (2, .int 0)]) rfl ?_
  refine wX8_bits_L4 k N   x0  N 0 0 o2 ho3 ?_
  refine g_iload_n k 1 dX8_bits_24 rfl rfl ?_
  obtain rfl := Option.some.inj hf
  exact g_iret k r dX8_bits_25 ⟨rfl, rfl⟩
abbrev rmX8_most : Room := { frames := 0, cells := 0, slots := 0, locals := 0 }
def fX8_most (N : Nat)  (x0 : Int32) (x1 : Int32) : Option (Int32) :=
  if x0 ≤ x1 then
  some (x0)
  else
  some (x1)
set_option maxHeartbeats 4000000 in
set_option maxRecDepth 100000 in
theorem ctX8_most (l : Launch) (E : Ev) (N : Nat)   (x0 : Int32) (x1 : Int32) (out : Int32) (hf : fX8_most N  x0 x1 = some out) : Ct l E yX8_most cX8_most 2 (some .int) rmX8_most [.int x0, .int x1] [] (Pe (some (.int out)) []) := by
  refine Ct.of rfl (Nat.le_of_ble_eq_true rfl) (fun K hL k r hin => ?_)
  subst hL
  unfold fX8_most at hf
  show G E K 2 0 0 [(0, .int x0), (1, .int x1)] [] [] 0
  refine g_iload_n k 0 dX8_most_0 rfl rfl ?_
  refine g_iload_n k 1 dX8_most_1 rfl rfl ?_
  refine g_icmp_le k (tgt := 9) dX8_most_2 (by decide) (fun c1 => ?_) (fun c1 => ?_)
  · replace hf := ite_t c1 hf
    refine g_iload_n k 0 dX8_most_9 rfl rfl ?_
    obtain rfl := Option.some.inj hf
    exact g_iret k r dX8_most_10 ⟨rfl, rfl⟩
  · replace hf := ite_f c1 hf
    refine g_iload_n k 1 dX8_most_5 rfl rfl ?_
    refine g_goto k (tgt := 10) dX8_most_6 (by decide) ?_
    obtain rfl := Option.some.inj hf
    exact g_iret k r dX8_most_10 ⟨rfl, rfl⟩
abbrev rmX8_least : Room := { frames := 0, cells := 0, slots := 0, locals := 0 }
def fX8_least (N : Nat)  (x0 : Int32) : Option (Int32) :=
  if 0 ≤ x0 then
  some (x0)
  else
  some (0)
set_option maxHeartbeats 4000000 in
set_option maxRecDepth 100000 in
theorem ctX8_least (l : Launch) (E : Ev) (N : Nat)   (x0 : Int32) (out : Int32) (hf : fX8_least N  x0 = some out) : Ct l E yX8_least cX8_least 1 (some .int) rmX8_least [.int x0] [] (Pe (some (.int out)) []) := by
  refine Ct.of rfl (Nat.le_of_ble_eq_true rfl) (fun K hL k r hin => ?_)
  subst hL
  unfold fX8_least at hf
  show G E K 1 0 0 [(0, .int x0)] [] [] 0
  refine g_iload_n k 0 dX8_least_0 rfl rfl ?_
  refine g_if_ge k (tgt := 8) dX8_least_1 (by decide) (fun c1 => ?_) (fun c1 => ?_)
  · replace hf := ite_t c1 hf
    refine g_iload_n k 0 dX8_least_8 rfl rfl ?_
    obtain rfl := Option.some.inj hf
    exact g_iret k r dX8_least_9 ⟨rfl, rfl⟩
  · replace hf := ite_f c1 hf
    refine g_iconst k dX8_least_4 ic_0 ?_
    refine g_goto k (tgt := 9) dX8_least_5 (by decide) ?_
    obtain rfl := Option.some.inj hf
    exact g_iret k r dX8_least_9 ⟨rfl, rfl⟩
abbrev rmX8_isCell : Room := { frames := 1, cells := 0, slots := 0, locals := 25 }
def fX8_isCell (N : Nat) (va0_row : Nat → Int32) (x1 : Int32) : Option (Int32) :=
  bnd (fX8_in N x1.toInt64 0 (((va0_row 26) - 1).toInt64)) fun o1 =>
  zb o1 (some (o1))
set_option maxHeartbeats 4000000 in
set_option maxRecDepth 100000 in
theorem ctX8_isCell (l : Launch) (E : Ev) (N : Nat) (a0 : Nat) (a0_row : Nat) (a0_lanes : Nat) (a0_sizes : Nat) (a0_items : Nat) (a0_tape : Nat) (a0_readIce : Nat) (a0_readPeople : Nat) (a0_readSayings : Nat) (a0_line : Nat) (a0_bestLine : Nat) (a0_seen : Nat) (a0_held : Nat) (va0_isKept : Int32) (va0_length : Int32) (va0_at : Int32) (va0_number : Int32) (va0_readCells : Int32) (va0_readMany : Int32) (va0_readSaid : Int32) (va0_bestFar : Int32) (va0_bestIce : Int32) (va0_row : Nat → Int32) (x1 : Int32) (out : Int32) (hf : fX8_isCell N va0_row x1 = some out) : Ct l E yX8_isCell cX8_isCell 2 (some .boolean) rmX8_isCell [.ref a0, .int x1] [(a0, oB 8 [.ref a0_row, .int va0_isKept, .ref a0_lanes, .ref a0_sizes, .ref a0_items, .ref a0_tape, .int va0_length, .int va0_at, .int va0_number, .ref a0_readIce, .int va0_readCells, .ref a0_readPeople, .int va0_readMany, .ref a0_readSayings, .int va0_readSaid, .ref a0_line, .ref a0_bestLine, .int va0_bestFar, .int va0_bestIce, .ref a0_seen, .ref a0_held]), (a0_row, aI E 525 va0_row)] (Pe (some (.int out)) [(a0, oB 8 [.ref a0_row, .int va0_isKept, .ref a0_lanes, .ref a0_sizes, .ref a0_items, .ref a0_tape, .int va0_length, .int va0_at, .int va0_number, .ref a0_readIce, .int va0_readCells, .ref a0_readPeople, .int va0_readMany, .ref a0_readSayings, .int va0_readSaid, .ref a0_line, .ref a0_bestLine, .int va0_bestFar, .int va0_bestIce, .ref a0_seen, .ref a0_held]), (a0_row, aI E 525 va0_row)]) := by
  refine Ct.of rfl (Nat.le_of_ble_eq_true rfl) (fun K hL k r hin => ?_)
  subst hL
  unfold fX8_isCell at hf
  show G E K 2 0 0 [(0, .ref a0), (1, .int x1)] [] [(a0, oB 8 [.ref a0_row, .int va0_isKept, .ref a0_lanes, .ref a0_sizes, .ref a0_items, .ref a0_tape, .int va0_length, .int va0_at, .int va0_number, .ref a0_readIce, .int va0_readCells, .ref a0_readPeople, .int va0_readMany, .ref a0_readSayings, .int va0_readSaid, .ref a0_line, .ref a0_bestLine, .int va0_bestFar, .int va0_bestIce, .ref a0_seen, .ref a0_held]), (a0_row, aI E 525 va0_row)] 0
  refine g_iload_n k 1 dX8_isCell_0 rfl rfl ?_
  refine g_i2l k dX8_isCell_1 ?_
  refine g_lconst k dX8_isCell_2 lc_0 ?_
  refine g_aload_n k 0 dX8_isCell_3 rfl rfl ?_
  refine g_get k cfX8 0 0 dX8_isCell_4 lkX8_7 (by decide) rfl rfl ?_
  refine g_bipush k dX8_isCell_7 bi_26 ?_
  refine g_iaload k 1 dX8_isCell_9 rfl vi_26_525 cl_26 ?_
  refine g_iconst k dX8_isCell_10 ic_1 ?_
  refine g_isub k dX8_isCell_11 ?_
  refine g_i2l k dX8_isCell_12 ?_
  obtain ⟨o1, ho2, hf⟩ := bnd_some hf
  refine g_cs k miX8_in msX8_in (ctX8_in (kL K) E N   x1.toInt64 0 (((va0_row 26) - 1).toInt64) o1 ho2) [] (ws' := [(a0, oB 8 [.ref a0_row, .int va0_isKept, .ref a0_lanes, .ref a0_sizes, .ref a0_items, .ref a0_tape, .int va0_length, .int va0_at, .int va0_number, .ref a0_readIce, .int va0_readCells, .ref a0_readPeople, .int va0_readMany, .ref a0_readSayings, .int va0_readSaid, .ref a0_line, .ref a0_bestLine, .int va0_bestFar, .int va0_bestIce, .ref a0_seen, .ref a0_held]), (a0_row, aI E 525 va0_row)]) dX8_isCell_13 lkX8_47 rfl ⟨rfl, rfl⟩ ⟨by decide, by decide⟩ rfl rfl rfl (Nat.le_of_ble_eq_true rfl) rfl rfl rfl ?_
  refine g_st (st' := [.int o1]) rfl ?_
  obtain ⟨hz3, hf⟩ := zb_some hf
  obtain rfl := Option.some.inj hf
  exact g_zret k (zb_nar hz3) r dX8_isCell_16 ⟨rfl, rfl⟩
abbrev rmX8_isPerson : Room := { frames := 1, cells := 0, slots := 0, locals := 25 }
def fX8_isPerson (N : Nat) (va0_row : Nat → Int32) (x1 : Int32) : Option (Int32) :=
  bnd (fX8_in N x1.toInt64 0 (((va0_row 27) - 1).toInt64)) fun o1 =>
  zb o1 (some (o1))
set_option maxHeartbeats 4000000 in
set_option maxRecDepth 100000 in
theorem ctX8_isPerson (l : Launch) (E : Ev) (N : Nat) (a0 : Nat) (a0_row : Nat) (a0_lanes : Nat) (a0_sizes : Nat) (a0_items : Nat) (a0_tape : Nat) (a0_readIce : Nat) (a0_readPeople : Nat) (a0_readSayings : Nat) (a0_line : Nat) (a0_bestLine : Nat) (a0_seen : Nat) (a0_held : Nat) (va0_isKept : Int32) (va0_length : Int32) (va0_at : Int32) (va0_number : Int32) (va0_readCells : Int32) (va0_readMany : Int32) (va0_readSaid : Int32) (va0_bestFar : Int32) (va0_bestIce : Int32) (va0_row : Nat → Int32) (x1 : Int32) (out : Int32) (hf : fX8_isPerson N va0_row x1 = some out) : Ct l E yX8_isPerson cX8_isPerson 2 (some .boolean) rmX8_isPerson [.ref a0, .int x1] [(a0, oB 8 [.ref a0_row, .int va0_isKept, .ref a0_lanes, .ref a0_sizes, .ref a0_items, .ref a0_tape, .int va0_length, .int va0_at, .int va0_number, .ref a0_readIce, .int va0_readCells, .ref a0_readPeople, .int va0_readMany, .ref a0_readSayings, .int va0_readSaid, .ref a0_line, .ref a0_bestLine, .int va0_bestFar, .int va0_bestIce, .ref a0_seen, .ref a0_held]), (a0_row, aI E 525 va0_row)] (Pe (some (.int out)) [(a0, oB 8 [.ref a0_row, .int va0_isKept, .ref a0_lanes, .ref a0_sizes, .ref a0_items, .ref a0_tape, .int va0_length, .int va0_at, .int va0_number, .ref a0_readIce, .int va0_readCells, .ref a0_readPeople, .int va0_readMany, .ref a0_readSayings, .int va0_readSaid, .ref a0_line, .ref a0_bestLine, .int va0_bestFar, .int va0_bestIce, .ref a0_seen, .ref a0_held]), (a0_row, aI E 525 va0_row)]) := by
  refine Ct.of rfl (Nat.le_of_ble_eq_true rfl) (fun K hL k r hin => ?_)
  subst hL
  unfold fX8_isPerson at hf
  show G E K 2 0 0 [(0, .ref a0), (1, .int x1)] [] [(a0, oB 8 [.ref a0_row, .int va0_isKept, .ref a0_lanes, .ref a0_sizes, .ref a0_items, .ref a0_tape, .int va0_length, .int va0_at, .int va0_number, .ref a0_readIce, .int va0_readCells, .ref a0_readPeople, .int va0_readMany, .ref a0_readSayings, .int va0_readSaid, .ref a0_line, .ref a0_bestLine, .int va0_bestFar, .int va0_bestIce, .ref a0_seen, .ref a0_held]), (a0_row, aI E 525 va0_row)] 0
  refine g_iload_n k 1 dX8_isPerson_0 rfl rfl ?_
  refine g_i2l k dX8_isPerson_1 ?_
  refine g_lconst k dX8_isPerson_2 lc_0 ?_
  refine g_aload_n k 0 dX8_isPerson_3 rfl rfl ?_
  refine g_get k cfX8 0 0 dX8_isPerson_4 lkX8_7 (by decide) rfl rfl ?_
  refine g_bipush k dX8_isPerson_7 bi_27 ?_
  refine g_iaload k 1 dX8_isPerson_9 rfl vi_27_525 cl_27 ?_
  refine g_iconst k dX8_isPerson_10 ic_1 ?_
  refine g_isub k dX8_isPerson_11 ?_
  refine g_i2l k dX8_isPerson_12 ?_
  obtain ⟨o1, ho2, hf⟩ := bnd_some hf
  refine g_cs k miX8_in msX8_in (ctX8_in (kL K) E N   x1.toInt64 0 (((va0_row 27) - 1).toInt64) o1 ho2) [] (ws' := [(a0, oB 8 [.ref a0_row, .int va0_isKept, .ref a0_lanes, .ref a0_sizes, .ref a0_items, .ref a0_tape, .int va0_length, .int va0_at, .int va0_number, .ref a0_readIce, .int va0_readCells, .ref a0_readPeople, .int va0_readMany, .ref a0_readSayings, .int va0_readSaid, .ref a0_line, .ref a0_bestLine, .int va0_bestFar, .int va0_bestIce, .ref a0_seen, .ref a0_held]), (a0_row, aI E 525 va0_row)]) dX8_isPerson_13 lkX8_47 rfl ⟨rfl, rfl⟩ ⟨by decide, by decide⟩ rfl rfl rfl (Nat.le_of_ble_eq_true rfl) rfl rfl rfl ?_
  refine g_st (st' := [.int o1]) rfl ?_
  obtain ⟨hz3, hf⟩ := zb_some hf
  obtain rfl := Option.some.inj hf
  exact g_zret k (zb_nar hz3) r dX8_isPerson_16 ⟨rfl, rfl⟩
abbrev rmX8_isSaying : Room := { frames := 1, cells := 0, slots := 0, locals := 25 }
def fX8_isSaying (N : Nat) (va0_row : Nat → Int32) (x1 : Int32) : Option (Int32) :=
  bnd (fX8_in N x1.toInt64 0 (((va0_row 28) - 1).toInt64)) fun o1 =>
  zb o1 (some (o1))
set_option maxHeartbeats 4000000 in
set_option maxRecDepth 100000 in
theorem ctX8_isSaying (l : Launch) (E : Ev) (N : Nat) (a0 : Nat) (a0_row : Nat) (a0_lanes : Nat) (a0_sizes : Nat) (a0_items : Nat) (a0_tape : Nat) (a0_readIce : Nat) (a0_readPeople : Nat) (a0_readSayings : Nat) (a0_line : Nat) (a0_bestLine : Nat) (a0_seen : Nat) (a0_held : Nat) (va0_isKept : Int32) (va0_length : Int32) (va0_at : Int32) (va0_number : Int32) (va0_readCells : Int32) (va0_readMany : Int32) (va0_readSaid : Int32) (va0_bestFar : Int32) (va0_bestIce : Int32) (va0_row : Nat → Int32) (x1 : Int32) (out : Int32) (hf : fX8_isSaying N va0_row x1 = some out) : Ct l E yX8_isSaying cX8_isSaying 2 (some .boolean) rmX8_isSaying [.ref a0, .int x1] [(a0, oB 8 [.ref a0_row, .int va0_isKept, .ref a0_lanes, .ref a0_sizes, .ref a0_items, .ref a0_tape, .int va0_length, .int va0_at, .int va0_number, .ref a0_readIce, .int va0_readCells, .ref a0_readPeople, .int va0_readMany, .ref a0_readSayings, .int va0_readSaid, .ref a0_line, .ref a0_bestLine, .int va0_bestFar, .int va0_bestIce, .ref a0_seen, .ref a0_held]), (a0_row, aI E 525 va0_row)] (Pe (some (.int out)) [(a0, oB 8 [.ref a0_row, .int va0_isKept, .ref a0_lanes, .ref a0_sizes, .ref a0_items, .ref a0_tape, .int va0_length, .int va0_at, .int va0_number, .ref a0_readIce, .int va0_readCells, .ref a0_readPeople, .int va0_readMany, .ref a0_readSayings, .int va0_readSaid, .ref a0_line, .ref a0_bestLine, .int va0_bestFar, .int va0_bestIce, .ref a0_seen, .ref a0_held]), (a0_row, aI E 525 va0_row)]) := by
  refine Ct.of rfl (Nat.le_of_ble_eq_true rfl) (fun K hL k r hin => ?_)
  subst hL
  unfold fX8_isSaying at hf
  show G E K 2 0 0 [(0, .ref a0), (1, .int x1)] [] [(a0, oB 8 [.ref a0_row, .int va0_isKept, .ref a0_lanes, .ref a0_sizes, .ref a0_items, .ref a0_tape, .int va0_length, .int va0_at, .int va0_number, .ref a0_readIce, .int va0_readCells, .ref a0_readPeople, .int va0_readMany, .ref a0_readSayings, .int va0_readSaid, .ref a0_line, .ref a0_bestLine, .int va0_bestFar, .int va0_bestIce, .ref a0_seen, .ref a0_held]), (a0_row, aI E 525 va0_row)] 0
  refine g_iload_n k 1 dX8_isSaying_0 rfl rfl ?_
  refine g_i2l k dX8_isSaying_1 ?_
  refine g_lconst k dX8_isSaying_2 lc_0 ?_
  refine g_aload_n k 0 dX8_isSaying_3 rfl rfl ?_
  refine g_get k cfX8 0 0 dX8_isSaying_4 lkX8_7 (by decide) rfl rfl ?_
  refine g_bipush k dX8_isSaying_7 bi_28 ?_
  refine g_iaload k 1 dX8_isSaying_9 rfl vi_28_525 cl_28 ?_
  refine g_iconst k dX8_isSaying_10 ic_1 ?_
  refine g_isub k dX8_isSaying_11 ?_
  refine g_i2l k dX8_isSaying_12 ?_
  obtain ⟨o1, ho2, hf⟩ := bnd_some hf
  refine g_cs k miX8_in msX8_in (ctX8_in (kL K) E N   x1.toInt64 0 (((va0_row 28) - 1).toInt64) o1 ho2) [] (ws' := [(a0, oB 8 [.ref a0_row, .int va0_isKept, .ref a0_lanes, .ref a0_sizes, .ref a0_items, .ref a0_tape, .int va0_length, .int va0_at, .int va0_number, .ref a0_readIce, .int va0_readCells, .ref a0_readPeople, .int va0_readMany, .ref a0_readSayings, .int va0_readSaid, .ref a0_line, .ref a0_bestLine, .int va0_bestFar, .int va0_bestIce, .ref a0_seen, .ref a0_held]), (a0_row, aI E 525 va0_row)]) dX8_isSaying_13 lkX8_47 rfl ⟨rfl, rfl⟩ ⟨by decide, by decide⟩ rfl rfl rfl (Nat.le_of_ble_eq_true rfl) rfl rfl rfl ?_
  refine g_st (st' := [.int o1]) rfl ?_
  obtain ⟨hz3, hf⟩ := zb_some hf
  obtain rfl := Option.some.inj hf
  exact g_zret k (zb_nar hz3) r dX8_isSaying_16 ⟨rfl, rfl⟩
abbrev rmX8_everybody : Room := { frames := 0, cells := 0, slots := 0, locals := 0 }
def fX8_everybody (N : Nat) (va0_row : Nat → Int32)  : Option (Int32) :=
  some (((1 <<< ((va0_row 27) &&& 31)) - 1))
set_option maxHeartbeats 4000000 in
set_option maxRecDepth 100000 in
theorem ctX8_everybody (l : Launch) (E : Ev) (N : Nat) (a0 : Nat) (a0_row : Nat) (a0_lanes : Nat) (a0_sizes : Nat) (a0_items : Nat) (a0_tape : Nat) (a0_readIce : Nat) (a0_readPeople : Nat) (a0_readSayings : Nat) (a0_line : Nat) (a0_bestLine : Nat) (a0_seen : Nat) (a0_held : Nat) (va0_isKept : Int32) (va0_length : Int32) (va0_at : Int32) (va0_number : Int32) (va0_readCells : Int32) (va0_readMany : Int32) (va0_readSaid : Int32) (va0_bestFar : Int32) (va0_bestIce : Int32) (va0_row : Nat → Int32)  (out : Int32) (hf : fX8_everybody N va0_row  = some out) : Ct l E yX8_everybody cX8_everybody 1 (some .int) rmX8_everybody [.ref a0] [(a0, oB 8 [.ref a0_row, .int va0_isKept, .ref a0_lanes, .ref a0_sizes, .ref a0_items, .ref a0_tape, .int va0_length, .int va0_at, .int va0_number, .ref a0_readIce, .int va0_readCells, .ref a0_readPeople, .int va0_readMany, .ref a0_readSayings, .int va0_readSaid, .ref a0_line, .ref a0_bestLine, .int va0_bestFar, .int va0_bestIce, .ref a0_seen, .ref a0_held]), (a0_row, aI E 525 va0_row)] (Pe (some (.int out)) [(a0, oB 8 [.ref a0_row, .int va0_isKept, .ref a0_lanes, .ref a0_sizes, .ref a0_items, .ref a0_tape, .int va0_length, .int va0_at, .int va0_number, .ref a0_readIce, .int va0_readCells, .ref a0_readPeople, .int va0_readMany, .ref a0_readSayings, .int va0_readSaid, .ref a0_line, .ref a0_bestLine, .int va0_bestFar, .int va0_bestIce, .ref a0_seen, .ref a0_held]), (a0_row, aI E 525 va0_row)]) := by
  refine Ct.of rfl (Nat.le_of_ble_eq_true rfl) (fun K hL k r hin => ?_)
  subst hL
  unfold fX8_everybody at hf
  show G E K 1 0 0 [(0, .ref a0)] [] [(a0, oB 8 [.ref a0_row, .int va0_isKept, .ref a0_lanes, .ref a0_sizes, .ref a0_items, .ref a0_tape, .int va0_length, .int va0_at, .int va0_number, .ref a0_readIce, .int va0_readCells, .ref a0_readPeople, .int va0_readMany, .ref a0_readSayings, .int va0_readSaid, .ref a0_line, .ref a0_bestLine, .int va0_bestFar, .int va0_bestIce, .ref a0_seen, .ref a0_held]), (a0_row, aI E 525 va0_row)] 0
  refine g_iconst k dX8_everybody_0 ic_1 ?_
  refine g_aload_n k 0 dX8_everybody_1 rfl rfl ?_
  refine g_get k cfX8 0 0 dX8_everybody_2 lkX8_7 (by decide) rfl rfl ?_
  refine g_bipush k dX8_everybody_5 bi_27 ?_
  refine g_iaload k 1 dX8_everybody_7 rfl vi_27_525 cl_27 ?_
  refine g_ishl k dX8_everybody_8 ?_
  refine g_iconst k dX8_everybody_9 ic_1 ?_
  refine g_isub k dX8_everybody_10 ?_
  obtain rfl := Option.some.inj hf
  exact g_iret k r dX8_everybody_11 ⟨rfl, rfl⟩
abbrev rmX8_addCell : Room := { frames := 0, cells := 0, slots := 0, locals := 0 }
def fX8_addCell (N : Nat) (va0_row : Nat → Int32) (x1 : Int32) : Option ((Nat → Int32)) :=
  ixb (3 + (va0_row 26)) 525 fun κ1 =>
  some ((upd (upd (upd va0_row κ1 x1) 26 (((upd va0_row κ1 x1) 26) + 1)) 41 0))
set_option maxHeartbeats 4000000 in
set_option maxRecDepth 100000 in
theorem ctX8_addCell (l : Launch) (E : Ev) (N : Nat) (a0 : Nat) (a0_row : Nat) (a0_lanes : Nat) (a0_sizes : Nat) (a0_items : Nat) (a0_tape : Nat) (a0_readIce : Nat) (a0_readPeople : Nat) (a0_readSayings : Nat) (a0_line : Nat) (a0_bestLine : Nat) (a0_seen : Nat) (a0_held : Nat) (va0_isKept : Int32) (va0_length : Int32) (va0_at : Int32) (va0_number : Int32) (va0_readCells : Int32) (va0_readMany : Int32) (va0_readSaid : Int32) (va0_bestFar : Int32) (va0_bestIce : Int32) (va0_row : Nat → Int32) (x1 : Int32) (out : (Nat → Int32)) (hf : fX8_addCell N va0_row x1 = some out) : Ct l E yX8_addCell cX8_addCell 2 none rmX8_addCell [.ref a0, .int x1] [(a0, oB 8 [.ref a0_row, .int va0_isKept, .ref a0_lanes, .ref a0_sizes, .ref a0_items, .ref a0_tape, .int va0_length, .int va0_at, .int va0_number, .ref a0_readIce, .int va0_readCells, .ref a0_readPeople, .int va0_readMany, .ref a0_readSayings, .int va0_readSaid, .ref a0_line, .ref a0_bestLine, .int va0_bestFar, .int va0_bestIce, .ref a0_seen, .ref a0_held]), (a0_row, aI E 525 va0_row)] (Pe none [(a0, oB 8 [.ref a0_row, .int va0_isKept, .ref a0_lanes, .ref a0_sizes, .ref a0_items, .ref a0_tape, .int va0_length, .int va0_at, .int va0_number, .ref a0_readIce, .int va0_readCells, .ref a0_readPeople, .int va0_readMany, .ref a0_readSayings, .int va0_readSaid, .ref a0_line, .ref a0_bestLine, .int va0_bestFar, .int va0_bestIce, .ref a0_seen, .ref a0_held]), (a0_row, aI E 525 out)]) := by
  refine Ct.of rfl (Nat.le_of_ble_eq_true rfl) (fun K hL k r hin => ?_)
  subst hL
  unfold fX8_addCell at hf
  show G E K 2 0 0 [(0, .ref a0), (1, .int x1)] [] [(a0, oB 8 [.ref a0_row, .int va0_isKept, .ref a0_lanes, .ref a0_sizes, .ref a0_items, .ref a0_tape, .int va0_length, .int va0_at, .int va0_number, .ref a0_readIce, .int va0_readCells, .ref a0_readPeople, .int va0_readMany, .ref a0_readSayings, .int va0_readSaid, .ref a0_line, .ref a0_bestLine, .int va0_bestFar, .int va0_bestIce, .ref a0_seen, .ref a0_held]), (a0_row, aI E 525 va0_row)] 0
  refine g_aload_n k 0 dX8_addCell_0 rfl rfl ?_
  refine g_get k cfX8 0 0 dX8_addCell_1 lkX8_7 (by decide) rfl rfl ?_
  refine g_iconst k dX8_addCell_4 ic_3 ?_
  refine g_aload_n k 0 dX8_addCell_5 rfl rfl ?_
  refine g_get k cfX8 0 0 dX8_addCell_6 lkX8_7 (by decide) rfl rfl ?_
  refine g_bipush k dX8_addCell_9 bi_26 ?_
  refine g_iaload k 1 dX8_addCell_11 rfl vi_26_525 cl_26 ?_
  refine g_iadd k dX8_addCell_12 ?_
  refine g_iload_n k 1 dX8_addCell_13 rfl rfl ?_
  obtain ⟨κ1, hκ1, hiκ1, heκ1, hf⟩ := ixb_some hf
  refine g_iastore k 1 (ws' := [(a0, oB 8 [.ref a0_row, .int va0_isKept, .ref a0_lanes, .ref a0_sizes, .ref a0_items, .ref a0_tape, .int va0_length, .int va0_at, .int va0_number, .ref a0_readIce, .int va0_readCells, .ref a0_readPeople, .int va0_readMany, .ref a0_readSayings, .int va0_readSaid, .ref a0_line, .ref a0_bestLine, .int va0_bestFar, .int va0_bestIce, .ref a0_seen, .ref a0_held]), (a0_row, aI E 525 (upd va0_row κ1 x1))]) dX8_addCell_14 rfl hiκ1 heκ1 rfl ?_
  refine g_aload_n k 0 dX8_addCell_15 rfl rfl ?_
  refine g_get k cfX8 0 0 dX8_addCell_16 lkX8_7 (by decide) rfl rfl ?_
  refine g_bipush k dX8_addCell_19 bi_26 ?_
  refine g_dup2 k dX8_addCell_21 rfl rfl ?_
  refine g_iaload k 1 dX8_addCell_22 rfl vi_26_525 cl_26 ?_
  refine g_iconst k dX8_addCell_23 ic_1 ?_
  refine g_iadd k dX8_addCell_24 ?_
  refine g_iastore k 1 (ws' := [(a0, oB 8 [.ref a0_row, .int va0_isKept, .ref a0_lanes, .ref a0_sizes, .ref a0_items, .ref a0_tape, .int va0_length, .int va0_at, .int va0_number, .ref a0_readIce, .int va0_readCells, .ref a0_readPeople, .int va0_readMany, .ref a0_readSayings, .int va0_readSaid, .ref a0_line, .ref a0_bestLine, .int va0_bestFar, .int va0_bestIce, .ref a0_seen, .ref a0_held]), (a0_row, aI E 525 (upd (upd va0_row κ1 x1) 26 (((upd va0_row κ1 x1) 26) + 1)))]) dX8_addCell_25 rfl vi_26_525 cl_26 rfl ?_
  refine g_aload_n k 0 dX8_addCell_26 rfl rfl ?_
  refine g_get k cfX8 0 0 dX8_addCell_27 lkX8_7 (by decide) rfl rfl ?_
  refine g_bipush k dX8_addCell_30 bi_41 ?_
  refine g_iconst k dX8_addCell_32 ic_0 ?_
  refine g_iastore k 1 (ws' := [(a0, oB 8 [.ref a0_row, .int va0_isKept, .ref a0_lanes, .ref a0_sizes, .ref a0_items, .ref a0_tape, .int va0_length, .int va0_at, .int va0_number, .ref a0_readIce, .int va0_readCells, .ref a0_readPeople, .int va0_readMany, .ref a0_readSayings, .int va0_readSaid, .ref a0_line, .ref a0_bestLine, .int va0_bestFar, .int va0_bestIce, .ref a0_seen, .ref a0_held]), (a0_row, aI E 525 (upd (upd (upd va0_row κ1 x1) 26 (((upd va0_row κ1 x1) 26) + 1)) 41 0))]) dX8_addCell_33 rfl vi_41_525 cl_41 rfl ?_
  obtain rfl := Option.some.inj hf
  exact g_vret k r dX8_addCell_34 ⟨rfl, rfl⟩
abbrev rmX8_cell : Room := { frames := 1, cells := 0, slots := 0, locals := 25 }
def fX8_cell (N : Nat) (va0_row : Nat → Int32) (x1 : Int32) : Option (Int32 × (Nat → Int32)) :=
  bnd (fX8_in N x1.toInt64 0 60) fun o1 =>
  if o1 = 0 then
  some ((-1), va0_row)
  else
  if (va0_row 26) = 12 then
  some ((-3), va0_row)
  else
  bnd (fX8_addCell N va0_row x1) fun o5 =>
  some (((o5 26) - 1), o5)
set_option maxHeartbeats 4000000 in
set_option maxRecDepth 100000 in
theorem ctX8_cell (l : Launch) (E : Ev) (N : Nat) (a0 : Nat) (a0_row : Nat) (a0_lanes : Nat) (a0_sizes : Nat) (a0_items : Nat) (a0_tape : Nat) (a0_readIce : Nat) (a0_readPeople : Nat) (a0_readSayings : Nat) (a0_line : Nat) (a0_bestLine : Nat) (a0_seen : Nat) (a0_held : Nat) (va0_isKept : Int32) (va0_length : Int32) (va0_at : Int32) (va0_number : Int32) (va0_readCells : Int32) (va0_readMany : Int32) (va0_readSaid : Int32) (va0_bestFar : Int32) (va0_bestIce : Int32) (va0_row : Nat → Int32) (x1 : Int32) (out : Int32 × (Nat → Int32)) (hf : fX8_cell N va0_row x1 = some out) : Ct l E yX8_cell cX8_cell 2 (some .int) rmX8_cell [.ref a0, .int x1] [(a0, oB 8 [.ref a0_row, .int va0_isKept, .ref a0_lanes, .ref a0_sizes, .ref a0_items, .ref a0_tape, .int va0_length, .int va0_at, .int va0_number, .ref a0_readIce, .int va0_readCells, .ref a0_readPeople, .int va0_readMany, .ref a0_readSayings, .int va0_readSaid, .ref a0_line, .ref a0_bestLine, .int va0_bestFar, .int va0_bestIce, .ref a0_seen, .ref a0_held]), (a0_row, aI E 525 va0_row)] (Pe (some (.int out.1)) [(a0, oB 8 [.ref a0_row, .int va0_isKept, .ref a0_lanes, .ref a0_sizes, .ref a0_items, .ref a0_tape, .int va0_length, .int va0_at, .int va0_number, .ref a0_readIce, .int va0_readCells, .ref a0_readPeople, .int va0_readMany, .ref a0_readSayings, .int va0_readSaid, .ref a0_line, .ref a0_bestLine, .int va0_bestFar, .int va0_bestIce, .ref a0_seen, .ref a0_held]), (a0_row, aI E 525 out.2)]) := by
  refine Ct.of rfl (Nat.le_of_ble_eq_true rfl) (fun K hL k r hin => ?_)
  subst hL
  unfold fX8_cell at hf
  show G E K 2 0 0 [(0, .ref a0), (1, .int x1)] [] [(a0, oB 8 [.ref a0_row, .int va0_isKept, .ref a0_lanes, .ref a0_sizes, .ref a0_items, .ref a0_tape, .int va0_length, .int va0_at, .int va0_number, .ref a0_readIce, .int va0_readCells, .ref a0_readPeople, .int va0_readMany, .ref a0_readSayings, .int va0_readSaid, .ref a0_line, .ref a0_bestLine, .int va0_bestFar, .int va0_bestIce, .ref a0_seen, .ref a0_held]), (a0_row, aI E 525 va0_row)] 0
  refine g_iload_n k 1 dX8_cell_0 rfl rfl ?_
  refine g_i2l k dX8_cell_1 ?_
  refine g_lconst k dX8_cell_2 lc_0 ?_
  refine g_ldc2 k dX8_cell_3 lkX8_51 ?_
  obtain ⟨o1, ho2, hf⟩ := bnd_some hf
  refine g_cs k miX8_in msX8_in (ctX8_in (kL K) E N   x1.toInt64 0 60 o1 ho2) [] (ws' := [(a0, oB 8 [.ref a0_row, .int va0_isKept, .ref a0_lanes, .ref a0_sizes, .ref a0_items, .ref a0_tape, .int va0_length, .int va0_at, .int va0_number, .ref a0_readIce, .int va0_readCells, .ref a0_readPeople, .int va0_readMany, .ref a0_readSayings, .int va0_readSaid, .ref a0_line, .ref a0_bestLine, .int va0_bestFar, .int va0_bestIce, .ref a0_seen, .ref a0_held]), (a0_row, aI E 525 va0_row)]) dX8_cell_6 lkX8_47 rfl ⟨rfl, rfl⟩ ⟨by decide, by decide⟩ rfl rfl rfl (Nat.le_of_ble_eq_true rfl) rfl rfl rfl ?_
  refine g_st (st' := [.int o1]) rfl ?_
  refine g_if_ne k (tgt := 14) dX8_cell_9 (by decide) (fun c3 => ?_) (fun c3 => ?_)
  · replace hf := ite_f c3 hf
    refine g_aload_n k 0 dX8_cell_14 rfl rfl ?_
    refine g_get k cfX8 0 0 dX8_cell_15 lkX8_7 (by decide) rfl rfl ?_
    refine g_bipush k dX8_cell_18 bi_26 ?_
    refine g_iaload k 1 dX8_cell_20 rfl vi_26_525 cl_26 ?_
    refine g_bipush k dX8_cell_21 bi_12 ?_
    refine g_icmp_ne k (tgt := 29) dX8_cell_23 (by decide) (fun c4 => ?_) (fun c4 => ?_)
    · replace hf := ite_f c4 hf
      refine g_aload_n k 0 dX8_cell_29 rfl rfl ?_
      refine g_iload_n k 1 dX8_cell_30 rfl rfl ?_
      obtain ⟨o5, ho6, hf⟩ := bnd_some hf
      refine g_cv k miX8_addCell mvX8_addCell (ctX8_addCell (kL K) E N a0 a0_row a0_lanes a0_sizes a0_items a0_tape a0_readIce a0_readPeople a0_readSayings a0_line a0_bestLine a0_seen a0_held va0_isKept va0_length va0_at va0_number va0_readCells va0_readMany va0_readSaid va0_bestFar va0_bestIce va0_row x1 o5 ho6) [0, 1] 0 (ws' := [(a0, oB 8 [.ref a0_row, .int va0_isKept, .ref a0_lanes, .ref a0_sizes, .ref a0_items, .ref a0_tape, .int va0_length, .int va0_at, .int va0_number, .ref a0_readIce, .int va0_readCells, .ref a0_readPeople, .int va0_readMany, .ref a0_readSayings, .int va0_readSaid, .ref a0_line, .ref a0_bestLine, .int va0_bestFar, .int va0_bestIce, .ref a0_seen, .ref a0_held]), (a0_row, aI E 525 o5)]) dX8_cell_31 lkX8_53 rfl ⟨rfl, rfl⟩ ⟨by decide, by decide⟩ rfl rfl rfl rfl (Nat.le_of_ble_eq_true rfl) rfl rfl rfl ?_
      refine g_st (st' := []) rfl ?_
      refine g_aload_n k 0 dX8_cell_34 rfl rfl ?_
      refine g_get k cfX8 0 0 dX8_cell_35 lkX8_7 (by decide) rfl rfl ?_
      refine g_bipush k dX8_cell_38 bi_26 ?_
      refine g_iaload k 1 dX8_cell_40 rfl vi_26_525 cl_26 ?_
      refine g_iconst k dX8_cell_41 ic_1 ?_
      refine g_isub k dX8_cell_42 ?_
      obtain rfl := Option.some.inj hf
      exact g_iret k r dX8_cell_43 ⟨rfl, rfl⟩
    · replace hf := ite_t c4 hf
      refine g_bipush k dX8_cell_26 bi_m3 ?_
      obtain rfl := Option.some.inj hf
      exact g_iret k r dX8_cell_28 ⟨rfl, rfl⟩
  · replace hf := ite_t c3 hf
    refine g_iconst k dX8_cell_12 ic_m1 ?_
    obtain rfl := Option.some.inj hf
    exact g_iret k r dX8_cell_13 ⟨rfl, rfl⟩
abbrev rmX8_addPerson : Room := { frames := 0, cells := 0, slots := 0, locals := 0 }
def fX8_addPerson (N : Nat) (va0_row : Nat → Int32) (x1 : Int32) (x2 : Int32) : Option ((Nat → Int32)) :=
  ixb (29 + (va0_row 27)) 525 fun κ1 =>
  ixb (35 + ((upd va0_row κ1 x1) 27)) 525 fun κ2 =>
  some ((upd (upd (upd (upd va0_row κ1 x1) κ2 x2) 27 (((upd (upd va0_row κ1 x1) κ2 x2) 27) + 1)) 41 0))
set_option maxHeartbeats 4000000 in
set_option maxRecDepth 100000 in
theorem ctX8_addPerson (l : Launch) (E : Ev) (N : Nat) (a0 : Nat) (a0_row : Nat) (a0_lanes : Nat) (a0_sizes : Nat) (a0_items : Nat) (a0_tape : Nat) (a0_readIce : Nat) (a0_readPeople : Nat) (a0_readSayings : Nat) (a0_line : Nat) (a0_bestLine : Nat) (a0_seen : Nat) (a0_held : Nat) (va0_isKept : Int32) (va0_length : Int32) (va0_at : Int32) (va0_number : Int32) (va0_readCells : Int32) (va0_readMany : Int32) (va0_readSaid : Int32) (va0_bestFar : Int32) (va0_bestIce : Int32) (va0_row : Nat → Int32) (x1 : Int32) (x2 : Int32) (out : (Nat → Int32)) (hf : fX8_addPerson N va0_row x1 x2 = some out) : Ct l E yX8_addPerson cX8_addPerson 3 none rmX8_addPerson [.ref a0, .int x1, .int x2] [(a0, oB 8 [.ref a0_row, .int va0_isKept, .ref a0_lanes, .ref a0_sizes, .ref a0_items, .ref a0_tape, .int va0_length, .int va0_at, .int va0_number, .ref a0_readIce, .int va0_readCells, .ref a0_readPeople, .int va0_readMany, .ref a0_readSayings, .int va0_readSaid, .ref a0_line, .ref a0_bestLine, .int va0_bestFar, .int va0_bestIce, .ref a0_seen, .ref a0_held]), (a0_row, aI E 525 va0_row)] (Pe none [(a0, oB 8 [.ref a0_row, .int va0_isKept, .ref a0_lanes, .ref a0_sizes, .ref a0_items, .ref a0_tape, .int va0_length, .int va0_at, .int va0_number, .ref a0_readIce, .int va0_readCells, .ref a0_readPeople, .int va0_readMany, .ref a0_readSayings, .int va0_readSaid, .ref a0_line, .ref a0_bestLine, .int va0_bestFar, .int va0_bestIce, .ref a0_seen, .ref a0_held]), (a0_row, aI E 525 out)]) := by
  refine Ct.of rfl (Nat.le_of_ble_eq_true rfl) (fun K hL k r hin => ?_)
  subst hL
  unfold fX8_addPerson at hf
  show G E K 3 0 0 [(0, .ref a0), (1, .int x1), (2, .int x2)] [] [(a0, oB 8 [.ref a0_row, .int va0_isKept, .ref a0_lanes, .ref a0_sizes, .ref a0_items, .ref a0_tape, .int va0_length, .int va0_at, .int va0_number, .ref a0_readIce, .int va0_readCells, .ref a0_readPeople, .int va0_readMany, .ref a0_readSayings, .int va0_readSaid, .ref a0_line, .ref a0_bestLine, .int va0_bestFar, .int va0_bestIce, .ref a0_seen, .ref a0_held]), (a0_row, aI E 525 va0_row)] 0
  refine g_aload_n k 0 dX8_addPerson_0 rfl rfl ?_
  refine g_get k cfX8 0 0 dX8_addPerson_1 lkX8_7 (by decide) rfl rfl ?_
  refine g_bipush k dX8_addPerson_4 bi_29 ?_
  refine g_aload_n k 0 dX8_addPerson_6 rfl rfl ?_
  refine g_get k cfX8 0 0 dX8_addPerson_7 lkX8_7 (by decide) rfl rfl ?_
  refine g_bipush k dX8_addPerson_10 bi_27 ?_
  refine g_iaload k 1 dX8_addPerson_12 rfl vi_27_525 cl_27 ?_
  refine g_iadd k dX8_addPerson_13 ?_
  refine g_iload_n k 1 dX8_addPerson_14 rfl rfl ?_
  obtain ⟨κ1, hκ1, hiκ1, heκ1, hf⟩ := ixb_some hf
  refine g_iastore k 1 (ws' := [(a0, oB 8 [.ref a0_row, .int va0_isKept, .ref a0_lanes, .ref a0_sizes, .ref a0_items, .ref a0_tape, .int va0_length, .int va0_at, .int va0_number, .ref a0_readIce, .int va0_readCells, .ref a0_readPeople, .int va0_readMany, .ref a0_readSayings, .int va0_readSaid, .ref a0_line, .ref a0_bestLine, .int va0_bestFar, .int va0_bestIce, .ref a0_seen, .ref a0_held]), (a0_row, aI E 525 (upd va0_row κ1 x1))]) dX8_addPerson_15 rfl hiκ1 heκ1 rfl ?_
  refine g_aload_n k 0 dX8_addPerson_16 rfl rfl ?_
  refine g_get k cfX8 0 0 dX8_addPerson_17 lkX8_7 (by decide) rfl rfl ?_
  refine g_bipush k dX8_addPerson_20 bi_35 ?_
  refine g_aload_n k 0 dX8_addPerson_22 rfl rfl ?_
  refine g_get k cfX8 0 0 dX8_addPerson_23 lkX8_7 (by decide) rfl rfl ?_
  refine g_bipush k dX8_addPerson_26 bi_27 ?_
  refine g_iaload k 1 dX8_addPerson_28 rfl vi_27_525 cl_27 ?_
  refine g_iadd k dX8_addPerson_29 ?_
  refine g_iload_n k 2 dX8_addPerson_30 rfl rfl ?_
  obtain ⟨κ2, hκ2, hiκ2, heκ2, hf⟩ := ixb_some hf
  refine g_iastore k 1 (ws' := [(a0, oB 8 [.ref a0_row, .int va0_isKept, .ref a0_lanes, .ref a0_sizes, .ref a0_items, .ref a0_tape, .int va0_length, .int va0_at, .int va0_number, .ref a0_readIce, .int va0_readCells, .ref a0_readPeople, .int va0_readMany, .ref a0_readSayings, .int va0_readSaid, .ref a0_line, .ref a0_bestLine, .int va0_bestFar, .int va0_bestIce, .ref a0_seen, .ref a0_held]), (a0_row, aI E 525 (upd (upd va0_row κ1 x1) κ2 x2))]) dX8_addPerson_31 rfl hiκ2 heκ2 rfl ?_
  refine g_aload_n k 0 dX8_addPerson_32 rfl rfl ?_
  refine g_get k cfX8 0 0 dX8_addPerson_33 lkX8_7 (by decide) rfl rfl ?_
  refine g_bipush k dX8_addPerson_36 bi_27 ?_
  refine g_dup2 k dX8_addPerson_38 rfl rfl ?_
  refine g_iaload k 1 dX8_addPerson_39 rfl vi_27_525 cl_27 ?_
  refine g_iconst k dX8_addPerson_40 ic_1 ?_
  refine g_iadd k dX8_addPerson_41 ?_
  refine g_iastore k 1 (ws' := [(a0, oB 8 [.ref a0_row, .int va0_isKept, .ref a0_lanes, .ref a0_sizes, .ref a0_items, .ref a0_tape, .int va0_length, .int va0_at, .int va0_number, .ref a0_readIce, .int va0_readCells, .ref a0_readPeople, .int va0_readMany, .ref a0_readSayings, .int va0_readSaid, .ref a0_line, .ref a0_bestLine, .int va0_bestFar, .int va0_bestIce, .ref a0_seen, .ref a0_held]), (a0_row, aI E 525 (upd (upd (upd va0_row κ1 x1) κ2 x2) 27 (((upd (upd va0_row κ1 x1) κ2 x2) 27) + 1)))]) dX8_addPerson_42 rfl vi_27_525 cl_27 rfl ?_
  refine g_aload_n k 0 dX8_addPerson_43 rfl rfl ?_
  refine g_get k cfX8 0 0 dX8_addPerson_44 lkX8_7 (by decide) rfl rfl ?_
  refine g_bipush k dX8_addPerson_47 bi_41 ?_
  refine g_iconst k dX8_addPerson_49 ic_0 ?_
  refine g_iastore k 1 (ws' := [(a0, oB 8 [.ref a0_row, .int va0_isKept, .ref a0_lanes, .ref a0_sizes, .ref a0_items, .ref a0_tape, .int va0_length, .int va0_at, .int va0_number, .ref a0_readIce, .int va0_readCells, .ref a0_readPeople, .int va0_readMany, .ref a0_readSayings, .int va0_readSaid, .ref a0_line, .ref a0_bestLine, .int va0_bestFar, .int va0_bestIce, .ref a0_seen, .ref a0_held]), (a0_row, aI E 525 (upd (upd (upd (upd va0_row κ1 x1) κ2 x2) 27 (((upd (upd va0_row κ1 x1) κ2 x2) 27) + 1)) 41 0))]) dX8_addPerson_50 rfl vi_41_525 cl_41 rfl ?_
  obtain rfl := Option.some.inj hf
  exact g_vret k r dX8_addPerson_51 ⟨rfl, rfl⟩
abbrev rmX8_person : Room := { frames := 1, cells := 0, slots := 0, locals := 25 }
def fX8_person (N : Nat) (va0_row : Nat → Int32) (x1 : Int32) (x2 : Int32) : Option (Int32 × (Nat → Int32)) :=
  bnd (fX8_in N x1.toInt64 0 4) fun o1 =>
  if o1 = 0 then
  some ((-1), va0_row)
  else
  bnd (fX8_in N x2.toInt64 1 9) fun o4 =>
  if o4 = 0 then
  some ((-1), va0_row)
  else
  if (va0_row 27) = 6 then
  some ((-3), va0_row)
  else
  bnd (fX8_addPerson N va0_row x1 x2) fun o8 =>
  some (((o8 27) - 1), o8)
set_option maxHeartbeats 4000000 in
set_option maxRecDepth 100000 in
theorem ctX8_person (l : Launch) (E : Ev) (N : Nat) (a0 : Nat) (a0_row : Nat) (a0_lanes : Nat) (a0_sizes : Nat) (a0_items : Nat) (a0_tape : Nat) (a0_readIce : Nat) (a0_readPeople : Nat) (a0_readSayings : Nat) (a0_line : Nat) (a0_bestLine : Nat) (a0_seen : Nat) (a0_held : Nat) (va0_isKept : Int32) (va0_length : Int32) (va0_at : Int32) (va0_number : Int32) (va0_readCells : Int32) (va0_readMany : Int32) (va0_readSaid : Int32) (va0_bestFar : Int32) (va0_bestIce : Int32) (va0_row : Nat → Int32) (x1 : Int32) (x2 : Int32) (out : Int32 × (Nat → Int32)) (hf : fX8_person N va0_row x1 x2 = some out) : Ct l E yX8_person cX8_person 3 (some .int) rmX8_person [.ref a0, .int x1, .int x2] [(a0, oB 8 [.ref a0_row, .int va0_isKept, .ref a0_lanes, .ref a0_sizes, .ref a0_items, .ref a0_tape, .int va0_length, .int va0_at, .int va0_number, .ref a0_readIce, .int va0_readCells, .ref a0_readPeople, .int va0_readMany, .ref a0_readSayings, .int va0_readSaid, .ref a0_line, .ref a0_bestLine, .int va0_bestFar, .int va0_bestIce, .ref a0_seen, .ref a0_held]), (a0_row, aI E 525 va0_row)] (Pe (some (.int out.1)) [(a0, oB 8 [.ref a0_row, .int va0_isKept, .ref a0_lanes, .ref a0_sizes, .ref a0_items, .ref a0_tape, .int va0_length, .int va0_at, .int va0_number, .ref a0_readIce, .int va0_readCells, .ref a0_readPeople, .int va0_readMany, .ref a0_readSayings, .int va0_readSaid, .ref a0_line, .ref a0_bestLine, .int va0_bestFar, .int va0_bestIce, .ref a0_seen, .ref a0_held]), (a0_row, aI E 525 out.2)]) := by
  refine Ct.of rfl (Nat.le_of_ble_eq_true rfl) (fun K hL k r hin => ?_)
  subst hL
  unfold fX8_person at hf
  show G E K 3 0 0 [(0, .ref a0), (1, .int x1), (2, .int x2)] [] [(a0, oB 8 [.ref a0_row, .int va0_isKept, .ref a0_lanes, .ref a0_sizes, .ref a0_items, .ref a0_tape, .int va0_length, .int va0_at, .int va0_number, .ref a0_readIce, .int va0_readCells, .ref a0_readPeople, .int va0_readMany, .ref a0_readSayings, .int va0_readSaid, .ref a0_line, .ref a0_bestLine, .int va0_bestFar, .int va0_bestIce, .ref a0_seen, .ref a0_held]), (a0_row, aI E 525 va0_row)] 0
  refine g_iload_n k 1 dX8_person_0 rfl rfl ?_
  refine g_i2l k dX8_person_1 ?_
  refine g_lconst k dX8_person_2 lc_0 ?_
  refine g_ldc2 k dX8_person_3 lkX8_57 ?_
  obtain ⟨o1, ho2, hf⟩ := bnd_some hf
  refine g_cs k miX8_in msX8_in (ctX8_in (kL K) E N   x1.toInt64 0 4 o1 ho2) [] (ws' := [(a0, oB 8 [.ref a0_row, .int va0_isKept, .ref a0_lanes, .ref a0_sizes, .ref a0_items, .ref a0_tape, .int va0_length, .int va0_at, .int va0_number, .ref a0_readIce, .int va0_readCells, .ref a0_readPeople, .int va0_readMany, .ref a0_readSayings, .int va0_readSaid, .ref a0_line, .ref a0_bestLine, .int va0_bestFar, .int va0_bestIce, .ref a0_seen, .ref a0_held]), (a0_row, aI E 525 va0_row)]) dX8_person_6 lkX8_47 rfl ⟨rfl, rfl⟩ ⟨by decide, by decide⟩ rfl rfl rfl (Nat.le_of_ble_eq_true rfl) rfl rfl rfl ?_
  refine g_st (st' := [.int o1]) rfl ?_
  refine g_if_eq k (tgt := 24) dX8_person_9 (by decide) (fun c3 => ?_) (fun c3 => ?_)
  · replace hf := ite_t c3 hf
    refine g_iconst k dX8_person_24 ic_m1 ?_
    obtain rfl := Option.some.inj hf
    exact g_iret k r dX8_person_25 ⟨rfl, rfl⟩
  · replace hf := ite_f c3 hf
    refine g_iload_n k 2 dX8_person_12 rfl rfl ?_
    refine g_i2l k dX8_person_13 ?_
    refine g_lconst k dX8_person_14 lc_1 ?_
    refine g_ldc2 k dX8_person_15 lkX8_59 ?_
    obtain ⟨o4, ho5, hf⟩ := bnd_some hf
    refine g_cs k miX8_in msX8_in (ctX8_in (kL K) E N   x2.toInt64 1 9 o4 ho5) [] (ws' := [(a0, oB 8 [.ref a0_row, .int va0_isKept, .ref a0_lanes, .ref a0_sizes, .ref a0_items, .ref a0_tape, .int va0_length, .int va0_at, .int va0_number, .ref a0_readIce, .int va0_readCells, .ref a0_readPeople, .int va0_readMany, .ref a0_readSayings, .int va0_readSaid, .ref a0_line, .ref a0_bestLine, .int va0_bestFar, .int va0_bestIce, .ref a0_seen, .ref a0_held]), (a0_row, aI E 525 va0_row)]) dX8_person_18 lkX8_47 rfl ⟨rfl, rfl⟩ ⟨by decide, by decide⟩ rfl rfl rfl (Nat.le_of_ble_eq_true rfl) rfl rfl rfl ?_
    refine g_st (st' := [.int o4]) rfl ?_
    refine g_if_ne k (tgt := 26) dX8_person_21 (by decide) (fun c6 => ?_) (fun c6 => ?_)
    · replace hf := ite_f c6 hf
      refine g_aload_n k 0 dX8_person_26 rfl rfl ?_
      refine g_get k cfX8 0 0 dX8_person_27 lkX8_7 (by decide) rfl rfl ?_
      refine g_bipush k dX8_person_30 bi_27 ?_
      refine g_iaload k 1 dX8_person_32 rfl vi_27_525 cl_27 ?_
      refine g_bipush k dX8_person_33 bi_6 ?_
      refine g_icmp_ne k (tgt := 41) dX8_person_35 (by decide) (fun c7 => ?_) (fun c7 => ?_)
      · replace hf := ite_f c7 hf
        refine g_aload_n k 0 dX8_person_41 rfl rfl ?_
        refine g_iload_n k 1 dX8_person_42 rfl rfl ?_
        refine g_iload_n k 2 dX8_person_43 rfl rfl ?_
        obtain ⟨o8, ho9, hf⟩ := bnd_some hf
        refine g_cv k miX8_addPerson mvX8_addPerson (ctX8_addPerson (kL K) E N a0 a0_row a0_lanes a0_sizes a0_items a0_tape a0_readIce a0_readPeople a0_readSayings a0_line a0_bestLine a0_seen a0_held va0_isKept va0_length va0_at va0_number va0_readCells va0_readMany va0_readSaid va0_bestFar va0_bestIce va0_row x1 x2 o8 ho9) [0, 1] 0 (ws' := [(a0, oB 8 [.ref a0_row, .int va0_isKept, .ref a0_lanes, .ref a0_sizes, .ref a0_items, .ref a0_tape, .int va0_length, .int va0_at, .int va0_number, .ref a0_readIce, .int va0_readCells, .ref a0_readPeople, .int va0_readMany, .ref a0_readSayings, .int va0_readSaid, .ref a0_line, .ref a0_bestLine, .int va0_bestFar, .int va0_bestIce, .ref a0_seen, .ref a0_held]), (a0_row, aI E 525 o8)]) dX8_person_44 lkX8_61 rfl ⟨rfl, rfl⟩ ⟨by decide, by decide⟩ rfl rfl rfl rfl (Nat.le_of_ble_eq_true rfl) rfl rfl rfl ?_
        refine g_st (st' := []) rfl ?_
        refine g_aload_n k 0 dX8_person_47 rfl rfl ?_
        refine g_get k cfX8 0 0 dX8_person_48 lkX8_7 (by decide) rfl rfl ?_
        refine g_bipush k dX8_person_51 bi_27 ?_
        refine g_iaload k 1 dX8_person_53 rfl vi_27_525 cl_27 ?_
        refine g_iconst k dX8_person_54 ic_1 ?_
        refine g_isub k dX8_person_55 ?_
        obtain rfl := Option.some.inj hf
        exact g_iret k r dX8_person_56 ⟨rfl, rfl⟩
      · replace hf := ite_t c7 hf
        refine g_bipush k dX8_person_38 bi_m3 ?_
        obtain rfl := Option.some.inj hf
        exact g_iret k r dX8_person_40 ⟨rfl, rfl⟩
    · replace hf := ite_t c6 hf
      refine g_iconst k dX8_person_24 ic_m1 ?_
      obtain rfl := Option.some.inj hf
      exact g_iret k r dX8_person_25 ⟨rfl, rfl⟩
abbrev rmX8_addSaying : Room := { frames := 0, cells := 0, slots := 0, locals := 0 }
def fX8_addSaying (N : Nat) (va0_row : Nat → Int32) (x1 : Int32) (x2 : Int32) : Option ((Nat → Int32)) :=
  ixb (15 + (va0_row 28)) 525 fun κ1 =>
  ixb (20 + ((upd va0_row κ1 x1) 28)) 525 fun κ2 =>
  some ((upd (upd (upd (upd va0_row κ1 x1) κ2 x2) 28 (((upd (upd va0_row κ1 x1) κ2 x2) 28) + 1)) 41 0))
set_option maxHeartbeats 4000000 in
set_option maxRecDepth 100000 in
theorem ctX8_addSaying (l : Launch) (E : Ev) (N : Nat) (a0 : Nat) (a0_row : Nat) (a0_lanes : Nat) (a0_sizes : Nat) (a0_items : Nat) (a0_tape : Nat) (a0_readIce : Nat) (a0_readPeople : Nat) (a0_readSayings : Nat) (a0_line : Nat) (a0_bestLine : Nat) (a0_seen : Nat) (a0_held : Nat) (va0_isKept : Int32) (va0_length : Int32) (va0_at : Int32) (va0_number : Int32) (va0_readCells : Int32) (va0_readMany : Int32) (va0_readSaid : Int32) (va0_bestFar : Int32) (va0_bestIce : Int32) (va0_row : Nat → Int32) (x1 : Int32) (x2 : Int32) (out : (Nat → Int32)) (hf : fX8_addSaying N va0_row x1 x2 = some out) : Ct l E yX8_addSaying cX8_addSaying 3 none rmX8_addSaying [.ref a0, .int x1, .int x2] [(a0, oB 8 [.ref a0_row, .int va0_isKept, .ref a0_lanes, .ref a0_sizes, .ref a0_items, .ref a0_tape, .int va0_length, .int va0_at, .int va0_number, .ref a0_readIce, .int va0_readCells, .ref a0_readPeople, .int va0_readMany, .ref a0_readSayings, .int va0_readSaid, .ref a0_line, .ref a0_bestLine, .int va0_bestFar, .int va0_bestIce, .ref a0_seen, .ref a0_held]), (a0_row, aI E 525 va0_row)] (Pe none [(a0, oB 8 [.ref a0_row, .int va0_isKept, .ref a0_lanes, .ref a0_sizes, .ref a0_items, .ref a0_tape, .int va0_length, .int va0_at, .int va0_number, .ref a0_readIce, .int va0_readCells, .ref a0_readPeople, .int va0_readMany, .ref a0_readSayings, .int va0_readSaid, .ref a0_line, .ref a0_bestLine, .int va0_bestFar, .int va0_bestIce, .ref a0_seen, .ref a0_held]), (a0_row, aI E 525 out)]) := by
  refine Ct.of rfl (Nat.le_of_ble_eq_true rfl) (fun K hL k r hin => ?_)
  subst hL
  unfold fX8_addSaying at hf
  show G E K 3 0 0 [(0, .ref a0), (1, .int x1), (2, .int x2)] [] [(a0, oB 8 [.ref a0_row, .int va0_isKept, .ref a0_lanes, .ref a0_sizes, .ref a0_items, .ref a0_tape, .int va0_length, .int va0_at, .int va0_number, .ref a0_readIce, .int va0_readCells, .ref a0_readPeople, .int va0_readMany, .ref a0_readSayings, .int va0_readSaid, .ref a0_line, .ref a0_bestLine, .int va0_bestFar, .int va0_bestIce, .ref a0_seen, .ref a0_held]), (a0_row, aI E 525 va0_row)] 0
  refine g_aload_n k 0 dX8_addSaying_0 rfl rfl ?_
  refine g_get k cfX8 0 0 dX8_addSaying_1 lkX8_7 (by decide) rfl rfl ?_
  refine g_bipush k dX8_addSaying_4 bi_15 ?_
  refine g_aload_n k 0 dX8_addSaying_6 rfl rfl ?_
  refine g_get k cfX8 0 0 dX8_addSaying_7 lkX8_7 (by decide) rfl rfl ?_
  refine g_bipush k dX8_addSaying_10 bi_28 ?_
  refine g_iaload k 1 dX8_addSaying_12 rfl vi_28_525 cl_28 ?_
  refine g_iadd k dX8_addSaying_13 ?_
  refine g_iload_n k 1 dX8_addSaying_14 rfl rfl ?_
  obtain ⟨κ1, hκ1, hiκ1, heκ1, hf⟩ := ixb_some hf
  refine g_iastore k 1 (ws' := [(a0, oB 8 [.ref a0_row, .int va0_isKept, .ref a0_lanes, .ref a0_sizes, .ref a0_items, .ref a0_tape, .int va0_length, .int va0_at, .int va0_number, .ref a0_readIce, .int va0_readCells, .ref a0_readPeople, .int va0_readMany, .ref a0_readSayings, .int va0_readSaid, .ref a0_line, .ref a0_bestLine, .int va0_bestFar, .int va0_bestIce, .ref a0_seen, .ref a0_held]), (a0_row, aI E 525 (upd va0_row κ1 x1))]) dX8_addSaying_15 rfl hiκ1 heκ1 rfl ?_
  refine g_aload_n k 0 dX8_addSaying_16 rfl rfl ?_
  refine g_get k cfX8 0 0 dX8_addSaying_17 lkX8_7 (by decide) rfl rfl ?_
  refine g_bipush k dX8_addSaying_20 bi_20 ?_
  refine g_aload_n k 0 dX8_addSaying_22 rfl rfl ?_
  refine g_get k cfX8 0 0 dX8_addSaying_23 lkX8_7 (by decide) rfl rfl ?_
  refine g_bipush k dX8_addSaying_26 bi_28 ?_
  refine g_iaload k 1 dX8_addSaying_28 rfl vi_28_525 cl_28 ?_
  refine g_iadd k dX8_addSaying_29 ?_
  refine g_iload_n k 2 dX8_addSaying_30 rfl rfl ?_
  obtain ⟨κ2, hκ2, hiκ2, heκ2, hf⟩ := ixb_some hf
  refine g_iastore k 1 (ws' := [(a0, oB 8 [.ref a0_row, .int va0_isKept, .ref a0_lanes, .ref a0_sizes, .ref a0_items, .ref a0_tape, .int va0_length, .int va0_at, .int va0_number, .ref a0_readIce, .int va0_readCells, .ref a0_readPeople, .int va0_readMany, .ref a0_readSayings, .int va0_readSaid, .ref a0_line, .ref a0_bestLine, .int va0_bestFar, .int va0_bestIce, .ref a0_seen, .ref a0_held]), (a0_row, aI E 525 (upd (upd va0_row κ1 x1) κ2 x2))]) dX8_addSaying_31 rfl hiκ2 heκ2 rfl ?_
  refine g_aload_n k 0 dX8_addSaying_32 rfl rfl ?_
  refine g_get k cfX8 0 0 dX8_addSaying_33 lkX8_7 (by decide) rfl rfl ?_
  refine g_bipush k dX8_addSaying_36 bi_28 ?_
  refine g_dup2 k dX8_addSaying_38 rfl rfl ?_
  refine g_iaload k 1 dX8_addSaying_39 rfl vi_28_525 cl_28 ?_
  refine g_iconst k dX8_addSaying_40 ic_1 ?_
  refine g_iadd k dX8_addSaying_41 ?_
  refine g_iastore k 1 (ws' := [(a0, oB 8 [.ref a0_row, .int va0_isKept, .ref a0_lanes, .ref a0_sizes, .ref a0_items, .ref a0_tape, .int va0_length, .int va0_at, .int va0_number, .ref a0_readIce, .int va0_readCells, .ref a0_readPeople, .int va0_readMany, .ref a0_readSayings, .int va0_readSaid, .ref a0_line, .ref a0_bestLine, .int va0_bestFar, .int va0_bestIce, .ref a0_seen, .ref a0_held]), (a0_row, aI E 525 (upd (upd (upd va0_row κ1 x1) κ2 x2) 28 (((upd (upd va0_row κ1 x1) κ2 x2) 28) + 1)))]) dX8_addSaying_42 rfl vi_28_525 cl_28 rfl ?_
  refine g_aload_n k 0 dX8_addSaying_43 rfl rfl ?_
  refine g_get k cfX8 0 0 dX8_addSaying_44 lkX8_7 (by decide) rfl rfl ?_
  refine g_bipush k dX8_addSaying_47 bi_41 ?_
  refine g_iconst k dX8_addSaying_49 ic_0 ?_
  refine g_iastore k 1 (ws' := [(a0, oB 8 [.ref a0_row, .int va0_isKept, .ref a0_lanes, .ref a0_sizes, .ref a0_items, .ref a0_tape, .int va0_length, .int va0_at, .int va0_number, .ref a0_readIce, .int va0_readCells, .ref a0_readPeople, .int va0_readMany, .ref a0_readSayings, .int va0_readSaid, .ref a0_line, .ref a0_bestLine, .int va0_bestFar, .int va0_bestIce, .ref a0_seen, .ref a0_held]), (a0_row, aI E 525 (upd (upd (upd (upd va0_row κ1 x1) κ2 x2) 28 (((upd (upd va0_row κ1 x1) κ2 x2) 28) + 1)) 41 0))]) dX8_addSaying_50 rfl vi_41_525 cl_41 rfl ?_
  obtain rfl := Option.some.inj hf
  exact g_vret k r dX8_addSaying_51 ⟨rfl, rfl⟩
abbrev rmX8_saying : Room := { frames := 1, cells := 0, slots := 0, locals := 25 }
def fX8_saying (N : Nat) (va0_row : Nat → Int32) (x1 : Int32) (x2 : Int32) : Option (Int32 × (Nat → Int32)) :=
  bnd (fX8_in N x1.toInt64 0 20) fun o1 =>
  if o1 = 0 then
  some ((-1), va0_row)
  else
  bnd (fX8_everybody N va0_row) fun o4 =>
  bnd (fX8_in N x2.toInt64 0 o4.toInt64) fun o6 =>
  if o6 = 0 then
  some ((-1), va0_row)
  else
  if (va0_row 28) = 5 then
  some ((-3), va0_row)
  else
  bnd (fX8_addSaying N va0_row x1 x2) fun o10 =>
  some (((o10 28) - 1), o10)
set_option maxHeartbeats 4000000 in
set_option maxRecDepth 100000 in
theorem ctX8_saying (l : Launch) (E : Ev) (N : Nat) (a0 : Nat) (a0_row : Nat) (a0_lanes : Nat) (a0_sizes : Nat) (a0_items : Nat) (a0_tape : Nat) (a0_readIce : Nat) (a0_readPeople : Nat) (a0_readSayings : Nat) (a0_line : Nat) (a0_bestLine : Nat) (a0_seen : Nat) (a0_held : Nat) (va0_isKept : Int32) (va0_length : Int32) (va0_at : Int32) (va0_number : Int32) (va0_readCells : Int32) (va0_readMany : Int32) (va0_readSaid : Int32) (va0_bestFar : Int32) (va0_bestIce : Int32) (va0_row : Nat → Int32) (x1 : Int32) (x2 : Int32) (out : Int32 × (Nat → Int32)) (hf : fX8_saying N va0_row x1 x2 = some out) : Ct l E yX8_saying cX8_saying 3 (some .int) rmX8_saying [.ref a0, .int x1, .int x2] [(a0, oB 8 [.ref a0_row, .int va0_isKept, .ref a0_lanes, .ref a0_sizes, .ref a0_items, .ref a0_tape, .int va0_length, .int va0_at, .int va0_number, .ref a0_readIce, .int va0_readCells, .ref a0_readPeople, .int va0_readMany, .ref a0_readSayings, .int va0_readSaid, .ref a0_line, .ref a0_bestLine, .int va0_bestFar, .int va0_bestIce, .ref a0_seen, .ref a0_held]), (a0_row, aI E 525 va0_row)] (Pe (some (.int out.1)) [(a0, oB 8 [.ref a0_row, .int va0_isKept, .ref a0_lanes, .ref a0_sizes, .ref a0_items, .ref a0_tape, .int va0_length, .int va0_at, .int va0_number, .ref a0_readIce, .int va0_readCells, .ref a0_readPeople, .int va0_readMany, .ref a0_readSayings, .int va0_readSaid, .ref a0_line, .ref a0_bestLine, .int va0_bestFar, .int va0_bestIce, .ref a0_seen, .ref a0_held]), (a0_row, aI E 525 out.2)]) := by
  refine Ct.of rfl (Nat.le_of_ble_eq_true rfl) (fun K hL k r hin => ?_)
  subst hL
  unfold fX8_saying at hf
  show G E K 3 0 0 [(0, .ref a0), (1, .int x1), (2, .int x2)] [] [(a0, oB 8 [.ref a0_row, .int va0_isKept, .ref a0_lanes, .ref a0_sizes, .ref a0_items, .ref a0_tape, .int va0_length, .int va0_at, .int va0_number, .ref a0_readIce, .int va0_readCells, .ref a0_readPeople, .int va0_readMany, .ref a0_readSayings, .int va0_readSaid, .ref a0_line, .ref a0_bestLine, .int va0_bestFar, .int va0_bestIce, .ref a0_seen, .ref a0_held]), (a0_row, aI E 525 va0_row)] 0
  refine g_iload_n k 1 dX8_saying_0 rfl rfl ?_
  refine g_i2l k dX8_saying_1 ?_
  refine g_lconst k dX8_saying_2 lc_0 ?_
  refine g_ldc2 k dX8_saying_3 lkX8_65 ?_
  obtain ⟨o1, ho2, hf⟩ := bnd_some hf
  refine g_cs k miX8_in msX8_in (ctX8_in (kL K) E N   x1.toInt64 0 20 o1 ho2) [] (ws' := [(a0, oB 8 [.ref a0_row, .int va0_isKept, .ref a0_lanes, .ref a0_sizes, .ref a0_items, .ref a0_tape, .int va0_length, .int va0_at, .int va0_number, .ref a0_readIce, .int va0_readCells, .ref a0_readPeople, .int va0_readMany, .ref a0_readSayings, .int va0_readSaid, .ref a0_line, .ref a0_bestLine, .int va0_bestFar, .int va0_bestIce, .ref a0_seen, .ref a0_held]), (a0_row, aI E 525 va0_row)]) dX8_saying_6 lkX8_47 rfl ⟨rfl, rfl⟩ ⟨by decide, by decide⟩ rfl rfl rfl (Nat.le_of_ble_eq_true rfl) rfl rfl rfl ?_
  refine g_st (st' := [.int o1]) rfl ?_
  refine g_if_eq k (tgt := 26) dX8_saying_9 (by decide) (fun c3 => ?_) (fun c3 => ?_)
  · replace hf := ite_t c3 hf
    refine g_iconst k dX8_saying_26 ic_m1 ?_
    obtain rfl := Option.some.inj hf
    exact g_iret k r dX8_saying_27 ⟨rfl, rfl⟩
  · replace hf := ite_f c3 hf
    refine g_iload_n k 2 dX8_saying_12 rfl rfl ?_
    refine g_i2l k dX8_saying_13 ?_
    refine g_lconst k dX8_saying_14 lc_0 ?_
    refine g_aload_n k 0 dX8_saying_15 rfl rfl ?_
    obtain ⟨o4, ho5, hf⟩ := bnd_some hf
    refine g_cv k miX8_everybody mvX8_everybody (ctX8_everybody (kL K) E N a0 a0_row a0_lanes a0_sizes a0_items a0_tape a0_readIce a0_readPeople a0_readSayings a0_line a0_bestLine a0_seen a0_held va0_isKept va0_length va0_at va0_number va0_readCells va0_readMany va0_readSaid va0_bestFar va0_bestIce va0_row  o4 ho5) [0, 1] 0 (ws' := [(a0, oB 8 [.ref a0_row, .int va0_isKept, .ref a0_lanes, .ref a0_sizes, .ref a0_items, .ref a0_tape, .int va0_length, .int va0_at, .int va0_number, .ref a0_readIce, .int va0_readCells, .ref a0_readPeople, .int va0_readMany, .ref a0_readSayings, .int va0_readSaid, .ref a0_line, .ref a0_bestLine, .int va0_bestFar, .int va0_bestIce, .ref a0_seen, .ref a0_held]), (a0_row, aI E 525 va0_row)]) dX8_saying_16 lkX8_67 rfl ⟨rfl, rfl⟩ ⟨by decide, by decide⟩ rfl rfl rfl rfl (Nat.le_of_ble_eq_true rfl) rfl rfl rfl ?_
    refine g_st (st' := [.int o4, .long 0, .long x2.toInt64]) rfl ?_
    refine g_i2l k dX8_saying_19 ?_
    obtain ⟨o6, ho7, hf⟩ := bnd_some hf
    refine g_cs k miX8_in msX8_in (ctX8_in (kL K) E N   x2.toInt64 0 o4.toInt64 o6 ho7) [] (ws' := [(a0, oB 8 [.ref a0_row, .int va0_isKept, .ref a0_lanes, .ref a0_sizes, .ref a0_items, .ref a0_tape, .int va0_length, .int va0_at, .int va0_number, .ref a0_readIce, .int va0_readCells, .ref a0_readPeople, .int va0_readMany, .ref a0_readSayings, .int va0_readSaid, .ref a0_line, .ref a0_bestLine, .int va0_bestFar, .int va0_bestIce, .ref a0_seen, .ref a0_held]), (a0_row, aI E 525 va0_row)]) dX8_saying_20 lkX8_47 rfl ⟨rfl, rfl⟩ ⟨by decide, by decide⟩ rfl rfl rfl (Nat.le_of_ble_eq_true rfl) rfl rfl rfl ?_
    refine g_st (st' := [.int o6]) rfl ?_
    refine g_if_ne k (tgt := 28) dX8_saying_23 (by decide) (fun c8 => ?_) (fun c8 => ?_)
    · replace hf := ite_f c8 hf
      refine g_aload_n k 0 dX8_saying_28 rfl rfl ?_
      refine g_get k cfX8 0 0 dX8_saying_29 lkX8_7 (by decide) rfl rfl ?_
      refine g_bipush k dX8_saying_32 bi_28 ?_
      refine g_iaload k 1 dX8_saying_34 rfl vi_28_525 cl_28 ?_
      refine g_iconst k dX8_saying_35 ic_5 ?_
      refine g_icmp_ne k (tgt := 42) dX8_saying_36 (by decide) (fun c9 => ?_) (fun c9 => ?_)
      · replace hf := ite_f c9 hf
        refine g_aload_n k 0 dX8_saying_42 rfl rfl ?_
        refine g_iload_n k 1 dX8_saying_43 rfl rfl ?_
        refine g_iload_n k 2 dX8_saying_44 rfl rfl ?_
        obtain ⟨o10, ho11, hf⟩ := bnd_some hf
        refine g_cv k miX8_addSaying mvX8_addSaying (ctX8_addSaying (kL K) E N a0 a0_row a0_lanes a0_sizes a0_items a0_tape a0_readIce a0_readPeople a0_readSayings a0_line a0_bestLine a0_seen a0_held va0_isKept va0_length va0_at va0_number va0_readCells va0_readMany va0_readSaid va0_bestFar va0_bestIce va0_row x1 x2 o10 ho11) [0, 1] 0 (ws' := [(a0, oB 8 [.ref a0_row, .int va0_isKept, .ref a0_lanes, .ref a0_sizes, .ref a0_items, .ref a0_tape, .int va0_length, .int va0_at, .int va0_number, .ref a0_readIce, .int va0_readCells, .ref a0_readPeople, .int va0_readMany, .ref a0_readSayings, .int va0_readSaid, .ref a0_line, .ref a0_bestLine, .int va0_bestFar, .int va0_bestIce, .ref a0_seen, .ref a0_held]), (a0_row, aI E 525 o10)]) dX8_saying_45 lkX8_71 rfl ⟨rfl, rfl⟩ ⟨by decide, by decide⟩ rfl rfl rfl rfl (Nat.le_of_ble_eq_true rfl) rfl rfl rfl ?_
        refine g_st (st' := []) rfl ?_
        refine g_aload_n k 0 dX8_saying_48 rfl rfl ?_
        refine g_get k cfX8 0 0 dX8_saying_49 lkX8_7 (by decide) rfl rfl ?_
        refine g_bipush k dX8_saying_52 bi_28 ?_
        refine g_iaload k 1 dX8_saying_54 rfl vi_28_525 cl_28 ?_
        refine g_iconst k dX8_saying_55 ic_1 ?_
        refine g_isub k dX8_saying_56 ?_
        obtain rfl := Option.some.inj hf
        exact g_iret k r dX8_saying_57 ⟨rfl, rfl⟩
      · replace hf := ite_t c9 hf
        refine g_bipush k dX8_saying_39 bi_m3 ?_
        obtain rfl := Option.some.inj hf
        exact g_iret k r dX8_saying_41 ⟨rfl, rfl⟩
    · replace hf := ite_t c8 hf
      refine g_iconst k dX8_saying_26 ic_m1 ?_
      obtain rfl := Option.some.inj hf
      exact g_iret k r dX8_saying_27 ⟨rfl, rfl⟩
abbrev rmX8_ice : Room := { frames := 2, cells := 0, slots := 0, locals := 46 }
def fX8_ice (N : Nat) (va0_row : Nat → Int32) (x1 : Int32) : Option (Int32) :=
  bnd (fX8_isCell N va0_row x1) fun o1 =>
  if o1 = 0 then
  some ((-1))
  else
  ixb (3 + x1) 525 fun κ4 =>
  some ((va0_row κ4))
set_option maxHeartbeats 4000000 in
set_option maxRecDepth 100000 in
theorem ctX8_ice (l : Launch) (E : Ev) (N : Nat) (a0 : Nat) (a0_row : Nat) (a0_lanes : Nat) (a0_sizes : Nat) (a0_items : Nat) (a0_tape : Nat) (a0_readIce : Nat) (a0_readPeople : Nat) (a0_readSayings : Nat) (a0_line : Nat) (a0_bestLine : Nat) (a0_seen : Nat) (a0_held : Nat) (va0_isKept : Int32) (va0_length : Int32) (va0_at : Int32) (va0_number : Int32) (va0_readCells : Int32) (va0_readMany : Int32) (va0_readSaid : Int32) (va0_bestFar : Int32) (va0_bestIce : Int32) (va0_row : Nat → Int32) (x1 : Int32) (out : Int32) (hf : fX8_ice N va0_row x1 = some out) : Ct l E yX8_ice cX8_ice 2 (some .int) rmX8_ice [.ref a0, .int x1] [(a0, oB 8 [.ref a0_row, .int va0_isKept, .ref a0_lanes, .ref a0_sizes, .ref a0_items, .ref a0_tape, .int va0_length, .int va0_at, .int va0_number, .ref a0_readIce, .int va0_readCells, .ref a0_readPeople, .int va0_readMany, .ref a0_readSayings, .int va0_readSaid, .ref a0_line, .ref a0_bestLine, .int va0_bestFar, .int va0_bestIce, .ref a0_seen, .ref a0_held]), (a0_row, aI E 525 va0_row)] (Pe (some (.int out)) [(a0, oB 8 [.ref a0_row, .int va0_isKept, .ref a0_lanes, .ref a0_sizes, .ref a0_items, .ref a0_tape, .int va0_length, .int va0_at, .int va0_number, .ref a0_readIce, .int va0_readCells, .ref a0_readPeople, .int va0_readMany, .ref a0_readSayings, .int va0_readSaid, .ref a0_line, .ref a0_bestLine, .int va0_bestFar, .int va0_bestIce, .ref a0_seen, .ref a0_held]), (a0_row, aI E 525 va0_row)]) := by
  refine Ct.of rfl (Nat.le_of_ble_eq_true rfl) (fun K hL k r hin => ?_)
  subst hL
  unfold fX8_ice at hf
  show G E K 2 0 0 [(0, .ref a0), (1, .int x1)] [] [(a0, oB 8 [.ref a0_row, .int va0_isKept, .ref a0_lanes, .ref a0_sizes, .ref a0_items, .ref a0_tape, .int va0_length, .int va0_at, .int va0_number, .ref a0_readIce, .int va0_readCells, .ref a0_readPeople, .int va0_readMany, .ref a0_readSayings, .int va0_readSaid, .ref a0_line, .ref a0_bestLine, .int va0_bestFar, .int va0_bestIce, .ref a0_seen, .ref a0_held]), (a0_row, aI E 525 va0_row)] 0
  refine g_aload_n k 0 dX8_ice_0 rfl rfl ?_
  refine g_iload_n k 1 dX8_ice_1 rfl rfl ?_
  obtain ⟨o1, ho2, hf⟩ := bnd_some hf
  refine g_cv k miX8_isCell mvX8_isCell (ctX8_isCell (kL K) E N a0 a0_row a0_lanes a0_sizes a0_items a0_tape a0_readIce a0_readPeople a0_readSayings a0_line a0_bestLine a0_seen a0_held va0_isKept va0_length va0_at va0_number va0_readCells va0_readMany va0_readSaid va0_bestFar va0_bestIce va0_row x1 o1 ho2) [0, 1] 0 (ws' := [(a0, oB 8 [.ref a0_row, .int va0_isKept, .ref a0_lanes, .ref a0_sizes, .ref a0_items, .ref a0_tape, .int va0_length, .int va0_at, .int va0_number, .ref a0_readIce, .int va0_readCells, .ref a0_readPeople, .int va0_readMany, .ref a0_readSayings, .int va0_readSaid, .ref a0_line, .ref a0_bestLine, .int va0_bestFar, .int va0_bestIce, .ref a0_seen, .ref a0_held]), (a0_row, aI E 525 va0_row)]) dX8_ice_2 lkX8_74 rfl ⟨rfl, rfl⟩ ⟨by decide, by decide⟩ rfl rfl rfl rfl (Nat.le_of_ble_eq_true rfl) rfl rfl rfl ?_
  refine g_st (st' := [.int o1]) rfl ?_
  refine g_if_eq k (tgt := 19) dX8_ice_5 (by decide) (fun c3 => ?_) (fun c3 => ?_)
  · replace hf := ite_t c3 hf
    refine g_iconst k dX8_ice_19 ic_m1 ?_
    obtain rfl := Option.some.inj hf
    exact g_iret k r dX8_ice_20 ⟨rfl, rfl⟩
  · replace hf := ite_f c3 hf
    refine g_aload_n k 0 dX8_ice_8 rfl rfl ?_
    refine g_get k cfX8 0 0 dX8_ice_9 lkX8_7 (by decide) rfl rfl ?_
    refine g_iconst k dX8_ice_12 ic_3 ?_
    refine g_iload_n k 1 dX8_ice_13 rfl rfl ?_
    refine g_iadd k dX8_ice_14 ?_
    obtain ⟨κ4, hκ4, hiκ4, heκ4, hf⟩ := ixb_some hf
    refine g_iaload k 1 dX8_ice_15 rfl hiκ4 heκ4 ?_
    refine g_goto k (tgt := 20) dX8_ice_16 (by decide) ?_
    obtain rfl := Option.some.inj hf
    exact g_iret k r dX8_ice_20 ⟨rfl, rfl⟩
abbrev rmX8_rocksBy : Room := { frames := 1, cells := 0, slots := 0, locals := 22 }
def fX8_rocksBy (N : Nat) (va0_row : Nat → Int32) (x1 : Int32) (x2 : Int32) (x3 : Int32) (x4 : Int32) : Option (Int32) :=
  ixb (35 + x2) 525 fun κ1 =>
  if 6 ≤ x3 then
  ixb (29 + x2) 525 fun κ3 =>
  if (va0_row κ3) = 1 then
  some (((va0_row κ1) + (x3 / 4)))
  else
  if (va0_row κ3) = 2 then
  some ((va0_row κ1))
  else
  if (va0_row κ3) = 3 then
  bnd (fX8_bits N x4) fun o7 =>
  if o7 = 1 then
  some ((2 * ((va0_row κ1) + (x3 / 4))))
  else
  some (((va0_row κ1) + (x3 / 4)))
  else
  if (va0_row κ3) = 4 then
  ixb (x1 + 1) 525 fun κ11 =>
  if (irem (va0_row κ11) 2) = 0 then
  some (((va0_row κ1) + 3))
  else
  some ((va0_row κ1))
  else
  some ((va0_row κ1))
  else
  ixb (29 + x2) 525 fun κ13 =>
  if (va0_row κ13) = 1 then
  some (((va0_row κ1) + (x3 / 4)))
  else
  if (va0_row κ13) = 2 then
  some (0)
  else
  if (va0_row κ13) = 3 then
  bnd (fX8_bits N x4) fun o17 =>
  if o17 = 1 then
  some ((2 * ((va0_row κ1) + (x3 / 4))))
  else
  some (((va0_row κ1) + (x3 / 4)))
  else
  if (va0_row κ13) = 4 then
  ixb (x1 + 1) 525 fun κ21 =>
  if (irem (va0_row κ21) 2) = 0 then
  some ((0 + 3))
  else
  some (0)
  else
  some ((va0_row κ1))
set_option maxHeartbeats 4000000 in
set_option maxRecDepth 100000 in
theorem ctX8_rocksBy (l : Launch) (E : Ev) (N : Nat) (a0 : Nat) (a0_row : Nat) (a0_lanes : Nat) (a0_sizes : Nat) (a0_items : Nat) (a0_tape : Nat) (a0_readIce : Nat) (a0_readPeople : Nat) (a0_readSayings : Nat) (a0_line : Nat) (a0_bestLine : Nat) (a0_seen : Nat) (a0_held : Nat) (va0_isKept : Int32) (va0_length : Int32) (va0_at : Int32) (va0_number : Int32) (va0_readCells : Int32) (va0_readMany : Int32) (va0_readSaid : Int32) (va0_bestFar : Int32) (va0_bestIce : Int32) (va0_row : Nat → Int32) (x1 : Int32) (x2 : Int32) (x3 : Int32) (x4 : Int32) (out : Int32) (hf : fX8_rocksBy N va0_row x1 x2 x3 x4 = some out) : Ct l E yX8_rocksBy cX8_rocksBy 8 (some .int) rmX8_rocksBy [.ref a0, .int x1, .int x2, .int x3, .int x4] [(a0, oB 8 [.ref a0_row, .int va0_isKept, .ref a0_lanes, .ref a0_sizes, .ref a0_items, .ref a0_tape, .int va0_length, .int va0_at, .int va0_number, .ref a0_readIce, .int va0_readCells, .ref a0_readPeople, .int va0_readMany, .ref a0_readSayings, .int va0_readSaid, .ref a0_line, .ref a0_bestLine, .int va0_bestFar, .int va0_bestIce, .ref a0_seen, .ref a0_held]), (a0_row, aI E 525 va0_row)] (Pe (some (.int out)) [(a0, oB 8 [.ref a0_row, .int va0_isKept, .ref a0_lanes, .ref a0_sizes, .ref a0_items, .ref a0_tape, .int va0_length, .int va0_at, .int va0_number, .ref a0_readIce, .int va0_readCells, .ref a0_readPeople, .int va0_readMany, .ref a0_readSayings, .int va0_readSaid, .ref a0_line, .ref a0_bestLine, .int va0_bestFar, .int va0_bestIce, .ref a0_seen, .ref a0_held]), (a0_row, aI E 525 va0_row)]) := by
  refine Ct.of rfl (Nat.le_of_ble_eq_true rfl) (fun K hL k r hin => ?_)
  subst hL
  unfold fX8_rocksBy at hf
  show G E K 8 0 0 [(0, .ref a0), (1, .int x1), (2, .int x2), (3, .int x3), (4, .int x4)] [] [(a0, oB 8 [.ref a0_row, .int va0_isKept, .ref a0_lanes, .ref a0_sizes, .ref a0_items, .ref a0_tape, .int va0_length, .int va0_at, .int va0_number, .ref a0_readIce, .int va0_readCells, .ref a0_readPeople, .int va0_readMany, .ref a0_readSayings, .int va0_readSaid, .ref a0_line, .ref a0_bestLine, .int va0_bestFar, .int va0_bestIce, .ref a0_seen, .ref a0_held]), (a0_row, aI E 525 va0_row)] 0
  refine g_aload_n k 0 dX8_rocksBy_0 rfl rfl ?_
  refine g_get k cfX8 0 0 dX8_rocksBy_1 lkX8_7 (by decide) rfl rfl ?_
  refine g_bipush k dX8_rocksBy_4 bi_35 ?_
  refine g_iload_n k 2 dX8_rocksBy_6 rfl rfl ?_
  refine g_iadd k dX8_rocksBy_7 ?_
  obtain ⟨κ1, hκ1, hiκ1, heκ1, hf⟩ := ixb_some hf
  refine g_iaload k 1 dX8_rocksBy_8 rfl hiκ1 heκ1 ?_
  refine g_istore k (lv' := [(5, .int (va0_row κ1)), (0, .ref a0), (1, .int x1), (2, .int x2), (3, .int x3), (4, .int x4)]) dX8_rocksBy_9 (by decide) rfl ?_
  refine g_iload k 0 dX8_rocksBy_11 rfl ?_
  refine g_iload_n k 4 dX8_rocksBy_13 rfl rfl ?_
  refine g_iconst k dX8_rocksBy_14 ic_4 ?_
  refine g_idiv k dX8_rocksBy_15 (by decide) ?_
  refine g_iadd k dX8_rocksBy_16 ?_
  refine g_istore k (lv' := [(6, .int ((va0_row κ1) + (x3 / 4))), (5, .int (va0_row κ1)), (0, .ref a0), (1, .int x1), (2, .int x2), (3, .int x3), (4, .int x4)]) dX8_rocksBy_17 (by decide) rfl ?_
  refine g_iload_n k 5 dX8_rocksBy_19 rfl rfl ?_
  refine g_bipush k dX8_rocksBy_20 bi_6 ?_
  refine g_icmp_ge k (tgt := 29) dX8_rocksBy_22 (by decide) (fun c2 => ?_) (fun c2 => ?_)
  · replace hf := ite_t c2 hf
    refine g_iload k 1 dX8_rocksBy_29 rfl ?_
    refine g_istore k (lv' := [(7, .int (va0_row κ1)), (6, .int ((va0_row κ1) + (x3 / 4))), (5, .int (va0_row κ1)), (0, .ref a0), (1, .int x1), (2, .int x2), (3, .int x3), (4, .int x4)]) dX8_rocksBy_31 (by decide) rfl ?_
    refine g_aload_n k 3 dX8_rocksBy_33 rfl rfl ?_
    refine g_get k cfX8 0 0 dX8_rocksBy_34 lkX8_7 (by decide) rfl rfl ?_
    refine g_bipush k dX8_rocksBy_37 bi_29 ?_
    refine g_iload_n k 5 dX8_rocksBy_39 rfl rfl ?_
    refine g_iadd k dX8_rocksBy_40 ?_
    obtain ⟨κ3, hκ3, hiκ3, heκ3, hf⟩ := ixb_some hf
    refine g_iaload k 1 dX8_rocksBy_41 rfl hiκ3 heκ3 ?_
    by_cases c4 : (va0_row κ3) = 1
    · replace hf := ite_t c4 hf
      refine g_tabIn k (tgt := 72) dX8_rocksBy_42 (by rw [c4]; decide) (by rw [c4]; decide) (off := 30) (by rw [c4]; rfl) (by decide) ?_
      refine g_iload k 1 dX8_rocksBy_72 rfl ?_
      obtain rfl := Option.some.inj hf
      exact g_iret k r dX8_rocksBy_74 ⟨rfl, rfl⟩
    replace hf := ite_f c4 hf
    by_cases c5 : (va0_row κ3) = 2
    · replace hf := ite_t c5 hf
      refine g_tabIn k (tgt := 75) dX8_rocksBy_42 (by rw [c5]; decide) (by rw [c5]; decide) (off := 33) (by rw [c5]; rfl) (by decide) ?_
      refine g_iload k 0 dX8_rocksBy_75 rfl ?_
      obtain rfl := Option.some.inj hf
      exact g_iret k r dX8_rocksBy_77 ⟨rfl, rfl⟩
    replace hf := ite_f c5 hf
    by_cases c6 : (va0_row κ3) = 3
    · replace hf := ite_t c6 hf
      refine g_tabIn k (tgt := 78) dX8_rocksBy_42 (by rw [c6]; decide) (by rw [c6]; decide) (off := 36) (by rw [c6]; rfl) (by decide) ?_
      refine g_iload k 7 dX8_rocksBy_78 rfl ?_
      obtain ⟨o7, ho8, hf⟩ := bnd_some hf
      refine g_cs k miX8_bits msX8_bits (ctX8_bits (kL K) E N   x4 o7 ho8) [] (ws' := [(a0, oB 8 [.ref a0_row, .int va0_isKept, .ref a0_lanes, .ref a0_sizes, .ref a0_items, .ref a0_tape, .int va0_length, .int va0_at, .int va0_number, .ref a0_readIce, .int va0_readCells, .ref a0_readPeople, .int va0_readMany, .ref a0_readSayings, .int va0_readSaid, .ref a0_line, .ref a0_bestLine, .int va0_bestFar, .int va0_bestIce, .ref a0_seen, .ref a0_held]), (a0_row, aI E 525 va0_row)]) dX8_rocksBy_80 lkX8_78 rfl ⟨rfl, rfl⟩ ⟨by decide, by decide⟩ rfl rfl rfl (Nat.le_of_ble_eq_true rfl) rfl rfl rfl ?_
      refine g_st (st' := [.int o7]) rfl ?_
      refine g_iconst k dX8_rocksBy_83 ic_1 ?_
      refine g_icmp_ne k (tgt := 94) dX8_rocksBy_84 (by decide) (fun c9 => ?_) (fun c9 => ?_)
      · replace hf := ite_f c9 hf
        refine g_iload k 1 dX8_rocksBy_94 rfl ?_
        obtain rfl := Option.some.inj hf
        exact g_iret k r dX8_rocksBy_96 ⟨rfl, rfl⟩
      · replace hf := ite_t c9 hf
        refine g_iconst k dX8_rocksBy_87 ic_2 ?_
        refine g_iload k 1 dX8_rocksBy_88 rfl ?_
        refine g_imul k dX8_rocksBy_90 ?_
        refine g_goto k (tgt := 96) dX8_rocksBy_91 (by decide) ?_
        obtain rfl := Option.some.inj hf
        exact g_iret k r dX8_rocksBy_96 ⟨rfl, rfl⟩
    replace hf := ite_f c6 hf
    by_cases c10 : (va0_row κ3) = 4
    · replace hf := ite_t c10 hf
      refine g_tabIn k (tgt := 97) dX8_rocksBy_42 (by rw [c10]; decide) (by rw [c10]; decide) (off := 55) (by rw [c10]; rfl) (by decide) ?_
      refine g_aload_n k 3 dX8_rocksBy_97 rfl rfl ?_
      refine g_get k cfX8 0 0 dX8_rocksBy_98 lkX8_7 (by decide) rfl rfl ?_
      refine g_iload_n k 4 dX8_rocksBy_101 rfl rfl ?_
      refine g_iconst k dX8_rocksBy_102 ic_1 ?_
      refine g_iadd k dX8_rocksBy_103 ?_
      obtain ⟨κ11, hκ11, hiκ11, heκ11, hf⟩ := ixb_some hf
      refine g_iaload k 1 dX8_rocksBy_104 rfl hiκ11 heκ11 ?_
      refine g_iconst k dX8_rocksBy_105 ic_2 ?_
      refine g_irem k dX8_rocksBy_106 (by decide) ?_
      refine g_if_ne k (tgt := 117) dX8_rocksBy_107 (by decide) (fun c12 => ?_) (fun c12 => ?_)
      · replace hf := ite_f c12 hf
        refine g_iload k 0 dX8_rocksBy_117 rfl ?_
        obtain rfl := Option.some.inj hf
        exact g_iret k r dX8_rocksBy_119 ⟨rfl, rfl⟩
      · replace hf := ite_t c12 hf
        refine g_iload k 0 dX8_rocksBy_110 rfl ?_
        refine g_iconst k dX8_rocksBy_112 ic_3 ?_
        refine g_iadd k dX8_rocksBy_113 ?_
        refine g_goto k (tgt := 119) dX8_rocksBy_114 (by decide) ?_
        obtain rfl := Option.some.inj hf
        exact g_iret k r dX8_rocksBy_119 ⟨rfl, rfl⟩
    replace hf := ite_f c10 hf
    refine g_tabOut k (tgt := 120) dX8_rocksBy_42 (by have := lv_neT (k := 1) c4 (a := 1) (by decide); have := lv_neT (k := 2) c5 (a := 2) (by decide); have := lv_neT (k := 3) c6 (a := 3) (by decide); have := lv_neT (k := 4) c10 (a := 4) (by decide); omega) (by decide) ?_
    refine g_iload k 2 dX8_rocksBy_120 rfl ?_
    obtain rfl := Option.some.inj hf
    exact g_iret k r dX8_rocksBy_122 ⟨rfl, rfl⟩
  · replace hf := ite_f c2 hf
    refine g_iconst k dX8_rocksBy_25 ic_0 ?_
    refine g_goto k (tgt := 31) dX8_rocksBy_26 (by decide) ?_
    refine g_istore k (lv' := [(7, .int 0), (6, .int ((va0_row κ1) + (x3 / 4))), (5, .int (va0_row κ1)), (0, .ref a0), (1, .int x1), (2, .int x2), (3, .int x3), (4, .int x4)]) dX8_rocksBy_31 (by decide) rfl ?_
    refine g_aload_n k 3 dX8_rocksBy_33 rfl rfl ?_
    refine g_get k cfX8 0 0 dX8_rocksBy_34 lkX8_7 (by decide) rfl rfl ?_
    refine g_bipush k dX8_rocksBy_37 bi_29 ?_
    refine g_iload_n k 5 dX8_rocksBy_39 rfl rfl ?_
    refine g_iadd k dX8_rocksBy_40 ?_
    obtain ⟨κ13, hκ13, hiκ13, heκ13, hf⟩ := ixb_some hf
    refine g_iaload k 1 dX8_rocksBy_41 rfl hiκ13 heκ13 ?_
    by_cases c14 : (va0_row κ13) = 1
    · replace hf := ite_t c14 hf
      refine g_tabIn k (tgt := 72) dX8_rocksBy_42 (by rw [c14]; decide) (by rw [c14]; decide) (off := 30) (by rw [c14]; rfl) (by decide) ?_
      refine g_iload k 1 dX8_rocksBy_72 rfl ?_
      obtain rfl := Option.some.inj hf
      exact g_iret k r dX8_rocksBy_74 ⟨rfl, rfl⟩
    replace hf := ite_f c14 hf
    by_cases c15 : (va0_row κ13) = 2
    · replace hf := ite_t c15 hf
      refine g_tabIn k (tgt := 75) dX8_rocksBy_42 (by rw [c15]; decide) (by rw [c15]; decide) (off := 33) (by rw [c15]; rfl) (by decide) ?_
      refine g_iload k 0 dX8_rocksBy_75 rfl ?_
      obtain rfl := Option.some.inj hf
      exact g_iret k r dX8_rocksBy_77 ⟨rfl, rfl⟩
    replace hf := ite_f c15 hf
    by_cases c16 : (va0_row κ13) = 3
    · replace hf := ite_t c16 hf
      refine g_tabIn k (tgt := 78) dX8_rocksBy_42 (by rw [c16]; decide) (by rw [c16]; decide) (off := 36) (by rw [c16]; rfl) (by decide) ?_
      refine g_iload k 7 dX8_rocksBy_78 rfl ?_
      obtain ⟨o17, ho18, hf⟩ := bnd_some hf
      refine g_cs k miX8_bits msX8_bits (ctX8_bits (kL K) E N   x4 o17 ho18) [] (ws' := [(a0, oB 8 [.ref a0_row, .int va0_isKept, .ref a0_lanes, .ref a0_sizes, .ref a0_items, .ref a0_tape, .int va0_length, .int va0_at, .int va0_number, .ref a0_readIce, .int va0_readCells, .ref a0_readPeople, .int va0_readMany, .ref a0_readSayings, .int va0_readSaid, .ref a0_line, .ref a0_bestLine, .int va0_bestFar, .int va0_bestIce, .ref a0_seen, .ref a0_held]), (a0_row, aI E 525 va0_row)]) dX8_rocksBy_80 lkX8_78 rfl ⟨rfl, rfl⟩ ⟨by decide, by decide⟩ rfl rfl rfl (Nat.le_of_ble_eq_true rfl) rfl rfl rfl ?_
      refine g_st (st' := [.int o17]) rfl ?_
      refine g_iconst k dX8_rocksBy_83 ic_1 ?_
      refine g_icmp_ne k (tgt := 94) dX8_rocksBy_84 (by decide) (fun c19 => ?_) (fun c19 => ?_)
      · replace hf := ite_f c19 hf
        refine g_iload k 1 dX8_rocksBy_94 rfl ?_
        obtain rfl := Option.some.inj hf
        exact g_iret k r dX8_rocksBy_96 ⟨rfl, rfl⟩
      · replace hf := ite_t c19 hf
        refine g_iconst k dX8_rocksBy_87 ic_2 ?_
        refine g_iload k 1 dX8_rocksBy_88 rfl ?_
        refine g_imul k dX8_rocksBy_90 ?_
        refine g_goto k (tgt := 96) dX8_rocksBy_91 (by decide) ?_
        obtain rfl := Option.some.inj hf
        exact g_iret k r dX8_rocksBy_96 ⟨rfl, rfl⟩
    replace hf := ite_f c16 hf
    by_cases c20 : (va0_row κ13) = 4
    · replace hf := ite_t c20 hf
      refine g_tabIn k (tgt := 97) dX8_rocksBy_42 (by rw [c20]; decide) (by rw [c20]; decide) (off := 55) (by rw [c20]; rfl) (by decide) ?_
      refine g_aload_n k 3 dX8_rocksBy_97 rfl rfl ?_
      refine g_get k cfX8 0 0 dX8_rocksBy_98 lkX8_7 (by decide) rfl rfl ?_
      refine g_iload_n k 4 dX8_rocksBy_101 rfl rfl ?_
      refine g_iconst k dX8_rocksBy_102 ic_1 ?_
      refine g_iadd k dX8_rocksBy_103 ?_
      obtain ⟨κ21, hκ21, hiκ21, heκ21, hf⟩ := ixb_some hf
      refine g_iaload k 1 dX8_rocksBy_104 rfl hiκ21 heκ21 ?_
      refine g_iconst k dX8_rocksBy_105 ic_2 ?_
      refine g_irem k dX8_rocksBy_106 (by decide) ?_
      refine g_if_ne k (tgt := 117) dX8_rocksBy_107 (by decide) (fun c22 => ?_) (fun c22 => ?_)
      · replace hf := ite_f c22 hf
        refine g_iload k 0 dX8_rocksBy_117 rfl ?_
        obtain rfl := Option.some.inj hf
        exact g_iret k r dX8_rocksBy_119 ⟨rfl, rfl⟩
      · replace hf := ite_t c22 hf
        refine g_iload k 0 dX8_rocksBy_110 rfl ?_
        refine g_iconst k dX8_rocksBy_112 ic_3 ?_
        refine g_iadd k dX8_rocksBy_113 ?_
        refine g_goto k (tgt := 119) dX8_rocksBy_114 (by decide) ?_
        obtain rfl := Option.some.inj hf
        exact g_iret k r dX8_rocksBy_119 ⟨rfl, rfl⟩
    replace hf := ite_f c20 hf
    refine g_tabOut k (tgt := 120) dX8_rocksBy_42 (by have := lv_neT (k := 1) c14 (a := 1) (by decide); have := lv_neT (k := 2) c15 (a := 2) (by decide); have := lv_neT (k := 3) c16 (a := 3) (by decide); have := lv_neT (k := 4) c20 (a := 4) (by decide); omega) (by decide) ?_
    refine g_iload k 2 dX8_rocksBy_120 rfl ?_
    obtain rfl := Option.some.inj hf
    exact g_iret k r dX8_rocksBy_122 ⟨rfl, rfl⟩
abbrev rmX8_sideBy : Room := { frames := 2, cells := 0, slots := 0, locals := 49 }
def fX8_sideBy_L6 (N : Nat) (x1 : Int32) (x2 : Int32) (x3 : Int32) (va0_row : Nat → Int32) : Nat → Int32 → Int32 → Option (Int32 × Int32)
  | 0, _, _ => none
  | n + 1, x4, x5 =>
    if 6 ≤ x5 then
    some (x4, x5)
    else
    bnd (fX8_has N x3 x5) fun o2 =>
    if o2 = 0 then
    fX8_sideBy_L6 N x1 x2 x3 va0_row n (x4 + 0) (x5 + 1)
    else
    bnd (fX8_rocksBy N va0_row x1 x5 x2 x3) fun o5 =>
    fX8_sideBy_L6 N x1 x2 x3 va0_row n (x4 + o5) (x5 + 1)
set_option maxHeartbeats 4000000 in
set_option maxRecDepth 100000 in
theorem wX8_sideBy_L6 {E : Ev} {K : KX} (k : OKX E K cX8_sideBy RX8 6 rmX8_sideBy) (N : Nat) (a0 : Nat) (a0_row : Nat) (a0_lanes : Nat) (a0_sizes : Nat) (a0_items : Nat) (a0_tape : Nat) (a0_readIce : Nat) (a0_readPeople : Nat) (a0_readSayings : Nat) (a0_line : Nat) (a0_bestLine : Nat) (a0_seen : Nat) (a0_held : Nat) (x1 : Int32) (x2 : Int32) (x3 : Int32) (va0_row : Nat → Int32) (va0_isKept : Int32) (va0_length : Int32) (va0_at : Int32) (va0_number : Int32) (va0_readCells : Int32) (va0_readMany : Int32) (va0_readSaid : Int32) (va0_bestFar : Int32) (va0_bestIce : Int32) : ∀ (n : Nat) (x4 : Int32) (x5 : Int32) (o : Int32 × Int32), fX8_sideBy_L6 N x1 x2 x3 va0_row n x4 x5 = some o → G E K 6 0 0 [(0, .ref a0), (1, .int x1), (2, .int x2), (3, .int x3), (4, .int o.1), (5, .int o.2)] [] [(a0, oB 8 [.ref a0_row, .int va0_isKept, .ref a0_lanes, .ref a0_sizes, .ref a0_items, .ref a0_tape, .int va0_length, .int va0_at, .int va0_number, .ref a0_readIce, .int va0_readCells, .ref a0_readPeople, .int va0_readMany, .ref a0_readSayings, .int va0_readSaid, .ref a0_line, .ref a0_bestLine, .int va0_bestFar, .int va0_bestIce, .ref a0_seen, .ref a0_held]), (a0_row, aI E 525 va0_row)] 46 → G E K 6 0 0 [(0, .ref a0), (1, .int x1), (2, .int x2), (3, .int x3), (4, .int x4), (5, .int x5)] [] [(a0, oB 8 [.ref a0_row, .int va0_isKept, .ref a0_lanes, .ref a0_sizes, .ref a0_items, .ref a0_tape, .int va0_length, .int va0_at, .int va0_number, .ref a0_readIce, .int va0_readCells, .ref a0_readPeople, .int va0_readMany, .ref a0_readSayings, .int va0_readSaid, .ref a0_line, .ref a0_bestLine, .int va0_bestFar, .int va0_bestIce, .ref a0_seen, .ref a0_held]), (a0_row, aI E 525 va0_row)] 6 := by
  intro n
  induction n with
  | zero => intro x4 x5 o hf; cases hf
  | succ n ih =>
    intro x4 x5 o hf hG
    rw [fX8_sideBy_L6] at hf
    refine g_iload k 5 dX8_sideBy_6 rfl ?_
    refine g_bipush k dX8_sideBy_8 bi_6 ?_
    refine g_icmp_ge k (tgt := 46) dX8_sideBy_10 (by decide) (fun c1 => ?_) (fun c1 => ?_)
    · replace hf := ite_t c1 hf
      refine g_lv [0, 1, 2, 3, 4, 5] rfl ?_
      obtain rfl := Option.some.inj hf
      exact hG
    · replace hf := ite_f c1 hf
      refine g_iload k 4 dX8_sideBy_13 rfl ?_
      refine g_iload_n k 3 dX8_sideBy_15 rfl rfl ?_
      refine g_iload k 5 dX8_sideBy_16 rfl ?_
      obtain ⟨o2, ho3, hf⟩ := bnd_some hf
      refine g_cs k miX8_has msX8_has (ctX8_has (kL K) E N   x3 x5 o2 ho3) [] (ws' := [(a0, oB 8 [.ref a0_row, .int va0_isKept, .ref a0_lanes, .ref a0_sizes, .ref a0_items, .ref a0_tape, .int va0_length, .int va0_at, .int va0_number, .ref a0_readIce, .int va0_readCells, .ref a0_readPeople, .int va0_readMany, .ref a0_readSayings, .int va0_readSaid, .ref a0_line, .ref a0_bestLine, .int va0_bestFar, .int va0_bestIce, .ref a0_seen, .ref a0_held]), (a0_row, aI E 525 va0_row)]) dX8_sideBy_18 lkX8_82 rfl ⟨rfl, rfl⟩ ⟨by decide, by decide⟩ rfl rfl rfl (Nat.le_of_ble_eq_true rfl) rfl rfl rfl ?_
      refine g_st (st' := [.int o2, .int x4]) rfl ?_
      refine g_if_eq k (tgt := 36) dX8_sideBy_21 (by decide) (fun c4 => ?_) (fun c4 => ?_)
      · replace hf := ite_t c4 hf
        refine g_iconst k dX8_sideBy_36 ic_0 ?_
        refine g_iadd k dX8_sideBy_37 ?_
        refine g_istore k (lv' := [(4, .int (x4 + 0)), (0, .ref a0), (1, .int x1), (2, .int x2), (3, .int x3), (5, .int x5)]) dX8_sideBy_38 (by decide) rfl ?_
        refine g_iinc k (lv' := [(5, .int (x5 + 1)), (4, .int (x4 + 0)), (0, .ref a0), (1, .int x1), (2, .int x2), (3, .int x3)]) 5 dX8_sideBy_40 rfl (ii_1 _) (by decide) rfl ?_
        refine g_goto k (tgt := 6) dX8_sideBy_43 (by decide) ?_
        refine g_lv [2, 3, 4, 5, 1, 0] rfl ?_
        exact ih (x4 + 0) (x5 + 1) o hf hG
      · replace hf := ite_f c4 hf
        refine g_aload_n k 0 dX8_sideBy_24 rfl rfl ?_
        refine g_iload_n k 1 dX8_sideBy_25 rfl rfl ?_
        refine g_iload k 5 dX8_sideBy_26 rfl ?_
        refine g_iload_n k 2 dX8_sideBy_28 rfl rfl ?_
        refine g_iload_n k 3 dX8_sideBy_29 rfl rfl ?_
        obtain ⟨o5, ho6, hf⟩ := bnd_some hf
        refine g_cv k miX8_rocksBy mvX8_rocksBy (ctX8_rocksBy (kL K) E N a0 a0_row a0_lanes a0_sizes a0_items a0_tape a0_readIce a0_readPeople a0_readSayings a0_line a0_bestLine a0_seen a0_held va0_isKept va0_length va0_at va0_number va0_readCells va0_readMany va0_readSaid va0_bestFar va0_bestIce va0_row x1 x5 x2 x3 o5 ho6) [0, 1] 0 (ws' := [(a0, oB 8 [.ref a0_row, .int va0_isKept, .ref a0_lanes, .ref a0_sizes, .ref a0_items, .ref a0_tape, .int va0_length, .int va0_at, .int va0_number, .ref a0_readIce, .int va0_readCells, .ref a0_readPeople, .int va0_readMany, .ref a0_readSayings, .int va0_readSaid, .ref a0_line, .ref a0_bestLine, .int va0_bestFar, .int va0_bestIce, .ref a0_seen, .ref a0_held]), (a0_row, aI E 525 va0_row)]) dX8_sideBy_30 lkX8_86 rfl ⟨rfl, rfl⟩ ⟨by decide, by decide⟩ rfl rfl rfl rfl (Nat.le_of_ble_eq_true rfl) rfl rfl rfl ?_
        refine g_st (st' := [.int o5, .int x4]) rfl ?_
        refine g_goto k (tgt := 37) dX8_sideBy_33 (by decide) ?_
        refine g_iadd k dX8_sideBy_37 ?_
        refine g_istore k (lv' := [(4, .int (x4 + o5)), (0, .ref a0), (1, .int x1), (2, .int x2), (3, .int x3), (5, .int x5)]) dX8_sideBy_38 (by decide) rfl ?_
        refine g_iinc k (lv' := [(5, .int (x5 + 1)), (4, .int (x4 + o5)), (0, .ref a0), (1, .int x1), (2, .int x2), (3, .int x3)]) 5 dX8_sideBy_40 rfl (ii_1 _) (by decide) rfl ?_
        refine g_goto k (tgt := 6) dX8_sideBy_43 (by decide) ?_
        refine g_lv [2, 3, 4, 5, 1, 0] rfl ?_
        exact ih (x4 + o5) (x5 + 1) o hf hG
def fX8_sideBy (N : Nat) (va0_row : Nat → Int32) (x1 : Int32) (x2 : Int32) (x3 : Int32) : Option (Int32) :=
  bnd (fX8_sideBy_L6 N x1 x2 x3 va0_row N 0 0) fun o7 =>
  some (o7.1)
set_option maxHeartbeats 4000000 in
set_option maxRecDepth 100000 in
theorem ctX8_sideBy (l : Launch) (E : Ev) (N : Nat) (a0 : Nat) (a0_row : Nat) (a0_lanes : Nat) (a0_sizes : Nat) (a0_items : Nat) (a0_tape : Nat) (a0_readIce : Nat) (a0_readPeople : Nat) (a0_readSayings : Nat) (a0_line : Nat) (a0_bestLine : Nat) (a0_seen : Nat) (a0_held : Nat) (va0_isKept : Int32) (va0_length : Int32) (va0_at : Int32) (va0_number : Int32) (va0_readCells : Int32) (va0_readMany : Int32) (va0_readSaid : Int32) (va0_bestFar : Int32) (va0_bestIce : Int32) (va0_row : Nat → Int32) (x1 : Int32) (x2 : Int32) (x3 : Int32) (out : Int32) (hf : fX8_sideBy N va0_row x1 x2 x3 = some out) : Ct l E yX8_sideBy cX8_sideBy 6 (some .int) rmX8_sideBy [.ref a0, .int x1, .int x2, .int x3] [(a0, oB 8 [.ref a0_row, .int va0_isKept, .ref a0_lanes, .ref a0_sizes, .ref a0_items, .ref a0_tape, .int va0_length, .int va0_at, .int va0_number, .ref a0_readIce, .int va0_readCells, .ref a0_readPeople, .int va0_readMany, .ref a0_readSayings, .int va0_readSaid, .ref a0_line, .ref a0_bestLine, .int va0_bestFar, .int va0_bestIce, .ref a0_seen, .ref a0_held]), (a0_row, aI E 525 va0_row)] (Pe (some (.int out)) [(a0, oB 8 [.ref a0_row, .int va0_isKept, .ref a0_lanes, .ref a0_sizes, .ref a0_items, .ref a0_tape, .int va0_length, .int va0_at, .int va0_number, .ref a0_readIce, .int va0_readCells, .ref a0_readPeople, .int va0_readMany, .ref a0_readSayings, .int va0_readSaid, .ref a0_line, .ref a0_bestLine, .int va0_bestFar, .int va0_bestIce, .ref a0_seen, .ref a0_held]), (a0_row, aI E 525 va0_row)]) := by
  refine Ct.of rfl (Nat.le_of_ble_eq_true rfl) (fun K hL k r hin => ?_)
  subst hL
  unfold fX8_sideBy at hf
  show G E K 6 0 0 [(0, .ref a0), (1, .int x1), (2, .int x2), (3, .int x3)] [] [(a0, oB 8 [.ref a0_row, .int va0_isKept, .ref a0_lanes, .ref a0_sizes, .ref a0_items, .ref a0_tape, .int va0_length, .int va0_at, .int va0_number, .ref a0_readIce, .int va0_readCells, .ref a0_readPeople, .int va0_readMany, .ref a0_readSayings, .int va0_readSaid, .ref a0_line, .ref a0_bestLine, .int va0_bestFar, .int va0_bestIce, .ref a0_seen, .ref a0_held]), (a0_row, aI E 525 va0_row)] 0
  refine g_iconst k dX8_sideBy_0 ic_0 ?_
  refine g_istore k (lv' := [(4, .int 0), (0, .ref a0), (1, .int x1), (2, .int x2), (3, .int x3)]) dX8_sideBy_1 (by decide) rfl ?_
  refine g_iconst k dX8_sideBy_3 ic_0 ?_
  refine g_istore k (lv' := [(5, .int 0), (4, .int 0), (0, .ref a0), (1, .int x1), (2, .int x2), (3, .int x3)]) dX8_sideBy_4 (by decide) rfl ?_
  obtain ⟨o7, ho8, hf⟩ := bnd_some hf
  refine g_lv [2, 3, 4, 5, 1, 0] (lv' := [(0, .ref a0), (1, .int x1), (2, .int x2), (3, .int x3), (4, .int 0), (5, .int 0)]) rfl ?_
  refine wX8_sideBy_L6 k N a0 a0_row a0_lanes a0_sizes a0_items a0_tape a0_readIce a0_readPeople a0_readSayings a0_line a0_bestLine a0_seen a0_held  x1 x2 x3 va0_row va0_isKept va0_length va0_at va0_number va0_readCells va0_readMany va0_readSaid va0_bestFar va0_bestIce N 0 0 o7 ho8 ?_
  refine g_iload k 4 dX8_sideBy_46 rfl ?_
  obtain rfl := Option.some.inj hf
  exact g_iret k r dX8_sideBy_48 ⟨rfl, rfl⟩
abbrev rmX8_rockBy : Room := { frames := 3, cells := 0, slots := 0, locals := 74 }
def fX8_rockBy (N : Nat) (va0_row : Nat → Int32) (x1 : Int32) (x2 : Int32) (x3 : Int32) (x4 : Int32) : Option (Int32) :=
  bnd (fX8_sideBy N va0_row x1 x2 (x3 &&& x4)) fun o1 =>
  bnd (fX8_sideBy N va0_row x1 x2 (x4 &&& (x3 ^^^ (-1)))) fun o3 =>
  if x2 = 0 then
  some (0)
  else
  if o3 ≤ o1 then
  some ((2 * o3))
  else
  some ((2 * o1))
set_option maxHeartbeats 4000000 in
set_option maxRecDepth 100000 in
theorem ctX8_rockBy (l : Launch) (E : Ev) (N : Nat) (a0 : Nat) (a0_row : Nat) (a0_lanes : Nat) (a0_sizes : Nat) (a0_items : Nat) (a0_tape : Nat) (a0_readIce : Nat) (a0_readPeople : Nat) (a0_readSayings : Nat) (a0_line : Nat) (a0_bestLine : Nat) (a0_seen : Nat) (a0_held : Nat) (va0_isKept : Int32) (va0_length : Int32) (va0_at : Int32) (va0_number : Int32) (va0_readCells : Int32) (va0_readMany : Int32) (va0_readSaid : Int32) (va0_bestFar : Int32) (va0_bestIce : Int32) (va0_row : Nat → Int32) (x1 : Int32) (x2 : Int32) (x3 : Int32) (x4 : Int32) (out : Int32) (hf : fX8_rockBy N va0_row x1 x2 x3 x4 = some out) : Ct l E yX8_rockBy cX8_rockBy 7 (some .int) rmX8_rockBy [.ref a0, .int x1, .int x2, .int x3, .int x4] [(a0, oB 8 [.ref a0_row, .int va0_isKept, .ref a0_lanes, .ref a0_sizes, .ref a0_items, .ref a0_tape, .int va0_length, .int va0_at, .int va0_number, .ref a0_readIce, .int va0_readCells, .ref a0_readPeople, .int va0_readMany, .ref a0_readSayings, .int va0_readSaid, .ref a0_line, .ref a0_bestLine, .int va0_bestFar, .int va0_bestIce, .ref a0_seen, .ref a0_held]), (a0_row, aI E 525 va0_row)] (Pe (some (.int out)) [(a0, oB 8 [.ref a0_row, .int va0_isKept, .ref a0_lanes, .ref a0_sizes, .ref a0_items, .ref a0_tape, .int va0_length, .int va0_at, .int va0_number, .ref a0_readIce, .int va0_readCells, .ref a0_readPeople, .int va0_readMany, .ref a0_readSayings, .int va0_readSaid, .ref a0_line, .ref a0_bestLine, .int va0_bestFar, .int va0_bestIce, .ref a0_seen, .ref a0_held]), (a0_row, aI E 525 va0_row)]) := by
  refine Ct.of rfl (Nat.le_of_ble_eq_true rfl) (fun K hL k r hin => ?_)
  subst hL
  unfold fX8_rockBy at hf
  show G E K 7 0 0 [(0, .ref a0), (1, .int x1), (2, .int x2), (3, .int x3), (4, .int x4)] [] [(a0, oB 8 [.ref a0_row, .int va0_isKept, .ref a0_lanes, .ref a0_sizes, .ref a0_items, .ref a0_tape, .int va0_length, .int va0_at, .int va0_number, .ref a0_readIce, .int va0_readCells, .ref a0_readPeople, .int va0_readMany, .ref a0_readSayings, .int va0_readSaid, .ref a0_line, .ref a0_bestLine, .int va0_bestFar, .int va0_bestIce, .ref a0_seen, .ref a0_held]), (a0_row, aI E 525 va0_row)] 0
  refine g_aload_n k 0 dX8_rockBy_0 rfl rfl ?_
  refine g_iload_n k 1 dX8_rockBy_1 rfl rfl ?_
  refine g_iload_n k 2 dX8_rockBy_2 rfl rfl ?_
  refine g_iload_n k 3 dX8_rockBy_3 rfl rfl ?_
  refine g_iload k 4 dX8_rockBy_4 rfl ?_
  refine g_iand k dX8_rockBy_6 ?_
  obtain ⟨o1, ho2, hf⟩ := bnd_some hf
  refine g_cv k miX8_sideBy mvX8_sideBy (ctX8_sideBy (kL K) E N a0 a0_row a0_lanes a0_sizes a0_items a0_tape a0_readIce a0_readPeople a0_readSayings a0_line a0_bestLine a0_seen a0_held va0_isKept va0_length va0_at va0_number va0_readCells va0_readMany va0_readSaid va0_bestFar va0_bestIce va0_row x1 x2 (x3 &&& x4) o1 ho2) [0, 1] 0 (ws' := [(a0, oB 8 [.ref a0_row, .int va0_isKept, .ref a0_lanes, .ref a0_sizes, .ref a0_items, .ref a0_tape, .int va0_length, .int va0_at, .int va0_number, .ref a0_readIce, .int va0_readCells, .ref a0_readPeople, .int va0_readMany, .ref a0_readSayings, .int va0_readSaid, .ref a0_line, .ref a0_bestLine, .int va0_bestFar, .int va0_bestIce, .ref a0_seen, .ref a0_held]), (a0_row, aI E 525 va0_row)]) dX8_rockBy_7 lkX8_90 rfl ⟨rfl, rfl⟩ ⟨by decide, by decide⟩ rfl rfl rfl rfl (Nat.le_of_ble_eq_true rfl) rfl rfl rfl ?_
  refine g_st (st' := [.int o1]) rfl ?_
  refine g_istore k (lv' := [(5, .int o1), (0, .ref a0), (1, .int x1), (2, .int x2), (3, .int x3), (4, .int x4)]) dX8_rockBy_10 (by decide) rfl ?_
  refine g_aload_n k 1 dX8_rockBy_12 rfl rfl ?_
  refine g_iload_n k 2 dX8_rockBy_13 rfl rfl ?_
  refine g_iload_n k 3 dX8_rockBy_14 rfl rfl ?_
  refine g_iload k 5 dX8_rockBy_15 rfl ?_
  refine g_iload_n k 4 dX8_rockBy_17 rfl rfl ?_
  refine g_iconst k dX8_rockBy_18 ic_m1 ?_
  refine g_ixor k dX8_rockBy_19 ?_
  refine g_iand k dX8_rockBy_20 ?_
  obtain ⟨o3, ho4, hf⟩ := bnd_some hf
  refine g_cv k miX8_sideBy mvX8_sideBy (ctX8_sideBy (kL K) E N a0 a0_row a0_lanes a0_sizes a0_items a0_tape a0_readIce a0_readPeople a0_readSayings a0_line a0_bestLine a0_seen a0_held va0_isKept va0_length va0_at va0_number va0_readCells va0_readMany va0_readSaid va0_bestFar va0_bestIce va0_row x1 x2 (x4 &&& (x3 ^^^ (-1))) o3 ho4) [0, 1] 0 (ws' := [(a0, oB 8 [.ref a0_row, .int va0_isKept, .ref a0_lanes, .ref a0_sizes, .ref a0_items, .ref a0_tape, .int va0_length, .int va0_at, .int va0_number, .ref a0_readIce, .int va0_readCells, .ref a0_readPeople, .int va0_readMany, .ref a0_readSayings, .int va0_readSaid, .ref a0_line, .ref a0_bestLine, .int va0_bestFar, .int va0_bestIce, .ref a0_seen, .ref a0_held]), (a0_row, aI E 525 va0_row)]) dX8_rockBy_21 lkX8_90 rfl ⟨rfl, rfl⟩ ⟨by decide, by decide⟩ rfl rfl rfl rfl (Nat.le_of_ble_eq_true rfl) rfl rfl rfl ?_
  refine g_st (st' := [.int o3]) rfl ?_
  refine g_istore k (lv' := [(6, .int o3), (5, .int o1), (0, .ref a0), (1, .int x1), (2, .int x2), (3, .int x3), (4, .int x4)]) dX8_rockBy_24 (by decide) rfl ?_
  refine g_iload_n k 4 dX8_rockBy_26 rfl rfl ?_
  refine g_if_ne k (tgt := 34) dX8_rockBy_27 (by decide) (fun c5 => ?_) (fun c5 => ?_)
  · replace hf := ite_f c5 hf
    refine g_iconst k dX8_rockBy_34 ic_2 ?_
    refine g_iload k 1 dX8_rockBy_35 rfl ?_
    refine g_iload k 0 dX8_rockBy_37 rfl ?_
    refine g_icmp_ge k (tgt := 47) dX8_rockBy_39 (by decide) (fun c6 => ?_) (fun c6 => ?_)
    · replace hf := ite_t c6 hf
      refine g_iload k 0 dX8_rockBy_47 rfl ?_
      refine g_imul k dX8_rockBy_49 ?_
      obtain rfl := Option.some.inj hf
      exact g_iret k r dX8_rockBy_50 ⟨rfl, rfl⟩
    · replace hf := ite_f c6 hf
      refine g_iload k 1 dX8_rockBy_42 rfl ?_
      refine g_goto k (tgt := 49) dX8_rockBy_44 (by decide) ?_
      refine g_imul k dX8_rockBy_49 ?_
      obtain rfl := Option.some.inj hf
      exact g_iret k r dX8_rockBy_50 ⟨rfl, rfl⟩
  · replace hf := ite_t c5 hf
    refine g_iconst k dX8_rockBy_30 ic_0 ?_
    refine g_goto k (tgt := 50) dX8_rockBy_31 (by decide) ?_
    obtain rfl := Option.some.inj hf
    exact g_iret k r dX8_rockBy_50 ⟨rfl, rfl⟩
abbrev rmX8_rockOf : Room := { frames := 4, cells := 0, slots := 0, locals := 100 }
def fX8_rockOf (N : Nat) (va0_row : Nat → Int32) (x1 : Int32) (x2 : Int32) : Option (Int32) :=
  ixb ((x1 + 15) + x2) 525 fun κ1 =>
  ixb ((x1 + 20) + x2) 525 fun κ2 =>
  bnd (fX8_everybody N va0_row) fun o3 =>
  bnd (fX8_rockBy N va0_row x1 (va0_row κ1) (va0_row κ2) o3) fun o5 =>
  some (o5)
set_option maxHeartbeats 4000000 in
set_option maxRecDepth 100000 in
theorem ctX8_rockOf (l : Launch) (E : Ev) (N : Nat) (a0 : Nat) (a0_row : Nat) (a0_lanes : Nat) (a0_sizes : Nat) (a0_items : Nat) (a0_tape : Nat) (a0_readIce : Nat) (a0_readPeople : Nat) (a0_readSayings : Nat) (a0_line : Nat) (a0_bestLine : Nat) (a0_seen : Nat) (a0_held : Nat) (va0_isKept : Int32) (va0_length : Int32) (va0_at : Int32) (va0_number : Int32) (va0_readCells : Int32) (va0_readMany : Int32) (va0_readSaid : Int32) (va0_bestFar : Int32) (va0_bestIce : Int32) (va0_row : Nat → Int32) (x1 : Int32) (x2 : Int32) (out : Int32) (hf : fX8_rockOf N va0_row x1 x2 = some out) : Ct l E yX8_rockOf cX8_rockOf 3 (some .int) rmX8_rockOf [.ref a0, .int x1, .int x2] [(a0, oB 8 [.ref a0_row, .int va0_isKept, .ref a0_lanes, .ref a0_sizes, .ref a0_items, .ref a0_tape, .int va0_length, .int va0_at, .int va0_number, .ref a0_readIce, .int va0_readCells, .ref a0_readPeople, .int va0_readMany, .ref a0_readSayings, .int va0_readSaid, .ref a0_line, .ref a0_bestLine, .int va0_bestFar, .int va0_bestIce, .ref a0_seen, .ref a0_held]), (a0_row, aI E 525 va0_row)] (Pe (some (.int out)) [(a0, oB 8 [.ref a0_row, .int va0_isKept, .ref a0_lanes, .ref a0_sizes, .ref a0_items, .ref a0_tape, .int va0_length, .int va0_at, .int va0_number, .ref a0_readIce, .int va0_readCells, .ref a0_readPeople, .int va0_readMany, .ref a0_readSayings, .int va0_readSaid, .ref a0_line, .ref a0_bestLine, .int va0_bestFar, .int va0_bestIce, .ref a0_seen, .ref a0_held]), (a0_row, aI E 525 va0_row)]) := by
  refine Ct.of rfl (Nat.le_of_ble_eq_true rfl) (fun K hL k r hin => ?_)
  subst hL
  unfold fX8_rockOf at hf
  show G E K 3 0 0 [(0, .ref a0), (1, .int x1), (2, .int x2)] [] [(a0, oB 8 [.ref a0_row, .int va0_isKept, .ref a0_lanes, .ref a0_sizes, .ref a0_items, .ref a0_tape, .int va0_length, .int va0_at, .int va0_number, .ref a0_readIce, .int va0_readCells, .ref a0_readPeople, .int va0_readMany, .ref a0_readSayings, .int va0_readSaid, .ref a0_line, .ref a0_bestLine, .int va0_bestFar, .int va0_bestIce, .ref a0_seen, .ref a0_held]), (a0_row, aI E 525 va0_row)] 0
  refine g_aload_n k 0 dX8_rockOf_0 rfl rfl ?_
  refine g_iload_n k 1 dX8_rockOf_1 rfl rfl ?_
  refine g_aload_n k 0 dX8_rockOf_2 rfl rfl ?_
  refine g_get k cfX8 0 0 dX8_rockOf_3 lkX8_7 (by decide) rfl rfl ?_
  refine g_iload_n k 1 dX8_rockOf_6 rfl rfl ?_
  refine g_bipush k dX8_rockOf_7 bi_15 ?_
  refine g_iadd k dX8_rockOf_9 ?_
  refine g_iload_n k 2 dX8_rockOf_10 rfl rfl ?_
  refine g_iadd k dX8_rockOf_11 ?_
  obtain ⟨κ1, hκ1, hiκ1, heκ1, hf⟩ := ixb_some hf
  refine g_iaload k 1 dX8_rockOf_12 rfl hiκ1 heκ1 ?_
  refine g_aload_n k 0 dX8_rockOf_13 rfl rfl ?_
  refine g_get k cfX8 0 0 dX8_rockOf_14 lkX8_7 (by decide) rfl rfl ?_
  refine g_iload_n k 1 dX8_rockOf_17 rfl rfl ?_
  refine g_bipush k dX8_rockOf_18 bi_20 ?_
  refine g_iadd k dX8_rockOf_20 ?_
  refine g_iload_n k 2 dX8_rockOf_21 rfl rfl ?_
  refine g_iadd k dX8_rockOf_22 ?_
  obtain ⟨κ2, hκ2, hiκ2, heκ2, hf⟩ := ixb_some hf
  refine g_iaload k 1 dX8_rockOf_23 rfl hiκ2 heκ2 ?_
  refine g_aload_n k 0 dX8_rockOf_24 rfl rfl ?_
  obtain ⟨o3, ho4, hf⟩ := bnd_some hf
  refine g_cv k miX8_everybody mvX8_everybody (ctX8_everybody (kL K) E N a0 a0_row a0_lanes a0_sizes a0_items a0_tape a0_readIce a0_readPeople a0_readSayings a0_line a0_bestLine a0_seen a0_held va0_isKept va0_length va0_at va0_number va0_readCells va0_readMany va0_readSaid va0_bestFar va0_bestIce va0_row  o3 ho4) [0, 1] 0 (ws' := [(a0, oB 8 [.ref a0_row, .int va0_isKept, .ref a0_lanes, .ref a0_sizes, .ref a0_items, .ref a0_tape, .int va0_length, .int va0_at, .int va0_number, .ref a0_readIce, .int va0_readCells, .ref a0_readPeople, .int va0_readMany, .ref a0_readSayings, .int va0_readSaid, .ref a0_line, .ref a0_bestLine, .int va0_bestFar, .int va0_bestIce, .ref a0_seen, .ref a0_held]), (a0_row, aI E 525 va0_row)]) dX8_rockOf_25 lkX8_67 rfl ⟨rfl, rfl⟩ ⟨by decide, by decide⟩ rfl rfl rfl rfl (Nat.le_of_ble_eq_true rfl) rfl rfl rfl ?_
  refine g_st (st' := [.int o3, .int (va0_row κ2), .int (va0_row κ1), .int x1, .ref a0]) rfl ?_
  obtain ⟨o5, ho6, hf⟩ := bnd_some hf
  refine g_cv k miX8_rockBy mvX8_rockBy (ctX8_rockBy (kL K) E N a0 a0_row a0_lanes a0_sizes a0_items a0_tape a0_readIce a0_readPeople a0_readSayings a0_line a0_bestLine a0_seen a0_held va0_isKept va0_length va0_at va0_number va0_readCells va0_readMany va0_readSaid va0_bestFar va0_bestIce va0_row x1 (va0_row κ1) (va0_row κ2) o3 o5 ho6) [0, 1] 0 (ws' := [(a0, oB 8 [.ref a0_row, .int va0_isKept, .ref a0_lanes, .ref a0_sizes, .ref a0_items, .ref a0_tape, .int va0_length, .int va0_at, .int va0_number, .ref a0_readIce, .int va0_readCells, .ref a0_readPeople, .int va0_readMany, .ref a0_readSayings, .int va0_readSaid, .ref a0_line, .ref a0_bestLine, .int va0_bestFar, .int va0_bestIce, .ref a0_seen, .ref a0_held]), (a0_row, aI E 525 va0_row)]) dX8_rockOf_28 lkX8_94 rfl ⟨rfl, rfl⟩ ⟨by decide, by decide⟩ rfl rfl rfl rfl (Nat.le_of_ble_eq_true rfl) rfl rfl rfl ?_
  refine g_st (st' := [.int o5]) rfl ?_
  obtain rfl := Option.some.inj hf
  exact g_iret k r dX8_rockOf_31 ⟨rfl, rfl⟩
abbrev rmX8_of : Room := { frames := 2, cells := 0, slots := 0, locals := 46 }
def fX8_of_L15 (N : Nat) (x1 : Int32) (x2 : Int32) (va0_row : Nat → Int32) : Nat → Int32 → Int32 → Option (Int32 × Int32)
  | 0, _, _ => none
  | n + 1, x3, x4 =>
    if (va0_row 28) ≤ x4 then
    some (x3, x4)
    else
    ixb (20 + x4) 525 fun κ5 =>
    fX8_of_L15 N x1 x2 va0_row n (x3 ||| ((((va0_row κ5) >>> (x1 &&& 31)) &&& 1) <<< (x4 &&& 31))) (x4 + 1)
set_option maxHeartbeats 4000000 in
set_option maxRecDepth 100000 in
theorem wX8_of_L15 {E : Ev} {K : KX} (k : OKX E K cX8_of RX8 5 rmX8_of) (N : Nat) (a0 : Nat) (a0_row : Nat) (a0_lanes : Nat) (a0_sizes : Nat) (a0_items : Nat) (a0_tape : Nat) (a0_readIce : Nat) (a0_readPeople : Nat) (a0_readSayings : Nat) (a0_line : Nat) (a0_bestLine : Nat) (a0_seen : Nat) (a0_held : Nat) (x1 : Int32) (x2 : Int32) (va0_row : Nat → Int32) (va0_isKept : Int32) (va0_length : Int32) (va0_at : Int32) (va0_number : Int32) (va0_readCells : Int32) (va0_readMany : Int32) (va0_readSaid : Int32) (va0_bestFar : Int32) (va0_bestIce : Int32) : ∀ (n : Nat) (x3 : Int32) (x4 : Int32) (o : Int32 × Int32), fX8_of_L15 N x1 x2 va0_row n x3 x4 = some o → G E K 5 0 0 [(0, .ref a0), (1, .int x1), (2, .int x2), (3, .int o.1), (4, .int o.2)] [] [(a0, oB 8 [.ref a0_row, .int va0_isKept, .ref a0_lanes, .ref a0_sizes, .ref a0_items, .ref a0_tape, .int va0_length, .int va0_at, .int va0_number, .ref a0_readIce, .int va0_readCells, .ref a0_readPeople, .int va0_readMany, .ref a0_readSayings, .int va0_readSaid, .ref a0_line, .ref a0_bestLine, .int va0_bestFar, .int va0_bestIce, .ref a0_seen, .ref a0_held]), (a0_row, aI E 525 va0_row)] 53 → G E K 5 0 0 [(0, .ref a0), (1, .int x1), (2, .int x2), (3, .int x3), (4, .int x4)] [] [(a0, oB 8 [.ref a0_row, .int va0_isKept, .ref a0_lanes, .ref a0_sizes, .ref a0_items, .ref a0_tape, .int va0_length, .int va0_at, .int va0_number, .ref a0_readIce, .int va0_readCells, .ref a0_readPeople, .int va0_readMany, .ref a0_readSayings, .int va0_readSaid, .ref a0_line, .ref a0_bestLine, .int va0_bestFar, .int va0_bestIce, .ref a0_seen, .ref a0_held]), (a0_row, aI E 525 va0_row)] 15 := by
  intro n
  induction n with
  | zero => intro x3 x4 o hf; cases hf
  | succ n ih =>
    intro x3 x4 o hf hG
    rw [fX8_of_L15] at hf
    refine g_iload k 4 dX8_of_15 rfl ?_
    refine g_aload_n k 0 dX8_of_17 rfl rfl ?_
    refine g_get k cfX8 0 0 dX8_of_18 lkX8_7 (by decide) rfl rfl ?_
    refine g_bipush k dX8_of_21 bi_28 ?_
    refine g_iaload k 1 dX8_of_23 rfl vi_28_525 cl_28 ?_
    refine g_icmp_ge k (tgt := 53) dX8_of_24 (by decide) (fun c4 => ?_) (fun c4 => ?_)
    · replace hf := ite_t c4 hf
      refine g_lv [0, 1, 2, 3, 4] rfl ?_
      obtain rfl := Option.some.inj hf
      exact hG
    · replace hf := ite_f c4 hf
      refine g_iload_n k 3 dX8_of_27 rfl rfl ?_
      refine g_aload_n k 0 dX8_of_28 rfl rfl ?_
      refine g_get k cfX8 0 0 dX8_of_29 lkX8_7 (by decide) rfl rfl ?_
      refine g_bipush k dX8_of_32 bi_20 ?_
      refine g_iload k 4 dX8_of_34 rfl ?_
      refine g_iadd k dX8_of_36 ?_
      obtain ⟨κ5, hκ5, hiκ5, heκ5, hf⟩ := ixb_some hf
      refine g_iaload k 1 dX8_of_37 rfl hiκ5 heκ5 ?_
      refine g_iload_n k 1 dX8_of_38 rfl rfl ?_
      refine g_ishr k dX8_of_39 ?_
      refine g_iconst k dX8_of_40 ic_1 ?_
      refine g_iand k dX8_of_41 ?_
      refine g_iload k 4 dX8_of_42 rfl ?_
      refine g_ishl k dX8_of_44 ?_
      refine g_ior k dX8_of_45 ?_
      refine g_istore_n k (lv' := [(3, .int (x3 ||| ((((va0_row κ5) >>> (x1 &&& 31)) &&& 1) <<< (x4 &&& 31)))), (0, .ref a0), (1, .int x1), (2, .int x2), (4, .int x4)]) dX8_of_46 rfl (by decide) rfl ?_
      refine g_iinc k (lv' := [(4, .int (x4 + 1)), (3, .int (x3 ||| ((((va0_row κ5) >>> (x1 &&& 31)) &&& 1) <<< (x4 &&& 31)))), (0, .ref a0), (1, .int x1), (2, .int x2)]) 4 dX8_of_47 rfl (ii_1 _) (by decide) rfl ?_
      refine g_goto k (tgt := 15) dX8_of_50 (by decide) ?_
      refine g_lv [2, 3, 4, 1, 0] rfl ?_
      exact ih (x3 ||| ((((va0_row κ5) >>> (x1 &&& 31)) &&& 1) <<< (x4 &&& 31))) (x4 + 1) o hf hG
def fX8_of (N : Nat) (va0_row : Nat → Int32) (x1 : Int32) (x2 : Int32) : Option (Int32) :=
  bnd (fX8_isPerson N va0_row x1) fun o1 =>
  if o1 = 0 then
  some ((-1))
  else
  bnd (fX8_of_L15 N x1 x2 va0_row N 0 0) fun o6 =>
  if x2 = 0 then
  ixb (29 + x1) 525 fun κ12 =>
  some ((va0_row κ12))
  else
  if x2 = 1 then
  ixb (35 + x1) 525 fun κ11 =>
  some ((va0_row κ11))
  else
  if x2 = 2 then
  some (o6.1)
  else
  some ((-1))
set_option maxHeartbeats 4000000 in
set_option maxRecDepth 100000 in
theorem ctX8_of (l : Launch) (E : Ev) (N : Nat) (a0 : Nat) (a0_row : Nat) (a0_lanes : Nat) (a0_sizes : Nat) (a0_items : Nat) (a0_tape : Nat) (a0_readIce : Nat) (a0_readPeople : Nat) (a0_readSayings : Nat) (a0_line : Nat) (a0_bestLine : Nat) (a0_seen : Nat) (a0_held : Nat) (va0_isKept : Int32) (va0_length : Int32) (va0_at : Int32) (va0_number : Int32) (va0_readCells : Int32) (va0_readMany : Int32) (va0_readSaid : Int32) (va0_bestFar : Int32) (va0_bestIce : Int32) (va0_row : Nat → Int32) (x1 : Int32) (x2 : Int32) (out : Int32) (hf : fX8_of N va0_row x1 x2 = some out) : Ct l E yX8_of cX8_of 5 (some .int) rmX8_of [.ref a0, .int x1, .int x2] [(a0, oB 8 [.ref a0_row, .int va0_isKept, .ref a0_lanes, .ref a0_sizes, .ref a0_items, .ref a0_tape, .int va0_length, .int va0_at, .int va0_number, .ref a0_readIce, .int va0_readCells, .ref a0_readPeople, .int va0_readMany, .ref a0_readSayings, .int va0_readSaid, .ref a0_line, .ref a0_bestLine, .int va0_bestFar, .int va0_bestIce, .ref a0_seen, .ref a0_held]), (a0_row, aI E 525 va0_row)] (Pe (some (.int out)) [(a0, oB 8 [.ref a0_row, .int va0_isKept, .ref a0_lanes, .ref a0_sizes, .ref a0_items, .ref a0_tape, .int va0_length, .int va0_at, .int va0_number, .ref a0_readIce, .int va0_readCells, .ref a0_readPeople, .int va0_readMany, .ref a0_readSayings, .int va0_readSaid, .ref a0_line, .ref a0_bestLine, .int va0_bestFar, .int va0_bestIce, .ref a0_seen, .ref a0_held]), (a0_row, aI E 525 va0_row)]) := by
  refine Ct.of rfl (Nat.le_of_ble_eq_true rfl) (fun K hL k r hin => ?_)
  subst hL
  unfold fX8_of at hf
  show G E K 5 0 0 [(0, .ref a0), (1, .int x1), (2, .int x2)] [] [(a0, oB 8 [.ref a0_row, .int va0_isKept, .ref a0_lanes, .ref a0_sizes, .ref a0_items, .ref a0_tape, .int va0_length, .int va0_at, .int va0_number, .ref a0_readIce, .int va0_readCells, .ref a0_readPeople, .int va0_readMany, .ref a0_readSayings, .int va0_readSaid, .ref a0_line, .ref a0_bestLine, .int va0_bestFar, .int va0_bestIce, .ref a0_seen, .ref a0_held]), (a0_row, aI E 525 va0_row)] 0
  refine g_aload_n k 0 dX8_of_0 rfl rfl ?_
  refine g_iload_n k 1 dX8_of_1 rfl rfl ?_
  obtain ⟨o1, ho2, hf⟩ := bnd_some hf
  refine g_cv k miX8_isPerson mvX8_isPerson (ctX8_isPerson (kL K) E N a0 a0_row a0_lanes a0_sizes a0_items a0_tape a0_readIce a0_readPeople a0_readSayings a0_line a0_bestLine a0_seen a0_held va0_isKept va0_length va0_at va0_number va0_readCells va0_readMany va0_readSaid va0_bestFar va0_bestIce va0_row x1 o1 ho2) [0, 1] 0 (ws' := [(a0, oB 8 [.ref a0_row, .int va0_isKept, .ref a0_lanes, .ref a0_sizes, .ref a0_items, .ref a0_tape, .int va0_length, .int va0_at, .int va0_number, .ref a0_readIce, .int va0_readCells, .ref a0_readPeople, .int va0_readMany, .ref a0_readSayings, .int va0_readSaid, .ref a0_line, .ref a0_bestLine, .int va0_bestFar, .int va0_bestIce, .ref a0_seen, .ref a0_held]), (a0_row, aI E 525 va0_row)]) dX8_of_2 lkX8_97 rfl ⟨rfl, rfl⟩ ⟨by decide, by decide⟩ rfl rfl rfl rfl (Nat.le_of_ble_eq_true rfl) rfl rfl rfl ?_
  refine g_st (st' := [.int o1]) rfl ?_
  refine g_if_ne k (tgt := 10) dX8_of_5 (by decide) (fun c3 => ?_) (fun c3 => ?_)
  · replace hf := ite_f c3 hf
    refine g_iconst k dX8_of_10 ic_0 ?_
    refine g_istore_n k (lv' := [(3, .int 0), (0, .ref a0), (1, .int x1), (2, .int x2)]) dX8_of_11 rfl (by decide) rfl ?_
    refine g_iconst k dX8_of_12 ic_0 ?_
    refine g_istore k (lv' := [(4, .int 0), (3, .int 0), (0, .ref a0), (1, .int x1), (2, .int x2)]) dX8_of_13 (by decide) rfl ?_
    obtain ⟨o6, ho7, hf⟩ := bnd_some hf
    refine g_lv [2, 3, 4, 1, 0] (lv' := [(0, .ref a0), (1, .int x1), (2, .int x2), (3, .int 0), (4, .int 0)]) rfl ?_
    refine wX8_of_L15 k N a0 a0_row a0_lanes a0_sizes a0_items a0_tape a0_readIce a0_readPeople a0_readSayings a0_line a0_bestLine a0_seen a0_held  x1 x2 va0_row va0_isKept va0_length va0_at va0_number va0_readCells va0_readMany va0_readSaid va0_bestFar va0_bestIce N 0 0 o6 ho7 ?_
    refine g_iload_n k 2 dX8_of_53 rfl rfl ?_
    refine g_if_ne k (tgt := 69) dX8_of_54 (by decide) (fun c8 => ?_) (fun c8 => ?_)
    · replace hf := ite_f c8 hf
      refine g_iload_n k 2 dX8_of_69 rfl rfl ?_
      refine g_iconst k dX8_of_70 ic_1 ?_
      refine g_icmp_ne k (tgt := 86) dX8_of_71 (by decide) (fun c9 => ?_) (fun c9 => ?_)
      · replace hf := ite_f c9 hf
        refine g_iload_n k 2 dX8_of_86 rfl rfl ?_
        refine g_iconst k dX8_of_87 ic_2 ?_
        refine g_icmp_ne k (tgt := 95) dX8_of_88 (by decide) (fun c10 => ?_) (fun c10 => ?_)
        · replace hf := ite_f c10 hf
          refine g_iconst k dX8_of_95 ic_m1 ?_
          obtain rfl := Option.some.inj hf
          exact g_iret k r dX8_of_96 ⟨rfl, rfl⟩
        · replace hf := ite_t c10 hf
          refine g_iload_n k 3 dX8_of_91 rfl rfl ?_
          refine g_goto k (tgt := 96) dX8_of_92 (by decide) ?_
          obtain rfl := Option.some.inj hf
          exact g_iret k r dX8_of_96 ⟨rfl, rfl⟩
      · replace hf := ite_t c9 hf
        refine g_aload_n k 0 dX8_of_74 rfl rfl ?_
        refine g_get k cfX8 0 0 dX8_of_75 lkX8_7 (by decide) rfl rfl ?_
        refine g_bipush k dX8_of_78 bi_35 ?_
        refine g_iload_n k 1 dX8_of_80 rfl rfl ?_
        refine g_iadd k dX8_of_81 ?_
        obtain ⟨κ11, hκ11, hiκ11, heκ11, hf⟩ := ixb_some hf
        refine g_iaload k 1 dX8_of_82 rfl hiκ11 heκ11 ?_
        refine g_goto k (tgt := 96) dX8_of_83 (by decide) ?_
        obtain rfl := Option.some.inj hf
        exact g_iret k r dX8_of_96 ⟨rfl, rfl⟩
    · replace hf := ite_t c8 hf
      refine g_aload_n k 0 dX8_of_57 rfl rfl ?_
      refine g_get k cfX8 0 0 dX8_of_58 lkX8_7 (by decide) rfl rfl ?_
      refine g_bipush k dX8_of_61 bi_29 ?_
      refine g_iload_n k 1 dX8_of_63 rfl rfl ?_
      refine g_iadd k dX8_of_64 ?_
      obtain ⟨κ12, hκ12, hiκ12, heκ12, hf⟩ := ixb_some hf
      refine g_iaload k 1 dX8_of_65 rfl hiκ12 heκ12 ?_
      refine g_goto k (tgt := 96) dX8_of_66 (by decide) ?_
      obtain rfl := Option.some.inj hf
      exact g_iret k r dX8_of_96 ⟨rfl, rfl⟩
  · replace hf := ite_t c3 hf
    refine g_iconst k dX8_of_8 ic_m1 ?_
    obtain rfl := Option.some.inj hf
    exact g_iret k r dX8_of_9 ⟨rfl, rfl⟩
abbrev rmX8_sideOf : Room := { frames := 1, cells := 0, slots := 0, locals := 20 }
def fX8_sideOf (N : Nat) (va0_row : Nat → Int32) (x1 : Int32) (x2 : Int32) : Option (Int32) :=
  if x2 = 0 then
  bnd (fX8_everybody N va0_row) fun o2 =>
  ixb (20 + x1) 525 fun κ4 =>
  some ((o2 &&& ((va0_row κ4) ^^^ (-1))))
  else
  ixb (20 + x1) 525 fun κ5 =>
  some ((va0_row κ5))
set_option maxHeartbeats 4000000 in
set_option maxRecDepth 100000 in
theorem ctX8_sideOf (l : Launch) (E : Ev) (N : Nat) (a0 : Nat) (a0_row : Nat) (a0_lanes : Nat) (a0_sizes : Nat) (a0_items : Nat) (a0_tape : Nat) (a0_readIce : Nat) (a0_readPeople : Nat) (a0_readSayings : Nat) (a0_line : Nat) (a0_bestLine : Nat) (a0_seen : Nat) (a0_held : Nat) (va0_isKept : Int32) (va0_length : Int32) (va0_at : Int32) (va0_number : Int32) (va0_readCells : Int32) (va0_readMany : Int32) (va0_readSaid : Int32) (va0_bestFar : Int32) (va0_bestIce : Int32) (va0_row : Nat → Int32) (x1 : Int32) (x2 : Int32) (out : Int32) (hf : fX8_sideOf N va0_row x1 x2 = some out) : Ct l E yX8_sideOf cX8_sideOf 3 (some .int) rmX8_sideOf [.ref a0, .int x1, .int x2] [(a0, oB 8 [.ref a0_row, .int va0_isKept, .ref a0_lanes, .ref a0_sizes, .ref a0_items, .ref a0_tape, .int va0_length, .int va0_at, .int va0_number, .ref a0_readIce, .int va0_readCells, .ref a0_readPeople, .int va0_readMany, .ref a0_readSayings, .int va0_readSaid, .ref a0_line, .ref a0_bestLine, .int va0_bestFar, .int va0_bestIce, .ref a0_seen, .ref a0_held]), (a0_row, aI E 525 va0_row)] (Pe (some (.int out)) [(a0, oB 8 [.ref a0_row, .int va0_isKept, .ref a0_lanes, .ref a0_sizes, .ref a0_items, .ref a0_tape, .int va0_length, .int va0_at, .int va0_number, .ref a0_readIce, .int va0_readCells, .ref a0_readPeople, .int va0_readMany, .ref a0_readSayings, .int va0_readSaid, .ref a0_line, .ref a0_bestLine, .int va0_bestFar, .int va0_bestIce, .ref a0_seen, .ref a0_held]), (a0_row, aI E 525 va0_row)]) := by
  refine Ct.of rfl (Nat.le_of_ble_eq_true rfl) (fun K hL k r hin => ?_)
  subst hL
  unfold fX8_sideOf at hf
  show G E K 3 0 0 [(0, .ref a0), (1, .int x1), (2, .int x2)] [] [(a0, oB 8 [.ref a0_row, .int va0_isKept, .ref a0_lanes, .ref a0_sizes, .ref a0_items, .ref a0_tape, .int va0_length, .int va0_at, .int va0_number, .ref a0_readIce, .int va0_readCells, .ref a0_readPeople, .int va0_readMany, .ref a0_readSayings, .int va0_readSaid, .ref a0_line, .ref a0_bestLine, .int va0_bestFar, .int va0_bestIce, .ref a0_seen, .ref a0_held]), (a0_row, aI E 525 va0_row)] 0
  refine g_iload_n k 2 dX8_sideOf_0 rfl rfl ?_
  refine g_if_eq k (tgt := 16) dX8_sideOf_1 (by decide) (fun c1 => ?_) (fun c1 => ?_)
  · replace hf := ite_t c1 hf
    refine g_aload_n k 0 dX8_sideOf_16 rfl rfl ?_
    obtain ⟨o2, ho3, hf⟩ := bnd_some hf
    refine g_cv k miX8_everybody mvX8_everybody (ctX8_everybody (kL K) E N a0 a0_row a0_lanes a0_sizes a0_items a0_tape a0_readIce a0_readPeople a0_readSayings a0_line a0_bestLine a0_seen a0_held va0_isKept va0_length va0_at va0_number va0_readCells va0_readMany va0_readSaid va0_bestFar va0_bestIce va0_row  o2 ho3) [0, 1] 0 (ws' := [(a0, oB 8 [.ref a0_row, .int va0_isKept, .ref a0_lanes, .ref a0_sizes, .ref a0_items, .ref a0_tape, .int va0_length, .int va0_at, .int va0_number, .ref a0_readIce, .int va0_readCells, .ref a0_readPeople, .int va0_readMany, .ref a0_readSayings, .int va0_readSaid, .ref a0_line, .ref a0_bestLine, .int va0_bestFar, .int va0_bestIce, .ref a0_seen, .ref a0_held]), (a0_row, aI E 525 va0_row)]) dX8_sideOf_17 lkX8_67 rfl ⟨rfl, rfl⟩ ⟨by decide, by decide⟩ rfl rfl rfl rfl (Nat.le_of_ble_eq_true rfl) rfl rfl rfl ?_
    refine g_st (st' := [.int o2]) rfl ?_
    refine g_aload_n k 0 dX8_sideOf_20 rfl rfl ?_
    refine g_get k cfX8 0 0 dX8_sideOf_21 lkX8_7 (by decide) rfl rfl ?_
    refine g_bipush k dX8_sideOf_24 bi_20 ?_
    refine g_iload_n k 1 dX8_sideOf_26 rfl rfl ?_
    refine g_iadd k dX8_sideOf_27 ?_
    obtain ⟨κ4, hκ4, hiκ4, heκ4, hf⟩ := ixb_some hf
    refine g_iaload k 1 dX8_sideOf_28 rfl hiκ4 heκ4 ?_
    refine g_iconst k dX8_sideOf_29 ic_m1 ?_
    refine g_ixor k dX8_sideOf_30 ?_
    refine g_iand k dX8_sideOf_31 ?_
    obtain rfl := Option.some.inj hf
    exact g_iret k r dX8_sideOf_32 ⟨rfl, rfl⟩
  · replace hf := ite_f c1 hf
    refine g_aload_n k 0 dX8_sideOf_4 rfl rfl ?_
    refine g_get k cfX8 0 0 dX8_sideOf_5 lkX8_7 (by decide) rfl rfl ?_
    refine g_bipush k dX8_sideOf_8 bi_20 ?_
    refine g_iload_n k 1 dX8_sideOf_10 rfl rfl ?_
    refine g_iadd k dX8_sideOf_11 ?_
    obtain ⟨κ5, hκ5, hiκ5, heκ5, hf⟩ := ixb_some hf
    refine g_iaload k 1 dX8_sideOf_12 rfl hiκ5 heκ5 ?_
    refine g_goto k (tgt := 32) dX8_sideOf_13 (by decide) ?_
    obtain rfl := Option.some.inj hf
    exact g_iret k r dX8_sideOf_32 ⟨rfl, rfl⟩
abbrev rmX8_at : Room := { frames := 3, cells := 0, slots := 0, locals := 74 }
def fX8_at (N : Nat) (va0_row : Nat → Int32) (x1 : Int32) (x2 : Int32) : Option (Int32) :=
  bnd (fX8_isSaying N va0_row x1) fun o1 =>
  if o1 = 0 then
  some ((-1))
  else
  if x2 = 0 then
  ixb (15 + x1) 525 fun κ5 =>
  some ((va0_row κ5))
  else
  if x2 = 1 then
  ixb (20 + x1) 525 fun κ7 =>
  some ((va0_row κ7))
  else
  if x2 = 2 then
  ixb (15 + x1) 525 fun κ9 =>
  if x2 = 2 then
  bnd (fX8_sideOf N va0_row x1 1) fun o15 =>
  bnd (fX8_sideBy N va0_row 0 (va0_row κ9) o15) fun o17 =>
  some (o17)
  else
  bnd (fX8_sideOf N va0_row x1 0) fun o11 =>
  bnd (fX8_sideBy N va0_row 0 (va0_row κ9) o11) fun o13 =>
  some (o13)
  else
  if x2 = 3 then
  ixb (15 + x1) 525 fun κ20 =>
  if x2 = 2 then
  bnd (fX8_sideOf N va0_row x1 1) fun o26 =>
  bnd (fX8_sideBy N va0_row 0 (va0_row κ20) o26) fun o28 =>
  some (o28)
  else
  bnd (fX8_sideOf N va0_row x1 0) fun o22 =>
  bnd (fX8_sideBy N va0_row 0 (va0_row κ20) o22) fun o24 =>
  some (o24)
  else
  some ((-1))
set_option maxHeartbeats 4000000 in
set_option maxRecDepth 100000 in
theorem ctX8_at (l : Launch) (E : Ev) (N : Nat) (a0 : Nat) (a0_row : Nat) (a0_lanes : Nat) (a0_sizes : Nat) (a0_items : Nat) (a0_tape : Nat) (a0_readIce : Nat) (a0_readPeople : Nat) (a0_readSayings : Nat) (a0_line : Nat) (a0_bestLine : Nat) (a0_seen : Nat) (a0_held : Nat) (va0_isKept : Int32) (va0_length : Int32) (va0_at : Int32) (va0_number : Int32) (va0_readCells : Int32) (va0_readMany : Int32) (va0_readSaid : Int32) (va0_bestFar : Int32) (va0_bestIce : Int32) (va0_row : Nat → Int32) (x1 : Int32) (x2 : Int32) (out : Int32) (hf : fX8_at N va0_row x1 x2 = some out) : Ct l E yX8_at cX8_at 3 (some .int) rmX8_at [.ref a0, .int x1, .int x2] [(a0, oB 8 [.ref a0_row, .int va0_isKept, .ref a0_lanes, .ref a0_sizes, .ref a0_items, .ref a0_tape, .int va0_length, .int va0_at, .int va0_number, .ref a0_readIce, .int va0_readCells, .ref a0_readPeople, .int va0_readMany, .ref a0_readSayings, .int va0_readSaid, .ref a0_line, .ref a0_bestLine, .int va0_bestFar, .int va0_bestIce, .ref a0_seen, .ref a0_held]), (a0_row, aI E 525 va0_row)] (Pe (some (.int out)) [(a0, oB 8 [.ref a0_row, .int va0_isKept, .ref a0_lanes, .ref a0_sizes, .ref a0_items, .ref a0_tape, .int va0_length, .int va0_at, .int va0_number, .ref a0_readIce, .int va0_readCells, .ref a0_readPeople, .int va0_readMany, .ref a0_readSayings, .int va0_readSaid, .ref a0_line, .ref a0_bestLine, .int va0_bestFar, .int va0_bestIce, .ref a0_seen, .ref a0_held]), (a0_row, aI E 525 va0_row)]) := by
  refine Ct.of rfl (Nat.le_of_ble_eq_true rfl) (fun K hL k r hin => ?_)
  subst hL
  unfold fX8_at at hf
  show G E K 3 0 0 [(0, .ref a0), (1, .int x1), (2, .int x2)] [] [(a0, oB 8 [.ref a0_row, .int va0_isKept, .ref a0_lanes, .ref a0_sizes, .ref a0_items, .ref a0_tape, .int va0_length, .int va0_at, .int va0_number, .ref a0_readIce, .int va0_readCells, .ref a0_readPeople, .int va0_readMany, .ref a0_readSayings, .int va0_readSaid, .ref a0_line, .ref a0_bestLine, .int va0_bestFar, .int va0_bestIce, .ref a0_seen, .ref a0_held]), (a0_row, aI E 525 va0_row)] 0
  refine g_aload_n k 0 dX8_at_0 rfl rfl ?_
  refine g_iload_n k 1 dX8_at_1 rfl rfl ?_
  obtain ⟨o1, ho2, hf⟩ := bnd_some hf
  refine g_cv k miX8_isSaying mvX8_isSaying (ctX8_isSaying (kL K) E N a0 a0_row a0_lanes a0_sizes a0_items a0_tape a0_readIce a0_readPeople a0_readSayings a0_line a0_bestLine a0_seen a0_held va0_isKept va0_length va0_at va0_number va0_readCells va0_readMany va0_readSaid va0_bestFar va0_bestIce va0_row x1 o1 ho2) [0, 1] 0 (ws' := [(a0, oB 8 [.ref a0_row, .int va0_isKept, .ref a0_lanes, .ref a0_sizes, .ref a0_items, .ref a0_tape, .int va0_length, .int va0_at, .int va0_number, .ref a0_readIce, .int va0_readCells, .ref a0_readPeople, .int va0_readMany, .ref a0_readSayings, .int va0_readSaid, .ref a0_line, .ref a0_bestLine, .int va0_bestFar, .int va0_bestIce, .ref a0_seen, .ref a0_held]), (a0_row, aI E 525 va0_row)]) dX8_at_2 lkX8_100 rfl ⟨rfl, rfl⟩ ⟨by decide, by decide⟩ rfl rfl rfl rfl (Nat.le_of_ble_eq_true rfl) rfl rfl rfl ?_
  refine g_st (st' := [.int o1]) rfl ?_
  refine g_if_ne k (tgt := 10) dX8_at_5 (by decide) (fun c3 => ?_) (fun c3 => ?_)
  · replace hf := ite_f c3 hf
    refine g_iload_n k 2 dX8_at_10 rfl rfl ?_
    by_cases c4 : x2 = 0
    · replace hf := ite_t c4 hf
      refine g_tabIn k (tgt := 40) dX8_at_11 (by rw [c4]; decide) (by rw [c4]; decide) (off := 29) (by rw [c4]; rfl) (by decide) ?_
      refine g_aload_n k 0 dX8_at_40 rfl rfl ?_
      refine g_get k cfX8 0 0 dX8_at_41 lkX8_7 (by decide) rfl rfl ?_
      refine g_bipush k dX8_at_44 bi_15 ?_
      refine g_iload_n k 1 dX8_at_46 rfl rfl ?_
      refine g_iadd k dX8_at_47 ?_
      obtain ⟨κ5, hκ5, hiκ5, heκ5, hf⟩ := ixb_some hf
      refine g_iaload k 1 dX8_at_48 rfl hiκ5 heκ5 ?_
      obtain rfl := Option.some.inj hf
      exact g_iret k r dX8_at_49 ⟨rfl, rfl⟩
    replace hf := ite_f c4 hf
    by_cases c6 : x2 = 1
    · replace hf := ite_t c6 hf
      refine g_tabIn k (tgt := 50) dX8_at_11 (by rw [c6]; decide) (by rw [c6]; decide) (off := 39) (by rw [c6]; rfl) (by decide) ?_
      refine g_aload_n k 0 dX8_at_50 rfl rfl ?_
      refine g_get k cfX8 0 0 dX8_at_51 lkX8_7 (by decide) rfl rfl ?_
      refine g_bipush k dX8_at_54 bi_20 ?_
      refine g_iload_n k 1 dX8_at_56 rfl rfl ?_
      refine g_iadd k dX8_at_57 ?_
      obtain ⟨κ7, hκ7, hiκ7, heκ7, hf⟩ := ixb_some hf
      refine g_iaload k 1 dX8_at_58 rfl hiκ7 heκ7 ?_
      obtain rfl := Option.some.inj hf
      exact g_iret k r dX8_at_59 ⟨rfl, rfl⟩
    replace hf := ite_f c6 hf
    by_cases c8 : x2 = 2
    · replace hf := ite_t c8 hf
      refine g_tabIn k (tgt := 60) dX8_at_11 (by rw [c8]; decide) (by rw [c8]; decide) (off := 49) (by rw [c8]; rfl) (by decide) ?_
      refine g_aload_n k 0 dX8_at_60 rfl rfl ?_
      refine g_iconst k dX8_at_61 ic_0 ?_
      refine g_aload_n k 0 dX8_at_62 rfl rfl ?_
      refine g_get k cfX8 0 0 dX8_at_63 lkX8_7 (by decide) rfl rfl ?_
      refine g_bipush k dX8_at_66 bi_15 ?_
      refine g_iload_n k 1 dX8_at_68 rfl rfl ?_
      refine g_iadd k dX8_at_69 ?_
      obtain ⟨κ9, hκ9, hiκ9, heκ9, hf⟩ := ixb_some hf
      refine g_iaload k 1 dX8_at_70 rfl hiκ9 heκ9 ?_
      refine g_aload_n k 0 dX8_at_71 rfl rfl ?_
      refine g_iload_n k 1 dX8_at_72 rfl rfl ?_
      refine g_iload_n k 2 dX8_at_73 rfl rfl ?_
      refine g_iconst k dX8_at_74 ic_2 ?_
      refine g_icmp_ne k (tgt := 82) dX8_at_75 (by decide) (fun c10 => ?_) (fun c10 => ?_)
      · replace hf := ite_f c10 hf
        refine g_iconst k dX8_at_82 ic_0 ?_
        obtain ⟨o11, ho12, hf⟩ := bnd_some hf
        refine g_cv k miX8_sideOf mvX8_sideOf (ctX8_sideOf (kL K) E N a0 a0_row a0_lanes a0_sizes a0_items a0_tape a0_readIce a0_readPeople a0_readSayings a0_line a0_bestLine a0_seen a0_held va0_isKept va0_length va0_at va0_number va0_readCells va0_readMany va0_readSaid va0_bestFar va0_bestIce va0_row x1 0 o11 ho12) [0, 1] 0 (ws' := [(a0, oB 8 [.ref a0_row, .int va0_isKept, .ref a0_lanes, .ref a0_sizes, .ref a0_items, .ref a0_tape, .int va0_length, .int va0_at, .int va0_number, .ref a0_readIce, .int va0_readCells, .ref a0_readPeople, .int va0_readMany, .ref a0_readSayings, .int va0_readSaid, .ref a0_line, .ref a0_bestLine, .int va0_bestFar, .int va0_bestIce, .ref a0_seen, .ref a0_held]), (a0_row, aI E 525 va0_row)]) dX8_at_83 lkX8_103 rfl ⟨rfl, rfl⟩ ⟨by decide, by decide⟩ rfl rfl rfl rfl (Nat.le_of_ble_eq_true rfl) rfl rfl rfl ?_
        refine g_st (st' := [.int o11, .int (va0_row κ9), .int 0, .ref a0]) rfl ?_
        obtain ⟨o13, ho14, hf⟩ := bnd_some hf
        refine g_cv k miX8_sideBy mvX8_sideBy (ctX8_sideBy (kL K) E N a0 a0_row a0_lanes a0_sizes a0_items a0_tape a0_readIce a0_readPeople a0_readSayings a0_line a0_bestLine a0_seen a0_held va0_isKept va0_length va0_at va0_number va0_readCells va0_readMany va0_readSaid va0_bestFar va0_bestIce va0_row 0 (va0_row κ9) o11 o13 ho14) [0, 1] 0 (ws' := [(a0, oB 8 [.ref a0_row, .int va0_isKept, .ref a0_lanes, .ref a0_sizes, .ref a0_items, .ref a0_tape, .int va0_length, .int va0_at, .int va0_number, .ref a0_readIce, .int va0_readCells, .ref a0_readPeople, .int va0_readMany, .ref a0_readSayings, .int va0_readSaid, .ref a0_line, .ref a0_bestLine, .int va0_bestFar, .int va0_bestIce, .ref a0_seen, .ref a0_held]), (a0_row, aI E 525 va0_row)]) dX8_at_86 lkX8_90 rfl ⟨rfl, rfl⟩ ⟨by decide, by decide⟩ rfl rfl rfl rfl (Nat.le_of_ble_eq_true rfl) rfl rfl rfl ?_
        refine g_st (st' := [.int o13]) rfl ?_
        obtain rfl := Option.some.inj hf
        exact g_iret k r dX8_at_89 ⟨rfl, rfl⟩
      · replace hf := ite_t c10 hf
        refine g_iconst k dX8_at_78 ic_1 ?_
        refine g_goto k (tgt := 83) dX8_at_79 (by decide) ?_
        obtain ⟨o15, ho16, hf⟩ := bnd_some hf
        refine g_cv k miX8_sideOf mvX8_sideOf (ctX8_sideOf (kL K) E N a0 a0_row a0_lanes a0_sizes a0_items a0_tape a0_readIce a0_readPeople a0_readSayings a0_line a0_bestLine a0_seen a0_held va0_isKept va0_length va0_at va0_number va0_readCells va0_readMany va0_readSaid va0_bestFar va0_bestIce va0_row x1 1 o15 ho16) [0, 1] 0 (ws' := [(a0, oB 8 [.ref a0_row, .int va0_isKept, .ref a0_lanes, .ref a0_sizes, .ref a0_items, .ref a0_tape, .int va0_length, .int va0_at, .int va0_number, .ref a0_readIce, .int va0_readCells, .ref a0_readPeople, .int va0_readMany, .ref a0_readSayings, .int va0_readSaid, .ref a0_line, .ref a0_bestLine, .int va0_bestFar, .int va0_bestIce, .ref a0_seen, .ref a0_held]), (a0_row, aI E 525 va0_row)]) dX8_at_83 lkX8_103 rfl ⟨rfl, rfl⟩ ⟨by decide, by decide⟩ rfl rfl rfl rfl (Nat.le_of_ble_eq_true rfl) rfl rfl rfl ?_
        refine g_st (st' := [.int o15, .int (va0_row κ9), .int 0, .ref a0]) rfl ?_
        obtain ⟨o17, ho18, hf⟩ := bnd_some hf
        refine g_cv k miX8_sideBy mvX8_sideBy (ctX8_sideBy (kL K) E N a0 a0_row a0_lanes a0_sizes a0_items a0_tape a0_readIce a0_readPeople a0_readSayings a0_line a0_bestLine a0_seen a0_held va0_isKept va0_length va0_at va0_number va0_readCells va0_readMany va0_readSaid va0_bestFar va0_bestIce va0_row 0 (va0_row κ9) o15 o17 ho18) [0, 1] 0 (ws' := [(a0, oB 8 [.ref a0_row, .int va0_isKept, .ref a0_lanes, .ref a0_sizes, .ref a0_items, .ref a0_tape, .int va0_length, .int va0_at, .int va0_number, .ref a0_readIce, .int va0_readCells, .ref a0_readPeople, .int va0_readMany, .ref a0_readSayings, .int va0_readSaid, .ref a0_line, .ref a0_bestLine, .int va0_bestFar, .int va0_bestIce, .ref a0_seen, .ref a0_held]), (a0_row, aI E 525 va0_row)]) dX8_at_86 lkX8_90 rfl ⟨rfl, rfl⟩ ⟨by decide, by decide⟩ rfl rfl rfl rfl (Nat.le_of_ble_eq_true rfl) rfl rfl rfl ?_
        refine g_st (st' := [.int o17]) rfl ?_
        obtain rfl := Option.some.inj hf
        exact g_iret k r dX8_at_89 ⟨rfl, rfl⟩
    replace hf := ite_f c8 hf
    by_cases c19 : x2 = 3
    · replace hf := ite_t c19 hf
      refine g_tabIn k (tgt := 60) dX8_at_11 (by rw [c19]; decide) (by rw [c19]; decide) (off := 49) (by rw [c19]; rfl) (by decide) ?_
      refine g_aload_n k 0 dX8_at_60 rfl rfl ?_
      refine g_iconst k dX8_at_61 ic_0 ?_
      refine g_aload_n k 0 dX8_at_62 rfl rfl ?_
      refine g_get k cfX8 0 0 dX8_at_63 lkX8_7 (by decide) rfl rfl ?_
      refine g_bipush k dX8_at_66 bi_15 ?_
      refine g_iload_n k 1 dX8_at_68 rfl rfl ?_
      refine g_iadd k dX8_at_69 ?_
      obtain ⟨κ20, hκ20, hiκ20, heκ20, hf⟩ := ixb_some hf
      refine g_iaload k 1 dX8_at_70 rfl hiκ20 heκ20 ?_
      refine g_aload_n k 0 dX8_at_71 rfl rfl ?_
      refine g_iload_n k 1 dX8_at_72 rfl rfl ?_
      refine g_iload_n k 2 dX8_at_73 rfl rfl ?_
      refine g_iconst k dX8_at_74 ic_2 ?_
      refine g_icmp_ne k (tgt := 82) dX8_at_75 (by decide) (fun c21 => ?_) (fun c21 => ?_)
      · replace hf := ite_f c21 hf
        refine g_iconst k dX8_at_82 ic_0 ?_
        obtain ⟨o22, ho23, hf⟩ := bnd_some hf
        refine g_cv k miX8_sideOf mvX8_sideOf (ctX8_sideOf (kL K) E N a0 a0_row a0_lanes a0_sizes a0_items a0_tape a0_readIce a0_readPeople a0_readSayings a0_line a0_bestLine a0_seen a0_held va0_isKept va0_length va0_at va0_number va0_readCells va0_readMany va0_readSaid va0_bestFar va0_bestIce va0_row x1 0 o22 ho23) [0, 1] 0 (ws' := [(a0, oB 8 [.ref a0_row, .int va0_isKept, .ref a0_lanes, .ref a0_sizes, .ref a0_items, .ref a0_tape, .int va0_length, .int va0_at, .int va0_number, .ref a0_readIce, .int va0_readCells, .ref a0_readPeople, .int va0_readMany, .ref a0_readSayings, .int va0_readSaid, .ref a0_line, .ref a0_bestLine, .int va0_bestFar, .int va0_bestIce, .ref a0_seen, .ref a0_held]), (a0_row, aI E 525 va0_row)]) dX8_at_83 lkX8_103 rfl ⟨rfl, rfl⟩ ⟨by decide, by decide⟩ rfl rfl rfl rfl (Nat.le_of_ble_eq_true rfl) rfl rfl rfl ?_
        refine g_st (st' := [.int o22, .int (va0_row κ20), .int 0, .ref a0]) rfl ?_
        obtain ⟨o24, ho25, hf⟩ := bnd_some hf
        refine g_cv k miX8_sideBy mvX8_sideBy (ctX8_sideBy (kL K) E N a0 a0_row a0_lanes a0_sizes a0_items a0_tape a0_readIce a0_readPeople a0_readSayings a0_line a0_bestLine a0_seen a0_held va0_isKept va0_length va0_at va0_number va0_readCells va0_readMany va0_readSaid va0_bestFar va0_bestIce va0_row 0 (va0_row κ20) o22 o24 ho25) [0, 1] 0 (ws' := [(a0, oB 8 [.ref a0_row, .int va0_isKept, .ref a0_lanes, .ref a0_sizes, .ref a0_items, .ref a0_tape, .int va0_length, .int va0_at, .int va0_number, .ref a0_readIce, .int va0_readCells, .ref a0_readPeople, .int va0_readMany, .ref a0_readSayings, .int va0_readSaid, .ref a0_line, .ref a0_bestLine, .int va0_bestFar, .int va0_bestIce, .ref a0_seen, .ref a0_held]), (a0_row, aI E 525 va0_row)]) dX8_at_86 lkX8_90 rfl ⟨rfl, rfl⟩ ⟨by decide, by decide⟩ rfl rfl rfl rfl (Nat.le_of_ble_eq_true rfl) rfl rfl rfl ?_
        refine g_st (st' := [.int o24]) rfl ?_
        obtain rfl := Option.some.inj hf
        exact g_iret k r dX8_at_89 ⟨rfl, rfl⟩
      · replace hf := ite_t c21 hf
        refine g_iconst k dX8_at_78 ic_1 ?_
        refine g_goto k (tgt := 83) dX8_at_79 (by decide) ?_
        obtain ⟨o26, ho27, hf⟩ := bnd_some hf
        refine g_cv k miX8_sideOf mvX8_sideOf (ctX8_sideOf (kL K) E N a0 a0_row a0_lanes a0_sizes a0_items a0_tape a0_readIce a0_readPeople a0_readSayings a0_line a0_bestLine a0_seen a0_held va0_isKept va0_length va0_at va0_number va0_readCells va0_readMany va0_readSaid va0_bestFar va0_bestIce va0_row x1 1 o26 ho27) [0, 1] 0 (ws' := [(a0, oB 8 [.ref a0_row, .int va0_isKept, .ref a0_lanes, .ref a0_sizes, .ref a0_items, .ref a0_tape, .int va0_length, .int va0_at, .int va0_number, .ref a0_readIce, .int va0_readCells, .ref a0_readPeople, .int va0_readMany, .ref a0_readSayings, .int va0_readSaid, .ref a0_line, .ref a0_bestLine, .int va0_bestFar, .int va0_bestIce, .ref a0_seen, .ref a0_held]), (a0_row, aI E 525 va0_row)]) dX8_at_83 lkX8_103 rfl ⟨rfl, rfl⟩ ⟨by decide, by decide⟩ rfl rfl rfl rfl (Nat.le_of_ble_eq_true rfl) rfl rfl rfl ?_
        refine g_st (st' := [.int o26, .int (va0_row κ20), .int 0, .ref a0]) rfl ?_
        obtain ⟨o28, ho29, hf⟩ := bnd_some hf
        refine g_cv k miX8_sideBy mvX8_sideBy (ctX8_sideBy (kL K) E N a0 a0_row a0_lanes a0_sizes a0_items a0_tape a0_readIce a0_readPeople a0_readSayings a0_line a0_bestLine a0_seen a0_held va0_isKept va0_length va0_at va0_number va0_readCells va0_readMany va0_readSaid va0_bestFar va0_bestIce va0_row 0 (va0_row κ20) o26 o28 ho29) [0, 1] 0 (ws' := [(a0, oB 8 [.ref a0_row, .int va0_isKept, .ref a0_lanes, .ref a0_sizes, .ref a0_items, .ref a0_tape, .int va0_length, .int va0_at, .int va0_number, .ref a0_readIce, .int va0_readCells, .ref a0_readPeople, .int va0_readMany, .ref a0_readSayings, .int va0_readSaid, .ref a0_line, .ref a0_bestLine, .int va0_bestFar, .int va0_bestIce, .ref a0_seen, .ref a0_held]), (a0_row, aI E 525 va0_row)]) dX8_at_86 lkX8_90 rfl ⟨rfl, rfl⟩ ⟨by decide, by decide⟩ rfl rfl rfl rfl (Nat.le_of_ble_eq_true rfl) rfl rfl rfl ?_
        refine g_st (st' := [.int o28]) rfl ?_
        obtain rfl := Option.some.inj hf
        exact g_iret k r dX8_at_89 ⟨rfl, rfl⟩
    replace hf := ite_f c19 hf
    refine g_tabOut k (tgt := 90) dX8_at_11 (by have := lv_neT (k := 0) c4 (a := 0) (by decide); have := lv_neT (k := 1) c6 (a := 1) (by decide); have := lv_neT (k := 2) c8 (a := 2) (by decide); have := lv_neT (k := 3) c19 (a := 3) (by decide); omega) (by decide) ?_
    refine g_iconst k dX8_at_90 ic_m1 ?_
    obtain rfl := Option.some.inj hf
    exact g_iret k r dX8_at_91 ⟨rfl, rfl⟩
  · replace hf := ite_t c3 hf
    refine g_iconst k dX8_at_8 ic_m1 ?_
    obtain rfl := Option.some.inj hf
    exact g_iret k r dX8_at_9 ⟨rfl, rfl⟩
abbrev rmX8_rocks : Room := { frames := 2, cells := 0, slots := 0, locals := 49 }
def fX8_rocks (N : Nat) (va0_row : Nat → Int32) (x1 : Int32) (x2 : Int32) : Option (Int32) :=
  bnd (fX8_isPerson N va0_row x1) fun o1 =>
  if o1 = 0 then
  some ((-1))
  else
  bnd (fX8_isSaying N va0_row x2) fun o4 =>
  if o4 = 0 then
  some ((-1))
  else
  ixb (15 + x2) 525 fun κ7 =>
  ixb (20 + x2) 525 fun κ8 =>
  bnd (fX8_has N (va0_row κ8) x1) fun o9 =>
  bnd (fX8_sideOf N va0_row x2 o9) fun o11 =>
  bnd (fX8_rocksBy N va0_row 0 x1 (va0_row κ7) o11) fun o13 =>
  some (o13)
set_option maxHeartbeats 4000000 in
set_option maxRecDepth 100000 in
theorem ctX8_rocks (l : Launch) (E : Ev) (N : Nat) (a0 : Nat) (a0_row : Nat) (a0_lanes : Nat) (a0_sizes : Nat) (a0_items : Nat) (a0_tape : Nat) (a0_readIce : Nat) (a0_readPeople : Nat) (a0_readSayings : Nat) (a0_line : Nat) (a0_bestLine : Nat) (a0_seen : Nat) (a0_held : Nat) (va0_isKept : Int32) (va0_length : Int32) (va0_at : Int32) (va0_number : Int32) (va0_readCells : Int32) (va0_readMany : Int32) (va0_readSaid : Int32) (va0_bestFar : Int32) (va0_bestIce : Int32) (va0_row : Nat → Int32) (x1 : Int32) (x2 : Int32) (out : Int32) (hf : fX8_rocks N va0_row x1 x2 = some out) : Ct l E yX8_rocks cX8_rocks 3 (some .int) rmX8_rocks [.ref a0, .int x1, .int x2] [(a0, oB 8 [.ref a0_row, .int va0_isKept, .ref a0_lanes, .ref a0_sizes, .ref a0_items, .ref a0_tape, .int va0_length, .int va0_at, .int va0_number, .ref a0_readIce, .int va0_readCells, .ref a0_readPeople, .int va0_readMany, .ref a0_readSayings, .int va0_readSaid, .ref a0_line, .ref a0_bestLine, .int va0_bestFar, .int va0_bestIce, .ref a0_seen, .ref a0_held]), (a0_row, aI E 525 va0_row)] (Pe (some (.int out)) [(a0, oB 8 [.ref a0_row, .int va0_isKept, .ref a0_lanes, .ref a0_sizes, .ref a0_items, .ref a0_tape, .int va0_length, .int va0_at, .int va0_number, .ref a0_readIce, .int va0_readCells, .ref a0_readPeople, .int va0_readMany, .ref a0_readSayings, .int va0_readSaid, .ref a0_line, .ref a0_bestLine, .int va0_bestFar, .int va0_bestIce, .ref a0_seen, .ref a0_held]), (a0_row, aI E 525 va0_row)]) := by
  refine Ct.of rfl (Nat.le_of_ble_eq_true rfl) (fun K hL k r hin => ?_)
  subst hL
  unfold fX8_rocks at hf
  show G E K 3 0 0 [(0, .ref a0), (1, .int x1), (2, .int x2)] [] [(a0, oB 8 [.ref a0_row, .int va0_isKept, .ref a0_lanes, .ref a0_sizes, .ref a0_items, .ref a0_tape, .int va0_length, .int va0_at, .int va0_number, .ref a0_readIce, .int va0_readCells, .ref a0_readPeople, .int va0_readMany, .ref a0_readSayings, .int va0_readSaid, .ref a0_line, .ref a0_bestLine, .int va0_bestFar, .int va0_bestIce, .ref a0_seen, .ref a0_held]), (a0_row, aI E 525 va0_row)] 0
  refine g_aload_n k 0 dX8_rocks_0 rfl rfl ?_
  refine g_iload_n k 1 dX8_rocks_1 rfl rfl ?_
  obtain ⟨o1, ho2, hf⟩ := bnd_some hf
  refine g_cv k miX8_isPerson mvX8_isPerson (ctX8_isPerson (kL K) E N a0 a0_row a0_lanes a0_sizes a0_items a0_tape a0_readIce a0_readPeople a0_readSayings a0_line a0_bestLine a0_seen a0_held va0_isKept va0_length va0_at va0_number va0_readCells va0_readMany va0_readSaid va0_bestFar va0_bestIce va0_row x1 o1 ho2) [0, 1] 0 (ws' := [(a0, oB 8 [.ref a0_row, .int va0_isKept, .ref a0_lanes, .ref a0_sizes, .ref a0_items, .ref a0_tape, .int va0_length, .int va0_at, .int va0_number, .ref a0_readIce, .int va0_readCells, .ref a0_readPeople, .int va0_readMany, .ref a0_readSayings, .int va0_readSaid, .ref a0_line, .ref a0_bestLine, .int va0_bestFar, .int va0_bestIce, .ref a0_seen, .ref a0_held]), (a0_row, aI E 525 va0_row)]) dX8_rocks_2 lkX8_97 rfl ⟨rfl, rfl⟩ ⟨by decide, by decide⟩ rfl rfl rfl rfl (Nat.le_of_ble_eq_true rfl) rfl rfl rfl ?_
  refine g_st (st' := [.int o1]) rfl ?_
  refine g_if_eq k (tgt := 16) dX8_rocks_5 (by decide) (fun c3 => ?_) (fun c3 => ?_)
  · replace hf := ite_t c3 hf
    refine g_iconst k dX8_rocks_16 ic_m1 ?_
    obtain rfl := Option.some.inj hf
    exact g_iret k r dX8_rocks_17 ⟨rfl, rfl⟩
  · replace hf := ite_f c3 hf
    refine g_aload_n k 0 dX8_rocks_8 rfl rfl ?_
    refine g_iload_n k 2 dX8_rocks_9 rfl rfl ?_
    obtain ⟨o4, ho5, hf⟩ := bnd_some hf
    refine g_cv k miX8_isSaying mvX8_isSaying (ctX8_isSaying (kL K) E N a0 a0_row a0_lanes a0_sizes a0_items a0_tape a0_readIce a0_readPeople a0_readSayings a0_line a0_bestLine a0_seen a0_held va0_isKept va0_length va0_at va0_number va0_readCells va0_readMany va0_readSaid va0_bestFar va0_bestIce va0_row x2 o4 ho5) [0, 1] 0 (ws' := [(a0, oB 8 [.ref a0_row, .int va0_isKept, .ref a0_lanes, .ref a0_sizes, .ref a0_items, .ref a0_tape, .int va0_length, .int va0_at, .int va0_number, .ref a0_readIce, .int va0_readCells, .ref a0_readPeople, .int va0_readMany, .ref a0_readSayings, .int va0_readSaid, .ref a0_line, .ref a0_bestLine, .int va0_bestFar, .int va0_bestIce, .ref a0_seen, .ref a0_held]), (a0_row, aI E 525 va0_row)]) dX8_rocks_10 lkX8_100 rfl ⟨rfl, rfl⟩ ⟨by decide, by decide⟩ rfl rfl rfl rfl (Nat.le_of_ble_eq_true rfl) rfl rfl rfl ?_
    refine g_st (st' := [.int o4]) rfl ?_
    refine g_if_ne k (tgt := 18) dX8_rocks_13 (by decide) (fun c6 => ?_) (fun c6 => ?_)
    · replace hf := ite_f c6 hf
      refine g_aload_n k 0 dX8_rocks_18 rfl rfl ?_
      refine g_iconst k dX8_rocks_19 ic_0 ?_
      refine g_iload_n k 1 dX8_rocks_20 rfl rfl ?_
      refine g_aload_n k 0 dX8_rocks_21 rfl rfl ?_
      refine g_get k cfX8 0 0 dX8_rocks_22 lkX8_7 (by decide) rfl rfl ?_
      refine g_bipush k dX8_rocks_25 bi_15 ?_
      refine g_iload_n k 2 dX8_rocks_27 rfl rfl ?_
      refine g_iadd k dX8_rocks_28 ?_
      obtain ⟨κ7, hκ7, hiκ7, heκ7, hf⟩ := ixb_some hf
      refine g_iaload k 1 dX8_rocks_29 rfl hiκ7 heκ7 ?_
      refine g_aload_n k 0 dX8_rocks_30 rfl rfl ?_
      refine g_iload_n k 2 dX8_rocks_31 rfl rfl ?_
      refine g_aload_n k 0 dX8_rocks_32 rfl rfl ?_
      refine g_get k cfX8 0 0 dX8_rocks_33 lkX8_7 (by decide) rfl rfl ?_
      refine g_bipush k dX8_rocks_36 bi_20 ?_
      refine g_iload_n k 2 dX8_rocks_38 rfl rfl ?_
      refine g_iadd k dX8_rocks_39 ?_
      obtain ⟨κ8, hκ8, hiκ8, heκ8, hf⟩ := ixb_some hf
      refine g_iaload k 1 dX8_rocks_40 rfl hiκ8 heκ8 ?_
      refine g_iload_n k 1 dX8_rocks_41 rfl rfl ?_
      obtain ⟨o9, ho10, hf⟩ := bnd_some hf
      refine g_cs k miX8_has msX8_has (ctX8_has (kL K) E N   (va0_row κ8) x1 o9 ho10) [] (ws' := [(a0, oB 8 [.ref a0_row, .int va0_isKept, .ref a0_lanes, .ref a0_sizes, .ref a0_items, .ref a0_tape, .int va0_length, .int va0_at, .int va0_number, .ref a0_readIce, .int va0_readCells, .ref a0_readPeople, .int va0_readMany, .ref a0_readSayings, .int va0_readSaid, .ref a0_line, .ref a0_bestLine, .int va0_bestFar, .int va0_bestIce, .ref a0_seen, .ref a0_held]), (a0_row, aI E 525 va0_row)]) dX8_rocks_42 lkX8_82 rfl ⟨rfl, rfl⟩ ⟨by decide, by decide⟩ rfl rfl rfl (Nat.le_of_ble_eq_true rfl) rfl rfl rfl ?_
      refine g_st (st' := [.int o9, .int x2, .ref a0, .int (va0_row κ7), .int x1, .int 0, .ref a0]) rfl ?_
      obtain ⟨o11, ho12, hf⟩ := bnd_some hf
      refine g_cv k miX8_sideOf mvX8_sideOf (ctX8_sideOf (kL K) E N a0 a0_row a0_lanes a0_sizes a0_items a0_tape a0_readIce a0_readPeople a0_readSayings a0_line a0_bestLine a0_seen a0_held va0_isKept va0_length va0_at va0_number va0_readCells va0_readMany va0_readSaid va0_bestFar va0_bestIce va0_row x2 o9 o11 ho12) [0, 1] 0 (ws' := [(a0, oB 8 [.ref a0_row, .int va0_isKept, .ref a0_lanes, .ref a0_sizes, .ref a0_items, .ref a0_tape, .int va0_length, .int va0_at, .int va0_number, .ref a0_readIce, .int va0_readCells, .ref a0_readPeople, .int va0_readMany, .ref a0_readSayings, .int va0_readSaid, .ref a0_line, .ref a0_bestLine, .int va0_bestFar, .int va0_bestIce, .ref a0_seen, .ref a0_held]), (a0_row, aI E 525 va0_row)]) dX8_rocks_45 lkX8_103 rfl ⟨rfl, rfl⟩ ⟨by decide, by decide⟩ rfl rfl rfl rfl (Nat.le_of_ble_eq_true rfl) rfl rfl rfl ?_
      refine g_st (st' := [.int o11, .int (va0_row κ7), .int x1, .int 0, .ref a0]) rfl ?_
      obtain ⟨o13, ho14, hf⟩ := bnd_some hf
      refine g_cv k miX8_rocksBy mvX8_rocksBy (ctX8_rocksBy (kL K) E N a0 a0_row a0_lanes a0_sizes a0_items a0_tape a0_readIce a0_readPeople a0_readSayings a0_line a0_bestLine a0_seen a0_held va0_isKept va0_length va0_at va0_number va0_readCells va0_readMany va0_readSaid va0_bestFar va0_bestIce va0_row 0 x1 (va0_row κ7) o11 o13 ho14) [0, 1] 0 (ws' := [(a0, oB 8 [.ref a0_row, .int va0_isKept, .ref a0_lanes, .ref a0_sizes, .ref a0_items, .ref a0_tape, .int va0_length, .int va0_at, .int va0_number, .ref a0_readIce, .int va0_readCells, .ref a0_readPeople, .int va0_readMany, .ref a0_readSayings, .int va0_readSaid, .ref a0_line, .ref a0_bestLine, .int va0_bestFar, .int va0_bestIce, .ref a0_seen, .ref a0_held]), (a0_row, aI E 525 va0_row)]) dX8_rocks_48 lkX8_86 rfl ⟨rfl, rfl⟩ ⟨by decide, by decide⟩ rfl rfl rfl rfl (Nat.le_of_ble_eq_true rfl) rfl rfl rfl ?_
      refine g_st (st' := [.int o13]) rfl ?_
      obtain rfl := Option.some.inj hf
      exact g_iret k r dX8_rocks_51 ⟨rfl, rfl⟩
    · replace hf := ite_t c6 hf
      refine g_iconst k dX8_rocks_16 ic_m1 ?_
      obtain rfl := Option.some.inj hf
      exact g_iret k r dX8_rocks_17 ⟨rfl, rfl⟩
abbrev rmX8_frost : Room := { frames := 1, cells := 0, slots := 0, locals := 25 }
def fX8_frost (N : Nat) (va0_row : Nat → Int32) (x1 : Int32) : Option (Int32 × (Nat → Int32)) :=
  bnd (fX8_in N x1.toInt64 0 9) fun o1 =>
  if o1 = 0 then
  some ((-1), va0_row)
  else
  some ((va0_row 25), (upd va0_row 25 x1))
set_option maxHeartbeats 4000000 in
set_option maxRecDepth 100000 in
theorem ctX8_frost (l : Launch) (E : Ev) (N : Nat) (a0 : Nat) (a0_row : Nat) (a0_lanes : Nat) (a0_sizes : Nat) (a0_items : Nat) (a0_tape : Nat) (a0_readIce : Nat) (a0_readPeople : Nat) (a0_readSayings : Nat) (a0_line : Nat) (a0_bestLine : Nat) (a0_seen : Nat) (a0_held : Nat) (va0_isKept : Int32) (va0_length : Int32) (va0_at : Int32) (va0_number : Int32) (va0_readCells : Int32) (va0_readMany : Int32) (va0_readSaid : Int32) (va0_bestFar : Int32) (va0_bestIce : Int32) (va0_row : Nat → Int32) (x1 : Int32) (out : Int32 × (Nat → Int32)) (hf : fX8_frost N va0_row x1 = some out) : Ct l E yX8_frost cX8_frost 3 (some .int) rmX8_frost [.ref a0, .int x1] [(a0, oB 8 [.ref a0_row, .int va0_isKept, .ref a0_lanes, .ref a0_sizes, .ref a0_items, .ref a0_tape, .int va0_length, .int va0_at, .int va0_number, .ref a0_readIce, .int va0_readCells, .ref a0_readPeople, .int va0_readMany, .ref a0_readSayings, .int va0_readSaid, .ref a0_line, .ref a0_bestLine, .int va0_bestFar, .int va0_bestIce, .ref a0_seen, .ref a0_held]), (a0_row, aI E 525 va0_row)] (Pe (some (.int out.1)) [(a0, oB 8 [.ref a0_row, .int va0_isKept, .ref a0_lanes, .ref a0_sizes, .ref a0_items, .ref a0_tape, .int va0_length, .int va0_at, .int va0_number, .ref a0_readIce, .int va0_readCells, .ref a0_readPeople, .int va0_readMany, .ref a0_readSayings, .int va0_readSaid, .ref a0_line, .ref a0_bestLine, .int va0_bestFar, .int va0_bestIce, .ref a0_seen, .ref a0_held]), (a0_row, aI E 525 out.2)]) := by
  refine Ct.of rfl (Nat.le_of_ble_eq_true rfl) (fun K hL k r hin => ?_)
  subst hL
  unfold fX8_frost at hf
  show G E K 3 0 0 [(0, .ref a0), (1, .int x1)] [] [(a0, oB 8 [.ref a0_row, .int va0_isKept, .ref a0_lanes, .ref a0_sizes, .ref a0_items, .ref a0_tape, .int va0_length, .int va0_at, .int va0_number, .ref a0_readIce, .int va0_readCells, .ref a0_readPeople, .int va0_readMany, .ref a0_readSayings, .int va0_readSaid, .ref a0_line, .ref a0_bestLine, .int va0_bestFar, .int va0_bestIce, .ref a0_seen, .ref a0_held]), (a0_row, aI E 525 va0_row)] 0
  refine g_iload_n k 1 dX8_frost_0 rfl rfl ?_
  refine g_i2l k dX8_frost_1 ?_
  refine g_lconst k dX8_frost_2 lc_0 ?_
  refine g_ldc2 k dX8_frost_3 lkX8_59 ?_
  obtain ⟨o1, ho2, hf⟩ := bnd_some hf
  refine g_cs k miX8_in msX8_in (ctX8_in (kL K) E N   x1.toInt64 0 9 o1 ho2) [] (ws' := [(a0, oB 8 [.ref a0_row, .int va0_isKept, .ref a0_lanes, .ref a0_sizes, .ref a0_items, .ref a0_tape, .int va0_length, .int va0_at, .int va0_number, .ref a0_readIce, .int va0_readCells, .ref a0_readPeople, .int va0_readMany, .ref a0_readSayings, .int va0_readSaid, .ref a0_line, .ref a0_bestLine, .int va0_bestFar, .int va0_bestIce, .ref a0_seen, .ref a0_held]), (a0_row, aI E 525 va0_row)]) dX8_frost_6 lkX8_47 rfl ⟨rfl, rfl⟩ ⟨by decide, by decide⟩ rfl rfl rfl (Nat.le_of_ble_eq_true rfl) rfl rfl rfl ?_
  refine g_st (st' := [.int o1]) rfl ?_
  refine g_if_ne k (tgt := 14) dX8_frost_9 (by decide) (fun c3 => ?_) (fun c3 => ?_)
  · replace hf := ite_f c3 hf
    refine g_aload_n k 0 dX8_frost_14 rfl rfl ?_
    refine g_get k cfX8 0 0 dX8_frost_15 lkX8_7 (by decide) rfl rfl ?_
    refine g_bipush k dX8_frost_18 bi_25 ?_
    refine g_iaload k 1 dX8_frost_20 rfl vi_25_525 cl_25 ?_
    refine g_istore_n k (lv' := [(2, .int (va0_row 25)), (0, .ref a0), (1, .int x1)]) dX8_frost_21 rfl (by decide) rfl ?_
    refine g_aload_n k 1 dX8_frost_22 rfl rfl ?_
    refine g_get k cfX8 0 0 dX8_frost_23 lkX8_7 (by decide) rfl rfl ?_
    refine g_bipush k dX8_frost_26 bi_25 ?_
    refine g_iload_n k 2 dX8_frost_28 rfl rfl ?_
    refine g_iastore k 1 (ws' := [(a0, oB 8 [.ref a0_row, .int va0_isKept, .ref a0_lanes, .ref a0_sizes, .ref a0_items, .ref a0_tape, .int va0_length, .int va0_at, .int va0_number, .ref a0_readIce, .int va0_readCells, .ref a0_readPeople, .int va0_readMany, .ref a0_readSayings, .int va0_readSaid, .ref a0_line, .ref a0_bestLine, .int va0_bestFar, .int va0_bestIce, .ref a0_seen, .ref a0_held]), (a0_row, aI E 525 (upd va0_row 25 x1))]) dX8_frost_29 rfl vi_25_525 cl_25 rfl ?_
    refine g_iload_n k 0 dX8_frost_30 rfl rfl ?_
    obtain rfl := Option.some.inj hf
    exact g_iret k r dX8_frost_31 ⟨rfl, rfl⟩
  · replace hf := ite_t c3 hf
    refine g_iconst k dX8_frost_12 ic_m1 ?_
    obtain rfl := Option.some.inj hf
    exact g_iret k r dX8_frost_13 ⟨rfl, rfl⟩
abbrev rmX8_type : Room := { frames := 1, cells := 0, slots := 0, locals := 25 }
def fX8_type (N : Nat) (va0_length : Int32) (va0_tape : Nat → Int32) (x1 : Int32) : Option (Int32 × Int32 × (Nat → Int32)) :=
  bnd (fX8_in N x1.toInt64 32 126) fun o1 =>
  if o1 = 0 then
  some ((-1), va0_length, va0_tape)
  else
  if va0_length = 110 then
  some ((-3), va0_length, va0_tape)
  else
  ixb va0_length 110 fun κ5 =>
  some ((va0_length + 1), (va0_length + 1), (upd va0_tape κ5 x1))
set_option maxHeartbeats 4000000 in
set_option maxRecDepth 100000 in
theorem ctX8_type (l : Launch) (E : Ev) (N : Nat) (a0 : Nat) (a0_row : Nat) (a0_lanes : Nat) (a0_sizes : Nat) (a0_items : Nat) (a0_tape : Nat) (a0_readIce : Nat) (a0_readPeople : Nat) (a0_readSayings : Nat) (a0_line : Nat) (a0_bestLine : Nat) (a0_seen : Nat) (a0_held : Nat) (va0_isKept : Int32) (va0_length : Int32) (va0_at : Int32) (va0_number : Int32) (va0_readCells : Int32) (va0_readMany : Int32) (va0_readSaid : Int32) (va0_bestFar : Int32) (va0_bestIce : Int32) (va0_tape : Nat → Int32) (x1 : Int32) (out : Int32 × Int32 × (Nat → Int32)) (hf : fX8_type N va0_length va0_tape x1 = some out) : Ct l E yX8_type cX8_type 2 (some .int) rmX8_type [.ref a0, .int x1] [(a0, oB 8 [.ref a0_row, .int va0_isKept, .ref a0_lanes, .ref a0_sizes, .ref a0_items, .ref a0_tape, .int va0_length, .int va0_at, .int va0_number, .ref a0_readIce, .int va0_readCells, .ref a0_readPeople, .int va0_readMany, .ref a0_readSayings, .int va0_readSaid, .ref a0_line, .ref a0_bestLine, .int va0_bestFar, .int va0_bestIce, .ref a0_seen, .ref a0_held]), (a0_tape, aI E 110 va0_tape)] (Pe (some (.int out.1)) [(a0, oB 8 [.ref a0_row, .int va0_isKept, .ref a0_lanes, .ref a0_sizes, .ref a0_items, .ref a0_tape, .int out.2.1, .int va0_at, .int va0_number, .ref a0_readIce, .int va0_readCells, .ref a0_readPeople, .int va0_readMany, .ref a0_readSayings, .int va0_readSaid, .ref a0_line, .ref a0_bestLine, .int va0_bestFar, .int va0_bestIce, .ref a0_seen, .ref a0_held]), (a0_tape, aI E 110 out.2.2)]) := by
  refine Ct.of rfl (Nat.le_of_ble_eq_true rfl) (fun K hL k r hin => ?_)
  subst hL
  unfold fX8_type at hf
  show G E K 2 0 0 [(0, .ref a0), (1, .int x1)] [] [(a0, oB 8 [.ref a0_row, .int va0_isKept, .ref a0_lanes, .ref a0_sizes, .ref a0_items, .ref a0_tape, .int va0_length, .int va0_at, .int va0_number, .ref a0_readIce, .int va0_readCells, .ref a0_readPeople, .int va0_readMany, .ref a0_readSayings, .int va0_readSaid, .ref a0_line, .ref a0_bestLine, .int va0_bestFar, .int va0_bestIce, .ref a0_seen, .ref a0_held]), (a0_tape, aI E 110 va0_tape)] 0
  refine g_iload_n k 1 dX8_type_0 rfl rfl ?_
  refine g_i2l k dX8_type_1 ?_
  refine g_ldc2 k dX8_type_2 lkX8_107 ?_
  refine g_ldc2 k dX8_type_5 lkX8_109 ?_
  obtain ⟨o1, ho2, hf⟩ := bnd_some hf
  refine g_cs k miX8_in msX8_in (ctX8_in (kL K) E N   x1.toInt64 32 126 o1 ho2) [] (ws' := [(a0, oB 8 [.ref a0_row, .int va0_isKept, .ref a0_lanes, .ref a0_sizes, .ref a0_items, .ref a0_tape, .int va0_length, .int va0_at, .int va0_number, .ref a0_readIce, .int va0_readCells, .ref a0_readPeople, .int va0_readMany, .ref a0_readSayings, .int va0_readSaid, .ref a0_line, .ref a0_bestLine, .int va0_bestFar, .int va0_bestIce, .ref a0_seen, .ref a0_held]), (a0_tape, aI E 110 va0_tape)]) dX8_type_8 lkX8_47 rfl ⟨rfl, rfl⟩ ⟨by decide, by decide⟩ rfl rfl rfl (Nat.le_of_ble_eq_true rfl) rfl rfl rfl ?_
  refine g_st (st' := [.int o1]) rfl ?_
  refine g_if_ne k (tgt := 16) dX8_type_11 (by decide) (fun c3 => ?_) (fun c3 => ?_)
  · replace hf := ite_f c3 hf
    refine g_aload_n k 0 dX8_type_16 rfl rfl ?_
    refine g_get k cfX8 6 0 dX8_type_17 lkX8_111 (by decide) rfl rfl ?_
    refine g_bipush k dX8_type_20 bi_110 ?_
    refine g_icmp_ne k (tgt := 28) dX8_type_22 (by decide) (fun c4 => ?_) (fun c4 => ?_)
    · replace hf := ite_f c4 hf
      refine g_aload_n k 0 dX8_type_28 rfl rfl ?_
      refine g_get k cfX8 5 0 dX8_type_29 lkX8_23 (by decide) rfl rfl ?_
      refine g_aload_n k 0 dX8_type_32 rfl rfl ?_
      refine g_get k cfX8 6 0 dX8_type_33 lkX8_111 (by decide) rfl rfl ?_
      refine g_iload_n k 1 dX8_type_36 rfl rfl ?_
      obtain ⟨κ5, hκ5, hiκ5, heκ5, hf⟩ := ixb_some hf
      refine g_iastore k 1 (ws' := [(a0, oB 8 [.ref a0_row, .int va0_isKept, .ref a0_lanes, .ref a0_sizes, .ref a0_items, .ref a0_tape, .int va0_length, .int va0_at, .int va0_number, .ref a0_readIce, .int va0_readCells, .ref a0_readPeople, .int va0_readMany, .ref a0_readSayings, .int va0_readSaid, .ref a0_line, .ref a0_bestLine, .int va0_bestFar, .int va0_bestIce, .ref a0_seen, .ref a0_held]), (a0_tape, aI E 110 (upd va0_tape κ5 x1))]) dX8_type_37 rfl hiκ5 heκ5 rfl ?_
      refine g_aload_n k 0 dX8_type_38 rfl rfl ?_
      refine g_dup k dX8_type_39 rfl ?_
      refine g_get k cfX8 6 0 dX8_type_40 lkX8_111 (by decide) rfl rfl ?_
      refine g_iconst k dX8_type_43 ic_1 ?_
      refine g_iadd k dX8_type_44 ?_
      refine g_put k cfX8 6 0 (ws' := [(a0, oB 8 [.ref a0_row, .int va0_isKept, .ref a0_lanes, .ref a0_sizes, .ref a0_items, .ref a0_tape, .int (va0_length + 1), .int va0_at, .int va0_number, .ref a0_readIce, .int va0_readCells, .ref a0_readPeople, .int va0_readMany, .ref a0_readSayings, .int va0_readSaid, .ref a0_line, .ref a0_bestLine, .int va0_bestFar, .int va0_bestIce, .ref a0_seen, .ref a0_held]), (a0_tape, aI E 110 (upd va0_tape κ5 x1))]) dX8_type_45 lkX8_111 (by decide) rfl rfl rfl rfl (Nat.le_of_ble_eq_true rfl) rfl ?_
      refine g_aload_n k 0 dX8_type_48 rfl rfl ?_
      refine g_get k cfX8 6 0 dX8_type_49 lkX8_111 (by decide) rfl rfl ?_
      obtain rfl := Option.some.inj hf
      exact g_iret k r dX8_type_52 ⟨rfl, rfl⟩
    · replace hf := ite_t c4 hf
      refine g_bipush k dX8_type_25 bi_m3 ?_
      obtain rfl := Option.some.inj hf
      exact g_iret k r dX8_type_27 ⟨rfl, rfl⟩
  · replace hf := ite_t c3 hf
    refine g_iconst k dX8_type_14 ic_m1 ?_
    obtain rfl := Option.some.inj hf
    exact g_iret k r dX8_type_15 ⟨rfl, rfl⟩
abbrev rmX8_skip : Room := { frames := 0, cells := 0, slots := 0, locals := 0 }
def fX8_skip_L0 (N : Nat) (va0_length : Int32) (va0_tape : Nat → Int32) : Nat → Int32 → Option (Int32)
  | 0, _ => none
  | n + 1, va0_at =>
    if va0_length ≤ va0_at then
    some (va0_at)
    else
    ixb va0_at 110 fun κ2 =>
    if (va0_tape κ2) = 32 then
    fX8_skip_L0 N va0_length va0_tape n (va0_at + 1)
    else
    some (va0_at)
set_option maxHeartbeats 4000000 in
set_option maxRecDepth 100000 in
theorem wX8_skip_L0 {E : Ev} {K : KX} (k : OKX E K cX8_skip RX8 1 rmX8_skip) (N : Nat) (a0 : Nat) (a0_row : Nat) (a0_lanes : Nat) (a0_sizes : Nat) (a0_items : Nat) (a0_tape : Nat) (a0_readIce : Nat) (a0_readPeople : Nat) (a0_readSayings : Nat) (a0_line : Nat) (a0_bestLine : Nat) (a0_seen : Nat) (a0_held : Nat) (va0_length : Int32) (va0_tape : Nat → Int32) (va0_isKept : Int32) (va0_number : Int32) (va0_readCells : Int32) (va0_readMany : Int32) (va0_readSaid : Int32) (va0_bestFar : Int32) (va0_bestIce : Int32) : ∀ (n : Nat) (va0_at : Int32) (o : Int32), fX8_skip_L0 N va0_length va0_tape n va0_at = some o → G E K 1 0 0 [(0, .ref a0)] [] [(a0, oB 8 [.ref a0_row, .int va0_isKept, .ref a0_lanes, .ref a0_sizes, .ref a0_items, .ref a0_tape, .int va0_length, .int o, .int va0_number, .ref a0_readIce, .int va0_readCells, .ref a0_readPeople, .int va0_readMany, .ref a0_readSayings, .int va0_readSaid, .ref a0_line, .ref a0_bestLine, .int va0_bestFar, .int va0_bestIce, .ref a0_seen, .ref a0_held]), (a0_tape, aI E 110 va0_tape)] 38 → G E K 1 0 0 [(0, .ref a0)] [] [(a0, oB 8 [.ref a0_row, .int va0_isKept, .ref a0_lanes, .ref a0_sizes, .ref a0_items, .ref a0_tape, .int va0_length, .int va0_at, .int va0_number, .ref a0_readIce, .int va0_readCells, .ref a0_readPeople, .int va0_readMany, .ref a0_readSayings, .int va0_readSaid, .ref a0_line, .ref a0_bestLine, .int va0_bestFar, .int va0_bestIce, .ref a0_seen, .ref a0_held]), (a0_tape, aI E 110 va0_tape)] 0 := by
  intro n
  induction n with
  | zero => intro va0_at o hf; cases hf
  | succ n ih =>
    intro va0_at o hf hG
    rw [fX8_skip_L0] at hf
    refine g_aload_n k 0 dX8_skip_0 rfl rfl ?_
    refine g_get k cfX8 7 0 dX8_skip_1 lkX8_115 (by decide) rfl rfl ?_
    refine g_aload_n k 0 dX8_skip_4 rfl rfl ?_
    refine g_get k cfX8 6 0 dX8_skip_5 lkX8_111 (by decide) rfl rfl ?_
    refine g_icmp_ge k (tgt := 38) dX8_skip_8 (by decide) (fun c1 => ?_) (fun c1 => ?_)
    · replace hf := ite_t c1 hf
      refine g_lv [0] rfl ?_
      obtain rfl := Option.some.inj hf
      exact hG
    · replace hf := ite_f c1 hf
      refine g_aload_n k 0 dX8_skip_11 rfl rfl ?_
      refine g_get k cfX8 5 0 dX8_skip_12 lkX8_23 (by decide) rfl rfl ?_
      refine g_aload_n k 0 dX8_skip_15 rfl rfl ?_
      refine g_get k cfX8 7 0 dX8_skip_16 lkX8_115 (by decide) rfl rfl ?_
      obtain ⟨κ2, hκ2, hiκ2, heκ2, hf⟩ := ixb_some hf
      refine g_iaload k 1 dX8_skip_19 rfl hiκ2 heκ2 ?_
      refine g_bipush k dX8_skip_20 bi_32 ?_
      refine g_icmp_ne k (tgt := 38) dX8_skip_22 (by decide) (fun c3 => ?_) (fun c3 => ?_)
      · replace hf := ite_f c3 hf
        refine g_lv [0] rfl ?_
        obtain rfl := Option.some.inj hf
        exact hG
      · replace hf := ite_t c3 hf
        refine g_aload_n k 0 dX8_skip_25 rfl rfl ?_
        refine g_dup k dX8_skip_26 rfl ?_
        refine g_get k cfX8 7 0 dX8_skip_27 lkX8_115 (by decide) rfl rfl ?_
        refine g_iconst k dX8_skip_30 ic_1 ?_
        refine g_iadd k dX8_skip_31 ?_
        refine g_put k cfX8 7 0 (ws' := [(a0, oB 8 [.ref a0_row, .int va0_isKept, .ref a0_lanes, .ref a0_sizes, .ref a0_items, .ref a0_tape, .int va0_length, .int (va0_at + 1), .int va0_number, .ref a0_readIce, .int va0_readCells, .ref a0_readPeople, .int va0_readMany, .ref a0_readSayings, .int va0_readSaid, .ref a0_line, .ref a0_bestLine, .int va0_bestFar, .int va0_bestIce, .ref a0_seen, .ref a0_held]), (a0_tape, aI E 110 va0_tape)]) dX8_skip_32 lkX8_115 (by decide) rfl rfl rfl rfl (Nat.le_of_ble_eq_true rfl) rfl ?_
        refine g_goto k (tgt := 0) dX8_skip_35 (by decide) ?_
        refine g_lv [0] rfl ?_
        exact ih (va0_at + 1) o hf hG
def fX8_skip (N : Nat) (va0_length : Int32) (va0_at : Int32) (va0_tape : Nat → Int32)  : Option (Int32) :=
  bnd (fX8_skip_L0 N va0_length va0_tape N va0_at) fun o4 =>
  some (o4)
set_option maxHeartbeats 4000000 in
set_option maxRecDepth 100000 in
theorem ctX8_skip (l : Launch) (E : Ev) (N : Nat) (a0 : Nat) (a0_row : Nat) (a0_lanes : Nat) (a0_sizes : Nat) (a0_items : Nat) (a0_tape : Nat) (a0_readIce : Nat) (a0_readPeople : Nat) (a0_readSayings : Nat) (a0_line : Nat) (a0_bestLine : Nat) (a0_seen : Nat) (a0_held : Nat) (va0_isKept : Int32) (va0_length : Int32) (va0_at : Int32) (va0_number : Int32) (va0_readCells : Int32) (va0_readMany : Int32) (va0_readSaid : Int32) (va0_bestFar : Int32) (va0_bestIce : Int32) (va0_tape : Nat → Int32)  (out : Int32) (hf : fX8_skip N va0_length va0_at va0_tape  = some out) : Ct l E yX8_skip cX8_skip 1 none rmX8_skip [.ref a0] [(a0, oB 8 [.ref a0_row, .int va0_isKept, .ref a0_lanes, .ref a0_sizes, .ref a0_items, .ref a0_tape, .int va0_length, .int va0_at, .int va0_number, .ref a0_readIce, .int va0_readCells, .ref a0_readPeople, .int va0_readMany, .ref a0_readSayings, .int va0_readSaid, .ref a0_line, .ref a0_bestLine, .int va0_bestFar, .int va0_bestIce, .ref a0_seen, .ref a0_held]), (a0_tape, aI E 110 va0_tape)] (Pe none [(a0, oB 8 [.ref a0_row, .int va0_isKept, .ref a0_lanes, .ref a0_sizes, .ref a0_items, .ref a0_tape, .int va0_length, .int out, .int va0_number, .ref a0_readIce, .int va0_readCells, .ref a0_readPeople, .int va0_readMany, .ref a0_readSayings, .int va0_readSaid, .ref a0_line, .ref a0_bestLine, .int va0_bestFar, .int va0_bestIce, .ref a0_seen, .ref a0_held]), (a0_tape, aI E 110 va0_tape)]) := by
  refine Ct.of rfl (Nat.le_of_ble_eq_true rfl) (fun K hL k r hin => ?_)
  subst hL
  unfold fX8_skip at hf
  show G E K 1 0 0 [(0, .ref a0)] [] [(a0, oB 8 [.ref a0_row, .int va0_isKept, .ref a0_lanes, .ref a0_sizes, .ref a0_items, .ref a0_tape, .int va0_length, .int va0_at, .int va0_number, .ref a0_readIce, .int va0_readCells, .ref a0_readPeople, .int va0_readMany, .ref a0_readSayings, .int va0_readSaid, .ref a0_line, .ref a0_bestLine, .int va0_bestFar, .int va0_bestIce, .ref a0_seen, .ref a0_held]), (a0_tape, aI E 110 va0_tape)] 0
  obtain ⟨o4, ho5, hf⟩ := bnd_some hf
  refine g_lv [0] (lv' := [(0, .ref a0)]) rfl ?_
  refine wX8_skip_L0 k N a0 a0_row a0_lanes a0_sizes a0_items a0_tape a0_readIce a0_readPeople a0_readSayings a0_line a0_bestLine a0_seen a0_held  va0_length va0_tape va0_isKept va0_number va0_readCells va0_readMany va0_readSaid va0_bestFar va0_bestIce N va0_at o4 ho5 ?_
  obtain rfl := Option.some.inj hf
  exact g_vret k r dX8_skip_38 ⟨rfl, rfl⟩
abbrev rmX8_isHere : Room := { frames := 0, cells := 0, slots := 0, locals := 0 }
def fX8_isHere (N : Nat) (va0_length : Int32) (va0_at : Int32) (va0_tape : Nat → Int32) (x1 : Int32) : Option (Int32) :=
  if va0_length ≤ va0_at then
  some (0)
  else
  ixb va0_at 110 fun κ2 =>
  if (va0_tape κ2) = x1 then
  some (1)
  else
  some (0)
set_option maxHeartbeats 4000000 in
set_option maxRecDepth 100000 in
theorem ctX8_isHere (l : Launch) (E : Ev) (N : Nat) (a0 : Nat) (a0_row : Nat) (a0_lanes : Nat) (a0_sizes : Nat) (a0_items : Nat) (a0_tape : Nat) (a0_readIce : Nat) (a0_readPeople : Nat) (a0_readSayings : Nat) (a0_line : Nat) (a0_bestLine : Nat) (a0_seen : Nat) (a0_held : Nat) (va0_isKept : Int32) (va0_length : Int32) (va0_at : Int32) (va0_number : Int32) (va0_readCells : Int32) (va0_readMany : Int32) (va0_readSaid : Int32) (va0_bestFar : Int32) (va0_bestIce : Int32) (va0_tape : Nat → Int32) (x1 : Int32) (out : Int32) (hf : fX8_isHere N va0_length va0_at va0_tape x1 = some out) : Ct l E yX8_isHere cX8_isHere 2 (some .boolean) rmX8_isHere [.ref a0, .int x1] [(a0, oB 8 [.ref a0_row, .int va0_isKept, .ref a0_lanes, .ref a0_sizes, .ref a0_items, .ref a0_tape, .int va0_length, .int va0_at, .int va0_number, .ref a0_readIce, .int va0_readCells, .ref a0_readPeople, .int va0_readMany, .ref a0_readSayings, .int va0_readSaid, .ref a0_line, .ref a0_bestLine, .int va0_bestFar, .int va0_bestIce, .ref a0_seen, .ref a0_held]), (a0_tape, aI E 110 va0_tape)] (Pe (some (.int out)) [(a0, oB 8 [.ref a0_row, .int va0_isKept, .ref a0_lanes, .ref a0_sizes, .ref a0_items, .ref a0_tape, .int va0_length, .int va0_at, .int va0_number, .ref a0_readIce, .int va0_readCells, .ref a0_readPeople, .int va0_readMany, .ref a0_readSayings, .int va0_readSaid, .ref a0_line, .ref a0_bestLine, .int va0_bestFar, .int va0_bestIce, .ref a0_seen, .ref a0_held]), (a0_tape, aI E 110 va0_tape)]) := by
  refine Ct.of rfl (Nat.le_of_ble_eq_true rfl) (fun K hL k r hin => ?_)
  subst hL
  unfold fX8_isHere at hf
  show G E K 2 0 0 [(0, .ref a0), (1, .int x1)] [] [(a0, oB 8 [.ref a0_row, .int va0_isKept, .ref a0_lanes, .ref a0_sizes, .ref a0_items, .ref a0_tape, .int va0_length, .int va0_at, .int va0_number, .ref a0_readIce, .int va0_readCells, .ref a0_readPeople, .int va0_readMany, .ref a0_readSayings, .int va0_readSaid, .ref a0_line, .ref a0_bestLine, .int va0_bestFar, .int va0_bestIce, .ref a0_seen, .ref a0_held]), (a0_tape, aI E 110 va0_tape)] 0
  refine g_aload_n k 0 dX8_isHere_0 rfl rfl ?_
  refine g_get k cfX8 7 0 dX8_isHere_1 lkX8_115 (by decide) rfl rfl ?_
  refine g_aload_n k 0 dX8_isHere_4 rfl rfl ?_
  refine g_get k cfX8 6 0 dX8_isHere_5 lkX8_111 (by decide) rfl rfl ?_
  refine g_icmp_ge k (tgt := 28) dX8_isHere_8 (by decide) (fun c1 => ?_) (fun c1 => ?_)
  · replace hf := ite_t c1 hf
    refine g_iconst k dX8_isHere_28 ic_0 ?_
    obtain rfl := Option.some.inj hf
    exact g_zret k (rfl) r dX8_isHere_29 ⟨rfl, rfl⟩
  · replace hf := ite_f c1 hf
    refine g_aload_n k 0 dX8_isHere_11 rfl rfl ?_
    refine g_get k cfX8 5 0 dX8_isHere_12 lkX8_23 (by decide) rfl rfl ?_
    refine g_aload_n k 0 dX8_isHere_15 rfl rfl ?_
    refine g_get k cfX8 7 0 dX8_isHere_16 lkX8_115 (by decide) rfl rfl ?_
    obtain ⟨κ2, hκ2, hiκ2, heκ2, hf⟩ := ixb_some hf
    refine g_iaload k 1 dX8_isHere_19 rfl hiκ2 heκ2 ?_
    refine g_iload_n k 1 dX8_isHere_20 rfl rfl ?_
    refine g_icmp_ne k (tgt := 28) dX8_isHere_21 (by decide) (fun c3 => ?_) (fun c3 => ?_)
    · replace hf := ite_f c3 hf
      refine g_iconst k dX8_isHere_28 ic_0 ?_
      obtain rfl := Option.some.inj hf
      exact g_zret k (rfl) r dX8_isHere_29 ⟨rfl, rfl⟩
    · replace hf := ite_t c3 hf
      refine g_iconst k dX8_isHere_24 ic_1 ?_
      refine g_goto k (tgt := 29) dX8_isHere_25 (by decide) ?_
      obtain rfl := Option.some.inj hf
      exact g_zret k (rfl) r dX8_isHere_29 ⟨rfl, rfl⟩
abbrev rmX8_isDigit : Room := { frames := 1, cells := 0, slots := 0, locals := 25 }
def fX8_isDigit (N : Nat) (va0_length : Int32) (va0_at : Int32) (va0_tape : Nat → Int32) (x1 : Int32) : Option (Int32) :=
  if va0_length ≤ va0_at then
  some (0)
  else
  ixb va0_at 110 fun κ2 =>
  bnd (fX8_in N ((va0_tape κ2).toInt64) ((48 + x1).toInt64) 57) fun o3 =>
  if o3 = 0 then
  some (0)
  else
  some (1)
set_option maxHeartbeats 4000000 in
set_option maxRecDepth 100000 in
theorem ctX8_isDigit (l : Launch) (E : Ev) (N : Nat) (a0 : Nat) (a0_row : Nat) (a0_lanes : Nat) (a0_sizes : Nat) (a0_items : Nat) (a0_tape : Nat) (a0_readIce : Nat) (a0_readPeople : Nat) (a0_readSayings : Nat) (a0_line : Nat) (a0_bestLine : Nat) (a0_seen : Nat) (a0_held : Nat) (va0_isKept : Int32) (va0_length : Int32) (va0_at : Int32) (va0_number : Int32) (va0_readCells : Int32) (va0_readMany : Int32) (va0_readSaid : Int32) (va0_bestFar : Int32) (va0_bestIce : Int32) (va0_tape : Nat → Int32) (x1 : Int32) (out : Int32) (hf : fX8_isDigit N va0_length va0_at va0_tape x1 = some out) : Ct l E yX8_isDigit cX8_isDigit 2 (some .boolean) rmX8_isDigit [.ref a0, .int x1] [(a0, oB 8 [.ref a0_row, .int va0_isKept, .ref a0_lanes, .ref a0_sizes, .ref a0_items, .ref a0_tape, .int va0_length, .int va0_at, .int va0_number, .ref a0_readIce, .int va0_readCells, .ref a0_readPeople, .int va0_readMany, .ref a0_readSayings, .int va0_readSaid, .ref a0_line, .ref a0_bestLine, .int va0_bestFar, .int va0_bestIce, .ref a0_seen, .ref a0_held]), (a0_tape, aI E 110 va0_tape)] (Pe (some (.int out)) [(a0, oB 8 [.ref a0_row, .int va0_isKept, .ref a0_lanes, .ref a0_sizes, .ref a0_items, .ref a0_tape, .int va0_length, .int va0_at, .int va0_number, .ref a0_readIce, .int va0_readCells, .ref a0_readPeople, .int va0_readMany, .ref a0_readSayings, .int va0_readSaid, .ref a0_line, .ref a0_bestLine, .int va0_bestFar, .int va0_bestIce, .ref a0_seen, .ref a0_held]), (a0_tape, aI E 110 va0_tape)]) := by
  refine Ct.of rfl (Nat.le_of_ble_eq_true rfl) (fun K hL k r hin => ?_)
  subst hL
  unfold fX8_isDigit at hf
  show G E K 2 0 0 [(0, .ref a0), (1, .int x1)] [] [(a0, oB 8 [.ref a0_row, .int va0_isKept, .ref a0_lanes, .ref a0_sizes, .ref a0_items, .ref a0_tape, .int va0_length, .int va0_at, .int va0_number, .ref a0_readIce, .int va0_readCells, .ref a0_readPeople, .int va0_readMany, .ref a0_readSayings, .int va0_readSaid, .ref a0_line, .ref a0_bestLine, .int va0_bestFar, .int va0_bestIce, .ref a0_seen, .ref a0_held]), (a0_tape, aI E 110 va0_tape)] 0
  refine g_aload_n k 0 dX8_isDigit_0 rfl rfl ?_
  refine g_get k cfX8 7 0 dX8_isDigit_1 lkX8_115 (by decide) rfl rfl ?_
  refine g_aload_n k 0 dX8_isDigit_4 rfl rfl ?_
  refine g_get k cfX8 6 0 dX8_isDigit_5 lkX8_111 (by decide) rfl rfl ?_
  refine g_icmp_ge k (tgt := 39) dX8_isDigit_8 (by decide) (fun c1 => ?_) (fun c1 => ?_)
  · replace hf := ite_t c1 hf
    refine g_iconst k dX8_isDigit_39 ic_0 ?_
    obtain rfl := Option.some.inj hf
    exact g_zret k (rfl) r dX8_isDigit_40 ⟨rfl, rfl⟩
  · replace hf := ite_f c1 hf
    refine g_aload_n k 0 dX8_isDigit_11 rfl rfl ?_
    refine g_get k cfX8 5 0 dX8_isDigit_12 lkX8_23 (by decide) rfl rfl ?_
    refine g_aload_n k 0 dX8_isDigit_15 rfl rfl ?_
    refine g_get k cfX8 7 0 dX8_isDigit_16 lkX8_115 (by decide) rfl rfl ?_
    obtain ⟨κ2, hκ2, hiκ2, heκ2, hf⟩ := ixb_some hf
    refine g_iaload k 1 dX8_isDigit_19 rfl hiκ2 heκ2 ?_
    refine g_i2l k dX8_isDigit_20 ?_
    refine g_bipush k dX8_isDigit_21 bi_48 ?_
    refine g_iload_n k 1 dX8_isDigit_23 rfl rfl ?_
    refine g_iadd k dX8_isDigit_24 ?_
    refine g_i2l k dX8_isDigit_25 ?_
    refine g_ldc2 k dX8_isDigit_26 lkX8_118 ?_
    obtain ⟨o3, ho4, hf⟩ := bnd_some hf
    refine g_cs k miX8_in msX8_in (ctX8_in (kL K) E N   ((va0_tape κ2).toInt64) ((48 + x1).toInt64) 57 o3 ho4) [] (ws' := [(a0, oB 8 [.ref a0_row, .int va0_isKept, .ref a0_lanes, .ref a0_sizes, .ref a0_items, .ref a0_tape, .int va0_length, .int va0_at, .int va0_number, .ref a0_readIce, .int va0_readCells, .ref a0_readPeople, .int va0_readMany, .ref a0_readSayings, .int va0_readSaid, .ref a0_line, .ref a0_bestLine, .int va0_bestFar, .int va0_bestIce, .ref a0_seen, .ref a0_held]), (a0_tape, aI E 110 va0_tape)]) dX8_isDigit_29 lkX8_47 rfl ⟨rfl, rfl⟩ ⟨by decide, by decide⟩ rfl rfl rfl (Nat.le_of_ble_eq_true rfl) rfl rfl rfl ?_
    refine g_st (st' := [.int o3]) rfl ?_
    refine g_if_eq k (tgt := 39) dX8_isDigit_32 (by decide) (fun c5 => ?_) (fun c5 => ?_)
    · replace hf := ite_t c5 hf
      refine g_iconst k dX8_isDigit_39 ic_0 ?_
      obtain rfl := Option.some.inj hf
      exact g_zret k (rfl) r dX8_isDigit_40 ⟨rfl, rfl⟩
    · replace hf := ite_f c5 hf
      refine g_iconst k dX8_isDigit_35 ic_1 ?_
      refine g_goto k (tgt := 40) dX8_isDigit_36 (by decide) ?_
      obtain rfl := Option.some.inj hf
      exact g_zret k (rfl) r dX8_isDigit_40 ⟨rfl, rfl⟩
abbrev rmX8_sign : Room := { frames := 1, cells := 0, slots := 0, locals := 21 }
def fX8_sign (N : Nat) (va0_length : Int32) (va0_at : Int32) (va0_tape : Nat → Int32) (x1 : Int32) : Option (Int32 × Int32) :=
  bnd (fX8_isHere N va0_length va0_at va0_tape x1) fun o1 =>
  if o1 = 0 then
  zb o1 (some (o1, va0_at))
  else
  bnd (fX8_skip N va0_length (va0_at + 1) va0_tape) fun o5 =>
  zb o1 (some (o1, o5))
set_option maxHeartbeats 4000000 in
set_option maxRecDepth 100000 in
theorem ctX8_sign (l : Launch) (E : Ev) (N : Nat) (a0 : Nat) (a0_row : Nat) (a0_lanes : Nat) (a0_sizes : Nat) (a0_items : Nat) (a0_tape : Nat) (a0_readIce : Nat) (a0_readPeople : Nat) (a0_readSayings : Nat) (a0_line : Nat) (a0_bestLine : Nat) (a0_seen : Nat) (a0_held : Nat) (va0_isKept : Int32) (va0_length : Int32) (va0_at : Int32) (va0_number : Int32) (va0_readCells : Int32) (va0_readMany : Int32) (va0_readSaid : Int32) (va0_bestFar : Int32) (va0_bestIce : Int32) (va0_tape : Nat → Int32) (x1 : Int32) (out : Int32 × Int32) (hf : fX8_sign N va0_length va0_at va0_tape x1 = some out) : Ct l E yX8_sign cX8_sign 3 (some .boolean) rmX8_sign [.ref a0, .int x1] [(a0, oB 8 [.ref a0_row, .int va0_isKept, .ref a0_lanes, .ref a0_sizes, .ref a0_items, .ref a0_tape, .int va0_length, .int va0_at, .int va0_number, .ref a0_readIce, .int va0_readCells, .ref a0_readPeople, .int va0_readMany, .ref a0_readSayings, .int va0_readSaid, .ref a0_line, .ref a0_bestLine, .int va0_bestFar, .int va0_bestIce, .ref a0_seen, .ref a0_held]), (a0_tape, aI E 110 va0_tape)] (Pe (some (.int out.1)) [(a0, oB 8 [.ref a0_row, .int va0_isKept, .ref a0_lanes, .ref a0_sizes, .ref a0_items, .ref a0_tape, .int va0_length, .int out.2, .int va0_number, .ref a0_readIce, .int va0_readCells, .ref a0_readPeople, .int va0_readMany, .ref a0_readSayings, .int va0_readSaid, .ref a0_line, .ref a0_bestLine, .int va0_bestFar, .int va0_bestIce, .ref a0_seen, .ref a0_held]), (a0_tape, aI E 110 va0_tape)]) := by
  refine Ct.of rfl (Nat.le_of_ble_eq_true rfl) (fun K hL k r hin => ?_)
  subst hL
  unfold fX8_sign at hf
  show G E K 3 0 0 [(0, .ref a0), (1, .int x1)] [] [(a0, oB 8 [.ref a0_row, .int va0_isKept, .ref a0_lanes, .ref a0_sizes, .ref a0_items, .ref a0_tape, .int va0_length, .int va0_at, .int va0_number, .ref a0_readIce, .int va0_readCells, .ref a0_readPeople, .int va0_readMany, .ref a0_readSayings, .int va0_readSaid, .ref a0_line, .ref a0_bestLine, .int va0_bestFar, .int va0_bestIce, .ref a0_seen, .ref a0_held]), (a0_tape, aI E 110 va0_tape)] 0
  refine g_aload_n k 0 dX8_sign_0 rfl rfl ?_
  refine g_iload_n k 1 dX8_sign_1 rfl rfl ?_
  obtain ⟨o1, ho2, hf⟩ := bnd_some hf
  refine g_cv k miX8_isHere mvX8_isHere (ctX8_isHere (kL K) E N a0 a0_row a0_lanes a0_sizes a0_items a0_tape a0_readIce a0_readPeople a0_readSayings a0_line a0_bestLine a0_seen a0_held va0_isKept va0_length va0_at va0_number va0_readCells va0_readMany va0_readSaid va0_bestFar va0_bestIce va0_tape x1 o1 ho2) [0, 1] 0 (ws' := [(a0, oB 8 [.ref a0_row, .int va0_isKept, .ref a0_lanes, .ref a0_sizes, .ref a0_items, .ref a0_tape, .int va0_length, .int va0_at, .int va0_number, .ref a0_readIce, .int va0_readCells, .ref a0_readPeople, .int va0_readMany, .ref a0_readSayings, .int va0_readSaid, .ref a0_line, .ref a0_bestLine, .int va0_bestFar, .int va0_bestIce, .ref a0_seen, .ref a0_held]), (a0_tape, aI E 110 va0_tape)]) dX8_sign_2 lkX8_120 rfl ⟨rfl, rfl⟩ ⟨by decide, by decide⟩ rfl rfl rfl rfl (Nat.le_of_ble_eq_true rfl) rfl rfl rfl ?_
  refine g_st (st' := [.int o1]) rfl ?_
  refine g_istore_n k (lv' := [(2, .int o1), (0, .ref a0), (1, .int x1)]) dX8_sign_5 rfl (by decide) rfl ?_
  refine g_iload_n k 0 dX8_sign_6 rfl rfl ?_
  refine g_if_eq k (tgt := 24) dX8_sign_7 (by decide) (fun c3 => ?_) (fun c3 => ?_)
  · replace hf := ite_t c3 hf
    refine g_iload_n k 0 dX8_sign_24 rfl rfl ?_
    obtain ⟨hz4, hf⟩ := zb_some hf
    obtain rfl := Option.some.inj hf
    exact g_zret k (zb_nar hz4) r dX8_sign_25 ⟨rfl, rfl⟩
  · replace hf := ite_f c3 hf
    refine g_aload_n k 1 dX8_sign_10 rfl rfl ?_
    refine g_dup k dX8_sign_11 rfl ?_
    refine g_get k cfX8 7 0 dX8_sign_12 lkX8_115 (by decide) rfl rfl ?_
    refine g_iconst k dX8_sign_15 ic_1 ?_
    refine g_iadd k dX8_sign_16 ?_
    refine g_put k cfX8 7 0 (ws' := [(a0, oB 8 [.ref a0_row, .int va0_isKept, .ref a0_lanes, .ref a0_sizes, .ref a0_items, .ref a0_tape, .int va0_length, .int (va0_at + 1), .int va0_number, .ref a0_readIce, .int va0_readCells, .ref a0_readPeople, .int va0_readMany, .ref a0_readSayings, .int va0_readSaid, .ref a0_line, .ref a0_bestLine, .int va0_bestFar, .int va0_bestIce, .ref a0_seen, .ref a0_held]), (a0_tape, aI E 110 va0_tape)]) dX8_sign_17 lkX8_115 (by decide) rfl rfl rfl rfl (Nat.le_of_ble_eq_true rfl) rfl ?_
    refine g_aload_n k 1 dX8_sign_20 rfl rfl ?_
    obtain ⟨o5, ho6, hf⟩ := bnd_some hf
    refine g_cv k miX8_skip mvX8_skip (ctX8_skip (kL K) E N a0 a0_row a0_lanes a0_sizes a0_items a0_tape a0_readIce a0_readPeople a0_readSayings a0_line a0_bestLine a0_seen a0_held va0_isKept va0_length (va0_at + 1) va0_number va0_readCells va0_readMany va0_readSaid va0_bestFar va0_bestIce va0_tape  o5 ho6) [0, 1] 0 (ws' := [(a0, oB 8 [.ref a0_row, .int va0_isKept, .ref a0_lanes, .ref a0_sizes, .ref a0_items, .ref a0_tape, .int va0_length, .int o5, .int va0_number, .ref a0_readIce, .int va0_readCells, .ref a0_readPeople, .int va0_readMany, .ref a0_readSayings, .int va0_readSaid, .ref a0_line, .ref a0_bestLine, .int va0_bestFar, .int va0_bestIce, .ref a0_seen, .ref a0_held]), (a0_tape, aI E 110 va0_tape)]) dX8_sign_21 lkX8_123 rfl ⟨rfl, rfl⟩ ⟨by decide, by decide⟩ rfl rfl rfl rfl (Nat.le_of_ble_eq_true rfl) rfl rfl rfl ?_
    refine g_st (st' := []) rfl ?_
    refine g_iload_n k 0 dX8_sign_24 rfl rfl ?_
    obtain ⟨hz7, hf⟩ := zb_some hf
    obtain rfl := Option.some.inj hf
    exact g_zret k (zb_nar hz7) r dX8_sign_25 ⟨rfl, rfl⟩
