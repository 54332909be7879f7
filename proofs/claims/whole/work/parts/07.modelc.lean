abbrev rmX8_nextOrder : Room := { frames := 1, cells := 0, slots := 0, locals := 23 }
def fX8_nextOrder_L4 (N : Nat) (x1 : Int32) (va0_line : Nat → Int32) : Nat → Int32 → Option (Int32)
  | 0, _ => none
  | n + 1, x2 =>
    if x2 < 0 then
    some (x2)
    else
    ixb x2 5 fun κ2 =>
    ixb (x2 + 1) 5 fun κ3 =>
    if (va0_line κ2) ≤ (va0_line κ3) then
    some (x2)
    else
    fX8_nextOrder_L4 N x1 va0_line n (x2 + (-1))
set_option maxHeartbeats 4000000 in
set_option maxRecDepth 100000 in
theorem wX8_nextOrder_L4 {E : Ev} {K : KX} (k : OKX E K cX8_nextOrder RX8 6 rmX8_nextOrder) (N : Nat) (a0 : Nat) (a0_row : Nat) (a0_lanes : Nat) (a0_sizes : Nat) (a0_items : Nat) (a0_tape : Nat) (a0_readIce : Nat) (a0_readPeople : Nat) (a0_readSayings : Nat) (a0_line : Nat) (a0_bestLine : Nat) (a0_seen : Nat) (a0_held : Nat) (x1 : Int32) (va0_line : Nat → Int32) (va0_isKept : Int32) (va0_length : Int32) (va0_at : Int32) (va0_number : Int32) (va0_readCells : Int32) (va0_readMany : Int32) (va0_readSaid : Int32) (va0_bestFar : Int32) (va0_bestIce : Int32) : ∀ (n : Nat) (x2 : Int32) (o : Int32), fX8_nextOrder_L4 N x1 va0_line n x2 = some o → G E K 6 0 0 [(0, .ref a0), (1, .int x1), (2, .int o)] [] [(a0, oB 8 [.ref a0_row, .int va0_isKept, .ref a0_lanes, .ref a0_sizes, .ref a0_items, .ref a0_tape, .int va0_length, .int va0_at, .int va0_number, .ref a0_readIce, .int va0_readCells, .ref a0_readPeople, .int va0_readMany, .ref a0_readSayings, .int va0_readSaid, .ref a0_line, .ref a0_bestLine, .int va0_bestFar, .int va0_bestIce, .ref a0_seen, .ref a0_held]), (a0_line, aI E 5 va0_line)] 31 → G E K 6 0 0 [(0, .ref a0), (1, .int x1), (2, .int x2)] [] [(a0, oB 8 [.ref a0_row, .int va0_isKept, .ref a0_lanes, .ref a0_sizes, .ref a0_items, .ref a0_tape, .int va0_length, .int va0_at, .int va0_number, .ref a0_readIce, .int va0_readCells, .ref a0_readPeople, .int va0_readMany, .ref a0_readSayings, .int va0_readSaid, .ref a0_line, .ref a0_bestLine, .int va0_bestFar, .int va0_bestIce, .ref a0_seen, .ref a0_held]), (a0_line, aI E 5 va0_line)] 4 := by
  intro n
  induction n with
  | zero => intro x2 o hf; cases hf
  | succ n ih =>
    intro x2 o hf hG
    rw [fX8_nextOrder_L4] at hf
    refine g_iload_n k 2 dX8_nextOrder_4 rfl rfl ?_
    refine g_if_lt k (tgt := 31) dX8_nextOrder_5 (by decide) (fun c1 => ?_) (fun c1 => ?_)
    · replace hf := ite_t c1 hf
      refine g_lv [0, 1, 2] rfl ?_
      obtain rfl := Option.some.inj hf
      exact hG
    · replace hf := ite_f c1 hf
      refine g_aload_n k 0 dX8_nextOrder_8 rfl rfl ?_
      refine g_get k cfX8 15 0 dX8_nextOrder_9 lkX8_35 (by decide) rfl rfl ?_
      refine g_iload_n k 2 dX8_nextOrder_12 rfl rfl ?_
      obtain ⟨κ2, hκ2, hiκ2, heκ2, hf⟩ := ixb_some hf
      refine g_iaload k 1 dX8_nextOrder_13 rfl hiκ2 heκ2 ?_
      refine g_aload_n k 0 dX8_nextOrder_14 rfl rfl ?_
      refine g_get k cfX8 15 0 dX8_nextOrder_15 lkX8_35 (by decide) rfl rfl ?_
      refine g_iload_n k 2 dX8_nextOrder_18 rfl rfl ?_
      refine g_iconst k dX8_nextOrder_19 ic_1 ?_
      refine g_iadd k dX8_nextOrder_20 ?_
      obtain ⟨κ3, hκ3, hiκ3, heκ3, hf⟩ := ixb_some hf
      refine g_iaload k 1 dX8_nextOrder_21 rfl hiκ3 heκ3 ?_
      refine g_icmp_le k (tgt := 31) dX8_nextOrder_22 (by decide) (fun c4 => ?_) (fun c4 => ?_)
      · replace hf := ite_t c4 hf
        refine g_lv [0, 1, 2] rfl ?_
        obtain rfl := Option.some.inj hf
        exact hG
      · replace hf := ite_f c4 hf
        refine g_iinc k (lv' := [(2, .int (x2 + (-1))), (0, .ref a0), (1, .int x1)]) 2 dX8_nextOrder_25 rfl (ii_m1 _) (by decide) rfl ?_
        refine g_goto k (tgt := 4) dX8_nextOrder_28 (by decide) ?_
        refine g_lv [1, 2, 0] rfl ?_
        exact ih (x2 + (-1)) o hf hG
def fX8_nextOrder_L41 (N : Nat) (x1 : Int32) (x2 : Int32) (va0_line : Nat → Int32) : Nat → Int32 → Option (Int32)
  | 0, _ => none
  | n + 1, x3 =>
    ixb x3 5 fun κ8 =>
    ixb x2 5 fun κ9 =>
    if (va0_line κ9) ≤ (va0_line κ8) then
    some (x3)
    else
    fX8_nextOrder_L41 N x1 x2 va0_line n (x3 + (-1))
set_option maxHeartbeats 4000000 in
set_option maxRecDepth 100000 in
theorem wX8_nextOrder_L41 {E : Ev} {K : KX} (k : OKX E K cX8_nextOrder RX8 6 rmX8_nextOrder) (N : Nat) (a0 : Nat) (a0_row : Nat) (a0_lanes : Nat) (a0_sizes : Nat) (a0_items : Nat) (a0_tape : Nat) (a0_readIce : Nat) (a0_readPeople : Nat) (a0_readSayings : Nat) (a0_line : Nat) (a0_bestLine : Nat) (a0_seen : Nat) (a0_held : Nat) (x1 : Int32) (x2 : Int32) (va0_line : Nat → Int32) (va0_isKept : Int32) (va0_length : Int32) (va0_at : Int32) (va0_number : Int32) (va0_readCells : Int32) (va0_readMany : Int32) (va0_readSaid : Int32) (va0_bestFar : Int32) (va0_bestIce : Int32) : ∀ (n : Nat) (x3 : Int32) (o : Int32), fX8_nextOrder_L41 N x1 x2 va0_line n x3 = some o → G E K 6 0 0 [(0, .ref a0), (1, .int x1), (2, .int x2), (3, .int o)] [] [(a0, oB 8 [.ref a0_row, .int va0_isKept, .ref a0_lanes, .ref a0_sizes, .ref a0_items, .ref a0_tape, .int va0_length, .int va0_at, .int va0_number, .ref a0_readIce, .int va0_readCells, .ref a0_readPeople, .int va0_readMany, .ref a0_readSayings, .int va0_readSaid, .ref a0_line, .ref a0_bestLine, .int va0_bestFar, .int va0_bestIce, .ref a0_seen, .ref a0_held]), (a0_line, aI E 5 va0_line)] 62 → G E K 6 0 0 [(0, .ref a0), (1, .int x1), (2, .int x2), (3, .int x3)] [] [(a0, oB 8 [.ref a0_row, .int va0_isKept, .ref a0_lanes, .ref a0_sizes, .ref a0_items, .ref a0_tape, .int va0_length, .int va0_at, .int va0_number, .ref a0_readIce, .int va0_readCells, .ref a0_readPeople, .int va0_readMany, .ref a0_readSayings, .int va0_readSaid, .ref a0_line, .ref a0_bestLine, .int va0_bestFar, .int va0_bestIce, .ref a0_seen, .ref a0_held]), (a0_line, aI E 5 va0_line)] 41 := by
  intro n
  induction n with
  | zero => intro x3 o hf; cases hf
  | succ n ih =>
    intro x3 o hf hG
    rw [fX8_nextOrder_L41] at hf
    refine g_aload_n k 0 dX8_nextOrder_41 rfl rfl ?_
    refine g_get k cfX8 15 0 dX8_nextOrder_42 lkX8_35 (by decide) rfl rfl ?_
    refine g_iload_n k 3 dX8_nextOrder_45 rfl rfl ?_
    obtain ⟨κ8, hκ8, hiκ8, heκ8, hf⟩ := ixb_some hf
    refine g_iaload k 1 dX8_nextOrder_46 rfl hiκ8 heκ8 ?_
    refine g_aload_n k 0 dX8_nextOrder_47 rfl rfl ?_
    refine g_get k cfX8 15 0 dX8_nextOrder_48 lkX8_35 (by decide) rfl rfl ?_
    refine g_iload_n k 2 dX8_nextOrder_51 rfl rfl ?_
    obtain ⟨κ9, hκ9, hiκ9, heκ9, hf⟩ := ixb_some hf
    refine g_iaload k 1 dX8_nextOrder_52 rfl hiκ9 heκ9 ?_
    refine g_icmp_ge k (tgt := 62) dX8_nextOrder_53 (by decide) (fun c10 => ?_) (fun c10 => ?_)
    · replace hf := ite_t c10 hf
      refine g_lv [0, 1, 2, 3] rfl ?_
      obtain rfl := Option.some.inj hf
      exact hG
    · replace hf := ite_f c10 hf
      refine g_iinc k (lv' := [(3, .int (x3 + (-1))), (0, .ref a0), (1, .int x1), (2, .int x2)]) 3 dX8_nextOrder_56 rfl (ii_m1 _) (by decide) rfl ?_
      refine g_goto k (tgt := 41) dX8_nextOrder_59 (by decide) ?_
      refine g_lv [1, 2, 3, 0] rfl ?_
      exact ih (x3 + (-1)) o hf hG
def fX8_nextOrder_L78 (N : Nat) (x1 : Int32) (x2 : Int32) (x3 : Int32) : Nat → Int32 → Int32 → (Nat → Int32) → Option (Int32 × Int32 × (Nat → Int32))
  | 0, _, _, _ => none
  | n + 1, x4, x5, va0_line =>
    if x5 ≤ x4 then
    some (x4, x5, va0_line)
    else
    bnd (fX8_swapLine N va0_line x4 x5) fun o16 =>
    fX8_nextOrder_L78 N x1 x2 x3 n (x4 + 1) (x5 + (-1)) o16
set_option maxHeartbeats 4000000 in
set_option maxRecDepth 100000 in
theorem wX8_nextOrder_L78 {E : Ev} {K : KX} (k : OKX E K cX8_nextOrder RX8 6 rmX8_nextOrder) (N : Nat) (a0 : Nat) (a0_row : Nat) (a0_lanes : Nat) (a0_sizes : Nat) (a0_items : Nat) (a0_tape : Nat) (a0_readIce : Nat) (a0_readPeople : Nat) (a0_readSayings : Nat) (a0_line : Nat) (a0_bestLine : Nat) (a0_seen : Nat) (a0_held : Nat) (x1 : Int32) (x2 : Int32) (x3 : Int32) (va0_isKept : Int32) (va0_length : Int32) (va0_at : Int32) (va0_number : Int32) (va0_readCells : Int32) (va0_readMany : Int32) (va0_readSaid : Int32) (va0_bestFar : Int32) (va0_bestIce : Int32) : ∀ (n : Nat) (x4 : Int32) (x5 : Int32) (va0_line : Nat → Int32) (o : Int32 × Int32 × (Nat → Int32)), fX8_nextOrder_L78 N x1 x2 x3 n x4 x5 va0_line = some o → G E K 6 0 0 [(0, .ref a0), (1, .int x1), (2, .int x2), (3, .int x3), (4, .int o.1), (5, .int o.2.1)] [] [(a0, oB 8 [.ref a0_row, .int va0_isKept, .ref a0_lanes, .ref a0_sizes, .ref a0_items, .ref a0_tape, .int va0_length, .int va0_at, .int va0_number, .ref a0_readIce, .int va0_readCells, .ref a0_readPeople, .int va0_readMany, .ref a0_readSayings, .int va0_readSaid, .ref a0_line, .ref a0_bestLine, .int va0_bestFar, .int va0_bestIce, .ref a0_seen, .ref a0_held]), (a0_line, aI E 5 o.2.2)] 102 → G E K 6 0 0 [(0, .ref a0), (1, .int x1), (2, .int x2), (3, .int x3), (4, .int x4), (5, .int x5)] [] [(a0, oB 8 [.ref a0_row, .int va0_isKept, .ref a0_lanes, .ref a0_sizes, .ref a0_items, .ref a0_tape, .int va0_length, .int va0_at, .int va0_number, .ref a0_readIce, .int va0_readCells, .ref a0_readPeople, .int va0_readMany, .ref a0_readSayings, .int va0_readSaid, .ref a0_line, .ref a0_bestLine, .int va0_bestFar, .int va0_bestIce, .ref a0_seen, .ref a0_held]), (a0_line, aI E 5 va0_line)] 78 := by
  intro n
  induction n with
  | zero => intro x4 x5 va0_line o hf; cases hf
  | succ n ih =>
    intro x4 x5 va0_line o hf hG
    rw [fX8_nextOrder_L78] at hf
    refine g_iload k 4 dX8_nextOrder_78 rfl ?_
    refine g_iload k 5 dX8_nextOrder_80 rfl ?_
    refine g_icmp_ge k (tgt := 102) dX8_nextOrder_82 (by decide) (fun c15 => ?_) (fun c15 => ?_)
    · replace hf := ite_t c15 hf
      refine g_lv [0, 1, 2, 3, 4, 5] rfl ?_
      obtain rfl := Option.some.inj hf
      exact hG
    · replace hf := ite_f c15 hf
      refine g_aload_n k 0 dX8_nextOrder_85 rfl rfl ?_
      refine g_iload k 4 dX8_nextOrder_86 rfl ?_
      refine g_iload k 5 dX8_nextOrder_88 rfl ?_
      obtain ⟨o16, ho17, hf⟩ := bnd_some hf
      refine g_cv k miX8_swapLine mvX8_swapLine (ctX8_swapLine (kL K) E N a0 a0_row a0_lanes a0_sizes a0_items a0_tape a0_readIce a0_readPeople a0_readSayings a0_line a0_bestLine a0_seen a0_held va0_isKept va0_length va0_at va0_number va0_readCells va0_readMany va0_readSaid va0_bestFar va0_bestIce va0_line x4 x5 o16 ho17) [0, 1] 0 (ws' := [(a0, oB 8 [.ref a0_row, .int va0_isKept, .ref a0_lanes, .ref a0_sizes, .ref a0_items, .ref a0_tape, .int va0_length, .int va0_at, .int va0_number, .ref a0_readIce, .int va0_readCells, .ref a0_readPeople, .int va0_readMany, .ref a0_readSayings, .int va0_readSaid, .ref a0_line, .ref a0_bestLine, .int va0_bestFar, .int va0_bestIce, .ref a0_seen, .ref a0_held]), (a0_line, aI E 5 o16)]) dX8_nextOrder_90 lkX8_220 rfl ⟨rfl, rfl⟩ ⟨by decide, by decide⟩ rfl rfl rfl rfl (Nat.le_of_ble_eq_true rfl) rfl rfl rfl ?_
      refine g_st (st' := []) rfl ?_
      refine g_iinc k (lv' := [(4, .int (x4 + 1)), (0, .ref a0), (1, .int x1), (2, .int x2), (3, .int x3), (5, .int x5)]) 4 dX8_nextOrder_93 rfl (ii_1 _) (by decide) rfl ?_
      refine g_iinc k (lv' := [(5, .int (x5 + (-1))), (4, .int (x4 + 1)), (0, .ref a0), (1, .int x1), (2, .int x2), (3, .int x3)]) 5 dX8_nextOrder_96 rfl (ii_m1 _) (by decide) rfl ?_
      refine g_goto k (tgt := 78) dX8_nextOrder_99 (by decide) ?_
      refine g_lv [2, 3, 4, 5, 1, 0] rfl ?_
      exact ih (x4 + 1) (x5 + (-1)) o16 o hf hG
def fX8_nextOrder (N : Nat) (va0_line : Nat → Int32) (x1 : Int32) : Option (Int32 × (Nat → Int32)) :=
  bnd (fX8_nextOrder_L4 N x1 va0_line N (x1 - 2)) fun o5 =>
  if 0 ≤ o5 then
  bnd (fX8_nextOrder_L41 N x1 o5 va0_line N (x1 - 1)) fun o11 =>
  bnd (fX8_swapLine N va0_line o5 o11) fun o13 =>
  bnd (fX8_nextOrder_L78 N x1 o5 o11 N (o5 + 1) (x1 - 1) o13) fun o18 =>
  some (1, o18.2.2)
  else
  some (0, va0_line)
set_option maxHeartbeats 4000000 in
set_option maxRecDepth 100000 in
theorem ctX8_nextOrder (l : Launch) (E : Ev) (N : Nat) (a0 : Nat) (a0_row : Nat) (a0_lanes : Nat) (a0_sizes : Nat) (a0_items : Nat) (a0_tape : Nat) (a0_readIce : Nat) (a0_readPeople : Nat) (a0_readSayings : Nat) (a0_line : Nat) (a0_bestLine : Nat) (a0_seen : Nat) (a0_held : Nat) (va0_isKept : Int32) (va0_length : Int32) (va0_at : Int32) (va0_number : Int32) (va0_readCells : Int32) (va0_readMany : Int32) (va0_readSaid : Int32) (va0_bestFar : Int32) (va0_bestIce : Int32) (va0_line : Nat → Int32) (x1 : Int32) (out : Int32 × (Nat → Int32)) (hf : fX8_nextOrder N va0_line x1 = some out) : Ct l E yX8_nextOrder cX8_nextOrder 6 (some .boolean) rmX8_nextOrder [.ref a0, .int x1] [(a0, oB 8 [.ref a0_row, .int va0_isKept, .ref a0_lanes, .ref a0_sizes, .ref a0_items, .ref a0_tape, .int va0_length, .int va0_at, .int va0_number, .ref a0_readIce, .int va0_readCells, .ref a0_readPeople, .int va0_readMany, .ref a0_readSayings, .int va0_readSaid, .ref a0_line, .ref a0_bestLine, .int va0_bestFar, .int va0_bestIce, .ref a0_seen, .ref a0_held]), (a0_line, aI E 5 va0_line)] (Pe (some (.int out.1)) [(a0, oB 8 [.ref a0_row, .int va0_isKept, .ref a0_lanes, .ref a0_sizes, .ref a0_items, .ref a0_tape, .int va0_length, .int va0_at, .int va0_number, .ref a0_readIce, .int va0_readCells, .ref a0_readPeople, .int va0_readMany, .ref a0_readSayings, .int va0_readSaid, .ref a0_line, .ref a0_bestLine, .int va0_bestFar, .int va0_bestIce, .ref a0_seen, .ref a0_held]), (a0_line, aI E 5 out.2)]) := by
  refine Ct.of rfl (Nat.le_of_ble_eq_true rfl) (fun K hL k r hin => ?_)
  subst hL
  unfold fX8_nextOrder at hf
  show G E K 6 0 0 [(0, .ref a0), (1, .int x1)] [] [(a0, oB 8 [.ref a0_row, .int va0_isKept, .ref a0_lanes, .ref a0_sizes, .ref a0_items, .ref a0_tape, .int va0_length, .int va0_at, .int va0_number, .ref a0_readIce, .int va0_readCells, .ref a0_readPeople, .int va0_readMany, .ref a0_readSayings, .int va0_readSaid, .ref a0_line, .ref a0_bestLine, .int va0_bestFar, .int va0_bestIce, .ref a0_seen, .ref a0_held]), (a0_line, aI E 5 va0_line)] 0
  refine g_iload_n k 1 dX8_nextOrder_0 rfl rfl ?_
  refine g_iconst k dX8_nextOrder_1 ic_2 ?_
  refine g_isub k dX8_nextOrder_2 ?_
  refine g_istore_n k (lv' := [(2, .int (x1 - 2)), (0, .ref a0), (1, .int x1)]) dX8_nextOrder_3 rfl (by decide) rfl ?_
  obtain ⟨o5, ho6, hf⟩ := bnd_some hf
  refine g_lv [1, 2, 0] (lv' := [(0, .ref a0), (1, .int x1), (2, .int (x1 - 2))]) rfl ?_
  refine wX8_nextOrder_L4 k N a0 a0_row a0_lanes a0_sizes a0_items a0_tape a0_readIce a0_readPeople a0_readSayings a0_line a0_bestLine a0_seen a0_held  x1 va0_line va0_isKept va0_length va0_at va0_number va0_readCells va0_readMany va0_readSaid va0_bestFar va0_bestIce N (x1 - 2) o5 ho6 ?_
  refine g_iload_n k 2 dX8_nextOrder_31 rfl rfl ?_
  refine g_if_ge k (tgt := 37) dX8_nextOrder_32 (by decide) (fun c7 => ?_) (fun c7 => ?_)
  · replace hf := ite_t c7 hf
    refine g_iload_n k 1 dX8_nextOrder_37 rfl rfl ?_
    refine g_iconst k dX8_nextOrder_38 ic_1 ?_
    refine g_isub k dX8_nextOrder_39 ?_
    refine g_istore_n k (lv' := [(3, .int (x1 - 1)), (0, .ref a0), (1, .int x1), (2, .int o5)]) dX8_nextOrder_40 rfl (by decide) rfl ?_
    obtain ⟨o11, ho12, hf⟩ := bnd_some hf
    refine g_lv [1, 2, 3, 0] (lv' := [(0, .ref a0), (1, .int x1), (2, .int o5), (3, .int (x1 - 1))]) rfl ?_
    refine wX8_nextOrder_L41 k N a0 a0_row a0_lanes a0_sizes a0_items a0_tape a0_readIce a0_readPeople a0_readSayings a0_line a0_bestLine a0_seen a0_held  x1 o5 va0_line va0_isKept va0_length va0_at va0_number va0_readCells va0_readMany va0_readSaid va0_bestFar va0_bestIce N (x1 - 1) o11 ho12 ?_
    refine g_aload_n k 0 dX8_nextOrder_62 rfl rfl ?_
    refine g_iload_n k 2 dX8_nextOrder_63 rfl rfl ?_
    refine g_iload_n k 3 dX8_nextOrder_64 rfl rfl ?_
    obtain ⟨o13, ho14, hf⟩ := bnd_some hf
    refine g_cv k miX8_swapLine mvX8_swapLine (ctX8_swapLine (kL K) E N a0 a0_row a0_lanes a0_sizes a0_items a0_tape a0_readIce a0_readPeople a0_readSayings a0_line a0_bestLine a0_seen a0_held va0_isKept va0_length va0_at va0_number va0_readCells va0_readMany va0_readSaid va0_bestFar va0_bestIce va0_line o5 o11 o13 ho14) [0, 1] 0 (ws' := [(a0, oB 8 [.ref a0_row, .int va0_isKept, .ref a0_lanes, .ref a0_sizes, .ref a0_items, .ref a0_tape, .int va0_length, .int va0_at, .int va0_number, .ref a0_readIce, .int va0_readCells, .ref a0_readPeople, .int va0_readMany, .ref a0_readSayings, .int va0_readSaid, .ref a0_line, .ref a0_bestLine, .int va0_bestFar, .int va0_bestIce, .ref a0_seen, .ref a0_held]), (a0_line, aI E 5 o13)]) dX8_nextOrder_65 lkX8_220 rfl ⟨rfl, rfl⟩ ⟨by decide, by decide⟩ rfl rfl rfl rfl (Nat.le_of_ble_eq_true rfl) rfl rfl rfl ?_
    refine g_st (st' := []) rfl ?_
    refine g_iload_n k 2 dX8_nextOrder_68 rfl rfl ?_
    refine g_iconst k dX8_nextOrder_69 ic_1 ?_
    refine g_iadd k dX8_nextOrder_70 ?_
    refine g_istore k (lv' := [(4, .int (o5 + 1)), (0, .ref a0), (1, .int x1), (2, .int o5), (3, .int o11)]) dX8_nextOrder_71 (by decide) rfl ?_
    refine g_iload_n k 2 dX8_nextOrder_73 rfl rfl ?_
    refine g_iconst k dX8_nextOrder_74 ic_1 ?_
    refine g_isub k dX8_nextOrder_75 ?_
    refine g_istore k (lv' := [(5, .int (x1 - 1)), (4, .int (o5 + 1)), (0, .ref a0), (1, .int x1), (2, .int o5), (3, .int o11)]) dX8_nextOrder_76 (by decide) rfl ?_
    obtain ⟨o18, ho19, hf⟩ := bnd_some hf
    refine g_lv [2, 3, 4, 5, 1, 0] (lv' := [(0, .ref a0), (1, .int x1), (2, .int o5), (3, .int o11), (4, .int (o5 + 1)), (5, .int (x1 - 1))]) rfl ?_
    refine wX8_nextOrder_L78 k N a0 a0_row a0_lanes a0_sizes a0_items a0_tape a0_readIce a0_readPeople a0_readSayings a0_line a0_bestLine a0_seen a0_held  x1 o5 o11 va0_isKept va0_length va0_at va0_number va0_readCells va0_readMany va0_readSaid va0_bestFar va0_bestIce N (o5 + 1) (x1 - 1) o13 o18 ho19 ?_
    refine g_iconst k dX8_nextOrder_102 ic_1 ?_
    obtain rfl := Option.some.inj hf
    exact g_zret k (rfl) r dX8_nextOrder_103 ⟨rfl, rfl⟩
  · replace hf := ite_f c7 hf
    refine g_iconst k dX8_nextOrder_35 ic_0 ?_
    obtain rfl := Option.some.inj hf
    exact g_zret k (rfl) r dX8_nextOrder_36 ⟨rfl, rfl⟩
abbrev rmX8_once : Room := { frames := 7, cells := 0, slots := 0, locals := 170 }
def fX8_once_L29 (N : Nat) (x1 : Int32) (x2 : Int32) : Nat → Int32 → (Nat → Int32) → Option (Int32 × (Nat → Int32))
  | 0, _, _ => none
  | n + 1, x3, va0_line =>
    if x2 ≤ x3 then
    some (x3, va0_line)
    else
    ixb x3 5 fun κ4 =>
    fX8_once_L29 N x1 x2 n (x3 + 1) (upd va0_line κ4 x3)
set_option maxHeartbeats 4000000 in
set_option maxRecDepth 100000 in
theorem wX8_once_L29 {E : Ev} {K : KX} (k : OKX E K cX8_once RX8 4 rmX8_once) (N : Nat) (a0 : Nat) (a0_row : Nat) (a0_lanes : Nat) (a0_sizes : Nat) (a0_items : Nat) (a0_tape : Nat) (a0_readIce : Nat) (a0_readPeople : Nat) (a0_readSayings : Nat) (a0_line : Nat) (a0_bestLine : Nat) (a0_seen : Nat) (a0_held : Nat) (x1 : Int32) (x2 : Int32) (va0_isKept : Int32) (va0_length : Int32) (va0_at : Int32) (va0_number : Int32) (va0_readCells : Int32) (va0_readMany : Int32) (va0_readSaid : Int32) (va0_bestFar : Int32) (va0_bestIce : Int32) (va0_row : Nat → Int32) (va0_bestLine : Nat → Int32) : ∀ (n : Nat) (x3 : Int32) (va0_line : Nat → Int32) (o : Int32 × (Nat → Int32)), fX8_once_L29 N x1 x2 n x3 va0_line = some o → G E K 4 0 0 [(0, .ref a0), (1, .int x1), (2, .int x2), (3, .int o.1)] [] [(a0, oB 8 [.ref a0_row, .int va0_isKept, .ref a0_lanes, .ref a0_sizes, .ref a0_items, .ref a0_tape, .int va0_length, .int va0_at, .int va0_number, .ref a0_readIce, .int va0_readCells, .ref a0_readPeople, .int va0_readMany, .ref a0_readSayings, .int va0_readSaid, .ref a0_line, .ref a0_bestLine, .int va0_bestFar, .int va0_bestIce, .ref a0_seen, .ref a0_held]), (a0_row, aI E 525 va0_row), (a0_line, aI E 5 o.2), (a0_bestLine, aI E 5 va0_bestLine)] 47 → G E K 4 0 0 [(0, .ref a0), (1, .int x1), (2, .int x2), (3, .int x3)] [] [(a0, oB 8 [.ref a0_row, .int va0_isKept, .ref a0_lanes, .ref a0_sizes, .ref a0_items, .ref a0_tape, .int va0_length, .int va0_at, .int va0_number, .ref a0_readIce, .int va0_readCells, .ref a0_readPeople, .int va0_readMany, .ref a0_readSayings, .int va0_readSaid, .ref a0_line, .ref a0_bestLine, .int va0_bestFar, .int va0_bestIce, .ref a0_seen, .ref a0_held]), (a0_row, aI E 525 va0_row), (a0_line, aI E 5 va0_line), (a0_bestLine, aI E 5 va0_bestLine)] 29 := by
  intro n
  induction n with
  | zero => intro x3 va0_line o hf; cases hf
  | succ n ih =>
    intro x3 va0_line o hf hG
    rw [fX8_once_L29] at hf
    refine g_iload_n k 3 dX8_once_29 rfl rfl ?_
    refine g_iload_n k 2 dX8_once_30 rfl rfl ?_
    refine g_icmp_ge k (tgt := 47) dX8_once_31 (by decide) (fun c3 => ?_) (fun c3 => ?_)
    · replace hf := ite_t c3 hf
      refine g_lv [0, 1, 2, 3] rfl ?_
      obtain rfl := Option.some.inj hf
      exact hG
    · replace hf := ite_f c3 hf
      refine g_aload_n k 0 dX8_once_34 rfl rfl ?_
      refine g_get k cfX8 15 0 dX8_once_35 lkX8_35 (by decide) rfl rfl ?_
      refine g_iload_n k 3 dX8_once_38 rfl rfl ?_
      refine g_iload_n k 3 dX8_once_39 rfl rfl ?_
      obtain ⟨κ4, hκ4, hiκ4, heκ4, hf⟩ := ixb_some hf
      refine g_iastore k 2 (ws' := [(a0, oB 8 [.ref a0_row, .int va0_isKept, .ref a0_lanes, .ref a0_sizes, .ref a0_items, .ref a0_tape, .int va0_length, .int va0_at, .int va0_number, .ref a0_readIce, .int va0_readCells, .ref a0_readPeople, .int va0_readMany, .ref a0_readSayings, .int va0_readSaid, .ref a0_line, .ref a0_bestLine, .int va0_bestFar, .int va0_bestIce, .ref a0_seen, .ref a0_held]), (a0_row, aI E 525 va0_row), (a0_line, aI E 5 (upd va0_line κ4 x3)), (a0_bestLine, aI E 5 va0_bestLine)]) dX8_once_40 rfl hiκ4 heκ4 rfl ?_
      refine g_iinc k (lv' := [(3, .int (x3 + 1)), (0, .ref a0), (1, .int x1), (2, .int x2)]) 3 dX8_once_41 rfl (ii_1 _) (by decide) rfl ?_
      refine g_goto k (tgt := 29) dX8_once_44 (by decide) ?_
      refine g_lv [1, 2, 3, 0] rfl ?_
      exact ih (x3 + 1) (upd va0_line κ4 x3) o hf hG
def fX8_once_L49 (N : Nat) (x1 : Int32) (x2 : Int32) : Nat → Int32 → Int32 → Int32 → (Nat → Int32) → (Nat → Int32) → (Nat → Int32) → Option (Int32 × Int32 × Int32 × (Nat → Int32) × (Nat → Int32) × (Nat → Int32))
  | 0, _, _, _, _, _, _ => none
  | n + 1, x3, va0_bestFar, va0_bestIce, va0_row, va0_line, va0_bestLine =>
    if x3 = 0 then
    some (x3, va0_bestFar, va0_bestIce, va0_row, va0_line, va0_bestLine)
    else
    bnd (fX8_tryLine N va0_bestFar va0_bestIce va0_row va0_line va0_bestLine x2) fun o8 =>
    bnd (fX8_nextOrder N va0_line x2) fun o10 =>
    fX8_once_L49 N x1 x2 n o10.1 o8.1 o8.2.1 o8.2.2.1 o10.2 o8.2.2.2
set_option maxHeartbeats 4000000 in
set_option maxRecDepth 100000 in
theorem wX8_once_L49 {E : Ev} {K : KX} (k : OKX E K cX8_once RX8 4 rmX8_once) (N : Nat) (a0 : Nat) (a0_row : Nat) (a0_lanes : Nat) (a0_sizes : Nat) (a0_items : Nat) (a0_tape : Nat) (a0_readIce : Nat) (a0_readPeople : Nat) (a0_readSayings : Nat) (a0_line : Nat) (a0_bestLine : Nat) (a0_seen : Nat) (a0_held : Nat) (x1 : Int32) (x2 : Int32) (va0_isKept : Int32) (va0_length : Int32) (va0_at : Int32) (va0_number : Int32) (va0_readCells : Int32) (va0_readMany : Int32) (va0_readSaid : Int32) : ∀ (n : Nat) (x3 : Int32) (va0_bestFar : Int32) (va0_bestIce : Int32) (va0_row : Nat → Int32) (va0_line : Nat → Int32) (va0_bestLine : Nat → Int32) (o : Int32 × Int32 × Int32 × (Nat → Int32) × (Nat → Int32) × (Nat → Int32)), fX8_once_L49 N x1 x2 n x3 va0_bestFar va0_bestIce va0_row va0_line va0_bestLine = some o → G E K 4 0 0 [(0, .ref a0), (1, .int x1), (2, .int x2), (3, .int o.1)] [] [(a0, oB 8 [.ref a0_row, .int va0_isKept, .ref a0_lanes, .ref a0_sizes, .ref a0_items, .ref a0_tape, .int va0_length, .int va0_at, .int va0_number, .ref a0_readIce, .int va0_readCells, .ref a0_readPeople, .int va0_readMany, .ref a0_readSayings, .int va0_readSaid, .ref a0_line, .ref a0_bestLine, .int o.2.1, .int o.2.2.1, .ref a0_seen, .ref a0_held]), (a0_row, aI E 525 o.2.2.2.1), (a0_line, aI E 5 o.2.2.2.2.1), (a0_bestLine, aI E 5 o.2.2.2.2.2)] 67 → G E K 4 0 0 [(0, .ref a0), (1, .int x1), (2, .int x2), (3, .int x3)] [] [(a0, oB 8 [.ref a0_row, .int va0_isKept, .ref a0_lanes, .ref a0_sizes, .ref a0_items, .ref a0_tape, .int va0_length, .int va0_at, .int va0_number, .ref a0_readIce, .int va0_readCells, .ref a0_readPeople, .int va0_readMany, .ref a0_readSayings, .int va0_readSaid, .ref a0_line, .ref a0_bestLine, .int va0_bestFar, .int va0_bestIce, .ref a0_seen, .ref a0_held]), (a0_row, aI E 525 va0_row), (a0_line, aI E 5 va0_line), (a0_bestLine, aI E 5 va0_bestLine)] 49 := by
  intro n
  induction n with
  | zero => intro x3 va0_bestFar va0_bestIce va0_row va0_line va0_bestLine o hf; cases hf
  | succ n ih =>
    intro x3 va0_bestFar va0_bestIce va0_row va0_line va0_bestLine o hf hG
    rw [fX8_once_L49] at hf
    refine g_iload_n k 3 dX8_once_49 rfl rfl ?_
    refine g_if_eq k (tgt := 67) dX8_once_50 (by decide) (fun c7 => ?_) (fun c7 => ?_)
    · replace hf := ite_t c7 hf
      refine g_lv [0, 1, 2, 3] rfl ?_
      obtain rfl := Option.some.inj hf
      exact hG
    · replace hf := ite_f c7 hf
      refine g_aload_n k 0 dX8_once_53 rfl rfl ?_
      refine g_iload_n k 2 dX8_once_54 rfl rfl ?_
      obtain ⟨o8, ho9, hf⟩ := bnd_some hf
      refine g_cv k miX8_tryLine mvX8_tryLine (ctX8_tryLine (kL K) E N a0 a0_row a0_lanes a0_sizes a0_items a0_tape a0_readIce a0_readPeople a0_readSayings a0_line a0_bestLine a0_seen a0_held va0_isKept va0_length va0_at va0_number va0_readCells va0_readMany va0_readSaid va0_bestFar va0_bestIce va0_row va0_line va0_bestLine x2 o8 ho9) [0, 1, 2, 3] 0 (ws' := [(a0, oB 8 [.ref a0_row, .int va0_isKept, .ref a0_lanes, .ref a0_sizes, .ref a0_items, .ref a0_tape, .int va0_length, .int va0_at, .int va0_number, .ref a0_readIce, .int va0_readCells, .ref a0_readPeople, .int va0_readMany, .ref a0_readSayings, .int va0_readSaid, .ref a0_line, .ref a0_bestLine, .int o8.1, .int o8.2.1, .ref a0_seen, .ref a0_held]), (a0_row, aI E 525 o8.2.2.1), (a0_line, aI E 5 va0_line), (a0_bestLine, aI E 5 o8.2.2.2)]) dX8_once_55 lkX8_211 rfl ⟨rfl, rfl⟩ ⟨by decide, by decide⟩ rfl rfl rfl rfl (Nat.le_of_ble_eq_true rfl) rfl rfl rfl ?_
      refine g_st (st' := []) rfl ?_
      refine g_aload_n k 0 dX8_once_58 rfl rfl ?_
      refine g_iload_n k 2 dX8_once_59 rfl rfl ?_
      obtain ⟨o10, ho11, hf⟩ := bnd_some hf
      refine g_cv k miX8_nextOrder mvX8_nextOrder (ctX8_nextOrder (kL K) E N a0 a0_row a0_lanes a0_sizes a0_items a0_tape a0_readIce a0_readPeople a0_readSayings a0_line a0_bestLine a0_seen a0_held va0_isKept va0_length va0_at va0_number va0_readCells va0_readMany va0_readSaid o8.1 o8.2.1 va0_line x2 o10 ho11) [0, 2] 0 (ws' := [(a0, oB 8 [.ref a0_row, .int va0_isKept, .ref a0_lanes, .ref a0_sizes, .ref a0_items, .ref a0_tape, .int va0_length, .int va0_at, .int va0_number, .ref a0_readIce, .int va0_readCells, .ref a0_readPeople, .int va0_readMany, .ref a0_readSayings, .int va0_readSaid, .ref a0_line, .ref a0_bestLine, .int o8.1, .int o8.2.1, .ref a0_seen, .ref a0_held]), (a0_row, aI E 525 o8.2.2.1), (a0_line, aI E 5 o10.2), (a0_bestLine, aI E 5 o8.2.2.2)]) dX8_once_60 lkX8_223 rfl ⟨rfl, rfl⟩ ⟨by decide, by decide⟩ rfl rfl rfl rfl (Nat.le_of_ble_eq_true rfl) rfl rfl rfl ?_
      refine g_st (st' := [.int o10.1]) rfl ?_
      refine g_istore_n k (lv' := [(3, .int o10.1), (0, .ref a0), (1, .int x1), (2, .int x2)]) dX8_once_63 rfl (by decide) rfl ?_
      refine g_goto k (tgt := 49) dX8_once_64 (by decide) ?_
      refine g_lv [1, 2, 3, 0] rfl ?_
      exact ih o10.1 o8.1 o8.2.1 o8.2.2.1 o10.2 o8.2.2.2 o hf hG
def fX8_once (N : Nat) (va0_bestFar : Int32) (va0_bestIce : Int32) (va0_row : Nat → Int32) (va0_line : Nat → Int32) (va0_bestLine : Nat → Int32) (x1 : Int32) : Option (Int32 × Int32 × Int32 × (Nat → Int32) × (Nat → Int32) × (Nat → Int32)) :=
  if (-1) ≤ x1 then
  if (va0_row 28) = 0 then
  some ((-4), va0_bestFar, va0_bestIce, va0_row, va0_line, va0_bestLine)
  else
  bnd (fX8_once_L29 N x1 (va0_row 28) N 0 va0_line) fun o5 =>
  bnd (fX8_once_L49 N x1 (va0_row 28) N 1 (-1) va0_bestIce va0_row o5.2 va0_bestLine) fun o12 =>
  bnd (fX8_tellLine N o12.2.1 o12.2.2.2.2.2 (va0_row 28) x1) fun o14 =>
  some (o14, o12.2.1, o12.2.2.1, o12.2.2.2.1, o12.2.2.2.2.1, o12.2.2.2.2.2)
  else
  some ((-1), va0_bestFar, va0_bestIce, va0_row, va0_line, va0_bestLine)
set_option maxHeartbeats 4000000 in
set_option maxRecDepth 100000 in
theorem ctX8_once (l : Launch) (E : Ev) (N : Nat) (a0 : Nat) (a0_row : Nat) (a0_lanes : Nat) (a0_sizes : Nat) (a0_items : Nat) (a0_tape : Nat) (a0_readIce : Nat) (a0_readPeople : Nat) (a0_readSayings : Nat) (a0_line : Nat) (a0_bestLine : Nat) (a0_seen : Nat) (a0_held : Nat) (va0_isKept : Int32) (va0_length : Int32) (va0_at : Int32) (va0_number : Int32) (va0_readCells : Int32) (va0_readMany : Int32) (va0_readSaid : Int32) (va0_bestFar : Int32) (va0_bestIce : Int32) (va0_row : Nat → Int32) (va0_line : Nat → Int32) (va0_bestLine : Nat → Int32) (x1 : Int32) (out : Int32 × Int32 × Int32 × (Nat → Int32) × (Nat → Int32) × (Nat → Int32)) (hf : fX8_once N va0_bestFar va0_bestIce va0_row va0_line va0_bestLine x1 = some out) : Ct l E yX8_once cX8_once 4 (some .int) rmX8_once [.ref a0, .int x1] [(a0, oB 8 [.ref a0_row, .int va0_isKept, .ref a0_lanes, .ref a0_sizes, .ref a0_items, .ref a0_tape, .int va0_length, .int va0_at, .int va0_number, .ref a0_readIce, .int va0_readCells, .ref a0_readPeople, .int va0_readMany, .ref a0_readSayings, .int va0_readSaid, .ref a0_line, .ref a0_bestLine, .int va0_bestFar, .int va0_bestIce, .ref a0_seen, .ref a0_held]), (a0_row, aI E 525 va0_row), (a0_line, aI E 5 va0_line), (a0_bestLine, aI E 5 va0_bestLine)] (Pe (some (.int out.1)) [(a0, oB 8 [.ref a0_row, .int va0_isKept, .ref a0_lanes, .ref a0_sizes, .ref a0_items, .ref a0_tape, .int va0_length, .int va0_at, .int va0_number, .ref a0_readIce, .int va0_readCells, .ref a0_readPeople, .int va0_readMany, .ref a0_readSayings, .int va0_readSaid, .ref a0_line, .ref a0_bestLine, .int out.2.1, .int out.2.2.1, .ref a0_seen, .ref a0_held]), (a0_row, aI E 525 out.2.2.2.1), (a0_line, aI E 5 out.2.2.2.2.1), (a0_bestLine, aI E 5 out.2.2.2.2.2)]) := by
  refine Ct.of rfl (Nat.le_of_ble_eq_true rfl) (fun K hL k r hin => ?_)
  subst hL
  unfold fX8_once at hf
  show G E K 4 0 0 [(0, .ref a0), (1, .int x1)] [] [(a0, oB 8 [.ref a0_row, .int va0_isKept, .ref a0_lanes, .ref a0_sizes, .ref a0_items, .ref a0_tape, .int va0_length, .int va0_at, .int va0_number, .ref a0_readIce, .int va0_readCells, .ref a0_readPeople, .int va0_readMany, .ref a0_readSayings, .int va0_readSaid, .ref a0_line, .ref a0_bestLine, .int va0_bestFar, .int va0_bestIce, .ref a0_seen, .ref a0_held]), (a0_row, aI E 525 va0_row), (a0_line, aI E 5 va0_line), (a0_bestLine, aI E 5 va0_bestLine)] 0
  refine g_iload_n k 1 dX8_once_0 rfl rfl ?_
  refine g_iconst k dX8_once_1 ic_m1 ?_
  refine g_icmp_ge k (tgt := 7) dX8_once_2 (by decide) (fun c1 => ?_) (fun c1 => ?_)
  · replace hf := ite_t c1 hf
    refine g_aload_n k 0 dX8_once_7 rfl rfl ?_
    refine g_get k cfX8 0 0 dX8_once_8 lkX8_7 (by decide) rfl rfl ?_
    refine g_bipush k dX8_once_11 bi_28 ?_
    refine g_iaload k 1 dX8_once_13 rfl vi_28_525 cl_28 ?_
    refine g_istore_n k (lv' := [(2, .int (va0_row 28)), (0, .ref a0), (1, .int x1)]) dX8_once_14 rfl (by decide) rfl ?_
    refine g_iload_n k 0 dX8_once_15 rfl rfl ?_
    refine g_if_ne k (tgt := 22) dX8_once_16 (by decide) (fun c2 => ?_) (fun c2 => ?_)
    · replace hf := ite_f c2 hf
      refine g_aload_n k 1 dX8_once_22 rfl rfl ?_
      refine g_iconst k dX8_once_23 ic_m1 ?_
      refine g_put k cfX8 17 0 (ws' := [(a0, oB 8 [.ref a0_row, .int va0_isKept, .ref a0_lanes, .ref a0_sizes, .ref a0_items, .ref a0_tape, .int va0_length, .int va0_at, .int va0_number, .ref a0_readIce, .int va0_readCells, .ref a0_readPeople, .int va0_readMany, .ref a0_readSayings, .int va0_readSaid, .ref a0_line, .ref a0_bestLine, .int (-1), .int va0_bestIce, .ref a0_seen, .ref a0_held]), (a0_row, aI E 525 va0_row), (a0_line, aI E 5 va0_line), (a0_bestLine, aI E 5 va0_bestLine)]) dX8_once_24 lkX8_205 (by decide) rfl rfl rfl rfl (Nat.le_of_ble_eq_true rfl) rfl ?_
      refine g_iconst k dX8_once_27 ic_0 ?_
      refine g_istore_n k (lv' := [(3, .int 0), (2, .int (va0_row 28)), (0, .ref a0), (1, .int x1)]) dX8_once_28 rfl (by decide) rfl ?_
      obtain ⟨o5, ho6, hf⟩ := bnd_some hf
      refine g_lv [2, 3, 1, 0] (lv' := [(0, .ref a0), (1, .int x1), (2, .int (va0_row 28)), (3, .int 0)]) rfl ?_
      refine wX8_once_L29 k N a0 a0_row a0_lanes a0_sizes a0_items a0_tape a0_readIce a0_readPeople a0_readSayings a0_line a0_bestLine a0_seen a0_held  x1 (va0_row 28) va0_isKept va0_length va0_at va0_number va0_readCells va0_readMany va0_readSaid (-1) va0_bestIce va0_row va0_bestLine N 0 va0_line o5 ho6 ?_
      refine g_iconst k dX8_once_47 ic_1 ?_
      refine g_istore_n k (lv' := [(3, .int 1), (0, .ref a0), (1, .int x1), (2, .int (va0_row 28))]) dX8_once_48 rfl (by decide) rfl ?_
      obtain ⟨o12, ho13, hf⟩ := bnd_some hf
      refine g_lv [1, 2, 3, 0] (lv' := [(0, .ref a0), (1, .int x1), (2, .int (va0_row 28)), (3, .int 1)]) rfl ?_
      refine wX8_once_L49 k N a0 a0_row a0_lanes a0_sizes a0_items a0_tape a0_readIce a0_readPeople a0_readSayings a0_line a0_bestLine a0_seen a0_held  x1 (va0_row 28) va0_isKept va0_length va0_at va0_number va0_readCells va0_readMany va0_readSaid N 1 (-1) va0_bestIce va0_row o5.2 va0_bestLine o12 ho13 ?_
      refine g_aload_n k 0 dX8_once_67 rfl rfl ?_
      refine g_iload_n k 2 dX8_once_68 rfl rfl ?_
      refine g_iload_n k 1 dX8_once_69 rfl rfl ?_
      obtain ⟨o14, ho15, hf⟩ := bnd_some hf
      refine g_cv k miX8_tellLine mvX8_tellLine (ctX8_tellLine (kL K) E N a0 a0_row a0_lanes a0_sizes a0_items a0_tape a0_readIce a0_readPeople a0_readSayings a0_line a0_bestLine a0_seen a0_held va0_isKept va0_length va0_at va0_number va0_readCells va0_readMany va0_readSaid o12.2.1 o12.2.2.1 o12.2.2.2.2.2 (va0_row 28) x1 o14 ho15) [0, 3] 0 (ws' := [(a0, oB 8 [.ref a0_row, .int va0_isKept, .ref a0_lanes, .ref a0_sizes, .ref a0_items, .ref a0_tape, .int va0_length, .int va0_at, .int va0_number, .ref a0_readIce, .int va0_readCells, .ref a0_readPeople, .int va0_readMany, .ref a0_readSayings, .int va0_readSaid, .ref a0_line, .ref a0_bestLine, .int o12.2.1, .int o12.2.2.1, .ref a0_seen, .ref a0_held]), (a0_row, aI E 525 o12.2.2.2.1), (a0_line, aI E 5 o12.2.2.2.2.1), (a0_bestLine, aI E 5 o12.2.2.2.2.2)]) dX8_once_70 lkX8_217 rfl ⟨rfl, rfl⟩ ⟨by decide, by decide⟩ rfl rfl rfl rfl (Nat.le_of_ble_eq_true rfl) rfl rfl rfl ?_
      refine g_st (st' := [.int o14]) rfl ?_
      obtain rfl := Option.some.inj hf
      exact g_iret k r dX8_once_73 ⟨rfl, rfl⟩
    · replace hf := ite_t c2 hf
      refine g_bipush k dX8_once_19 bi_m4 ?_
      obtain rfl := Option.some.inj hf
      exact g_iret k r dX8_once_21 ⟨rfl, rfl⟩
  · replace hf := ite_f c1 hf
    refine g_iconst k dX8_once_5 ic_m1 ?_
    obtain rfl := Option.some.inj hf
    exact g_iret k r dX8_once_6 ⟨rfl, rfl⟩
abbrev rmX8_rockWith : Room := { frames := 4, cells := 0, slots := 0, locals := 100 }
def fX8_rockWith (N : Nat) (va0_row : Nat → Int32) (x1 : Int32) (x2 : Int32) (x3 : Int32) : Option (Int32) :=
  ixb (15 + x1) 525 fun κ1 =>
  bnd (fX8_rockBy N va0_row 0 (va0_row κ1) x2 x3) fun o2 =>
  some (o2)
set_option maxHeartbeats 4000000 in
set_option maxRecDepth 100000 in
theorem ctX8_rockWith (l : Launch) (E : Ev) (N : Nat) (a0 : Nat) (a0_row : Nat) (a0_lanes : Nat) (a0_sizes : Nat) (a0_items : Nat) (a0_tape : Nat) (a0_readIce : Nat) (a0_readPeople : Nat) (a0_readSayings : Nat) (a0_line : Nat) (a0_bestLine : Nat) (a0_seen : Nat) (a0_held : Nat) (va0_isKept : Int32) (va0_length : Int32) (va0_at : Int32) (va0_number : Int32) (va0_readCells : Int32) (va0_readMany : Int32) (va0_readSaid : Int32) (va0_bestFar : Int32) (va0_bestIce : Int32) (va0_row : Nat → Int32) (x1 : Int32) (x2 : Int32) (x3 : Int32) (out : Int32) (hf : fX8_rockWith N va0_row x1 x2 x3 = some out) : Ct l E yX8_rockWith cX8_rockWith 4 (some .int) rmX8_rockWith [.ref a0, .int x1, .int x2, .int x3] [(a0, oB 8 [.ref a0_row, .int va0_isKept, .ref a0_lanes, .ref a0_sizes, .ref a0_items, .ref a0_tape, .int va0_length, .int va0_at, .int va0_number, .ref a0_readIce, .int va0_readCells, .ref a0_readPeople, .int va0_readMany, .ref a0_readSayings, .int va0_readSaid, .ref a0_line, .ref a0_bestLine, .int va0_bestFar, .int va0_bestIce, .ref a0_seen, .ref a0_held]), (a0_row, aI E 525 va0_row)] (Pe (some (.int out)) [(a0, oB 8 [.ref a0_row, .int va0_isKept, .ref a0_lanes, .ref a0_sizes, .ref a0_items, .ref a0_tape, .int va0_length, .int va0_at, .int va0_number, .ref a0_readIce, .int va0_readCells, .ref a0_readPeople, .int va0_readMany, .ref a0_readSayings, .int va0_readSaid, .ref a0_line, .ref a0_bestLine, .int va0_bestFar, .int va0_bestIce, .ref a0_seen, .ref a0_held]), (a0_row, aI E 525 va0_row)]) := by
  refine Ct.of rfl (Nat.le_of_ble_eq_true rfl) (fun K hL k r hin => ?_)
  subst hL
  unfold fX8_rockWith at hf
  show G E K 4 0 0 [(0, .ref a0), (1, .int x1), (2, .int x2), (3, .int x3)] [] [(a0, oB 8 [.ref a0_row, .int va0_isKept, .ref a0_lanes, .ref a0_sizes, .ref a0_items, .ref a0_tape, .int va0_length, .int va0_at, .int va0_number, .ref a0_readIce, .int va0_readCells, .ref a0_readPeople, .int va0_readMany, .ref a0_readSayings, .int va0_readSaid, .ref a0_line, .ref a0_bestLine, .int va0_bestFar, .int va0_bestIce, .ref a0_seen, .ref a0_held]), (a0_row, aI E 525 va0_row)] 0
  refine g_aload_n k 0 dX8_rockWith_0 rfl rfl ?_
  refine g_iconst k dX8_rockWith_1 ic_0 ?_
  refine g_aload_n k 0 dX8_rockWith_2 rfl rfl ?_
  refine g_get k cfX8 0 0 dX8_rockWith_3 lkX8_7 (by decide) rfl rfl ?_
  refine g_bipush k dX8_rockWith_6 bi_15 ?_
  refine g_iload_n k 1 dX8_rockWith_8 rfl rfl ?_
  refine g_iadd k dX8_rockWith_9 ?_
  obtain ⟨κ1, hκ1, hiκ1, heκ1, hf⟩ := ixb_some hf
  refine g_iaload k 1 dX8_rockWith_10 rfl hiκ1 heκ1 ?_
  refine g_iload_n k 2 dX8_rockWith_11 rfl rfl ?_
  refine g_iload_n k 3 dX8_rockWith_12 rfl rfl ?_
  obtain ⟨o2, ho3, hf⟩ := bnd_some hf
  refine g_cv k miX8_rockBy mvX8_rockBy (ctX8_rockBy (kL K) E N a0 a0_row a0_lanes a0_sizes a0_items a0_tape a0_readIce a0_readPeople a0_readSayings a0_line a0_bestLine a0_seen a0_held va0_isKept va0_length va0_at va0_number va0_readCells va0_readMany va0_readSaid va0_bestFar va0_bestIce va0_row 0 (va0_row κ1) x2 x3 o2 ho3) [0, 1] 0 (ws' := [(a0, oB 8 [.ref a0_row, .int va0_isKept, .ref a0_lanes, .ref a0_sizes, .ref a0_items, .ref a0_tape, .int va0_length, .int va0_at, .int va0_number, .ref a0_readIce, .int va0_readCells, .ref a0_readPeople, .int va0_readMany, .ref a0_readSayings, .int va0_readSaid, .ref a0_line, .ref a0_bestLine, .int va0_bestFar, .int va0_bestIce, .ref a0_seen, .ref a0_held]), (a0_row, aI E 525 va0_row)]) dX8_rockWith_13 lkX8_94 rfl ⟨rfl, rfl⟩ ⟨by decide, by decide⟩ rfl rfl rfl rfl (Nat.le_of_ble_eq_true rfl) rfl rfl rfl ?_
  refine g_st (st' := [.int o2]) rfl ?_
  obtain rfl := Option.some.inj hf
  exact g_iret k r dX8_rockWith_16 ⟨rfl, rfl⟩
abbrev rmX8_crew : Room := { frames := 5, cells := 0, slots := 0, locals := 123 }
def fX8_crew_L42 (N : Nat) (x1 : Int32) (x2 : Int32) (x3 : Int32) (va0_row : Nat → Int32) : Nat → Int32 → Int32 → Int32 → Option (Int32 × Int32 × Int32)
  | 0, _, _, _ => none
  | n + 1, x4, x5, x6 =>
    bnd (fX8_everybody N va0_row) fun o10 =>
    if o10 < x6 then
    some (x4, x5, x6)
    else
    bnd (fX8_bits N x6) fun o13 =>
    if o13 = x2 then
    ixb (20 + x1) 525 fun κ19 =>
    bnd (fX8_rockWith N va0_row x1 (va0_row κ19) x6) fun o20 =>
    if o20 ≤ x5 then
    if o20 ≤ x5 then
    fX8_crew_L42 N x1 x2 x3 va0_row n x4 x5 (x6 + 1)
    else
    fX8_crew_L42 N x1 x2 x3 va0_row n x4 o20 (x6 + 1)
    else
    if o20 ≤ x5 then
    fX8_crew_L42 N x1 x2 x3 va0_row n x6 x5 (x6 + 1)
    else
    fX8_crew_L42 N x1 x2 x3 va0_row n x6 o20 (x6 + 1)
    else
    if (-1) ≤ x5 then
    if (-1) ≤ x5 then
    fX8_crew_L42 N x1 x2 x3 va0_row n x4 x5 (x6 + 1)
    else
    fX8_crew_L42 N x1 x2 x3 va0_row n x4 (-1) (x6 + 1)
    else
    if (-1) ≤ x5 then
    fX8_crew_L42 N x1 x2 x3 va0_row n x6 x5 (x6 + 1)
    else
    fX8_crew_L42 N x1 x2 x3 va0_row n x6 (-1) (x6 + 1)
set_option maxHeartbeats 4000000 in
set_option maxRecDepth 100000 in
theorem wX8_crew_L42 {E : Ev} {K : KX} (k : OKX E K cX8_crew RX8 8 rmX8_crew) (N : Nat) (a0 : Nat) (a0_row : Nat) (a0_lanes : Nat) (a0_sizes : Nat) (a0_items : Nat) (a0_tape : Nat) (a0_readIce : Nat) (a0_readPeople : Nat) (a0_readSayings : Nat) (a0_line : Nat) (a0_bestLine : Nat) (a0_seen : Nat) (a0_held : Nat) (x1 : Int32) (x2 : Int32) (x3 : Int32) (va0_row : Nat → Int32) (va0_isKept : Int32) (va0_length : Int32) (va0_at : Int32) (va0_number : Int32) (va0_readCells : Int32) (va0_readMany : Int32) (va0_readSaid : Int32) (va0_bestFar : Int32) (va0_bestIce : Int32) : ∀ (n : Nat) (x4 : Int32) (x5 : Int32) (x6 : Int32) (o : Int32 × Int32 × Int32), fX8_crew_L42 N x1 x2 x3 va0_row n x4 x5 x6 = some o → G E K 8 0 0 [(0, .ref a0), (1, .int x1), (2, .int x2), (3, .int x3), (4, .int o.1), (5, .int o.2.1), (6, .int o.2.2)] [] [(a0, oB 8 [.ref a0_row, .int va0_isKept, .ref a0_lanes, .ref a0_sizes, .ref a0_items, .ref a0_tape, .int va0_length, .int va0_at, .int va0_number, .ref a0_readIce, .int va0_readCells, .ref a0_readPeople, .int va0_readMany, .ref a0_readSayings, .int va0_readSaid, .ref a0_line, .ref a0_bestLine, .int va0_bestFar, .int va0_bestIce, .ref a0_seen, .ref a0_held]), (a0_row, aI E 525 va0_row)] 120 → G E K 8 0 0 [(0, .ref a0), (1, .int x1), (2, .int x2), (3, .int x3), (4, .int x4), (5, .int x5), (6, .int x6)] [] [(a0, oB 8 [.ref a0_row, .int va0_isKept, .ref a0_lanes, .ref a0_sizes, .ref a0_items, .ref a0_tape, .int va0_length, .int va0_at, .int va0_number, .ref a0_readIce, .int va0_readCells, .ref a0_readPeople, .int va0_readMany, .ref a0_readSayings, .int va0_readSaid, .ref a0_line, .ref a0_bestLine, .int va0_bestFar, .int va0_bestIce, .ref a0_seen, .ref a0_held]), (a0_row, aI E 525 va0_row)] 42 := by
  intro n
  induction n with
  | zero => intro x4 x5 x6 o hf; cases hf
  | succ n ih =>
    intro x4 x5 x6 o hf hG
    rw [fX8_crew_L42] at hf
    refine g_iload k 6 dX8_crew_42 rfl ?_
    refine g_aload_n k 0 dX8_crew_44 rfl rfl ?_
    obtain ⟨o10, ho11, hf⟩ := bnd_some hf
    refine g_cv k miX8_everybody mvX8_everybody (ctX8_everybody (kL K) E N a0 a0_row a0_lanes a0_sizes a0_items a0_tape a0_readIce a0_readPeople a0_readSayings a0_line a0_bestLine a0_seen a0_held va0_isKept va0_length va0_at va0_number va0_readCells va0_readMany va0_readSaid va0_bestFar va0_bestIce va0_row  o10 ho11) [0, 1] 0 (ws' := [(a0, oB 8 [.ref a0_row, .int va0_isKept, .ref a0_lanes, .ref a0_sizes, .ref a0_items, .ref a0_tape, .int va0_length, .int va0_at, .int va0_number, .ref a0_readIce, .int va0_readCells, .ref a0_readPeople, .int va0_readMany, .ref a0_readSayings, .int va0_readSaid, .ref a0_line, .ref a0_bestLine, .int va0_bestFar, .int va0_bestIce, .ref a0_seen, .ref a0_held]), (a0_row, aI E 525 va0_row)]) dX8_crew_45 lkX8_67 rfl ⟨rfl, rfl⟩ ⟨by decide, by decide⟩ rfl rfl rfl rfl (Nat.le_of_ble_eq_true rfl) rfl rfl rfl ?_
    refine g_st (st' := [.int o10, .int x6]) rfl ?_
    refine g_icmp_gt k (tgt := 120) dX8_crew_48 (by decide) (fun c12 => ?_) (fun c12 => ?_)
    · replace hf := ite_t c12 hf
      refine g_lv [0, 1, 2, 3, 4, 5, 6] rfl ?_
      obtain rfl := Option.some.inj hf
      exact hG
    · replace hf := ite_f c12 hf
      refine g_iload k 6 dX8_crew_51 rfl ?_
      obtain ⟨o13, ho14, hf⟩ := bnd_some hf
      refine g_cs k miX8_bits msX8_bits (ctX8_bits (kL K) E N   x6 o13 ho14) [] (ws' := [(a0, oB 8 [.ref a0_row, .int va0_isKept, .ref a0_lanes, .ref a0_sizes, .ref a0_items, .ref a0_tape, .int va0_length, .int va0_at, .int va0_number, .ref a0_readIce, .int va0_readCells, .ref a0_readPeople, .int va0_readMany, .ref a0_readSayings, .int va0_readSaid, .ref a0_line, .ref a0_bestLine, .int va0_bestFar, .int va0_bestIce, .ref a0_seen, .ref a0_held]), (a0_row, aI E 525 va0_row)]) dX8_crew_53 lkX8_78 rfl ⟨rfl, rfl⟩ ⟨by decide, by decide⟩ rfl rfl rfl (Nat.le_of_ble_eq_true rfl) rfl rfl rfl ?_
      refine g_st (st' := [.int o13]) rfl ?_
      refine g_iload_n k 2 dX8_crew_56 rfl rfl ?_
      refine g_icmp_ne k (tgt := 79) dX8_crew_57 (by decide) (fun c15 => ?_) (fun c15 => ?_)
      · replace hf := ite_f c15 hf
        refine g_iconst k dX8_crew_79 ic_m1 ?_
        refine g_istore k (lv' := [(7, .int (-1)), (0, .ref a0), (1, .int x1), (2, .int x2), (3, .int x3), (4, .int x4), (5, .int x5), (6, .int x6)]) dX8_crew_80 (by decide) rfl ?_
        refine g_iload k 0 dX8_crew_82 rfl ?_
        refine g_iload k 6 dX8_crew_84 rfl ?_
        refine g_icmp_le k (tgt := 94) dX8_crew_86 (by decide) (fun c16 => ?_) (fun c16 => ?_)
        · replace hf := ite_t c16 hf
          refine g_iload k 5 dX8_crew_94 rfl ?_
          refine g_istore k (lv' := [(4, .int x4), (7, .int (-1)), (0, .ref a0), (1, .int x1), (2, .int x2), (3, .int x3), (5, .int x5), (6, .int x6)]) dX8_crew_96 (by decide) rfl ?_
          refine g_iload k 1 dX8_crew_98 rfl ?_
          refine g_iload k 6 dX8_crew_100 rfl ?_
          refine g_icmp_le k (tgt := 110) dX8_crew_102 (by decide) (fun c17 => ?_) (fun c17 => ?_)
          · replace hf := ite_t c17 hf
            refine g_iload k 6 dX8_crew_110 rfl ?_
            refine g_istore k (lv' := [(5, .int x5), (4, .int x4), (7, .int (-1)), (0, .ref a0), (1, .int x1), (2, .int x2), (3, .int x3), (6, .int x6)]) dX8_crew_112 (by decide) rfl ?_
            refine g_iinc k (lv' := [(6, .int (x6 + 1)), (5, .int x5), (4, .int x4), (7, .int (-1)), (0, .ref a0), (1, .int x1), (2, .int x2), (3, .int x3)]) 7 dX8_crew_114 rfl (ii_1 _) (by decide) rfl ?_
            refine g_goto k (tgt := 42) dX8_crew_117 (by decide) ?_
            refine g_lv [4, 5, 6, 7, 2, 1, 0] rfl ?_
            exact ih x4 x5 (x6 + 1) o hf hG
          · replace hf := ite_f c17 hf
            refine g_iload k 1 dX8_crew_105 rfl ?_
            refine g_goto k (tgt := 112) dX8_crew_107 (by decide) ?_
            refine g_istore k (lv' := [(5, .int (-1)), (4, .int x4), (7, .int (-1)), (0, .ref a0), (1, .int x1), (2, .int x2), (3, .int x3), (6, .int x6)]) dX8_crew_112 (by decide) rfl ?_
            refine g_iinc k (lv' := [(6, .int (x6 + 1)), (5, .int (-1)), (4, .int x4), (7, .int (-1)), (0, .ref a0), (1, .int x1), (2, .int x2), (3, .int x3)]) 7 dX8_crew_114 rfl (ii_1 _) (by decide) rfl ?_
            refine g_goto k (tgt := 42) dX8_crew_117 (by decide) ?_
            refine g_lv [4, 5, 6, 7, 2, 1, 0] rfl ?_
            exact ih x4 (-1) (x6 + 1) o hf hG
        · replace hf := ite_f c16 hf
          refine g_iload k 7 dX8_crew_89 rfl ?_
          refine g_goto k (tgt := 96) dX8_crew_91 (by decide) ?_
          refine g_istore k (lv' := [(4, .int x6), (7, .int (-1)), (0, .ref a0), (1, .int x1), (2, .int x2), (3, .int x3), (5, .int x5), (6, .int x6)]) dX8_crew_96 (by decide) rfl ?_
          refine g_iload k 1 dX8_crew_98 rfl ?_
          refine g_iload k 6 dX8_crew_100 rfl ?_
          refine g_icmp_le k (tgt := 110) dX8_crew_102 (by decide) (fun c18 => ?_) (fun c18 => ?_)
          · replace hf := ite_t c18 hf
            refine g_iload k 6 dX8_crew_110 rfl ?_
            refine g_istore k (lv' := [(5, .int x5), (4, .int x6), (7, .int (-1)), (0, .ref a0), (1, .int x1), (2, .int x2), (3, .int x3), (6, .int x6)]) dX8_crew_112 (by decide) rfl ?_
            refine g_iinc k (lv' := [(6, .int (x6 + 1)), (5, .int x5), (4, .int x6), (7, .int (-1)), (0, .ref a0), (1, .int x1), (2, .int x2), (3, .int x3)]) 7 dX8_crew_114 rfl (ii_1 _) (by decide) rfl ?_
            refine g_goto k (tgt := 42) dX8_crew_117 (by decide) ?_
            refine g_lv [4, 5, 6, 7, 2, 1, 0] rfl ?_
            exact ih x6 x5 (x6 + 1) o hf hG
          · replace hf := ite_f c18 hf
            refine g_iload k 1 dX8_crew_105 rfl ?_
            refine g_goto k (tgt := 112) dX8_crew_107 (by decide) ?_
            refine g_istore k (lv' := [(5, .int (-1)), (4, .int x6), (7, .int (-1)), (0, .ref a0), (1, .int x1), (2, .int x2), (3, .int x3), (6, .int x6)]) dX8_crew_112 (by decide) rfl ?_
            refine g_iinc k (lv' := [(6, .int (x6 + 1)), (5, .int (-1)), (4, .int x6), (7, .int (-1)), (0, .ref a0), (1, .int x1), (2, .int x2), (3, .int x3)]) 7 dX8_crew_114 rfl (ii_1 _) (by decide) rfl ?_
            refine g_goto k (tgt := 42) dX8_crew_117 (by decide) ?_
            refine g_lv [4, 5, 6, 7, 2, 1, 0] rfl ?_
            exact ih x6 (-1) (x6 + 1) o hf hG
      · replace hf := ite_t c15 hf
        refine g_aload_n k 0 dX8_crew_60 rfl rfl ?_
        refine g_iload_n k 1 dX8_crew_61 rfl rfl ?_
        refine g_aload_n k 0 dX8_crew_62 rfl rfl ?_
        refine g_get k cfX8 0 0 dX8_crew_63 lkX8_7 (by decide) rfl rfl ?_
        refine g_bipush k dX8_crew_66 bi_20 ?_
        refine g_iload_n k 1 dX8_crew_68 rfl rfl ?_
        refine g_iadd k dX8_crew_69 ?_
        obtain ⟨κ19, hκ19, hiκ19, heκ19, hf⟩ := ixb_some hf
        refine g_iaload k 1 dX8_crew_70 rfl hiκ19 heκ19 ?_
        refine g_iload k 6 dX8_crew_71 rfl ?_
        obtain ⟨o20, ho21, hf⟩ := bnd_some hf
        refine g_cv k miX8_rockWith mvX8_rockWith (ctX8_rockWith (kL K) E N a0 a0_row a0_lanes a0_sizes a0_items a0_tape a0_readIce a0_readPeople a0_readSayings a0_line a0_bestLine a0_seen a0_held va0_isKept va0_length va0_at va0_number va0_readCells va0_readMany va0_readSaid va0_bestFar va0_bestIce va0_row x1 (va0_row κ19) x6 o20 ho21) [0, 1] 0 (ws' := [(a0, oB 8 [.ref a0_row, .int va0_isKept, .ref a0_lanes, .ref a0_sizes, .ref a0_items, .ref a0_tape, .int va0_length, .int va0_at, .int va0_number, .ref a0_readIce, .int va0_readCells, .ref a0_readPeople, .int va0_readMany, .ref a0_readSayings, .int va0_readSaid, .ref a0_line, .ref a0_bestLine, .int va0_bestFar, .int va0_bestIce, .ref a0_seen, .ref a0_held]), (a0_row, aI E 525 va0_row)]) dX8_crew_73 lkX8_228 rfl ⟨rfl, rfl⟩ ⟨by decide, by decide⟩ rfl rfl rfl rfl (Nat.le_of_ble_eq_true rfl) rfl rfl rfl ?_
        refine g_st (st' := [.int o20]) rfl ?_
        refine g_goto k (tgt := 80) dX8_crew_76 (by decide) ?_
        refine g_istore k (lv' := [(7, .int o20), (0, .ref a0), (1, .int x1), (2, .int x2), (3, .int x3), (4, .int x4), (5, .int x5), (6, .int x6)]) dX8_crew_80 (by decide) rfl ?_
        refine g_iload k 0 dX8_crew_82 rfl ?_
        refine g_iload k 6 dX8_crew_84 rfl ?_
        refine g_icmp_le k (tgt := 94) dX8_crew_86 (by decide) (fun c22 => ?_) (fun c22 => ?_)
        · replace hf := ite_t c22 hf
          refine g_iload k 5 dX8_crew_94 rfl ?_
          refine g_istore k (lv' := [(4, .int x4), (7, .int o20), (0, .ref a0), (1, .int x1), (2, .int x2), (3, .int x3), (5, .int x5), (6, .int x6)]) dX8_crew_96 (by decide) rfl ?_
          refine g_iload k 1 dX8_crew_98 rfl ?_
          refine g_iload k 6 dX8_crew_100 rfl ?_
          refine g_icmp_le k (tgt := 110) dX8_crew_102 (by decide) (fun c23 => ?_) (fun c23 => ?_)
          · replace hf := ite_t c23 hf
            refine g_iload k 6 dX8_crew_110 rfl ?_
            refine g_istore k (lv' := [(5, .int x5), (4, .int x4), (7, .int o20), (0, .ref a0), (1, .int x1), (2, .int x2), (3, .int x3), (6, .int x6)]) dX8_crew_112 (by decide) rfl ?_
            refine g_iinc k (lv' := [(6, .int (x6 + 1)), (5, .int x5), (4, .int x4), (7, .int o20), (0, .ref a0), (1, .int x1), (2, .int x2), (3, .int x3)]) 7 dX8_crew_114 rfl (ii_1 _) (by decide) rfl ?_
            refine g_goto k (tgt := 42) dX8_crew_117 (by decide) ?_
            refine g_lv [4, 5, 6, 7, 2, 1, 0] rfl ?_
            exact ih x4 x5 (x6 + 1) o hf hG
          · replace hf := ite_f c23 hf
            refine g_iload k 1 dX8_crew_105 rfl ?_
            refine g_goto k (tgt := 112) dX8_crew_107 (by decide) ?_
            refine g_istore k (lv' := [(5, .int o20), (4, .int x4), (7, .int o20), (0, .ref a0), (1, .int x1), (2, .int x2), (3, .int x3), (6, .int x6)]) dX8_crew_112 (by decide) rfl ?_
            refine g_iinc k (lv' := [(6, .int (x6 + 1)), (5, .int o20), (4, .int x4), (7, .int o20), (0, .ref a0), (1, .int x1), (2, .int x2), (3, .int x3)]) 7 dX8_crew_114 rfl (ii_1 _) (by decide) rfl ?_
            refine g_goto k (tgt := 42) dX8_crew_117 (by decide) ?_
            refine g_lv [4, 5, 6, 7, 2, 1, 0] rfl ?_
            exact ih x4 o20 (x6 + 1) o hf hG
        · replace hf := ite_f c22 hf
          refine g_iload k 7 dX8_crew_89 rfl ?_
          refine g_goto k (tgt := 96) dX8_crew_91 (by decide) ?_
          refine g_istore k (lv' := [(4, .int x6), (7, .int o20), (0, .ref a0), (1, .int x1), (2, .int x2), (3, .int x3), (5, .int x5), (6, .int x6)]) dX8_crew_96 (by decide) rfl ?_
          refine g_iload k 1 dX8_crew_98 rfl ?_
          refine g_iload k 6 dX8_crew_100 rfl ?_
          refine g_icmp_le k (tgt := 110) dX8_crew_102 (by decide) (fun c24 => ?_) (fun c24 => ?_)
          · replace hf := ite_t c24 hf
            refine g_iload k 6 dX8_crew_110 rfl ?_
            refine g_istore k (lv' := [(5, .int x5), (4, .int x6), (7, .int o20), (0, .ref a0), (1, .int x1), (2, .int x2), (3, .int x3), (6, .int x6)]) dX8_crew_112 (by decide) rfl ?_
            refine g_iinc k (lv' := [(6, .int (x6 + 1)), (5, .int x5), (4, .int x6), (7, .int o20), (0, .ref a0), (1, .int x1), (2, .int x2), (3, .int x3)]) 7 dX8_crew_114 rfl (ii_1 _) (by decide) rfl ?_
            refine g_goto k (tgt := 42) dX8_crew_117 (by decide) ?_
            refine g_lv [4, 5, 6, 7, 2, 1, 0] rfl ?_
            exact ih x6 x5 (x6 + 1) o hf hG
          · replace hf := ite_f c24 hf
            refine g_iload k 1 dX8_crew_105 rfl ?_
            refine g_goto k (tgt := 112) dX8_crew_107 (by decide) ?_
            refine g_istore k (lv' := [(5, .int o20), (4, .int x6), (7, .int o20), (0, .ref a0), (1, .int x1), (2, .int x2), (3, .int x3), (6, .int x6)]) dX8_crew_112 (by decide) rfl ?_
            refine g_iinc k (lv' := [(6, .int (x6 + 1)), (5, .int o20), (4, .int x6), (7, .int o20), (0, .ref a0), (1, .int x1), (2, .int x2), (3, .int x3)]) 7 dX8_crew_114 rfl (ii_1 _) (by decide) rfl ?_
            refine g_goto k (tgt := 42) dX8_crew_117 (by decide) ?_
            refine g_lv [4, 5, 6, 7, 2, 1, 0] rfl ?_
            exact ih x6 o20 (x6 + 1) o hf hG
def fX8_crew (N : Nat) (va0_row : Nat → Int32) (x1 : Int32) (x2 : Int32) (x3 : Int32) : Option (Int32) :=
  bnd (fX8_isSaying N va0_row x1) fun o1 =>
  if o1 = 0 then
  some ((-1))
  else
  bnd (fX8_in N x2.toInt64 1 6) fun o4 =>
  if o4 = 0 then
  some ((-1))
  else
  bnd (fX8_in N x3.toInt64 0 1) fun o7 =>
  if o7 = 0 then
  some ((-1))
  else
  bnd (fX8_crew_L42 N x1 x2 x3 va0_row N (-4) (-1) 0) fun o25 =>
  if o25.1 = (-4) then
  some (o25.1)
  else
  if x3 = 1 then
  some (o25.1)
  else
  some (o25.2.1)
set_option maxHeartbeats 4000000 in
set_option maxRecDepth 100000 in
theorem ctX8_crew (l : Launch) (E : Ev) (N : Nat) (a0 : Nat) (a0_row : Nat) (a0_lanes : Nat) (a0_sizes : Nat) (a0_items : Nat) (a0_tape : Nat) (a0_readIce : Nat) (a0_readPeople : Nat) (a0_readSayings : Nat) (a0_line : Nat) (a0_bestLine : Nat) (a0_seen : Nat) (a0_held : Nat) (va0_isKept : Int32) (va0_length : Int32) (va0_at : Int32) (va0_number : Int32) (va0_readCells : Int32) (va0_readMany : Int32) (va0_readSaid : Int32) (va0_bestFar : Int32) (va0_bestIce : Int32) (va0_row : Nat → Int32) (x1 : Int32) (x2 : Int32) (x3 : Int32) (out : Int32) (hf : fX8_crew N va0_row x1 x2 x3 = some out) : Ct l E yX8_crew cX8_crew 8 (some .int) rmX8_crew [.ref a0, .int x1, .int x2, .int x3] [(a0, oB 8 [.ref a0_row, .int va0_isKept, .ref a0_lanes, .ref a0_sizes, .ref a0_items, .ref a0_tape, .int va0_length, .int va0_at, .int va0_number, .ref a0_readIce, .int va0_readCells, .ref a0_readPeople, .int va0_readMany, .ref a0_readSayings, .int va0_readSaid, .ref a0_line, .ref a0_bestLine, .int va0_bestFar, .int va0_bestIce, .ref a0_seen, .ref a0_held]), (a0_row, aI E 525 va0_row)] (Pe (some (.int out)) [(a0, oB 8 [.ref a0_row, .int va0_isKept, .ref a0_lanes, .ref a0_sizes, .ref a0_items, .ref a0_tape, .int va0_length, .int va0_at, .int va0_number, .ref a0_readIce, .int va0_readCells, .ref a0_readPeople, .int va0_readMany, .ref a0_readSayings, .int va0_readSaid, .ref a0_line, .ref a0_bestLine, .int va0_bestFar, .int va0_bestIce, .ref a0_seen, .ref a0_held]), (a0_row, aI E 525 va0_row)]) := by
  refine Ct.of rfl (Nat.le_of_ble_eq_true rfl) (fun K hL k r hin => ?_)
  subst hL
  unfold fX8_crew at hf
  show G E K 8 0 0 [(0, .ref a0), (1, .int x1), (2, .int x2), (3, .int x3)] [] [(a0, oB 8 [.ref a0_row, .int va0_isKept, .ref a0_lanes, .ref a0_sizes, .ref a0_items, .ref a0_tape, .int va0_length, .int va0_at, .int va0_number, .ref a0_readIce, .int va0_readCells, .ref a0_readPeople, .int va0_readMany, .ref a0_readSayings, .int va0_readSaid, .ref a0_line, .ref a0_bestLine, .int va0_bestFar, .int va0_bestIce, .ref a0_seen, .ref a0_held]), (a0_row, aI E 525 va0_row)] 0
  refine g_aload_n k 0 dX8_crew_0 rfl rfl ?_
  refine g_iload_n k 1 dX8_crew_1 rfl rfl ?_
  obtain ⟨o1, ho2, hf⟩ := bnd_some hf
  refine g_cv k miX8_isSaying mvX8_isSaying (ctX8_isSaying (kL K) E N a0 a0_row a0_lanes a0_sizes a0_items a0_tape a0_readIce a0_readPeople a0_readSayings a0_line a0_bestLine a0_seen a0_held va0_isKept va0_length va0_at va0_number va0_readCells va0_readMany va0_readSaid va0_bestFar va0_bestIce va0_row x1 o1 ho2) [0, 1] 0 (ws' := [(a0, oB 8 [.ref a0_row, .int va0_isKept, .ref a0_lanes, .ref a0_sizes, .ref a0_items, .ref a0_tape, .int va0_length, .int va0_at, .int va0_number, .ref a0_readIce, .int va0_readCells, .ref a0_readPeople, .int va0_readMany, .ref a0_readSayings, .int va0_readSaid, .ref a0_line, .ref a0_bestLine, .int va0_bestFar, .int va0_bestIce, .ref a0_seen, .ref a0_held]), (a0_row, aI E 525 va0_row)]) dX8_crew_2 lkX8_100 rfl ⟨rfl, rfl⟩ ⟨by decide, by decide⟩ rfl rfl rfl rfl (Nat.le_of_ble_eq_true rfl) rfl rfl rfl ?_
  refine g_st (st' := [.int o1]) rfl ?_
  refine g_if_eq k (tgt := 30) dX8_crew_5 (by decide) (fun c3 => ?_) (fun c3 => ?_)
  · replace hf := ite_t c3 hf
    refine g_iconst k dX8_crew_30 ic_m1 ?_
    obtain rfl := Option.some.inj hf
    exact g_iret k r dX8_crew_31 ⟨rfl, rfl⟩
  · replace hf := ite_f c3 hf
    refine g_iload_n k 2 dX8_crew_8 rfl rfl ?_
    refine g_i2l k dX8_crew_9 ?_
    refine g_lconst k dX8_crew_10 lc_1 ?_
    refine g_ldc2 k dX8_crew_11 lkX8_226 ?_
    obtain ⟨o4, ho5, hf⟩ := bnd_some hf
    refine g_cs k miX8_in msX8_in (ctX8_in (kL K) E N   x2.toInt64 1 6 o4 ho5) [] (ws' := [(a0, oB 8 [.ref a0_row, .int va0_isKept, .ref a0_lanes, .ref a0_sizes, .ref a0_items, .ref a0_tape, .int va0_length, .int va0_at, .int va0_number, .ref a0_readIce, .int va0_readCells, .ref a0_readPeople, .int va0_readMany, .ref a0_readSayings, .int va0_readSaid, .ref a0_line, .ref a0_bestLine, .int va0_bestFar, .int va0_bestIce, .ref a0_seen, .ref a0_held]), (a0_row, aI E 525 va0_row)]) dX8_crew_14 lkX8_47 rfl ⟨rfl, rfl⟩ ⟨by decide, by decide⟩ rfl rfl rfl (Nat.le_of_ble_eq_true rfl) rfl rfl rfl ?_
    refine g_st (st' := [.int o4]) rfl ?_
    refine g_if_eq k (tgt := 30) dX8_crew_17 (by decide) (fun c6 => ?_) (fun c6 => ?_)
    · replace hf := ite_t c6 hf
      refine g_iconst k dX8_crew_30 ic_m1 ?_
      obtain rfl := Option.some.inj hf
      exact g_iret k r dX8_crew_31 ⟨rfl, rfl⟩
    · replace hf := ite_f c6 hf
      refine g_iload_n k 3 dX8_crew_20 rfl rfl ?_
      refine g_i2l k dX8_crew_21 ?_
      refine g_lconst k dX8_crew_22 lc_0 ?_
      refine g_lconst k dX8_crew_23 lc_1 ?_
      obtain ⟨o7, ho8, hf⟩ := bnd_some hf
      refine g_cs k miX8_in msX8_in (ctX8_in (kL K) E N   x3.toInt64 0 1 o7 ho8) [] (ws' := [(a0, oB 8 [.ref a0_row, .int va0_isKept, .ref a0_lanes, .ref a0_sizes, .ref a0_items, .ref a0_tape, .int va0_length, .int va0_at, .int va0_number, .ref a0_readIce, .int va0_readCells, .ref a0_readPeople, .int va0_readMany, .ref a0_readSayings, .int va0_readSaid, .ref a0_line, .ref a0_bestLine, .int va0_bestFar, .int va0_bestIce, .ref a0_seen, .ref a0_held]), (a0_row, aI E 525 va0_row)]) dX8_crew_24 lkX8_47 rfl ⟨rfl, rfl⟩ ⟨by decide, by decide⟩ rfl rfl rfl (Nat.le_of_ble_eq_true rfl) rfl rfl rfl ?_
      refine g_st (st' := [.int o7]) rfl ?_
      refine g_if_ne k (tgt := 32) dX8_crew_27 (by decide) (fun c9 => ?_) (fun c9 => ?_)
      · replace hf := ite_f c9 hf
        refine g_bipush k dX8_crew_32 bi_m4 ?_
        refine g_istore k (lv' := [(4, .int (-4)), (0, .ref a0), (1, .int x1), (2, .int x2), (3, .int x3)]) dX8_crew_34 (by decide) rfl ?_
        refine g_iconst k dX8_crew_36 ic_m1 ?_
        refine g_istore k (lv' := [(5, .int (-1)), (4, .int (-4)), (0, .ref a0), (1, .int x1), (2, .int x2), (3, .int x3)]) dX8_crew_37 (by decide) rfl ?_
        refine g_iconst k dX8_crew_39 ic_0 ?_
        refine g_istore k (lv' := [(6, .int 0), (5, .int (-1)), (4, .int (-4)), (0, .ref a0), (1, .int x1), (2, .int x2), (3, .int x3)]) dX8_crew_40 (by decide) rfl ?_
        obtain ⟨o25, ho26, hf⟩ := bnd_some hf
        refine g_lv [3, 4, 5, 6, 2, 1, 0] (lv' := [(0, .ref a0), (1, .int x1), (2, .int x2), (3, .int x3), (4, .int (-4)), (5, .int (-1)), (6, .int 0)]) rfl ?_
        refine wX8_crew_L42 k N a0 a0_row a0_lanes a0_sizes a0_items a0_tape a0_readIce a0_readPeople a0_readSayings a0_line a0_bestLine a0_seen a0_held  x1 x2 x3 va0_row va0_isKept va0_length va0_at va0_number va0_readCells va0_readMany va0_readSaid va0_bestFar va0_bestIce N (-4) (-1) 0 o25 ho26 ?_
        refine g_iload k 4 dX8_crew_120 rfl ?_
        refine g_bipush k dX8_crew_122 bi_m4 ?_
        refine g_icmp_eq k (tgt := 132) dX8_crew_124 (by decide) (fun c27 => ?_) (fun c27 => ?_)
        · replace hf := ite_t c27 hf
          refine g_iload k 4 dX8_crew_132 rfl ?_
          refine g_goto k (tgt := 139) dX8_crew_134 (by decide) ?_
          obtain rfl := Option.some.inj hf
          exact g_iret k r dX8_crew_139 ⟨rfl, rfl⟩
        · replace hf := ite_f c27 hf
          refine g_iload_n k 3 dX8_crew_127 rfl rfl ?_
          refine g_iconst k dX8_crew_128 ic_1 ?_
          refine g_icmp_ne k (tgt := 137) dX8_crew_129 (by decide) (fun c28 => ?_) (fun c28 => ?_)
          · replace hf := ite_f c28 hf
            refine g_iload k 5 dX8_crew_137 rfl ?_
            obtain rfl := Option.some.inj hf
            exact g_iret k r dX8_crew_139 ⟨rfl, rfl⟩
          · replace hf := ite_t c28 hf
            refine g_iload k 4 dX8_crew_132 rfl ?_
            refine g_goto k (tgt := 139) dX8_crew_134 (by decide) ?_
            obtain rfl := Option.some.inj hf
            exact g_iret k r dX8_crew_139 ⟨rfl, rfl⟩
      · replace hf := ite_t c9 hf
        refine g_iconst k dX8_crew_30 ic_m1 ?_
        obtain rfl := Option.some.inj hf
        exact g_iret k r dX8_crew_31 ⟨rfl, rfl⟩
abbrev rmX8_minds : Room := { frames := 5, cells := 0, slots := 0, locals := 123 }
def fX8_minds_L34 (N : Nat) (x1 : Int32) (x2 : Int32) (va0_row : Nat → Int32) : Nat → Int32 → Int32 → Int32 → Option (Int32 × Int32 × Int32)
  | 0, _, _, _ => none
  | n + 1, x3, x4, x5 =>
    if (va0_row 27) ≤ x5 then
    some (x3, x4, x5)
    else
    ixb (20 + x1) 525 fun κ10 =>
    bnd (fX8_everybody N va0_row) fun o11 =>
    bnd (fX8_rockWith N va0_row x1 ((va0_row κ10) ^^^ (1 <<< (x5 &&& 31))) o11) fun o13 =>
    if o13 ≤ x4 then
    if o13 ≤ x4 then
    fX8_minds_L34 N x1 x2 va0_row n x3 x4 (x5 + 1)
    else
    fX8_minds_L34 N x1 x2 va0_row n x3 o13 (x5 + 1)
    else
    if o13 ≤ x4 then
    fX8_minds_L34 N x1 x2 va0_row n x5 x4 (x5 + 1)
    else
    fX8_minds_L34 N x1 x2 va0_row n x5 o13 (x5 + 1)
set_option maxHeartbeats 4000000 in
set_option maxRecDepth 100000 in
theorem wX8_minds_L34 {E : Ev} {K : KX} (k : OKX E K cX8_minds RX8 7 rmX8_minds) (N : Nat) (a0 : Nat) (a0_row : Nat) (a0_lanes : Nat) (a0_sizes : Nat) (a0_items : Nat) (a0_tape : Nat) (a0_readIce : Nat) (a0_readPeople : Nat) (a0_readSayings : Nat) (a0_line : Nat) (a0_bestLine : Nat) (a0_seen : Nat) (a0_held : Nat) (x1 : Int32) (x2 : Int32) (va0_row : Nat → Int32) (va0_isKept : Int32) (va0_length : Int32) (va0_at : Int32) (va0_number : Int32) (va0_readCells : Int32) (va0_readMany : Int32) (va0_readSaid : Int32) (va0_bestFar : Int32) (va0_bestIce : Int32) : ∀ (n : Nat) (x3 : Int32) (x4 : Int32) (x5 : Int32) (o : Int32 × Int32 × Int32), fX8_minds_L34 N x1 x2 va0_row n x3 x4 x5 = some o → G E K 7 0 0 [(0, .ref a0), (1, .int x1), (2, .int x2), (3, .int o.1), (4, .int o.2.1), (5, .int o.2.2)] [] [(a0, oB 8 [.ref a0_row, .int va0_isKept, .ref a0_lanes, .ref a0_sizes, .ref a0_items, .ref a0_tape, .int va0_length, .int va0_at, .int va0_number, .ref a0_readIce, .int va0_readCells, .ref a0_readPeople, .int va0_readMany, .ref a0_readSayings, .int va0_readSaid, .ref a0_line, .ref a0_bestLine, .int va0_bestFar, .int va0_bestIce, .ref a0_seen, .ref a0_held]), (a0_row, aI E 525 va0_row)] 107 → G E K 7 0 0 [(0, .ref a0), (1, .int x1), (2, .int x2), (3, .int x3), (4, .int x4), (5, .int x5)] [] [(a0, oB 8 [.ref a0_row, .int va0_isKept, .ref a0_lanes, .ref a0_sizes, .ref a0_items, .ref a0_tape, .int va0_length, .int va0_at, .int va0_number, .ref a0_readIce, .int va0_readCells, .ref a0_readPeople, .int va0_readMany, .ref a0_readSayings, .int va0_readSaid, .ref a0_line, .ref a0_bestLine, .int va0_bestFar, .int va0_bestIce, .ref a0_seen, .ref a0_held]), (a0_row, aI E 525 va0_row)] 34 := by
  intro n
  induction n with
  | zero => intro x3 x4 x5 o hf; cases hf
  | succ n ih =>
    intro x3 x4 x5 o hf hG
    rw [fX8_minds_L34] at hf
    refine g_iload k 5 dX8_minds_34 rfl ?_
    refine g_aload_n k 0 dX8_minds_36 rfl rfl ?_
    refine g_get k cfX8 0 0 dX8_minds_37 lkX8_7 (by decide) rfl rfl ?_
    refine g_bipush k dX8_minds_40 bi_27 ?_
    refine g_iaload k 1 dX8_minds_42 rfl vi_27_525 cl_27 ?_
    refine g_icmp_ge k (tgt := 107) dX8_minds_43 (by decide) (fun c9 => ?_) (fun c9 => ?_)
    · replace hf := ite_t c9 hf
      refine g_lv [0, 1, 2, 3, 4, 5] rfl ?_
      obtain rfl := Option.some.inj hf
      exact hG
    · replace hf := ite_f c9 hf
      refine g_aload_n k 0 dX8_minds_46 rfl rfl ?_
      refine g_iload_n k 1 dX8_minds_47 rfl rfl ?_
      refine g_aload_n k 0 dX8_minds_48 rfl rfl ?_
      refine g_get k cfX8 0 0 dX8_minds_49 lkX8_7 (by decide) rfl rfl ?_
      refine g_bipush k dX8_minds_52 bi_20 ?_
      refine g_iload_n k 1 dX8_minds_54 rfl rfl ?_
      refine g_iadd k dX8_minds_55 ?_
      obtain ⟨κ10, hκ10, hiκ10, heκ10, hf⟩ := ixb_some hf
      refine g_iaload k 1 dX8_minds_56 rfl hiκ10 heκ10 ?_
      refine g_iconst k dX8_minds_57 ic_1 ?_
      refine g_iload k 5 dX8_minds_58 rfl ?_
      refine g_ishl k dX8_minds_60 ?_
      refine g_ixor k dX8_minds_61 ?_
      refine g_aload_n k 0 dX8_minds_62 rfl rfl ?_
      obtain ⟨o11, ho12, hf⟩ := bnd_some hf
      refine g_cv k miX8_everybody mvX8_everybody (ctX8_everybody (kL K) E N a0 a0_row a0_lanes a0_sizes a0_items a0_tape a0_readIce a0_readPeople a0_readSayings a0_line a0_bestLine a0_seen a0_held va0_isKept va0_length va0_at va0_number va0_readCells va0_readMany va0_readSaid va0_bestFar va0_bestIce va0_row  o11 ho12) [0, 1] 0 (ws' := [(a0, oB 8 [.ref a0_row, .int va0_isKept, .ref a0_lanes, .ref a0_sizes, .ref a0_items, .ref a0_tape, .int va0_length, .int va0_at, .int va0_number, .ref a0_readIce, .int va0_readCells, .ref a0_readPeople, .int va0_readMany, .ref a0_readSayings, .int va0_readSaid, .ref a0_line, .ref a0_bestLine, .int va0_bestFar, .int va0_bestIce, .ref a0_seen, .ref a0_held]), (a0_row, aI E 525 va0_row)]) dX8_minds_63 lkX8_67 rfl ⟨rfl, rfl⟩ ⟨by decide, by decide⟩ rfl rfl rfl rfl (Nat.le_of_ble_eq_true rfl) rfl rfl rfl ?_
      refine g_st (st' := [.int o11, .int ((va0_row κ10) ^^^ (1 <<< (x5 &&& 31))), .int x1, .ref a0]) rfl ?_
      obtain ⟨o13, ho14, hf⟩ := bnd_some hf
      refine g_cv k miX8_rockWith mvX8_rockWith (ctX8_rockWith (kL K) E N a0 a0_row a0_lanes a0_sizes a0_items a0_tape a0_readIce a0_readPeople a0_readSayings a0_line a0_bestLine a0_seen a0_held va0_isKept va0_length va0_at va0_number va0_readCells va0_readMany va0_readSaid va0_bestFar va0_bestIce va0_row x1 ((va0_row κ10) ^^^ (1 <<< (x5 &&& 31))) o11 o13 ho14) [0, 1] 0 (ws' := [(a0, oB 8 [.ref a0_row, .int va0_isKept, .ref a0_lanes, .ref a0_sizes, .ref a0_items, .ref a0_tape, .int va0_length, .int va0_at, .int va0_number, .ref a0_readIce, .int va0_readCells, .ref a0_readPeople, .int va0_readMany, .ref a0_readSayings, .int va0_readSaid, .ref a0_line, .ref a0_bestLine, .int va0_bestFar, .int va0_bestIce, .ref a0_seen, .ref a0_held]), (a0_row, aI E 525 va0_row)]) dX8_minds_66 lkX8_228 rfl ⟨rfl, rfl⟩ ⟨by decide, by decide⟩ rfl rfl rfl rfl (Nat.le_of_ble_eq_true rfl) rfl rfl rfl ?_
      refine g_st (st' := [.int o13]) rfl ?_
      refine g_istore k (lv' := [(6, .int o13), (0, .ref a0), (1, .int x1), (2, .int x2), (3, .int x3), (4, .int x4), (5, .int x5)]) dX8_minds_69 (by decide) rfl ?_
      refine g_iload k 0 dX8_minds_71 rfl ?_
      refine g_iload k 5 dX8_minds_73 rfl ?_
      refine g_icmp_le k (tgt := 83) dX8_minds_75 (by decide) (fun c15 => ?_) (fun c15 => ?_)
      · replace hf := ite_t c15 hf
        refine g_iload_n k 4 dX8_minds_83 rfl rfl ?_
        refine g_istore_n k (lv' := [(3, .int x3), (6, .int o13), (0, .ref a0), (1, .int x1), (2, .int x2), (4, .int x4), (5, .int x5)]) dX8_minds_84 rfl (by decide) rfl ?_
        refine g_iload k 1 dX8_minds_85 rfl ?_
        refine g_iload k 5 dX8_minds_87 rfl ?_
        refine g_icmp_le k (tgt := 97) dX8_minds_89 (by decide) (fun c16 => ?_) (fun c16 => ?_)
        · replace hf := ite_t c16 hf
          refine g_iload k 5 dX8_minds_97 rfl ?_
          refine g_istore k (lv' := [(4, .int x4), (3, .int x3), (6, .int o13), (0, .ref a0), (1, .int x1), (2, .int x2), (5, .int x5)]) dX8_minds_99 (by decide) rfl ?_
          refine g_iinc k (lv' := [(5, .int (x5 + 1)), (4, .int x4), (3, .int x3), (6, .int o13), (0, .ref a0), (1, .int x1), (2, .int x2)]) 6 dX8_minds_101 rfl (ii_1 _) (by decide) rfl ?_
          refine g_goto k (tgt := 34) dX8_minds_104 (by decide) ?_
          refine g_lv [4, 5, 6, 2, 1, 0] rfl ?_
          exact ih x3 x4 (x5 + 1) o hf hG
        · replace hf := ite_f c16 hf
          refine g_iload k 1 dX8_minds_92 rfl ?_
          refine g_goto k (tgt := 99) dX8_minds_94 (by decide) ?_
          refine g_istore k (lv' := [(4, .int o13), (3, .int x3), (6, .int o13), (0, .ref a0), (1, .int x1), (2, .int x2), (5, .int x5)]) dX8_minds_99 (by decide) rfl ?_
          refine g_iinc k (lv' := [(5, .int (x5 + 1)), (4, .int o13), (3, .int x3), (6, .int o13), (0, .ref a0), (1, .int x1), (2, .int x2)]) 6 dX8_minds_101 rfl (ii_1 _) (by decide) rfl ?_
          refine g_goto k (tgt := 34) dX8_minds_104 (by decide) ?_
          refine g_lv [4, 5, 6, 2, 1, 0] rfl ?_
          exact ih x3 o13 (x5 + 1) o hf hG
      · replace hf := ite_f c15 hf
        refine g_iload k 6 dX8_minds_78 rfl ?_
        refine g_goto k (tgt := 84) dX8_minds_80 (by decide) ?_
        refine g_istore_n k (lv' := [(3, .int x5), (6, .int o13), (0, .ref a0), (1, .int x1), (2, .int x2), (4, .int x4), (5, .int x5)]) dX8_minds_84 rfl (by decide) rfl ?_
        refine g_iload k 1 dX8_minds_85 rfl ?_
        refine g_iload k 5 dX8_minds_87 rfl ?_
        refine g_icmp_le k (tgt := 97) dX8_minds_89 (by decide) (fun c17 => ?_) (fun c17 => ?_)
        · replace hf := ite_t c17 hf
          refine g_iload k 5 dX8_minds_97 rfl ?_
          refine g_istore k (lv' := [(4, .int x4), (3, .int x5), (6, .int o13), (0, .ref a0), (1, .int x1), (2, .int x2), (5, .int x5)]) dX8_minds_99 (by decide) rfl ?_
          refine g_iinc k (lv' := [(5, .int (x5 + 1)), (4, .int x4), (3, .int x5), (6, .int o13), (0, .ref a0), (1, .int x1), (2, .int x2)]) 6 dX8_minds_101 rfl (ii_1 _) (by decide) rfl ?_
          refine g_goto k (tgt := 34) dX8_minds_104 (by decide) ?_
          refine g_lv [4, 5, 6, 2, 1, 0] rfl ?_
          exact ih x5 x4 (x5 + 1) o hf hG
        · replace hf := ite_f c17 hf
          refine g_iload k 1 dX8_minds_92 rfl ?_
          refine g_goto k (tgt := 99) dX8_minds_94 (by decide) ?_
          refine g_istore k (lv' := [(4, .int o13), (3, .int x5), (6, .int o13), (0, .ref a0), (1, .int x1), (2, .int x2), (5, .int x5)]) dX8_minds_99 (by decide) rfl ?_
          refine g_iinc k (lv' := [(5, .int (x5 + 1)), (4, .int o13), (3, .int x5), (6, .int o13), (0, .ref a0), (1, .int x1), (2, .int x2)]) 6 dX8_minds_101 rfl (ii_1 _) (by decide) rfl ?_
          refine g_goto k (tgt := 34) dX8_minds_104 (by decide) ?_
          refine g_lv [4, 5, 6, 2, 1, 0] rfl ?_
          exact ih x5 o13 (x5 + 1) o hf hG
def fX8_minds (N : Nat) (va0_row : Nat → Int32) (x1 : Int32) (x2 : Int32) : Option (Int32) :=
  bnd (fX8_isSaying N va0_row x1) fun o1 =>
  if o1 = 0 then
  some ((-1))
  else
  bnd (fX8_in N x2.toInt64 0 1) fun o4 =>
  if o4 = 0 then
  some ((-1))
  else
  bnd (fX8_rockOf N va0_row 0 x1) fun o7 =>
  bnd (fX8_minds_L34 N x1 x2 va0_row N (-4) o7 0) fun o18 =>
  if o18.1 = (-4) then
  some (o18.1)
  else
  if x2 = 0 then
  some (o18.1)
  else
  some (o18.2.1)
set_option maxHeartbeats 4000000 in
set_option maxRecDepth 100000 in
theorem ctX8_minds (l : Launch) (E : Ev) (N : Nat) (a0 : Nat) (a0_row : Nat) (a0_lanes : Nat) (a0_sizes : Nat) (a0_items : Nat) (a0_tape : Nat) (a0_readIce : Nat) (a0_readPeople : Nat) (a0_readSayings : Nat) (a0_line : Nat) (a0_bestLine : Nat) (a0_seen : Nat) (a0_held : Nat) (va0_isKept : Int32) (va0_length : Int32) (va0_at : Int32) (va0_number : Int32) (va0_readCells : Int32) (va0_readMany : Int32) (va0_readSaid : Int32) (va0_bestFar : Int32) (va0_bestIce : Int32) (va0_row : Nat → Int32) (x1 : Int32) (x2 : Int32) (out : Int32) (hf : fX8_minds N va0_row x1 x2 = some out) : Ct l E yX8_minds cX8_minds 7 (some .int) rmX8_minds [.ref a0, .int x1, .int x2] [(a0, oB 8 [.ref a0_row, .int va0_isKept, .ref a0_lanes, .ref a0_sizes, .ref a0_items, .ref a0_tape, .int va0_length, .int va0_at, .int va0_number, .ref a0_readIce, .int va0_readCells, .ref a0_readPeople, .int va0_readMany, .ref a0_readSayings, .int va0_readSaid, .ref a0_line, .ref a0_bestLine, .int va0_bestFar, .int va0_bestIce, .ref a0_seen, .ref a0_held]), (a0_row, aI E 525 va0_row)] (Pe (some (.int out)) [(a0, oB 8 [.ref a0_row, .int va0_isKept, .ref a0_lanes, .ref a0_sizes, .ref a0_items, .ref a0_tape, .int va0_length, .int va0_at, .int va0_number, .ref a0_readIce, .int va0_readCells, .ref a0_readPeople, .int va0_readMany, .ref a0_readSayings, .int va0_readSaid, .ref a0_line, .ref a0_bestLine, .int va0_bestFar, .int va0_bestIce, .ref a0_seen, .ref a0_held]), (a0_row, aI E 525 va0_row)]) := by
  refine Ct.of rfl (Nat.le_of_ble_eq_true rfl) (fun K hL k r hin => ?_)
  subst hL
  unfold fX8_minds at hf
  show G E K 7 0 0 [(0, .ref a0), (1, .int x1), (2, .int x2)] [] [(a0, oB 8 [.ref a0_row, .int va0_isKept, .ref a0_lanes, .ref a0_sizes, .ref a0_items, .ref a0_tape, .int va0_length, .int va0_at, .int va0_number, .ref a0_readIce, .int va0_readCells, .ref a0_readPeople, .int va0_readMany, .ref a0_readSayings, .int va0_readSaid, .ref a0_line, .ref a0_bestLine, .int va0_bestFar, .int va0_bestIce, .ref a0_seen, .ref a0_held]), (a0_row, aI E 525 va0_row)] 0
  refine g_aload_n k 0 dX8_minds_0 rfl rfl ?_
  refine g_iload_n k 1 dX8_minds_1 rfl rfl ?_
  obtain ⟨o1, ho2, hf⟩ := bnd_some hf
  refine g_cv k miX8_isSaying mvX8_isSaying (ctX8_isSaying (kL K) E N a0 a0_row a0_lanes a0_sizes a0_items a0_tape a0_readIce a0_readPeople a0_readSayings a0_line a0_bestLine a0_seen a0_held va0_isKept va0_length va0_at va0_number va0_readCells va0_readMany va0_readSaid va0_bestFar va0_bestIce va0_row x1 o1 ho2) [0, 1] 0 (ws' := [(a0, oB 8 [.ref a0_row, .int va0_isKept, .ref a0_lanes, .ref a0_sizes, .ref a0_items, .ref a0_tape, .int va0_length, .int va0_at, .int va0_number, .ref a0_readIce, .int va0_readCells, .ref a0_readPeople, .int va0_readMany, .ref a0_readSayings, .int va0_readSaid, .ref a0_line, .ref a0_bestLine, .int va0_bestFar, .int va0_bestIce, .ref a0_seen, .ref a0_held]), (a0_row, aI E 525 va0_row)]) dX8_minds_2 lkX8_100 rfl ⟨rfl, rfl⟩ ⟨by decide, by decide⟩ rfl rfl rfl rfl (Nat.le_of_ble_eq_true rfl) rfl rfl rfl ?_
  refine g_st (st' := [.int o1]) rfl ?_
  refine g_if_eq k (tgt := 18) dX8_minds_5 (by decide) (fun c3 => ?_) (fun c3 => ?_)
  · replace hf := ite_t c3 hf
    refine g_iconst k dX8_minds_18 ic_m1 ?_
    obtain rfl := Option.some.inj hf
    exact g_iret k r dX8_minds_19 ⟨rfl, rfl⟩
  · replace hf := ite_f c3 hf
    refine g_iload_n k 2 dX8_minds_8 rfl rfl ?_
    refine g_i2l k dX8_minds_9 ?_
    refine g_lconst k dX8_minds_10 lc_0 ?_
    refine g_lconst k dX8_minds_11 lc_1 ?_
    obtain ⟨o4, ho5, hf⟩ := bnd_some hf
    refine g_cs k miX8_in msX8_in (ctX8_in (kL K) E N   x2.toInt64 0 1 o4 ho5) [] (ws' := [(a0, oB 8 [.ref a0_row, .int va0_isKept, .ref a0_lanes, .ref a0_sizes, .ref a0_items, .ref a0_tape, .int va0_length, .int va0_at, .int va0_number, .ref a0_readIce, .int va0_readCells, .ref a0_readPeople, .int va0_readMany, .ref a0_readSayings, .int va0_readSaid, .ref a0_line, .ref a0_bestLine, .int va0_bestFar, .int va0_bestIce, .ref a0_seen, .ref a0_held]), (a0_row, aI E 525 va0_row)]) dX8_minds_12 lkX8_47 rfl ⟨rfl, rfl⟩ ⟨by decide, by decide⟩ rfl rfl rfl (Nat.le_of_ble_eq_true rfl) rfl rfl rfl ?_
    refine g_st (st' := [.int o4]) rfl ?_
    refine g_if_ne k (tgt := 20) dX8_minds_15 (by decide) (fun c6 => ?_) (fun c6 => ?_)
    · replace hf := ite_f c6 hf
      refine g_bipush k dX8_minds_20 bi_m4 ?_
      refine g_istore_n k (lv' := [(3, .int (-4)), (0, .ref a0), (1, .int x1), (2, .int x2)]) dX8_minds_22 rfl (by decide) rfl ?_
      refine g_aload_n k 1 dX8_minds_23 rfl rfl ?_
      refine g_iconst k dX8_minds_24 ic_0 ?_
      refine g_iload_n k 2 dX8_minds_25 rfl rfl ?_
      obtain ⟨o7, ho8, hf⟩ := bnd_some hf
      refine g_cv k miX8_rockOf mvX8_rockOf (ctX8_rockOf (kL K) E N a0 a0_row a0_lanes a0_sizes a0_items a0_tape a0_readIce a0_readPeople a0_readSayings a0_line a0_bestLine a0_seen a0_held va0_isKept va0_length va0_at va0_number va0_readCells va0_readMany va0_readSaid va0_bestFar va0_bestIce va0_row 0 x1 o7 ho8) [0, 1] 0 (ws' := [(a0, oB 8 [.ref a0_row, .int va0_isKept, .ref a0_lanes, .ref a0_sizes, .ref a0_items, .ref a0_tape, .int va0_length, .int va0_at, .int va0_number, .ref a0_readIce, .int va0_readCells, .ref a0_readPeople, .int va0_readMany, .ref a0_readSayings, .int va0_readSaid, .ref a0_line, .ref a0_bestLine, .int va0_bestFar, .int va0_bestIce, .ref a0_seen, .ref a0_held]), (a0_row, aI E 525 va0_row)]) dX8_minds_26 lkX8_169 rfl ⟨rfl, rfl⟩ ⟨by decide, by decide⟩ rfl rfl rfl rfl (Nat.le_of_ble_eq_true rfl) rfl rfl rfl ?_
      refine g_st (st' := [.int o7]) rfl ?_
      refine g_istore k (lv' := [(4, .int o7), (3, .int (-4)), (0, .ref a0), (1, .int x1), (2, .int x2)]) dX8_minds_29 (by decide) rfl ?_
      refine g_iconst k dX8_minds_31 ic_0 ?_
      refine g_istore k (lv' := [(5, .int 0), (4, .int o7), (3, .int (-4)), (0, .ref a0), (1, .int x1), (2, .int x2)]) dX8_minds_32 (by decide) rfl ?_
      obtain ⟨o18, ho19, hf⟩ := bnd_some hf
      refine g_lv [3, 4, 5, 2, 1, 0] (lv' := [(0, .ref a0), (1, .int x1), (2, .int x2), (3, .int (-4)), (4, .int o7), (5, .int 0)]) rfl ?_
      refine wX8_minds_L34 k N a0 a0_row a0_lanes a0_sizes a0_items a0_tape a0_readIce a0_readPeople a0_readSayings a0_line a0_bestLine a0_seen a0_held  x1 x2 va0_row va0_isKept va0_length va0_at va0_number va0_readCells va0_readMany va0_readSaid va0_bestFar va0_bestIce N (-4) o7 0 o18 ho19 ?_
      refine g_iload_n k 3 dX8_minds_107 rfl rfl ?_
      refine g_bipush k dX8_minds_108 bi_m4 ?_
      refine g_icmp_eq k (tgt := 117) dX8_minds_110 (by decide) (fun c20 => ?_) (fun c20 => ?_)
      · replace hf := ite_t c20 hf
        refine g_iload_n k 3 dX8_minds_117 rfl rfl ?_
        refine g_goto k (tgt := 123) dX8_minds_118 (by decide) ?_
        obtain rfl := Option.some.inj hf
        exact g_iret k r dX8_minds_123 ⟨rfl, rfl⟩
      · replace hf := ite_f c20 hf
        refine g_iload_n k 2 dX8_minds_113 rfl rfl ?_
        refine g_if_ne k (tgt := 121) dX8_minds_114 (by decide) (fun c21 => ?_) (fun c21 => ?_)
        · replace hf := ite_f c21 hf
          refine g_iload k 4 dX8_minds_121 rfl ?_
          obtain rfl := Option.some.inj hf
          exact g_iret k r dX8_minds_123 ⟨rfl, rfl⟩
        · replace hf := ite_t c21 hf
          refine g_iload_n k 3 dX8_minds_117 rfl rfl ?_
          refine g_goto k (tgt := 123) dX8_minds_118 (by decide) ?_
          obtain rfl := Option.some.inj hf
          exact g_iret k r dX8_minds_123 ⟨rfl, rfl⟩
    · replace hf := ite_t c6 hf
      refine g_iconst k dX8_minds_18 ic_m1 ?_
      obtain rfl := Option.some.inj hf
      exact g_iret k r dX8_minds_19 ⟨rfl, rfl⟩
abbrev rmX8_sway : Room := { frames := 5, cells := 0, slots := 0, locals := 123 }
def fX8_sway_L39 (N : Nat) (x1 : Int32) (x2 : Int32) (x3 : Int32) (va0_row : Nat → Int32) : Nat → Int32 → Int32 → Option (Int32 × Int32)
  | 0, _, _ => none
  | n + 1, x4, x5 =>
    bnd (fX8_everybody N va0_row) fun o10 =>
    if o10 < x5 then
    some (x4, x5)
    else
    ixb (20 + x1) 525 fun κ13 =>
    bnd (fX8_everybody N va0_row) fun o14 =>
    bnd (fX8_rockWith N va0_row x1 ((va0_row κ13) ^^^ x5) o14) fun o16 =>
    if o16 < x2 then
    fX8_sway_L39 N x1 x2 x3 va0_row n x4 (x5 + 1)
    else
    if x4 = (-4) then
    fX8_sway_L39 N x1 x2 x3 va0_row n x5 (x5 + 1)
    else
    bnd (fX8_bits N x5) fun o22 =>
    bnd (fX8_bits N x4) fun o24 =>
    if o24 ≤ o22 then
    fX8_sway_L39 N x1 x2 x3 va0_row n x4 (x5 + 1)
    else
    fX8_sway_L39 N x1 x2 x3 va0_row n x5 (x5 + 1)
set_option maxHeartbeats 4000000 in
set_option maxRecDepth 100000 in
theorem wX8_sway_L39 {E : Ev} {K : KX} (k : OKX E K cX8_sway RX8 7 rmX8_sway) (N : Nat) (a0 : Nat) (a0_row : Nat) (a0_lanes : Nat) (a0_sizes : Nat) (a0_items : Nat) (a0_tape : Nat) (a0_readIce : Nat) (a0_readPeople : Nat) (a0_readSayings : Nat) (a0_line : Nat) (a0_bestLine : Nat) (a0_seen : Nat) (a0_held : Nat) (x1 : Int32) (x2 : Int32) (x3 : Int32) (va0_row : Nat → Int32) (va0_isKept : Int32) (va0_length : Int32) (va0_at : Int32) (va0_number : Int32) (va0_readCells : Int32) (va0_readMany : Int32) (va0_readSaid : Int32) (va0_bestFar : Int32) (va0_bestIce : Int32) : ∀ (n : Nat) (x4 : Int32) (x5 : Int32) (o : Int32 × Int32), fX8_sway_L39 N x1 x2 x3 va0_row n x4 x5 = some o → G E K 7 0 0 [(0, .ref a0), (1, .int x1), (2, .int x2), (3, .int x3), (4, .int o.1), (5, .int o.2)] [] [(a0, oB 8 [.ref a0_row, .int va0_isKept, .ref a0_lanes, .ref a0_sizes, .ref a0_items, .ref a0_tape, .int va0_length, .int va0_at, .int va0_number, .ref a0_readIce, .int va0_readCells, .ref a0_readPeople, .int va0_readMany, .ref a0_readSayings, .int va0_readSaid, .ref a0_line, .ref a0_bestLine, .int va0_bestFar, .int va0_bestIce, .ref a0_seen, .ref a0_held]), (a0_row, aI E 525 va0_row)] 120 → G E K 7 0 0 [(0, .ref a0), (1, .int x1), (2, .int x2), (3, .int x3), (4, .int x4), (5, .int x5)] [] [(a0, oB 8 [.ref a0_row, .int va0_isKept, .ref a0_lanes, .ref a0_sizes, .ref a0_items, .ref a0_tape, .int va0_length, .int va0_at, .int va0_number, .ref a0_readIce, .int va0_readCells, .ref a0_readPeople, .int va0_readMany, .ref a0_readSayings, .int va0_readSaid, .ref a0_line, .ref a0_bestLine, .int va0_bestFar, .int va0_bestIce, .ref a0_seen, .ref a0_held]), (a0_row, aI E 525 va0_row)] 39 := by
  intro n
  induction n with
  | zero => intro x4 x5 o hf; cases hf
  | succ n ih =>
    intro x4 x5 o hf hG
    rw [fX8_sway_L39] at hf
    refine g_iload k 5 dX8_sway_39 rfl ?_
    refine g_aload_n k 0 dX8_sway_41 rfl rfl ?_
    obtain ⟨o10, ho11, hf⟩ := bnd_some hf
    refine g_cv k miX8_everybody mvX8_everybody (ctX8_everybody (kL K) E N a0 a0_row a0_lanes a0_sizes a0_items a0_tape a0_readIce a0_readPeople a0_readSayings a0_line a0_bestLine a0_seen a0_held va0_isKept va0_length va0_at va0_number va0_readCells va0_readMany va0_readSaid va0_bestFar va0_bestIce va0_row  o10 ho11) [0, 1] 0 (ws' := [(a0, oB 8 [.ref a0_row, .int va0_isKept, .ref a0_lanes, .ref a0_sizes, .ref a0_items, .ref a0_tape, .int va0_length, .int va0_at, .int va0_number, .ref a0_readIce, .int va0_readCells, .ref a0_readPeople, .int va0_readMany, .ref a0_readSayings, .int va0_readSaid, .ref a0_line, .ref a0_bestLine, .int va0_bestFar, .int va0_bestIce, .ref a0_seen, .ref a0_held]), (a0_row, aI E 525 va0_row)]) dX8_sway_42 lkX8_67 rfl ⟨rfl, rfl⟩ ⟨by decide, by decide⟩ rfl rfl rfl rfl (Nat.le_of_ble_eq_true rfl) rfl rfl rfl ?_
    refine g_st (st' := [.int o10, .int x5]) rfl ?_
    refine g_icmp_gt k (tgt := 120) dX8_sway_45 (by decide) (fun c12 => ?_) (fun c12 => ?_)
    · replace hf := ite_t c12 hf
      refine g_lv [0, 1, 2, 3, 4, 5] rfl ?_
      obtain rfl := Option.some.inj hf
      exact hG
    · replace hf := ite_f c12 hf
      refine g_aload_n k 0 dX8_sway_48 rfl rfl ?_
      refine g_iload_n k 1 dX8_sway_49 rfl rfl ?_
      refine g_aload_n k 0 dX8_sway_50 rfl rfl ?_
      refine g_get k cfX8 0 0 dX8_sway_51 lkX8_7 (by decide) rfl rfl ?_
      refine g_bipush k dX8_sway_54 bi_20 ?_
      refine g_iload_n k 1 dX8_sway_56 rfl rfl ?_
      refine g_iadd k dX8_sway_57 ?_
      obtain ⟨κ13, hκ13, hiκ13, heκ13, hf⟩ := ixb_some hf
      refine g_iaload k 1 dX8_sway_58 rfl hiκ13 heκ13 ?_
      refine g_iload k 5 dX8_sway_59 rfl ?_
      refine g_ixor k dX8_sway_61 ?_
      refine g_aload_n k 0 dX8_sway_62 rfl rfl ?_
      obtain ⟨o14, ho15, hf⟩ := bnd_some hf
      refine g_cv k miX8_everybody mvX8_everybody (ctX8_everybody (kL K) E N a0 a0_row a0_lanes a0_sizes a0_items a0_tape a0_readIce a0_readPeople a0_readSayings a0_line a0_bestLine a0_seen a0_held va0_isKept va0_length va0_at va0_number va0_readCells va0_readMany va0_readSaid va0_bestFar va0_bestIce va0_row  o14 ho15) [0, 1] 0 (ws' := [(a0, oB 8 [.ref a0_row, .int va0_isKept, .ref a0_lanes, .ref a0_sizes, .ref a0_items, .ref a0_tape, .int va0_length, .int va0_at, .int va0_number, .ref a0_readIce, .int va0_readCells, .ref a0_readPeople, .int va0_readMany, .ref a0_readSayings, .int va0_readSaid, .ref a0_line, .ref a0_bestLine, .int va0_bestFar, .int va0_bestIce, .ref a0_seen, .ref a0_held]), (a0_row, aI E 525 va0_row)]) dX8_sway_63 lkX8_67 rfl ⟨rfl, rfl⟩ ⟨by decide, by decide⟩ rfl rfl rfl rfl (Nat.le_of_ble_eq_true rfl) rfl rfl rfl ?_
      refine g_st (st' := [.int o14, .int ((va0_row κ13) ^^^ x5), .int x1, .ref a0]) rfl ?_
      obtain ⟨o16, ho17, hf⟩ := bnd_some hf
      refine g_cv k miX8_rockWith mvX8_rockWith (ctX8_rockWith (kL K) E N a0 a0_row a0_lanes a0_sizes a0_items a0_tape a0_readIce a0_readPeople a0_readSayings a0_line a0_bestLine a0_seen a0_held va0_isKept va0_length va0_at va0_number va0_readCells va0_readMany va0_readSaid va0_bestFar va0_bestIce va0_row x1 ((va0_row κ13) ^^^ x5) o14 o16 ho17) [0, 1] 0 (ws' := [(a0, oB 8 [.ref a0_row, .int va0_isKept, .ref a0_lanes, .ref a0_sizes, .ref a0_items, .ref a0_tape, .int va0_length, .int va0_at, .int va0_number, .ref a0_readIce, .int va0_readCells, .ref a0_readPeople, .int va0_readMany, .ref a0_readSayings, .int va0_readSaid, .ref a0_line, .ref a0_bestLine, .int va0_bestFar, .int va0_bestIce, .ref a0_seen, .ref a0_held]), (a0_row, aI E 525 va0_row)]) dX8_sway_66 lkX8_228 rfl ⟨rfl, rfl⟩ ⟨by decide, by decide⟩ rfl rfl rfl rfl (Nat.le_of_ble_eq_true rfl) rfl rfl rfl ?_
      refine g_st (st' := [.int o16]) rfl ?_
      refine g_iload_n k 2 dX8_sway_69 rfl rfl ?_
      refine g_icmp_lt k (tgt := 77) dX8_sway_70 (by decide) (fun c18 => ?_) (fun c18 => ?_)
      · replace hf := ite_t c18 hf
        refine g_iconst k dX8_sway_77 ic_0 ?_
        refine g_istore k (lv' := [(6, .int 0), (0, .ref a0), (1, .int x1), (2, .int x2), (3, .int x3), (4, .int x4), (5, .int x5)]) dX8_sway_78 (by decide) rfl ?_
        refine g_iload k 0 dX8_sway_80 rfl ?_
        refine g_if_eq k (tgt := 110) dX8_sway_82 (by decide) (fun _ => ?_) (fun c19 => absurd c19 (by decide))
        refine g_iload k 5 dX8_sway_110 rfl ?_
        refine g_istore k (lv' := [(4, .int x4), (6, .int 0), (0, .ref a0), (1, .int x1), (2, .int x2), (3, .int x3), (5, .int x5)]) dX8_sway_112 (by decide) rfl ?_
        refine g_iinc k (lv' := [(5, .int (x5 + 1)), (4, .int x4), (6, .int 0), (0, .ref a0), (1, .int x1), (2, .int x2), (3, .int x3)]) 6 dX8_sway_114 rfl (ii_1 _) (by decide) rfl ?_
        refine g_goto k (tgt := 39) dX8_sway_117 (by decide) ?_
        refine g_lv [3, 4, 5, 6, 1, 0] rfl ?_
        exact ih x4 (x5 + 1) o hf hG
      · replace hf := ite_f c18 hf
        refine g_iconst k dX8_sway_73 ic_1 ?_
        refine g_goto k (tgt := 78) dX8_sway_74 (by decide) ?_
        refine g_istore k (lv' := [(6, .int 1), (0, .ref a0), (1, .int x1), (2, .int x2), (3, .int x3), (4, .int x4), (5, .int x5)]) dX8_sway_78 (by decide) rfl ?_
        refine g_iload k 0 dX8_sway_80 rfl ?_
        refine g_if_eq k (tgt := 110) dX8_sway_82 (by decide) (fun c20 => absurd c20 (by decide)) (fun _ => ?_)
        refine g_iload k 5 dX8_sway_85 rfl ?_
        refine g_bipush k dX8_sway_87 bi_m4 ?_
        refine g_icmp_eq k (tgt := 105) dX8_sway_89 (by decide) (fun c21 => ?_) (fun c21 => ?_)
        · replace hf := ite_t c21 hf
          refine g_iload k 6 dX8_sway_105 rfl ?_
          refine g_goto k (tgt := 112) dX8_sway_107 (by decide) ?_
          refine g_istore k (lv' := [(4, .int x5), (6, .int 1), (0, .ref a0), (1, .int x1), (2, .int x2), (3, .int x3), (5, .int x5)]) dX8_sway_112 (by decide) rfl ?_
          refine g_iinc k (lv' := [(5, .int (x5 + 1)), (4, .int x5), (6, .int 1), (0, .ref a0), (1, .int x1), (2, .int x2), (3, .int x3)]) 6 dX8_sway_114 rfl (ii_1 _) (by decide) rfl ?_
          refine g_goto k (tgt := 39) dX8_sway_117 (by decide) ?_
          refine g_lv [3, 4, 5, 6, 1, 0] rfl ?_
          exact ih x5 (x5 + 1) o hf hG
        · replace hf := ite_f c21 hf
          refine g_iload k 6 dX8_sway_92 rfl ?_
          obtain ⟨o22, ho23, hf⟩ := bnd_some hf
          refine g_cs k miX8_bits msX8_bits (ctX8_bits (kL K) E N   x5 o22 ho23) [] (ws' := [(a0, oB 8 [.ref a0_row, .int va0_isKept, .ref a0_lanes, .ref a0_sizes, .ref a0_items, .ref a0_tape, .int va0_length, .int va0_at, .int va0_number, .ref a0_readIce, .int va0_readCells, .ref a0_readPeople, .int va0_readMany, .ref a0_readSayings, .int va0_readSaid, .ref a0_line, .ref a0_bestLine, .int va0_bestFar, .int va0_bestIce, .ref a0_seen, .ref a0_held]), (a0_row, aI E 525 va0_row)]) dX8_sway_94 lkX8_78 rfl ⟨rfl, rfl⟩ ⟨by decide, by decide⟩ rfl rfl rfl (Nat.le_of_ble_eq_true rfl) rfl rfl rfl ?_
          refine g_st (st' := [.int o22]) rfl ?_
          refine g_iload k 5 dX8_sway_97 rfl ?_
          obtain ⟨o24, ho25, hf⟩ := bnd_some hf
          refine g_cs k miX8_bits msX8_bits (ctX8_bits (kL K) E N   x4 o24 ho25) [] (ws' := [(a0, oB 8 [.ref a0_row, .int va0_isKept, .ref a0_lanes, .ref a0_sizes, .ref a0_items, .ref a0_tape, .int va0_length, .int va0_at, .int va0_number, .ref a0_readIce, .int va0_readCells, .ref a0_readPeople, .int va0_readMany, .ref a0_readSayings, .int va0_readSaid, .ref a0_line, .ref a0_bestLine, .int va0_bestFar, .int va0_bestIce, .ref a0_seen, .ref a0_held]), (a0_row, aI E 525 va0_row)]) dX8_sway_99 lkX8_78 rfl ⟨rfl, rfl⟩ ⟨by decide, by decide⟩ rfl rfl rfl (Nat.le_of_ble_eq_true rfl) rfl rfl rfl ?_
          refine g_st (st' := [.int o24, .int o22]) rfl ?_
          refine g_icmp_ge k (tgt := 110) dX8_sway_102 (by decide) (fun c26 => ?_) (fun c26 => ?_)
          · replace hf := ite_t c26 hf
            refine g_iload k 5 dX8_sway_110 rfl ?_
            refine g_istore k (lv' := [(4, .int x4), (6, .int 1), (0, .ref a0), (1, .int x1), (2, .int x2), (3, .int x3), (5, .int x5)]) dX8_sway_112 (by decide) rfl ?_
            refine g_iinc k (lv' := [(5, .int (x5 + 1)), (4, .int x4), (6, .int 1), (0, .ref a0), (1, .int x1), (2, .int x2), (3, .int x3)]) 6 dX8_sway_114 rfl (ii_1 _) (by decide) rfl ?_
            refine g_goto k (tgt := 39) dX8_sway_117 (by decide) ?_
            refine g_lv [3, 4, 5, 6, 1, 0] rfl ?_
            exact ih x4 (x5 + 1) o hf hG
          · replace hf := ite_f c26 hf
            refine g_iload k 6 dX8_sway_105 rfl ?_
            refine g_goto k (tgt := 112) dX8_sway_107 (by decide) ?_
            refine g_istore k (lv' := [(4, .int x5), (6, .int 1), (0, .ref a0), (1, .int x1), (2, .int x2), (3, .int x3), (5, .int x5)]) dX8_sway_112 (by decide) rfl ?_
            refine g_iinc k (lv' := [(5, .int (x5 + 1)), (4, .int x5), (6, .int 1), (0, .ref a0), (1, .int x1), (2, .int x2), (3, .int x3)]) 6 dX8_sway_114 rfl (ii_1 _) (by decide) rfl ?_
            refine g_goto k (tgt := 39) dX8_sway_117 (by decide) ?_
            refine g_lv [3, 4, 5, 6, 1, 0] rfl ?_
            exact ih x5 (x5 + 1) o hf hG
def fX8_sway (N : Nat) (va0_row : Nat → Int32) (x1 : Int32) (x2 : Int32) (x3 : Int32) : Option (Int32) :=
  bnd (fX8_isSaying N va0_row x1) fun o1 =>
  if o1 = 0 then
  some ((-1))
  else
  bnd (fX8_in N x2.toInt64 1 200) fun o4 =>
  if o4 = 0 then
  some ((-1))
  else
  bnd (fX8_in N x3.toInt64 0 1) fun o7 =>
  if o7 = 0 then
  some ((-1))
  else
  bnd (fX8_sway_L39 N x1 x2 x3 va0_row N (-4) 0) fun o27 =>
  if o27.1 = (-4) then
  some (o27.1)
  else
  if x3 = 1 then
  some (o27.1)
  else
  bnd (fX8_bits N o27.1) fun o31 =>
  some (o31)
set_option maxHeartbeats 4000000 in
set_option maxRecDepth 100000 in
theorem ctX8_sway (l : Launch) (E : Ev) (N : Nat) (a0 : Nat) (a0_row : Nat) (a0_lanes : Nat) (a0_sizes : Nat) (a0_items : Nat) (a0_tape : Nat) (a0_readIce : Nat) (a0_readPeople : Nat) (a0_readSayings : Nat) (a0_line : Nat) (a0_bestLine : Nat) (a0_seen : Nat) (a0_held : Nat) (va0_isKept : Int32) (va0_length : Int32) (va0_at : Int32) (va0_number : Int32) (va0_readCells : Int32) (va0_readMany : Int32) (va0_readSaid : Int32) (va0_bestFar : Int32) (va0_bestIce : Int32) (va0_row : Nat → Int32) (x1 : Int32) (x2 : Int32) (x3 : Int32) (out : Int32) (hf : fX8_sway N va0_row x1 x2 x3 = some out) : Ct l E yX8_sway cX8_sway 7 (some .int) rmX8_sway [.ref a0, .int x1, .int x2, .int x3] [(a0, oB 8 [.ref a0_row, .int va0_isKept, .ref a0_lanes, .ref a0_sizes, .ref a0_items, .ref a0_tape, .int va0_length, .int va0_at, .int va0_number, .ref a0_readIce, .int va0_readCells, .ref a0_readPeople, .int va0_readMany, .ref a0_readSayings, .int va0_readSaid, .ref a0_line, .ref a0_bestLine, .int va0_bestFar, .int va0_bestIce, .ref a0_seen, .ref a0_held]), (a0_row, aI E 525 va0_row)] (Pe (some (.int out)) [(a0, oB 8 [.ref a0_row, .int va0_isKept, .ref a0_lanes, .ref a0_sizes, .ref a0_items, .ref a0_tape, .int va0_length, .int va0_at, .int va0_number, .ref a0_readIce, .int va0_readCells, .ref a0_readPeople, .int va0_readMany, .ref a0_readSayings, .int va0_readSaid, .ref a0_line, .ref a0_bestLine, .int va0_bestFar, .int va0_bestIce, .ref a0_seen, .ref a0_held]), (a0_row, aI E 525 va0_row)]) := by
  refine Ct.of rfl (Nat.le_of_ble_eq_true rfl) (fun K hL k r hin => ?_)
  subst hL
  unfold fX8_sway at hf
  show G E K 7 0 0 [(0, .ref a0), (1, .int x1), (2, .int x2), (3, .int x3)] [] [(a0, oB 8 [.ref a0_row, .int va0_isKept, .ref a0_lanes, .ref a0_sizes, .ref a0_items, .ref a0_tape, .int va0_length, .int va0_at, .int va0_number, .ref a0_readIce, .int va0_readCells, .ref a0_readPeople, .int va0_readMany, .ref a0_readSayings, .int va0_readSaid, .ref a0_line, .ref a0_bestLine, .int va0_bestFar, .int va0_bestIce, .ref a0_seen, .ref a0_held]), (a0_row, aI E 525 va0_row)] 0
  refine g_aload_n k 0 dX8_sway_0 rfl rfl ?_
  refine g_iload_n k 1 dX8_sway_1 rfl rfl ?_
  obtain ⟨o1, ho2, hf⟩ := bnd_some hf
  refine g_cv k miX8_isSaying mvX8_isSaying (ctX8_isSaying (kL K) E N a0 a0_row a0_lanes a0_sizes a0_items a0_tape a0_readIce a0_readPeople a0_readSayings a0_line a0_bestLine a0_seen a0_held va0_isKept va0_length va0_at va0_number va0_readCells va0_readMany va0_readSaid va0_bestFar va0_bestIce va0_row x1 o1 ho2) [0, 1] 0 (ws' := [(a0, oB 8 [.ref a0_row, .int va0_isKept, .ref a0_lanes, .ref a0_sizes, .ref a0_items, .ref a0_tape, .int va0_length, .int va0_at, .int va0_number, .ref a0_readIce, .int va0_readCells, .ref a0_readPeople, .int va0_readMany, .ref a0_readSayings, .int va0_readSaid, .ref a0_line, .ref a0_bestLine, .int va0_bestFar, .int va0_bestIce, .ref a0_seen, .ref a0_held]), (a0_row, aI E 525 va0_row)]) dX8_sway_2 lkX8_100 rfl ⟨rfl, rfl⟩ ⟨by decide, by decide⟩ rfl rfl rfl rfl (Nat.le_of_ble_eq_true rfl) rfl rfl rfl ?_
  refine g_st (st' := [.int o1]) rfl ?_
  refine g_if_eq k (tgt := 30) dX8_sway_5 (by decide) (fun c3 => ?_) (fun c3 => ?_)
  · replace hf := ite_t c3 hf
    refine g_iconst k dX8_sway_30 ic_m1 ?_
    obtain rfl := Option.some.inj hf
    exact g_iret k r dX8_sway_31 ⟨rfl, rfl⟩
  · replace hf := ite_f c3 hf
    refine g_iload_n k 2 dX8_sway_8 rfl rfl ?_
    refine g_i2l k dX8_sway_9 ?_
    refine g_lconst k dX8_sway_10 lc_1 ?_
    refine g_ldc2 k dX8_sway_11 lkX8_231 ?_
    obtain ⟨o4, ho5, hf⟩ := bnd_some hf
    refine g_cs k miX8_in msX8_in (ctX8_in (kL K) E N   x2.toInt64 1 200 o4 ho5) [] (ws' := [(a0, oB 8 [.ref a0_row, .int va0_isKept, .ref a0_lanes, .ref a0_sizes, .ref a0_items, .ref a0_tape, .int va0_length, .int va0_at, .int va0_number, .ref a0_readIce, .int va0_readCells, .ref a0_readPeople, .int va0_readMany, .ref a0_readSayings, .int va0_readSaid, .ref a0_line, .ref a0_bestLine, .int va0_bestFar, .int va0_bestIce, .ref a0_seen, .ref a0_held]), (a0_row, aI E 525 va0_row)]) dX8_sway_14 lkX8_47 rfl ⟨rfl, rfl⟩ ⟨by decide, by decide⟩ rfl rfl rfl (Nat.le_of_ble_eq_true rfl) rfl rfl rfl ?_
    refine g_st (st' := [.int o4]) rfl ?_
    refine g_if_eq k (tgt := 30) dX8_sway_17 (by decide) (fun c6 => ?_) (fun c6 => ?_)
    · replace hf := ite_t c6 hf
      refine g_iconst k dX8_sway_30 ic_m1 ?_
      obtain rfl := Option.some.inj hf
      exact g_iret k r dX8_sway_31 ⟨rfl, rfl⟩
    · replace hf := ite_f c6 hf
      refine g_iload_n k 3 dX8_sway_20 rfl rfl ?_
      refine g_i2l k dX8_sway_21 ?_
      refine g_lconst k dX8_sway_22 lc_0 ?_
      refine g_lconst k dX8_sway_23 lc_1 ?_
      obtain ⟨o7, ho8, hf⟩ := bnd_some hf
      refine g_cs k miX8_in msX8_in (ctX8_in (kL K) E N   x3.toInt64 0 1 o7 ho8) [] (ws' := [(a0, oB 8 [.ref a0_row, .int va0_isKept, .ref a0_lanes, .ref a0_sizes, .ref a0_items, .ref a0_tape, .int va0_length, .int va0_at, .int va0_number, .ref a0_readIce, .int va0_readCells, .ref a0_readPeople, .int va0_readMany, .ref a0_readSayings, .int va0_readSaid, .ref a0_line, .ref a0_bestLine, .int va0_bestFar, .int va0_bestIce, .ref a0_seen, .ref a0_held]), (a0_row, aI E 525 va0_row)]) dX8_sway_24 lkX8_47 rfl ⟨rfl, rfl⟩ ⟨by decide, by decide⟩ rfl rfl rfl (Nat.le_of_ble_eq_true rfl) rfl rfl rfl ?_
      refine g_st (st' := [.int o7]) rfl ?_
      refine g_if_ne k (tgt := 32) dX8_sway_27 (by decide) (fun c9 => ?_) (fun c9 => ?_)
      · replace hf := ite_f c9 hf
        refine g_bipush k dX8_sway_32 bi_m4 ?_
        refine g_istore k (lv' := [(4, .int (-4)), (0, .ref a0), (1, .int x1), (2, .int x2), (3, .int x3)]) dX8_sway_34 (by decide) rfl ?_
        refine g_iconst k dX8_sway_36 ic_0 ?_
        refine g_istore k (lv' := [(5, .int 0), (4, .int (-4)), (0, .ref a0), (1, .int x1), (2, .int x2), (3, .int x3)]) dX8_sway_37 (by decide) rfl ?_
        obtain ⟨o27, ho28, hf⟩ := bnd_some hf
        refine g_lv [2, 3, 4, 5, 1, 0] (lv' := [(0, .ref a0), (1, .int x1), (2, .int x2), (3, .int x3), (4, .int (-4)), (5, .int 0)]) rfl ?_
        refine wX8_sway_L39 k N a0 a0_row a0_lanes a0_sizes a0_items a0_tape a0_readIce a0_readPeople a0_readSayings a0_line a0_bestLine a0_seen a0_held  x1 x2 x3 va0_row va0_isKept va0_length va0_at va0_number va0_readCells va0_readMany va0_readSaid va0_bestFar va0_bestIce N (-4) 0 o27 ho28 ?_
        refine g_iload k 4 dX8_sway_120 rfl ?_
        refine g_bipush k dX8_sway_122 bi_m4 ?_
        refine g_icmp_eq k (tgt := 132) dX8_sway_124 (by decide) (fun c29 => ?_) (fun c29 => ?_)
        · replace hf := ite_t c29 hf
          refine g_iload k 4 dX8_sway_132 rfl ?_
          refine g_goto k (tgt := 142) dX8_sway_134 (by decide) ?_
          obtain rfl := Option.some.inj hf
          exact g_iret k r dX8_sway_142 ⟨rfl, rfl⟩
        · replace hf := ite_f c29 hf
          refine g_iload_n k 3 dX8_sway_127 rfl rfl ?_
          refine g_iconst k dX8_sway_128 ic_1 ?_
          refine g_icmp_ne k (tgt := 137) dX8_sway_129 (by decide) (fun c30 => ?_) (fun c30 => ?_)
          · replace hf := ite_f c30 hf
            refine g_iload k 4 dX8_sway_137 rfl ?_
            obtain ⟨o31, ho32, hf⟩ := bnd_some hf
            refine g_cs k miX8_bits msX8_bits (ctX8_bits (kL K) E N   o27.1 o31 ho32) [] (ws' := [(a0, oB 8 [.ref a0_row, .int va0_isKept, .ref a0_lanes, .ref a0_sizes, .ref a0_items, .ref a0_tape, .int va0_length, .int va0_at, .int va0_number, .ref a0_readIce, .int va0_readCells, .ref a0_readPeople, .int va0_readMany, .ref a0_readSayings, .int va0_readSaid, .ref a0_line, .ref a0_bestLine, .int va0_bestFar, .int va0_bestIce, .ref a0_seen, .ref a0_held]), (a0_row, aI E 525 va0_row)]) dX8_sway_139 lkX8_78 rfl ⟨rfl, rfl⟩ ⟨by decide, by decide⟩ rfl rfl rfl (Nat.le_of_ble_eq_true rfl) rfl rfl rfl ?_
            refine g_st (st' := [.int o31]) rfl ?_
            obtain rfl := Option.some.inj hf
            exact g_iret k r dX8_sway_142 ⟨rfl, rfl⟩
          · replace hf := ite_t c30 hf
            refine g_iload k 4 dX8_sway_132 rfl ?_
            refine g_goto k (tgt := 142) dX8_sway_134 (by decide) ?_
            obtain rfl := Option.some.inj hf
            exact g_iret k r dX8_sway_142 ⟨rfl, rfl⟩
      · replace hf := ite_t c9 hf
        refine g_iconst k dX8_sway_30 ic_m1 ?_
        obtain rfl := Option.some.inj hf
        exact g_iret k r dX8_sway_31 ⟨rfl, rfl⟩
abbrev rmX8_mostIn : Room := { frames := 5, cells := 0, slots := 0, locals := 123 }
def fX8_mostIn_L4 (N : Nat) (x1 : Int32) (va0_row : Nat → Int32) : Nat → Int32 → Int32 → Option (Int32 × Int32)
  | 0, _, _ => none
  | n + 1, x2, x3 =>
    if (va0_row 28) ≤ x3 then
    some (x2, x3)
    else
    ixb (20 + x3) 525 fun κ2 =>
    bnd (fX8_rockWith N va0_row x3 (va0_row κ2) x1) fun o3 =>
    if o3 ≤ x2 then
    fX8_mostIn_L4 N x1 va0_row n x2 (x3 + 1)
    else
    fX8_mostIn_L4 N x1 va0_row n o3 (x3 + 1)
set_option maxHeartbeats 4000000 in
set_option maxRecDepth 100000 in
theorem wX8_mostIn_L4 {E : Ev} {K : KX} (k : OKX E K cX8_mostIn RX8 5 rmX8_mostIn) (N : Nat) (a0 : Nat) (a0_row : Nat) (a0_lanes : Nat) (a0_sizes : Nat) (a0_items : Nat) (a0_tape : Nat) (a0_readIce : Nat) (a0_readPeople : Nat) (a0_readSayings : Nat) (a0_line : Nat) (a0_bestLine : Nat) (a0_seen : Nat) (a0_held : Nat) (x1 : Int32) (va0_row : Nat → Int32) (va0_isKept : Int32) (va0_length : Int32) (va0_at : Int32) (va0_number : Int32) (va0_readCells : Int32) (va0_readMany : Int32) (va0_readSaid : Int32) (va0_bestFar : Int32) (va0_bestIce : Int32) : ∀ (n : Nat) (x2 : Int32) (x3 : Int32) (o : Int32 × Int32), fX8_mostIn_L4 N x1 va0_row n x2 x3 = some o → G E K 5 0 0 [(0, .ref a0), (1, .int x1), (2, .int o.1), (3, .int o.2)] [] [(a0, oB 8 [.ref a0_row, .int va0_isKept, .ref a0_lanes, .ref a0_sizes, .ref a0_items, .ref a0_tape, .int va0_length, .int va0_at, .int va0_number, .ref a0_readIce, .int va0_readCells, .ref a0_readPeople, .int va0_readMany, .ref a0_readSayings, .int va0_readSaid, .ref a0_line, .ref a0_bestLine, .int va0_bestFar, .int va0_bestIce, .ref a0_seen, .ref a0_held]), (a0_row, aI E 525 va0_row)] 51 → G E K 5 0 0 [(0, .ref a0), (1, .int x1), (2, .int x2), (3, .int x3)] [] [(a0, oB 8 [.ref a0_row, .int va0_isKept, .ref a0_lanes, .ref a0_sizes, .ref a0_items, .ref a0_tape, .int va0_length, .int va0_at, .int va0_number, .ref a0_readIce, .int va0_readCells, .ref a0_readPeople, .int va0_readMany, .ref a0_readSayings, .int va0_readSaid, .ref a0_line, .ref a0_bestLine, .int va0_bestFar, .int va0_bestIce, .ref a0_seen, .ref a0_held]), (a0_row, aI E 525 va0_row)] 4 := by
  intro n
  induction n with
  | zero => intro x2 x3 o hf; cases hf
  | succ n ih =>
    intro x2 x3 o hf hG
    rw [fX8_mostIn_L4] at hf
    refine g_iload_n k 3 dX8_mostIn_4 rfl rfl ?_
    refine g_aload_n k 0 dX8_mostIn_5 rfl rfl ?_
    refine g_get k cfX8 0 0 dX8_mostIn_6 lkX8_7 (by decide) rfl rfl ?_
    refine g_bipush k dX8_mostIn_9 bi_28 ?_
    refine g_iaload k 1 dX8_mostIn_11 rfl vi_28_525 cl_28 ?_
    refine g_icmp_ge k (tgt := 51) dX8_mostIn_12 (by decide) (fun c1 => ?_) (fun c1 => ?_)
    · replace hf := ite_t c1 hf
      refine g_lv [0, 1, 2, 3] rfl ?_
      obtain rfl := Option.some.inj hf
      exact hG
    · replace hf := ite_f c1 hf
      refine g_aload_n k 0 dX8_mostIn_15 rfl rfl ?_
      refine g_iload_n k 3 dX8_mostIn_16 rfl rfl ?_
      refine g_aload_n k 0 dX8_mostIn_17 rfl rfl ?_
      refine g_get k cfX8 0 0 dX8_mostIn_18 lkX8_7 (by decide) rfl rfl ?_
      refine g_bipush k dX8_mostIn_21 bi_20 ?_
      refine g_iload_n k 3 dX8_mostIn_23 rfl rfl ?_
      refine g_iadd k dX8_mostIn_24 ?_
      obtain ⟨κ2, hκ2, hiκ2, heκ2, hf⟩ := ixb_some hf
      refine g_iaload k 1 dX8_mostIn_25 rfl hiκ2 heκ2 ?_
      refine g_iload_n k 1 dX8_mostIn_26 rfl rfl ?_
      obtain ⟨o3, ho4, hf⟩ := bnd_some hf
      refine g_cv k miX8_rockWith mvX8_rockWith (ctX8_rockWith (kL K) E N a0 a0_row a0_lanes a0_sizes a0_items a0_tape a0_readIce a0_readPeople a0_readSayings a0_line a0_bestLine a0_seen a0_held va0_isKept va0_length va0_at va0_number va0_readCells va0_readMany va0_readSaid va0_bestFar va0_bestIce va0_row x3 (va0_row κ2) x1 o3 ho4) [0, 1] 0 (ws' := [(a0, oB 8 [.ref a0_row, .int va0_isKept, .ref a0_lanes, .ref a0_sizes, .ref a0_items, .ref a0_tape, .int va0_length, .int va0_at, .int va0_number, .ref a0_readIce, .int va0_readCells, .ref a0_readPeople, .int va0_readMany, .ref a0_readSayings, .int va0_readSaid, .ref a0_line, .ref a0_bestLine, .int va0_bestFar, .int va0_bestIce, .ref a0_seen, .ref a0_held]), (a0_row, aI E 525 va0_row)]) dX8_mostIn_27 lkX8_228 rfl ⟨rfl, rfl⟩ ⟨by decide, by decide⟩ rfl rfl rfl rfl (Nat.le_of_ble_eq_true rfl) rfl rfl rfl ?_
      refine g_st (st' := [.int o3]) rfl ?_
      refine g_istore k (lv' := [(4, .int o3), (0, .ref a0), (1, .int x1), (2, .int x2), (3, .int x3)]) dX8_mostIn_30 (by decide) rfl ?_
      refine g_iload k 0 dX8_mostIn_32 rfl ?_
      refine g_iload_n k 3 dX8_mostIn_34 rfl rfl ?_
      refine g_icmp_le k (tgt := 43) dX8_mostIn_35 (by decide) (fun c5 => ?_) (fun c5 => ?_)
      · replace hf := ite_t c5 hf
        refine g_iload_n k 3 dX8_mostIn_43 rfl rfl ?_
        refine g_istore_n k (lv' := [(2, .int x2), (4, .int o3), (0, .ref a0), (1, .int x1), (3, .int x3)]) dX8_mostIn_44 rfl (by decide) rfl ?_
        refine g_iinc k (lv' := [(3, .int (x3 + 1)), (2, .int x2), (4, .int o3), (0, .ref a0), (1, .int x1)]) 4 dX8_mostIn_45 rfl (ii_1 _) (by decide) rfl ?_
        refine g_goto k (tgt := 4) dX8_mostIn_48 (by decide) ?_
        refine g_lv [3, 4, 1, 0] rfl ?_
        exact ih x2 (x3 + 1) o hf hG
      · replace hf := ite_f c5 hf
        refine g_iload k 0 dX8_mostIn_38 rfl ?_
        refine g_goto k (tgt := 44) dX8_mostIn_40 (by decide) ?_
        refine g_istore_n k (lv' := [(2, .int o3), (4, .int o3), (0, .ref a0), (1, .int x1), (3, .int x3)]) dX8_mostIn_44 rfl (by decide) rfl ?_
        refine g_iinc k (lv' := [(3, .int (x3 + 1)), (2, .int o3), (4, .int o3), (0, .ref a0), (1, .int x1)]) 4 dX8_mostIn_45 rfl (ii_1 _) (by decide) rfl ?_
        refine g_goto k (tgt := 4) dX8_mostIn_48 (by decide) ?_
        refine g_lv [3, 4, 1, 0] rfl ?_
        exact ih o3 (x3 + 1) o hf hG
def fX8_mostIn (N : Nat) (va0_row : Nat → Int32) (x1 : Int32) : Option (Int32) :=
  bnd (fX8_mostIn_L4 N x1 va0_row N 0 0) fun o6 =>
  some (o6.1)
set_option maxHeartbeats 4000000 in
set_option maxRecDepth 100000 in
theorem ctX8_mostIn (l : Launch) (E : Ev) (N : Nat) (a0 : Nat) (a0_row : Nat) (a0_lanes : Nat) (a0_sizes : Nat) (a0_items : Nat) (a0_tape : Nat) (a0_readIce : Nat) (a0_readPeople : Nat) (a0_readSayings : Nat) (a0_line : Nat) (a0_bestLine : Nat) (a0_seen : Nat) (a0_held : Nat) (va0_isKept : Int32) (va0_length : Int32) (va0_at : Int32) (va0_number : Int32) (va0_readCells : Int32) (va0_readMany : Int32) (va0_readSaid : Int32) (va0_bestFar : Int32) (va0_bestIce : Int32) (va0_row : Nat → Int32) (x1 : Int32) (out : Int32) (hf : fX8_mostIn N va0_row x1 = some out) : Ct l E yX8_mostIn cX8_mostIn 5 (some .int) rmX8_mostIn [.ref a0, .int x1] [(a0, oB 8 [.ref a0_row, .int va0_isKept, .ref a0_lanes, .ref a0_sizes, .ref a0_items, .ref a0_tape, .int va0_length, .int va0_at, .int va0_number, .ref a0_readIce, .int va0_readCells, .ref a0_readPeople, .int va0_readMany, .ref a0_readSayings, .int va0_readSaid, .ref a0_line, .ref a0_bestLine, .int va0_bestFar, .int va0_bestIce, .ref a0_seen, .ref a0_held]), (a0_row, aI E 525 va0_row)] (Pe (some (.int out)) [(a0, oB 8 [.ref a0_row, .int va0_isKept, .ref a0_lanes, .ref a0_sizes, .ref a0_items, .ref a0_tape, .int va0_length, .int va0_at, .int va0_number, .ref a0_readIce, .int va0_readCells, .ref a0_readPeople, .int va0_readMany, .ref a0_readSayings, .int va0_readSaid, .ref a0_line, .ref a0_bestLine, .int va0_bestFar, .int va0_bestIce, .ref a0_seen, .ref a0_held]), (a0_row, aI E 525 va0_row)]) := by
  refine Ct.of rfl (Nat.le_of_ble_eq_true rfl) (fun K hL k r hin => ?_)
  subst hL
  unfold fX8_mostIn at hf
  show G E K 5 0 0 [(0, .ref a0), (1, .int x1)] [] [(a0, oB 8 [.ref a0_row, .int va0_isKept, .ref a0_lanes, .ref a0_sizes, .ref a0_items, .ref a0_tape, .int va0_length, .int va0_at, .int va0_number, .ref a0_readIce, .int va0_readCells, .ref a0_readPeople, .int va0_readMany, .ref a0_readSayings, .int va0_readSaid, .ref a0_line, .ref a0_bestLine, .int va0_bestFar, .int va0_bestIce, .ref a0_seen, .ref a0_held]), (a0_row, aI E 525 va0_row)] 0
  refine g_iconst k dX8_mostIn_0 ic_0 ?_
  refine g_istore_n k (lv' := [(2, .int 0), (0, .ref a0), (1, .int x1)]) dX8_mostIn_1 rfl (by decide) rfl ?_
  refine g_iconst k dX8_mostIn_2 ic_0 ?_
  refine g_istore_n k (lv' := [(3, .int 0), (2, .int 0), (0, .ref a0), (1, .int x1)]) dX8_mostIn_3 rfl (by decide) rfl ?_
  obtain ⟨o6, ho7, hf⟩ := bnd_some hf
  refine g_lv [2, 3, 1, 0] (lv' := [(0, .ref a0), (1, .int x1), (2, .int 0), (3, .int 0)]) rfl ?_
  refine wX8_mostIn_L4 k N a0 a0_row a0_lanes a0_sizes a0_items a0_tape a0_readIce a0_readPeople a0_readSayings a0_line a0_bestLine a0_seen a0_held  x1 va0_row va0_isKept va0_length va0_at va0_number va0_readCells va0_readMany va0_readSaid va0_bestFar va0_bestIce N 0 0 o6 ho7 ?_
  refine g_iload_n k 2 dX8_mostIn_51 rfl rfl ?_
  obtain rfl := Option.some.inj hf
  exact g_iret k r dX8_mostIn_52 ⟨rfl, rfl⟩
abbrev rmX8_boats : Room := { frames := 6, cells := 0, slots := 0, locals := 147 }
def fX8_boats_L19 (N : Nat) (x1 : Int32) (va0_row : Nat → Int32) : Nat → Int32 → Int32 → Int32 → Option (Int32 × Int32 × Int32)
  | 0, _, _, _ => none
  | n + 1, x2, x3, x4 =>
    bnd (fX8_everybody N va0_row) fun o4 =>
    if o4 < x4 then
    some (x2, x3, x4)
    else
    bnd (fX8_mostIn N va0_row x4) fun o7 =>
    bnd (fX8_everybody N va0_row) fun o9 =>
    bnd (fX8_mostIn N va0_row (o9 &&& (x4 ^^^ (-1)))) fun o11 =>
    if o11 ≤ o7 then
    if o11 ≤ x3 then
    if o11 ≤ x3 then
    fX8_boats_L19 N x1 va0_row n x2 x3 (x4 + 1)
    else
    fX8_boats_L19 N x1 va0_row n x2 o11 (x4 + 1)
    else
    if o11 ≤ x3 then
    fX8_boats_L19 N x1 va0_row n x4 x3 (x4 + 1)
    else
    fX8_boats_L19 N x1 va0_row n x4 o11 (x4 + 1)
    else
    if o7 ≤ x3 then
    if o7 ≤ x3 then
    fX8_boats_L19 N x1 va0_row n x2 x3 (x4 + 1)
    else
    fX8_boats_L19 N x1 va0_row n x2 o7 (x4 + 1)
    else
    if o7 ≤ x3 then
    fX8_boats_L19 N x1 va0_row n x4 x3 (x4 + 1)
    else
    fX8_boats_L19 N x1 va0_row n x4 o7 (x4 + 1)
set_option maxHeartbeats 4000000 in
set_option maxRecDepth 100000 in
theorem wX8_boats_L19 {E : Ev} {K : KX} (k : OKX E K cX8_boats RX8 8 rmX8_boats) (N : Nat) (a0 : Nat) (a0_row : Nat) (a0_lanes : Nat) (a0_sizes : Nat) (a0_items : Nat) (a0_tape : Nat) (a0_readIce : Nat) (a0_readPeople : Nat) (a0_readSayings : Nat) (a0_line : Nat) (a0_bestLine : Nat) (a0_seen : Nat) (a0_held : Nat) (x1 : Int32) (va0_row : Nat → Int32) (va0_isKept : Int32) (va0_length : Int32) (va0_at : Int32) (va0_number : Int32) (va0_readCells : Int32) (va0_readMany : Int32) (va0_readSaid : Int32) (va0_bestFar : Int32) (va0_bestIce : Int32) : ∀ (n : Nat) (x2 : Int32) (x3 : Int32) (x4 : Int32) (o : Int32 × Int32 × Int32), fX8_boats_L19 N x1 va0_row n x2 x3 x4 = some o → G E K 8 0 0 [(0, .ref a0), (1, .int x1), (2, .int o.1), (3, .int o.2.1), (4, .int o.2.2)] [] [(a0, oB 8 [.ref a0_row, .int va0_isKept, .ref a0_lanes, .ref a0_sizes, .ref a0_items, .ref a0_tape, .int va0_length, .int va0_at, .int va0_number, .ref a0_readIce, .int va0_readCells, .ref a0_readPeople, .int va0_readMany, .ref a0_readSayings, .int va0_readSaid, .ref a0_line, .ref a0_bestLine, .int va0_bestFar, .int va0_bestIce, .ref a0_seen, .ref a0_held]), (a0_row, aI E 525 va0_row)] 99 → G E K 8 0 0 [(0, .ref a0), (1, .int x1), (2, .int x2), (3, .int x3), (4, .int x4)] [] [(a0, oB 8 [.ref a0_row, .int va0_isKept, .ref a0_lanes, .ref a0_sizes, .ref a0_items, .ref a0_tape, .int va0_length, .int va0_at, .int va0_number, .ref a0_readIce, .int va0_readCells, .ref a0_readPeople, .int va0_readMany, .ref a0_readSayings, .int va0_readSaid, .ref a0_line, .ref a0_bestLine, .int va0_bestFar, .int va0_bestIce, .ref a0_seen, .ref a0_held]), (a0_row, aI E 525 va0_row)] 19 := by
  intro n
  induction n with
  | zero => intro x2 x3 x4 o hf; cases hf
  | succ n ih =>
    intro x2 x3 x4 o hf hG
    rw [fX8_boats_L19] at hf
    refine g_iload k 4 dX8_boats_19 rfl ?_
    refine g_aload_n k 0 dX8_boats_21 rfl rfl ?_
    obtain ⟨o4, ho5, hf⟩ := bnd_some hf
    refine g_cv k miX8_everybody mvX8_everybody (ctX8_everybody (kL K) E N a0 a0_row a0_lanes a0_sizes a0_items a0_tape a0_readIce a0_readPeople a0_readSayings a0_line a0_bestLine a0_seen a0_held va0_isKept va0_length va0_at va0_number va0_readCells va0_readMany va0_readSaid va0_bestFar va0_bestIce va0_row  o4 ho5) [0, 1] 0 (ws' := [(a0, oB 8 [.ref a0_row, .int va0_isKept, .ref a0_lanes, .ref a0_sizes, .ref a0_items, .ref a0_tape, .int va0_length, .int va0_at, .int va0_number, .ref a0_readIce, .int va0_readCells, .ref a0_readPeople, .int va0_readMany, .ref a0_readSayings, .int va0_readSaid, .ref a0_line, .ref a0_bestLine, .int va0_bestFar, .int va0_bestIce, .ref a0_seen, .ref a0_held]), (a0_row, aI E 525 va0_row)]) dX8_boats_22 lkX8_67 rfl ⟨rfl, rfl⟩ ⟨by decide, by decide⟩ rfl rfl rfl rfl (Nat.le_of_ble_eq_true rfl) rfl rfl rfl ?_
    refine g_st (st' := [.int o4, .int x4]) rfl ?_
    refine g_icmp_gt k (tgt := 99) dX8_boats_25 (by decide) (fun c6 => ?_) (fun c6 => ?_)
    · replace hf := ite_t c6 hf
      refine g_lv [0, 1, 2, 3, 4] rfl ?_
      obtain rfl := Option.some.inj hf
      exact hG
    · replace hf := ite_f c6 hf
      refine g_aload_n k 0 dX8_boats_28 rfl rfl ?_
      refine g_iload k 4 dX8_boats_29 rfl ?_
      obtain ⟨o7, ho8, hf⟩ := bnd_some hf
      refine g_cv k miX8_mostIn mvX8_mostIn (ctX8_mostIn (kL K) E N a0 a0_row a0_lanes a0_sizes a0_items a0_tape a0_readIce a0_readPeople a0_readSayings a0_line a0_bestLine a0_seen a0_held va0_isKept va0_length va0_at va0_number va0_readCells va0_readMany va0_readSaid va0_bestFar va0_bestIce va0_row x4 o7 ho8) [0, 1] 0 (ws' := [(a0, oB 8 [.ref a0_row, .int va0_isKept, .ref a0_lanes, .ref a0_sizes, .ref a0_items, .ref a0_tape, .int va0_length, .int va0_at, .int va0_number, .ref a0_readIce, .int va0_readCells, .ref a0_readPeople, .int va0_readMany, .ref a0_readSayings, .int va0_readSaid, .ref a0_line, .ref a0_bestLine, .int va0_bestFar, .int va0_bestIce, .ref a0_seen, .ref a0_held]), (a0_row, aI E 525 va0_row)]) dX8_boats_31 lkX8_233 rfl ⟨rfl, rfl⟩ ⟨by decide, by decide⟩ rfl rfl rfl rfl (Nat.le_of_ble_eq_true rfl) rfl rfl rfl ?_
      refine g_st (st' := [.int o7]) rfl ?_
      refine g_istore k (lv' := [(5, .int o7), (0, .ref a0), (1, .int x1), (2, .int x2), (3, .int x3), (4, .int x4)]) dX8_boats_34 (by decide) rfl ?_
      refine g_aload_n k 1 dX8_boats_36 rfl rfl ?_
      refine g_aload_n k 1 dX8_boats_37 rfl rfl ?_
      obtain ⟨o9, ho10, hf⟩ := bnd_some hf
      refine g_cv k miX8_everybody mvX8_everybody (ctX8_everybody (kL K) E N a0 a0_row a0_lanes a0_sizes a0_items a0_tape a0_readIce a0_readPeople a0_readSayings a0_line a0_bestLine a0_seen a0_held va0_isKept va0_length va0_at va0_number va0_readCells va0_readMany va0_readSaid va0_bestFar va0_bestIce va0_row  o9 ho10) [0, 1] 0 (ws' := [(a0, oB 8 [.ref a0_row, .int va0_isKept, .ref a0_lanes, .ref a0_sizes, .ref a0_items, .ref a0_tape, .int va0_length, .int va0_at, .int va0_number, .ref a0_readIce, .int va0_readCells, .ref a0_readPeople, .int va0_readMany, .ref a0_readSayings, .int va0_readSaid, .ref a0_line, .ref a0_bestLine, .int va0_bestFar, .int va0_bestIce, .ref a0_seen, .ref a0_held]), (a0_row, aI E 525 va0_row)]) dX8_boats_38 lkX8_67 rfl ⟨rfl, rfl⟩ ⟨by decide, by decide⟩ rfl rfl rfl rfl (Nat.le_of_ble_eq_true rfl) rfl rfl rfl ?_
      refine g_st (st' := [.int o9, .ref a0]) rfl ?_
      refine g_iload k 5 dX8_boats_41 rfl ?_
      refine g_iconst k dX8_boats_43 ic_m1 ?_
      refine g_ixor k dX8_boats_44 ?_
      refine g_iand k dX8_boats_45 ?_
      obtain ⟨o11, ho12, hf⟩ := bnd_some hf
      refine g_cv k miX8_mostIn mvX8_mostIn (ctX8_mostIn (kL K) E N a0 a0_row a0_lanes a0_sizes a0_items a0_tape a0_readIce a0_readPeople a0_readSayings a0_line a0_bestLine a0_seen a0_held va0_isKept va0_length va0_at va0_number va0_readCells va0_readMany va0_readSaid va0_bestFar va0_bestIce va0_row (o9 &&& (x4 ^^^ (-1))) o11 ho12) [0, 1] 0 (ws' := [(a0, oB 8 [.ref a0_row, .int va0_isKept, .ref a0_lanes, .ref a0_sizes, .ref a0_items, .ref a0_tape, .int va0_length, .int va0_at, .int va0_number, .ref a0_readIce, .int va0_readCells, .ref a0_readPeople, .int va0_readMany, .ref a0_readSayings, .int va0_readSaid, .ref a0_line, .ref a0_bestLine, .int va0_bestFar, .int va0_bestIce, .ref a0_seen, .ref a0_held]), (a0_row, aI E 525 va0_row)]) dX8_boats_46 lkX8_233 rfl ⟨rfl, rfl⟩ ⟨by decide, by decide⟩ rfl rfl rfl rfl (Nat.le_of_ble_eq_true rfl) rfl rfl rfl ?_
      refine g_st (st' := [.int o11]) rfl ?_
      refine g_istore k (lv' := [(6, .int o11), (5, .int o7), (0, .ref a0), (1, .int x1), (2, .int x2), (3, .int x3), (4, .int x4)]) dX8_boats_49 (by decide) rfl ?_
      refine g_iload k 1 dX8_boats_51 rfl ?_
      refine g_iload k 0 dX8_boats_53 rfl ?_
      refine g_icmp_ge k (tgt := 63) dX8_boats_55 (by decide) (fun c13 => ?_) (fun c13 => ?_)
      · replace hf := ite_t c13 hf
        refine g_iload k 0 dX8_boats_63 rfl ?_
        refine g_istore k (lv' := [(7, .int o11), (6, .int o11), (5, .int o7), (0, .ref a0), (1, .int x1), (2, .int x2), (3, .int x3), (4, .int x4)]) dX8_boats_65 (by decide) rfl ?_
        refine g_iload k 0 dX8_boats_67 rfl ?_
        refine g_iload_n k 6 dX8_boats_69 rfl rfl ?_
        refine g_icmp_le k (tgt := 78) dX8_boats_70 (by decide) (fun c14 => ?_) (fun c14 => ?_)
        · replace hf := ite_t c14 hf
          refine g_iload_n k 5 dX8_boats_78 rfl rfl ?_
          refine g_istore_n k (lv' := [(2, .int x2), (7, .int o11), (6, .int o11), (5, .int o7), (0, .ref a0), (1, .int x1), (3, .int x3), (4, .int x4)]) dX8_boats_79 rfl (by decide) rfl ?_
          refine g_iload k 1 dX8_boats_80 rfl ?_
          refine g_iload_n k 6 dX8_boats_82 rfl rfl ?_
          refine g_icmp_le k (tgt := 91) dX8_boats_83 (by decide) (fun c15 => ?_) (fun c15 => ?_)
          · replace hf := ite_t c15 hf
            refine g_iload_n k 6 dX8_boats_91 rfl rfl ?_
            refine g_istore_n k (lv' := [(3, .int x3), (2, .int x2), (7, .int o11), (6, .int o11), (5, .int o7), (0, .ref a0), (1, .int x1), (4, .int x4)]) dX8_boats_92 rfl (by decide) rfl ?_
            refine g_iinc k (lv' := [(4, .int (x4 + 1)), (3, .int x3), (2, .int x2), (7, .int o11), (6, .int o11), (5, .int o7), (0, .ref a0), (1, .int x1)]) 7 dX8_boats_93 rfl (ii_1 _) (by decide) rfl ?_
            refine g_goto k (tgt := 19) dX8_boats_96 (by decide) ?_
            refine g_lv [6, 7, 2, 1, 0] rfl ?_
            exact ih x2 x3 (x4 + 1) o hf hG
          · replace hf := ite_f c15 hf
            refine g_iload k 1 dX8_boats_86 rfl ?_
            refine g_goto k (tgt := 92) dX8_boats_88 (by decide) ?_
            refine g_istore_n k (lv' := [(3, .int o11), (2, .int x2), (7, .int o11), (6, .int o11), (5, .int o7), (0, .ref a0), (1, .int x1), (4, .int x4)]) dX8_boats_92 rfl (by decide) rfl ?_
            refine g_iinc k (lv' := [(4, .int (x4 + 1)), (3, .int o11), (2, .int x2), (7, .int o11), (6, .int o11), (5, .int o7), (0, .ref a0), (1, .int x1)]) 7 dX8_boats_93 rfl (ii_1 _) (by decide) rfl ?_
            refine g_goto k (tgt := 19) dX8_boats_96 (by decide) ?_
            refine g_lv [6, 7, 2, 1, 0] rfl ?_
            exact ih x2 o11 (x4 + 1) o hf hG
        · replace hf := ite_f c14 hf
          refine g_iload k 7 dX8_boats_73 rfl ?_
          refine g_goto k (tgt := 79) dX8_boats_75 (by decide) ?_
          refine g_istore_n k (lv' := [(2, .int x4), (7, .int o11), (6, .int o11), (5, .int o7), (0, .ref a0), (1, .int x1), (3, .int x3), (4, .int x4)]) dX8_boats_79 rfl (by decide) rfl ?_
          refine g_iload k 1 dX8_boats_80 rfl ?_
          refine g_iload_n k 6 dX8_boats_82 rfl rfl ?_
          refine g_icmp_le k (tgt := 91) dX8_boats_83 (by decide) (fun c16 => ?_) (fun c16 => ?_)
          · replace hf := ite_t c16 hf
            refine g_iload_n k 6 dX8_boats_91 rfl rfl ?_
            refine g_istore_n k (lv' := [(3, .int x3), (2, .int x4), (7, .int o11), (6, .int o11), (5, .int o7), (0, .ref a0), (1, .int x1), (4, .int x4)]) dX8_boats_92 rfl (by decide) rfl ?_
            refine g_iinc k (lv' := [(4, .int (x4 + 1)), (3, .int x3), (2, .int x4), (7, .int o11), (6, .int o11), (5, .int o7), (0, .ref a0), (1, .int x1)]) 7 dX8_boats_93 rfl (ii_1 _) (by decide) rfl ?_
            refine g_goto k (tgt := 19) dX8_boats_96 (by decide) ?_
            refine g_lv [6, 7, 2, 1, 0] rfl ?_
            exact ih x4 x3 (x4 + 1) o hf hG
          · replace hf := ite_f c16 hf
            refine g_iload k 1 dX8_boats_86 rfl ?_
            refine g_goto k (tgt := 92) dX8_boats_88 (by decide) ?_
            refine g_istore_n k (lv' := [(3, .int o11), (2, .int x4), (7, .int o11), (6, .int o11), (5, .int o7), (0, .ref a0), (1, .int x1), (4, .int x4)]) dX8_boats_92 rfl (by decide) rfl ?_
            refine g_iinc k (lv' := [(4, .int (x4 + 1)), (3, .int o11), (2, .int x4), (7, .int o11), (6, .int o11), (5, .int o7), (0, .ref a0), (1, .int x1)]) 7 dX8_boats_93 rfl (ii_1 _) (by decide) rfl ?_
            refine g_goto k (tgt := 19) dX8_boats_96 (by decide) ?_
            refine g_lv [6, 7, 2, 1, 0] rfl ?_
            exact ih x4 o11 (x4 + 1) o hf hG
      · replace hf := ite_f c13 hf
        refine g_iload k 1 dX8_boats_58 rfl ?_
        refine g_goto k (tgt := 65) dX8_boats_60 (by decide) ?_
        refine g_istore k (lv' := [(7, .int o7), (6, .int o11), (5, .int o7), (0, .ref a0), (1, .int x1), (2, .int x2), (3, .int x3), (4, .int x4)]) dX8_boats_65 (by decide) rfl ?_
        refine g_iload k 0 dX8_boats_67 rfl ?_
        refine g_iload_n k 6 dX8_boats_69 rfl rfl ?_
        refine g_icmp_le k (tgt := 78) dX8_boats_70 (by decide) (fun c17 => ?_) (fun c17 => ?_)
        · replace hf := ite_t c17 hf
          refine g_iload_n k 5 dX8_boats_78 rfl rfl ?_
          refine g_istore_n k (lv' := [(2, .int x2), (7, .int o7), (6, .int o11), (5, .int o7), (0, .ref a0), (1, .int x1), (3, .int x3), (4, .int x4)]) dX8_boats_79 rfl (by decide) rfl ?_
          refine g_iload k 1 dX8_boats_80 rfl ?_
          refine g_iload_n k 6 dX8_boats_82 rfl rfl ?_
          refine g_icmp_le k (tgt := 91) dX8_boats_83 (by decide) (fun c18 => ?_) (fun c18 => ?_)
          · replace hf := ite_t c18 hf
            refine g_iload_n k 6 dX8_boats_91 rfl rfl ?_
            refine g_istore_n k (lv' := [(3, .int x3), (2, .int x2), (7, .int o7), (6, .int o11), (5, .int o7), (0, .ref a0), (1, .int x1), (4, .int x4)]) dX8_boats_92 rfl (by decide) rfl ?_
            refine g_iinc k (lv' := [(4, .int (x4 + 1)), (3, .int x3), (2, .int x2), (7, .int o7), (6, .int o11), (5, .int o7), (0, .ref a0), (1, .int x1)]) 7 dX8_boats_93 rfl (ii_1 _) (by decide) rfl ?_
            refine g_goto k (tgt := 19) dX8_boats_96 (by decide) ?_
            refine g_lv [6, 7, 2, 1, 0] rfl ?_
            exact ih x2 x3 (x4 + 1) o hf hG
          · replace hf := ite_f c18 hf
            refine g_iload k 1 dX8_boats_86 rfl ?_
            refine g_goto k (tgt := 92) dX8_boats_88 (by decide) ?_
            refine g_istore_n k (lv' := [(3, .int o7), (2, .int x2), (7, .int o7), (6, .int o11), (5, .int o7), (0, .ref a0), (1, .int x1), (4, .int x4)]) dX8_boats_92 rfl (by decide) rfl ?_
            refine g_iinc k (lv' := [(4, .int (x4 + 1)), (3, .int o7), (2, .int x2), (7, .int o7), (6, .int o11), (5, .int o7), (0, .ref a0), (1, .int x1)]) 7 dX8_boats_93 rfl (ii_1 _) (by decide) rfl ?_
            refine g_goto k (tgt := 19) dX8_boats_96 (by decide) ?_
            refine g_lv [6, 7, 2, 1, 0] rfl ?_
            exact ih x2 o7 (x4 + 1) o hf hG
        · replace hf := ite_f c17 hf
          refine g_iload k 7 dX8_boats_73 rfl ?_
          refine g_goto k (tgt := 79) dX8_boats_75 (by decide) ?_
          refine g_istore_n k (lv' := [(2, .int x4), (7, .int o7), (6, .int o11), (5, .int o7), (0, .ref a0), (1, .int x1), (3, .int x3), (4, .int x4)]) dX8_boats_79 rfl (by decide) rfl ?_
          refine g_iload k 1 dX8_boats_80 rfl ?_
          refine g_iload_n k 6 dX8_boats_82 rfl rfl ?_
          refine g_icmp_le k (tgt := 91) dX8_boats_83 (by decide) (fun c19 => ?_) (fun c19 => ?_)
          · replace hf := ite_t c19 hf
            refine g_iload_n k 6 dX8_boats_91 rfl rfl ?_
            refine g_istore_n k (lv' := [(3, .int x3), (2, .int x4), (7, .int o7), (6, .int o11), (5, .int o7), (0, .ref a0), (1, .int x1), (4, .int x4)]) dX8_boats_92 rfl (by decide) rfl ?_
            refine g_iinc k (lv' := [(4, .int (x4 + 1)), (3, .int x3), (2, .int x4), (7, .int o7), (6, .int o11), (5, .int o7), (0, .ref a0), (1, .int x1)]) 7 dX8_boats_93 rfl (ii_1 _) (by decide) rfl ?_
            refine g_goto k (tgt := 19) dX8_boats_96 (by decide) ?_
            refine g_lv [6, 7, 2, 1, 0] rfl ?_
            exact ih x4 x3 (x4 + 1) o hf hG
          · replace hf := ite_f c19 hf
            refine g_iload k 1 dX8_boats_86 rfl ?_
            refine g_goto k (tgt := 92) dX8_boats_88 (by decide) ?_
            refine g_istore_n k (lv' := [(3, .int o7), (2, .int x4), (7, .int o7), (6, .int o11), (5, .int o7), (0, .ref a0), (1, .int x1), (4, .int x4)]) dX8_boats_92 rfl (by decide) rfl ?_
            refine g_iinc k (lv' := [(4, .int (x4 + 1)), (3, .int o7), (2, .int x4), (7, .int o7), (6, .int o11), (5, .int o7), (0, .ref a0), (1, .int x1)]) 7 dX8_boats_93 rfl (ii_1 _) (by decide) rfl ?_
            refine g_goto k (tgt := 19) dX8_boats_96 (by decide) ?_
            refine g_lv [6, 7, 2, 1, 0] rfl ?_
            exact ih x4 o7 (x4 + 1) o hf hG
def fX8_boats (N : Nat) (va0_row : Nat → Int32) (x1 : Int32) : Option (Int32) :=
  bnd (fX8_in N x1.toInt64 0 1) fun o1 =>
  if o1 = 0 then
  some ((-1))
  else
  bnd (fX8_boats_L19 N x1 va0_row N 0 (-1) 0) fun o20 =>
  if x1 = 0 then
  some (o20.1)
  else
  some (o20.2.1)
set_option maxHeartbeats 4000000 in
set_option maxRecDepth 100000 in
theorem ctX8_boats (l : Launch) (E : Ev) (N : Nat) (a0 : Nat) (a0_row : Nat) (a0_lanes : Nat) (a0_sizes : Nat) (a0_items : Nat) (a0_tape : Nat) (a0_readIce : Nat) (a0_readPeople : Nat) (a0_readSayings : Nat) (a0_line : Nat) (a0_bestLine : Nat) (a0_seen : Nat) (a0_held : Nat) (va0_isKept : Int32) (va0_length : Int32) (va0_at : Int32) (va0_number : Int32) (va0_readCells : Int32) (va0_readMany : Int32) (va0_readSaid : Int32) (va0_bestFar : Int32) (va0_bestIce : Int32) (va0_row : Nat → Int32) (x1 : Int32) (out : Int32) (hf : fX8_boats N va0_row x1 = some out) : Ct l E yX8_boats cX8_boats 8 (some .int) rmX8_boats [.ref a0, .int x1] [(a0, oB 8 [.ref a0_row, .int va0_isKept, .ref a0_lanes, .ref a0_sizes, .ref a0_items, .ref a0_tape, .int va0_length, .int va0_at, .int va0_number, .ref a0_readIce, .int va0_readCells, .ref a0_readPeople, .int va0_readMany, .ref a0_readSayings, .int va0_readSaid, .ref a0_line, .ref a0_bestLine, .int va0_bestFar, .int va0_bestIce, .ref a0_seen, .ref a0_held]), (a0_row, aI E 525 va0_row)] (Pe (some (.int out)) [(a0, oB 8 [.ref a0_row, .int va0_isKept, .ref a0_lanes, .ref a0_sizes, .ref a0_items, .ref a0_tape, .int va0_length, .int va0_at, .int va0_number, .ref a0_readIce, .int va0_readCells, .ref a0_readPeople, .int va0_readMany, .ref a0_readSayings, .int va0_readSaid, .ref a0_line, .ref a0_bestLine, .int va0_bestFar, .int va0_bestIce, .ref a0_seen, .ref a0_held]), (a0_row, aI E 525 va0_row)]) := by
  refine Ct.of rfl (Nat.le_of_ble_eq_true rfl) (fun K hL k r hin => ?_)
  subst hL
  unfold fX8_boats at hf
  show G E K 8 0 0 [(0, .ref a0), (1, .int x1)] [] [(a0, oB 8 [.ref a0_row, .int va0_isKept, .ref a0_lanes, .ref a0_sizes, .ref a0_items, .ref a0_tape, .int va0_length, .int va0_at, .int va0_number, .ref a0_readIce, .int va0_readCells, .ref a0_readPeople, .int va0_readMany, .ref a0_readSayings, .int va0_readSaid, .ref a0_line, .ref a0_bestLine, .int va0_bestFar, .int va0_bestIce, .ref a0_seen, .ref a0_held]), (a0_row, aI E 525 va0_row)] 0
  refine g_iload_n k 1 dX8_boats_0 rfl rfl ?_
  refine g_i2l k dX8_boats_1 ?_
  refine g_lconst k dX8_boats_2 lc_0 ?_
  refine g_lconst k dX8_boats_3 lc_1 ?_
  obtain ⟨o1, ho2, hf⟩ := bnd_some hf
  refine g_cs k miX8_in msX8_in (ctX8_in (kL K) E N   x1.toInt64 0 1 o1 ho2) [] (ws' := [(a0, oB 8 [.ref a0_row, .int va0_isKept, .ref a0_lanes, .ref a0_sizes, .ref a0_items, .ref a0_tape, .int va0_length, .int va0_at, .int va0_number, .ref a0_readIce, .int va0_readCells, .ref a0_readPeople, .int va0_readMany, .ref a0_readSayings, .int va0_readSaid, .ref a0_line, .ref a0_bestLine, .int va0_bestFar, .int va0_bestIce, .ref a0_seen, .ref a0_held]), (a0_row, aI E 525 va0_row)]) dX8_boats_4 lkX8_47 rfl ⟨rfl, rfl⟩ ⟨by decide, by decide⟩ rfl rfl rfl (Nat.le_of_ble_eq_true rfl) rfl rfl rfl ?_
  refine g_st (st' := [.int o1]) rfl ?_
  refine g_if_ne k (tgt := 12) dX8_boats_7 (by decide) (fun c3 => ?_) (fun c3 => ?_)
  · replace hf := ite_f c3 hf
    refine g_iconst k dX8_boats_12 ic_0 ?_
    refine g_istore_n k (lv' := [(2, .int 0), (0, .ref a0), (1, .int x1)]) dX8_boats_13 rfl (by decide) rfl ?_
    refine g_iconst k dX8_boats_14 ic_m1 ?_
    refine g_istore_n k (lv' := [(3, .int (-1)), (2, .int 0), (0, .ref a0), (1, .int x1)]) dX8_boats_15 rfl (by decide) rfl ?_
    refine g_iconst k dX8_boats_16 ic_0 ?_
    refine g_istore k (lv' := [(4, .int 0), (3, .int (-1)), (2, .int 0), (0, .ref a0), (1, .int x1)]) dX8_boats_17 (by decide) rfl ?_
    obtain ⟨o20, ho21, hf⟩ := bnd_some hf
    refine g_lv [3, 4, 2, 1, 0] (lv' := [(0, .ref a0), (1, .int x1), (2, .int 0), (3, .int (-1)), (4, .int 0)]) rfl ?_
    refine wX8_boats_L19 k N a0 a0_row a0_lanes a0_sizes a0_items a0_tape a0_readIce a0_readPeople a0_readSayings a0_line a0_bestLine a0_seen a0_held  x1 va0_row va0_isKept va0_length va0_at va0_number va0_readCells va0_readMany va0_readSaid va0_bestFar va0_bestIce N 0 (-1) 0 o20 ho21 ?_
    refine g_iload_n k 1 dX8_boats_99 rfl rfl ?_
    refine g_if_ne k (tgt := 107) dX8_boats_100 (by decide) (fun c22 => ?_) (fun c22 => ?_)
    · replace hf := ite_f c22 hf
      refine g_iload_n k 3 dX8_boats_107 rfl rfl ?_
      obtain rfl := Option.some.inj hf
      exact g_iret k r dX8_boats_108 ⟨rfl, rfl⟩
    · replace hf := ite_t c22 hf
      refine g_iload_n k 2 dX8_boats_103 rfl rfl ?_
      refine g_goto k (tgt := 108) dX8_boats_104 (by decide) ?_
      obtain rfl := Option.some.inj hf
      exact g_iret k r dX8_boats_108 ⟨rfl, rfl⟩
  · replace hf := ite_t c3 hf
    refine g_iconst k dX8_boats_10 ic_m1 ?_
    obtain rfl := Option.some.inj hf
    exact g_iret k r dX8_boats_11 ⟨rfl, rfl⟩
abbrev rmX8_see : Room := { frames := 2, cells := 0, slots := 0, locals := 42 }
def fX8_see_L50 (N : Nat) (x1 : Int32) (va0_row : Nat → Int32) : Nat → Int32 → (Nat → Int32) → Option (Int32 × (Nat → Int32))
  | 0, _, _ => none
  | n + 1, x2, va0_seen =>
    if 5 ≤ x2 then
    some (x2, va0_seen)
    else
    ixb (499 + x2) 525 fun κ6 =>
    ixb (((7 * x1) + 2) + x2) 1407 fun κ7 =>
    fX8_see_L50 N x1 va0_row n (x2 + 1) (upd va0_seen κ7 (va0_row κ6))
set_option maxHeartbeats 4000000 in
set_option maxRecDepth 100000 in
theorem wX8_see_L50 {E : Ev} {K : KX} (k : OKX E K cX8_see RX8 3 rmX8_see) (N : Nat) (a0 : Nat) (a0_row : Nat) (a0_lanes : Nat) (a0_sizes : Nat) (a0_items : Nat) (a0_tape : Nat) (a0_readIce : Nat) (a0_readPeople : Nat) (a0_readSayings : Nat) (a0_line : Nat) (a0_bestLine : Nat) (a0_seen : Nat) (a0_held : Nat) (x1 : Int32) (va0_row : Nat → Int32) (va0_isKept : Int32) (va0_length : Int32) (va0_at : Int32) (va0_number : Int32) (va0_readCells : Int32) (va0_readMany : Int32) (va0_readSaid : Int32) (va0_bestFar : Int32) (va0_bestIce : Int32) : ∀ (n : Nat) (x2 : Int32) (va0_seen : Nat → Int32) (o : Int32 × (Nat → Int32)), fX8_see_L50 N x1 va0_row n x2 va0_seen = some o → G E K 3 0 0 [(0, .ref a0), (1, .int x1), (2, .int o.1)] [] [(a0, oB 8 [.ref a0_row, .int va0_isKept, .ref a0_lanes, .ref a0_sizes, .ref a0_items, .ref a0_tape, .int va0_length, .int va0_at, .int va0_number, .ref a0_readIce, .int va0_readCells, .ref a0_readPeople, .int va0_readMany, .ref a0_readSayings, .int va0_readSaid, .ref a0_line, .ref a0_bestLine, .int va0_bestFar, .int va0_bestIce, .ref a0_seen, .ref a0_held]), (a0_row, aI E 525 va0_row), (a0_seen, aI E 1407 o.2)] 84 → G E K 3 0 0 [(0, .ref a0), (1, .int x1), (2, .int x2)] [] [(a0, oB 8 [.ref a0_row, .int va0_isKept, .ref a0_lanes, .ref a0_sizes, .ref a0_items, .ref a0_tape, .int va0_length, .int va0_at, .int va0_number, .ref a0_readIce, .int va0_readCells, .ref a0_readPeople, .int va0_readMany, .ref a0_readSayings, .int va0_readSaid, .ref a0_line, .ref a0_bestLine, .int va0_bestFar, .int va0_bestIce, .ref a0_seen, .ref a0_held]), (a0_row, aI E 525 va0_row), (a0_seen, aI E 1407 va0_seen)] 50 := by
  intro n
  induction n with
  | zero => intro x2 va0_seen o hf; cases hf
  | succ n ih =>
    intro x2 va0_seen o hf hG
    rw [fX8_see_L50] at hf
    refine g_iload_n k 2 dX8_see_50 rfl rfl ?_
    refine g_iconst k dX8_see_51 ic_5 ?_
    refine g_icmp_ge k (tgt := 84) dX8_see_52 (by decide) (fun c5 => ?_) (fun c5 => ?_)
    · replace hf := ite_t c5 hf
      refine g_lv [0, 1, 2] rfl ?_
      obtain rfl := Option.some.inj hf
      exact hG
    · replace hf := ite_f c5 hf
      refine g_aload_n k 0 dX8_see_55 rfl rfl ?_
      refine g_get k cfX8 19 0 dX8_see_56 lkX8_41 (by decide) rfl rfl ?_
      refine g_bipush k dX8_see_59 bi_7 ?_
      refine g_iload_n k 1 dX8_see_61 rfl rfl ?_
      refine g_imul k dX8_see_62 ?_
      refine g_iconst k dX8_see_63 ic_2 ?_
      refine g_iadd k dX8_see_64 ?_
      refine g_iload_n k 2 dX8_see_65 rfl rfl ?_
      refine g_iadd k dX8_see_66 ?_
      refine g_aload_n k 0 dX8_see_67 rfl rfl ?_
      refine g_get k cfX8 0 0 dX8_see_68 lkX8_7 (by decide) rfl rfl ?_
      refine g_sipush k dX8_see_71 si_499 ?_
      refine g_iload_n k 2 dX8_see_74 rfl rfl ?_
      refine g_iadd k dX8_see_75 ?_
      obtain ⟨κ6, hκ6, hiκ6, heκ6, hf⟩ := ixb_some hf
      refine g_iaload k 1 dX8_see_76 rfl hiκ6 heκ6 ?_
      obtain ⟨κ7, hκ7, hiκ7, heκ7, hf⟩ := ixb_some hf
      refine g_iastore k 2 (ws' := [(a0, oB 8 [.ref a0_row, .int va0_isKept, .ref a0_lanes, .ref a0_sizes, .ref a0_items, .ref a0_tape, .int va0_length, .int va0_at, .int va0_number, .ref a0_readIce, .int va0_readCells, .ref a0_readPeople, .int va0_readMany, .ref a0_readSayings, .int va0_readSaid, .ref a0_line, .ref a0_bestLine, .int va0_bestFar, .int va0_bestIce, .ref a0_seen, .ref a0_held]), (a0_row, aI E 525 va0_row), (a0_seen, aI E 1407 (upd va0_seen κ7 (va0_row κ6)))]) dX8_see_77 rfl hiκ7 heκ7 rfl ?_
      refine g_iinc k (lv' := [(2, .int (x2 + 1)), (0, .ref a0), (1, .int x1)]) 2 dX8_see_78 rfl (ii_1 _) (by decide) rfl ?_
      refine g_goto k (tgt := 50) dX8_see_81 (by decide) ?_
      refine g_lv [1, 2, 0] rfl ?_
      exact ih (x2 + 1) (upd va0_seen κ7 (va0_row κ6)) o hf hG
def fX8_see (N : Nat) (va0_row : Nat → Int32) (va0_seen : Nat → Int32) (x1 : Int32) : Option ((Nat → Int32)) :=
  ixb (7 * x1) 1407 fun κ1 =>
  bnd (fX8_iceAhead N va0_row 484) fun o2 =>
  ixb ((7 * x1) + 1) 1407 fun κ4 =>
  bnd (fX8_see_L50 N x1 va0_row N 0 (upd (upd va0_seen κ1 (va0_row 484)) κ4 ((2 * o2) + (irem (va0_row 485) 2)))) fun o8 =>
  some (o8.2)
set_option maxHeartbeats 4000000 in
set_option maxRecDepth 100000 in
theorem ctX8_see (l : Launch) (E : Ev) (N : Nat) (a0 : Nat) (a0_row : Nat) (a0_lanes : Nat) (a0_sizes : Nat) (a0_items : Nat) (a0_tape : Nat) (a0_readIce : Nat) (a0_readPeople : Nat) (a0_readSayings : Nat) (a0_line : Nat) (a0_bestLine : Nat) (a0_seen : Nat) (a0_held : Nat) (va0_isKept : Int32) (va0_length : Int32) (va0_at : Int32) (va0_number : Int32) (va0_readCells : Int32) (va0_readMany : Int32) (va0_readSaid : Int32) (va0_bestFar : Int32) (va0_bestIce : Int32) (va0_row : Nat → Int32) (va0_seen : Nat → Int32) (x1 : Int32) (out : (Nat → Int32)) (hf : fX8_see N va0_row va0_seen x1 = some out) : Ct l E yX8_see cX8_see 3 none rmX8_see [.ref a0, .int x1] [(a0, oB 8 [.ref a0_row, .int va0_isKept, .ref a0_lanes, .ref a0_sizes, .ref a0_items, .ref a0_tape, .int va0_length, .int va0_at, .int va0_number, .ref a0_readIce, .int va0_readCells, .ref a0_readPeople, .int va0_readMany, .ref a0_readSayings, .int va0_readSaid, .ref a0_line, .ref a0_bestLine, .int va0_bestFar, .int va0_bestIce, .ref a0_seen, .ref a0_held]), (a0_row, aI E 525 va0_row), (a0_seen, aI E 1407 va0_seen)] (Pe none [(a0, oB 8 [.ref a0_row, .int va0_isKept, .ref a0_lanes, .ref a0_sizes, .ref a0_items, .ref a0_tape, .int va0_length, .int va0_at, .int va0_number, .ref a0_readIce, .int va0_readCells, .ref a0_readPeople, .int va0_readMany, .ref a0_readSayings, .int va0_readSaid, .ref a0_line, .ref a0_bestLine, .int va0_bestFar, .int va0_bestIce, .ref a0_seen, .ref a0_held]), (a0_row, aI E 525 va0_row), (a0_seen, aI E 1407 out)]) := by
  refine Ct.of rfl (Nat.le_of_ble_eq_true rfl) (fun K hL k r hin => ?_)
  subst hL
  unfold fX8_see at hf
  show G E K 3 0 0 [(0, .ref a0), (1, .int x1)] [] [(a0, oB 8 [.ref a0_row, .int va0_isKept, .ref a0_lanes, .ref a0_sizes, .ref a0_items, .ref a0_tape, .int va0_length, .int va0_at, .int va0_number, .ref a0_readIce, .int va0_readCells, .ref a0_readPeople, .int va0_readMany, .ref a0_readSayings, .int va0_readSaid, .ref a0_line, .ref a0_bestLine, .int va0_bestFar, .int va0_bestIce, .ref a0_seen, .ref a0_held]), (a0_row, aI E 525 va0_row), (a0_seen, aI E 1407 va0_seen)] 0
  refine g_aload_n k 0 dX8_see_0 rfl rfl ?_
  refine g_get k cfX8 19 0 dX8_see_1 lkX8_41 (by decide) rfl rfl ?_
  refine g_bipush k dX8_see_4 bi_7 ?_
  refine g_iload_n k 1 dX8_see_6 rfl rfl ?_
  refine g_imul k dX8_see_7 ?_
  refine g_aload_n k 0 dX8_see_8 rfl rfl ?_
  refine g_get k cfX8 0 0 dX8_see_9 lkX8_7 (by decide) rfl rfl ?_
  refine g_sipush k dX8_see_12 si_484 ?_
  refine g_iaload k 1 dX8_see_15 rfl vi_484_525 cl_484 ?_
  obtain ⟨κ1, hκ1, hiκ1, heκ1, hf⟩ := ixb_some hf
  refine g_iastore k 2 (ws' := [(a0, oB 8 [.ref a0_row, .int va0_isKept, .ref a0_lanes, .ref a0_sizes, .ref a0_items, .ref a0_tape, .int va0_length, .int va0_at, .int va0_number, .ref a0_readIce, .int va0_readCells, .ref a0_readPeople, .int va0_readMany, .ref a0_readSayings, .int va0_readSaid, .ref a0_line, .ref a0_bestLine, .int va0_bestFar, .int va0_bestIce, .ref a0_seen, .ref a0_held]), (a0_row, aI E 525 va0_row), (a0_seen, aI E 1407 (upd va0_seen κ1 (va0_row 484)))]) dX8_see_16 rfl hiκ1 heκ1 rfl ?_
  refine g_aload_n k 0 dX8_see_17 rfl rfl ?_
  refine g_get k cfX8 19 0 dX8_see_18 lkX8_41 (by decide) rfl rfl ?_
  refine g_bipush k dX8_see_21 bi_7 ?_
  refine g_iload_n k 1 dX8_see_23 rfl rfl ?_
  refine g_imul k dX8_see_24 ?_
  refine g_iconst k dX8_see_25 ic_1 ?_
  refine g_iadd k dX8_see_26 ?_
  refine g_iconst k dX8_see_27 ic_2 ?_
  refine g_aload_n k 0 dX8_see_28 rfl rfl ?_
  refine g_sipush k dX8_see_29 si_484 ?_
  obtain ⟨o2, ho3, hf⟩ := bnd_some hf
  refine g_cv k miX8_iceAhead mvX8_iceAhead (ctX8_iceAhead (kL K) E N a0 a0_row a0_lanes a0_sizes a0_items a0_tape a0_readIce a0_readPeople a0_readSayings a0_line a0_bestLine a0_seen a0_held va0_isKept va0_length va0_at va0_number va0_readCells va0_readMany va0_readSaid va0_bestFar va0_bestIce va0_row 484 o2 ho3) [0, 1] 0 (ws' := [(a0, oB 8 [.ref a0_row, .int va0_isKept, .ref a0_lanes, .ref a0_sizes, .ref a0_items, .ref a0_tape, .int va0_length, .int va0_at, .int va0_number, .ref a0_readIce, .int va0_readCells, .ref a0_readPeople, .int va0_readMany, .ref a0_readSayings, .int va0_readSaid, .ref a0_line, .ref a0_bestLine, .int va0_bestFar, .int va0_bestIce, .ref a0_seen, .ref a0_held]), (a0_row, aI E 525 va0_row), (a0_seen, aI E 1407 (upd va0_seen κ1 (va0_row 484)))]) dX8_see_32 lkX8_202 rfl ⟨rfl, rfl⟩ ⟨by decide, by decide⟩ rfl rfl rfl rfl (Nat.le_of_ble_eq_true rfl) rfl rfl rfl ?_
  refine g_st (st' := [.int o2, .int 2, .int ((7 * x1) + 1), .ref a0_seen]) rfl ?_
  refine g_imul k dX8_see_35 ?_
  refine g_aload_n k 0 dX8_see_36 rfl rfl ?_
  refine g_get k cfX8 0 0 dX8_see_37 lkX8_7 (by decide) rfl rfl ?_
  refine g_sipush k dX8_see_40 si_485 ?_
  refine g_iaload k 1 dX8_see_43 rfl vi_485_525 cl_485 ?_
  refine g_iconst k dX8_see_44 ic_2 ?_
  refine g_irem k dX8_see_45 (by decide) ?_
  refine g_iadd k dX8_see_46 ?_
  obtain ⟨κ4, hκ4, hiκ4, heκ4, hf⟩ := ixb_some hf
  refine g_iastore k 2 (ws' := [(a0, oB 8 [.ref a0_row, .int va0_isKept, .ref a0_lanes, .ref a0_sizes, .ref a0_items, .ref a0_tape, .int va0_length, .int va0_at, .int va0_number, .ref a0_readIce, .int va0_readCells, .ref a0_readPeople, .int va0_readMany, .ref a0_readSayings, .int va0_readSaid, .ref a0_line, .ref a0_bestLine, .int va0_bestFar, .int va0_bestIce, .ref a0_seen, .ref a0_held]), (a0_row, aI E 525 va0_row), (a0_seen, aI E 1407 (upd (upd va0_seen κ1 (va0_row 484)) κ4 ((2 * o2) + (irem (va0_row 485) 2))))]) dX8_see_47 rfl hiκ4 heκ4 rfl ?_
  refine g_iconst k dX8_see_48 ic_0 ?_
  refine g_istore_n k (lv' := [(2, .int 0), (0, .ref a0), (1, .int x1)]) dX8_see_49 rfl (by decide) rfl ?_
  obtain ⟨o8, ho9, hf⟩ := bnd_some hf
  refine g_lv [1, 2, 0] (lv' := [(0, .ref a0), (1, .int x1), (2, .int 0)]) rfl ?_
  refine wX8_see_L50 k N a0 a0_row a0_lanes a0_sizes a0_items a0_tape a0_readIce a0_readPeople a0_readSayings a0_line a0_bestLine a0_seen a0_held  x1 va0_row va0_isKept va0_length va0_at va0_number va0_readCells va0_readMany va0_readSaid va0_bestFar va0_bestIce N 0 (upd (upd va0_seen κ1 (va0_row 484)) κ4 ((2 * o2) + (irem (va0_row 485) 2))) o8 ho9 ?_
  obtain rfl := Option.some.inj hf
  exact g_vret k r dX8_see_84 ⟨rfl, rfl⟩
abbrev rmX8_areAlike : Room := { frames := 0, cells := 0, slots := 0, locals := 0 }
def fX8_areAlike_L5 (N : Nat) (x1 : Int32) (x2 : Int32) (va0_seen : Nat → Int32) : Nat → Int32 → Int32 → Option (Int32 × Int32)
  | 0, _, _ => none
  | n + 1, x3, x4 =>
    if 7 ≤ x4 then
    some (x3, x4)
    else
    if x3 = 0 then
    fX8_areAlike_L5 N x1 x2 va0_seen n 0 (x4 + 1)
    else
    ixb ((7 * x1) + x4) 1407 fun κ3 =>
    ixb ((7 * x2) + x4) 1407 fun κ4 =>
    if (va0_seen κ3) = (va0_seen κ4) then
    fX8_areAlike_L5 N x1 x2 va0_seen n 1 (x4 + 1)
    else
    fX8_areAlike_L5 N x1 x2 va0_seen n 0 (x4 + 1)
set_option maxHeartbeats 4000000 in
set_option maxRecDepth 100000 in
theorem wX8_areAlike_L5 {E : Ev} {K : KX} (k : OKX E K cX8_areAlike RX8 5 rmX8_areAlike) (N : Nat) (a0 : Nat) (a0_row : Nat) (a0_lanes : Nat) (a0_sizes : Nat) (a0_items : Nat) (a0_tape : Nat) (a0_readIce : Nat) (a0_readPeople : Nat) (a0_readSayings : Nat) (a0_line : Nat) (a0_bestLine : Nat) (a0_seen : Nat) (a0_held : Nat) (x1 : Int32) (x2 : Int32) (va0_seen : Nat → Int32) (va0_isKept : Int32) (va0_length : Int32) (va0_at : Int32) (va0_number : Int32) (va0_readCells : Int32) (va0_readMany : Int32) (va0_readSaid : Int32) (va0_bestFar : Int32) (va0_bestIce : Int32) : ∀ (n : Nat) (x3 : Int32) (x4 : Int32) (o : Int32 × Int32), fX8_areAlike_L5 N x1 x2 va0_seen n x3 x4 = some o → G E K 5 0 0 [(0, .ref a0), (1, .int x1), (2, .int x2), (3, .int o.1), (4, .int o.2)] [] [(a0, oB 8 [.ref a0_row, .int va0_isKept, .ref a0_lanes, .ref a0_sizes, .ref a0_items, .ref a0_tape, .int va0_length, .int va0_at, .int va0_number, .ref a0_readIce, .int va0_readCells, .ref a0_readPeople, .int va0_readMany, .ref a0_readSayings, .int va0_readSaid, .ref a0_line, .ref a0_bestLine, .int va0_bestFar, .int va0_bestIce, .ref a0_seen, .ref a0_held]), (a0_seen, aI E 1407 va0_seen)] 55 → G E K 5 0 0 [(0, .ref a0), (1, .int x1), (2, .int x2), (3, .int x3), (4, .int x4)] [] [(a0, oB 8 [.ref a0_row, .int va0_isKept, .ref a0_lanes, .ref a0_sizes, .ref a0_items, .ref a0_tape, .int va0_length, .int va0_at, .int va0_number, .ref a0_readIce, .int va0_readCells, .ref a0_readPeople, .int va0_readMany, .ref a0_readSayings, .int va0_readSaid, .ref a0_line, .ref a0_bestLine, .int va0_bestFar, .int va0_bestIce, .ref a0_seen, .ref a0_held]), (a0_seen, aI E 1407 va0_seen)] 5 := by
  intro n
  induction n with
  | zero => intro x3 x4 o hf; cases hf
  | succ n ih =>
    intro x3 x4 o hf hG
    rw [fX8_areAlike_L5] at hf
    refine g_iload k 4 dX8_areAlike_5 rfl ?_
    refine g_bipush k dX8_areAlike_7 bi_7 ?_
    refine g_icmp_ge k (tgt := 55) dX8_areAlike_9 (by decide) (fun c1 => ?_) (fun c1 => ?_)
    · replace hf := ite_t c1 hf
      refine g_lv [0, 1, 2, 3, 4] rfl ?_
      obtain rfl := Option.some.inj hf
      exact hG
    · replace hf := ite_f c1 hf
      refine g_iload_n k 3 dX8_areAlike_12 rfl rfl ?_
      refine g_if_eq k (tgt := 47) dX8_areAlike_13 (by decide) (fun c2 => ?_) (fun c2 => ?_)
      · replace hf := ite_t c2 hf
        refine g_iconst k dX8_areAlike_47 ic_0 ?_
        refine g_istore_n k (lv' := [(3, .int 0), (0, .ref a0), (1, .int x1), (2, .int x2), (4, .int x4)]) dX8_areAlike_48 rfl (by decide) rfl ?_
        refine g_iinc k (lv' := [(4, .int (x4 + 1)), (3, .int 0), (0, .ref a0), (1, .int x1), (2, .int x2)]) 4 dX8_areAlike_49 rfl (ii_1 _) (by decide) rfl ?_
        refine g_goto k (tgt := 5) dX8_areAlike_52 (by decide) ?_
        refine g_lv [2, 3, 4, 1, 0] rfl ?_
        exact ih 0 (x4 + 1) o hf hG
      · replace hf := ite_f c2 hf
        refine g_aload_n k 0 dX8_areAlike_16 rfl rfl ?_
        refine g_get k cfX8 19 0 dX8_areAlike_17 lkX8_41 (by decide) rfl rfl ?_
        refine g_bipush k dX8_areAlike_20 bi_7 ?_
        refine g_iload_n k 1 dX8_areAlike_22 rfl rfl ?_
        refine g_imul k dX8_areAlike_23 ?_
        refine g_iload k 4 dX8_areAlike_24 rfl ?_
        refine g_iadd k dX8_areAlike_26 ?_
        obtain ⟨κ3, hκ3, hiκ3, heκ3, hf⟩ := ixb_some hf
        refine g_iaload k 1 dX8_areAlike_27 rfl hiκ3 heκ3 ?_
        refine g_aload_n k 0 dX8_areAlike_28 rfl rfl ?_
        refine g_get k cfX8 19 0 dX8_areAlike_29 lkX8_41 (by decide) rfl rfl ?_
        refine g_bipush k dX8_areAlike_32 bi_7 ?_
        refine g_iload_n k 2 dX8_areAlike_34 rfl rfl ?_
        refine g_imul k dX8_areAlike_35 ?_
        refine g_iload k 4 dX8_areAlike_36 rfl ?_
        refine g_iadd k dX8_areAlike_38 ?_
        obtain ⟨κ4, hκ4, hiκ4, heκ4, hf⟩ := ixb_some hf
        refine g_iaload k 1 dX8_areAlike_39 rfl hiκ4 heκ4 ?_
        refine g_icmp_ne k (tgt := 47) dX8_areAlike_40 (by decide) (fun c5 => ?_) (fun c5 => ?_)
        · replace hf := ite_f c5 hf
          refine g_iconst k dX8_areAlike_47 ic_0 ?_
          refine g_istore_n k (lv' := [(3, .int 0), (0, .ref a0), (1, .int x1), (2, .int x2), (4, .int x4)]) dX8_areAlike_48 rfl (by decide) rfl ?_
          refine g_iinc k (lv' := [(4, .int (x4 + 1)), (3, .int 0), (0, .ref a0), (1, .int x1), (2, .int x2)]) 4 dX8_areAlike_49 rfl (ii_1 _) (by decide) rfl ?_
          refine g_goto k (tgt := 5) dX8_areAlike_52 (by decide) ?_
          refine g_lv [2, 3, 4, 1, 0] rfl ?_
          exact ih 0 (x4 + 1) o hf hG
        · replace hf := ite_t c5 hf
          refine g_iconst k dX8_areAlike_43 ic_1 ?_
          refine g_goto k (tgt := 48) dX8_areAlike_44 (by decide) ?_
          refine g_istore_n k (lv' := [(3, .int 1), (0, .ref a0), (1, .int x1), (2, .int x2), (4, .int x4)]) dX8_areAlike_48 rfl (by decide) rfl ?_
          refine g_iinc k (lv' := [(4, .int (x4 + 1)), (3, .int 1), (0, .ref a0), (1, .int x1), (2, .int x2)]) 4 dX8_areAlike_49 rfl (ii_1 _) (by decide) rfl ?_
          refine g_goto k (tgt := 5) dX8_areAlike_52 (by decide) ?_
          refine g_lv [2, 3, 4, 1, 0] rfl ?_
          exact ih 1 (x4 + 1) o hf hG
def fX8_areAlike (N : Nat) (va0_seen : Nat → Int32) (x1 : Int32) (x2 : Int32) : Option (Int32) :=
  bnd (fX8_areAlike_L5 N x1 x2 va0_seen N 1 0) fun o6 =>
  zb o6.1 (some (o6.1))
set_option maxHeartbeats 4000000 in
set_option maxRecDepth 100000 in
theorem ctX8_areAlike (l : Launch) (E : Ev) (N : Nat) (a0 : Nat) (a0_row : Nat) (a0_lanes : Nat) (a0_sizes : Nat) (a0_items : Nat) (a0_tape : Nat) (a0_readIce : Nat) (a0_readPeople : Nat) (a0_readSayings : Nat) (a0_line : Nat) (a0_bestLine : Nat) (a0_seen : Nat) (a0_held : Nat) (va0_isKept : Int32) (va0_length : Int32) (va0_at : Int32) (va0_number : Int32) (va0_readCells : Int32) (va0_readMany : Int32) (va0_readSaid : Int32) (va0_bestFar : Int32) (va0_bestIce : Int32) (va0_seen : Nat → Int32) (x1 : Int32) (x2 : Int32) (out : Int32) (hf : fX8_areAlike N va0_seen x1 x2 = some out) : Ct l E yX8_areAlike cX8_areAlike 5 (some .boolean) rmX8_areAlike [.ref a0, .int x1, .int x2] [(a0, oB 8 [.ref a0_row, .int va0_isKept, .ref a0_lanes, .ref a0_sizes, .ref a0_items, .ref a0_tape, .int va0_length, .int va0_at, .int va0_number, .ref a0_readIce, .int va0_readCells, .ref a0_readPeople, .int va0_readMany, .ref a0_readSayings, .int va0_readSaid, .ref a0_line, .ref a0_bestLine, .int va0_bestFar, .int va0_bestIce, .ref a0_seen, .ref a0_held]), (a0_seen, aI E 1407 va0_seen)] (Pe (some (.int out)) [(a0, oB 8 [.ref a0_row, .int va0_isKept, .ref a0_lanes, .ref a0_sizes, .ref a0_items, .ref a0_tape, .int va0_length, .int va0_at, .int va0_number, .ref a0_readIce, .int va0_readCells, .ref a0_readPeople, .int va0_readMany, .ref a0_readSayings, .int va0_readSaid, .ref a0_line, .ref a0_bestLine, .int va0_bestFar, .int va0_bestIce, .ref a0_seen, .ref a0_held]), (a0_seen, aI E 1407 va0_seen)]) := by
  refine Ct.of rfl (Nat.le_of_ble_eq_true rfl) (fun K hL k r hin => ?_)
  subst hL
  unfold fX8_areAlike at hf
  show G E K 5 0 0 [(0, .ref a0), (1, .int x1), (2, .int x2)] [] [(a0, oB 8 [.ref a0_row, .int va0_isKept, .ref a0_lanes, .ref a0_sizes, .ref a0_items, .ref a0_tape, .int va0_length, .int va0_at, .int va0_number, .ref a0_readIce, .int va0_readCells, .ref a0_readPeople, .int va0_readMany, .ref a0_readSayings, .int va0_readSaid, .ref a0_line, .ref a0_bestLine, .int va0_bestFar, .int va0_bestIce, .ref a0_seen, .ref a0_held]), (a0_seen, aI E 1407 va0_seen)] 0
  refine g_iconst k dX8_areAlike_0 ic_1 ?_
  refine g_istore_n k (lv' := [(3, .int 1), (0, .ref a0), (1, .int x1), (2, .int x2)]) dX8_areAlike_1 rfl (by decide) rfl ?_
  refine g_iconst k dX8_areAlike_2 ic_0 ?_
  refine g_istore k (lv' := [(4, .int 0), (3, .int 1), (0, .ref a0), (1, .int x1), (2, .int x2)]) dX8_areAlike_3 (by decide) rfl ?_
  obtain ⟨o6, ho7, hf⟩ := bnd_some hf
  refine g_lv [2, 3, 4, 1, 0] (lv' := [(0, .ref a0), (1, .int x1), (2, .int x2), (3, .int 1), (4, .int 0)]) rfl ?_
  refine wX8_areAlike_L5 k N a0 a0_row a0_lanes a0_sizes a0_items a0_tape a0_readIce a0_readPeople a0_readSayings a0_line a0_bestLine a0_seen a0_held  x1 x2 va0_seen va0_isKept va0_length va0_at va0_number va0_readCells va0_readMany va0_readSaid va0_bestFar va0_bestIce N 1 0 o6 ho7 ?_
  refine g_iload_n k 3 dX8_areAlike_55 rfl rfl ?_
  obtain ⟨hz8, hf⟩ := zb_some hf
  obtain rfl := Option.some.inj hf
  exact g_zret k (zb_nar hz8) r dX8_areAlike_56 ⟨rfl, rfl⟩
abbrev rmX8_ring : Room := { frames := 6, cells := 0, slots := 0, locals := 147 }
def fX8_ring_L51 (N : Nat) (x1 : Int32) (x2 : Int32) (va0_row : Nat → Int32) (va0_seen : Nat → Int32) : Nat → Int32 → Option ((Int32 × (Nat → Int32) × (Nat → Int32)) ⊕ (Int32))
  | 0, _ => none
  | n + 1, x3 =>
    if x2 ≤ x3 then
    some (.inr (x3))
    else
    bnd (fX8_areAlike N va0_seen x3 x2) fun o16 =>
    if o16 = 0 then
    fX8_ring_L51 N x1 x2 va0_row va0_seen n (x3 + 1)
    else
    if x1 = 0 then
    some (.inl (x2, va0_row, va0_seen))
    else
    some (.inl ((x2 - x3), va0_row, va0_seen))
set_option maxHeartbeats 4000000 in
set_option maxRecDepth 100000 in
theorem wX8_ring_L51 {E : Ev} {K : KX} (k : OKX E K cX8_ring RX8 4 rmX8_ring) (N : Nat) (a0 : Nat) (a0_row : Nat) (a0_lanes : Nat) (a0_sizes : Nat) (a0_items : Nat) (a0_tape : Nat) (a0_readIce : Nat) (a0_readPeople : Nat) (a0_readSayings : Nat) (a0_line : Nat) (a0_bestLine : Nat) (a0_seen : Nat) (a0_held : Nat) (x1 : Int32) (x2 : Int32) (va0_row : Nat → Int32) (va0_seen : Nat → Int32) (va0_isKept : Int32) (va0_length : Int32) (va0_at : Int32) (va0_number : Int32) (va0_readCells : Int32) (va0_readMany : Int32) (va0_readSaid : Int32) (va0_bestFar : Int32) (va0_bestIce : Int32) {out : Int32 × (Nat → Int32) × (Nat → Int32)} (r : RTX E K 0 0 (some .int) (Pe (some (.int out.1)) [(a0, oB 8 [.ref a0_row, .int va0_isKept, .ref a0_lanes, .ref a0_sizes, .ref a0_items, .ref a0_tape, .int va0_length, .int va0_at, .int va0_number, .ref a0_readIce, .int va0_readCells, .ref a0_readPeople, .int va0_readMany, .ref a0_readSayings, .int va0_readSaid, .ref a0_line, .ref a0_bestLine, .int va0_bestFar, .int va0_bestIce, .ref a0_seen, .ref a0_held]), (a0_row, aI E 525 out.2.1), (a0_seen, aI E 1407 out.2.2)])) : ∀ (n : Nat) (x3 : Int32) (o : (Int32 × (Nat → Int32) × (Nat → Int32)) ⊕ (Int32)), fX8_ring_L51 N x1 x2 va0_row va0_seen n x3 = some o → (∀ w, o = .inl w → w = out) → (∀ v, o = .inr v → G E K 4 0 0 [(0, .ref a0), (1, .int x1), (2, .int x2), (3, .int v)] [] [(a0, oB 8 [.ref a0_row, .int va0_isKept, .ref a0_lanes, .ref a0_sizes, .ref a0_items, .ref a0_tape, .int va0_length, .int va0_at, .int va0_number, .ref a0_readIce, .int va0_readCells, .ref a0_readPeople, .int va0_readMany, .ref a0_readSayings, .int va0_readSaid, .ref a0_line, .ref a0_bestLine, .int va0_bestFar, .int va0_bestIce, .ref a0_seen, .ref a0_held]), (a0_row, aI E 525 va0_row), (a0_seen, aI E 1407 va0_seen)] 83) → G E K 4 0 0 [(0, .ref a0), (1, .int x1), (2, .int x2), (3, .int x3)] [] [(a0, oB 8 [.ref a0_row, .int va0_isKept, .ref a0_lanes, .ref a0_sizes, .ref a0_items, .ref a0_tape, .int va0_length, .int va0_at, .int va0_number, .ref a0_readIce, .int va0_readCells, .ref a0_readPeople, .int va0_readMany, .ref a0_readSayings, .int va0_readSaid, .ref a0_line, .ref a0_bestLine, .int va0_bestFar, .int va0_bestIce, .ref a0_seen, .ref a0_held]), (a0_row, aI E 525 va0_row), (a0_seen, aI E 1407 va0_seen)] 51 := by
  intro n
  induction n with
  | zero => intro x3 o hf; cases hf
  | succ n ih =>
    intro x3 o hf hr hG
    rw [fX8_ring_L51] at hf
    refine g_iload_n k 3 dX8_ring_51 rfl rfl ?_
    refine g_iload_n k 2 dX8_ring_52 rfl rfl ?_
    refine g_icmp_ge k (tgt := 83) dX8_ring_53 (by decide) (fun c15 => ?_) (fun c15 => ?_)
    · replace hf := ite_t c15 hf
      refine g_lv [0, 1, 2, 3] rfl ?_
      obtain rfl := Option.some.inj hf
      exact hG _ rfl
    · replace hf := ite_f c15 hf
      refine g_aload_n k 0 dX8_ring_56 rfl rfl ?_
      refine g_iload_n k 3 dX8_ring_57 rfl rfl ?_
      refine g_iload_n k 2 dX8_ring_58 rfl rfl ?_
      obtain ⟨o16, ho17, hf⟩ := bnd_some hf
      refine g_cv k miX8_areAlike mvX8_areAlike (ctX8_areAlike (kL K) E N a0 a0_row a0_lanes a0_sizes a0_items a0_tape a0_readIce a0_readPeople a0_readSayings a0_line a0_bestLine a0_seen a0_held va0_isKept va0_length va0_at va0_number va0_readCells va0_readMany va0_readSaid va0_bestFar va0_bestIce va0_seen x3 x2 o16 ho17) [0, 2] 0 (ws' := [(a0, oB 8 [.ref a0_row, .int va0_isKept, .ref a0_lanes, .ref a0_sizes, .ref a0_items, .ref a0_tape, .int va0_length, .int va0_at, .int va0_number, .ref a0_readIce, .int va0_readCells, .ref a0_readPeople, .int va0_readMany, .ref a0_readSayings, .int va0_readSaid, .ref a0_line, .ref a0_bestLine, .int va0_bestFar, .int va0_bestIce, .ref a0_seen, .ref a0_held]), (a0_row, aI E 525 va0_row), (a0_seen, aI E 1407 va0_seen)]) dX8_ring_59 lkX8_239 rfl ⟨rfl, rfl⟩ ⟨by decide, by decide⟩ rfl rfl rfl rfl (Nat.le_of_ble_eq_true rfl) rfl rfl rfl ?_
      refine g_st (st' := [.int o16]) rfl ?_
      refine g_if_eq k (tgt := 77) dX8_ring_62 (by decide) (fun c18 => ?_) (fun c18 => ?_)
      · replace hf := ite_t c18 hf
        refine g_iinc k (lv' := [(3, .int (x3 + 1)), (0, .ref a0), (1, .int x1), (2, .int x2)]) 3 dX8_ring_77 rfl (ii_1 _) (by decide) rfl ?_
        refine g_goto k (tgt := 51) dX8_ring_80 (by decide) ?_
        refine g_lv [1, 2, 3, 0] rfl ?_
        exact ih (x3 + 1) o hf hr hG
      · replace hf := ite_f c18 hf
        refine g_iload_n k 1 dX8_ring_65 rfl rfl ?_
        refine g_if_ne k (tgt := 73) dX8_ring_66 (by decide) (fun c19 => ?_) (fun c19 => ?_)
        · replace hf := ite_f c19 hf
          refine g_iload_n k 2 dX8_ring_73 rfl rfl ?_
          refine g_iload_n k 3 dX8_ring_74 rfl rfl ?_
          refine g_isub k dX8_ring_75 ?_
          obtain rfl := Option.some.inj hf
          obtain rfl := hr _ rfl
          exact g_iret k r dX8_ring_76 ⟨rfl, rfl⟩
        · replace hf := ite_t c19 hf
          refine g_iload_n k 2 dX8_ring_69 rfl rfl ?_
          refine g_goto k (tgt := 76) dX8_ring_70 (by decide) ?_
          obtain rfl := Option.some.inj hf
          obtain rfl := hr _ rfl
          exact g_iret k r dX8_ring_76 ⟨rfl, rfl⟩
def fX8_ring_L23 (N : Nat) (x1 : Int32) : Nat → Int32 → (Nat → Int32) → (Nat → Int32) → Option ((Int32 × (Nat → Int32) × (Nat → Int32)) ⊕ (Int32 × (Nat → Int32) × (Nat → Int32)))
  | 0, _, _, _ => none
  | n + 1, x2, va0_row, va0_seen =>
    if 201 ≤ x2 then
    some (.inr (x2, va0_row, va0_seen))
    else
    bnd (fX8_nextAt N va0_row 484) fun o9 =>
    bnd (fX8_pass N va0_row 484 o9) fun o11 =>
    bnd (fX8_see N o11 va0_seen x2) fun o13 =>
    bnd (fX8_ring_L51 N x1 x2 o11 o13 N 0) fun o20 => lret2 o20 fun v22 =>
    fX8_ring_L23 N x1 n (x2 + 1) o11 o13
set_option maxHeartbeats 4000000 in
set_option maxRecDepth 100000 in
theorem wX8_ring_L23 {E : Ev} {K : KX} (k : OKX E K cX8_ring RX8 4 rmX8_ring) (N : Nat) (a0 : Nat) (a0_row : Nat) (a0_lanes : Nat) (a0_sizes : Nat) (a0_items : Nat) (a0_tape : Nat) (a0_readIce : Nat) (a0_readPeople : Nat) (a0_readSayings : Nat) (a0_line : Nat) (a0_bestLine : Nat) (a0_seen : Nat) (a0_held : Nat) (x1 : Int32) (va0_isKept : Int32) (va0_length : Int32) (va0_at : Int32) (va0_number : Int32) (va0_readCells : Int32) (va0_readMany : Int32) (va0_readSaid : Int32) (va0_bestFar : Int32) (va0_bestIce : Int32) {out : Int32 × (Nat → Int32) × (Nat → Int32)} (r : RTX E K 0 0 (some .int) (Pe (some (.int out.1)) [(a0, oB 8 [.ref a0_row, .int va0_isKept, .ref a0_lanes, .ref a0_sizes, .ref a0_items, .ref a0_tape, .int va0_length, .int va0_at, .int va0_number, .ref a0_readIce, .int va0_readCells, .ref a0_readPeople, .int va0_readMany, .ref a0_readSayings, .int va0_readSaid, .ref a0_line, .ref a0_bestLine, .int va0_bestFar, .int va0_bestIce, .ref a0_seen, .ref a0_held]), (a0_row, aI E 525 out.2.1), (a0_seen, aI E 1407 out.2.2)])) : ∀ (n : Nat) (x2 : Int32) (va0_row : Nat → Int32) (va0_seen : Nat → Int32) (o : (Int32 × (Nat → Int32) × (Nat → Int32)) ⊕ (Int32 × (Nat → Int32) × (Nat → Int32))), fX8_ring_L23 N x1 n x2 va0_row va0_seen = some o → (∀ w, o = .inl w → w = out) → (∀ v, o = .inr v → G E K 4 0 0 [(0, .ref a0), (1, .int x1), (2, .int v.1)] [] [(a0, oB 8 [.ref a0_row, .int va0_isKept, .ref a0_lanes, .ref a0_sizes, .ref a0_items, .ref a0_tape, .int va0_length, .int va0_at, .int va0_number, .ref a0_readIce, .int va0_readCells, .ref a0_readPeople, .int va0_readMany, .ref a0_readSayings, .int va0_readSaid, .ref a0_line, .ref a0_bestLine, .int va0_bestFar, .int va0_bestIce, .ref a0_seen, .ref a0_held]), (a0_row, aI E 525 v.2.1), (a0_seen, aI E 1407 v.2.2)] 89) → G E K 4 0 0 [(0, .ref a0), (1, .int x1), (2, .int x2)] [] [(a0, oB 8 [.ref a0_row, .int va0_isKept, .ref a0_lanes, .ref a0_sizes, .ref a0_items, .ref a0_tape, .int va0_length, .int va0_at, .int va0_number, .ref a0_readIce, .int va0_readCells, .ref a0_readPeople, .int va0_readMany, .ref a0_readSayings, .int va0_readSaid, .ref a0_line, .ref a0_bestLine, .int va0_bestFar, .int va0_bestIce, .ref a0_seen, .ref a0_held]), (a0_row, aI E 525 va0_row), (a0_seen, aI E 1407 va0_seen)] 23 := by
  intro n
  induction n with
  | zero => intro x2 va0_row va0_seen o hf; cases hf
  | succ n ih =>
    intro x2 va0_row va0_seen o hf hr hG
    rw [fX8_ring_L23] at hf
    refine g_iload_n k 2 dX8_ring_23 rfl rfl ?_
    refine g_sipush k dX8_ring_24 si_201 ?_
    refine g_icmp_ge k (tgt := 89) dX8_ring_27 (by decide) (fun c8 => ?_) (fun c8 => ?_)
    · replace hf := ite_t c8 hf
      refine g_lv [0, 1, 2] rfl ?_
      obtain rfl := Option.some.inj hf
      exact hG _ rfl
    · replace hf := ite_f c8 hf
      refine g_aload_n k 0 dX8_ring_30 rfl rfl ?_
      refine g_sipush k dX8_ring_31 si_484 ?_
      refine g_aload_n k 0 dX8_ring_34 rfl rfl ?_
      refine g_sipush k dX8_ring_35 si_484 ?_
      obtain ⟨o9, ho10, hf⟩ := bnd_some hf
      refine g_cv k miX8_nextAt mvX8_nextAt (ctX8_nextAt (kL K) E N a0 a0_row a0_lanes a0_sizes a0_items a0_tape a0_readIce a0_readPeople a0_readSayings a0_line a0_bestLine a0_seen a0_held va0_isKept va0_length va0_at va0_number va0_readCells va0_readMany va0_readSaid va0_bestFar va0_bestIce va0_row 484 o9 ho10) [0, 1] 0 (ws' := [(a0, oB 8 [.ref a0_row, .int va0_isKept, .ref a0_lanes, .ref a0_sizes, .ref a0_items, .ref a0_tape, .int va0_length, .int va0_at, .int va0_number, .ref a0_readIce, .int va0_readCells, .ref a0_readPeople, .int va0_readMany, .ref a0_readSayings, .int va0_readSaid, .ref a0_line, .ref a0_bestLine, .int va0_bestFar, .int va0_bestIce, .ref a0_seen, .ref a0_held]), (a0_row, aI E 525 va0_row), (a0_seen, aI E 1407 va0_seen)]) dX8_ring_38 lkX8_194 rfl ⟨rfl, rfl⟩ ⟨by decide, by decide⟩ rfl rfl rfl rfl (Nat.le_of_ble_eq_true rfl) rfl rfl rfl ?_
      refine g_st (st' := [.int o9, .int 484, .ref a0]) rfl ?_
      obtain ⟨o11, ho12, hf⟩ := bnd_some hf
      refine g_cv k miX8_pass mvX8_pass (ctX8_pass (kL K) E N a0 a0_row a0_lanes a0_sizes a0_items a0_tape a0_readIce a0_readPeople a0_readSayings a0_line a0_bestLine a0_seen a0_held va0_isKept va0_length va0_at va0_number va0_readCells va0_readMany va0_readSaid va0_bestFar va0_bestIce va0_row 484 o9 o11 ho12) [0, 1] 0 (ws' := [(a0, oB 8 [.ref a0_row, .int va0_isKept, .ref a0_lanes, .ref a0_sizes, .ref a0_items, .ref a0_tape, .int va0_length, .int va0_at, .int va0_number, .ref a0_readIce, .int va0_readCells, .ref a0_readPeople, .int va0_readMany, .ref a0_readSayings, .int va0_readSaid, .ref a0_line, .ref a0_bestLine, .int va0_bestFar, .int va0_bestIce, .ref a0_seen, .ref a0_held]), (a0_row, aI E 525 o11), (a0_seen, aI E 1407 va0_seen)]) dX8_ring_41 lkX8_182 rfl ⟨rfl, rfl⟩ ⟨by decide, by decide⟩ rfl rfl rfl rfl (Nat.le_of_ble_eq_true rfl) rfl rfl rfl ?_
      refine g_st (st' := []) rfl ?_
      refine g_aload_n k 0 dX8_ring_44 rfl rfl ?_
      refine g_iload_n k 2 dX8_ring_45 rfl rfl ?_
      obtain ⟨o13, ho14, hf⟩ := bnd_some hf
      refine g_cv k miX8_see mvX8_see (ctX8_see (kL K) E N a0 a0_row a0_lanes a0_sizes a0_items a0_tape a0_readIce a0_readPeople a0_readSayings a0_line a0_bestLine a0_seen a0_held va0_isKept va0_length va0_at va0_number va0_readCells va0_readMany va0_readSaid va0_bestFar va0_bestIce o11 va0_seen x2 o13 ho14) [0, 1, 2] 0 (ws' := [(a0, oB 8 [.ref a0_row, .int va0_isKept, .ref a0_lanes, .ref a0_sizes, .ref a0_items, .ref a0_tape, .int va0_length, .int va0_at, .int va0_number, .ref a0_readIce, .int va0_readCells, .ref a0_readPeople, .int va0_readMany, .ref a0_readSayings, .int va0_readSaid, .ref a0_line, .ref a0_bestLine, .int va0_bestFar, .int va0_bestIce, .ref a0_seen, .ref a0_held]), (a0_row, aI E 525 o11), (a0_seen, aI E 1407 o13)]) dX8_ring_46 lkX8_236 rfl ⟨rfl, rfl⟩ ⟨by decide, by decide⟩ rfl rfl rfl rfl (Nat.le_of_ble_eq_true rfl) rfl rfl rfl ?_
      refine g_st (st' := []) rfl ?_
      refine g_iconst k dX8_ring_49 ic_0 ?_
      refine g_istore_n k (lv' := [(3, .int 0), (0, .ref a0), (1, .int x1), (2, .int x2)]) dX8_ring_50 rfl (by decide) rfl ?_
      obtain ⟨o20, ho21, hf⟩ := bnd_some hf
      refine g_lv [1, 2, 3, 0] (lv' := [(0, .ref a0), (1, .int x1), (2, .int x2), (3, .int 0)]) rfl ?_
      refine wX8_ring_L51 k N a0 a0_row a0_lanes a0_sizes a0_items a0_tape a0_readIce a0_readPeople a0_readSayings a0_line a0_bestLine a0_seen a0_held  x1 x2 o11 o13 va0_isKept va0_length va0_at va0_number va0_readCells va0_readMany va0_readSaid va0_bestFar va0_bestIce r N 0 o20 ho21 (fun w e => by subst e; exact hr _ (Option.some.inj hf).symm) (fun v22 e => ?_)
      subst e
      replace hf := lret2_r hf
      refine g_iinc k (lv' := [(2, .int (x2 + 1)), (0, .ref a0), (1, .int x1), (3, .int v22)]) 2 dX8_ring_83 rfl (ii_1 _) (by decide) rfl ?_
      refine g_goto k (tgt := 23) dX8_ring_86 (by decide) ?_
      refine g_lv [1, 2, 0] rfl ?_
      exact ih (x2 + 1) o11 o13 o hf hr hG
def fX8_ring (N : Nat) (va0_row : Nat → Int32) (va0_seen : Nat → Int32) (x1 : Int32) : Option (Int32 × (Nat → Int32) × (Nat → Int32)) :=
  bnd (fX8_in N x1.toInt64 0 1) fun o1 =>
  if o1 = 0 then
  some ((-1), va0_row, va0_seen)
  else
  bnd (fX8_layTried N va0_row) fun o4 =>
  bnd (fX8_see N o4 va0_seen 0) fun o6 =>
  bnd (fX8_ring_L23 N x1 N 1 o4 o6) fun o23 => lret o23 fun v25 =>
  some ((-4), v25.2.1, v25.2.2)
set_option maxHeartbeats 4000000 in
set_option maxRecDepth 100000 in
theorem ctX8_ring (l : Launch) (E : Ev) (N : Nat) (a0 : Nat) (a0_row : Nat) (a0_lanes : Nat) (a0_sizes : Nat) (a0_items : Nat) (a0_tape : Nat) (a0_readIce : Nat) (a0_readPeople : Nat) (a0_readSayings : Nat) (a0_line : Nat) (a0_bestLine : Nat) (a0_seen : Nat) (a0_held : Nat) (va0_isKept : Int32) (va0_length : Int32) (va0_at : Int32) (va0_number : Int32) (va0_readCells : Int32) (va0_readMany : Int32) (va0_readSaid : Int32) (va0_bestFar : Int32) (va0_bestIce : Int32) (va0_row : Nat → Int32) (va0_seen : Nat → Int32) (x1 : Int32) (out : Int32 × (Nat → Int32) × (Nat → Int32)) (hf : fX8_ring N va0_row va0_seen x1 = some out) : Ct l E yX8_ring cX8_ring 4 (some .int) rmX8_ring [.ref a0, .int x1] [(a0, oB 8 [.ref a0_row, .int va0_isKept, .ref a0_lanes, .ref a0_sizes, .ref a0_items, .ref a0_tape, .int va0_length, .int va0_at, .int va0_number, .ref a0_readIce, .int va0_readCells, .ref a0_readPeople, .int va0_readMany, .ref a0_readSayings, .int va0_readSaid, .ref a0_line, .ref a0_bestLine, .int va0_bestFar, .int va0_bestIce, .ref a0_seen, .ref a0_held]), (a0_row, aI E 525 va0_row), (a0_seen, aI E 1407 va0_seen)] (Pe (some (.int out.1)) [(a0, oB 8 [.ref a0_row, .int va0_isKept, .ref a0_lanes, .ref a0_sizes, .ref a0_items, .ref a0_tape, .int va0_length, .int va0_at, .int va0_number, .ref a0_readIce, .int va0_readCells, .ref a0_readPeople, .int va0_readMany, .ref a0_readSayings, .int va0_readSaid, .ref a0_line, .ref a0_bestLine, .int va0_bestFar, .int va0_bestIce, .ref a0_seen, .ref a0_held]), (a0_row, aI E 525 out.2.1), (a0_seen, aI E 1407 out.2.2)]) := by
  refine Ct.of rfl (Nat.le_of_ble_eq_true rfl) (fun K hL k r hin => ?_)
  subst hL
  unfold fX8_ring at hf
  show G E K 4 0 0 [(0, .ref a0), (1, .int x1)] [] [(a0, oB 8 [.ref a0_row, .int va0_isKept, .ref a0_lanes, .ref a0_sizes, .ref a0_items, .ref a0_tape, .int va0_length, .int va0_at, .int va0_number, .ref a0_readIce, .int va0_readCells, .ref a0_readPeople, .int va0_readMany, .ref a0_readSayings, .int va0_readSaid, .ref a0_line, .ref a0_bestLine, .int va0_bestFar, .int va0_bestIce, .ref a0_seen, .ref a0_held]), (a0_row, aI E 525 va0_row), (a0_seen, aI E 1407 va0_seen)] 0
  refine g_iload_n k 1 dX8_ring_0 rfl rfl ?_
  refine g_i2l k dX8_ring_1 ?_
  refine g_lconst k dX8_ring_2 lc_0 ?_
  refine g_lconst k dX8_ring_3 lc_1 ?_
  obtain ⟨o1, ho2, hf⟩ := bnd_some hf
  refine g_cs k miX8_in msX8_in (ctX8_in (kL K) E N   x1.toInt64 0 1 o1 ho2) [] (ws' := [(a0, oB 8 [.ref a0_row, .int va0_isKept, .ref a0_lanes, .ref a0_sizes, .ref a0_items, .ref a0_tape, .int va0_length, .int va0_at, .int va0_number, .ref a0_readIce, .int va0_readCells, .ref a0_readPeople, .int va0_readMany, .ref a0_readSayings, .int va0_readSaid, .ref a0_line, .ref a0_bestLine, .int va0_bestFar, .int va0_bestIce, .ref a0_seen, .ref a0_held]), (a0_row, aI E 525 va0_row), (a0_seen, aI E 1407 va0_seen)]) dX8_ring_4 lkX8_47 rfl ⟨rfl, rfl⟩ ⟨by decide, by decide⟩ rfl rfl rfl (Nat.le_of_ble_eq_true rfl) rfl rfl rfl ?_
  refine g_st (st' := [.int o1]) rfl ?_
  refine g_if_ne k (tgt := 12) dX8_ring_7 (by decide) (fun c3 => ?_) (fun c3 => ?_)
  · replace hf := ite_f c3 hf
    refine g_aload_n k 0 dX8_ring_12 rfl rfl ?_
    obtain ⟨o4, ho5, hf⟩ := bnd_some hf
    refine g_cv k miX8_layTried mvX8_layTried (ctX8_layTried (kL K) E N a0 a0_row a0_lanes a0_sizes a0_items a0_tape a0_readIce a0_readPeople a0_readSayings a0_line a0_bestLine a0_seen a0_held va0_isKept va0_length va0_at va0_number va0_readCells va0_readMany va0_readSaid va0_bestFar va0_bestIce va0_row  o4 ho5) [0, 1] 0 (ws' := [(a0, oB 8 [.ref a0_row, .int va0_isKept, .ref a0_lanes, .ref a0_sizes, .ref a0_items, .ref a0_tape, .int va0_length, .int va0_at, .int va0_number, .ref a0_readIce, .int va0_readCells, .ref a0_readPeople, .int va0_readMany, .ref a0_readSayings, .int va0_readSaid, .ref a0_line, .ref a0_bestLine, .int va0_bestFar, .int va0_bestIce, .ref a0_seen, .ref a0_held]), (a0_row, aI E 525 o4), (a0_seen, aI E 1407 va0_seen)]) dX8_ring_13 lkX8_199 rfl ⟨rfl, rfl⟩ ⟨by decide, by decide⟩ rfl rfl rfl rfl (Nat.le_of_ble_eq_true rfl) rfl rfl rfl ?_
    refine g_st (st' := []) rfl ?_
    refine g_aload_n k 0 dX8_ring_16 rfl rfl ?_
    refine g_iconst k dX8_ring_17 ic_0 ?_
    obtain ⟨o6, ho7, hf⟩ := bnd_some hf
    refine g_cv k miX8_see mvX8_see (ctX8_see (kL K) E N a0 a0_row a0_lanes a0_sizes a0_items a0_tape a0_readIce a0_readPeople a0_readSayings a0_line a0_bestLine a0_seen a0_held va0_isKept va0_length va0_at va0_number va0_readCells va0_readMany va0_readSaid va0_bestFar va0_bestIce o4 va0_seen 0 o6 ho7) [0, 1, 2] 0 (ws' := [(a0, oB 8 [.ref a0_row, .int va0_isKept, .ref a0_lanes, .ref a0_sizes, .ref a0_items, .ref a0_tape, .int va0_length, .int va0_at, .int va0_number, .ref a0_readIce, .int va0_readCells, .ref a0_readPeople, .int va0_readMany, .ref a0_readSayings, .int va0_readSaid, .ref a0_line, .ref a0_bestLine, .int va0_bestFar, .int va0_bestIce, .ref a0_seen, .ref a0_held]), (a0_row, aI E 525 o4), (a0_seen, aI E 1407 o6)]) dX8_ring_18 lkX8_236 rfl ⟨rfl, rfl⟩ ⟨by decide, by decide⟩ rfl rfl rfl rfl (Nat.le_of_ble_eq_true rfl) rfl rfl rfl ?_
    refine g_st (st' := []) rfl ?_
    refine g_iconst k dX8_ring_21 ic_1 ?_
    refine g_istore_n k (lv' := [(2, .int 1), (0, .ref a0), (1, .int x1)]) dX8_ring_22 rfl (by decide) rfl ?_
    obtain ⟨o23, ho24, hf⟩ := bnd_some hf
    refine g_lv [1, 2, 0] (lv' := [(0, .ref a0), (1, .int x1), (2, .int 1)]) rfl ?_
    refine wX8_ring_L23 k N a0 a0_row a0_lanes a0_sizes a0_items a0_tape a0_readIce a0_readPeople a0_readSayings a0_line a0_bestLine a0_seen a0_held  x1 va0_isKept va0_length va0_at va0_number va0_readCells va0_readMany va0_readSaid va0_bestFar va0_bestIce r N 1 o4 o6 o23 ho24 (fun w e => by subst e; exact Option.some.inj hf) (fun v25 e => ?_)
    subst e
    replace hf := lret_r hf
    refine g_bipush k dX8_ring_89 bi_m4 ?_
    obtain rfl := Option.some.inj hf
    exact g_iret k r dX8_ring_91 ⟨rfl, rfl⟩
  · replace hf := ite_t c3 hf
    refine g_iconst k dX8_ring_10 ic_m1 ?_
    obtain rfl := Option.some.inj hf
    exact g_iret k r dX8_ring_11 ⟨rfl, rfl⟩
abbrev rmX8_enough : Room := { frames := 4, cells := 0, slots := 0, locals := 100 }
def fX8_enough_L12 (N : Nat) (x1 : Int32) (va0_row : Nat → Int32) : Nat → Int32 → Option ((Int32) ⊕ (Int32))
  | 0, _ => none
  | n + 1, x2 =>
    if 21 ≤ x2 then
    some (.inr (x2))
    else
    bnd (fX8_isThrough N va0_row 0) fun o5 =>
    if o5 = 0 then
    ixb (20 + x1) 525 fun κ8 =>
    bnd (fX8_everybody N va0_row) fun o9 =>
    bnd (fX8_rockBy N va0_row 0 x2 (va0_row κ8) o9) fun o11 =>
    bnd (fX8_iceAhead N va0_row 0) fun o13 =>
    if o11 < o13 then
    fX8_enough_L12 N x1 va0_row n (x2 + 1)
    else
    some (.inl (x2))
    else
    some (.inr (x2))
set_option maxHeartbeats 4000000 in
set_option maxRecDepth 100000 in
theorem wX8_enough_L12 {E : Ev} {K : KX} (k : OKX E K cX8_enough RX8 3 rmX8_enough) (N : Nat) (a0 : Nat) (a0_row : Nat) (a0_lanes : Nat) (a0_sizes : Nat) (a0_items : Nat) (a0_tape : Nat) (a0_readIce : Nat) (a0_readPeople : Nat) (a0_readSayings : Nat) (a0_line : Nat) (a0_bestLine : Nat) (a0_seen : Nat) (a0_held : Nat) (x1 : Int32) (va0_row : Nat → Int32) (va0_isKept : Int32) (va0_length : Int32) (va0_at : Int32) (va0_number : Int32) (va0_readCells : Int32) (va0_readMany : Int32) (va0_readSaid : Int32) (va0_bestFar : Int32) (va0_bestIce : Int32) {out : Int32} (r : RTX E K 0 0 (some .int) (Pe (some (.int out)) [(a0, oB 8 [.ref a0_row, .int va0_isKept, .ref a0_lanes, .ref a0_sizes, .ref a0_items, .ref a0_tape, .int va0_length, .int va0_at, .int va0_number, .ref a0_readIce, .int va0_readCells, .ref a0_readPeople, .int va0_readMany, .ref a0_readSayings, .int va0_readSaid, .ref a0_line, .ref a0_bestLine, .int va0_bestFar, .int va0_bestIce, .ref a0_seen, .ref a0_held]), (a0_row, aI E 525 va0_row)])) : ∀ (n : Nat) (x2 : Int32) (o : (Int32) ⊕ (Int32)), fX8_enough_L12 N x1 va0_row n x2 = some o → (∀ w, o = .inl w → w = out) → (∀ v, o = .inr v → G E K 3 0 0 [(0, .ref a0), (1, .int x1), (2, .int v)] [] [(a0, oB 8 [.ref a0_row, .int va0_isKept, .ref a0_lanes, .ref a0_sizes, .ref a0_items, .ref a0_tape, .int va0_length, .int va0_at, .int va0_number, .ref a0_readIce, .int va0_readCells, .ref a0_readPeople, .int va0_readMany, .ref a0_readSayings, .int va0_readSaid, .ref a0_line, .ref a0_bestLine, .int va0_bestFar, .int va0_bestIce, .ref a0_seen, .ref a0_held]), (a0_row, aI E 525 va0_row)] 61) → G E K 3 0 0 [(0, .ref a0), (1, .int x1), (2, .int x2)] [] [(a0, oB 8 [.ref a0_row, .int va0_isKept, .ref a0_lanes, .ref a0_sizes, .ref a0_items, .ref a0_tape, .int va0_length, .int va0_at, .int va0_number, .ref a0_readIce, .int va0_readCells, .ref a0_readPeople, .int va0_readMany, .ref a0_readSayings, .int va0_readSaid, .ref a0_line, .ref a0_bestLine, .int va0_bestFar, .int va0_bestIce, .ref a0_seen, .ref a0_held]), (a0_row, aI E 525 va0_row)] 12 := by
  intro n
  induction n with
  | zero => intro x2 o hf; cases hf
  | succ n ih =>
    intro x2 o hf hr hG
    rw [fX8_enough_L12] at hf
    refine g_iload_n k 2 dX8_enough_12 rfl rfl ?_
    refine g_bipush k dX8_enough_13 bi_21 ?_
    refine g_icmp_ge k (tgt := 61) dX8_enough_15 (by decide) (fun c4 => ?_) (fun c4 => ?_)
    · replace hf := ite_t c4 hf
      refine g_lv [0, 1, 2] rfl ?_
      obtain rfl := Option.some.inj hf
      exact hG _ rfl
    · replace hf := ite_f c4 hf
      refine g_aload_n k 0 dX8_enough_18 rfl rfl ?_
      refine g_iconst k dX8_enough_19 ic_0 ?_
      obtain ⟨o5, ho6, hf⟩ := bnd_some hf
      refine g_cv k miX8_isThrough mvX8_isThrough (ctX8_isThrough (kL K) E N a0 a0_row a0_lanes a0_sizes a0_items a0_tape a0_readIce a0_readPeople a0_readSayings a0_line a0_bestLine a0_seen a0_held va0_isKept va0_length va0_at va0_number va0_readCells va0_readMany va0_readSaid va0_bestFar va0_bestIce va0_row 0 o5 ho6) [0, 1] 0 (ws' := [(a0, oB 8 [.ref a0_row, .int va0_isKept, .ref a0_lanes, .ref a0_sizes, .ref a0_items, .ref a0_tape, .int va0_length, .int va0_at, .int va0_number, .ref a0_readIce, .int va0_readCells, .ref a0_readPeople, .int va0_readMany, .ref a0_readSayings, .int va0_readSaid, .ref a0_line, .ref a0_bestLine, .int va0_bestFar, .int va0_bestIce, .ref a0_seen, .ref a0_held]), (a0_row, aI E 525 va0_row)]) dX8_enough_20 lkX8_166 rfl ⟨rfl, rfl⟩ ⟨by decide, by decide⟩ rfl rfl rfl rfl (Nat.le_of_ble_eq_true rfl) rfl rfl rfl ?_
      refine g_st (st' := [.int o5]) rfl ?_
      refine g_if_ne k (tgt := 61) dX8_enough_23 (by decide) (fun c7 => ?_) (fun c7 => ?_)
      · replace hf := ite_f c7 hf
        refine g_lv [0, 1, 2] rfl ?_
        obtain rfl := Option.some.inj hf
        exact hG _ rfl
      · replace hf := ite_t c7 hf
        refine g_aload_n k 0 dX8_enough_26 rfl rfl ?_
        refine g_iconst k dX8_enough_27 ic_0 ?_
        refine g_iload_n k 2 dX8_enough_28 rfl rfl ?_
        refine g_aload_n k 0 dX8_enough_29 rfl rfl ?_
        refine g_get k cfX8 0 0 dX8_enough_30 lkX8_7 (by decide) rfl rfl ?_
        refine g_bipush k dX8_enough_33 bi_20 ?_
        refine g_iload_n k 1 dX8_enough_35 rfl rfl ?_
        refine g_iadd k dX8_enough_36 ?_
        obtain ⟨κ8, hκ8, hiκ8, heκ8, hf⟩ := ixb_some hf
        refine g_iaload k 1 dX8_enough_37 rfl hiκ8 heκ8 ?_
        refine g_aload_n k 0 dX8_enough_38 rfl rfl ?_
        obtain ⟨o9, ho10, hf⟩ := bnd_some hf
        refine g_cv k miX8_everybody mvX8_everybody (ctX8_everybody (kL K) E N a0 a0_row a0_lanes a0_sizes a0_items a0_tape a0_readIce a0_readPeople a0_readSayings a0_line a0_bestLine a0_seen a0_held va0_isKept va0_length va0_at va0_number va0_readCells va0_readMany va0_readSaid va0_bestFar va0_bestIce va0_row  o9 ho10) [0, 1] 0 (ws' := [(a0, oB 8 [.ref a0_row, .int va0_isKept, .ref a0_lanes, .ref a0_sizes, .ref a0_items, .ref a0_tape, .int va0_length, .int va0_at, .int va0_number, .ref a0_readIce, .int va0_readCells, .ref a0_readPeople, .int va0_readMany, .ref a0_readSayings, .int va0_readSaid, .ref a0_line, .ref a0_bestLine, .int va0_bestFar, .int va0_bestIce, .ref a0_seen, .ref a0_held]), (a0_row, aI E 525 va0_row)]) dX8_enough_39 lkX8_67 rfl ⟨rfl, rfl⟩ ⟨by decide, by decide⟩ rfl rfl rfl rfl (Nat.le_of_ble_eq_true rfl) rfl rfl rfl ?_
        refine g_st (st' := [.int o9, .int (va0_row κ8), .int x2, .int 0, .ref a0]) rfl ?_
        obtain ⟨o11, ho12, hf⟩ := bnd_some hf
        refine g_cv k miX8_rockBy mvX8_rockBy (ctX8_rockBy (kL K) E N a0 a0_row a0_lanes a0_sizes a0_items a0_tape a0_readIce a0_readPeople a0_readSayings a0_line a0_bestLine a0_seen a0_held va0_isKept va0_length va0_at va0_number va0_readCells va0_readMany va0_readSaid va0_bestFar va0_bestIce va0_row 0 x2 (va0_row κ8) o9 o11 ho12) [0, 1] 0 (ws' := [(a0, oB 8 [.ref a0_row, .int va0_isKept, .ref a0_lanes, .ref a0_sizes, .ref a0_items, .ref a0_tape, .int va0_length, .int va0_at, .int va0_number, .ref a0_readIce, .int va0_readCells, .ref a0_readPeople, .int va0_readMany, .ref a0_readSayings, .int va0_readSaid, .ref a0_line, .ref a0_bestLine, .int va0_bestFar, .int va0_bestIce, .ref a0_seen, .ref a0_held]), (a0_row, aI E 525 va0_row)]) dX8_enough_42 lkX8_94 rfl ⟨rfl, rfl⟩ ⟨by decide, by decide⟩ rfl rfl rfl rfl (Nat.le_of_ble_eq_true rfl) rfl rfl rfl ?_
        refine g_st (st' := [.int o11]) rfl ?_
        refine g_aload_n k 0 dX8_enough_45 rfl rfl ?_
        refine g_iconst k dX8_enough_46 ic_0 ?_
        obtain ⟨o13, ho14, hf⟩ := bnd_some hf
        refine g_cv k miX8_iceAhead mvX8_iceAhead (ctX8_iceAhead (kL K) E N a0 a0_row a0_lanes a0_sizes a0_items a0_tape a0_readIce a0_readPeople a0_readSayings a0_line a0_bestLine a0_seen a0_held va0_isKept va0_length va0_at va0_number va0_readCells va0_readMany va0_readSaid va0_bestFar va0_bestIce va0_row 0 o13 ho14) [0, 1] 0 (ws' := [(a0, oB 8 [.ref a0_row, .int va0_isKept, .ref a0_lanes, .ref a0_sizes, .ref a0_items, .ref a0_tape, .int va0_length, .int va0_at, .int va0_number, .ref a0_readIce, .int va0_readCells, .ref a0_readPeople, .int va0_readMany, .ref a0_readSayings, .int va0_readSaid, .ref a0_line, .ref a0_bestLine, .int va0_bestFar, .int va0_bestIce, .ref a0_seen, .ref a0_held]), (a0_row, aI E 525 va0_row)]) dX8_enough_47 lkX8_202 rfl ⟨rfl, rfl⟩ ⟨by decide, by decide⟩ rfl rfl rfl rfl (Nat.le_of_ble_eq_true rfl) rfl rfl rfl ?_
        refine g_st (st' := [.int o13, .int o11]) rfl ?_
        refine g_icmp_lt k (tgt := 55) dX8_enough_50 (by decide) (fun c15 => ?_) (fun c15 => ?_)
        · replace hf := ite_t c15 hf
          refine g_iinc k (lv' := [(2, .int (x2 + 1)), (0, .ref a0), (1, .int x1)]) 2 dX8_enough_55 rfl (ii_1 _) (by decide) rfl ?_
          refine g_goto k (tgt := 12) dX8_enough_58 (by decide) ?_
          refine g_lv [1, 2, 0] rfl ?_
          exact ih (x2 + 1) o hf hr hG
        · replace hf := ite_f c15 hf
          refine g_iload_n k 2 dX8_enough_53 rfl rfl ?_
          obtain rfl := Option.some.inj hf
          obtain rfl := hr _ rfl
          exact g_iret k r dX8_enough_54 ⟨rfl, rfl⟩
def fX8_enough (N : Nat) (va0_row : Nat → Int32) (x1 : Int32) : Option (Int32) :=
  bnd (fX8_isSaying N va0_row x1) fun o1 =>
  if o1 = 0 then
  some ((-1))
  else
  bnd (fX8_enough_L12 N x1 va0_row N 0) fun o16 => lret o16 fun v18 =>
  some ((-4))
set_option maxHeartbeats 4000000 in
set_option maxRecDepth 100000 in
theorem ctX8_enough (l : Launch) (E : Ev) (N : Nat) (a0 : Nat) (a0_row : Nat) (a0_lanes : Nat) (a0_sizes : Nat) (a0_items : Nat) (a0_tape : Nat) (a0_readIce : Nat) (a0_readPeople : Nat) (a0_readSayings : Nat) (a0_line : Nat) (a0_bestLine : Nat) (a0_seen : Nat) (a0_held : Nat) (va0_isKept : Int32) (va0_length : Int32) (va0_at : Int32) (va0_number : Int32) (va0_readCells : Int32) (va0_readMany : Int32) (va0_readSaid : Int32) (va0_bestFar : Int32) (va0_bestIce : Int32) (va0_row : Nat → Int32) (x1 : Int32) (out : Int32) (hf : fX8_enough N va0_row x1 = some out) : Ct l E yX8_enough cX8_enough 3 (some .int) rmX8_enough [.ref a0, .int x1] [(a0, oB 8 [.ref a0_row, .int va0_isKept, .ref a0_lanes, .ref a0_sizes, .ref a0_items, .ref a0_tape, .int va0_length, .int va0_at, .int va0_number, .ref a0_readIce, .int va0_readCells, .ref a0_readPeople, .int va0_readMany, .ref a0_readSayings, .int va0_readSaid, .ref a0_line, .ref a0_bestLine, .int va0_bestFar, .int va0_bestIce, .ref a0_seen, .ref a0_held]), (a0_row, aI E 525 va0_row)] (Pe (some (.int out)) [(a0, oB 8 [.ref a0_row, .int va0_isKept, .ref a0_lanes, .ref a0_sizes, .ref a0_items, .ref a0_tape, .int va0_length, .int va0_at, .int va0_number, .ref a0_readIce, .int va0_readCells, .ref a0_readPeople, .int va0_readMany, .ref a0_readSayings, .int va0_readSaid, .ref a0_line, .ref a0_bestLine, .int va0_bestFar, .int va0_bestIce, .ref a0_seen, .ref a0_held]), (a0_row, aI E 525 va0_row)]) := by
  refine Ct.of rfl (Nat.le_of_ble_eq_true rfl) (fun K hL k r hin => ?_)
  subst hL
  unfold fX8_enough at hf
  show G E K 3 0 0 [(0, .ref a0), (1, .int x1)] [] [(a0, oB 8 [.ref a0_row, .int va0_isKept, .ref a0_lanes, .ref a0_sizes, .ref a0_items, .ref a0_tape, .int va0_length, .int va0_at, .int va0_number, .ref a0_readIce, .int va0_readCells, .ref a0_readPeople, .int va0_readMany, .ref a0_readSayings, .int va0_readSaid, .ref a0_line, .ref a0_bestLine, .int va0_bestFar, .int va0_bestIce, .ref a0_seen, .ref a0_held]), (a0_row, aI E 525 va0_row)] 0
  refine g_aload_n k 0 dX8_enough_0 rfl rfl ?_
  refine g_iload_n k 1 dX8_enough_1 rfl rfl ?_
  obtain ⟨o1, ho2, hf⟩ := bnd_some hf
  refine g_cv k miX8_isSaying mvX8_isSaying (ctX8_isSaying (kL K) E N a0 a0_row a0_lanes a0_sizes a0_items a0_tape a0_readIce a0_readPeople a0_readSayings a0_line a0_bestLine a0_seen a0_held va0_isKept va0_length va0_at va0_number va0_readCells va0_readMany va0_readSaid va0_bestFar va0_bestIce va0_row x1 o1 ho2) [0, 1] 0 (ws' := [(a0, oB 8 [.ref a0_row, .int va0_isKept, .ref a0_lanes, .ref a0_sizes, .ref a0_items, .ref a0_tape, .int va0_length, .int va0_at, .int va0_number, .ref a0_readIce, .int va0_readCells, .ref a0_readPeople, .int va0_readMany, .ref a0_readSayings, .int va0_readSaid, .ref a0_line, .ref a0_bestLine, .int va0_bestFar, .int va0_bestIce, .ref a0_seen, .ref a0_held]), (a0_row, aI E 525 va0_row)]) dX8_enough_2 lkX8_100 rfl ⟨rfl, rfl⟩ ⟨by decide, by decide⟩ rfl rfl rfl rfl (Nat.le_of_ble_eq_true rfl) rfl rfl rfl ?_
  refine g_st (st' := [.int o1]) rfl ?_
  refine g_if_ne k (tgt := 10) dX8_enough_5 (by decide) (fun c3 => ?_) (fun c3 => ?_)
  · replace hf := ite_f c3 hf
    refine g_iconst k dX8_enough_10 ic_0 ?_
    refine g_istore_n k (lv' := [(2, .int 0), (0, .ref a0), (1, .int x1)]) dX8_enough_11 rfl (by decide) rfl ?_
    obtain ⟨o16, ho17, hf⟩ := bnd_some hf
    refine g_lv [1, 2, 0] (lv' := [(0, .ref a0), (1, .int x1), (2, .int 0)]) rfl ?_
    refine wX8_enough_L12 k N a0 a0_row a0_lanes a0_sizes a0_items a0_tape a0_readIce a0_readPeople a0_readSayings a0_line a0_bestLine a0_seen a0_held  x1 va0_row va0_isKept va0_length va0_at va0_number va0_readCells va0_readMany va0_readSaid va0_bestFar va0_bestIce r N 0 o16 ho17 (fun w e => by subst e; exact Option.some.inj hf) (fun v18 e => ?_)
    subst e
    replace hf := lret_r hf
    refine g_bipush k dX8_enough_61 bi_m4 ?_
    obtain rfl := Option.some.inj hf
    exact g_iret k r dX8_enough_63 ⟨rfl, rfl⟩
  · replace hf := ite_t c3 hf
    refine g_iconst k dX8_enough_8 ic_m1 ?_
    obtain rfl := Option.some.inj hf
    exact g_iret k r dX8_enough_9 ⟨rfl, rfl⟩
abbrev rmX8_sick : Room := { frames := 5, cells := 0, slots := 0, locals := 123 }
def fX8_sick_L56 (N : Nat) (x1 : Int32) (x2 : Int32) (x3 : Int32) (x4 : Int32) (x5 : Int32) (x6 : Int32) (va0_row : Nat → Int32) : Nat → Int32 → Int32 → Option (Int32 × Int32)
  | 0, _, _ => none
  | n + 1, x7, x8 =>
    if (va0_row 27) ≤ x8 then
    some (x7, x8)
    else
    bnd (fX8_has N x6 x8) fun o14 =>
    if o14 = 0 then
    fX8_sick_L56 N x1 x2 x3 x4 x5 x6 va0_row n (x7 * x2) (x8 + 1)
    else
    fX8_sick_L56 N x1 x2 x3 x4 x5 x6 va0_row n (x7 * (10 - x2)) (x8 + 1)
set_option maxHeartbeats 4000000 in
set_option maxRecDepth 100000 in
theorem wX8_sick_L56 {E : Ev} {K : KX} (k : OKX E K cX8_sick RX8 9 rmX8_sick) (N : Nat) (a0 : Nat) (a0_row : Nat) (a0_lanes : Nat) (a0_sizes : Nat) (a0_items : Nat) (a0_tape : Nat) (a0_readIce : Nat) (a0_readPeople : Nat) (a0_readSayings : Nat) (a0_line : Nat) (a0_bestLine : Nat) (a0_seen : Nat) (a0_held : Nat) (x1 : Int32) (x2 : Int32) (x3 : Int32) (x4 : Int32) (x5 : Int32) (x6 : Int32) (va0_row : Nat → Int32) (va0_isKept : Int32) (va0_length : Int32) (va0_at : Int32) (va0_number : Int32) (va0_readCells : Int32) (va0_readMany : Int32) (va0_readSaid : Int32) (va0_bestFar : Int32) (va0_bestIce : Int32) : ∀ (n : Nat) (x7 : Int32) (x8 : Int32) (o : Int32 × Int32), fX8_sick_L56 N x1 x2 x3 x4 x5 x6 va0_row n x7 x8 = some o → G E K 9 0 0 [(0, .ref a0), (1, .int x1), (2, .int x2), (3, .int x3), (4, .int x4), (5, .int x5), (6, .int x6), (7, .int o.1), (8, .int o.2)] [] [(a0, oB 8 [.ref a0_row, .int va0_isKept, .ref a0_lanes, .ref a0_sizes, .ref a0_items, .ref a0_tape, .int va0_length, .int va0_at, .int va0_number, .ref a0_readIce, .int va0_readCells, .ref a0_readPeople, .int va0_readMany, .ref a0_readSayings, .int va0_readSaid, .ref a0_line, .ref a0_bestLine, .int va0_bestFar, .int va0_bestIce, .ref a0_seen, .ref a0_held]), (a0_row, aI E 525 va0_row)] 97 → G E K 9 0 0 [(0, .ref a0), (1, .int x1), (2, .int x2), (3, .int x3), (4, .int x4), (5, .int x5), (6, .int x6), (7, .int x7), (8, .int x8)] [] [(a0, oB 8 [.ref a0_row, .int va0_isKept, .ref a0_lanes, .ref a0_sizes, .ref a0_items, .ref a0_tape, .int va0_length, .int va0_at, .int va0_number, .ref a0_readIce, .int va0_readCells, .ref a0_readPeople, .int va0_readMany, .ref a0_readSayings, .int va0_readSaid, .ref a0_line, .ref a0_bestLine, .int va0_bestFar, .int va0_bestIce, .ref a0_seen, .ref a0_held]), (a0_row, aI E 525 va0_row)] 56 := by
  intro n
  induction n with
  | zero => intro x7 x8 o hf; cases hf
  | succ n ih =>
    intro x7 x8 o hf hG
    rw [fX8_sick_L56] at hf
    refine g_iload k 8 dX8_sick_56 rfl ?_
    refine g_aload_n k 0 dX8_sick_58 rfl rfl ?_
    refine g_get k cfX8 0 0 dX8_sick_59 lkX8_7 (by decide) rfl rfl ?_
    refine g_bipush k dX8_sick_62 bi_27 ?_
    refine g_iaload k 1 dX8_sick_64 rfl vi_27_525 cl_27 ?_
    refine g_icmp_ge k (tgt := 97) dX8_sick_65 (by decide) (fun c13 => ?_) (fun c13 => ?_)
    · replace hf := ite_t c13 hf
      refine g_lv [0, 1, 2, 3, 4, 5, 6, 7, 8] rfl ?_
      obtain rfl := Option.some.inj hf
      exact hG
    · replace hf := ite_f c13 hf
      refine g_iload k 7 dX8_sick_68 rfl ?_
      refine g_iload k 6 dX8_sick_70 rfl ?_
      refine g_iload k 8 dX8_sick_72 rfl ?_
      obtain ⟨o14, ho15, hf⟩ := bnd_some hf
      refine g_cs k miX8_has msX8_has (ctX8_has (kL K) E N   x6 x8 o14 ho15) [] (ws' := [(a0, oB 8 [.ref a0_row, .int va0_isKept, .ref a0_lanes, .ref a0_sizes, .ref a0_items, .ref a0_tape, .int va0_length, .int va0_at, .int va0_number, .ref a0_readIce, .int va0_readCells, .ref a0_readPeople, .int va0_readMany, .ref a0_readSayings, .int va0_readSaid, .ref a0_line, .ref a0_bestLine, .int va0_bestFar, .int va0_bestIce, .ref a0_seen, .ref a0_held]), (a0_row, aI E 525 va0_row)]) dX8_sick_74 lkX8_82 rfl ⟨rfl, rfl⟩ ⟨by decide, by decide⟩ rfl rfl rfl (Nat.le_of_ble_eq_true rfl) rfl rfl rfl ?_
      refine g_st (st' := [.int o14, .int x7]) rfl ?_
      refine g_if_eq k (tgt := 87) dX8_sick_77 (by decide) (fun c16 => ?_) (fun c16 => ?_)
      · replace hf := ite_t c16 hf
        refine g_iload_n k 2 dX8_sick_87 rfl rfl ?_
        refine g_imul k dX8_sick_88 ?_
        refine g_istore k (lv' := [(7, .int (x7 * x2)), (0, .ref a0), (1, .int x1), (2, .int x2), (3, .int x3), (4, .int x4), (5, .int x5), (6, .int x6), (8, .int x8)]) dX8_sick_89 (by decide) rfl ?_
        refine g_iinc k (lv' := [(8, .int (x8 + 1)), (7, .int (x7 * x2)), (0, .ref a0), (1, .int x1), (2, .int x2), (3, .int x3), (4, .int x4), (5, .int x5), (6, .int x6)]) 8 dX8_sick_91 rfl (ii_1 _) (by decide) rfl ?_
        refine g_goto k (tgt := 56) dX8_sick_94 (by decide) ?_
        refine g_lv [2, 3, 4, 5, 6, 7, 8, 1, 0] rfl ?_
        exact ih (x7 * x2) (x8 + 1) o hf hG
      · replace hf := ite_f c16 hf
        refine g_bipush k dX8_sick_80 bi_10 ?_
        refine g_iload_n k 2 dX8_sick_82 rfl rfl ?_
        refine g_isub k dX8_sick_83 ?_
        refine g_goto k (tgt := 88) dX8_sick_84 (by decide) ?_
        refine g_imul k dX8_sick_88 ?_
        refine g_istore k (lv' := [(7, .int (x7 * (10 - x2))), (0, .ref a0), (1, .int x1), (2, .int x2), (3, .int x3), (4, .int x4), (5, .int x5), (6, .int x6), (8, .int x8)]) dX8_sick_89 (by decide) rfl ?_
        refine g_iinc k (lv' := [(8, .int (x8 + 1)), (7, .int (x7 * (10 - x2))), (0, .ref a0), (1, .int x1), (2, .int x2), (3, .int x3), (4, .int x4), (5, .int x5), (6, .int x6)]) 8 dX8_sick_91 rfl (ii_1 _) (by decide) rfl ?_
        refine g_goto k (tgt := 56) dX8_sick_94 (by decide) ?_
        refine g_lv [2, 3, 4, 5, 6, 7, 8, 1, 0] rfl ?_
        exact ih (x7 * (10 - x2)) (x8 + 1) o hf hG
def fX8_sick_L41 (N : Nat) (x1 : Int32) (x2 : Int32) (x3 : Int32) (va0_row : Nat → Int32) : Nat → Int32 → Int32 → Int32 → Option (Int32 × Int32 × Int32)
  | 0, _, _, _ => none
  | n + 1, x4, x5, x6 =>
    bnd (fX8_everybody N va0_row) fun o10 =>
    if o10 < x6 then
    some (x4, x5, x6)
    else
    bnd (fX8_sick_L56 N x1 x2 x3 x4 x5 x6 va0_row N 1 0) fun o17 =>
    bnd (fX8_isThrough N va0_row 0) fun o19 =>
    if o19 = 0 then
    ixb (20 + x1) 525 fun κ22 =>
    bnd (fX8_rockWith N va0_row x1 (va0_row κ22) x6) fun o23 =>
    bnd (fX8_iceAhead N va0_row 0) fun o25 =>
    if o23 < o25 then
    fX8_sick_L41 N x1 x2 x3 va0_row n (x4 + 0) (x5 + o17.1) (x6 + 1)
    else
    fX8_sick_L41 N x1 x2 x3 va0_row n (x4 + o17.1) (x5 + o17.1) (x6 + 1)
    else
    fX8_sick_L41 N x1 x2 x3 va0_row n (x4 + 0) (x5 + o17.1) (x6 + 1)
set_option maxHeartbeats 4000000 in
set_option maxRecDepth 100000 in
theorem wX8_sick_L41 {E : Ev} {K : KX} (k : OKX E K cX8_sick RX8 9 rmX8_sick) (N : Nat) (a0 : Nat) (a0_row : Nat) (a0_lanes : Nat) (a0_sizes : Nat) (a0_items : Nat) (a0_tape : Nat) (a0_readIce : Nat) (a0_readPeople : Nat) (a0_readSayings : Nat) (a0_line : Nat) (a0_bestLine : Nat) (a0_seen : Nat) (a0_held : Nat) (x1 : Int32) (x2 : Int32) (x3 : Int32) (va0_row : Nat → Int32) (va0_isKept : Int32) (va0_length : Int32) (va0_at : Int32) (va0_number : Int32) (va0_readCells : Int32) (va0_readMany : Int32) (va0_readSaid : Int32) (va0_bestFar : Int32) (va0_bestIce : Int32) : ∀ (n : Nat) (x4 : Int32) (x5 : Int32) (x6 : Int32) (o : Int32 × Int32 × Int32), fX8_sick_L41 N x1 x2 x3 va0_row n x4 x5 x6 = some o → G E K 9 0 0 [(0, .ref a0), (1, .int x1), (2, .int x2), (3, .int x3), (4, .int o.1), (5, .int o.2.1), (6, .int o.2.2)] [] [(a0, oB 8 [.ref a0_row, .int va0_isKept, .ref a0_lanes, .ref a0_sizes, .ref a0_items, .ref a0_tape, .int va0_length, .int va0_at, .int va0_number, .ref a0_readIce, .int va0_readCells, .ref a0_readPeople, .int va0_readMany, .ref a0_readSayings, .int va0_readSaid, .ref a0_line, .ref a0_bestLine, .int va0_bestFar, .int va0_bestIce, .ref a0_seen, .ref a0_held]), (a0_row, aI E 525 va0_row)] 153 → G E K 9 0 0 [(0, .ref a0), (1, .int x1), (2, .int x2), (3, .int x3), (4, .int x4), (5, .int x5), (6, .int x6)] [] [(a0, oB 8 [.ref a0_row, .int va0_isKept, .ref a0_lanes, .ref a0_sizes, .ref a0_items, .ref a0_tape, .int va0_length, .int va0_at, .int va0_number, .ref a0_readIce, .int va0_readCells, .ref a0_readPeople, .int va0_readMany, .ref a0_readSayings, .int va0_readSaid, .ref a0_line, .ref a0_bestLine, .int va0_bestFar, .int va0_bestIce, .ref a0_seen, .ref a0_held]), (a0_row, aI E 525 va0_row)] 41 := by
  intro n
  induction n with
  | zero => intro x4 x5 x6 o hf; cases hf
  | succ n ih =>
    intro x4 x5 x6 o hf hG
    rw [fX8_sick_L41] at hf
    refine g_iload k 6 dX8_sick_41 rfl ?_
    refine g_aload_n k 0 dX8_sick_43 rfl rfl ?_
    obtain ⟨o10, ho11, hf⟩ := bnd_some hf
    refine g_cv k miX8_everybody mvX8_everybody (ctX8_everybody (kL K) E N a0 a0_row a0_lanes a0_sizes a0_items a0_tape a0_readIce a0_readPeople a0_readSayings a0_line a0_bestLine a0_seen a0_held va0_isKept va0_length va0_at va0_number va0_readCells va0_readMany va0_readSaid va0_bestFar va0_bestIce va0_row  o10 ho11) [0, 1] 0 (ws' := [(a0, oB 8 [.ref a0_row, .int va0_isKept, .ref a0_lanes, .ref a0_sizes, .ref a0_items, .ref a0_tape, .int va0_length, .int va0_at, .int va0_number, .ref a0_readIce, .int va0_readCells, .ref a0_readPeople, .int va0_readMany, .ref a0_readSayings, .int va0_readSaid, .ref a0_line, .ref a0_bestLine, .int va0_bestFar, .int va0_bestIce, .ref a0_seen, .ref a0_held]), (a0_row, aI E 525 va0_row)]) dX8_sick_44 lkX8_67 rfl ⟨rfl, rfl⟩ ⟨by decide, by decide⟩ rfl rfl rfl rfl (Nat.le_of_ble_eq_true rfl) rfl rfl rfl ?_
    refine g_st (st' := [.int o10, .int x6]) rfl ?_
    refine g_icmp_gt k (tgt := 153) dX8_sick_47 (by decide) (fun c12 => ?_) (fun c12 => ?_)
    · replace hf := ite_t c12 hf
      refine g_lv [0, 1, 2, 3, 4, 5, 6] rfl ?_
      obtain rfl := Option.some.inj hf
      exact hG
    · replace hf := ite_f c12 hf
      refine g_iconst k dX8_sick_50 ic_1 ?_
      refine g_istore k (lv' := [(7, .int 1), (0, .ref a0), (1, .int x1), (2, .int x2), (3, .int x3), (4, .int x4), (5, .int x5), (6, .int x6)]) dX8_sick_51 (by decide) rfl ?_
      refine g_iconst k dX8_sick_53 ic_0 ?_
      refine g_istore k (lv' := [(8, .int 0), (7, .int 1), (0, .ref a0), (1, .int x1), (2, .int x2), (3, .int x3), (4, .int x4), (5, .int x5), (6, .int x6)]) dX8_sick_54 (by decide) rfl ?_
      obtain ⟨o17, ho18, hf⟩ := bnd_some hf
      refine g_lv [2, 3, 4, 5, 6, 7, 8, 1, 0] (lv' := [(0, .ref a0), (1, .int x1), (2, .int x2), (3, .int x3), (4, .int x4), (5, .int x5), (6, .int x6), (7, .int 1), (8, .int 0)]) rfl ?_
      refine wX8_sick_L56 k N a0 a0_row a0_lanes a0_sizes a0_items a0_tape a0_readIce a0_readPeople a0_readSayings a0_line a0_bestLine a0_seen a0_held  x1 x2 x3 x4 x5 x6 va0_row va0_isKept va0_length va0_at va0_number va0_readCells va0_readMany va0_readSaid va0_bestFar va0_bestIce N 1 0 o17 ho18 ?_
      refine g_iload k 4 dX8_sick_97 rfl ?_
      refine g_aload_n k 0 dX8_sick_99 rfl rfl ?_
      refine g_iconst k dX8_sick_100 ic_0 ?_
      obtain ⟨o19, ho20, hf⟩ := bnd_some hf
      refine g_cv k miX8_isThrough mvX8_isThrough (ctX8_isThrough (kL K) E N a0 a0_row a0_lanes a0_sizes a0_items a0_tape a0_readIce a0_readPeople a0_readSayings a0_line a0_bestLine a0_seen a0_held va0_isKept va0_length va0_at va0_number va0_readCells va0_readMany va0_readSaid va0_bestFar va0_bestIce va0_row 0 o19 ho20) [0, 1] 0 (ws' := [(a0, oB 8 [.ref a0_row, .int va0_isKept, .ref a0_lanes, .ref a0_sizes, .ref a0_items, .ref a0_tape, .int va0_length, .int va0_at, .int va0_number, .ref a0_readIce, .int va0_readCells, .ref a0_readPeople, .int va0_readMany, .ref a0_readSayings, .int va0_readSaid, .ref a0_line, .ref a0_bestLine, .int va0_bestFar, .int va0_bestIce, .ref a0_seen, .ref a0_held]), (a0_row, aI E 525 va0_row)]) dX8_sick_101 lkX8_166 rfl ⟨rfl, rfl⟩ ⟨by decide, by decide⟩ rfl rfl rfl rfl (Nat.le_of_ble_eq_true rfl) rfl rfl rfl ?_
      refine g_st (st' := [.int o19, .int x4]) rfl ?_
      refine g_if_ne k (tgt := 136) dX8_sick_104 (by decide) (fun c21 => ?_) (fun c21 => ?_)
      · replace hf := ite_f c21 hf
        refine g_iconst k dX8_sick_136 ic_0 ?_
        refine g_iadd k dX8_sick_137 ?_
        refine g_istore k (lv' := [(4, .int (x4 + 0)), (0, .ref a0), (1, .int x1), (2, .int x2), (3, .int x3), (5, .int x5), (6, .int x6), (7, .int o17.1), (8, .int o17.2)]) dX8_sick_138 (by decide) rfl ?_
        refine g_iload k 5 dX8_sick_140 rfl ?_
        refine g_iload k 7 dX8_sick_142 rfl ?_
        refine g_iadd k dX8_sick_144 ?_
        refine g_istore k (lv' := [(5, .int (x5 + o17.1)), (4, .int (x4 + 0)), (0, .ref a0), (1, .int x1), (2, .int x2), (3, .int x3), (6, .int x6), (7, .int o17.1), (8, .int o17.2)]) dX8_sick_145 (by decide) rfl ?_
        refine g_iinc k (lv' := [(6, .int (x6 + 1)), (5, .int (x5 + o17.1)), (4, .int (x4 + 0)), (0, .ref a0), (1, .int x1), (2, .int x2), (3, .int x3), (7, .int o17.1), (8, .int o17.2)]) 6 dX8_sick_147 rfl (ii_1 _) (by decide) rfl ?_
        refine g_goto k (tgt := 41) dX8_sick_150 (by decide) ?_
        refine g_lv [3, 4, 5, 6, 2, 1, 0] rfl ?_
        exact ih (x4 + 0) (x5 + o17.1) (x6 + 1) o hf hG
      · replace hf := ite_t c21 hf
        refine g_aload_n k 0 dX8_sick_107 rfl rfl ?_
        refine g_iload_n k 1 dX8_sick_108 rfl rfl ?_
        refine g_aload_n k 0 dX8_sick_109 rfl rfl ?_
        refine g_get k cfX8 0 0 dX8_sick_110 lkX8_7 (by decide) rfl rfl ?_
        refine g_bipush k dX8_sick_113 bi_20 ?_
        refine g_iload_n k 1 dX8_sick_115 rfl rfl ?_
        refine g_iadd k dX8_sick_116 ?_
        obtain ⟨κ22, hκ22, hiκ22, heκ22, hf⟩ := ixb_some hf
        refine g_iaload k 1 dX8_sick_117 rfl hiκ22 heκ22 ?_
        refine g_iload k 6 dX8_sick_118 rfl ?_
        obtain ⟨o23, ho24, hf⟩ := bnd_some hf
        refine g_cv k miX8_rockWith mvX8_rockWith (ctX8_rockWith (kL K) E N a0 a0_row a0_lanes a0_sizes a0_items a0_tape a0_readIce a0_readPeople a0_readSayings a0_line a0_bestLine a0_seen a0_held va0_isKept va0_length va0_at va0_number va0_readCells va0_readMany va0_readSaid va0_bestFar va0_bestIce va0_row x1 (va0_row κ22) x6 o23 ho24) [0, 1] 0 (ws' := [(a0, oB 8 [.ref a0_row, .int va0_isKept, .ref a0_lanes, .ref a0_sizes, .ref a0_items, .ref a0_tape, .int va0_length, .int va0_at, .int va0_number, .ref a0_readIce, .int va0_readCells, .ref a0_readPeople, .int va0_readMany, .ref a0_readSayings, .int va0_readSaid, .ref a0_line, .ref a0_bestLine, .int va0_bestFar, .int va0_bestIce, .ref a0_seen, .ref a0_held]), (a0_row, aI E 525 va0_row)]) dX8_sick_120 lkX8_228 rfl ⟨rfl, rfl⟩ ⟨by decide, by decide⟩ rfl rfl rfl rfl (Nat.le_of_ble_eq_true rfl) rfl rfl rfl ?_
        refine g_st (st' := [.int o23, .int x4]) rfl ?_
        refine g_aload_n k 0 dX8_sick_123 rfl rfl ?_
        refine g_iconst k dX8_sick_124 ic_0 ?_
        obtain ⟨o25, ho26, hf⟩ := bnd_some hf
        refine g_cv k miX8_iceAhead mvX8_iceAhead (ctX8_iceAhead (kL K) E N a0 a0_row a0_lanes a0_sizes a0_items a0_tape a0_readIce a0_readPeople a0_readSayings a0_line a0_bestLine a0_seen a0_held va0_isKept va0_length va0_at va0_number va0_readCells va0_readMany va0_readSaid va0_bestFar va0_bestIce va0_row 0 o25 ho26) [0, 1] 0 (ws' := [(a0, oB 8 [.ref a0_row, .int va0_isKept, .ref a0_lanes, .ref a0_sizes, .ref a0_items, .ref a0_tape, .int va0_length, .int va0_at, .int va0_number, .ref a0_readIce, .int va0_readCells, .ref a0_readPeople, .int va0_readMany, .ref a0_readSayings, .int va0_readSaid, .ref a0_line, .ref a0_bestLine, .int va0_bestFar, .int va0_bestIce, .ref a0_seen, .ref a0_held]), (a0_row, aI E 525 va0_row)]) dX8_sick_125 lkX8_202 rfl ⟨rfl, rfl⟩ ⟨by decide, by decide⟩ rfl rfl rfl rfl (Nat.le_of_ble_eq_true rfl) rfl rfl rfl ?_
        refine g_st (st' := [.int o25, .int o23, .int x4]) rfl ?_
        refine g_icmp_lt k (tgt := 136) dX8_sick_128 (by decide) (fun c27 => ?_) (fun c27 => ?_)
        · replace hf := ite_t c27 hf
          refine g_iconst k dX8_sick_136 ic_0 ?_
          refine g_iadd k dX8_sick_137 ?_
          refine g_istore k (lv' := [(4, .int (x4 + 0)), (0, .ref a0), (1, .int x1), (2, .int x2), (3, .int x3), (5, .int x5), (6, .int x6), (7, .int o17.1), (8, .int o17.2)]) dX8_sick_138 (by decide) rfl ?_
          refine g_iload k 5 dX8_sick_140 rfl ?_
          refine g_iload k 7 dX8_sick_142 rfl ?_
          refine g_iadd k dX8_sick_144 ?_
          refine g_istore k (lv' := [(5, .int (x5 + o17.1)), (4, .int (x4 + 0)), (0, .ref a0), (1, .int x1), (2, .int x2), (3, .int x3), (6, .int x6), (7, .int o17.1), (8, .int o17.2)]) dX8_sick_145 (by decide) rfl ?_
          refine g_iinc k (lv' := [(6, .int (x6 + 1)), (5, .int (x5 + o17.1)), (4, .int (x4 + 0)), (0, .ref a0), (1, .int x1), (2, .int x2), (3, .int x3), (7, .int o17.1), (8, .int o17.2)]) 6 dX8_sick_147 rfl (ii_1 _) (by decide) rfl ?_
          refine g_goto k (tgt := 41) dX8_sick_150 (by decide) ?_
          refine g_lv [3, 4, 5, 6, 2, 1, 0] rfl ?_
          exact ih (x4 + 0) (x5 + o17.1) (x6 + 1) o hf hG
        · replace hf := ite_f c27 hf
          refine g_iload k 7 dX8_sick_131 rfl ?_
          refine g_goto k (tgt := 137) dX8_sick_133 (by decide) ?_
          refine g_iadd k dX8_sick_137 ?_
          refine g_istore k (lv' := [(4, .int (x4 + o17.1)), (0, .ref a0), (1, .int x1), (2, .int x2), (3, .int x3), (5, .int x5), (6, .int x6), (7, .int o17.1), (8, .int o17.2)]) dX8_sick_138 (by decide) rfl ?_
          refine g_iload k 5 dX8_sick_140 rfl ?_
          refine g_iload k 7 dX8_sick_142 rfl ?_
          refine g_iadd k dX8_sick_144 ?_
          refine g_istore k (lv' := [(5, .int (x5 + o17.1)), (4, .int (x4 + o17.1)), (0, .ref a0), (1, .int x1), (2, .int x2), (3, .int x3), (6, .int x6), (7, .int o17.1), (8, .int o17.2)]) dX8_sick_145 (by decide) rfl ?_
          refine g_iinc k (lv' := [(6, .int (x6 + 1)), (5, .int (x5 + o17.1)), (4, .int (x4 + o17.1)), (0, .ref a0), (1, .int x1), (2, .int x2), (3, .int x3), (7, .int o17.1), (8, .int o17.2)]) 6 dX8_sick_147 rfl (ii_1 _) (by decide) rfl ?_
          refine g_goto k (tgt := 41) dX8_sick_150 (by decide) ?_
          refine g_lv [3, 4, 5, 6, 2, 1, 0] rfl ?_
          exact ih (x4 + o17.1) (x5 + o17.1) (x6 + 1) o hf hG
def fX8_sick_L161 (N : Nat) (x1 : Int32) (x2 : Int32) (x3 : Int32) (x4 : Int32) (x5 : Int32) : Nat → Int32 → Int32 → Option (Int32 × Int32)
  | 0, _, _ => none
  | n + 1, x6, x7 =>
    if x7 = 0 then
    some (x6, x7)
    else
    dvb x7 (fX8_sick_L161 N x1 x2 x3 x4 x5 n x7 (irem x6 x7))
set_option maxHeartbeats 4000000 in
set_option maxRecDepth 100000 in
theorem wX8_sick_L161 {E : Ev} {K : KX} (k : OKX E K cX8_sick RX8 9 rmX8_sick) (N : Nat) (a0 : Nat) (a0_row : Nat) (a0_lanes : Nat) (a0_sizes : Nat) (a0_items : Nat) (a0_tape : Nat) (a0_readIce : Nat) (a0_readPeople : Nat) (a0_readSayings : Nat) (a0_line : Nat) (a0_bestLine : Nat) (a0_seen : Nat) (a0_held : Nat) (x1 : Int32) (x2 : Int32) (x3 : Int32) (x4 : Int32) (x5 : Int32) (va0_isKept : Int32) (va0_length : Int32) (va0_at : Int32) (va0_number : Int32) (va0_readCells : Int32) (va0_readMany : Int32) (va0_readSaid : Int32) (va0_bestFar : Int32) (va0_bestIce : Int32) (va0_row : Nat → Int32) : ∀ (n : Nat) (x6 : Int32) (x7 : Int32) (o : Int32 × Int32), fX8_sick_L161 N x1 x2 x3 x4 x5 n x6 x7 = some o → G E K 9 0 0 [(0, .ref a0), (1, .int x1), (2, .int x2), (3, .int x3), (4, .int x4), (5, .int x5), (6, .int o.1), (7, .int o.2)] [] [(a0, oB 8 [.ref a0_row, .int va0_isKept, .ref a0_lanes, .ref a0_sizes, .ref a0_items, .ref a0_tape, .int va0_length, .int va0_at, .int va0_number, .ref a0_readIce, .int va0_readCells, .ref a0_readPeople, .int va0_readMany, .ref a0_readSayings, .int va0_readSaid, .ref a0_line, .ref a0_bestLine, .int va0_bestFar, .int va0_bestIce, .ref a0_seen, .ref a0_held]), (a0_row, aI E 525 va0_row)] 184 → G E K 9 0 0 [(0, .ref a0), (1, .int x1), (2, .int x2), (3, .int x3), (4, .int x4), (5, .int x5), (6, .int x6), (7, .int x7)] [] [(a0, oB 8 [.ref a0_row, .int va0_isKept, .ref a0_lanes, .ref a0_sizes, .ref a0_items, .ref a0_tape, .int va0_length, .int va0_at, .int va0_number, .ref a0_readIce, .int va0_readCells, .ref a0_readPeople, .int va0_readMany, .ref a0_readSayings, .int va0_readSaid, .ref a0_line, .ref a0_bestLine, .int va0_bestFar, .int va0_bestIce, .ref a0_seen, .ref a0_held]), (a0_row, aI E 525 va0_row)] 161 := by
  intro n
  induction n with
  | zero => intro x6 x7 o hf; cases hf
  | succ n ih =>
    intro x6 x7 o hf hG
    rw [fX8_sick_L161] at hf
    refine g_iload k 7 dX8_sick_161 rfl ?_
    refine g_if_eq k (tgt := 184) dX8_sick_163 (by decide) (fun c30 => ?_) (fun c30 => ?_)
    · replace hf := ite_t c30 hf
      refine g_lv [0, 1, 2, 3, 4, 5, 6, 7] rfl ?_
      obtain rfl := Option.some.inj hf
      exact hG
    · replace hf := ite_f c30 hf
      refine g_iload k 6 dX8_sick_166 rfl ?_
      refine g_iload k 7 dX8_sick_168 rfl ?_
      obtain ⟨hz31, hf⟩ := dvb_some hf
      refine g_irem k dX8_sick_170 hz31 ?_
      refine g_istore k (lv' := [(8, .int (irem x6 x7)), (0, .ref a0), (1, .int x1), (2, .int x2), (3, .int x3), (4, .int x4), (5, .int x5), (6, .int x6), (7, .int x7)]) dX8_sick_171 (by decide) rfl ?_
      refine g_iload k 8 dX8_sick_173 rfl ?_
      refine g_istore k (lv' := [(6, .int x7), (8, .int (irem x6 x7)), (0, .ref a0), (1, .int x1), (2, .int x2), (3, .int x3), (4, .int x4), (5, .int x5), (7, .int x7)]) dX8_sick_175 (by decide) rfl ?_
      refine g_iload k 1 dX8_sick_177 rfl ?_
      refine g_istore k (lv' := [(7, .int (irem x6 x7)), (6, .int x7), (8, .int (irem x6 x7)), (0, .ref a0), (1, .int x1), (2, .int x2), (3, .int x3), (4, .int x4), (5, .int x5)]) dX8_sick_179 (by decide) rfl ?_
      refine g_goto k (tgt := 161) dX8_sick_181 (by decide) ?_
      refine g_lv [3, 4, 5, 6, 7, 8, 1, 0] rfl ?_
      exact ih x7 (irem x6 x7) o hf hG
def fX8_sick (N : Nat) (va0_row : Nat → Int32) (x1 : Int32) (x2 : Int32) (x3 : Int32) : Option (Int32) :=
  bnd (fX8_isSaying N va0_row x1) fun o1 =>
  if o1 = 0 then
  some ((-1))
  else
  bnd (fX8_in N x2.toInt64 0 10) fun o4 =>
  if o4 = 0 then
  some ((-1))
  else
  bnd (fX8_in N x3.toInt64 0 1) fun o7 =>
  if o7 = 0 then
  some ((-1))
  else
  bnd (fX8_sick_L41 N x1 x2 x3 va0_row N 0 0 0) fun o28 =>
  bnd (fX8_sick_L161 N x1 x2 x3 o28.1 o28.2.1 N o28.1 o28.2.1) fun o32 =>
  if x3 = 0 then
  dvb o32.1 (some ((o28.1 / o32.1)))
  else
  dvb o32.1 (some ((o28.2.1 / o32.1)))
set_option maxHeartbeats 4000000 in
set_option maxRecDepth 100000 in
theorem ctX8_sick (l : Launch) (E : Ev) (N : Nat) (a0 : Nat) (a0_row : Nat) (a0_lanes : Nat) (a0_sizes : Nat) (a0_items : Nat) (a0_tape : Nat) (a0_readIce : Nat) (a0_readPeople : Nat) (a0_readSayings : Nat) (a0_line : Nat) (a0_bestLine : Nat) (a0_seen : Nat) (a0_held : Nat) (va0_isKept : Int32) (va0_length : Int32) (va0_at : Int32) (va0_number : Int32) (va0_readCells : Int32) (va0_readMany : Int32) (va0_readSaid : Int32) (va0_bestFar : Int32) (va0_bestIce : Int32) (va0_row : Nat → Int32) (x1 : Int32) (x2 : Int32) (x3 : Int32) (out : Int32) (hf : fX8_sick N va0_row x1 x2 x3 = some out) : Ct l E yX8_sick cX8_sick 9 (some .int) rmX8_sick [.ref a0, .int x1, .int x2, .int x3] [(a0, oB 8 [.ref a0_row, .int va0_isKept, .ref a0_lanes, .ref a0_sizes, .ref a0_items, .ref a0_tape, .int va0_length, .int va0_at, .int va0_number, .ref a0_readIce, .int va0_readCells, .ref a0_readPeople, .int va0_readMany, .ref a0_readSayings, .int va0_readSaid, .ref a0_line, .ref a0_bestLine, .int va0_bestFar, .int va0_bestIce, .ref a0_seen, .ref a0_held]), (a0_row, aI E 525 va0_row)] (Pe (some (.int out)) [(a0, oB 8 [.ref a0_row, .int va0_isKept, .ref a0_lanes, .ref a0_sizes, .ref a0_items, .ref a0_tape, .int va0_length, .int va0_at, .int va0_number, .ref a0_readIce, .int va0_readCells, .ref a0_readPeople, .int va0_readMany, .ref a0_readSayings, .int va0_readSaid, .ref a0_line, .ref a0_bestLine, .int va0_bestFar, .int va0_bestIce, .ref a0_seen, .ref a0_held]), (a0_row, aI E 525 va0_row)]) := by
  refine Ct.of rfl (Nat.le_of_ble_eq_true rfl) (fun K hL k r hin => ?_)
  subst hL
  unfold fX8_sick at hf
  show G E K 9 0 0 [(0, .ref a0), (1, .int x1), (2, .int x2), (3, .int x3)] [] [(a0, oB 8 [.ref a0_row, .int va0_isKept, .ref a0_lanes, .ref a0_sizes, .ref a0_items, .ref a0_tape, .int va0_length, .int va0_at, .int va0_number, .ref a0_readIce, .int va0_readCells, .ref a0_readPeople, .int va0_readMany, .ref a0_readSayings, .int va0_readSaid, .ref a0_line, .ref a0_bestLine, .int va0_bestFar, .int va0_bestIce, .ref a0_seen, .ref a0_held]), (a0_row, aI E 525 va0_row)] 0
  refine g_aload_n k 0 dX8_sick_0 rfl rfl ?_
  refine g_iload_n k 1 dX8_sick_1 rfl rfl ?_
  obtain ⟨o1, ho2, hf⟩ := bnd_some hf
  refine g_cv k miX8_isSaying mvX8_isSaying (ctX8_isSaying (kL K) E N a0 a0_row a0_lanes a0_sizes a0_items a0_tape a0_readIce a0_readPeople a0_readSayings a0_line a0_bestLine a0_seen a0_held va0_isKept va0_length va0_at va0_number va0_readCells va0_readMany va0_readSaid va0_bestFar va0_bestIce va0_row x1 o1 ho2) [0, 1] 0 (ws' := [(a0, oB 8 [.ref a0_row, .int va0_isKept, .ref a0_lanes, .ref a0_sizes, .ref a0_items, .ref a0_tape, .int va0_length, .int va0_at, .int va0_number, .ref a0_readIce, .int va0_readCells, .ref a0_readPeople, .int va0_readMany, .ref a0_readSayings, .int va0_readSaid, .ref a0_line, .ref a0_bestLine, .int va0_bestFar, .int va0_bestIce, .ref a0_seen, .ref a0_held]), (a0_row, aI E 525 va0_row)]) dX8_sick_2 lkX8_100 rfl ⟨rfl, rfl⟩ ⟨by decide, by decide⟩ rfl rfl rfl rfl (Nat.le_of_ble_eq_true rfl) rfl rfl rfl ?_
  refine g_st (st' := [.int o1]) rfl ?_
  refine g_if_eq k (tgt := 30) dX8_sick_5 (by decide) (fun c3 => ?_) (fun c3 => ?_)
  · replace hf := ite_t c3 hf
    refine g_iconst k dX8_sick_30 ic_m1 ?_
    obtain rfl := Option.some.inj hf
    exact g_iret k r dX8_sick_31 ⟨rfl, rfl⟩
  · replace hf := ite_f c3 hf
    refine g_iload_n k 2 dX8_sick_8 rfl rfl ?_
    refine g_i2l k dX8_sick_9 ?_
    refine g_lconst k dX8_sick_10 lc_0 ?_
    refine g_ldc2 k dX8_sick_11 lkX8_242 ?_
    obtain ⟨o4, ho5, hf⟩ := bnd_some hf
    refine g_cs k miX8_in msX8_in (ctX8_in (kL K) E N   x2.toInt64 0 10 o4 ho5) [] (ws' := [(a0, oB 8 [.ref a0_row, .int va0_isKept, .ref a0_lanes, .ref a0_sizes, .ref a0_items, .ref a0_tape, .int va0_length, .int va0_at, .int va0_number, .ref a0_readIce, .int va0_readCells, .ref a0_readPeople, .int va0_readMany, .ref a0_readSayings, .int va0_readSaid, .ref a0_line, .ref a0_bestLine, .int va0_bestFar, .int va0_bestIce, .ref a0_seen, .ref a0_held]), (a0_row, aI E 525 va0_row)]) dX8_sick_14 lkX8_47 rfl ⟨rfl, rfl⟩ ⟨by decide, by decide⟩ rfl rfl rfl (Nat.le_of_ble_eq_true rfl) rfl rfl rfl ?_
    refine g_st (st' := [.int o4]) rfl ?_
    refine g_if_eq k (tgt := 30) dX8_sick_17 (by decide) (fun c6 => ?_) (fun c6 => ?_)
    · replace hf := ite_t c6 hf
      refine g_iconst k dX8_sick_30 ic_m1 ?_
      obtain rfl := Option.some.inj hf
      exact g_iret k r dX8_sick_31 ⟨rfl, rfl⟩
    · replace hf := ite_f c6 hf
      refine g_iload_n k 3 dX8_sick_20 rfl rfl ?_
      refine g_i2l k dX8_sick_21 ?_
      refine g_lconst k dX8_sick_22 lc_0 ?_
      refine g_lconst k dX8_sick_23 lc_1 ?_
      obtain ⟨o7, ho8, hf⟩ := bnd_some hf
      refine g_cs k miX8_in msX8_in (ctX8_in (kL K) E N   x3.toInt64 0 1 o7 ho8) [] (ws' := [(a0, oB 8 [.ref a0_row, .int va0_isKept, .ref a0_lanes, .ref a0_sizes, .ref a0_items, .ref a0_tape, .int va0_length, .int va0_at, .int va0_number, .ref a0_readIce, .int va0_readCells, .ref a0_readPeople, .int va0_readMany, .ref a0_readSayings, .int va0_readSaid, .ref a0_line, .ref a0_bestLine, .int va0_bestFar, .int va0_bestIce, .ref a0_seen, .ref a0_held]), (a0_row, aI E 525 va0_row)]) dX8_sick_24 lkX8_47 rfl ⟨rfl, rfl⟩ ⟨by decide, by decide⟩ rfl rfl rfl (Nat.le_of_ble_eq_true rfl) rfl rfl rfl ?_
      refine g_st (st' := [.int o7]) rfl ?_
      refine g_if_ne k (tgt := 32) dX8_sick_27 (by decide) (fun c9 => ?_) (fun c9 => ?_)
      · replace hf := ite_f c9 hf
        refine g_iconst k dX8_sick_32 ic_0 ?_
        refine g_istore k (lv' := [(4, .int 0), (0, .ref a0), (1, .int x1), (2, .int x2), (3, .int x3)]) dX8_sick_33 (by decide) rfl ?_
        refine g_iconst k dX8_sick_35 ic_0 ?_
        refine g_istore k (lv' := [(5, .int 0), (4, .int 0), (0, .ref a0), (1, .int x1), (2, .int x2), (3, .int x3)]) dX8_sick_36 (by decide) rfl ?_
        refine g_iconst k dX8_sick_38 ic_0 ?_
        refine g_istore k (lv' := [(6, .int 0), (5, .int 0), (4, .int 0), (0, .ref a0), (1, .int x1), (2, .int x2), (3, .int x3)]) dX8_sick_39 (by decide) rfl ?_
        obtain ⟨o28, ho29, hf⟩ := bnd_some hf
        refine g_lv [3, 4, 5, 6, 2, 1, 0] (lv' := [(0, .ref a0), (1, .int x1), (2, .int x2), (3, .int x3), (4, .int 0), (5, .int 0), (6, .int 0)]) rfl ?_
        refine wX8_sick_L41 k N a0 a0_row a0_lanes a0_sizes a0_items a0_tape a0_readIce a0_readPeople a0_readSayings a0_line a0_bestLine a0_seen a0_held  x1 x2 x3 va0_row va0_isKept va0_length va0_at va0_number va0_readCells va0_readMany va0_readSaid va0_bestFar va0_bestIce N 0 0 0 o28 ho29 ?_
        refine g_iload k 4 dX8_sick_153 rfl ?_
        refine g_istore k (lv' := [(6, .int o28.1), (0, .ref a0), (1, .int x1), (2, .int x2), (3, .int x3), (4, .int o28.1), (5, .int o28.2.1)]) dX8_sick_155 (by decide) rfl ?_
        refine g_iload k 6 dX8_sick_157 rfl ?_
        refine g_istore k (lv' := [(7, .int o28.2.1), (6, .int o28.1), (0, .ref a0), (1, .int x1), (2, .int x2), (3, .int x3), (4, .int o28.1), (5, .int o28.2.1)]) dX8_sick_159 (by decide) rfl ?_
        obtain ⟨o32, ho33, hf⟩ := bnd_some hf
        refine g_lv [2, 3, 4, 5, 6, 7, 1, 0] (lv' := [(0, .ref a0), (1, .int x1), (2, .int x2), (3, .int x3), (4, .int o28.1), (5, .int o28.2.1), (6, .int o28.1), (7, .int o28.2.1)]) rfl ?_
        refine wX8_sick_L161 k N a0 a0_row a0_lanes a0_sizes a0_items a0_tape a0_readIce a0_readPeople a0_readSayings a0_line a0_bestLine a0_seen a0_held  x1 x2 x3 o28.1 o28.2.1 va0_isKept va0_length va0_at va0_number va0_readCells va0_readMany va0_readSaid va0_bestFar va0_bestIce va0_row N o28.1 o28.2.1 o32 ho33 ?_
        refine g_iload_n k 3 dX8_sick_184 rfl rfl ?_
        refine g_if_ne k (tgt := 196) dX8_sick_185 (by decide) (fun c34 => ?_) (fun c34 => ?_)
        · replace hf := ite_f c34 hf
          refine g_iload k 5 dX8_sick_196 rfl ?_
          refine g_iload k 6 dX8_sick_198 rfl ?_
          obtain ⟨hz35, hf⟩ := dvb_some hf
          refine g_idiv k dX8_sick_200 hz35 ?_
          obtain rfl := Option.some.inj hf
          exact g_iret k r dX8_sick_201 ⟨rfl, rfl⟩
        · replace hf := ite_t c34 hf
          refine g_iload k 4 dX8_sick_188 rfl ?_
          refine g_iload k 6 dX8_sick_190 rfl ?_
          obtain ⟨hz36, hf⟩ := dvb_some hf
          refine g_idiv k dX8_sick_192 hz36 ?_
          refine g_goto k (tgt := 201) dX8_sick_193 (by decide) ?_
          obtain rfl := Option.some.inj hf
          exact g_iret k r dX8_sick_201 ⟨rfl, rfl⟩
      · replace hf := ite_t c9 hf
        refine g_iconst k dX8_sick_30 ic_m1 ?_
        obtain rfl := Option.some.inj hf
        exact g_iret k r dX8_sick_31 ⟨rfl, rfl⟩
abbrev rmX8_image : Room := { frames := 0, cells := 0, slots := 0, locals := 0 }
def fX8_image_L2 (N : Nat)  : Nat → Int32 → (Nat → Int32) → Option (Int32 × (Nat → Int32))
  | 0, _, _ => none
  | n + 1, x1, va0_row =>
    if 242 ≤ x1 then
    some (x1, va0_row)
    else
    ixb x1 525 fun κ2 =>
    ixb (242 + x1) 525 fun κ3 =>
    fX8_image_L2 N  n (x1 + 1) (upd va0_row κ3 (va0_row κ2))
set_option maxHeartbeats 4000000 in
set_option maxRecDepth 100000 in
theorem wX8_image_L2 {E : Ev} {K : KX} (k : OKX E K cX8_image RX8 2 rmX8_image) (N : Nat) (a0 : Nat) (a0_row : Nat) (a0_lanes : Nat) (a0_sizes : Nat) (a0_items : Nat) (a0_tape : Nat) (a0_readIce : Nat) (a0_readPeople : Nat) (a0_readSayings : Nat) (a0_line : Nat) (a0_bestLine : Nat) (a0_seen : Nat) (a0_held : Nat) (va0_isKept : Int32) (va0_length : Int32) (va0_at : Int32) (va0_number : Int32) (va0_readCells : Int32) (va0_readMany : Int32) (va0_readSaid : Int32) (va0_bestFar : Int32) (va0_bestIce : Int32) : ∀ (n : Nat) (x1 : Int32) (va0_row : Nat → Int32) (o : Int32 × (Nat → Int32)), fX8_image_L2 N  n x1 va0_row = some o → G E K 2 0 0 [(0, .ref a0), (1, .int o.1)] [] [(a0, oB 8 [.ref a0_row, .int va0_isKept, .ref a0_lanes, .ref a0_sizes, .ref a0_items, .ref a0_tape, .int va0_length, .int va0_at, .int va0_number, .ref a0_readIce, .int va0_readCells, .ref a0_readPeople, .int va0_readMany, .ref a0_readSayings, .int va0_readSaid, .ref a0_line, .ref a0_bestLine, .int va0_bestFar, .int va0_bestIce, .ref a0_seen, .ref a0_held]), (a0_row, aI E 525 o.2)] 31 → G E K 2 0 0 [(0, .ref a0), (1, .int x1)] [] [(a0, oB 8 [.ref a0_row, .int va0_isKept, .ref a0_lanes, .ref a0_sizes, .ref a0_items, .ref a0_tape, .int va0_length, .int va0_at, .int va0_number, .ref a0_readIce, .int va0_readCells, .ref a0_readPeople, .int va0_readMany, .ref a0_readSayings, .int va0_readSaid, .ref a0_line, .ref a0_bestLine, .int va0_bestFar, .int va0_bestIce, .ref a0_seen, .ref a0_held]), (a0_row, aI E 525 va0_row)] 2 := by
  intro n
  induction n with
  | zero => intro x1 va0_row o hf; cases hf
  | succ n ih =>
    intro x1 va0_row o hf hG
    rw [fX8_image_L2] at hf
    refine g_iload_n k 1 dX8_image_2 rfl rfl ?_
    refine g_sipush k dX8_image_3 si_242 ?_
    refine g_icmp_ge k (tgt := 31) dX8_image_6 (by decide) (fun c1 => ?_) (fun c1 => ?_)
    · replace hf := ite_t c1 hf
      refine g_lv [0, 1] rfl ?_
      obtain rfl := Option.some.inj hf
      exact hG
    · replace hf := ite_f c1 hf
      refine g_aload_n k 0 dX8_image_9 rfl rfl ?_
      refine g_get k cfX8 0 0 dX8_image_10 lkX8_7 (by decide) rfl rfl ?_
      refine g_sipush k dX8_image_13 si_242 ?_
      refine g_iload_n k 1 dX8_image_16 rfl rfl ?_
      refine g_iadd k dX8_image_17 ?_
      refine g_aload_n k 0 dX8_image_18 rfl rfl ?_
      refine g_get k cfX8 0 0 dX8_image_19 lkX8_7 (by decide) rfl rfl ?_
      refine g_iload_n k 1 dX8_image_22 rfl rfl ?_
      obtain ⟨κ2, hκ2, hiκ2, heκ2, hf⟩ := ixb_some hf
      refine g_iaload k 1 dX8_image_23 rfl hiκ2 heκ2 ?_
      obtain ⟨κ3, hκ3, hiκ3, heκ3, hf⟩ := ixb_some hf
      refine g_iastore k 1 (ws' := [(a0, oB 8 [.ref a0_row, .int va0_isKept, .ref a0_lanes, .ref a0_sizes, .ref a0_items, .ref a0_tape, .int va0_length, .int va0_at, .int va0_number, .ref a0_readIce, .int va0_readCells, .ref a0_readPeople, .int va0_readMany, .ref a0_readSayings, .int va0_readSaid, .ref a0_line, .ref a0_bestLine, .int va0_bestFar, .int va0_bestIce, .ref a0_seen, .ref a0_held]), (a0_row, aI E 525 (upd va0_row κ3 (va0_row κ2)))]) dX8_image_24 rfl hiκ3 heκ3 rfl ?_
      refine g_iinc k (lv' := [(1, .int (x1 + 1)), (0, .ref a0)]) 1 dX8_image_25 rfl (ii_1 _) (by decide) rfl ?_
      refine g_goto k (tgt := 2) dX8_image_28 (by decide) ?_
      refine g_lv [1, 0] rfl ?_
      exact ih (x1 + 1) (upd va0_row κ3 (va0_row κ2)) o hf hG
def fX8_image (N : Nat) (va0_isKept : Int32) (va0_row : Nat → Int32)  : Option (Int32 × Int32 × (Nat → Int32)) :=
  bnd (fX8_image_L2 N  N 0 va0_row) fun o4 =>
  some (1, 1, o4.2)
set_option maxHeartbeats 4000000 in
set_option maxRecDepth 100000 in
theorem ctX8_image (l : Launch) (E : Ev) (N : Nat) (a0 : Nat) (a0_row : Nat) (a0_lanes : Nat) (a0_sizes : Nat) (a0_items : Nat) (a0_tape : Nat) (a0_readIce : Nat) (a0_readPeople : Nat) (a0_readSayings : Nat) (a0_line : Nat) (a0_bestLine : Nat) (a0_seen : Nat) (a0_held : Nat) (va0_isKept : Int32) (va0_length : Int32) (va0_at : Int32) (va0_number : Int32) (va0_readCells : Int32) (va0_readMany : Int32) (va0_readSaid : Int32) (va0_bestFar : Int32) (va0_bestIce : Int32) (va0_row : Nat → Int32)  (out : Int32 × Int32 × (Nat → Int32)) (hf : fX8_image N va0_isKept va0_row  = some out) : Ct l E yX8_image cX8_image 2 (some .int) rmX8_image [.ref a0] [(a0, oB 8 [.ref a0_row, .int va0_isKept, .ref a0_lanes, .ref a0_sizes, .ref a0_items, .ref a0_tape, .int va0_length, .int va0_at, .int va0_number, .ref a0_readIce, .int va0_readCells, .ref a0_readPeople, .int va0_readMany, .ref a0_readSayings, .int va0_readSaid, .ref a0_line, .ref a0_bestLine, .int va0_bestFar, .int va0_bestIce, .ref a0_seen, .ref a0_held]), (a0_row, aI E 525 va0_row)] (Pe (some (.int out.1)) [(a0, oB 8 [.ref a0_row, .int out.2.1, .ref a0_lanes, .ref a0_sizes, .ref a0_items, .ref a0_tape, .int va0_length, .int va0_at, .int va0_number, .ref a0_readIce, .int va0_readCells, .ref a0_readPeople, .int va0_readMany, .ref a0_readSayings, .int va0_readSaid, .ref a0_line, .ref a0_bestLine, .int va0_bestFar, .int va0_bestIce, .ref a0_seen, .ref a0_held]), (a0_row, aI E 525 out.2.2)]) := by
  refine Ct.of rfl (Nat.le_of_ble_eq_true rfl) (fun K hL k r hin => ?_)
  subst hL
  unfold fX8_image at hf
  show G E K 2 0 0 [(0, .ref a0)] [] [(a0, oB 8 [.ref a0_row, .int va0_isKept, .ref a0_lanes, .ref a0_sizes, .ref a0_items, .ref a0_tape, .int va0_length, .int va0_at, .int va0_number, .ref a0_readIce, .int va0_readCells, .ref a0_readPeople, .int va0_readMany, .ref a0_readSayings, .int va0_readSaid, .ref a0_line, .ref a0_bestLine, .int va0_bestFar, .int va0_bestIce, .ref a0_seen, .ref a0_held]), (a0_row, aI E 525 va0_row)] 0
  refine g_iconst k dX8_image_0 ic_0 ?_
  refine g_istore_n k (lv' := [(1, .int 0), (0, .ref a0)]) dX8_image_1 rfl (by decide) rfl ?_
  obtain ⟨o4, ho5, hf⟩ := bnd_some hf
  refine g_lv [1, 0] (lv' := [(0, .ref a0), (1, .int 0)]) rfl ?_
  refine wX8_image_L2 k N a0 a0_row a0_lanes a0_sizes a0_items a0_tape a0_readIce a0_readPeople a0_readSayings a0_line a0_bestLine a0_seen a0_held   va0_isKept va0_length va0_at va0_number va0_readCells va0_readMany va0_readSaid va0_bestFar va0_bestIce N 0 va0_row o4 ho5 ?_
  refine g_aload_n k 0 dX8_image_31 rfl rfl ?_
  refine g_iconst k dX8_image_32 ic_1 ?_
  refine g_put k cfX8 1 0 (ws' := [(a0, oB 8 [.ref a0_row, .int 1, .ref a0_lanes, .ref a0_sizes, .ref a0_items, .ref a0_tape, .int va0_length, .int va0_at, .int va0_number, .ref a0_readIce, .int va0_readCells, .ref a0_readPeople, .int va0_readMany, .ref a0_readSayings, .int va0_readSaid, .ref a0_line, .ref a0_bestLine, .int va0_bestFar, .int va0_bestIce, .ref a0_seen, .ref a0_held]), (a0_row, aI E 525 o4.2)]) dX8_image_33 lkX8_244 (by decide) rfl rfl rfl rfl (Nat.le_of_ble_eq_true rfl) rfl ?_
  refine g_iconst k dX8_image_36 ic_1 ?_
  obtain rfl := Option.some.inj hf
  exact g_iret k r dX8_image_37 ⟨rfl, rfl⟩
abbrev rmX8_restore : Room := { frames := 0, cells := 0, slots := 0, locals := 0 }
def fX8_restore_L12 (N : Nat)  : Nat → Int32 → (Nat → Int32) → Option (Int32 × (Nat → Int32))
  | 0, _, _ => none
  | n + 1, x1, va0_row =>
    if 242 ≤ x1 then
    some (x1, va0_row)
    else
    ixb (242 + x1) 525 fun κ3 =>
    ixb x1 525 fun κ4 =>
    fX8_restore_L12 N  n (x1 + 1) (upd va0_row κ4 (va0_row κ3))
set_option maxHeartbeats 4000000 in
set_option maxRecDepth 100000 in
theorem wX8_restore_L12 {E : Ev} {K : KX} (k : OKX E K cX8_restore RX8 2 rmX8_restore) (N : Nat) (a0 : Nat) (a0_row : Nat) (a0_lanes : Nat) (a0_sizes : Nat) (a0_items : Nat) (a0_tape : Nat) (a0_readIce : Nat) (a0_readPeople : Nat) (a0_readSayings : Nat) (a0_line : Nat) (a0_bestLine : Nat) (a0_seen : Nat) (a0_held : Nat) (va0_isKept : Int32) (va0_length : Int32) (va0_at : Int32) (va0_number : Int32) (va0_readCells : Int32) (va0_readMany : Int32) (va0_readSaid : Int32) (va0_bestFar : Int32) (va0_bestIce : Int32) : ∀ (n : Nat) (x1 : Int32) (va0_row : Nat → Int32) (o : Int32 × (Nat → Int32)), fX8_restore_L12 N  n x1 va0_row = some o → G E K 2 0 0 [(0, .ref a0), (1, .int o.1)] [] [(a0, oB 8 [.ref a0_row, .int va0_isKept, .ref a0_lanes, .ref a0_sizes, .ref a0_items, .ref a0_tape, .int va0_length, .int va0_at, .int va0_number, .ref a0_readIce, .int va0_readCells, .ref a0_readPeople, .int va0_readMany, .ref a0_readSayings, .int va0_readSaid, .ref a0_line, .ref a0_bestLine, .int va0_bestFar, .int va0_bestIce, .ref a0_seen, .ref a0_held]), (a0_row, aI E 525 o.2)] 41 → G E K 2 0 0 [(0, .ref a0), (1, .int x1)] [] [(a0, oB 8 [.ref a0_row, .int va0_isKept, .ref a0_lanes, .ref a0_sizes, .ref a0_items, .ref a0_tape, .int va0_length, .int va0_at, .int va0_number, .ref a0_readIce, .int va0_readCells, .ref a0_readPeople, .int va0_readMany, .ref a0_readSayings, .int va0_readSaid, .ref a0_line, .ref a0_bestLine, .int va0_bestFar, .int va0_bestIce, .ref a0_seen, .ref a0_held]), (a0_row, aI E 525 va0_row)] 12 := by
  intro n
  induction n with
  | zero => intro x1 va0_row o hf; cases hf
  | succ n ih =>
    intro x1 va0_row o hf hG
    rw [fX8_restore_L12] at hf
    refine g_iload_n k 1 dX8_restore_12 rfl rfl ?_
    refine g_sipush k dX8_restore_13 si_242 ?_
    refine g_icmp_ge k (tgt := 41) dX8_restore_16 (by decide) (fun c2 => ?_) (fun c2 => ?_)
    · replace hf := ite_t c2 hf
      refine g_lv [0, 1] rfl ?_
      obtain rfl := Option.some.inj hf
      exact hG
    · replace hf := ite_f c2 hf
      refine g_aload_n k 0 dX8_restore_19 rfl rfl ?_
      refine g_get k cfX8 0 0 dX8_restore_20 lkX8_7 (by decide) rfl rfl ?_
      refine g_iload_n k 1 dX8_restore_23 rfl rfl ?_
      refine g_aload_n k 0 dX8_restore_24 rfl rfl ?_
      refine g_get k cfX8 0 0 dX8_restore_25 lkX8_7 (by decide) rfl rfl ?_
      refine g_sipush k dX8_restore_28 si_242 ?_
      refine g_iload_n k 1 dX8_restore_31 rfl rfl ?_
      refine g_iadd k dX8_restore_32 ?_
      obtain ⟨κ3, hκ3, hiκ3, heκ3, hf⟩ := ixb_some hf
      refine g_iaload k 1 dX8_restore_33 rfl hiκ3 heκ3 ?_
      obtain ⟨κ4, hκ4, hiκ4, heκ4, hf⟩ := ixb_some hf
      refine g_iastore k 1 (ws' := [(a0, oB 8 [.ref a0_row, .int va0_isKept, .ref a0_lanes, .ref a0_sizes, .ref a0_items, .ref a0_tape, .int va0_length, .int va0_at, .int va0_number, .ref a0_readIce, .int va0_readCells, .ref a0_readPeople, .int va0_readMany, .ref a0_readSayings, .int va0_readSaid, .ref a0_line, .ref a0_bestLine, .int va0_bestFar, .int va0_bestIce, .ref a0_seen, .ref a0_held]), (a0_row, aI E 525 (upd va0_row κ4 (va0_row κ3)))]) dX8_restore_34 rfl hiκ4 heκ4 rfl ?_
      refine g_iinc k (lv' := [(1, .int (x1 + 1)), (0, .ref a0)]) 1 dX8_restore_35 rfl (ii_1 _) (by decide) rfl ?_
      refine g_goto k (tgt := 12) dX8_restore_38 (by decide) ?_
      refine g_lv [1, 0] rfl ?_
      exact ih (x1 + 1) (upd va0_row κ4 (va0_row κ3)) o hf hG
def fX8_restore (N : Nat) (va0_isKept : Int32) (va0_row : Nat → Int32)  : Option (Int32 × (Nat → Int32)) :=
  if va0_isKept = 0 then
  some ((-4), va0_row)
  else
  bnd (fX8_restore_L12 N  N 0 va0_row) fun o5 =>
  some (1, o5.2)
set_option maxHeartbeats 4000000 in
set_option maxRecDepth 100000 in
theorem ctX8_restore (l : Launch) (E : Ev) (N : Nat) (a0 : Nat) (a0_row : Nat) (a0_lanes : Nat) (a0_sizes : Nat) (a0_items : Nat) (a0_tape : Nat) (a0_readIce : Nat) (a0_readPeople : Nat) (a0_readSayings : Nat) (a0_line : Nat) (a0_bestLine : Nat) (a0_seen : Nat) (a0_held : Nat) (va0_isKept : Int32) (va0_length : Int32) (va0_at : Int32) (va0_number : Int32) (va0_readCells : Int32) (va0_readMany : Int32) (va0_readSaid : Int32) (va0_bestFar : Int32) (va0_bestIce : Int32) (va0_row : Nat → Int32)  (out : Int32 × (Nat → Int32)) (hf : fX8_restore N va0_isKept va0_row  = some out) : Ct l E yX8_restore cX8_restore 2 (some .int) rmX8_restore [.ref a0] [(a0, oB 8 [.ref a0_row, .int va0_isKept, .ref a0_lanes, .ref a0_sizes, .ref a0_items, .ref a0_tape, .int va0_length, .int va0_at, .int va0_number, .ref a0_readIce, .int va0_readCells, .ref a0_readPeople, .int va0_readMany, .ref a0_readSayings, .int va0_readSaid, .ref a0_line, .ref a0_bestLine, .int va0_bestFar, .int va0_bestIce, .ref a0_seen, .ref a0_held]), (a0_row, aI E 525 va0_row)] (Pe (some (.int out.1)) [(a0, oB 8 [.ref a0_row, .int va0_isKept, .ref a0_lanes, .ref a0_sizes, .ref a0_items, .ref a0_tape, .int va0_length, .int va0_at, .int va0_number, .ref a0_readIce, .int va0_readCells, .ref a0_readPeople, .int va0_readMany, .ref a0_readSayings, .int va0_readSaid, .ref a0_line, .ref a0_bestLine, .int va0_bestFar, .int va0_bestIce, .ref a0_seen, .ref a0_held]), (a0_row, aI E 525 out.2)]) := by
  refine Ct.of rfl (Nat.le_of_ble_eq_true rfl) (fun K hL k r hin => ?_)
  subst hL
  unfold fX8_restore at hf
  show G E K 2 0 0 [(0, .ref a0)] [] [(a0, oB 8 [.ref a0_row, .int va0_isKept, .ref a0_lanes, .ref a0_sizes, .ref a0_items, .ref a0_tape, .int va0_length, .int va0_at, .int va0_number, .ref a0_readIce, .int va0_readCells, .ref a0_readPeople, .int va0_readMany, .ref a0_readSayings, .int va0_readSaid, .ref a0_line, .ref a0_bestLine, .int va0_bestFar, .int va0_bestIce, .ref a0_seen, .ref a0_held]), (a0_row, aI E 525 va0_row)] 0
  refine g_aload_n k 0 dX8_restore_0 rfl rfl ?_
  refine g_get k cfX8 1 0 dX8_restore_1 lkX8_244 (by decide) rfl rfl ?_
  refine g_if_ne k (tgt := 10) dX8_restore_4 (by decide) (fun c1 => ?_) (fun c1 => ?_)
  · replace hf := ite_f c1 hf
    refine g_iconst k dX8_restore_10 ic_0 ?_
    refine g_istore_n k (lv' := [(1, .int 0), (0, .ref a0)]) dX8_restore_11 rfl (by decide) rfl ?_
    obtain ⟨o5, ho6, hf⟩ := bnd_some hf
    refine g_lv [1, 0] (lv' := [(0, .ref a0), (1, .int 0)]) rfl ?_
    refine wX8_restore_L12 k N a0 a0_row a0_lanes a0_sizes a0_items a0_tape a0_readIce a0_readPeople a0_readSayings a0_line a0_bestLine a0_seen a0_held   va0_isKept va0_length va0_at va0_number va0_readCells va0_readMany va0_readSaid va0_bestFar va0_bestIce N 0 va0_row o5 ho6 ?_
    refine g_iconst k dX8_restore_41 ic_1 ?_
    obtain rfl := Option.some.inj hf
    exact g_iret k r dX8_restore_42 ⟨rfl, rfl⟩
  · replace hf := ite_t c1 hf
    refine g_bipush k dX8_restore_7 bi_m4 ?_
    obtain rfl := Option.some.inj hf
    exact g_iret k r dX8_restore_9 ⟨rfl, rfl⟩
abbrev rmX8_isSheet : Room := { frames := 1, cells := 0, slots := 0, locals := 25 }
def fX8_isSheet (N : Nat)  (x0 : Int32) : Option (Int32) :=
  bnd (fX8_in N x0.toInt64 0 3) fun o1 =>
  zb o1 (some (o1))
set_option maxHeartbeats 4000000 in
set_option maxRecDepth 100000 in
theorem ctX8_isSheet (l : Launch) (E : Ev) (N : Nat)   (x0 : Int32) (out : Int32) (hf : fX8_isSheet N  x0 = some out) : Ct l E yX8_isSheet cX8_isSheet 1 (some .boolean) rmX8_isSheet [.int x0] [] (Pe (some (.int out)) []) := by
  refine Ct.of rfl (Nat.le_of_ble_eq_true rfl) (fun K hL k r hin => ?_)
  subst hL
  unfold fX8_isSheet at hf
  show G E K 1 0 0 [(0, .int x0)] [] [] 0
  refine g_iload_n k 0 dX8_isSheet_0 rfl rfl ?_
  refine g_i2l k dX8_isSheet_1 ?_
  refine g_lconst k dX8_isSheet_2 lc_0 ?_
  refine g_ldc2 k dX8_isSheet_3 lkX8_248 ?_
  obtain ⟨o1, ho2, hf⟩ := bnd_some hf
  refine g_cs k miX8_in msX8_in (ctX8_in (kL K) E N   x0.toInt64 0 3 o1 ho2) [] (ws' := []) dX8_isSheet_6 lkX8_47 rfl ⟨rfl, rfl⟩ ⟨by decide, by decide⟩ rfl rfl rfl (Nat.le_of_ble_eq_true rfl) rfl rfl rfl ?_
  refine g_st (st' := [.int o1]) rfl ?_
  obtain ⟨hz3, hf⟩ := zb_some hf
  obtain rfl := Option.some.inj hf
  exact g_zret k (zb_nar hz3) r dX8_isSheet_9 ⟨rfl, rfl⟩
abbrev rmX8_isSpan : Room := { frames := 0, cells := 0, slots := 0, locals := 0 }
def fX8_isSpan (N : Nat) (va0_sizes : Nat → Int32) (x1 : Int32) (x2 : Int32) (x3 : Int32) : Option (Int32) :=
  if x2 < 0 then
  some (0)
  else
  if x3 < 0 then
  some (0)
  else
  ixb x1 4 fun κ3 =>
  if 0 < (lg_cmp (x2.toInt64 + x3.toInt64) ((va0_sizes κ3).toInt64)) then
  some (0)
  else
  some (1)
set_option maxHeartbeats 4000000 in
set_option maxRecDepth 100000 in
theorem ctX8_isSpan (l : Launch) (E : Ev) (N : Nat) (a0 : Nat) (a0_row : Nat) (a0_lanes : Nat) (a0_sizes : Nat) (a0_items : Nat) (a0_tape : Nat) (a0_readIce : Nat) (a0_readPeople : Nat) (a0_readSayings : Nat) (a0_line : Nat) (a0_bestLine : Nat) (a0_seen : Nat) (a0_held : Nat) (va0_isKept : Int32) (va0_length : Int32) (va0_at : Int32) (va0_number : Int32) (va0_readCells : Int32) (va0_readMany : Int32) (va0_readSaid : Int32) (va0_bestFar : Int32) (va0_bestIce : Int32) (va0_sizes : Nat → Int32) (x1 : Int32) (x2 : Int32) (x3 : Int32) (out : Int32) (hf : fX8_isSpan N va0_sizes x1 x2 x3 = some out) : Ct l E yX8_isSpan cX8_isSpan 4 (some .boolean) rmX8_isSpan [.ref a0, .int x1, .int x2, .int x3] [(a0, oB 8 [.ref a0_row, .int va0_isKept, .ref a0_lanes, .ref a0_sizes, .ref a0_items, .ref a0_tape, .int va0_length, .int va0_at, .int va0_number, .ref a0_readIce, .int va0_readCells, .ref a0_readPeople, .int va0_readMany, .ref a0_readSayings, .int va0_readSaid, .ref a0_line, .ref a0_bestLine, .int va0_bestFar, .int va0_bestIce, .ref a0_seen, .ref a0_held]), (a0_sizes, aI E 4 va0_sizes)] (Pe (some (.int out)) [(a0, oB 8 [.ref a0_row, .int va0_isKept, .ref a0_lanes, .ref a0_sizes, .ref a0_items, .ref a0_tape, .int va0_length, .int va0_at, .int va0_number, .ref a0_readIce, .int va0_readCells, .ref a0_readPeople, .int va0_readMany, .ref a0_readSayings, .int va0_readSaid, .ref a0_line, .ref a0_bestLine, .int va0_bestFar, .int va0_bestIce, .ref a0_seen, .ref a0_held]), (a0_sizes, aI E 4 va0_sizes)]) := by
  refine Ct.of rfl (Nat.le_of_ble_eq_true rfl) (fun K hL k r hin => ?_)
  subst hL
  unfold fX8_isSpan at hf
  show G E K 4 0 0 [(0, .ref a0), (1, .int x1), (2, .int x2), (3, .int x3)] [] [(a0, oB 8 [.ref a0_row, .int va0_isKept, .ref a0_lanes, .ref a0_sizes, .ref a0_items, .ref a0_tape, .int va0_length, .int va0_at, .int va0_number, .ref a0_readIce, .int va0_readCells, .ref a0_readPeople, .int va0_readMany, .ref a0_readSayings, .int va0_readSaid, .ref a0_line, .ref a0_bestLine, .int va0_bestFar, .int va0_bestIce, .ref a0_seen, .ref a0_held]), (a0_sizes, aI E 4 va0_sizes)] 0
  refine g_iload_n k 2 dX8_isSpan_0 rfl rfl ?_
  refine g_if_lt k (tgt := 28) dX8_isSpan_1 (by decide) (fun c1 => ?_) (fun c1 => ?_)
  · replace hf := ite_t c1 hf
    refine g_iconst k dX8_isSpan_28 ic_0 ?_
    obtain rfl := Option.some.inj hf
    exact g_zret k (rfl) r dX8_isSpan_29 ⟨rfl, rfl⟩
  · replace hf := ite_f c1 hf
    refine g_iload_n k 3 dX8_isSpan_4 rfl rfl ?_
    refine g_if_lt k (tgt := 28) dX8_isSpan_5 (by decide) (fun c2 => ?_) (fun c2 => ?_)
    · replace hf := ite_t c2 hf
      refine g_iconst k dX8_isSpan_28 ic_0 ?_
      obtain rfl := Option.some.inj hf
      exact g_zret k (rfl) r dX8_isSpan_29 ⟨rfl, rfl⟩
    · replace hf := ite_f c2 hf
      refine g_iload_n k 2 dX8_isSpan_8 rfl rfl ?_
      refine g_i2l k dX8_isSpan_9 ?_
      refine g_iload_n k 3 dX8_isSpan_10 rfl rfl ?_
      refine g_i2l k dX8_isSpan_11 ?_
      refine g_ladd k dX8_isSpan_12 ?_
      refine g_aload_n k 0 dX8_isSpan_13 rfl rfl ?_
      refine g_get k cfX8 3 0 dX8_isSpan_14 lkX8_16 (by decide) rfl rfl ?_
      refine g_iload_n k 1 dX8_isSpan_17 rfl rfl ?_
      obtain ⟨κ3, hκ3, hiκ3, heκ3, hf⟩ := ixb_some hf
      refine g_iaload k 1 dX8_isSpan_18 rfl hiκ3 heκ3 ?_
      refine g_i2l k dX8_isSpan_19 ?_
      refine g_lcmp k dX8_isSpan_20 ?_
      refine g_if_gt k (tgt := 28) dX8_isSpan_21 (by decide) (fun c4 => ?_) (fun c4 => ?_)
      · replace hf := ite_t c4 hf
        refine g_iconst k dX8_isSpan_28 ic_0 ?_
        obtain rfl := Option.some.inj hf
        exact g_zret k (rfl) r dX8_isSpan_29 ⟨rfl, rfl⟩
      · replace hf := ite_f c4 hf
        refine g_iconst k dX8_isSpan_24 ic_1 ?_
        refine g_goto k (tgt := 29) dX8_isSpan_25 (by decide) ?_
        obtain rfl := Option.some.inj hf
        exact g_zret k (rfl) r dX8_isSpan_29 ⟨rfl, rfl⟩
abbrev rmX8_noSheet : Room := { frames := 1, cells := 0, slots := 0, locals := 23 }
def fX8_noSheet (N : Nat) (va0_lanes : Nat → Int32) (va0_sizes : Nat → Int32) (x1 : Int32) (x2 : Int32) (x3 : Int32) (x4 : Int32) : Option (Int32) :=
  ixb x1 4 fun κ1 =>
  if 0 ≤ (va0_sizes κ1) then
  ixb x1 4 fun κ3 =>
  if (va0_lanes κ3) = x2 then
  bnd (fX8_isSpan N va0_sizes x1 x3 x4) fun o5 =>
  if o5 = 0 then
  some ((-13))
  else
  some (0)
  else
  some ((-12))
  else
  some ((-11))
set_option maxHeartbeats 4000000 in
set_option maxRecDepth 100000 in
theorem ctX8_noSheet (l : Launch) (E : Ev) (N : Nat) (a0 : Nat) (a0_row : Nat) (a0_lanes : Nat) (a0_sizes : Nat) (a0_items : Nat) (a0_tape : Nat) (a0_readIce : Nat) (a0_readPeople : Nat) (a0_readSayings : Nat) (a0_line : Nat) (a0_bestLine : Nat) (a0_seen : Nat) (a0_held : Nat) (va0_isKept : Int32) (va0_length : Int32) (va0_at : Int32) (va0_number : Int32) (va0_readCells : Int32) (va0_readMany : Int32) (va0_readSaid : Int32) (va0_bestFar : Int32) (va0_bestIce : Int32) (va0_lanes : Nat → Int32) (va0_sizes : Nat → Int32) (x1 : Int32) (x2 : Int32) (x3 : Int32) (x4 : Int32) (out : Int32) (hf : fX8_noSheet N va0_lanes va0_sizes x1 x2 x3 x4 = some out) : Ct l E yX8_noSheet cX8_noSheet 5 (some .int) rmX8_noSheet [.ref a0, .int x1, .int x2, .int x3, .int x4] [(a0, oB 8 [.ref a0_row, .int va0_isKept, .ref a0_lanes, .ref a0_sizes, .ref a0_items, .ref a0_tape, .int va0_length, .int va0_at, .int va0_number, .ref a0_readIce, .int va0_readCells, .ref a0_readPeople, .int va0_readMany, .ref a0_readSayings, .int va0_readSaid, .ref a0_line, .ref a0_bestLine, .int va0_bestFar, .int va0_bestIce, .ref a0_seen, .ref a0_held]), (a0_lanes, aI E 4 va0_lanes), (a0_sizes, aI E 4 va0_sizes)] (Pe (some (.int out)) [(a0, oB 8 [.ref a0_row, .int va0_isKept, .ref a0_lanes, .ref a0_sizes, .ref a0_items, .ref a0_tape, .int va0_length, .int va0_at, .int va0_number, .ref a0_readIce, .int va0_readCells, .ref a0_readPeople, .int va0_readMany, .ref a0_readSayings, .int va0_readSaid, .ref a0_line, .ref a0_bestLine, .int va0_bestFar, .int va0_bestIce, .ref a0_seen, .ref a0_held]), (a0_lanes, aI E 4 va0_lanes), (a0_sizes, aI E 4 va0_sizes)]) := by
  refine Ct.of rfl (Nat.le_of_ble_eq_true rfl) (fun K hL k r hin => ?_)
  subst hL
  unfold fX8_noSheet at hf
  show G E K 5 0 0 [(0, .ref a0), (1, .int x1), (2, .int x2), (3, .int x3), (4, .int x4)] [] [(a0, oB 8 [.ref a0_row, .int va0_isKept, .ref a0_lanes, .ref a0_sizes, .ref a0_items, .ref a0_tape, .int va0_length, .int va0_at, .int va0_number, .ref a0_readIce, .int va0_readCells, .ref a0_readPeople, .int va0_readMany, .ref a0_readSayings, .int va0_readSaid, .ref a0_line, .ref a0_bestLine, .int va0_bestFar, .int va0_bestIce, .ref a0_seen, .ref a0_held]), (a0_lanes, aI E 4 va0_lanes), (a0_sizes, aI E 4 va0_sizes)] 0
  refine g_aload_n k 0 dX8_noSheet_0 rfl rfl ?_
  refine g_get k cfX8 3 0 dX8_noSheet_1 lkX8_16 (by decide) rfl rfl ?_
  refine g_iload_n k 1 dX8_noSheet_4 rfl rfl ?_
  obtain ⟨κ1, hκ1, hiκ1, heκ1, hf⟩ := ixb_some hf
  refine g_iaload k 2 dX8_noSheet_5 rfl hiκ1 heκ1 ?_
  refine g_if_ge k (tgt := 14) dX8_noSheet_6 (by decide) (fun c2 => ?_) (fun c2 => ?_)
  · replace hf := ite_t c2 hf
    refine g_aload_n k 0 dX8_noSheet_14 rfl rfl ?_
    refine g_get k cfX8 2 0 dX8_noSheet_15 lkX8_13 (by decide) rfl rfl ?_
    refine g_iload_n k 1 dX8_noSheet_18 rfl rfl ?_
    obtain ⟨κ3, hκ3, hiκ3, heκ3, hf⟩ := ixb_some hf
    refine g_iaload k 1 dX8_noSheet_19 rfl hiκ3 heκ3 ?_
    refine g_iload_n k 2 dX8_noSheet_20 rfl rfl ?_
    refine g_icmp_eq k (tgt := 29) dX8_noSheet_21 (by decide) (fun c4 => ?_) (fun c4 => ?_)
    · replace hf := ite_t c4 hf
      refine g_aload_n k 0 dX8_noSheet_29 rfl rfl ?_
      refine g_iload_n k 1 dX8_noSheet_30 rfl rfl ?_
      refine g_iload_n k 3 dX8_noSheet_31 rfl rfl ?_
      refine g_iload k 4 dX8_noSheet_32 rfl ?_
      obtain ⟨o5, ho6, hf⟩ := bnd_some hf
      refine g_cv k miX8_isSpan mvX8_isSpan (ctX8_isSpan (kL K) E N a0 a0_row a0_lanes a0_sizes a0_items a0_tape a0_readIce a0_readPeople a0_readSayings a0_line a0_bestLine a0_seen a0_held va0_isKept va0_length va0_at va0_number va0_readCells va0_readMany va0_readSaid va0_bestFar va0_bestIce va0_sizes x1 x3 x4 o5 ho6) [0, 2] 0 (ws' := [(a0, oB 8 [.ref a0_row, .int va0_isKept, .ref a0_lanes, .ref a0_sizes, .ref a0_items, .ref a0_tape, .int va0_length, .int va0_at, .int va0_number, .ref a0_readIce, .int va0_readCells, .ref a0_readPeople, .int va0_readMany, .ref a0_readSayings, .int va0_readSaid, .ref a0_line, .ref a0_bestLine, .int va0_bestFar, .int va0_bestIce, .ref a0_seen, .ref a0_held]), (a0_lanes, aI E 4 va0_lanes), (a0_sizes, aI E 4 va0_sizes)]) dX8_noSheet_34 lkX8_250 rfl ⟨rfl, rfl⟩ ⟨by decide, by decide⟩ rfl rfl rfl rfl (Nat.le_of_ble_eq_true rfl) rfl rfl rfl ?_
      refine g_st (st' := [.int o5]) rfl ?_
      refine g_if_eq k (tgt := 44) dX8_noSheet_37 (by decide) (fun c7 => ?_) (fun c7 => ?_)
      · replace hf := ite_t c7 hf
        refine g_bipush k dX8_noSheet_44 bi_m13 ?_
        obtain rfl := Option.some.inj hf
        exact g_iret k r dX8_noSheet_46 ⟨rfl, rfl⟩
      · replace hf := ite_f c7 hf
        refine g_iconst k dX8_noSheet_40 ic_0 ?_
        refine g_goto k (tgt := 46) dX8_noSheet_41 (by decide) ?_
        obtain rfl := Option.some.inj hf
        exact g_iret k r dX8_noSheet_46 ⟨rfl, rfl⟩
    · replace hf := ite_f c4 hf
      refine g_bipush k dX8_noSheet_24 bi_m12 ?_
      refine g_goto k (tgt := 46) dX8_noSheet_26 (by decide) ?_
      obtain rfl := Option.some.inj hf
      exact g_iret k r dX8_noSheet_46 ⟨rfl, rfl⟩
  · replace hf := ite_f c2 hf
    refine g_bipush k dX8_noSheet_9 bi_m11 ?_
    refine g_goto k (tgt := 46) dX8_noSheet_11 (by decide) ?_
    obtain rfl := Option.some.inj hf
    exact g_iret k r dX8_noSheet_46 ⟨rfl, rfl⟩
abbrev rmX8_cut : Room := { frames := 0, cells := 0, slots := 0, locals := 0 }
def fX8_cut (N : Nat)  (x0 : Int32) (x1 : Int64) : Option (Int64) :=
  if x0 = 0 then
  some (x1.toInt32.toInt8.toInt32.toInt64)
  else
  if x0 = 1 then
  some (x1.toInt32.toInt16.toInt32.toInt64)
  else
  if x0 = 2 then
  some (x1.toInt32.toInt64)
  else
  some (x1)
set_option maxHeartbeats 4000000 in
set_option maxRecDepth 100000 in
theorem ctX8_cut (l : Launch) (E : Ev) (N : Nat)   (x0 : Int32) (x1 : Int64) (out : Int64) (hf : fX8_cut N  x0 x1 = some out) : Ct l E yX8_cut cX8_cut 3 (some .long) rmX8_cut [.int x0, .long x1] [] (Pe (some (.long out)) []) := by
  refine Ct.of rfl (Nat.le_of_ble_eq_true rfl) (fun K hL k r hin => ?_)
  subst hL
  unfold fX8_cut at hf
  show G E K 3 0 0 [(0, .int x0), (1, .long x1)] [] [] 0
  refine g_iload_n k 0 dX8_cut_0 rfl rfl ?_
  refine g_if_ne k (tgt := 11) dX8_cut_1 (by decide) (fun c1 => ?_) (fun c1 => ?_)
  · replace hf := ite_f c1 hf
    refine g_iload_n k 0 dX8_cut_11 rfl rfl ?_
    refine g_iconst k dX8_cut_12 ic_1 ?_
    refine g_icmp_ne k (tgt := 23) dX8_cut_13 (by decide) (fun c2 => ?_) (fun c2 => ?_)
    · replace hf := ite_f c2 hf
      refine g_iload_n k 0 dX8_cut_23 rfl rfl ?_
      refine g_iconst k dX8_cut_24 ic_2 ?_
      refine g_icmp_ne k (tgt := 34) dX8_cut_25 (by decide) (fun c3 => ?_) (fun c3 => ?_)
      · replace hf := ite_f c3 hf
        refine g_lload_n k 1 dX8_cut_34 rfl rfl ?_
        obtain rfl := Option.some.inj hf
        exact g_lret k r dX8_cut_35 ⟨rfl, rfl⟩
      · replace hf := ite_t c3 hf
        refine g_lload_n k 1 dX8_cut_28 rfl rfl ?_
        refine g_l2i k dX8_cut_29 ?_
        refine g_i2l k dX8_cut_30 ?_
        refine g_goto k (tgt := 35) dX8_cut_31 (by decide) ?_
        obtain rfl := Option.some.inj hf
        exact g_lret k r dX8_cut_35 ⟨rfl, rfl⟩
    · replace hf := ite_t c2 hf
      refine g_lload_n k 1 dX8_cut_16 rfl rfl ?_
      refine g_l2i k dX8_cut_17 ?_
      refine g_i2s k dX8_cut_18 ?_
      refine g_i2l k dX8_cut_19 ?_
      refine g_goto k (tgt := 35) dX8_cut_20 (by decide) ?_
      obtain rfl := Option.some.inj hf
      exact g_lret k r dX8_cut_35 ⟨rfl, rfl⟩
  · replace hf := ite_t c1 hf
    refine g_lload_n k 1 dX8_cut_4 rfl rfl ?_
    refine g_l2i k dX8_cut_5 ?_
    refine g_i2b k dX8_cut_6 ?_
    refine g_i2l k dX8_cut_7 ?_
    refine g_goto k (tgt := 35) dX8_cut_8 (by decide) ?_
    obtain rfl := Option.some.inj hf
    exact g_lret k r dX8_cut_35 ⟨rfl, rfl⟩
abbrev rmX8_isFeltSo : Room := { frames := 5, cells := 0, slots := 0, locals := 123 }
def fX8_isFeltSo_L11 (N : Nat) (x1 : Int32) (x2 : Int32) (x3 : Int32) (x4 : Int32) (va0_row : Nat → Int32) (va0_items : Nat → Int64) : Nat → Int32 → Int32 → Option (Int32 × Int32)
  | 0, _, _ => none
  | n + 1, x5, x6 =>
    if (((24 * x1) + x2) + (2 * x3)) ≤ x6 then
    some (x5, x6)
    else
    if x5 = 0 then
    fX8_isFeltSo_L11 N x1 x2 x3 x4 va0_row va0_items n 0 (x6 + 2)
    else
    ixb x6 96 fun κ3 =>
    bnd (fX8_everybody N va0_row) fun o4 =>
    bnd (fX8_rockWith N va0_row ((va0_items κ3).toInt32) x4 o4) fun o6 =>
    ixb (x6 + 1) 96 fun κ8 =>
    if (lg_cmp o6.toInt64 (va0_items κ8)) = 0 then
    fX8_isFeltSo_L11 N x1 x2 x3 x4 va0_row va0_items n 1 (x6 + 2)
    else
    fX8_isFeltSo_L11 N x1 x2 x3 x4 va0_row va0_items n 0 (x6 + 2)
set_option maxHeartbeats 4000000 in
set_option maxRecDepth 100000 in
theorem wX8_isFeltSo_L11 {E : Ev} {K : KX} (k : OKX E K cX8_isFeltSo RX8 7 rmX8_isFeltSo) (N : Nat) (a0 : Nat) (a0_row : Nat) (a0_lanes : Nat) (a0_sizes : Nat) (a0_items : Nat) (a0_tape : Nat) (a0_readIce : Nat) (a0_readPeople : Nat) (a0_readSayings : Nat) (a0_line : Nat) (a0_bestLine : Nat) (a0_seen : Nat) (a0_held : Nat) (x1 : Int32) (x2 : Int32) (x3 : Int32) (x4 : Int32) (va0_row : Nat → Int32) (va0_items : Nat → Int64) (va0_isKept : Int32) (va0_length : Int32) (va0_at : Int32) (va0_number : Int32) (va0_readCells : Int32) (va0_readMany : Int32) (va0_readSaid : Int32) (va0_bestFar : Int32) (va0_bestIce : Int32) : ∀ (n : Nat) (x5 : Int32) (x6 : Int32) (o : Int32 × Int32), fX8_isFeltSo_L11 N x1 x2 x3 x4 va0_row va0_items n x5 x6 = some o → G E K 7 0 0 [(0, .ref a0), (1, .int x1), (2, .int x2), (3, .int x3), (4, .int x4), (5, .int o.1), (6, .int o.2)] [] [(a0, oB 8 [.ref a0_row, .int va0_isKept, .ref a0_lanes, .ref a0_sizes, .ref a0_items, .ref a0_tape, .int va0_length, .int va0_at, .int va0_number, .ref a0_readIce, .int va0_readCells, .ref a0_readPeople, .int va0_readMany, .ref a0_readSayings, .int va0_readSaid, .ref a0_line, .ref a0_bestLine, .int va0_bestFar, .int va0_bestIce, .ref a0_seen, .ref a0_held]), (a0_row, aI E 525 va0_row), (a0_items, aJ E 96 va0_items)] 76 → G E K 7 0 0 [(0, .ref a0), (1, .int x1), (2, .int x2), (3, .int x3), (4, .int x4), (5, .int x5), (6, .int x6)] [] [(a0, oB 8 [.ref a0_row, .int va0_isKept, .ref a0_lanes, .ref a0_sizes, .ref a0_items, .ref a0_tape, .int va0_length, .int va0_at, .int va0_number, .ref a0_readIce, .int va0_readCells, .ref a0_readPeople, .int va0_readMany, .ref a0_readSayings, .int va0_readSaid, .ref a0_line, .ref a0_bestLine, .int va0_bestFar, .int va0_bestIce, .ref a0_seen, .ref a0_held]), (a0_row, aI E 525 va0_row), (a0_items, aJ E 96 va0_items)] 11 := by
  intro n
  induction n with
  | zero => intro x5 x6 o hf; cases hf
  | succ n ih =>
    intro x5 x6 o hf hG
    rw [fX8_isFeltSo_L11] at hf
    refine g_iload k 6 dX8_isFeltSo_11 rfl ?_
    refine g_bipush k dX8_isFeltSo_13 bi_24 ?_
    refine g_iload_n k 1 dX8_isFeltSo_15 rfl rfl ?_
    refine g_imul k dX8_isFeltSo_16 ?_
    refine g_iload_n k 2 dX8_isFeltSo_17 rfl rfl ?_
    refine g_iadd k dX8_isFeltSo_18 ?_
    refine g_iconst k dX8_isFeltSo_19 ic_2 ?_
    refine g_iload_n k 3 dX8_isFeltSo_20 rfl rfl ?_
    refine g_imul k dX8_isFeltSo_21 ?_
    refine g_iadd k dX8_isFeltSo_22 ?_
    refine g_icmp_ge k (tgt := 76) dX8_isFeltSo_23 (by decide) (fun c1 => ?_) (fun c1 => ?_)
    · replace hf := ite_t c1 hf
      refine g_lv [0, 1, 2, 3, 4, 5, 6] rfl ?_
      obtain rfl := Option.some.inj hf
      exact hG
    · replace hf := ite_f c1 hf
      refine g_iload k 5 dX8_isFeltSo_26 rfl ?_
      refine g_if_eq k (tgt := 67) dX8_isFeltSo_28 (by decide) (fun c2 => ?_) (fun c2 => ?_)
      · replace hf := ite_t c2 hf
        refine g_iconst k dX8_isFeltSo_67 ic_0 ?_
        refine g_istore k (lv' := [(5, .int 0), (0, .ref a0), (1, .int x1), (2, .int x2), (3, .int x3), (4, .int x4), (6, .int x6)]) dX8_isFeltSo_68 (by decide) rfl ?_
        refine g_iinc k (lv' := [(6, .int (x6 + 2)), (5, .int 0), (0, .ref a0), (1, .int x1), (2, .int x2), (3, .int x3), (4, .int x4)]) 6 dX8_isFeltSo_70 rfl (ii_2 _) (by decide) rfl ?_
        refine g_goto k (tgt := 11) dX8_isFeltSo_73 (by decide) ?_
        refine g_lv [2, 3, 4, 5, 6, 1, 0] rfl ?_
        exact ih 0 (x6 + 2) o hf hG
      · replace hf := ite_f c2 hf
        refine g_aload_n k 0 dX8_isFeltSo_31 rfl rfl ?_
        refine g_aload_n k 0 dX8_isFeltSo_32 rfl rfl ?_
        refine g_get k cfX8 4 0 dX8_isFeltSo_33 lkX8_19 (by decide) rfl rfl ?_
        refine g_iload k 6 dX8_isFeltSo_36 rfl ?_
        obtain ⟨κ3, hκ3, hiκ3, heκ3, hf⟩ := ixb_some hf
        refine g_laload k 2 dX8_isFeltSo_38 rfl hiκ3 heκ3 ?_
        refine g_l2i k dX8_isFeltSo_39 ?_
        refine g_iload k 4 dX8_isFeltSo_40 rfl ?_
        refine g_aload_n k 0 dX8_isFeltSo_42 rfl rfl ?_
        obtain ⟨o4, ho5, hf⟩ := bnd_some hf
        refine g_cv k miX8_everybody mvX8_everybody (ctX8_everybody (kL K) E N a0 a0_row a0_lanes a0_sizes a0_items a0_tape a0_readIce a0_readPeople a0_readSayings a0_line a0_bestLine a0_seen a0_held va0_isKept va0_length va0_at va0_number va0_readCells va0_readMany va0_readSaid va0_bestFar va0_bestIce va0_row  o4 ho5) [0, 1] 0 (ws' := [(a0, oB 8 [.ref a0_row, .int va0_isKept, .ref a0_lanes, .ref a0_sizes, .ref a0_items, .ref a0_tape, .int va0_length, .int va0_at, .int va0_number, .ref a0_readIce, .int va0_readCells, .ref a0_readPeople, .int va0_readMany, .ref a0_readSayings, .int va0_readSaid, .ref a0_line, .ref a0_bestLine, .int va0_bestFar, .int va0_bestIce, .ref a0_seen, .ref a0_held]), (a0_row, aI E 525 va0_row), (a0_items, aJ E 96 va0_items)]) dX8_isFeltSo_43 lkX8_67 rfl ⟨rfl, rfl⟩ ⟨by decide, by decide⟩ rfl rfl rfl rfl (Nat.le_of_ble_eq_true rfl) rfl rfl rfl ?_
        refine g_st (st' := [.int o4, .int x4, .int ((va0_items κ3).toInt32), .ref a0]) rfl ?_
        obtain ⟨o6, ho7, hf⟩ := bnd_some hf
        refine g_cv k miX8_rockWith mvX8_rockWith (ctX8_rockWith (kL K) E N a0 a0_row a0_lanes a0_sizes a0_items a0_tape a0_readIce a0_readPeople a0_readSayings a0_line a0_bestLine a0_seen a0_held va0_isKept va0_length va0_at va0_number va0_readCells va0_readMany va0_readSaid va0_bestFar va0_bestIce va0_row ((va0_items κ3).toInt32) x4 o4 o6 ho7) [0, 1] 0 (ws' := [(a0, oB 8 [.ref a0_row, .int va0_isKept, .ref a0_lanes, .ref a0_sizes, .ref a0_items, .ref a0_tape, .int va0_length, .int va0_at, .int va0_number, .ref a0_readIce, .int va0_readCells, .ref a0_readPeople, .int va0_readMany, .ref a0_readSayings, .int va0_readSaid, .ref a0_line, .ref a0_bestLine, .int va0_bestFar, .int va0_bestIce, .ref a0_seen, .ref a0_held]), (a0_row, aI E 525 va0_row), (a0_items, aJ E 96 va0_items)]) dX8_isFeltSo_46 lkX8_228 rfl ⟨rfl, rfl⟩ ⟨by decide, by decide⟩ rfl rfl rfl rfl (Nat.le_of_ble_eq_true rfl) rfl rfl rfl ?_
        refine g_st (st' := [.int o6]) rfl ?_
        refine g_i2l k dX8_isFeltSo_49 ?_
        refine g_aload_n k 0 dX8_isFeltSo_50 rfl rfl ?_
        refine g_get k cfX8 4 0 dX8_isFeltSo_51 lkX8_19 (by decide) rfl rfl ?_
        refine g_iload k 6 dX8_isFeltSo_54 rfl ?_
        refine g_iconst k dX8_isFeltSo_56 ic_1 ?_
        refine g_iadd k dX8_isFeltSo_57 ?_
        obtain ⟨κ8, hκ8, hiκ8, heκ8, hf⟩ := ixb_some hf
        refine g_laload k 2 dX8_isFeltSo_58 rfl hiκ8 heκ8 ?_
        refine g_lcmp k dX8_isFeltSo_59 ?_
        refine g_if_ne k (tgt := 67) dX8_isFeltSo_60 (by decide) (fun c9 => ?_) (fun c9 => ?_)
        · replace hf := ite_f c9 hf
          refine g_iconst k dX8_isFeltSo_67 ic_0 ?_
          refine g_istore k (lv' := [(5, .int 0), (0, .ref a0), (1, .int x1), (2, .int x2), (3, .int x3), (4, .int x4), (6, .int x6)]) dX8_isFeltSo_68 (by decide) rfl ?_
          refine g_iinc k (lv' := [(6, .int (x6 + 2)), (5, .int 0), (0, .ref a0), (1, .int x1), (2, .int x2), (3, .int x3), (4, .int x4)]) 6 dX8_isFeltSo_70 rfl (ii_2 _) (by decide) rfl ?_
          refine g_goto k (tgt := 11) dX8_isFeltSo_73 (by decide) ?_
          refine g_lv [2, 3, 4, 5, 6, 1, 0] rfl ?_
          exact ih 0 (x6 + 2) o hf hG
        · replace hf := ite_t c9 hf
          refine g_iconst k dX8_isFeltSo_63 ic_1 ?_
          refine g_goto k (tgt := 68) dX8_isFeltSo_64 (by decide) ?_
          refine g_istore k (lv' := [(5, .int 1), (0, .ref a0), (1, .int x1), (2, .int x2), (3, .int x3), (4, .int x4), (6, .int x6)]) dX8_isFeltSo_68 (by decide) rfl ?_
          refine g_iinc k (lv' := [(6, .int (x6 + 2)), (5, .int 1), (0, .ref a0), (1, .int x1), (2, .int x2), (3, .int x3), (4, .int x4)]) 6 dX8_isFeltSo_70 rfl (ii_2 _) (by decide) rfl ?_
          refine g_goto k (tgt := 11) dX8_isFeltSo_73 (by decide) ?_
          refine g_lv [2, 3, 4, 5, 6, 1, 0] rfl ?_
          exact ih 1 (x6 + 2) o hf hG
def fX8_isFeltSo (N : Nat) (va0_row : Nat → Int32) (va0_items : Nat → Int64) (x1 : Int32) (x2 : Int32) (x3 : Int32) (x4 : Int32) : Option (Int32) :=
  bnd (fX8_isFeltSo_L11 N x1 x2 x3 x4 va0_row va0_items N 1 ((24 * x1) + x2)) fun o10 =>
  zb o10.1 (some (o10.1))
set_option maxHeartbeats 4000000 in
set_option maxRecDepth 100000 in
theorem ctX8_isFeltSo (l : Launch) (E : Ev) (N : Nat) (a0 : Nat) (a0_row : Nat) (a0_lanes : Nat) (a0_sizes : Nat) (a0_items : Nat) (a0_tape : Nat) (a0_readIce : Nat) (a0_readPeople : Nat) (a0_readSayings : Nat) (a0_line : Nat) (a0_bestLine : Nat) (a0_seen : Nat) (a0_held : Nat) (va0_isKept : Int32) (va0_length : Int32) (va0_at : Int32) (va0_number : Int32) (va0_readCells : Int32) (va0_readMany : Int32) (va0_readSaid : Int32) (va0_bestFar : Int32) (va0_bestIce : Int32) (va0_row : Nat → Int32) (va0_items : Nat → Int64) (x1 : Int32) (x2 : Int32) (x3 : Int32) (x4 : Int32) (out : Int32) (hf : fX8_isFeltSo N va0_row va0_items x1 x2 x3 x4 = some out) : Ct l E yX8_isFeltSo cX8_isFeltSo 7 (some .boolean) rmX8_isFeltSo [.ref a0, .int x1, .int x2, .int x3, .int x4] [(a0, oB 8 [.ref a0_row, .int va0_isKept, .ref a0_lanes, .ref a0_sizes, .ref a0_items, .ref a0_tape, .int va0_length, .int va0_at, .int va0_number, .ref a0_readIce, .int va0_readCells, .ref a0_readPeople, .int va0_readMany, .ref a0_readSayings, .int va0_readSaid, .ref a0_line, .ref a0_bestLine, .int va0_bestFar, .int va0_bestIce, .ref a0_seen, .ref a0_held]), (a0_row, aI E 525 va0_row), (a0_items, aJ E 96 va0_items)] (Pe (some (.int out)) [(a0, oB 8 [.ref a0_row, .int va0_isKept, .ref a0_lanes, .ref a0_sizes, .ref a0_items, .ref a0_tape, .int va0_length, .int va0_at, .int va0_number, .ref a0_readIce, .int va0_readCells, .ref a0_readPeople, .int va0_readMany, .ref a0_readSayings, .int va0_readSaid, .ref a0_line, .ref a0_bestLine, .int va0_bestFar, .int va0_bestIce, .ref a0_seen, .ref a0_held]), (a0_row, aI E 525 va0_row), (a0_items, aJ E 96 va0_items)]) := by
  refine Ct.of rfl (Nat.le_of_ble_eq_true rfl) (fun K hL k r hin => ?_)
  subst hL
  unfold fX8_isFeltSo at hf
  show G E K 7 0 0 [(0, .ref a0), (1, .int x1), (2, .int x2), (3, .int x3), (4, .int x4)] [] [(a0, oB 8 [.ref a0_row, .int va0_isKept, .ref a0_lanes, .ref a0_sizes, .ref a0_items, .ref a0_tape, .int va0_length, .int va0_at, .int va0_number, .ref a0_readIce, .int va0_readCells, .ref a0_readPeople, .int va0_readMany, .ref a0_readSayings, .int va0_readSaid, .ref a0_line, .ref a0_bestLine, .int va0_bestFar, .int va0_bestIce, .ref a0_seen, .ref a0_held]), (a0_row, aI E 525 va0_row), (a0_items, aJ E 96 va0_items)] 0
  refine g_iconst k dX8_isFeltSo_0 ic_1 ?_
  refine g_istore k (lv' := [(5, .int 1), (0, .ref a0), (1, .int x1), (2, .int x2), (3, .int x3), (4, .int x4)]) dX8_isFeltSo_1 (by decide) rfl ?_
  refine g_bipush k dX8_isFeltSo_3 bi_24 ?_
  refine g_iload_n k 2 dX8_isFeltSo_5 rfl rfl ?_
  refine g_imul k dX8_isFeltSo_6 ?_
  refine g_iload_n k 3 dX8_isFeltSo_7 rfl rfl ?_
  refine g_iadd k dX8_isFeltSo_8 ?_
  refine g_istore k (lv' := [(6, .int ((24 * x1) + x2)), (5, .int 1), (0, .ref a0), (1, .int x1), (2, .int x2), (3, .int x3), (4, .int x4)]) dX8_isFeltSo_9 (by decide) rfl ?_
  obtain ⟨o10, ho11, hf⟩ := bnd_some hf
  refine g_lv [2, 3, 4, 5, 6, 1, 0] (lv' := [(0, .ref a0), (1, .int x1), (2, .int x2), (3, .int x3), (4, .int x4), (5, .int 1), (6, .int ((24 * x1) + x2))]) rfl ?_
  refine wX8_isFeltSo_L11 k N a0 a0_row a0_lanes a0_sizes a0_items a0_tape a0_readIce a0_readPeople a0_readSayings a0_line a0_bestLine a0_seen a0_held  x1 x2 x3 x4 va0_row va0_items va0_isKept va0_length va0_at va0_number va0_readCells va0_readMany va0_readSaid va0_bestFar va0_bestIce N 1 ((24 * x1) + x2) o10 ho11 ?_
  refine g_iload k 5 dX8_isFeltSo_76 rfl ?_
  obtain ⟨hz12, hf⟩ := zb_some hf
  obtain rfl := Option.some.inj hf
  exact g_zret k (zb_nar hz12) r dX8_isFeltSo_78 ⟨rfl, rfl⟩
abbrev rmX8_felt : Room := { frames := 6, cells := 0, slots := 0, locals := 149 }
def fX8_felt_L74 (N : Nat) (x1 : Int32) (x2 : Int32) (x3 : Int32) (x4 : Int32) (x5 : Int32) (x6 : Int32) (va0_row : Nat → Int32) (va0_items : Nat → Int64) : Nat → Int32 → Option ((Int32) ⊕ (Int32))
  | 0, _ => none
  | n + 1, x7 =>
    if (((24 * x1) + x3) + (2 * x4)) ≤ x7 then
    some (.inr (x7))
    else
    ixb x7 96 fun κ17 =>
    bnd (fX8_in N (va0_items κ17) 0 (((va0_row 28) - 1).toInt64)) fun o18 =>
    if o18 = 0 then
    some (.inl ((-2)))
    else
    fX8_felt_L74 N x1 x2 x3 x4 x5 x6 va0_row va0_items n (x7 + 2)
set_option maxHeartbeats 4000000 in
set_option maxRecDepth 100000 in
theorem wX8_felt_L74 {E : Ev} {K : KX} (k : OKX E K cX8_felt RX8 11 rmX8_felt) (N : Nat) (a0 : Nat) (a0_row : Nat) (a0_lanes : Nat) (a0_sizes : Nat) (a0_items : Nat) (a0_tape : Nat) (a0_readIce : Nat) (a0_readPeople : Nat) (a0_readSayings : Nat) (a0_line : Nat) (a0_bestLine : Nat) (a0_seen : Nat) (a0_held : Nat) (x1 : Int32) (x2 : Int32) (x3 : Int32) (x4 : Int32) (x5 : Int32) (x6 : Int32) (va0_row : Nat → Int32) (va0_items : Nat → Int64) (va0_isKept : Int32) (va0_length : Int32) (va0_at : Int32) (va0_number : Int32) (va0_readCells : Int32) (va0_readMany : Int32) (va0_readSaid : Int32) (va0_bestFar : Int32) (va0_bestIce : Int32) (va0_lanes : Nat → Int32) (va0_sizes : Nat → Int32) {out : Int32} (r : RTX E K 0 0 (some .int) (Pe (some (.int out)) [(a0, oB 8 [.ref a0_row, .int va0_isKept, .ref a0_lanes, .ref a0_sizes, .ref a0_items, .ref a0_tape, .int va0_length, .int va0_at, .int va0_number, .ref a0_readIce, .int va0_readCells, .ref a0_readPeople, .int va0_readMany, .ref a0_readSayings, .int va0_readSaid, .ref a0_line, .ref a0_bestLine, .int va0_bestFar, .int va0_bestIce, .ref a0_seen, .ref a0_held]), (a0_row, aI E 525 va0_row), (a0_lanes, aI E 4 va0_lanes), (a0_sizes, aI E 4 va0_sizes), (a0_items, aJ E 96 va0_items)])) : ∀ (n : Nat) (x7 : Int32) (o : (Int32) ⊕ (Int32)), fX8_felt_L74 N x1 x2 x3 x4 x5 x6 va0_row va0_items n x7 = some o → (∀ w, o = .inl w → w = out) → (∀ v, o = .inr v → G E K 11 0 0 [(0, .ref a0), (1, .int x1), (2, .int x2), (3, .int x3), (4, .int x4), (5, .int x5), (6, .int x6), (7, .int v)] [] [(a0, oB 8 [.ref a0_row, .int va0_isKept, .ref a0_lanes, .ref a0_sizes, .ref a0_items, .ref a0_tape, .int va0_length, .int va0_at, .int va0_number, .ref a0_readIce, .int va0_readCells, .ref a0_readPeople, .int va0_readMany, .ref a0_readSayings, .int va0_readSaid, .ref a0_line, .ref a0_bestLine, .int va0_bestFar, .int va0_bestIce, .ref a0_seen, .ref a0_held]), (a0_row, aI E 525 va0_row), (a0_lanes, aI E 4 va0_lanes), (a0_sizes, aI E 4 va0_sizes), (a0_items, aJ E 96 va0_items)] 123) → G E K 11 0 0 [(0, .ref a0), (1, .int x1), (2, .int x2), (3, .int x3), (4, .int x4), (5, .int x5), (6, .int x6), (7, .int x7)] [] [(a0, oB 8 [.ref a0_row, .int va0_isKept, .ref a0_lanes, .ref a0_sizes, .ref a0_items, .ref a0_tape, .int va0_length, .int va0_at, .int va0_number, .ref a0_readIce, .int va0_readCells, .ref a0_readPeople, .int va0_readMany, .ref a0_readSayings, .int va0_readSaid, .ref a0_line, .ref a0_bestLine, .int va0_bestFar, .int va0_bestIce, .ref a0_seen, .ref a0_held]), (a0_row, aI E 525 va0_row), (a0_lanes, aI E 4 va0_lanes), (a0_sizes, aI E 4 va0_sizes), (a0_items, aJ E 96 va0_items)] 74 := by
  intro n
  induction n with
  | zero => intro x7 o hf; cases hf
  | succ n ih =>
    intro x7 o hf hr hG
    rw [fX8_felt_L74] at hf
    refine g_iload k 7 dX8_felt_74 rfl ?_
    refine g_bipush k dX8_felt_76 bi_24 ?_
    refine g_iload_n k 1 dX8_felt_78 rfl rfl ?_
    refine g_imul k dX8_felt_79 ?_
    refine g_iload_n k 3 dX8_felt_80 rfl rfl ?_
    refine g_iadd k dX8_felt_81 ?_
    refine g_iconst k dX8_felt_82 ic_2 ?_
    refine g_iload k 4 dX8_felt_83 rfl ?_
    refine g_imul k dX8_felt_85 ?_
    refine g_iadd k dX8_felt_86 ?_
    refine g_icmp_ge k (tgt := 123) dX8_felt_87 (by decide) (fun c16 => ?_) (fun c16 => ?_)
    · replace hf := ite_t c16 hf
      refine g_lv [0, 1, 2, 3, 4, 5, 6, 7] rfl ?_
      obtain rfl := Option.some.inj hf
      exact hG _ rfl
    · replace hf := ite_f c16 hf
      refine g_aload_n k 0 dX8_felt_90 rfl rfl ?_
      refine g_get k cfX8 4 0 dX8_felt_91 lkX8_19 (by decide) rfl rfl ?_
      refine g_iload k 7 dX8_felt_94 rfl ?_
      obtain ⟨κ17, hκ17, hiκ17, heκ17, hf⟩ := ixb_some hf
      refine g_laload k 4 dX8_felt_96 rfl hiκ17 heκ17 ?_
      refine g_lconst k dX8_felt_97 lc_0 ?_
      refine g_aload_n k 0 dX8_felt_98 rfl rfl ?_
      refine g_get k cfX8 0 0 dX8_felt_99 lkX8_7 (by decide) rfl rfl ?_
      refine g_bipush k dX8_felt_102 bi_28 ?_
      refine g_iaload k 1 dX8_felt_104 rfl vi_28_525 cl_28 ?_
      refine g_iconst k dX8_felt_105 ic_1 ?_
      refine g_isub k dX8_felt_106 ?_
      refine g_i2l k dX8_felt_107 ?_
      obtain ⟨o18, ho19, hf⟩ := bnd_some hf
      refine g_cs k miX8_in msX8_in (ctX8_in (kL K) E N   (va0_items κ17) 0 (((va0_row 28) - 1).toInt64) o18 ho19) [] (ws' := [(a0, oB 8 [.ref a0_row, .int va0_isKept, .ref a0_lanes, .ref a0_sizes, .ref a0_items, .ref a0_tape, .int va0_length, .int va0_at, .int va0_number, .ref a0_readIce, .int va0_readCells, .ref a0_readPeople, .int va0_readMany, .ref a0_readSayings, .int va0_readSaid, .ref a0_line, .ref a0_bestLine, .int va0_bestFar, .int va0_bestIce, .ref a0_seen, .ref a0_held]), (a0_row, aI E 525 va0_row), (a0_lanes, aI E 4 va0_lanes), (a0_sizes, aI E 4 va0_sizes), (a0_items, aJ E 96 va0_items)]) dX8_felt_108 lkX8_47 rfl ⟨rfl, rfl⟩ ⟨by decide, by decide⟩ rfl rfl rfl (Nat.le_of_ble_eq_true rfl) rfl rfl rfl ?_
      refine g_st (st' := [.int o18]) rfl ?_
      refine g_if_ne k (tgt := 117) dX8_felt_111 (by decide) (fun c20 => ?_) (fun c20 => ?_)
      · replace hf := ite_f c20 hf
        refine g_iinc k (lv' := [(7, .int (x7 + 2)), (0, .ref a0), (1, .int x1), (2, .int x2), (3, .int x3), (4, .int x4), (5, .int x5), (6, .int x6)]) 7 dX8_felt_117 rfl (ii_2 _) (by decide) rfl ?_
        refine g_goto k (tgt := 74) dX8_felt_120 (by decide) ?_
        refine g_lv [1, 2, 3, 4, 5, 6, 7, 0] rfl ?_
        exact ih (x7 + 2) o hf hr hG
      · replace hf := ite_t c20 hf
        refine g_bipush k dX8_felt_114 bi_m2 ?_
        obtain rfl := Option.some.inj hf
        obtain rfl := hr _ rfl
        exact g_iret k r dX8_felt_116 ⟨rfl, rfl⟩
def fX8_felt_L136 (N : Nat) (x1 : Int32) (x2 : Int32) (x3 : Int32) (x4 : Int32) (x5 : Int32) (x6 : Int32) (va0_row : Nat → Int32) (va0_items : Nat → Int64) : Nat → Int32 → Int32 → Int32 → Option (Int32 × Int32 × Int32)
  | 0, _, _, _ => none
  | n + 1, x7, x8, x9 =>
    if x9 < 0 then
    some (x7, x8, x9)
    else
    bnd (fX8_isFeltSo N va0_row va0_items x1 x3 x4 x9) fun o27 =>
    if o27 = 0 then
    if o27 = 0 then
    fX8_felt_L136 N x1 x2 x3 x4 x5 x6 va0_row va0_items n (x7 + 0) x8 (x9 + (-1))
    else
    fX8_felt_L136 N x1 x2 x3 x4 x5 x6 va0_row va0_items n (x7 + 0) x9 (x9 + (-1))
    else
    if o27 = 0 then
    fX8_felt_L136 N x1 x2 x3 x4 x5 x6 va0_row va0_items n (x7 + 1) x8 (x9 + (-1))
    else
    fX8_felt_L136 N x1 x2 x3 x4 x5 x6 va0_row va0_items n (x7 + 1) x9 (x9 + (-1))
set_option maxHeartbeats 4000000 in
set_option maxRecDepth 100000 in
theorem wX8_felt_L136 {E : Ev} {K : KX} (k : OKX E K cX8_felt RX8 11 rmX8_felt) (N : Nat) (a0 : Nat) (a0_row : Nat) (a0_lanes : Nat) (a0_sizes : Nat) (a0_items : Nat) (a0_tape : Nat) (a0_readIce : Nat) (a0_readPeople : Nat) (a0_readSayings : Nat) (a0_line : Nat) (a0_bestLine : Nat) (a0_seen : Nat) (a0_held : Nat) (x1 : Int32) (x2 : Int32) (x3 : Int32) (x4 : Int32) (x5 : Int32) (x6 : Int32) (va0_row : Nat → Int32) (va0_items : Nat → Int64) (va0_isKept : Int32) (va0_length : Int32) (va0_at : Int32) (va0_number : Int32) (va0_readCells : Int32) (va0_readMany : Int32) (va0_readSaid : Int32) (va0_bestFar : Int32) (va0_bestIce : Int32) (va0_lanes : Nat → Int32) (va0_sizes : Nat → Int32) : ∀ (n : Nat) (x7 : Int32) (x8 : Int32) (x9 : Int32) (o : Int32 × Int32 × Int32), fX8_felt_L136 N x1 x2 x3 x4 x5 x6 va0_row va0_items n x7 x8 x9 = some o → G E K 11 0 0 [(0, .ref a0), (1, .int x1), (2, .int x2), (3, .int x3), (4, .int x4), (5, .int x5), (6, .int x6), (7, .int o.1), (8, .int o.2.1), (9, .int o.2.2)] [] [(a0, oB 8 [.ref a0_row, .int va0_isKept, .ref a0_lanes, .ref a0_sizes, .ref a0_items, .ref a0_tape, .int va0_length, .int va0_at, .int va0_number, .ref a0_readIce, .int va0_readCells, .ref a0_readPeople, .int va0_readMany, .ref a0_readSayings, .int va0_readSaid, .ref a0_line, .ref a0_bestLine, .int va0_bestFar, .int va0_bestIce, .ref a0_seen, .ref a0_held]), (a0_row, aI E 525 va0_row), (a0_lanes, aI E 4 va0_lanes), (a0_sizes, aI E 4 va0_sizes), (a0_items, aJ E 96 va0_items)] 188 → G E K 11 0 0 [(0, .ref a0), (1, .int x1), (2, .int x2), (3, .int x3), (4, .int x4), (5, .int x5), (6, .int x6), (7, .int x7), (8, .int x8), (9, .int x9)] [] [(a0, oB 8 [.ref a0_row, .int va0_isKept, .ref a0_lanes, .ref a0_sizes, .ref a0_items, .ref a0_tape, .int va0_length, .int va0_at, .int va0_number, .ref a0_readIce, .int va0_readCells, .ref a0_readPeople, .int va0_readMany, .ref a0_readSayings, .int va0_readSaid, .ref a0_line, .ref a0_bestLine, .int va0_bestFar, .int va0_bestIce, .ref a0_seen, .ref a0_held]), (a0_row, aI E 525 va0_row), (a0_lanes, aI E 4 va0_lanes), (a0_sizes, aI E 4 va0_sizes), (a0_items, aJ E 96 va0_items)] 136 := by
  intro n
  induction n with
  | zero => intro x7 x8 x9 o hf; cases hf
  | succ n ih =>
    intro x7 x8 x9 o hf hG
    rw [fX8_felt_L136] at hf
    refine g_iload k 9 dX8_felt_136 rfl ?_
    refine g_if_lt k (tgt := 188) dX8_felt_138 (by decide) (fun c26 => ?_) (fun c26 => ?_)
    · replace hf := ite_t c26 hf
      refine g_lv [0, 1, 2, 3, 4, 5, 6, 7, 8, 9] rfl ?_
      obtain rfl := Option.some.inj hf
      exact hG
    · replace hf := ite_f c26 hf
      refine g_aload_n k 0 dX8_felt_141 rfl rfl ?_
      refine g_iload_n k 1 dX8_felt_142 rfl rfl ?_
      refine g_iload_n k 3 dX8_felt_143 rfl rfl ?_
      refine g_iload k 4 dX8_felt_144 rfl ?_
      refine g_iload k 9 dX8_felt_146 rfl ?_
      obtain ⟨o27, ho28, hf⟩ := bnd_some hf
      refine g_cv k miX8_isFeltSo mvX8_isFeltSo (ctX8_isFeltSo (kL K) E N a0 a0_row a0_lanes a0_sizes a0_items a0_tape a0_readIce a0_readPeople a0_readSayings a0_line a0_bestLine a0_seen a0_held va0_isKept va0_length va0_at va0_number va0_readCells va0_readMany va0_readSaid va0_bestFar va0_bestIce va0_row va0_items x1 x3 x4 x9 o27 ho28) [0, 1, 4] 0 (ws' := [(a0, oB 8 [.ref a0_row, .int va0_isKept, .ref a0_lanes, .ref a0_sizes, .ref a0_items, .ref a0_tape, .int va0_length, .int va0_at, .int va0_number, .ref a0_readIce, .int va0_readCells, .ref a0_readPeople, .int va0_readMany, .ref a0_readSayings, .int va0_readSaid, .ref a0_line, .ref a0_bestLine, .int va0_bestFar, .int va0_bestIce, .ref a0_seen, .ref a0_held]), (a0_row, aI E 525 va0_row), (a0_lanes, aI E 4 va0_lanes), (a0_sizes, aI E 4 va0_sizes), (a0_items, aJ E 96 va0_items)]) dX8_felt_148 lkX8_262 rfl ⟨rfl, rfl⟩ ⟨by decide, by decide⟩ rfl rfl rfl rfl (Nat.le_of_ble_eq_true rfl) rfl rfl rfl ?_
      refine g_st (st' := [.int o27]) rfl ?_
      refine g_istore k (lv' := [(10, .int o27), (0, .ref a0), (1, .int x1), (2, .int x2), (3, .int x3), (4, .int x4), (5, .int x5), (6, .int x6), (7, .int x7), (8, .int x8), (9, .int x9)]) dX8_felt_151 (by decide) rfl ?_
      refine g_iload k 8 dX8_felt_153 rfl ?_
      refine g_iload k 0 dX8_felt_155 rfl ?_
      refine g_if_eq k (tgt := 164) dX8_felt_157 (by decide) (fun c29 => ?_) (fun c29 => ?_)
      · replace hf := ite_t c29 hf
        refine g_iconst k dX8_felt_164 ic_0 ?_
        refine g_iadd k dX8_felt_165 ?_
        refine g_istore k (lv' := [(7, .int (x7 + 0)), (10, .int o27), (0, .ref a0), (1, .int x1), (2, .int x2), (3, .int x3), (4, .int x4), (5, .int x5), (6, .int x6), (8, .int x8), (9, .int x9)]) dX8_felt_166 (by decide) rfl ?_
        refine g_iload k 1 dX8_felt_168 rfl ?_
        refine g_if_eq k (tgt := 178) dX8_felt_170 (by decide) (fun c30 => ?_) (fun c30 => ?_)
        · replace hf := ite_t c30 hf
          refine g_iload k 9 dX8_felt_178 rfl ?_
          refine g_istore k (lv' := [(8, .int x8), (7, .int (x7 + 0)), (10, .int o27), (0, .ref a0), (1, .int x1), (2, .int x2), (3, .int x3), (4, .int x4), (5, .int x5), (6, .int x6), (9, .int x9)]) dX8_felt_180 (by decide) rfl ?_
          refine g_iinc k (lv' := [(9, .int (x9 + (-1))), (8, .int x8), (7, .int (x7 + 0)), (10, .int o27), (0, .ref a0), (1, .int x1), (2, .int x2), (3, .int x3), (4, .int x4), (5, .int x5), (6, .int x6)]) 10 dX8_felt_182 rfl (ii_m1 _) (by decide) rfl ?_
          refine g_goto k (tgt := 136) dX8_felt_185 (by decide) ?_
          refine g_lv [4, 5, 6, 7, 8, 9, 10, 2, 1, 0] rfl ?_
          exact ih (x7 + 0) x8 (x9 + (-1)) o hf hG
        · replace hf := ite_f c30 hf
          refine g_iload k 10 dX8_felt_173 rfl ?_
          refine g_goto k (tgt := 180) dX8_felt_175 (by decide) ?_
          refine g_istore k (lv' := [(8, .int x9), (7, .int (x7 + 0)), (10, .int o27), (0, .ref a0), (1, .int x1), (2, .int x2), (3, .int x3), (4, .int x4), (5, .int x5), (6, .int x6), (9, .int x9)]) dX8_felt_180 (by decide) rfl ?_
          refine g_iinc k (lv' := [(9, .int (x9 + (-1))), (8, .int x9), (7, .int (x7 + 0)), (10, .int o27), (0, .ref a0), (1, .int x1), (2, .int x2), (3, .int x3), (4, .int x4), (5, .int x5), (6, .int x6)]) 10 dX8_felt_182 rfl (ii_m1 _) (by decide) rfl ?_
          refine g_goto k (tgt := 136) dX8_felt_185 (by decide) ?_
          refine g_lv [4, 5, 6, 7, 8, 9, 10, 2, 1, 0] rfl ?_
          exact ih (x7 + 0) x9 (x9 + (-1)) o hf hG
      · replace hf := ite_f c29 hf
        refine g_iconst k dX8_felt_160 ic_1 ?_
        refine g_goto k (tgt := 165) dX8_felt_161 (by decide) ?_
        refine g_iadd k dX8_felt_165 ?_
        refine g_istore k (lv' := [(7, .int (x7 + 1)), (10, .int o27), (0, .ref a0), (1, .int x1), (2, .int x2), (3, .int x3), (4, .int x4), (5, .int x5), (6, .int x6), (8, .int x8), (9, .int x9)]) dX8_felt_166 (by decide) rfl ?_
        refine g_iload k 1 dX8_felt_168 rfl ?_
        refine g_if_eq k (tgt := 178) dX8_felt_170 (by decide) (fun c31 => ?_) (fun c31 => ?_)
        · replace hf := ite_t c31 hf
          refine g_iload k 9 dX8_felt_178 rfl ?_
          refine g_istore k (lv' := [(8, .int x8), (7, .int (x7 + 1)), (10, .int o27), (0, .ref a0), (1, .int x1), (2, .int x2), (3, .int x3), (4, .int x4), (5, .int x5), (6, .int x6), (9, .int x9)]) dX8_felt_180 (by decide) rfl ?_
          refine g_iinc k (lv' := [(9, .int (x9 + (-1))), (8, .int x8), (7, .int (x7 + 1)), (10, .int o27), (0, .ref a0), (1, .int x1), (2, .int x2), (3, .int x3), (4, .int x4), (5, .int x5), (6, .int x6)]) 10 dX8_felt_182 rfl (ii_m1 _) (by decide) rfl ?_
          refine g_goto k (tgt := 136) dX8_felt_185 (by decide) ?_
          refine g_lv [4, 5, 6, 7, 8, 9, 10, 2, 1, 0] rfl ?_
          exact ih (x7 + 1) x8 (x9 + (-1)) o hf hG
        · replace hf := ite_f c31 hf
          refine g_iload k 10 dX8_felt_173 rfl ?_
          refine g_goto k (tgt := 180) dX8_felt_175 (by decide) ?_
          refine g_istore k (lv' := [(8, .int x9), (7, .int (x7 + 1)), (10, .int o27), (0, .ref a0), (1, .int x1), (2, .int x2), (3, .int x3), (4, .int x4), (5, .int x5), (6, .int x6), (9, .int x9)]) dX8_felt_180 (by decide) rfl ?_
          refine g_iinc k (lv' := [(9, .int (x9 + (-1))), (8, .int x9), (7, .int (x7 + 1)), (10, .int o27), (0, .ref a0), (1, .int x1), (2, .int x2), (3, .int x3), (4, .int x4), (5, .int x5), (6, .int x6)]) 10 dX8_felt_182 rfl (ii_m1 _) (by decide) rfl ?_
          refine g_goto k (tgt := 136) dX8_felt_185 (by decide) ?_
          refine g_lv [4, 5, 6, 7, 8, 9, 10, 2, 1, 0] rfl ?_
          exact ih (x7 + 1) x9 (x9 + (-1)) o hf hG
def fX8_felt (N : Nat) (va0_row : Nat → Int32) (va0_lanes : Nat → Int32) (va0_sizes : Nat → Int32) (va0_items : Nat → Int64) (x1 : Int32) (x2 : Int32) (x3 : Int32) (x4 : Int32) (x5 : Int32) : Option (Int32) :=
  bnd (fX8_isSheet N x1) fun o1 =>
  if o1 = 0 then
  some ((-1))
  else
  bnd (fX8_in N x2.toInt64 0 3) fun o4 =>
  if o4 = 0 then
  some ((-1))
  else
  bnd (fX8_in N x4.toInt64 1 5) fun o7 =>
  if o7 = 0 then
  some ((-1))
  else
  bnd (fX8_in N x5.toInt64 0 1) fun o10 =>
  if o10 = 0 then
  some ((-1))
  else
  bnd (fX8_noSheet N va0_lanes va0_sizes x1 x2 x3 (2 * x4)) fun o13 =>
  if o13 = 0 then
  bnd (fX8_felt_L74 N x1 x2 x3 x4 x5 o13 va0_row va0_items N ((24 * x1) + x3)) fun o21 => lret o21 fun v23 =>
  bnd (fX8_everybody N va0_row) fun o24 =>
  bnd (fX8_felt_L136 N x1 x2 x3 x4 x5 o13 va0_row va0_items N 0 (-4) o24) fun o32 =>
  if x5 = 0 then
  some (o32.1)
  else
  some (o32.2.1)
  else
  some (o13)
set_option maxHeartbeats 4000000 in
set_option maxRecDepth 100000 in
theorem ctX8_felt (l : Launch) (E : Ev) (N : Nat) (a0 : Nat) (a0_row : Nat) (a0_lanes : Nat) (a0_sizes : Nat) (a0_items : Nat) (a0_tape : Nat) (a0_readIce : Nat) (a0_readPeople : Nat) (a0_readSayings : Nat) (a0_line : Nat) (a0_bestLine : Nat) (a0_seen : Nat) (a0_held : Nat) (va0_isKept : Int32) (va0_length : Int32) (va0_at : Int32) (va0_number : Int32) (va0_readCells : Int32) (va0_readMany : Int32) (va0_readSaid : Int32) (va0_bestFar : Int32) (va0_bestIce : Int32) (va0_row : Nat → Int32) (va0_lanes : Nat → Int32) (va0_sizes : Nat → Int32) (va0_items : Nat → Int64) (x1 : Int32) (x2 : Int32) (x3 : Int32) (x4 : Int32) (x5 : Int32) (out : Int32) (hf : fX8_felt N va0_row va0_lanes va0_sizes va0_items x1 x2 x3 x4 x5 = some out) : Ct l E yX8_felt cX8_felt 11 (some .int) rmX8_felt [.ref a0, .int x1, .int x2, .int x3, .int x4, .int x5] [(a0, oB 8 [.ref a0_row, .int va0_isKept, .ref a0_lanes, .ref a0_sizes, .ref a0_items, .ref a0_tape, .int va0_length, .int va0_at, .int va0_number, .ref a0_readIce, .int va0_readCells, .ref a0_readPeople, .int va0_readMany, .ref a0_readSayings, .int va0_readSaid, .ref a0_line, .ref a0_bestLine, .int va0_bestFar, .int va0_bestIce, .ref a0_seen, .ref a0_held]), (a0_row, aI E 525 va0_row), (a0_lanes, aI E 4 va0_lanes), (a0_sizes, aI E 4 va0_sizes), (a0_items, aJ E 96 va0_items)] (Pe (some (.int out)) [(a0, oB 8 [.ref a0_row, .int va0_isKept, .ref a0_lanes, .ref a0_sizes, .ref a0_items, .ref a0_tape, .int va0_length, .int va0_at, .int va0_number, .ref a0_readIce, .int va0_readCells, .ref a0_readPeople, .int va0_readMany, .ref a0_readSayings, .int va0_readSaid, .ref a0_line, .ref a0_bestLine, .int va0_bestFar, .int va0_bestIce, .ref a0_seen, .ref a0_held]), (a0_row, aI E 525 va0_row), (a0_lanes, aI E 4 va0_lanes), (a0_sizes, aI E 4 va0_sizes), (a0_items, aJ E 96 va0_items)]) := by
  refine Ct.of rfl (Nat.le_of_ble_eq_true rfl) (fun K hL k r hin => ?_)
  subst hL
  unfold fX8_felt at hf
  show G E K 11 0 0 [(0, .ref a0), (1, .int x1), (2, .int x2), (3, .int x3), (4, .int x4), (5, .int x5)] [] [(a0, oB 8 [.ref a0_row, .int va0_isKept, .ref a0_lanes, .ref a0_sizes, .ref a0_items, .ref a0_tape, .int va0_length, .int va0_at, .int va0_number, .ref a0_readIce, .int va0_readCells, .ref a0_readPeople, .int va0_readMany, .ref a0_readSayings, .int va0_readSaid, .ref a0_line, .ref a0_bestLine, .int va0_bestFar, .int va0_bestIce, .ref a0_seen, .ref a0_held]), (a0_row, aI E 525 va0_row), (a0_lanes, aI E 4 va0_lanes), (a0_sizes, aI E 4 va0_sizes), (a0_items, aJ E 96 va0_items)] 0
  refine g_iload_n k 1 dX8_felt_0 rfl rfl ?_
  obtain ⟨o1, ho2, hf⟩ := bnd_some hf
  refine g_cs k miX8_isSheet msX8_isSheet (ctX8_isSheet (kL K) E N   x1 o1 ho2) [] (ws' := [(a0, oB 8 [.ref a0_row, .int va0_isKept, .ref a0_lanes, .ref a0_sizes, .ref a0_items, .ref a0_tape, .int va0_length, .int va0_at, .int va0_number, .ref a0_readIce, .int va0_readCells, .ref a0_readPeople, .int va0_readMany, .ref a0_readSayings, .int va0_readSaid, .ref a0_line, .ref a0_bestLine, .int va0_bestFar, .int va0_bestIce, .ref a0_seen, .ref a0_held]), (a0_row, aI E 525 va0_row), (a0_lanes, aI E 4 va0_lanes), (a0_sizes, aI E 4 va0_sizes), (a0_items, aJ E 96 va0_items)]) dX8_felt_1 lkX8_254 rfl ⟨rfl, rfl⟩ ⟨by decide, by decide⟩ rfl rfl rfl (Nat.le_of_ble_eq_true rfl) rfl rfl rfl ?_
  refine g_st (st' := [.int o1]) rfl ?_
  refine g_if_eq k (tgt := 43) dX8_felt_4 (by decide) (fun c3 => ?_) (fun c3 => ?_)
  · replace hf := ite_t c3 hf
    refine g_iconst k dX8_felt_43 ic_m1 ?_
    obtain rfl := Option.some.inj hf
    exact g_iret k r dX8_felt_44 ⟨rfl, rfl⟩
  · replace hf := ite_f c3 hf
    refine g_iload_n k 2 dX8_felt_7 rfl rfl ?_
    refine g_i2l k dX8_felt_8 ?_
    refine g_lconst k dX8_felt_9 lc_0 ?_
    refine g_ldc2 k dX8_felt_10 lkX8_248 ?_
    obtain ⟨o4, ho5, hf⟩ := bnd_some hf
    refine g_cs k miX8_in msX8_in (ctX8_in (kL K) E N   x2.toInt64 0 3 o4 ho5) [] (ws' := [(a0, oB 8 [.ref a0_row, .int va0_isKept, .ref a0_lanes, .ref a0_sizes, .ref a0_items, .ref a0_tape, .int va0_length, .int va0_at, .int va0_number, .ref a0_readIce, .int va0_readCells, .ref a0_readPeople, .int va0_readMany, .ref a0_readSayings, .int va0_readSaid, .ref a0_line, .ref a0_bestLine, .int va0_bestFar, .int va0_bestIce, .ref a0_seen, .ref a0_held]), (a0_row, aI E 525 va0_row), (a0_lanes, aI E 4 va0_lanes), (a0_sizes, aI E 4 va0_sizes), (a0_items, aJ E 96 va0_items)]) dX8_felt_13 lkX8_47 rfl ⟨rfl, rfl⟩ ⟨by decide, by decide⟩ rfl rfl rfl (Nat.le_of_ble_eq_true rfl) rfl rfl rfl ?_
    refine g_st (st' := [.int o4]) rfl ?_
    refine g_if_eq k (tgt := 43) dX8_felt_16 (by decide) (fun c6 => ?_) (fun c6 => ?_)
    · replace hf := ite_t c6 hf
      refine g_iconst k dX8_felt_43 ic_m1 ?_
      obtain rfl := Option.some.inj hf
      exact g_iret k r dX8_felt_44 ⟨rfl, rfl⟩
    · replace hf := ite_f c6 hf
      refine g_iload k 4 dX8_felt_19 rfl ?_
      refine g_i2l k dX8_felt_21 ?_
      refine g_lconst k dX8_felt_22 lc_1 ?_
      refine g_ldc2 k dX8_felt_23 lkX8_257 ?_
      obtain ⟨o7, ho8, hf⟩ := bnd_some hf
      refine g_cs k miX8_in msX8_in (ctX8_in (kL K) E N   x4.toInt64 1 5 o7 ho8) [] (ws' := [(a0, oB 8 [.ref a0_row, .int va0_isKept, .ref a0_lanes, .ref a0_sizes, .ref a0_items, .ref a0_tape, .int va0_length, .int va0_at, .int va0_number, .ref a0_readIce, .int va0_readCells, .ref a0_readPeople, .int va0_readMany, .ref a0_readSayings, .int va0_readSaid, .ref a0_line, .ref a0_bestLine, .int va0_bestFar, .int va0_bestIce, .ref a0_seen, .ref a0_held]), (a0_row, aI E 525 va0_row), (a0_lanes, aI E 4 va0_lanes), (a0_sizes, aI E 4 va0_sizes), (a0_items, aJ E 96 va0_items)]) dX8_felt_26 lkX8_47 rfl ⟨rfl, rfl⟩ ⟨by decide, by decide⟩ rfl rfl rfl (Nat.le_of_ble_eq_true rfl) rfl rfl rfl ?_
      refine g_st (st' := [.int o7]) rfl ?_
      refine g_if_eq k (tgt := 43) dX8_felt_29 (by decide) (fun c9 => ?_) (fun c9 => ?_)
      · replace hf := ite_t c9 hf
        refine g_iconst k dX8_felt_43 ic_m1 ?_
        obtain rfl := Option.some.inj hf
        exact g_iret k r dX8_felt_44 ⟨rfl, rfl⟩
      · replace hf := ite_f c9 hf
        refine g_iload k 5 dX8_felt_32 rfl ?_
        refine g_i2l k dX8_felt_34 ?_
        refine g_lconst k dX8_felt_35 lc_0 ?_
        refine g_lconst k dX8_felt_36 lc_1 ?_
        obtain ⟨o10, ho11, hf⟩ := bnd_some hf
        refine g_cs k miX8_in msX8_in (ctX8_in (kL K) E N   x5.toInt64 0 1 o10 ho11) [] (ws' := [(a0, oB 8 [.ref a0_row, .int va0_isKept, .ref a0_lanes, .ref a0_sizes, .ref a0_items, .ref a0_tape, .int va0_length, .int va0_at, .int va0_number, .ref a0_readIce, .int va0_readCells, .ref a0_readPeople, .int va0_readMany, .ref a0_readSayings, .int va0_readSaid, .ref a0_line, .ref a0_bestLine, .int va0_bestFar, .int va0_bestIce, .ref a0_seen, .ref a0_held]), (a0_row, aI E 525 va0_row), (a0_lanes, aI E 4 va0_lanes), (a0_sizes, aI E 4 va0_sizes), (a0_items, aJ E 96 va0_items)]) dX8_felt_37 lkX8_47 rfl ⟨rfl, rfl⟩ ⟨by decide, by decide⟩ rfl rfl rfl (Nat.le_of_ble_eq_true rfl) rfl rfl rfl ?_
        refine g_st (st' := [.int o10]) rfl ?_
        refine g_if_ne k (tgt := 45) dX8_felt_40 (by decide) (fun c12 => ?_) (fun c12 => ?_)
        · replace hf := ite_f c12 hf
          refine g_aload_n k 0 dX8_felt_45 rfl rfl ?_
          refine g_iload_n k 1 dX8_felt_46 rfl rfl ?_
          refine g_iload_n k 2 dX8_felt_47 rfl rfl ?_
          refine g_iload_n k 3 dX8_felt_48 rfl rfl ?_
          refine g_iconst k dX8_felt_49 ic_2 ?_
          refine g_iload k 4 dX8_felt_50 rfl ?_
          refine g_imul k dX8_felt_52 ?_
          obtain ⟨o13, ho14, hf⟩ := bnd_some hf
          refine g_cv k miX8_noSheet mvX8_noSheet (ctX8_noSheet (kL K) E N a0 a0_row a0_lanes a0_sizes a0_items a0_tape a0_readIce a0_readPeople a0_readSayings a0_line a0_bestLine a0_seen a0_held va0_isKept va0_length va0_at va0_number va0_readCells va0_readMany va0_readSaid va0_bestFar va0_bestIce va0_lanes va0_sizes x1 x2 x3 (2 * x4) o13 ho14) [0, 2, 3] 0 (ws' := [(a0, oB 8 [.ref a0_row, .int va0_isKept, .ref a0_lanes, .ref a0_sizes, .ref a0_items, .ref a0_tape, .int va0_length, .int va0_at, .int va0_number, .ref a0_readIce, .int va0_readCells, .ref a0_readPeople, .int va0_readMany, .ref a0_readSayings, .int va0_readSaid, .ref a0_line, .ref a0_bestLine, .int va0_bestFar, .int va0_bestIce, .ref a0_seen, .ref a0_held]), (a0_row, aI E 525 va0_row), (a0_lanes, aI E 4 va0_lanes), (a0_sizes, aI E 4 va0_sizes), (a0_items, aJ E 96 va0_items)]) dX8_felt_53 lkX8_259 rfl ⟨rfl, rfl⟩ ⟨by decide, by decide⟩ rfl rfl rfl rfl (Nat.le_of_ble_eq_true rfl) rfl rfl rfl ?_
          refine g_st (st' := [.int o13]) rfl ?_
          refine g_istore k (lv' := [(6, .int o13), (0, .ref a0), (1, .int x1), (2, .int x2), (3, .int x3), (4, .int x4), (5, .int x5)]) dX8_felt_56 (by decide) rfl ?_
          refine g_iload k 0 dX8_felt_58 rfl ?_
          refine g_if_eq k (tgt := 66) dX8_felt_60 (by decide) (fun c15 => ?_) (fun c15 => ?_)
          · replace hf := ite_t c15 hf
            refine g_bipush k dX8_felt_66 bi_24 ?_
            refine g_iload_n k 2 dX8_felt_68 rfl rfl ?_
            refine g_imul k dX8_felt_69 ?_
            refine g_iload_n k 4 dX8_felt_70 rfl rfl ?_
            refine g_iadd k dX8_felt_71 ?_
            refine g_istore k (lv' := [(7, .int ((24 * x1) + x3)), (6, .int o13), (0, .ref a0), (1, .int x1), (2, .int x2), (3, .int x3), (4, .int x4), (5, .int x5)]) dX8_felt_72 (by decide) rfl ?_
            obtain ⟨o21, ho22, hf⟩ := bnd_some hf
            refine g_lv [2, 3, 4, 5, 6, 7, 1, 0] (lv' := [(0, .ref a0), (1, .int x1), (2, .int x2), (3, .int x3), (4, .int x4), (5, .int x5), (6, .int o13), (7, .int ((24 * x1) + x3))]) rfl ?_
            refine wX8_felt_L74 k N a0 a0_row a0_lanes a0_sizes a0_items a0_tape a0_readIce a0_readPeople a0_readSayings a0_line a0_bestLine a0_seen a0_held  x1 x2 x3 x4 x5 o13 va0_row va0_items va0_isKept va0_length va0_at va0_number va0_readCells va0_readMany va0_readSaid va0_bestFar va0_bestIce va0_lanes va0_sizes r N ((24 * x1) + x3) o21 ho22 (fun w e => by subst e; exact Option.some.inj hf) (fun v23 e => ?_)
            subst e
            replace hf := lret_r hf
            refine g_iconst k dX8_felt_123 ic_0 ?_
            refine g_istore k (lv' := [(7, .int 0), (0, .ref a0), (1, .int x1), (2, .int x2), (3, .int x3), (4, .int x4), (5, .int x5), (6, .int o13)]) dX8_felt_124 (by decide) rfl ?_
            refine g_bipush k dX8_felt_126 bi_m4 ?_
            refine g_istore k (lv' := [(8, .int (-4)), (7, .int 0), (0, .ref a0), (1, .int x1), (2, .int x2), (3, .int x3), (4, .int x4), (5, .int x5), (6, .int o13)]) dX8_felt_128 (by decide) rfl ?_
            refine g_aload_n k 2 dX8_felt_130 rfl rfl ?_
            obtain ⟨o24, ho25, hf⟩ := bnd_some hf
            refine g_cv k miX8_everybody mvX8_everybody (ctX8_everybody (kL K) E N a0 a0_row a0_lanes a0_sizes a0_items a0_tape a0_readIce a0_readPeople a0_readSayings a0_line a0_bestLine a0_seen a0_held va0_isKept va0_length va0_at va0_number va0_readCells va0_readMany va0_readSaid va0_bestFar va0_bestIce va0_row  o24 ho25) [0, 1] 0 (ws' := [(a0, oB 8 [.ref a0_row, .int va0_isKept, .ref a0_lanes, .ref a0_sizes, .ref a0_items, .ref a0_tape, .int va0_length, .int va0_at, .int va0_number, .ref a0_readIce, .int va0_readCells, .ref a0_readPeople, .int va0_readMany, .ref a0_readSayings, .int va0_readSaid, .ref a0_line, .ref a0_bestLine, .int va0_bestFar, .int va0_bestIce, .ref a0_seen, .ref a0_held]), (a0_row, aI E 525 va0_row), (a0_lanes, aI E 4 va0_lanes), (a0_sizes, aI E 4 va0_sizes), (a0_items, aJ E 96 va0_items)]) dX8_felt_131 lkX8_67 rfl ⟨rfl, rfl⟩ ⟨by decide, by decide⟩ rfl rfl rfl rfl (Nat.le_of_ble_eq_true rfl) rfl rfl rfl ?_
            refine g_st (st' := [.int o24]) rfl ?_
            refine g_istore k (lv' := [(9, .int o24), (8, .int (-4)), (7, .int 0), (0, .ref a0), (1, .int x1), (2, .int x2), (3, .int x3), (4, .int x4), (5, .int x5), (6, .int o13)]) dX8_felt_134 (by decide) rfl ?_
            obtain ⟨o32, ho33, hf⟩ := bnd_some hf
            refine g_lv [3, 4, 5, 6, 7, 8, 9, 2, 1, 0] (lv' := [(0, .ref a0), (1, .int x1), (2, .int x2), (3, .int x3), (4, .int x4), (5, .int x5), (6, .int o13), (7, .int 0), (8, .int (-4)), (9, .int o24)]) rfl ?_
            refine wX8_felt_L136 k N a0 a0_row a0_lanes a0_sizes a0_items a0_tape a0_readIce a0_readPeople a0_readSayings a0_line a0_bestLine a0_seen a0_held  x1 x2 x3 x4 x5 o13 va0_row va0_items va0_isKept va0_length va0_at va0_number va0_readCells va0_readMany va0_readSaid va0_bestFar va0_bestIce va0_lanes va0_sizes N 0 (-4) o24 o32 ho33 ?_
            refine g_iload k 5 dX8_felt_188 rfl ?_
            refine g_if_ne k (tgt := 198) dX8_felt_190 (by decide) (fun c34 => ?_) (fun c34 => ?_)
            · replace hf := ite_f c34 hf
              refine g_iload k 8 dX8_felt_198 rfl ?_
              obtain rfl := Option.some.inj hf
              exact g_iret k r dX8_felt_200 ⟨rfl, rfl⟩
            · replace hf := ite_t c34 hf
              refine g_iload k 7 dX8_felt_193 rfl ?_
              refine g_goto k (tgt := 200) dX8_felt_195 (by decide) ?_
              obtain rfl := Option.some.inj hf
              exact g_iret k r dX8_felt_200 ⟨rfl, rfl⟩
          · replace hf := ite_f c15 hf
            refine g_iload k 0 dX8_felt_63 rfl ?_
            obtain rfl := Option.some.inj hf
            exact g_iret k r dX8_felt_65 ⟨rfl, rfl⟩
        · replace hf := ite_t c12 hf
          refine g_iconst k dX8_felt_43 ic_m1 ?_
          obtain rfl := Option.some.inj hf
          exact g_iret k r dX8_felt_44 ⟨rfl, rfl⟩
abbrev rmX8_film : Room := { frames := 2, cells := 0, slots := 0, locals := 47 }
def fX8_film_L78 (N : Nat) (x1 : Int32) (x2 : Int32) (x3 : Int32) (x4 : Int32) (x5 : Int32) (x6 : Int32) (va0_row : Nat → Int32) : Nat → Int32 → (Nat → Int64) → Option (Int32 × (Nat → Int64))
  | 0, _, _ => none
  | n + 1, x7, va0_items =>
    if x2 ≤ x7 then
    some (x7, va0_items)
    else
    ixb ((3 + x1) + x7) 525 fun κ18 =>
    ixb (((24 * x3) + x5) + x7) 96 fun κ19 =>
    fX8_film_L78 N x1 x2 x3 x4 x5 x6 va0_row n (x7 + 1) (vp_updL va0_items κ19 ((va0_row κ18).toInt64))
set_option maxHeartbeats 4000000 in
set_option maxRecDepth 100000 in
theorem wX8_film_L78 {E : Ev} {K : KX} (k : OKX E K cX8_film RX8 8 rmX8_film) (N : Nat) (a0 : Nat) (a0_row : Nat) (a0_lanes : Nat) (a0_sizes : Nat) (a0_items : Nat) (a0_tape : Nat) (a0_readIce : Nat) (a0_readPeople : Nat) (a0_readSayings : Nat) (a0_line : Nat) (a0_bestLine : Nat) (a0_seen : Nat) (a0_held : Nat) (x1 : Int32) (x2 : Int32) (x3 : Int32) (x4 : Int32) (x5 : Int32) (x6 : Int32) (va0_row : Nat → Int32) (va0_isKept : Int32) (va0_length : Int32) (va0_at : Int32) (va0_number : Int32) (va0_readCells : Int32) (va0_readMany : Int32) (va0_readSaid : Int32) (va0_bestFar : Int32) (va0_bestIce : Int32) (va0_lanes : Nat → Int32) (va0_sizes : Nat → Int32) : ∀ (n : Nat) (x7 : Int32) (va0_items : Nat → Int64) (o : Int32 × (Nat → Int64)), fX8_film_L78 N x1 x2 x3 x4 x5 x6 va0_row n x7 va0_items = some o → G E K 8 0 0 [(0, .ref a0), (1, .int x1), (2, .int x2), (3, .int x3), (4, .int x4), (5, .int x5), (6, .int x6), (7, .int o.1)] [] [(a0, oB 8 [.ref a0_row, .int va0_isKept, .ref a0_lanes, .ref a0_sizes, .ref a0_items, .ref a0_tape, .int va0_length, .int va0_at, .int va0_number, .ref a0_readIce, .int va0_readCells, .ref a0_readPeople, .int va0_readMany, .ref a0_readSayings, .int va0_readSaid, .ref a0_line, .ref a0_bestLine, .int va0_bestFar, .int va0_bestIce, .ref a0_seen, .ref a0_held]), (a0_row, aI E 525 va0_row), (a0_lanes, aI E 4 va0_lanes), (a0_sizes, aI E 4 va0_sizes), (a0_items, aJ E 96 o.2)] 117 → G E K 8 0 0 [(0, .ref a0), (1, .int x1), (2, .int x2), (3, .int x3), (4, .int x4), (5, .int x5), (6, .int x6), (7, .int x7)] [] [(a0, oB 8 [.ref a0_row, .int va0_isKept, .ref a0_lanes, .ref a0_sizes, .ref a0_items, .ref a0_tape, .int va0_length, .int va0_at, .int va0_number, .ref a0_readIce, .int va0_readCells, .ref a0_readPeople, .int va0_readMany, .ref a0_readSayings, .int va0_readSaid, .ref a0_line, .ref a0_bestLine, .int va0_bestFar, .int va0_bestIce, .ref a0_seen, .ref a0_held]), (a0_row, aI E 525 va0_row), (a0_lanes, aI E 4 va0_lanes), (a0_sizes, aI E 4 va0_sizes), (a0_items, aJ E 96 va0_items)] 78 := by
  intro n
  induction n with
  | zero => intro x7 va0_items o hf; cases hf
  | succ n ih =>
    intro x7 va0_items o hf hG
    rw [fX8_film_L78] at hf
    refine g_iload k 7 dX8_film_78 rfl ?_
    refine g_iload_n k 2 dX8_film_80 rfl rfl ?_
    refine g_icmp_ge k (tgt := 117) dX8_film_81 (by decide) (fun c17 => ?_) (fun c17 => ?_)
    · replace hf := ite_t c17 hf
      refine g_lv [0, 1, 2, 3, 4, 5, 6, 7] rfl ?_
      obtain rfl := Option.some.inj hf
      exact hG
    · replace hf := ite_f c17 hf
      refine g_aload_n k 0 dX8_film_84 rfl rfl ?_
      refine g_get k cfX8 4 0 dX8_film_85 lkX8_19 (by decide) rfl rfl ?_
      refine g_bipush k dX8_film_88 bi_24 ?_
      refine g_iload_n k 3 dX8_film_90 rfl rfl ?_
      refine g_imul k dX8_film_91 ?_
      refine g_iload k 5 dX8_film_92 rfl ?_
      refine g_iadd k dX8_film_94 ?_
      refine g_iload k 7 dX8_film_95 rfl ?_
      refine g_iadd k dX8_film_97 ?_
      refine g_aload_n k 0 dX8_film_98 rfl rfl ?_
      refine g_get k cfX8 0 0 dX8_film_99 lkX8_7 (by decide) rfl rfl ?_
      refine g_iconst k dX8_film_102 ic_3 ?_
      refine g_iload_n k 1 dX8_film_103 rfl rfl ?_
      refine g_iadd k dX8_film_104 ?_
      refine g_iload k 7 dX8_film_105 rfl ?_
      refine g_iadd k dX8_film_107 ?_
      obtain ⟨κ18, hκ18, hiκ18, heκ18, hf⟩ := ixb_some hf
      refine g_iaload k 1 dX8_film_108 rfl hiκ18 heκ18 ?_
      refine g_i2l k dX8_film_109 ?_
      obtain ⟨κ19, hκ19, hiκ19, heκ19, hf⟩ := ixb_some hf
      refine g_lastore k 4 (ws' := [(a0, oB 8 [.ref a0_row, .int va0_isKept, .ref a0_lanes, .ref a0_sizes, .ref a0_items, .ref a0_tape, .int va0_length, .int va0_at, .int va0_number, .ref a0_readIce, .int va0_readCells, .ref a0_readPeople, .int va0_readMany, .ref a0_readSayings, .int va0_readSaid, .ref a0_line, .ref a0_bestLine, .int va0_bestFar, .int va0_bestIce, .ref a0_seen, .ref a0_held]), (a0_row, aI E 525 va0_row), (a0_lanes, aI E 4 va0_lanes), (a0_sizes, aI E 4 va0_sizes), (a0_items, aJ E 96 (vp_updL va0_items κ19 ((va0_row κ18).toInt64)))]) dX8_film_110 rfl hiκ19 heκ19 rfl ?_
      refine g_iinc k (lv' := [(7, .int (x7 + 1)), (0, .ref a0), (1, .int x1), (2, .int x2), (3, .int x3), (4, .int x4), (5, .int x5), (6, .int x6)]) 7 dX8_film_111 rfl (ii_1 _) (by decide) rfl ?_
      refine g_goto k (tgt := 78) dX8_film_114 (by decide) ?_
      refine g_lv [1, 2, 3, 4, 5, 6, 7, 0] rfl ?_
      exact ih (x7 + 1) (vp_updL va0_items κ19 ((va0_row κ18).toInt64)) o hf hG
def fX8_film (N : Nat) (va0_row : Nat → Int32) (va0_lanes : Nat → Int32) (va0_sizes : Nat → Int32) (va0_items : Nat → Int64) (x1 : Int32) (x2 : Int32) (x3 : Int32) (x4 : Int32) (x5 : Int32) : Option (Int32 × (Nat → Int64)) :=
  bnd (fX8_isCell N va0_row x1) fun o1 =>
  if o1 = 0 then
  some ((-1), va0_items)
  else
  bnd (fX8_in N x2.toInt64 1 12) fun o4 =>
  if o4 = 0 then
  some ((-1), va0_items)
  else
  if (va0_row 26) < (x1 + x2) then
  some ((-1), va0_items)
  else
  bnd (fX8_isSheet N x3) fun o8 =>
  if o8 = 0 then
  some ((-1), va0_items)
  else
  bnd (fX8_in N x4.toInt64 0 3) fun o11 =>
  if o11 = 0 then
  some ((-1), va0_items)
  else
  bnd (fX8_noSheet N va0_lanes va0_sizes x3 x4 x5 x2) fun o14 =>
  if o14 = 0 then
  bnd (fX8_film_L78 N x1 x2 x3 x4 x5 o14 va0_row N 0 va0_items) fun o20 =>
  some (x2, o20.2)
  else
  some (o14, va0_items)
set_option maxHeartbeats 4000000 in
set_option maxRecDepth 100000 in
theorem ctX8_film (l : Launch) (E : Ev) (N : Nat) (a0 : Nat) (a0_row : Nat) (a0_lanes : Nat) (a0_sizes : Nat) (a0_items : Nat) (a0_tape : Nat) (a0_readIce : Nat) (a0_readPeople : Nat) (a0_readSayings : Nat) (a0_line : Nat) (a0_bestLine : Nat) (a0_seen : Nat) (a0_held : Nat) (va0_isKept : Int32) (va0_length : Int32) (va0_at : Int32) (va0_number : Int32) (va0_readCells : Int32) (va0_readMany : Int32) (va0_readSaid : Int32) (va0_bestFar : Int32) (va0_bestIce : Int32) (va0_row : Nat → Int32) (va0_lanes : Nat → Int32) (va0_sizes : Nat → Int32) (va0_items : Nat → Int64) (x1 : Int32) (x2 : Int32) (x3 : Int32) (x4 : Int32) (x5 : Int32) (out : Int32 × (Nat → Int64)) (hf : fX8_film N va0_row va0_lanes va0_sizes va0_items x1 x2 x3 x4 x5 = some out) : Ct l E yX8_film cX8_film 8 (some .int) rmX8_film [.ref a0, .int x1, .int x2, .int x3, .int x4, .int x5] [(a0, oB 8 [.ref a0_row, .int va0_isKept, .ref a0_lanes, .ref a0_sizes, .ref a0_items, .ref a0_tape, .int va0_length, .int va0_at, .int va0_number, .ref a0_readIce, .int va0_readCells, .ref a0_readPeople, .int va0_readMany, .ref a0_readSayings, .int va0_readSaid, .ref a0_line, .ref a0_bestLine, .int va0_bestFar, .int va0_bestIce, .ref a0_seen, .ref a0_held]), (a0_row, aI E 525 va0_row), (a0_lanes, aI E 4 va0_lanes), (a0_sizes, aI E 4 va0_sizes), (a0_items, aJ E 96 va0_items)] (Pe (some (.int out.1)) [(a0, oB 8 [.ref a0_row, .int va0_isKept, .ref a0_lanes, .ref a0_sizes, .ref a0_items, .ref a0_tape, .int va0_length, .int va0_at, .int va0_number, .ref a0_readIce, .int va0_readCells, .ref a0_readPeople, .int va0_readMany, .ref a0_readSayings, .int va0_readSaid, .ref a0_line, .ref a0_bestLine, .int va0_bestFar, .int va0_bestIce, .ref a0_seen, .ref a0_held]), (a0_row, aI E 525 va0_row), (a0_lanes, aI E 4 va0_lanes), (a0_sizes, aI E 4 va0_sizes), (a0_items, aJ E 96 out.2)]) := by
  refine Ct.of rfl (Nat.le_of_ble_eq_true rfl) (fun K hL k r hin => ?_)
  subst hL
  unfold fX8_film at hf
  show G E K 8 0 0 [(0, .ref a0), (1, .int x1), (2, .int x2), (3, .int x3), (4, .int x4), (5, .int x5)] [] [(a0, oB 8 [.ref a0_row, .int va0_isKept, .ref a0_lanes, .ref a0_sizes, .ref a0_items, .ref a0_tape, .int va0_length, .int va0_at, .int va0_number, .ref a0_readIce, .int va0_readCells, .ref a0_readPeople, .int va0_readMany, .ref a0_readSayings, .int va0_readSaid, .ref a0_line, .ref a0_bestLine, .int va0_bestFar, .int va0_bestIce, .ref a0_seen, .ref a0_held]), (a0_row, aI E 525 va0_row), (a0_lanes, aI E 4 va0_lanes), (a0_sizes, aI E 4 va0_sizes), (a0_items, aJ E 96 va0_items)] 0
  refine g_aload_n k 0 dX8_film_0 rfl rfl ?_
  refine g_iload_n k 1 dX8_film_1 rfl rfl ?_
  obtain ⟨o1, ho2, hf⟩ := bnd_some hf
  refine g_cv k miX8_isCell mvX8_isCell (ctX8_isCell (kL K) E N a0 a0_row a0_lanes a0_sizes a0_items a0_tape a0_readIce a0_readPeople a0_readSayings a0_line a0_bestLine a0_seen a0_held va0_isKept va0_length va0_at va0_number va0_readCells va0_readMany va0_readSaid va0_bestFar va0_bestIce va0_row x1 o1 ho2) [0, 1] 0 (ws' := [(a0, oB 8 [.ref a0_row, .int va0_isKept, .ref a0_lanes, .ref a0_sizes, .ref a0_items, .ref a0_tape, .int va0_length, .int va0_at, .int va0_number, .ref a0_readIce, .int va0_readCells, .ref a0_readPeople, .int va0_readMany, .ref a0_readSayings, .int va0_readSaid, .ref a0_line, .ref a0_bestLine, .int va0_bestFar, .int va0_bestIce, .ref a0_seen, .ref a0_held]), (a0_row, aI E 525 va0_row), (a0_lanes, aI E 4 va0_lanes), (a0_sizes, aI E 4 va0_sizes), (a0_items, aJ E 96 va0_items)]) dX8_film_2 lkX8_74 rfl ⟨rfl, rfl⟩ ⟨by decide, by decide⟩ rfl rfl rfl rfl (Nat.le_of_ble_eq_true rfl) rfl rfl rfl ?_
  refine g_st (st' := [.int o1]) rfl ?_
  refine g_if_eq k (tgt := 53) dX8_film_5 (by decide) (fun c3 => ?_) (fun c3 => ?_)
  · replace hf := ite_t c3 hf
    refine g_iconst k dX8_film_53 ic_m1 ?_
    obtain rfl := Option.some.inj hf
    exact g_iret k r dX8_film_54 ⟨rfl, rfl⟩
  · replace hf := ite_f c3 hf
    refine g_iload_n k 2 dX8_film_8 rfl rfl ?_
    refine g_i2l k dX8_film_9 ?_
    refine g_lconst k dX8_film_10 lc_1 ?_
    refine g_ldc2 k dX8_film_11 lkX8_266 ?_
    obtain ⟨o4, ho5, hf⟩ := bnd_some hf
    refine g_cs k miX8_in msX8_in (ctX8_in (kL K) E N   x2.toInt64 1 12 o4 ho5) [] (ws' := [(a0, oB 8 [.ref a0_row, .int va0_isKept, .ref a0_lanes, .ref a0_sizes, .ref a0_items, .ref a0_tape, .int va0_length, .int va0_at, .int va0_number, .ref a0_readIce, .int va0_readCells, .ref a0_readPeople, .int va0_readMany, .ref a0_readSayings, .int va0_readSaid, .ref a0_line, .ref a0_bestLine, .int va0_bestFar, .int va0_bestIce, .ref a0_seen, .ref a0_held]), (a0_row, aI E 525 va0_row), (a0_lanes, aI E 4 va0_lanes), (a0_sizes, aI E 4 va0_sizes), (a0_items, aJ E 96 va0_items)]) dX8_film_14 lkX8_47 rfl ⟨rfl, rfl⟩ ⟨by decide, by decide⟩ rfl rfl rfl (Nat.le_of_ble_eq_true rfl) rfl rfl rfl ?_
    refine g_st (st' := [.int o4]) rfl ?_
    refine g_if_eq k (tgt := 53) dX8_film_17 (by decide) (fun c6 => ?_) (fun c6 => ?_)
    · replace hf := ite_t c6 hf
      refine g_iconst k dX8_film_53 ic_m1 ?_
      obtain rfl := Option.some.inj hf
      exact g_iret k r dX8_film_54 ⟨rfl, rfl⟩
    · replace hf := ite_f c6 hf
      refine g_iload_n k 1 dX8_film_20 rfl rfl ?_
      refine g_iload_n k 2 dX8_film_21 rfl rfl ?_
      refine g_iadd k dX8_film_22 ?_
      refine g_aload_n k 0 dX8_film_23 rfl rfl ?_
      refine g_get k cfX8 0 0 dX8_film_24 lkX8_7 (by decide) rfl rfl ?_
      refine g_bipush k dX8_film_27 bi_26 ?_
      refine g_iaload k 1 dX8_film_29 rfl vi_26_525 cl_26 ?_
      refine g_icmp_gt k (tgt := 53) dX8_film_30 (by decide) (fun c7 => ?_) (fun c7 => ?_)
      · replace hf := ite_t c7 hf
        refine g_iconst k dX8_film_53 ic_m1 ?_
        obtain rfl := Option.some.inj hf
        exact g_iret k r dX8_film_54 ⟨rfl, rfl⟩
      · replace hf := ite_f c7 hf
        refine g_iload_n k 3 dX8_film_33 rfl rfl ?_
        obtain ⟨o8, ho9, hf⟩ := bnd_some hf
        refine g_cs k miX8_isSheet msX8_isSheet (ctX8_isSheet (kL K) E N   x3 o8 ho9) [] (ws' := [(a0, oB 8 [.ref a0_row, .int va0_isKept, .ref a0_lanes, .ref a0_sizes, .ref a0_items, .ref a0_tape, .int va0_length, .int va0_at, .int va0_number, .ref a0_readIce, .int va0_readCells, .ref a0_readPeople, .int va0_readMany, .ref a0_readSayings, .int va0_readSaid, .ref a0_line, .ref a0_bestLine, .int va0_bestFar, .int va0_bestIce, .ref a0_seen, .ref a0_held]), (a0_row, aI E 525 va0_row), (a0_lanes, aI E 4 va0_lanes), (a0_sizes, aI E 4 va0_sizes), (a0_items, aJ E 96 va0_items)]) dX8_film_34 lkX8_254 rfl ⟨rfl, rfl⟩ ⟨by decide, by decide⟩ rfl rfl rfl (Nat.le_of_ble_eq_true rfl) rfl rfl rfl ?_
        refine g_st (st' := [.int o8]) rfl ?_
        refine g_if_eq k (tgt := 53) dX8_film_37 (by decide) (fun c10 => ?_) (fun c10 => ?_)
        · replace hf := ite_t c10 hf
          refine g_iconst k dX8_film_53 ic_m1 ?_
          obtain rfl := Option.some.inj hf
          exact g_iret k r dX8_film_54 ⟨rfl, rfl⟩
        · replace hf := ite_f c10 hf
          refine g_iload k 4 dX8_film_40 rfl ?_
          refine g_i2l k dX8_film_42 ?_
          refine g_lconst k dX8_film_43 lc_0 ?_
          refine g_ldc2 k dX8_film_44 lkX8_248 ?_
          obtain ⟨o11, ho12, hf⟩ := bnd_some hf
          refine g_cs k miX8_in msX8_in (ctX8_in (kL K) E N   x4.toInt64 0 3 o11 ho12) [] (ws' := [(a0, oB 8 [.ref a0_row, .int va0_isKept, .ref a0_lanes, .ref a0_sizes, .ref a0_items, .ref a0_tape, .int va0_length, .int va0_at, .int va0_number, .ref a0_readIce, .int va0_readCells, .ref a0_readPeople, .int va0_readMany, .ref a0_readSayings, .int va0_readSaid, .ref a0_line, .ref a0_bestLine, .int va0_bestFar, .int va0_bestIce, .ref a0_seen, .ref a0_held]), (a0_row, aI E 525 va0_row), (a0_lanes, aI E 4 va0_lanes), (a0_sizes, aI E 4 va0_sizes), (a0_items, aJ E 96 va0_items)]) dX8_film_47 lkX8_47 rfl ⟨rfl, rfl⟩ ⟨by decide, by decide⟩ rfl rfl rfl (Nat.le_of_ble_eq_true rfl) rfl rfl rfl ?_
          refine g_st (st' := [.int o11]) rfl ?_
          refine g_if_ne k (tgt := 55) dX8_film_50 (by decide) (fun c13 => ?_) (fun c13 => ?_)
          · replace hf := ite_f c13 hf
            refine g_aload_n k 0 dX8_film_55 rfl rfl ?_
            refine g_iload_n k 3 dX8_film_56 rfl rfl ?_
            refine g_iload k 4 dX8_film_57 rfl ?_
            refine g_iload k 5 dX8_film_59 rfl ?_
            refine g_iload_n k 2 dX8_film_61 rfl rfl ?_
            obtain ⟨o14, ho15, hf⟩ := bnd_some hf
            refine g_cv k miX8_noSheet mvX8_noSheet (ctX8_noSheet (kL K) E N a0 a0_row a0_lanes a0_sizes a0_items a0_tape a0_readIce a0_readPeople a0_readSayings a0_line a0_bestLine a0_seen a0_held va0_isKept va0_length va0_at va0_number va0_readCells va0_readMany va0_readSaid va0_bestFar va0_bestIce va0_lanes va0_sizes x3 x4 x5 x2 o14 ho15) [0, 2, 3] 0 (ws' := [(a0, oB 8 [.ref a0_row, .int va0_isKept, .ref a0_lanes, .ref a0_sizes, .ref a0_items, .ref a0_tape, .int va0_length, .int va0_at, .int va0_number, .ref a0_readIce, .int va0_readCells, .ref a0_readPeople, .int va0_readMany, .ref a0_readSayings, .int va0_readSaid, .ref a0_line, .ref a0_bestLine, .int va0_bestFar, .int va0_bestIce, .ref a0_seen, .ref a0_held]), (a0_row, aI E 525 va0_row), (a0_lanes, aI E 4 va0_lanes), (a0_sizes, aI E 4 va0_sizes), (a0_items, aJ E 96 va0_items)]) dX8_film_62 lkX8_259 rfl ⟨rfl, rfl⟩ ⟨by decide, by decide⟩ rfl rfl rfl rfl (Nat.le_of_ble_eq_true rfl) rfl rfl rfl ?_
            refine g_st (st' := [.int o14]) rfl ?_
            refine g_istore k (lv' := [(6, .int o14), (0, .ref a0), (1, .int x1), (2, .int x2), (3, .int x3), (4, .int x4), (5, .int x5)]) dX8_film_65 (by decide) rfl ?_
            refine g_iload k 0 dX8_film_67 rfl ?_
            refine g_if_eq k (tgt := 75) dX8_film_69 (by decide) (fun c16 => ?_) (fun c16 => ?_)
            · replace hf := ite_t c16 hf
              refine g_iconst k dX8_film_75 ic_0 ?_
              refine g_istore k (lv' := [(7, .int 0), (6, .int o14), (0, .ref a0), (1, .int x1), (2, .int x2), (3, .int x3), (4, .int x4), (5, .int x5)]) dX8_film_76 (by decide) rfl ?_
              obtain ⟨o20, ho21, hf⟩ := bnd_some hf
              refine g_lv [2, 3, 4, 5, 6, 7, 1, 0] (lv' := [(0, .ref a0), (1, .int x1), (2, .int x2), (3, .int x3), (4, .int x4), (5, .int x5), (6, .int o14), (7, .int 0)]) rfl ?_
              refine wX8_film_L78 k N a0 a0_row a0_lanes a0_sizes a0_items a0_tape a0_readIce a0_readPeople a0_readSayings a0_line a0_bestLine a0_seen a0_held  x1 x2 x3 x4 x5 o14 va0_row va0_isKept va0_length va0_at va0_number va0_readCells va0_readMany va0_readSaid va0_bestFar va0_bestIce va0_lanes va0_sizes N 0 va0_items o20 ho21 ?_
              refine g_iload_n k 2 dX8_film_117 rfl rfl ?_
              obtain rfl := Option.some.inj hf
              exact g_iret k r dX8_film_118 ⟨rfl, rfl⟩
            · replace hf := ite_f c16 hf
              refine g_iload k 0 dX8_film_72 rfl ?_
              obtain rfl := Option.some.inj hf
              exact g_iret k r dX8_film_74 ⟨rfl, rfl⟩
          · replace hf := ite_t c13 hf
            refine g_iconst k dX8_film_53 ic_m1 ?_
            obtain rfl := Option.some.inj hf
            exact g_iret k r dX8_film_54 ⟨rfl, rfl⟩
abbrev rmX8_sheet : Room := { frames := 2, cells := 0, slots := 0, locals := 45 }
def fX8_sheet_L51 (N : Nat) (x1 : Int32) (x2 : Int32) (x3 : Int32) : Nat → Int32 → (Nat → Int64) → Option (Int32 × (Nat → Int64))
  | 0, _, _ => none
  | n + 1, x4, va0_items =>
    if x3 ≤ x4 then
    some (x4, va0_items)
    else
    ixb ((24 * x1) + x4) 96 fun κ12 =>
    fX8_sheet_L51 N x1 x2 x3 n (x4 + 1) (vp_updL va0_items κ12 0)
set_option maxHeartbeats 4000000 in
set_option maxRecDepth 100000 in
theorem wX8_sheet_L51 {E : Ev} {K : KX} (k : OKX E K cX8_sheet RX8 5 rmX8_sheet) (N : Nat) (a0 : Nat) (a0_row : Nat) (a0_lanes : Nat) (a0_sizes : Nat) (a0_items : Nat) (a0_tape : Nat) (a0_readIce : Nat) (a0_readPeople : Nat) (a0_readSayings : Nat) (a0_line : Nat) (a0_bestLine : Nat) (a0_seen : Nat) (a0_held : Nat) (x1 : Int32) (x2 : Int32) (x3 : Int32) (va0_isKept : Int32) (va0_length : Int32) (va0_at : Int32) (va0_number : Int32) (va0_readCells : Int32) (va0_readMany : Int32) (va0_readSaid : Int32) (va0_bestFar : Int32) (va0_bestIce : Int32) (va0_lanes : Nat → Int32) (va0_sizes : Nat → Int32) : ∀ (n : Nat) (x4 : Int32) (va0_items : Nat → Int64) (o : Int32 × (Nat → Int64)), fX8_sheet_L51 N x1 x2 x3 n x4 va0_items = some o → G E K 5 0 0 [(0, .ref a0), (1, .int x1), (2, .int x2), (3, .int x3), (4, .int o.1)] [] [(a0, oB 8 [.ref a0_row, .int va0_isKept, .ref a0_lanes, .ref a0_sizes, .ref a0_items, .ref a0_tape, .int va0_length, .int va0_at, .int va0_number, .ref a0_readIce, .int va0_readCells, .ref a0_readPeople, .int va0_readMany, .ref a0_readSayings, .int va0_readSaid, .ref a0_line, .ref a0_bestLine, .int va0_bestFar, .int va0_bestIce, .ref a0_seen, .ref a0_held]), (a0_lanes, aI E 4 va0_lanes), (a0_sizes, aI E 4 va0_sizes), (a0_items, aJ E 96 o.2)] 76 → G E K 5 0 0 [(0, .ref a0), (1, .int x1), (2, .int x2), (3, .int x3), (4, .int x4)] [] [(a0, oB 8 [.ref a0_row, .int va0_isKept, .ref a0_lanes, .ref a0_sizes, .ref a0_items, .ref a0_tape, .int va0_length, .int va0_at, .int va0_number, .ref a0_readIce, .int va0_readCells, .ref a0_readPeople, .int va0_readMany, .ref a0_readSayings, .int va0_readSaid, .ref a0_line, .ref a0_bestLine, .int va0_bestFar, .int va0_bestIce, .ref a0_seen, .ref a0_held]), (a0_lanes, aI E 4 va0_lanes), (a0_sizes, aI E 4 va0_sizes), (a0_items, aJ E 96 va0_items)] 51 := by
  intro n
  induction n with
  | zero => intro x4 va0_items o hf; cases hf
  | succ n ih =>
    intro x4 va0_items o hf hG
    rw [fX8_sheet_L51] at hf
    refine g_iload k 4 dX8_sheet_51 rfl ?_
    refine g_iload_n k 3 dX8_sheet_53 rfl rfl ?_
    refine g_icmp_ge k (tgt := 76) dX8_sheet_54 (by decide) (fun c11 => ?_) (fun c11 => ?_)
    · replace hf := ite_t c11 hf
      refine g_lv [0, 1, 2, 3, 4] rfl ?_
      obtain rfl := Option.some.inj hf
      exact hG
    · replace hf := ite_f c11 hf
      refine g_aload_n k 0 dX8_sheet_57 rfl rfl ?_
      refine g_get k cfX8 4 0 dX8_sheet_58 lkX8_19 (by decide) rfl rfl ?_
      refine g_bipush k dX8_sheet_61 bi_24 ?_
      refine g_iload_n k 1 dX8_sheet_63 rfl rfl ?_
      refine g_imul k dX8_sheet_64 ?_
      refine g_iload k 4 dX8_sheet_65 rfl ?_
      refine g_iadd k dX8_sheet_67 ?_
      refine g_lconst k dX8_sheet_68 lc_0 ?_
      obtain ⟨κ12, hκ12, hiκ12, heκ12, hf⟩ := ixb_some hf
      refine g_lastore k 3 (ws' := [(a0, oB 8 [.ref a0_row, .int va0_isKept, .ref a0_lanes, .ref a0_sizes, .ref a0_items, .ref a0_tape, .int va0_length, .int va0_at, .int va0_number, .ref a0_readIce, .int va0_readCells, .ref a0_readPeople, .int va0_readMany, .ref a0_readSayings, .int va0_readSaid, .ref a0_line, .ref a0_bestLine, .int va0_bestFar, .int va0_bestIce, .ref a0_seen, .ref a0_held]), (a0_lanes, aI E 4 va0_lanes), (a0_sizes, aI E 4 va0_sizes), (a0_items, aJ E 96 (vp_updL va0_items κ12 0))]) dX8_sheet_69 rfl hiκ12 heκ12 rfl ?_
      refine g_iinc k (lv' := [(4, .int (x4 + 1)), (0, .ref a0), (1, .int x1), (2, .int x2), (3, .int x3)]) 4 dX8_sheet_70 rfl (ii_1 _) (by decide) rfl ?_
      refine g_goto k (tgt := 51) dX8_sheet_73 (by decide) ?_
      refine g_lv [1, 2, 3, 4, 0] rfl ?_
      exact ih (x4 + 1) (vp_updL va0_items κ12 0) o hf hG
def fX8_sheet (N : Nat) (va0_lanes : Nat → Int32) (va0_sizes : Nat → Int32) (va0_items : Nat → Int64) (x1 : Int32) (x2 : Int32) (x3 : Int32) : Option (Int32 × (Nat → Int32) × (Nat → Int32) × (Nat → Int64)) :=
  bnd (fX8_isSheet N x1) fun o1 =>
  if o1 = 0 then
  some ((-1), va0_lanes, va0_sizes, va0_items)
  else
  bnd (fX8_in N x2.toInt64 0 3) fun o4 =>
  if o4 = 0 then
  some ((-1), va0_lanes, va0_sizes, va0_items)
  else
  if x3 ≤ 24 then
  if 0 ≤ x3 then
  ixb x1 4 fun κ9 =>
  ixb x1 4 fun κ10 =>
  bnd (fX8_sheet_L51 N x1 x2 x3 N 0 va0_items) fun o13 =>
  some (x3, (upd va0_lanes κ9 x2), (upd va0_sizes κ10 x3), o13.2)
  else
  some ((-14), va0_lanes, va0_sizes, va0_items)
  else
  some ((-1), va0_lanes, va0_sizes, va0_items)
set_option maxHeartbeats 4000000 in
set_option maxRecDepth 100000 in
theorem ctX8_sheet (l : Launch) (E : Ev) (N : Nat) (a0 : Nat) (a0_row : Nat) (a0_lanes : Nat) (a0_sizes : Nat) (a0_items : Nat) (a0_tape : Nat) (a0_readIce : Nat) (a0_readPeople : Nat) (a0_readSayings : Nat) (a0_line : Nat) (a0_bestLine : Nat) (a0_seen : Nat) (a0_held : Nat) (va0_isKept : Int32) (va0_length : Int32) (va0_at : Int32) (va0_number : Int32) (va0_readCells : Int32) (va0_readMany : Int32) (va0_readSaid : Int32) (va0_bestFar : Int32) (va0_bestIce : Int32) (va0_lanes : Nat → Int32) (va0_sizes : Nat → Int32) (va0_items : Nat → Int64) (x1 : Int32) (x2 : Int32) (x3 : Int32) (out : Int32 × (Nat → Int32) × (Nat → Int32) × (Nat → Int64)) (hf : fX8_sheet N va0_lanes va0_sizes va0_items x1 x2 x3 = some out) : Ct l E yX8_sheet cX8_sheet 5 (some .int) rmX8_sheet [.ref a0, .int x1, .int x2, .int x3] [(a0, oB 8 [.ref a0_row, .int va0_isKept, .ref a0_lanes, .ref a0_sizes, .ref a0_items, .ref a0_tape, .int va0_length, .int va0_at, .int va0_number, .ref a0_readIce, .int va0_readCells, .ref a0_readPeople, .int va0_readMany, .ref a0_readSayings, .int va0_readSaid, .ref a0_line, .ref a0_bestLine, .int va0_bestFar, .int va0_bestIce, .ref a0_seen, .ref a0_held]), (a0_lanes, aI E 4 va0_lanes), (a0_sizes, aI E 4 va0_sizes), (a0_items, aJ E 96 va0_items)] (Pe (some (.int out.1)) [(a0, oB 8 [.ref a0_row, .int va0_isKept, .ref a0_lanes, .ref a0_sizes, .ref a0_items, .ref a0_tape, .int va0_length, .int va0_at, .int va0_number, .ref a0_readIce, .int va0_readCells, .ref a0_readPeople, .int va0_readMany, .ref a0_readSayings, .int va0_readSaid, .ref a0_line, .ref a0_bestLine, .int va0_bestFar, .int va0_bestIce, .ref a0_seen, .ref a0_held]), (a0_lanes, aI E 4 out.2.1), (a0_sizes, aI E 4 out.2.2.1), (a0_items, aJ E 96 out.2.2.2)]) := by
  refine Ct.of rfl (Nat.le_of_ble_eq_true rfl) (fun K hL k r hin => ?_)
  subst hL
  unfold fX8_sheet at hf
  show G E K 5 0 0 [(0, .ref a0), (1, .int x1), (2, .int x2), (3, .int x3)] [] [(a0, oB 8 [.ref a0_row, .int va0_isKept, .ref a0_lanes, .ref a0_sizes, .ref a0_items, .ref a0_tape, .int va0_length, .int va0_at, .int va0_number, .ref a0_readIce, .int va0_readCells, .ref a0_readPeople, .int va0_readMany, .ref a0_readSayings, .int va0_readSaid, .ref a0_line, .ref a0_bestLine, .int va0_bestFar, .int va0_bestIce, .ref a0_seen, .ref a0_held]), (a0_lanes, aI E 4 va0_lanes), (a0_sizes, aI E 4 va0_sizes), (a0_items, aJ E 96 va0_items)] 0
  refine g_iload_n k 1 dX8_sheet_0 rfl rfl ?_
  obtain ⟨o1, ho2, hf⟩ := bnd_some hf
  refine g_cs k miX8_isSheet msX8_isSheet (ctX8_isSheet (kL K) E N   x1 o1 ho2) [] (ws' := [(a0, oB 8 [.ref a0_row, .int va0_isKept, .ref a0_lanes, .ref a0_sizes, .ref a0_items, .ref a0_tape, .int va0_length, .int va0_at, .int va0_number, .ref a0_readIce, .int va0_readCells, .ref a0_readPeople, .int va0_readMany, .ref a0_readSayings, .int va0_readSaid, .ref a0_line, .ref a0_bestLine, .int va0_bestFar, .int va0_bestIce, .ref a0_seen, .ref a0_held]), (a0_lanes, aI E 4 va0_lanes), (a0_sizes, aI E 4 va0_sizes), (a0_items, aJ E 96 va0_items)]) dX8_sheet_1 lkX8_254 rfl ⟨rfl, rfl⟩ ⟨by decide, by decide⟩ rfl rfl rfl (Nat.le_of_ble_eq_true rfl) rfl rfl rfl ?_
  refine g_st (st' := [.int o1]) rfl ?_
  refine g_if_eq k (tgt := 25) dX8_sheet_4 (by decide) (fun c3 => ?_) (fun c3 => ?_)
  · replace hf := ite_t c3 hf
    refine g_iconst k dX8_sheet_25 ic_m1 ?_
    obtain rfl := Option.some.inj hf
    exact g_iret k r dX8_sheet_26 ⟨rfl, rfl⟩
  · replace hf := ite_f c3 hf
    refine g_iload_n k 2 dX8_sheet_7 rfl rfl ?_
    refine g_i2l k dX8_sheet_8 ?_
    refine g_lconst k dX8_sheet_9 lc_0 ?_
    refine g_ldc2 k dX8_sheet_10 lkX8_248 ?_
    obtain ⟨o4, ho5, hf⟩ := bnd_some hf
    refine g_cs k miX8_in msX8_in (ctX8_in (kL K) E N   x2.toInt64 0 3 o4 ho5) [] (ws' := [(a0, oB 8 [.ref a0_row, .int va0_isKept, .ref a0_lanes, .ref a0_sizes, .ref a0_items, .ref a0_tape, .int va0_length, .int va0_at, .int va0_number, .ref a0_readIce, .int va0_readCells, .ref a0_readPeople, .int va0_readMany, .ref a0_readSayings, .int va0_readSaid, .ref a0_line, .ref a0_bestLine, .int va0_bestFar, .int va0_bestIce, .ref a0_seen, .ref a0_held]), (a0_lanes, aI E 4 va0_lanes), (a0_sizes, aI E 4 va0_sizes), (a0_items, aJ E 96 va0_items)]) dX8_sheet_13 lkX8_47 rfl ⟨rfl, rfl⟩ ⟨by decide, by decide⟩ rfl rfl rfl (Nat.le_of_ble_eq_true rfl) rfl rfl rfl ?_
    refine g_st (st' := [.int o4]) rfl ?_
    refine g_if_eq k (tgt := 25) dX8_sheet_16 (by decide) (fun c6 => ?_) (fun c6 => ?_)
    · replace hf := ite_t c6 hf
      refine g_iconst k dX8_sheet_25 ic_m1 ?_
      obtain rfl := Option.some.inj hf
      exact g_iret k r dX8_sheet_26 ⟨rfl, rfl⟩
    · replace hf := ite_f c6 hf
      refine g_iload_n k 3 dX8_sheet_19 rfl rfl ?_
      refine g_bipush k dX8_sheet_20 bi_24 ?_
      refine g_icmp_le k (tgt := 27) dX8_sheet_22 (by decide) (fun c7 => ?_) (fun c7 => ?_)
      · replace hf := ite_t c7 hf
        refine g_iload_n k 3 dX8_sheet_27 rfl rfl ?_
        refine g_if_ge k (tgt := 34) dX8_sheet_28 (by decide) (fun c8 => ?_) (fun c8 => ?_)
        · replace hf := ite_t c8 hf
          refine g_aload_n k 0 dX8_sheet_34 rfl rfl ?_
          refine g_get k cfX8 2 0 dX8_sheet_35 lkX8_13 (by decide) rfl rfl ?_
          refine g_iload_n k 1 dX8_sheet_38 rfl rfl ?_
          refine g_iload_n k 2 dX8_sheet_39 rfl rfl ?_
          obtain ⟨κ9, hκ9, hiκ9, heκ9, hf⟩ := ixb_some hf
          refine g_iastore k 1 (ws' := [(a0, oB 8 [.ref a0_row, .int va0_isKept, .ref a0_lanes, .ref a0_sizes, .ref a0_items, .ref a0_tape, .int va0_length, .int va0_at, .int va0_number, .ref a0_readIce, .int va0_readCells, .ref a0_readPeople, .int va0_readMany, .ref a0_readSayings, .int va0_readSaid, .ref a0_line, .ref a0_bestLine, .int va0_bestFar, .int va0_bestIce, .ref a0_seen, .ref a0_held]), (a0_lanes, aI E 4 (upd va0_lanes κ9 x2)), (a0_sizes, aI E 4 va0_sizes), (a0_items, aJ E 96 va0_items)]) dX8_sheet_40 rfl hiκ9 heκ9 rfl ?_
          refine g_aload_n k 0 dX8_sheet_41 rfl rfl ?_
          refine g_get k cfX8 3 0 dX8_sheet_42 lkX8_16 (by decide) rfl rfl ?_
          refine g_iload_n k 1 dX8_sheet_45 rfl rfl ?_
          refine g_iload_n k 3 dX8_sheet_46 rfl rfl ?_
          obtain ⟨κ10, hκ10, hiκ10, heκ10, hf⟩ := ixb_some hf
          refine g_iastore k 2 (ws' := [(a0, oB 8 [.ref a0_row, .int va0_isKept, .ref a0_lanes, .ref a0_sizes, .ref a0_items, .ref a0_tape, .int va0_length, .int va0_at, .int va0_number, .ref a0_readIce, .int va0_readCells, .ref a0_readPeople, .int va0_readMany, .ref a0_readSayings, .int va0_readSaid, .ref a0_line, .ref a0_bestLine, .int va0_bestFar, .int va0_bestIce, .ref a0_seen, .ref a0_held]), (a0_lanes, aI E 4 (upd va0_lanes κ9 x2)), (a0_sizes, aI E 4 (upd va0_sizes κ10 x3)), (a0_items, aJ E 96 va0_items)]) dX8_sheet_47 rfl hiκ10 heκ10 rfl ?_
          refine g_iconst k dX8_sheet_48 ic_0 ?_
          refine g_istore k (lv' := [(4, .int 0), (0, .ref a0), (1, .int x1), (2, .int x2), (3, .int x3)]) dX8_sheet_49 (by decide) rfl ?_
          obtain ⟨o13, ho14, hf⟩ := bnd_some hf
          refine g_lv [1, 2, 3, 4, 0] (lv' := [(0, .ref a0), (1, .int x1), (2, .int x2), (3, .int x3), (4, .int 0)]) rfl ?_
          refine wX8_sheet_L51 k N a0 a0_row a0_lanes a0_sizes a0_items a0_tape a0_readIce a0_readPeople a0_readSayings a0_line a0_bestLine a0_seen a0_held  x1 x2 x3 va0_isKept va0_length va0_at va0_number va0_readCells va0_readMany va0_readSaid va0_bestFar va0_bestIce (upd va0_lanes κ9 x2) (upd va0_sizes κ10 x3) N 0 va0_items o13 ho14 ?_
          refine g_iload_n k 3 dX8_sheet_76 rfl rfl ?_
          obtain rfl := Option.some.inj hf
          exact g_iret k r dX8_sheet_77 ⟨rfl, rfl⟩
        · replace hf := ite_f c8 hf
          refine g_bipush k dX8_sheet_31 bi_m14 ?_
          obtain rfl := Option.some.inj hf
          exact g_iret k r dX8_sheet_33 ⟨rfl, rfl⟩
      · replace hf := ite_f c7 hf
        refine g_iconst k dX8_sheet_25 ic_m1 ?_
        obtain rfl := Option.some.inj hf
        exact g_iret k r dX8_sheet_26 ⟨rfl, rfl⟩
abbrev rmX8_drop : Room := { frames := 2, cells := 0, slots := 0, locals := 45 }
def fX8_drop (N : Nat) (va0_sizes : Nat → Int32) (x1 : Int32) : Option (Int32 × (Nat → Int32)) :=
  bnd (fX8_isSheet N x1) fun o1 =>
  if o1 = 0 then
  some ((-1), va0_sizes)
  else
  ixb x1 4 fun κ4 =>
  if 0 ≤ (va0_sizes κ4) then
  ixb x1 4 fun κ6 =>
  ixb x1 4 fun κ7 =>
  some ((va0_sizes κ6), (upd va0_sizes κ7 (-1)))
  else
  some ((-11), va0_sizes)
set_option maxHeartbeats 4000000 in
set_option maxRecDepth 100000 in
theorem ctX8_drop (l : Launch) (E : Ev) (N : Nat) (a0 : Nat) (a0_row : Nat) (a0_lanes : Nat) (a0_sizes : Nat) (a0_items : Nat) (a0_tape : Nat) (a0_readIce : Nat) (a0_readPeople : Nat) (a0_readSayings : Nat) (a0_line : Nat) (a0_bestLine : Nat) (a0_seen : Nat) (a0_held : Nat) (va0_isKept : Int32) (va0_length : Int32) (va0_at : Int32) (va0_number : Int32) (va0_readCells : Int32) (va0_readMany : Int32) (va0_readSaid : Int32) (va0_bestFar : Int32) (va0_bestIce : Int32) (va0_sizes : Nat → Int32) (x1 : Int32) (out : Int32 × (Nat → Int32)) (hf : fX8_drop N va0_sizes x1 = some out) : Ct l E yX8_drop cX8_drop 3 (some .int) rmX8_drop [.ref a0, .int x1] [(a0, oB 8 [.ref a0_row, .int va0_isKept, .ref a0_lanes, .ref a0_sizes, .ref a0_items, .ref a0_tape, .int va0_length, .int va0_at, .int va0_number, .ref a0_readIce, .int va0_readCells, .ref a0_readPeople, .int va0_readMany, .ref a0_readSayings, .int va0_readSaid, .ref a0_line, .ref a0_bestLine, .int va0_bestFar, .int va0_bestIce, .ref a0_seen, .ref a0_held]), (a0_sizes, aI E 4 va0_sizes)] (Pe (some (.int out.1)) [(a0, oB 8 [.ref a0_row, .int va0_isKept, .ref a0_lanes, .ref a0_sizes, .ref a0_items, .ref a0_tape, .int va0_length, .int va0_at, .int va0_number, .ref a0_readIce, .int va0_readCells, .ref a0_readPeople, .int va0_readMany, .ref a0_readSayings, .int va0_readSaid, .ref a0_line, .ref a0_bestLine, .int va0_bestFar, .int va0_bestIce, .ref a0_seen, .ref a0_held]), (a0_sizes, aI E 4 out.2)]) := by
  refine Ct.of rfl (Nat.le_of_ble_eq_true rfl) (fun K hL k r hin => ?_)
  subst hL
  unfold fX8_drop at hf
  show G E K 3 0 0 [(0, .ref a0), (1, .int x1)] [] [(a0, oB 8 [.ref a0_row, .int va0_isKept, .ref a0_lanes, .ref a0_sizes, .ref a0_items, .ref a0_tape, .int va0_length, .int va0_at, .int va0_number, .ref a0_readIce, .int va0_readCells, .ref a0_readPeople, .int va0_readMany, .ref a0_readSayings, .int va0_readSaid, .ref a0_line, .ref a0_bestLine, .int va0_bestFar, .int va0_bestIce, .ref a0_seen, .ref a0_held]), (a0_sizes, aI E 4 va0_sizes)] 0
  refine g_iload_n k 1 dX8_drop_0 rfl rfl ?_
  obtain ⟨o1, ho2, hf⟩ := bnd_some hf
  refine g_cs k miX8_isSheet msX8_isSheet (ctX8_isSheet (kL K) E N   x1 o1 ho2) [] (ws' := [(a0, oB 8 [.ref a0_row, .int va0_isKept, .ref a0_lanes, .ref a0_sizes, .ref a0_items, .ref a0_tape, .int va0_length, .int va0_at, .int va0_number, .ref a0_readIce, .int va0_readCells, .ref a0_readPeople, .int va0_readMany, .ref a0_readSayings, .int va0_readSaid, .ref a0_line, .ref a0_bestLine, .int va0_bestFar, .int va0_bestIce, .ref a0_seen, .ref a0_held]), (a0_sizes, aI E 4 va0_sizes)]) dX8_drop_1 lkX8_254 rfl ⟨rfl, rfl⟩ ⟨by decide, by decide⟩ rfl rfl rfl (Nat.le_of_ble_eq_true rfl) rfl rfl rfl ?_
  refine g_st (st' := [.int o1]) rfl ?_
  refine g_if_ne k (tgt := 9) dX8_drop_4 (by decide) (fun c3 => ?_) (fun c3 => ?_)
  · replace hf := ite_f c3 hf
    refine g_aload_n k 0 dX8_drop_9 rfl rfl ?_
    refine g_get k cfX8 3 0 dX8_drop_10 lkX8_16 (by decide) rfl rfl ?_
    refine g_iload_n k 1 dX8_drop_13 rfl rfl ?_
    obtain ⟨κ4, hκ4, hiκ4, heκ4, hf⟩ := ixb_some hf
    refine g_iaload k 1 dX8_drop_14 rfl hiκ4 heκ4 ?_
    refine g_if_ge k (tgt := 21) dX8_drop_15 (by decide) (fun c5 => ?_) (fun c5 => ?_)
    · replace hf := ite_t c5 hf
      refine g_aload_n k 0 dX8_drop_21 rfl rfl ?_
      refine g_get k cfX8 3 0 dX8_drop_22 lkX8_16 (by decide) rfl rfl ?_
      refine g_iload_n k 1 dX8_drop_25 rfl rfl ?_
      obtain ⟨κ6, hκ6, hiκ6, heκ6, hf⟩ := ixb_some hf
      refine g_iaload k 1 dX8_drop_26 rfl hiκ6 heκ6 ?_
      refine g_istore_n k (lv' := [(2, .int (va0_sizes κ6)), (0, .ref a0), (1, .int x1)]) dX8_drop_27 rfl (by decide) rfl ?_
      refine g_aload_n k 1 dX8_drop_28 rfl rfl ?_
      refine g_get k cfX8 3 0 dX8_drop_29 lkX8_16 (by decide) rfl rfl ?_
      refine g_iload_n k 2 dX8_drop_32 rfl rfl ?_
      refine g_iconst k dX8_drop_33 ic_m1 ?_
      obtain ⟨κ7, hκ7, hiκ7, heκ7, hf⟩ := ixb_some hf
      refine g_iastore k 1 (ws' := [(a0, oB 8 [.ref a0_row, .int va0_isKept, .ref a0_lanes, .ref a0_sizes, .ref a0_items, .ref a0_tape, .int va0_length, .int va0_at, .int va0_number, .ref a0_readIce, .int va0_readCells, .ref a0_readPeople, .int va0_readMany, .ref a0_readSayings, .int va0_readSaid, .ref a0_line, .ref a0_bestLine, .int va0_bestFar, .int va0_bestIce, .ref a0_seen, .ref a0_held]), (a0_sizes, aI E 4 (upd va0_sizes κ7 (-1)))]) dX8_drop_34 rfl hiκ7 heκ7 rfl ?_
      refine g_iload_n k 0 dX8_drop_35 rfl rfl ?_
      obtain rfl := Option.some.inj hf
      exact g_iret k r dX8_drop_36 ⟨rfl, rfl⟩
    · replace hf := ite_f c5 hf
      refine g_bipush k dX8_drop_18 bi_m11 ?_
      obtain rfl := Option.some.inj hf
      exact g_iret k r dX8_drop_20 ⟨rfl, rfl⟩
  · replace hf := ite_t c3 hf
    refine g_iconst k dX8_drop_7 ic_m1 ?_
    obtain rfl := Option.some.inj hf
    exact g_iret k r dX8_drop_8 ⟨rfl, rfl⟩
abbrev rmX8_item : Room := { frames := 2, cells := 0, slots := 0, locals := 47 }
def fX8_item (N : Nat) (va0_lanes : Nat → Int32) (va0_sizes : Nat → Int32) (va0_items : Nat → Int64) (x1 : Int32) (x2 : Int32) (x3 : Int32) (x4 : Int64) : Option (Int32 × (Nat → Int64)) :=
  bnd (fX8_isSheet N x1) fun o1 =>
  if o1 = 0 then
  some ((-1), va0_items)
  else
  bnd (fX8_in N x2.toInt64 0 3) fun o4 =>
  if o4 = 0 then
  some ((-1), va0_items)
  else
  bnd (fX8_noSheet N va0_lanes va0_sizes x1 x2 x3 1) fun o7 =>
  if o7 = 0 then
  bnd (fX8_cut N x2 x4) fun o10 =>
  ixb ((24 * x1) + x3) 96 fun κ12 =>
  some (1, (vp_updL va0_items κ12 o10))
  else
  some (o7, va0_items)
set_option maxHeartbeats 4000000 in
set_option maxRecDepth 100000 in
theorem ctX8_item (l : Launch) (E : Ev) (N : Nat) (a0 : Nat) (a0_row : Nat) (a0_lanes : Nat) (a0_sizes : Nat) (a0_items : Nat) (a0_tape : Nat) (a0_readIce : Nat) (a0_readPeople : Nat) (a0_readSayings : Nat) (a0_line : Nat) (a0_bestLine : Nat) (a0_seen : Nat) (a0_held : Nat) (va0_isKept : Int32) (va0_length : Int32) (va0_at : Int32) (va0_number : Int32) (va0_readCells : Int32) (va0_readMany : Int32) (va0_readSaid : Int32) (va0_bestFar : Int32) (va0_bestIce : Int32) (va0_lanes : Nat → Int32) (va0_sizes : Nat → Int32) (va0_items : Nat → Int64) (x1 : Int32) (x2 : Int32) (x3 : Int32) (x4 : Int64) (out : Int32 × (Nat → Int64)) (hf : fX8_item N va0_lanes va0_sizes va0_items x1 x2 x3 x4 = some out) : Ct l E yX8_item cX8_item 7 (some .int) rmX8_item [.ref a0, .int x1, .int x2, .int x3, .long x4] [(a0, oB 8 [.ref a0_row, .int va0_isKept, .ref a0_lanes, .ref a0_sizes, .ref a0_items, .ref a0_tape, .int va0_length, .int va0_at, .int va0_number, .ref a0_readIce, .int va0_readCells, .ref a0_readPeople, .int va0_readMany, .ref a0_readSayings, .int va0_readSaid, .ref a0_line, .ref a0_bestLine, .int va0_bestFar, .int va0_bestIce, .ref a0_seen, .ref a0_held]), (a0_lanes, aI E 4 va0_lanes), (a0_sizes, aI E 4 va0_sizes), (a0_items, aJ E 96 va0_items)] (Pe (some (.int out.1)) [(a0, oB 8 [.ref a0_row, .int va0_isKept, .ref a0_lanes, .ref a0_sizes, .ref a0_items, .ref a0_tape, .int va0_length, .int va0_at, .int va0_number, .ref a0_readIce, .int va0_readCells, .ref a0_readPeople, .int va0_readMany, .ref a0_readSayings, .int va0_readSaid, .ref a0_line, .ref a0_bestLine, .int va0_bestFar, .int va0_bestIce, .ref a0_seen, .ref a0_held]), (a0_lanes, aI E 4 va0_lanes), (a0_sizes, aI E 4 va0_sizes), (a0_items, aJ E 96 out.2)]) := by
  refine Ct.of rfl (Nat.le_of_ble_eq_true rfl) (fun K hL k r hin => ?_)
  subst hL
  unfold fX8_item at hf
  show G E K 7 0 0 [(0, .ref a0), (1, .int x1), (2, .int x2), (3, .int x3), (4, .long x4)] [] [(a0, oB 8 [.ref a0_row, .int va0_isKept, .ref a0_lanes, .ref a0_sizes, .ref a0_items, .ref a0_tape, .int va0_length, .int va0_at, .int va0_number, .ref a0_readIce, .int va0_readCells, .ref a0_readPeople, .int va0_readMany, .ref a0_readSayings, .int va0_readSaid, .ref a0_line, .ref a0_bestLine, .int va0_bestFar, .int va0_bestIce, .ref a0_seen, .ref a0_held]), (a0_lanes, aI E 4 va0_lanes), (a0_sizes, aI E 4 va0_sizes), (a0_items, aJ E 96 va0_items)] 0
  refine g_iload_n k 1 dX8_item_0 rfl rfl ?_
  obtain ⟨o1, ho2, hf⟩ := bnd_some hf
  refine g_cs k miX8_isSheet msX8_isSheet (ctX8_isSheet (kL K) E N   x1 o1 ho2) [] (ws' := [(a0, oB 8 [.ref a0_row, .int va0_isKept, .ref a0_lanes, .ref a0_sizes, .ref a0_items, .ref a0_tape, .int va0_length, .int va0_at, .int va0_number, .ref a0_readIce, .int va0_readCells, .ref a0_readPeople, .int va0_readMany, .ref a0_readSayings, .int va0_readSaid, .ref a0_line, .ref a0_bestLine, .int va0_bestFar, .int va0_bestIce, .ref a0_seen, .ref a0_held]), (a0_lanes, aI E 4 va0_lanes), (a0_sizes, aI E 4 va0_sizes), (a0_items, aJ E 96 va0_items)]) dX8_item_1 lkX8_254 rfl ⟨rfl, rfl⟩ ⟨by decide, by decide⟩ rfl rfl rfl (Nat.le_of_ble_eq_true rfl) rfl rfl rfl ?_
  refine g_st (st' := [.int o1]) rfl ?_
  refine g_if_eq k (tgt := 19) dX8_item_4 (by decide) (fun c3 => ?_) (fun c3 => ?_)
  · replace hf := ite_t c3 hf
    refine g_iconst k dX8_item_19 ic_m1 ?_
    obtain rfl := Option.some.inj hf
    exact g_iret k r dX8_item_20 ⟨rfl, rfl⟩
  · replace hf := ite_f c3 hf
    refine g_iload_n k 2 dX8_item_7 rfl rfl ?_
    refine g_i2l k dX8_item_8 ?_
    refine g_lconst k dX8_item_9 lc_0 ?_
    refine g_ldc2 k dX8_item_10 lkX8_248 ?_
    obtain ⟨o4, ho5, hf⟩ := bnd_some hf
    refine g_cs k miX8_in msX8_in (ctX8_in (kL K) E N   x2.toInt64 0 3 o4 ho5) [] (ws' := [(a0, oB 8 [.ref a0_row, .int va0_isKept, .ref a0_lanes, .ref a0_sizes, .ref a0_items, .ref a0_tape, .int va0_length, .int va0_at, .int va0_number, .ref a0_readIce, .int va0_readCells, .ref a0_readPeople, .int va0_readMany, .ref a0_readSayings, .int va0_readSaid, .ref a0_line, .ref a0_bestLine, .int va0_bestFar, .int va0_bestIce, .ref a0_seen, .ref a0_held]), (a0_lanes, aI E 4 va0_lanes), (a0_sizes, aI E 4 va0_sizes), (a0_items, aJ E 96 va0_items)]) dX8_item_13 lkX8_47 rfl ⟨rfl, rfl⟩ ⟨by decide, by decide⟩ rfl rfl rfl (Nat.le_of_ble_eq_true rfl) rfl rfl rfl ?_
    refine g_st (st' := [.int o4]) rfl ?_
    refine g_if_ne k (tgt := 21) dX8_item_16 (by decide) (fun c6 => ?_) (fun c6 => ?_)
    · replace hf := ite_f c6 hf
      refine g_aload_n k 0 dX8_item_21 rfl rfl ?_
      refine g_iload_n k 1 dX8_item_22 rfl rfl ?_
      refine g_iload_n k 2 dX8_item_23 rfl rfl ?_
      refine g_iload_n k 3 dX8_item_24 rfl rfl ?_
      refine g_iconst k dX8_item_25 ic_1 ?_
      obtain ⟨o7, ho8, hf⟩ := bnd_some hf
      refine g_cv k miX8_noSheet mvX8_noSheet (ctX8_noSheet (kL K) E N a0 a0_row a0_lanes a0_sizes a0_items a0_tape a0_readIce a0_readPeople a0_readSayings a0_line a0_bestLine a0_seen a0_held va0_isKept va0_length va0_at va0_number va0_readCells va0_readMany va0_readSaid va0_bestFar va0_bestIce va0_lanes va0_sizes x1 x2 x3 1 o7 ho8) [0, 1, 2] 0 (ws' := [(a0, oB 8 [.ref a0_row, .int va0_isKept, .ref a0_lanes, .ref a0_sizes, .ref a0_items, .ref a0_tape, .int va0_length, .int va0_at, .int va0_number, .ref a0_readIce, .int va0_readCells, .ref a0_readPeople, .int va0_readMany, .ref a0_readSayings, .int va0_readSaid, .ref a0_line, .ref a0_bestLine, .int va0_bestFar, .int va0_bestIce, .ref a0_seen, .ref a0_held]), (a0_lanes, aI E 4 va0_lanes), (a0_sizes, aI E 4 va0_sizes), (a0_items, aJ E 96 va0_items)]) dX8_item_26 lkX8_259 rfl ⟨rfl, rfl⟩ ⟨by decide, by decide⟩ rfl rfl rfl rfl (Nat.le_of_ble_eq_true rfl) rfl rfl rfl ?_
      refine g_st (st' := [.int o7]) rfl ?_
      refine g_istore k (lv' := [(6, .int o7), (0, .ref a0), (1, .int x1), (2, .int x2), (3, .int x3), (4, .long x4)]) dX8_item_29 (by decide) rfl ?_
      refine g_iload k 0 dX8_item_31 rfl ?_
      refine g_if_eq k (tgt := 39) dX8_item_33 (by decide) (fun c9 => ?_) (fun c9 => ?_)
      · replace hf := ite_t c9 hf
        refine g_aload_n k 1 dX8_item_39 rfl rfl ?_
        refine g_get k cfX8 4 0 dX8_item_40 lkX8_19 (by decide) rfl rfl ?_
        refine g_bipush k dX8_item_43 bi_24 ?_
        refine g_iload_n k 2 dX8_item_45 rfl rfl ?_
        refine g_imul k dX8_item_46 ?_
        refine g_iload_n k 4 dX8_item_47 rfl rfl ?_
        refine g_iadd k dX8_item_48 ?_
        refine g_iload_n k 3 dX8_item_49 rfl rfl ?_
        refine g_lload k 5 dX8_item_50 rfl ?_
        obtain ⟨o10, ho11, hf⟩ := bnd_some hf
        refine g_cs k miX8_cut msX8_cut (ctX8_cut (kL K) E N   x2 x4 o10 ho11) [] (ws' := [(a0, oB 8 [.ref a0_row, .int va0_isKept, .ref a0_lanes, .ref a0_sizes, .ref a0_items, .ref a0_tape, .int va0_length, .int va0_at, .int va0_number, .ref a0_readIce, .int va0_readCells, .ref a0_readPeople, .int va0_readMany, .ref a0_readSayings, .int va0_readSaid, .ref a0_line, .ref a0_bestLine, .int va0_bestFar, .int va0_bestIce, .ref a0_seen, .ref a0_held]), (a0_lanes, aI E 4 va0_lanes), (a0_sizes, aI E 4 va0_sizes), (a0_items, aJ E 96 va0_items)]) dX8_item_52 lkX8_268 rfl ⟨rfl, rfl⟩ ⟨by decide, by decide⟩ rfl rfl rfl (Nat.le_of_ble_eq_true rfl) rfl rfl rfl ?_
        refine g_st (st' := [.long o10, .int ((24 * x1) + x3), .ref a0_items]) rfl ?_
        obtain ⟨κ12, hκ12, hiκ12, heκ12, hf⟩ := ixb_some hf
        refine g_lastore k 3 (ws' := [(a0, oB 8 [.ref a0_row, .int va0_isKept, .ref a0_lanes, .ref a0_sizes, .ref a0_items, .ref a0_tape, .int va0_length, .int va0_at, .int va0_number, .ref a0_readIce, .int va0_readCells, .ref a0_readPeople, .int va0_readMany, .ref a0_readSayings, .int va0_readSaid, .ref a0_line, .ref a0_bestLine, .int va0_bestFar, .int va0_bestIce, .ref a0_seen, .ref a0_held]), (a0_lanes, aI E 4 va0_lanes), (a0_sizes, aI E 4 va0_sizes), (a0_items, aJ E 96 (vp_updL va0_items κ12 o10))]) dX8_item_55 rfl hiκ12 heκ12 rfl ?_
        refine g_iconst k dX8_item_56 ic_1 ?_
        obtain rfl := Option.some.inj hf
        exact g_iret k r dX8_item_57 ⟨rfl, rfl⟩
      · replace hf := ite_f c9 hf
        refine g_iload k 0 dX8_item_36 rfl ?_
        obtain rfl := Option.some.inj hf
        exact g_iret k r dX8_item_38 ⟨rfl, rfl⟩
    · replace hf := ite_t c6 hf
      refine g_iconst k dX8_item_19 ic_m1 ?_
      obtain rfl := Option.some.inj hf
      exact g_iret k r dX8_item_20 ⟨rfl, rfl⟩
abbrev rmX8_copy : Room := { frames := 2, cells := 0, slots := 0, locals := 45 }
def fX8_copy_L84 (N : Nat) (x1 : Int32) (x2 : Int32) (x3 : Int32) (x4 : Int32) (x5 : Int32) (va0_items : Nat → Int64) : Nat → Int32 → (Nat → Int64) → Option (Int32 × (Nat → Int64))
  | 0, _, _ => none
  | n + 1, x6, va0_held =>
    if x5 ≤ x6 then
    some (x6, va0_held)
    else
    ixb (((24 * x1) + x2) + x6) 96 fun κ21 =>
    ixb x6 24 fun κ22 =>
    fX8_copy_L84 N x1 x2 x3 x4 x5 va0_items n (x6 + 1) (vp_updL va0_held κ22 (va0_items κ21))
set_option maxHeartbeats 4000000 in
set_option maxRecDepth 100000 in
theorem wX8_copy_L84 {E : Ev} {K : KX} (k : OKX E K cX8_copy RX8 7 rmX8_copy) (N : Nat) (a0 : Nat) (a0_row : Nat) (a0_lanes : Nat) (a0_sizes : Nat) (a0_items : Nat) (a0_tape : Nat) (a0_readIce : Nat) (a0_readPeople : Nat) (a0_readSayings : Nat) (a0_line : Nat) (a0_bestLine : Nat) (a0_seen : Nat) (a0_held : Nat) (x1 : Int32) (x2 : Int32) (x3 : Int32) (x4 : Int32) (x5 : Int32) (va0_items : Nat → Int64) (va0_isKept : Int32) (va0_length : Int32) (va0_at : Int32) (va0_number : Int32) (va0_readCells : Int32) (va0_readMany : Int32) (va0_readSaid : Int32) (va0_bestFar : Int32) (va0_bestIce : Int32) (va0_lanes : Nat → Int32) (va0_sizes : Nat → Int32) : ∀ (n : Nat) (x6 : Int32) (va0_held : Nat → Int64) (o : Int32 × (Nat → Int64)), fX8_copy_L84 N x1 x2 x3 x4 x5 va0_items n x6 va0_held = some o → G E K 7 0 0 [(0, .ref a0), (1, .int x1), (2, .int x2), (3, .int x3), (4, .int x4), (5, .int x5), (6, .int o.1)] [] [(a0, oB 8 [.ref a0_row, .int va0_isKept, .ref a0_lanes, .ref a0_sizes, .ref a0_items, .ref a0_tape, .int va0_length, .int va0_at, .int va0_number, .ref a0_readIce, .int va0_readCells, .ref a0_readPeople, .int va0_readMany, .ref a0_readSayings, .int va0_readSaid, .ref a0_line, .ref a0_bestLine, .int va0_bestFar, .int va0_bestIce, .ref a0_seen, .ref a0_held]), (a0_lanes, aI E 4 va0_lanes), (a0_sizes, aI E 4 va0_sizes), (a0_items, aJ E 96 va0_items), (a0_held, aJ E 24 o.2)] 118 → G E K 7 0 0 [(0, .ref a0), (1, .int x1), (2, .int x2), (3, .int x3), (4, .int x4), (5, .int x5), (6, .int x6)] [] [(a0, oB 8 [.ref a0_row, .int va0_isKept, .ref a0_lanes, .ref a0_sizes, .ref a0_items, .ref a0_tape, .int va0_length, .int va0_at, .int va0_number, .ref a0_readIce, .int va0_readCells, .ref a0_readPeople, .int va0_readMany, .ref a0_readSayings, .int va0_readSaid, .ref a0_line, .ref a0_bestLine, .int va0_bestFar, .int va0_bestIce, .ref a0_seen, .ref a0_held]), (a0_lanes, aI E 4 va0_lanes), (a0_sizes, aI E 4 va0_sizes), (a0_items, aJ E 96 va0_items), (a0_held, aJ E 24 va0_held)] 84 := by
  intro n
  induction n with
  | zero => intro x6 va0_held o hf; cases hf
  | succ n ih =>
    intro x6 va0_held o hf hG
    rw [fX8_copy_L84] at hf
    refine g_iload k 6 dX8_copy_84 rfl ?_
    refine g_iload k 5 dX8_copy_86 rfl ?_
    refine g_icmp_ge k (tgt := 118) dX8_copy_88 (by decide) (fun c20 => ?_) (fun c20 => ?_)
    · replace hf := ite_t c20 hf
      refine g_lv [0, 1, 2, 3, 4, 5, 6] rfl ?_
      obtain rfl := Option.some.inj hf
      exact hG
    · replace hf := ite_f c20 hf
      refine g_aload_n k 0 dX8_copy_91 rfl rfl ?_
      refine g_get k cfX8 20 0 dX8_copy_92 lkX8_44 (by decide) rfl rfl ?_
      refine g_iload k 6 dX8_copy_95 rfl ?_
      refine g_aload_n k 0 dX8_copy_97 rfl rfl ?_
      refine g_get k cfX8 4 0 dX8_copy_98 lkX8_19 (by decide) rfl rfl ?_
      refine g_bipush k dX8_copy_101 bi_24 ?_
      refine g_iload_n k 1 dX8_copy_103 rfl rfl ?_
      refine g_imul k dX8_copy_104 ?_
      refine g_iload_n k 2 dX8_copy_105 rfl rfl ?_
      refine g_iadd k dX8_copy_106 ?_
      refine g_iload k 6 dX8_copy_107 rfl ?_
      refine g_iadd k dX8_copy_109 ?_
      obtain ⟨κ21, hκ21, hiκ21, heκ21, hf⟩ := ixb_some hf
      refine g_laload k 3 dX8_copy_110 rfl hiκ21 heκ21 ?_
      obtain ⟨κ22, hκ22, hiκ22, heκ22, hf⟩ := ixb_some hf
      refine g_lastore k 4 (ws' := [(a0, oB 8 [.ref a0_row, .int va0_isKept, .ref a0_lanes, .ref a0_sizes, .ref a0_items, .ref a0_tape, .int va0_length, .int va0_at, .int va0_number, .ref a0_readIce, .int va0_readCells, .ref a0_readPeople, .int va0_readMany, .ref a0_readSayings, .int va0_readSaid, .ref a0_line, .ref a0_bestLine, .int va0_bestFar, .int va0_bestIce, .ref a0_seen, .ref a0_held]), (a0_lanes, aI E 4 va0_lanes), (a0_sizes, aI E 4 va0_sizes), (a0_items, aJ E 96 va0_items), (a0_held, aJ E 24 (vp_updL va0_held κ22 (va0_items κ21)))]) dX8_copy_111 rfl hiκ22 heκ22 rfl ?_
      refine g_iinc k (lv' := [(6, .int (x6 + 1)), (0, .ref a0), (1, .int x1), (2, .int x2), (3, .int x3), (4, .int x4), (5, .int x5)]) 6 dX8_copy_112 rfl (ii_1 _) (by decide) rfl ?_
      refine g_goto k (tgt := 84) dX8_copy_115 (by decide) ?_
      refine g_lv [1, 2, 3, 4, 5, 6, 0] rfl ?_
      exact ih (x6 + 1) (vp_updL va0_held κ22 (va0_items κ21)) o hf hG
def fX8_copy_L121 (N : Nat) (x1 : Int32) (x2 : Int32) (x3 : Int32) (x4 : Int32) (x5 : Int32) (va0_held : Nat → Int64) : Nat → Int32 → (Nat → Int64) → Option (Int32 × (Nat → Int64))
  | 0, _, _ => none
  | n + 1, x6, va0_items =>
    if x5 ≤ x6 then
    some (x6, va0_items)
    else
    ixb x6 24 fun κ26 =>
    ixb (((24 * x3) + x4) + x6) 96 fun κ27 =>
    fX8_copy_L121 N x1 x2 x3 x4 x5 va0_held n (x6 + 1) (vp_updL va0_items κ27 (va0_held κ26))
set_option maxHeartbeats 4000000 in
set_option maxRecDepth 100000 in
theorem wX8_copy_L121 {E : Ev} {K : KX} (k : OKX E K cX8_copy RX8 7 rmX8_copy) (N : Nat) (a0 : Nat) (a0_row : Nat) (a0_lanes : Nat) (a0_sizes : Nat) (a0_items : Nat) (a0_tape : Nat) (a0_readIce : Nat) (a0_readPeople : Nat) (a0_readSayings : Nat) (a0_line : Nat) (a0_bestLine : Nat) (a0_seen : Nat) (a0_held : Nat) (x1 : Int32) (x2 : Int32) (x3 : Int32) (x4 : Int32) (x5 : Int32) (va0_held : Nat → Int64) (va0_isKept : Int32) (va0_length : Int32) (va0_at : Int32) (va0_number : Int32) (va0_readCells : Int32) (va0_readMany : Int32) (va0_readSaid : Int32) (va0_bestFar : Int32) (va0_bestIce : Int32) (va0_lanes : Nat → Int32) (va0_sizes : Nat → Int32) : ∀ (n : Nat) (x6 : Int32) (va0_items : Nat → Int64) (o : Int32 × (Nat → Int64)), fX8_copy_L121 N x1 x2 x3 x4 x5 va0_held n x6 va0_items = some o → G E K 7 0 0 [(0, .ref a0), (1, .int x1), (2, .int x2), (3, .int x3), (4, .int x4), (5, .int x5), (6, .int o.1)] [] [(a0, oB 8 [.ref a0_row, .int va0_isKept, .ref a0_lanes, .ref a0_sizes, .ref a0_items, .ref a0_tape, .int va0_length, .int va0_at, .int va0_number, .ref a0_readIce, .int va0_readCells, .ref a0_readPeople, .int va0_readMany, .ref a0_readSayings, .int va0_readSaid, .ref a0_line, .ref a0_bestLine, .int va0_bestFar, .int va0_bestIce, .ref a0_seen, .ref a0_held]), (a0_lanes, aI E 4 va0_lanes), (a0_sizes, aI E 4 va0_sizes), (a0_items, aJ E 96 o.2), (a0_held, aJ E 24 va0_held)] 156 → G E K 7 0 0 [(0, .ref a0), (1, .int x1), (2, .int x2), (3, .int x3), (4, .int x4), (5, .int x5), (6, .int x6)] [] [(a0, oB 8 [.ref a0_row, .int va0_isKept, .ref a0_lanes, .ref a0_sizes, .ref a0_items, .ref a0_tape, .int va0_length, .int va0_at, .int va0_number, .ref a0_readIce, .int va0_readCells, .ref a0_readPeople, .int va0_readMany, .ref a0_readSayings, .int va0_readSaid, .ref a0_line, .ref a0_bestLine, .int va0_bestFar, .int va0_bestIce, .ref a0_seen, .ref a0_held]), (a0_lanes, aI E 4 va0_lanes), (a0_sizes, aI E 4 va0_sizes), (a0_items, aJ E 96 va0_items), (a0_held, aJ E 24 va0_held)] 121 := by
  intro n
  induction n with
  | zero => intro x6 va0_items o hf; cases hf
  | succ n ih =>
    intro x6 va0_items o hf hG
    rw [fX8_copy_L121] at hf
    refine g_iload k 6 dX8_copy_121 rfl ?_
    refine g_iload k 5 dX8_copy_123 rfl ?_
    refine g_icmp_ge k (tgt := 156) dX8_copy_125 (by decide) (fun c25 => ?_) (fun c25 => ?_)
    · replace hf := ite_t c25 hf
      refine g_lv [0, 1, 2, 3, 4, 5, 6] rfl ?_
      obtain rfl := Option.some.inj hf
      exact hG
    · replace hf := ite_f c25 hf
      refine g_aload_n k 0 dX8_copy_128 rfl rfl ?_
      refine g_get k cfX8 4 0 dX8_copy_129 lkX8_19 (by decide) rfl rfl ?_
      refine g_bipush k dX8_copy_132 bi_24 ?_
      refine g_iload_n k 3 dX8_copy_134 rfl rfl ?_
      refine g_imul k dX8_copy_135 ?_
      refine g_iload k 4 dX8_copy_136 rfl ?_
      refine g_iadd k dX8_copy_138 ?_
      refine g_iload k 6 dX8_copy_139 rfl ?_
      refine g_iadd k dX8_copy_141 ?_
      refine g_aload_n k 0 dX8_copy_142 rfl rfl ?_
      refine g_get k cfX8 20 0 dX8_copy_143 lkX8_44 (by decide) rfl rfl ?_
      refine g_iload k 6 dX8_copy_146 rfl ?_
      obtain ⟨κ26, hκ26, hiκ26, heκ26, hf⟩ := ixb_some hf
      refine g_laload k 4 dX8_copy_148 rfl hiκ26 heκ26 ?_
      obtain ⟨κ27, hκ27, hiκ27, heκ27, hf⟩ := ixb_some hf
      refine g_lastore k 3 (ws' := [(a0, oB 8 [.ref a0_row, .int va0_isKept, .ref a0_lanes, .ref a0_sizes, .ref a0_items, .ref a0_tape, .int va0_length, .int va0_at, .int va0_number, .ref a0_readIce, .int va0_readCells, .ref a0_readPeople, .int va0_readMany, .ref a0_readSayings, .int va0_readSaid, .ref a0_line, .ref a0_bestLine, .int va0_bestFar, .int va0_bestIce, .ref a0_seen, .ref a0_held]), (a0_lanes, aI E 4 va0_lanes), (a0_sizes, aI E 4 va0_sizes), (a0_items, aJ E 96 (vp_updL va0_items κ27 (va0_held κ26))), (a0_held, aJ E 24 va0_held)]) dX8_copy_149 rfl hiκ27 heκ27 rfl ?_
      refine g_iinc k (lv' := [(6, .int (x6 + 1)), (0, .ref a0), (1, .int x1), (2, .int x2), (3, .int x3), (4, .int x4), (5, .int x5)]) 6 dX8_copy_150 rfl (ii_1 _) (by decide) rfl ?_
      refine g_goto k (tgt := 121) dX8_copy_153 (by decide) ?_
      refine g_lv [1, 2, 3, 4, 5, 6, 0] rfl ?_
      exact ih (x6 + 1) (vp_updL va0_items κ27 (va0_held κ26)) o hf hG
def fX8_copy (N : Nat) (va0_lanes : Nat → Int32) (va0_sizes : Nat → Int32) (va0_items : Nat → Int64) (va0_held : Nat → Int64) (x1 : Int32) (x2 : Int32) (x3 : Int32) (x4 : Int32) (x5 : Int32) : Option (Int32 × (Nat → Int64) × (Nat → Int64)) :=
  bnd (fX8_isSheet N x1) fun o1 =>
  if o1 = 0 then
  some ((-1), va0_items, va0_held)
  else
  bnd (fX8_isSheet N x3) fun o4 =>
  if o4 = 0 then
  some ((-1), va0_items, va0_held)
  else
  ixb x1 4 fun κ7 =>
  if (va0_sizes κ7) < 0 then
  some ((-11), va0_items, va0_held)
  else
  ixb x3 4 fun κ9 =>
  if 0 ≤ (va0_sizes κ9) then
  ixb x1 4 fun κ11 =>
  ixb x3 4 fun κ12 =>
  if (va0_lanes κ11) = (va0_lanes κ12) then
  bnd (fX8_isSpan N va0_sizes x1 x2 x5) fun o14 =>
  if o14 = 0 then
  some ((-13), va0_items, va0_held)
  else
  bnd (fX8_isSpan N va0_sizes x3 x4 x5) fun o17 =>
  if o17 = 0 then
  some ((-13), va0_items, va0_held)
  else
  bnd (fX8_copy_L84 N x1 x2 x3 x4 x5 va0_items N 0 va0_held) fun o23 =>
  bnd (fX8_copy_L121 N x1 x2 x3 x4 x5 o23.2 N 0 va0_items) fun o28 =>
  some (x5, o28.2, o23.2)
  else
  some ((-12), va0_items, va0_held)
  else
  some ((-11), va0_items, va0_held)
set_option maxHeartbeats 4000000 in
set_option maxRecDepth 100000 in
theorem ctX8_copy (l : Launch) (E : Ev) (N : Nat) (a0 : Nat) (a0_row : Nat) (a0_lanes : Nat) (a0_sizes : Nat) (a0_items : Nat) (a0_tape : Nat) (a0_readIce : Nat) (a0_readPeople : Nat) (a0_readSayings : Nat) (a0_line : Nat) (a0_bestLine : Nat) (a0_seen : Nat) (a0_held : Nat) (va0_isKept : Int32) (va0_length : Int32) (va0_at : Int32) (va0_number : Int32) (va0_readCells : Int32) (va0_readMany : Int32) (va0_readSaid : Int32) (va0_bestFar : Int32) (va0_bestIce : Int32) (va0_lanes : Nat → Int32) (va0_sizes : Nat → Int32) (va0_items : Nat → Int64) (va0_held : Nat → Int64) (x1 : Int32) (x2 : Int32) (x3 : Int32) (x4 : Int32) (x5 : Int32) (out : Int32 × (Nat → Int64) × (Nat → Int64)) (hf : fX8_copy N va0_lanes va0_sizes va0_items va0_held x1 x2 x3 x4 x5 = some out) : Ct l E yX8_copy cX8_copy 7 (some .int) rmX8_copy [.ref a0, .int x1, .int x2, .int x3, .int x4, .int x5] [(a0, oB 8 [.ref a0_row, .int va0_isKept, .ref a0_lanes, .ref a0_sizes, .ref a0_items, .ref a0_tape, .int va0_length, .int va0_at, .int va0_number, .ref a0_readIce, .int va0_readCells, .ref a0_readPeople, .int va0_readMany, .ref a0_readSayings, .int va0_readSaid, .ref a0_line, .ref a0_bestLine, .int va0_bestFar, .int va0_bestIce, .ref a0_seen, .ref a0_held]), (a0_lanes, aI E 4 va0_lanes), (a0_sizes, aI E 4 va0_sizes), (a0_items, aJ E 96 va0_items), (a0_held, aJ E 24 va0_held)] (Pe (some (.int out.1)) [(a0, oB 8 [.ref a0_row, .int va0_isKept, .ref a0_lanes, .ref a0_sizes, .ref a0_items, .ref a0_tape, .int va0_length, .int va0_at, .int va0_number, .ref a0_readIce, .int va0_readCells, .ref a0_readPeople, .int va0_readMany, .ref a0_readSayings, .int va0_readSaid, .ref a0_line, .ref a0_bestLine, .int va0_bestFar, .int va0_bestIce, .ref a0_seen, .ref a0_held]), (a0_lanes, aI E 4 va0_lanes), (a0_sizes, aI E 4 va0_sizes), (a0_items, aJ E 96 out.2.1), (a0_held, aJ E 24 out.2.2)]) := by
  refine Ct.of rfl (Nat.le_of_ble_eq_true rfl) (fun K hL k r hin => ?_)
  subst hL
  unfold fX8_copy at hf
  show G E K 7 0 0 [(0, .ref a0), (1, .int x1), (2, .int x2), (3, .int x3), (4, .int x4), (5, .int x5)] [] [(a0, oB 8 [.ref a0_row, .int va0_isKept, .ref a0_lanes, .ref a0_sizes, .ref a0_items, .ref a0_tape, .int va0_length, .int va0_at, .int va0_number, .ref a0_readIce, .int va0_readCells, .ref a0_readPeople, .int va0_readMany, .ref a0_readSayings, .int va0_readSaid, .ref a0_line, .ref a0_bestLine, .int va0_bestFar, .int va0_bestIce, .ref a0_seen, .ref a0_held]), (a0_lanes, aI E 4 va0_lanes), (a0_sizes, aI E 4 va0_sizes), (a0_items, aJ E 96 va0_items), (a0_held, aJ E 24 va0_held)] 0
  refine g_iload_n k 1 dX8_copy_0 rfl rfl ?_
  obtain ⟨o1, ho2, hf⟩ := bnd_some hf
  refine g_cs k miX8_isSheet msX8_isSheet (ctX8_isSheet (kL K) E N   x1 o1 ho2) [] (ws' := [(a0, oB 8 [.ref a0_row, .int va0_isKept, .ref a0_lanes, .ref a0_sizes, .ref a0_items, .ref a0_tape, .int va0_length, .int va0_at, .int va0_number, .ref a0_readIce, .int va0_readCells, .ref a0_readPeople, .int va0_readMany, .ref a0_readSayings, .int va0_readSaid, .ref a0_line, .ref a0_bestLine, .int va0_bestFar, .int va0_bestIce, .ref a0_seen, .ref a0_held]), (a0_lanes, aI E 4 va0_lanes), (a0_sizes, aI E 4 va0_sizes), (a0_items, aJ E 96 va0_items), (a0_held, aJ E 24 va0_held)]) dX8_copy_1 lkX8_254 rfl ⟨rfl, rfl⟩ ⟨by decide, by decide⟩ rfl rfl rfl (Nat.le_of_ble_eq_true rfl) rfl rfl rfl ?_
  refine g_st (st' := [.int o1]) rfl ?_
  refine g_if_eq k (tgt := 14) dX8_copy_4 (by decide) (fun c3 => ?_) (fun c3 => ?_)
  · replace hf := ite_t c3 hf
    refine g_iconst k dX8_copy_14 ic_m1 ?_
    obtain rfl := Option.some.inj hf
    exact g_iret k r dX8_copy_15 ⟨rfl, rfl⟩
  · replace hf := ite_f c3 hf
    refine g_iload_n k 3 dX8_copy_7 rfl rfl ?_
    obtain ⟨o4, ho5, hf⟩ := bnd_some hf
    refine g_cs k miX8_isSheet msX8_isSheet (ctX8_isSheet (kL K) E N   x3 o4 ho5) [] (ws' := [(a0, oB 8 [.ref a0_row, .int va0_isKept, .ref a0_lanes, .ref a0_sizes, .ref a0_items, .ref a0_tape, .int va0_length, .int va0_at, .int va0_number, .ref a0_readIce, .int va0_readCells, .ref a0_readPeople, .int va0_readMany, .ref a0_readSayings, .int va0_readSaid, .ref a0_line, .ref a0_bestLine, .int va0_bestFar, .int va0_bestIce, .ref a0_seen, .ref a0_held]), (a0_lanes, aI E 4 va0_lanes), (a0_sizes, aI E 4 va0_sizes), (a0_items, aJ E 96 va0_items), (a0_held, aJ E 24 va0_held)]) dX8_copy_8 lkX8_254 rfl ⟨rfl, rfl⟩ ⟨by decide, by decide⟩ rfl rfl rfl (Nat.le_of_ble_eq_true rfl) rfl rfl rfl ?_
    refine g_st (st' := [.int o4]) rfl ?_
    refine g_if_ne k (tgt := 16) dX8_copy_11 (by decide) (fun c6 => ?_) (fun c6 => ?_)
    · replace hf := ite_f c6 hf
      refine g_aload_n k 0 dX8_copy_16 rfl rfl ?_
      refine g_get k cfX8 3 0 dX8_copy_17 lkX8_16 (by decide) rfl rfl ?_
      refine g_iload_n k 1 dX8_copy_20 rfl rfl ?_
      obtain ⟨κ7, hκ7, hiκ7, heκ7, hf⟩ := ixb_some hf
      refine g_iaload k 2 dX8_copy_21 rfl hiκ7 heκ7 ?_
      refine g_if_lt k (tgt := 34) dX8_copy_22 (by decide) (fun c8 => ?_) (fun c8 => ?_)
      · replace hf := ite_t c8 hf
        refine g_bipush k dX8_copy_34 bi_m11 ?_
        obtain rfl := Option.some.inj hf
        exact g_iret k r dX8_copy_36 ⟨rfl, rfl⟩
      · replace hf := ite_f c8 hf
        refine g_aload_n k 0 dX8_copy_25 rfl rfl ?_
        refine g_get k cfX8 3 0 dX8_copy_26 lkX8_16 (by decide) rfl rfl ?_
        refine g_iload_n k 3 dX8_copy_29 rfl rfl ?_
        obtain ⟨κ9, hκ9, hiκ9, heκ9, hf⟩ := ixb_some hf
        refine g_iaload k 2 dX8_copy_30 rfl hiκ9 heκ9 ?_
        refine g_if_ge k (tgt := 37) dX8_copy_31 (by decide) (fun c10 => ?_) (fun c10 => ?_)
        · replace hf := ite_t c10 hf
          refine g_aload_n k 0 dX8_copy_37 rfl rfl ?_
          refine g_get k cfX8 2 0 dX8_copy_38 lkX8_13 (by decide) rfl rfl ?_
          refine g_iload_n k 1 dX8_copy_41 rfl rfl ?_
          obtain ⟨κ11, hκ11, hiκ11, heκ11, hf⟩ := ixb_some hf
          refine g_iaload k 1 dX8_copy_42 rfl hiκ11 heκ11 ?_
          refine g_aload_n k 0 dX8_copy_43 rfl rfl ?_
          refine g_get k cfX8 2 0 dX8_copy_44 lkX8_13 (by decide) rfl rfl ?_
          refine g_iload_n k 3 dX8_copy_47 rfl rfl ?_
          obtain ⟨κ12, hκ12, hiκ12, heκ12, hf⟩ := ixb_some hf
          refine g_iaload k 1 dX8_copy_48 rfl hiκ12 heκ12 ?_
          refine g_icmp_eq k (tgt := 55) dX8_copy_49 (by decide) (fun c13 => ?_) (fun c13 => ?_)
          · replace hf := ite_t c13 hf
            refine g_aload_n k 0 dX8_copy_55 rfl rfl ?_
            refine g_iload_n k 1 dX8_copy_56 rfl rfl ?_
            refine g_iload_n k 2 dX8_copy_57 rfl rfl ?_
            refine g_iload k 5 dX8_copy_58 rfl ?_
            obtain ⟨o14, ho15, hf⟩ := bnd_some hf
            refine g_cv k miX8_isSpan mvX8_isSpan (ctX8_isSpan (kL K) E N a0 a0_row a0_lanes a0_sizes a0_items a0_tape a0_readIce a0_readPeople a0_readSayings a0_line a0_bestLine a0_seen a0_held va0_isKept va0_length va0_at va0_number va0_readCells va0_readMany va0_readSaid va0_bestFar va0_bestIce va0_sizes x1 x2 x5 o14 ho15) [0, 2] 0 (ws' := [(a0, oB 8 [.ref a0_row, .int va0_isKept, .ref a0_lanes, .ref a0_sizes, .ref a0_items, .ref a0_tape, .int va0_length, .int va0_at, .int va0_number, .ref a0_readIce, .int va0_readCells, .ref a0_readPeople, .int va0_readMany, .ref a0_readSayings, .int va0_readSaid, .ref a0_line, .ref a0_bestLine, .int va0_bestFar, .int va0_bestIce, .ref a0_seen, .ref a0_held]), (a0_lanes, aI E 4 va0_lanes), (a0_sizes, aI E 4 va0_sizes), (a0_items, aJ E 96 va0_items), (a0_held, aJ E 24 va0_held)]) dX8_copy_60 lkX8_250 rfl ⟨rfl, rfl⟩ ⟨by decide, by decide⟩ rfl rfl rfl rfl (Nat.le_of_ble_eq_true rfl) rfl rfl rfl ?_
            refine g_st (st' := [.int o14]) rfl ?_
            refine g_if_eq k (tgt := 78) dX8_copy_63 (by decide) (fun c16 => ?_) (fun c16 => ?_)
            · replace hf := ite_t c16 hf
              refine g_bipush k dX8_copy_78 bi_m13 ?_
              obtain rfl := Option.some.inj hf
              exact g_iret k r dX8_copy_80 ⟨rfl, rfl⟩
            · replace hf := ite_f c16 hf
              refine g_aload_n k 0 dX8_copy_66 rfl rfl ?_
              refine g_iload_n k 3 dX8_copy_67 rfl rfl ?_
              refine g_iload k 4 dX8_copy_68 rfl ?_
              refine g_iload k 5 dX8_copy_70 rfl ?_
              obtain ⟨o17, ho18, hf⟩ := bnd_some hf
              refine g_cv k miX8_isSpan mvX8_isSpan (ctX8_isSpan (kL K) E N a0 a0_row a0_lanes a0_sizes a0_items a0_tape a0_readIce a0_readPeople a0_readSayings a0_line a0_bestLine a0_seen a0_held va0_isKept va0_length va0_at va0_number va0_readCells va0_readMany va0_readSaid va0_bestFar va0_bestIce va0_sizes x3 x4 x5 o17 ho18) [0, 2] 0 (ws' := [(a0, oB 8 [.ref a0_row, .int va0_isKept, .ref a0_lanes, .ref a0_sizes, .ref a0_items, .ref a0_tape, .int va0_length, .int va0_at, .int va0_number, .ref a0_readIce, .int va0_readCells, .ref a0_readPeople, .int va0_readMany, .ref a0_readSayings, .int va0_readSaid, .ref a0_line, .ref a0_bestLine, .int va0_bestFar, .int va0_bestIce, .ref a0_seen, .ref a0_held]), (a0_lanes, aI E 4 va0_lanes), (a0_sizes, aI E 4 va0_sizes), (a0_items, aJ E 96 va0_items), (a0_held, aJ E 24 va0_held)]) dX8_copy_72 lkX8_250 rfl ⟨rfl, rfl⟩ ⟨by decide, by decide⟩ rfl rfl rfl rfl (Nat.le_of_ble_eq_true rfl) rfl rfl rfl ?_
              refine g_st (st' := [.int o17]) rfl ?_
              refine g_if_ne k (tgt := 81) dX8_copy_75 (by decide) (fun c19 => ?_) (fun c19 => ?_)
              · replace hf := ite_f c19 hf
                refine g_iconst k dX8_copy_81 ic_0 ?_
                refine g_istore k (lv' := [(6, .int 0), (0, .ref a0), (1, .int x1), (2, .int x2), (3, .int x3), (4, .int x4), (5, .int x5)]) dX8_copy_82 (by decide) rfl ?_
                obtain ⟨o23, ho24, hf⟩ := bnd_some hf
                refine g_lv [1, 2, 3, 4, 5, 6, 0] (lv' := [(0, .ref a0), (1, .int x1), (2, .int x2), (3, .int x3), (4, .int x4), (5, .int x5), (6, .int 0)]) rfl ?_
                refine wX8_copy_L84 k N a0 a0_row a0_lanes a0_sizes a0_items a0_tape a0_readIce a0_readPeople a0_readSayings a0_line a0_bestLine a0_seen a0_held  x1 x2 x3 x4 x5 va0_items va0_isKept va0_length va0_at va0_number va0_readCells va0_readMany va0_readSaid va0_bestFar va0_bestIce va0_lanes va0_sizes N 0 va0_held o23 ho24 ?_
                refine g_iconst k dX8_copy_118 ic_0 ?_
                refine g_istore k (lv' := [(6, .int 0), (0, .ref a0), (1, .int x1), (2, .int x2), (3, .int x3), (4, .int x4), (5, .int x5)]) dX8_copy_119 (by decide) rfl ?_
                obtain ⟨o28, ho29, hf⟩ := bnd_some hf
                refine g_lv [1, 2, 3, 4, 5, 6, 0] (lv' := [(0, .ref a0), (1, .int x1), (2, .int x2), (3, .int x3), (4, .int x4), (5, .int x5), (6, .int 0)]) rfl ?_
                refine wX8_copy_L121 k N a0 a0_row a0_lanes a0_sizes a0_items a0_tape a0_readIce a0_readPeople a0_readSayings a0_line a0_bestLine a0_seen a0_held  x1 x2 x3 x4 x5 o23.2 va0_isKept va0_length va0_at va0_number va0_readCells va0_readMany va0_readSaid va0_bestFar va0_bestIce va0_lanes va0_sizes N 0 va0_items o28 ho29 ?_
                refine g_iload k 5 dX8_copy_156 rfl ?_
                obtain rfl := Option.some.inj hf
                exact g_iret k r dX8_copy_158 ⟨rfl, rfl⟩
              · replace hf := ite_t c19 hf
                refine g_bipush k dX8_copy_78 bi_m13 ?_
                obtain rfl := Option.some.inj hf
                exact g_iret k r dX8_copy_80 ⟨rfl, rfl⟩
          · replace hf := ite_f c13 hf
            refine g_bipush k dX8_copy_52 bi_m12 ?_
            obtain rfl := Option.some.inj hf
            exact g_iret k r dX8_copy_54 ⟨rfl, rfl⟩
        · replace hf := ite_f c10 hf
          refine g_bipush k dX8_copy_34 bi_m11 ?_
          obtain rfl := Option.some.inj hf
          exact g_iret k r dX8_copy_36 ⟨rfl, rfl⟩
    · replace hf := ite_t c6 hf
      refine g_iconst k dX8_copy_14 ic_m1 ?_
      obtain rfl := Option.some.inj hf
      exact g_iret k r dX8_copy_15 ⟨rfl, rfl⟩
