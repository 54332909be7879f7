abbrev rmX8_readsNumber : Room := { frames := 2, cells := 0, slots := 0, locals := 46 }
def fX8_readsNumber_L10 (N : Nat) (x1 : Int32) (x2 : Int32) (va0_length : Int32) (va0_tape : Nat → Int32) : Nat → Int32 → Int32 → Option (Int32 × Int32)
  | 0, _, _ => none
  | n + 1, va0_at, va0_number =>
    if (x2 + 2) ≤ va0_at then
    some (va0_at, va0_number)
    else
    bnd (fX8_isDigit N va0_length va0_at va0_tape 0) fun o2 =>
    if o2 = 0 then
    some (va0_at, va0_number)
    else
    ixb va0_at 110 fun κ5 =>
    fX8_readsNumber_L10 N x1 x2 va0_length va0_tape n (va0_at + 1) (((10 * va0_number) + (va0_tape κ5)) - 48)
set_option maxHeartbeats 4000000 in
set_option maxRecDepth 100000 in
theorem wX8_readsNumber_L10 {E : Ev} {K : KX} (k : OKX E K cX8_readsNumber RX8 3 rmX8_readsNumber) (N : Nat) (a0 : Nat) (a0_row : Nat) (a0_lanes : Nat) (a0_sizes : Nat) (a0_items : Nat) (a0_tape : Nat) (a0_readIce : Nat) (a0_readPeople : Nat) (a0_readSayings : Nat) (a0_line : Nat) (a0_bestLine : Nat) (a0_seen : Nat) (a0_held : Nat) (x1 : Int32) (x2 : Int32) (va0_length : Int32) (va0_tape : Nat → Int32) (va0_isKept : Int32) (va0_readCells : Int32) (va0_readMany : Int32) (va0_readSaid : Int32) (va0_bestFar : Int32) (va0_bestIce : Int32) : ∀ (n : Nat) (va0_at : Int32) (va0_number : Int32) (o : Int32 × Int32), fX8_readsNumber_L10 N x1 x2 va0_length va0_tape n va0_at va0_number = some o → G E K 3 0 0 [(0, .ref a0), (1, .int x1), (2, .int x2)] [] [(a0, oB 8 [.ref a0_row, .int va0_isKept, .ref a0_lanes, .ref a0_sizes, .ref a0_items, .ref a0_tape, .int va0_length, .int o.1, .int o.2, .ref a0_readIce, .int va0_readCells, .ref a0_readPeople, .int va0_readMany, .ref a0_readSayings, .int va0_readSaid, .ref a0_line, .ref a0_bestLine, .int va0_bestFar, .int va0_bestIce, .ref a0_seen, .ref a0_held]), (a0_tape, aI E 110 va0_tape)] 65 → G E K 3 0 0 [(0, .ref a0), (1, .int x1), (2, .int x2)] [] [(a0, oB 8 [.ref a0_row, .int va0_isKept, .ref a0_lanes, .ref a0_sizes, .ref a0_items, .ref a0_tape, .int va0_length, .int va0_at, .int va0_number, .ref a0_readIce, .int va0_readCells, .ref a0_readPeople, .int va0_readMany, .ref a0_readSayings, .int va0_readSaid, .ref a0_line, .ref a0_bestLine, .int va0_bestFar, .int va0_bestIce, .ref a0_seen, .ref a0_held]), (a0_tape, aI E 110 va0_tape)] 10 := by
  intro n
  induction n with
  | zero => intro va0_at va0_number o hf; cases hf
  | succ n ih =>
    intro va0_at va0_number o hf hG
    rw [fX8_readsNumber_L10] at hf
    refine g_aload_n k 0 dX8_readsNumber_10 rfl rfl ?_
    refine g_get k cfX8 7 0 dX8_readsNumber_11 lkX8_115 (by decide) rfl rfl ?_
    refine g_iload_n k 2 dX8_readsNumber_14 rfl rfl ?_
    refine g_iconst k dX8_readsNumber_15 ic_2 ?_
    refine g_iadd k dX8_readsNumber_16 ?_
    refine g_icmp_ge k (tgt := 65) dX8_readsNumber_17 (by decide) (fun c1 => ?_) (fun c1 => ?_)
    · replace hf := ite_t c1 hf
      refine g_lv [0, 1, 2] rfl ?_
      obtain rfl := Option.some.inj hf
      exact hG
    · replace hf := ite_f c1 hf
      refine g_aload_n k 0 dX8_readsNumber_20 rfl rfl ?_
      refine g_iconst k dX8_readsNumber_21 ic_0 ?_
      obtain ⟨o2, ho3, hf⟩ := bnd_some hf
      refine g_cv k miX8_isDigit mvX8_isDigit (ctX8_isDigit (kL K) E N a0 a0_row a0_lanes a0_sizes a0_items a0_tape a0_readIce a0_readPeople a0_readSayings a0_line a0_bestLine a0_seen a0_held va0_isKept va0_length va0_at va0_number va0_readCells va0_readMany va0_readSaid va0_bestFar va0_bestIce va0_tape 0 o2 ho3) [0, 1] 0 (ws' := [(a0, oB 8 [.ref a0_row, .int va0_isKept, .ref a0_lanes, .ref a0_sizes, .ref a0_items, .ref a0_tape, .int va0_length, .int va0_at, .int va0_number, .ref a0_readIce, .int va0_readCells, .ref a0_readPeople, .int va0_readMany, .ref a0_readSayings, .int va0_readSaid, .ref a0_line, .ref a0_bestLine, .int va0_bestFar, .int va0_bestIce, .ref a0_seen, .ref a0_held]), (a0_tape, aI E 110 va0_tape)]) dX8_readsNumber_22 lkX8_129 rfl ⟨rfl, rfl⟩ ⟨by decide, by decide⟩ rfl rfl rfl rfl (Nat.le_of_ble_eq_true rfl) rfl rfl rfl ?_
      refine g_st (st' := [.int o2]) rfl ?_
      refine g_if_eq k (tgt := 65) dX8_readsNumber_25 (by decide) (fun c4 => ?_) (fun c4 => ?_)
      · replace hf := ite_t c4 hf
        refine g_lv [0, 1, 2] rfl ?_
        obtain rfl := Option.some.inj hf
        exact hG
      · replace hf := ite_f c4 hf
        refine g_aload_n k 0 dX8_readsNumber_28 rfl rfl ?_
        refine g_bipush k dX8_readsNumber_29 bi_10 ?_
        refine g_aload_n k 0 dX8_readsNumber_31 rfl rfl ?_
        refine g_get k cfX8 8 0 dX8_readsNumber_32 lkX8_126 (by decide) rfl rfl ?_
        refine g_imul k dX8_readsNumber_35 ?_
        refine g_aload_n k 0 dX8_readsNumber_36 rfl rfl ?_
        refine g_get k cfX8 5 0 dX8_readsNumber_37 lkX8_23 (by decide) rfl rfl ?_
        refine g_aload_n k 0 dX8_readsNumber_40 rfl rfl ?_
        refine g_get k cfX8 7 0 dX8_readsNumber_41 lkX8_115 (by decide) rfl rfl ?_
        obtain ⟨κ5, hκ5, hiκ5, heκ5, hf⟩ := ixb_some hf
        refine g_iaload k 1 dX8_readsNumber_44 rfl hiκ5 heκ5 ?_
        refine g_iadd k dX8_readsNumber_45 ?_
        refine g_bipush k dX8_readsNumber_46 bi_48 ?_
        refine g_isub k dX8_readsNumber_48 ?_
        refine g_put k cfX8 8 0 (ws' := [(a0, oB 8 [.ref a0_row, .int va0_isKept, .ref a0_lanes, .ref a0_sizes, .ref a0_items, .ref a0_tape, .int va0_length, .int va0_at, .int (((10 * va0_number) + (va0_tape κ5)) - 48), .ref a0_readIce, .int va0_readCells, .ref a0_readPeople, .int va0_readMany, .ref a0_readSayings, .int va0_readSaid, .ref a0_line, .ref a0_bestLine, .int va0_bestFar, .int va0_bestIce, .ref a0_seen, .ref a0_held]), (a0_tape, aI E 110 va0_tape)]) dX8_readsNumber_49 lkX8_126 (by decide) rfl rfl rfl rfl (Nat.le_of_ble_eq_true rfl) rfl ?_
        refine g_aload_n k 0 dX8_readsNumber_52 rfl rfl ?_
        refine g_dup k dX8_readsNumber_53 rfl ?_
        refine g_get k cfX8 7 0 dX8_readsNumber_54 lkX8_115 (by decide) rfl rfl ?_
        refine g_iconst k dX8_readsNumber_57 ic_1 ?_
        refine g_iadd k dX8_readsNumber_58 ?_
        refine g_put k cfX8 7 0 (ws' := [(a0, oB 8 [.ref a0_row, .int va0_isKept, .ref a0_lanes, .ref a0_sizes, .ref a0_items, .ref a0_tape, .int va0_length, .int (va0_at + 1), .int (((10 * va0_number) + (va0_tape κ5)) - 48), .ref a0_readIce, .int va0_readCells, .ref a0_readPeople, .int va0_readMany, .ref a0_readSayings, .int va0_readSaid, .ref a0_line, .ref a0_bestLine, .int va0_bestFar, .int va0_bestIce, .ref a0_seen, .ref a0_held]), (a0_tape, aI E 110 va0_tape)]) dX8_readsNumber_59 lkX8_115 (by decide) rfl rfl rfl rfl (Nat.le_of_ble_eq_true rfl) rfl ?_
        refine g_goto k (tgt := 10) dX8_readsNumber_62 (by decide) ?_
        refine g_lv [0, 1, 2] rfl ?_
        exact ih (va0_at + 1) (((10 * va0_number) + (va0_tape κ5)) - 48) o hf hG
def fX8_readsNumber (N : Nat) (va0_length : Int32) (va0_at : Int32) (va0_number : Int32) (va0_tape : Nat → Int32) (x1 : Int32) : Option (Int32 × Int32 × Int32) :=
  bnd (fX8_readsNumber_L10 N x1 va0_at va0_length va0_tape N va0_at 0) fun o6 =>
  if o6.1 = va0_at then
  some (0, o6.1, o6.2)
  else
  if o6.2 ≤ x1 then
  bnd (fX8_isDigit N va0_length o6.1 va0_tape 0) fun o10 =>
  if o10 = 0 then
  bnd (fX8_skip N va0_length o6.1 va0_tape) fun o13 =>
  some (1, o13, o6.2)
  else
  some (0, o6.1, o6.2)
  else
  some (0, va0_at, o6.2)
set_option maxHeartbeats 4000000 in
set_option maxRecDepth 100000 in
theorem ctX8_readsNumber (l : Launch) (E : Ev) (N : Nat) (a0 : Nat) (a0_row : Nat) (a0_lanes : Nat) (a0_sizes : Nat) (a0_items : Nat) (a0_tape : Nat) (a0_readIce : Nat) (a0_readPeople : Nat) (a0_readSayings : Nat) (a0_line : Nat) (a0_bestLine : Nat) (a0_seen : Nat) (a0_held : Nat) (va0_isKept : Int32) (va0_length : Int32) (va0_at : Int32) (va0_number : Int32) (va0_readCells : Int32) (va0_readMany : Int32) (va0_readSaid : Int32) (va0_bestFar : Int32) (va0_bestIce : Int32) (va0_tape : Nat → Int32) (x1 : Int32) (out : Int32 × Int32 × Int32) (hf : fX8_readsNumber N va0_length va0_at va0_number va0_tape x1 = some out) : Ct l E yX8_readsNumber cX8_readsNumber 3 (some .boolean) rmX8_readsNumber [.ref a0, .int x1] [(a0, oB 8 [.ref a0_row, .int va0_isKept, .ref a0_lanes, .ref a0_sizes, .ref a0_items, .ref a0_tape, .int va0_length, .int va0_at, .int va0_number, .ref a0_readIce, .int va0_readCells, .ref a0_readPeople, .int va0_readMany, .ref a0_readSayings, .int va0_readSaid, .ref a0_line, .ref a0_bestLine, .int va0_bestFar, .int va0_bestIce, .ref a0_seen, .ref a0_held]), (a0_tape, aI E 110 va0_tape)] (Pe (some (.int out.1)) [(a0, oB 8 [.ref a0_row, .int va0_isKept, .ref a0_lanes, .ref a0_sizes, .ref a0_items, .ref a0_tape, .int va0_length, .int out.2.1, .int out.2.2, .ref a0_readIce, .int va0_readCells, .ref a0_readPeople, .int va0_readMany, .ref a0_readSayings, .int va0_readSaid, .ref a0_line, .ref a0_bestLine, .int va0_bestFar, .int va0_bestIce, .ref a0_seen, .ref a0_held]), (a0_tape, aI E 110 va0_tape)]) := by
  refine Ct.of rfl (Nat.le_of_ble_eq_true rfl) (fun K hL k r hin => ?_)
  subst hL
  unfold fX8_readsNumber at hf
  show G E K 3 0 0 [(0, .ref a0), (1, .int x1)] [] [(a0, oB 8 [.ref a0_row, .int va0_isKept, .ref a0_lanes, .ref a0_sizes, .ref a0_items, .ref a0_tape, .int va0_length, .int va0_at, .int va0_number, .ref a0_readIce, .int va0_readCells, .ref a0_readPeople, .int va0_readMany, .ref a0_readSayings, .int va0_readSaid, .ref a0_line, .ref a0_bestLine, .int va0_bestFar, .int va0_bestIce, .ref a0_seen, .ref a0_held]), (a0_tape, aI E 110 va0_tape)] 0
  refine g_aload_n k 0 dX8_readsNumber_0 rfl rfl ?_
  refine g_get k cfX8 7 0 dX8_readsNumber_1 lkX8_115 (by decide) rfl rfl ?_
  refine g_istore_n k (lv' := [(2, .int va0_at), (0, .ref a0), (1, .int x1)]) dX8_readsNumber_4 rfl (by decide) rfl ?_
  refine g_aload_n k 1 dX8_readsNumber_5 rfl rfl ?_
  refine g_iconst k dX8_readsNumber_6 ic_0 ?_
  refine g_put k cfX8 8 0 (ws' := [(a0, oB 8 [.ref a0_row, .int va0_isKept, .ref a0_lanes, .ref a0_sizes, .ref a0_items, .ref a0_tape, .int va0_length, .int va0_at, .int 0, .ref a0_readIce, .int va0_readCells, .ref a0_readPeople, .int va0_readMany, .ref a0_readSayings, .int va0_readSaid, .ref a0_line, .ref a0_bestLine, .int va0_bestFar, .int va0_bestIce, .ref a0_seen, .ref a0_held]), (a0_tape, aI E 110 va0_tape)]) dX8_readsNumber_7 lkX8_126 (by decide) rfl rfl rfl rfl (Nat.le_of_ble_eq_true rfl) rfl ?_
  obtain ⟨o6, ho7, hf⟩ := bnd_some hf
  refine g_lv [1, 2, 0] (lv' := [(0, .ref a0), (1, .int x1), (2, .int va0_at)]) rfl ?_
  refine wX8_readsNumber_L10 k N a0 a0_row a0_lanes a0_sizes a0_items a0_tape a0_readIce a0_readPeople a0_readSayings a0_line a0_bestLine a0_seen a0_held  x1 va0_at va0_length va0_tape va0_isKept va0_readCells va0_readMany va0_readSaid va0_bestFar va0_bestIce N va0_at 0 o6 ho7 ?_
  refine g_aload_n k 0 dX8_readsNumber_65 rfl rfl ?_
  refine g_get k cfX8 7 0 dX8_readsNumber_66 lkX8_115 (by decide) rfl rfl ?_
  refine g_iload_n k 2 dX8_readsNumber_69 rfl rfl ?_
  refine g_icmp_ne k (tgt := 75) dX8_readsNumber_70 (by decide) (fun c8 => ?_) (fun c8 => ?_)
  · replace hf := ite_f c8 hf
    refine g_aload_n k 0 dX8_readsNumber_75 rfl rfl ?_
    refine g_get k cfX8 8 0 dX8_readsNumber_76 lkX8_126 (by decide) rfl rfl ?_
    refine g_iload_n k 1 dX8_readsNumber_79 rfl rfl ?_
    refine g_icmp_le k (tgt := 90) dX8_readsNumber_80 (by decide) (fun c9 => ?_) (fun c9 => ?_)
    · replace hf := ite_t c9 hf
      refine g_aload_n k 0 dX8_readsNumber_90 rfl rfl ?_
      refine g_iconst k dX8_readsNumber_91 ic_0 ?_
      obtain ⟨o10, ho11, hf⟩ := bnd_some hf
      refine g_cv k miX8_isDigit mvX8_isDigit (ctX8_isDigit (kL K) E N a0 a0_row a0_lanes a0_sizes a0_items a0_tape a0_readIce a0_readPeople a0_readSayings a0_line a0_bestLine a0_seen a0_held va0_isKept va0_length o6.1 o6.2 va0_readCells va0_readMany va0_readSaid va0_bestFar va0_bestIce va0_tape 0 o10 ho11) [0, 1] 0 (ws' := [(a0, oB 8 [.ref a0_row, .int va0_isKept, .ref a0_lanes, .ref a0_sizes, .ref a0_items, .ref a0_tape, .int va0_length, .int o6.1, .int o6.2, .ref a0_readIce, .int va0_readCells, .ref a0_readPeople, .int va0_readMany, .ref a0_readSayings, .int va0_readSaid, .ref a0_line, .ref a0_bestLine, .int va0_bestFar, .int va0_bestIce, .ref a0_seen, .ref a0_held]), (a0_tape, aI E 110 va0_tape)]) dX8_readsNumber_92 lkX8_129 rfl ⟨rfl, rfl⟩ ⟨by decide, by decide⟩ rfl rfl rfl rfl (Nat.le_of_ble_eq_true rfl) rfl rfl rfl ?_
      refine g_st (st' := [.int o10]) rfl ?_
      refine g_if_eq k (tgt := 100) dX8_readsNumber_95 (by decide) (fun c12 => ?_) (fun c12 => ?_)
      · replace hf := ite_t c12 hf
        refine g_aload_n k 0 dX8_readsNumber_100 rfl rfl ?_
        obtain ⟨o13, ho14, hf⟩ := bnd_some hf
        refine g_cv k miX8_skip mvX8_skip (ctX8_skip (kL K) E N a0 a0_row a0_lanes a0_sizes a0_items a0_tape a0_readIce a0_readPeople a0_readSayings a0_line a0_bestLine a0_seen a0_held va0_isKept va0_length o6.1 o6.2 va0_readCells va0_readMany va0_readSaid va0_bestFar va0_bestIce va0_tape  o13 ho14) [0, 1] 0 (ws' := [(a0, oB 8 [.ref a0_row, .int va0_isKept, .ref a0_lanes, .ref a0_sizes, .ref a0_items, .ref a0_tape, .int va0_length, .int o13, .int o6.2, .ref a0_readIce, .int va0_readCells, .ref a0_readPeople, .int va0_readMany, .ref a0_readSayings, .int va0_readSaid, .ref a0_line, .ref a0_bestLine, .int va0_bestFar, .int va0_bestIce, .ref a0_seen, .ref a0_held]), (a0_tape, aI E 110 va0_tape)]) dX8_readsNumber_101 lkX8_123 rfl ⟨rfl, rfl⟩ ⟨by decide, by decide⟩ rfl rfl rfl rfl (Nat.le_of_ble_eq_true rfl) rfl rfl rfl ?_
        refine g_st (st' := []) rfl ?_
        refine g_iconst k dX8_readsNumber_104 ic_1 ?_
        obtain rfl := Option.some.inj hf
        exact g_zret k (rfl) r dX8_readsNumber_105 ⟨rfl, rfl⟩
      · replace hf := ite_f c12 hf
        refine g_iconst k dX8_readsNumber_98 ic_0 ?_
        obtain rfl := Option.some.inj hf
        exact g_zret k (rfl) r dX8_readsNumber_99 ⟨rfl, rfl⟩
    · replace hf := ite_f c9 hf
      refine g_aload_n k 0 dX8_readsNumber_83 rfl rfl ?_
      refine g_iload_n k 2 dX8_readsNumber_84 rfl rfl ?_
      refine g_put k cfX8 7 0 (ws' := [(a0, oB 8 [.ref a0_row, .int va0_isKept, .ref a0_lanes, .ref a0_sizes, .ref a0_items, .ref a0_tape, .int va0_length, .int va0_at, .int o6.2, .ref a0_readIce, .int va0_readCells, .ref a0_readPeople, .int va0_readMany, .ref a0_readSayings, .int va0_readSaid, .ref a0_line, .ref a0_bestLine, .int va0_bestFar, .int va0_bestIce, .ref a0_seen, .ref a0_held]), (a0_tape, aI E 110 va0_tape)]) dX8_readsNumber_85 lkX8_115 (by decide) rfl rfl rfl rfl (Nat.le_of_ble_eq_true rfl) rfl ?_
      refine g_iconst k dX8_readsNumber_88 ic_0 ?_
      obtain rfl := Option.some.inj hf
      exact g_zret k (rfl) r dX8_readsNumber_89 ⟨rfl, rfl⟩
  · replace hf := ite_t c8 hf
    refine g_iconst k dX8_readsNumber_73 ic_0 ?_
    obtain rfl := Option.some.inj hf
    exact g_zret k (rfl) r dX8_readsNumber_74 ⟨rfl, rfl⟩
abbrev rmX8_readsCell : Room := { frames := 3, cells := 0, slots := 0, locals := 68 }
def fX8_readsCell (N : Nat) (va0_length : Int32) (va0_at : Int32) (va0_number : Int32) (va0_readCells : Int32) (va0_tape : Nat → Int32) (va0_readIce : Nat → Int32)  : Option (Int32 × Int32 × Int32 × Int32 × (Nat → Int32)) :=
  bnd (fX8_readsNumber N va0_length va0_at va0_number va0_tape 60) fun o1 =>
  if o1.1 = 0 then
  some (0, o1.2.1, o1.2.2, va0_readCells, va0_readIce)
  else
  ixb va0_readCells 12 fun κ4 =>
  some (1, o1.2.1, o1.2.2, (va0_readCells + 1), (upd va0_readIce κ4 o1.2.2))
set_option maxHeartbeats 4000000 in
set_option maxRecDepth 100000 in
theorem ctX8_readsCell (l : Launch) (E : Ev) (N : Nat) (a0 : Nat) (a0_row : Nat) (a0_lanes : Nat) (a0_sizes : Nat) (a0_items : Nat) (a0_tape : Nat) (a0_readIce : Nat) (a0_readPeople : Nat) (a0_readSayings : Nat) (a0_line : Nat) (a0_bestLine : Nat) (a0_seen : Nat) (a0_held : Nat) (va0_isKept : Int32) (va0_length : Int32) (va0_at : Int32) (va0_number : Int32) (va0_readCells : Int32) (va0_readMany : Int32) (va0_readSaid : Int32) (va0_bestFar : Int32) (va0_bestIce : Int32) (va0_tape : Nat → Int32) (va0_readIce : Nat → Int32)  (out : Int32 × Int32 × Int32 × Int32 × (Nat → Int32)) (hf : fX8_readsCell N va0_length va0_at va0_number va0_readCells va0_tape va0_readIce  = some out) : Ct l E yX8_readsCell cX8_readsCell 1 (some .boolean) rmX8_readsCell [.ref a0] [(a0, oB 8 [.ref a0_row, .int va0_isKept, .ref a0_lanes, .ref a0_sizes, .ref a0_items, .ref a0_tape, .int va0_length, .int va0_at, .int va0_number, .ref a0_readIce, .int va0_readCells, .ref a0_readPeople, .int va0_readMany, .ref a0_readSayings, .int va0_readSaid, .ref a0_line, .ref a0_bestLine, .int va0_bestFar, .int va0_bestIce, .ref a0_seen, .ref a0_held]), (a0_tape, aI E 110 va0_tape), (a0_readIce, aI E 12 va0_readIce)] (Pe (some (.int out.1)) [(a0, oB 8 [.ref a0_row, .int va0_isKept, .ref a0_lanes, .ref a0_sizes, .ref a0_items, .ref a0_tape, .int va0_length, .int out.2.1, .int out.2.2.1, .ref a0_readIce, .int out.2.2.2.1, .ref a0_readPeople, .int va0_readMany, .ref a0_readSayings, .int va0_readSaid, .ref a0_line, .ref a0_bestLine, .int va0_bestFar, .int va0_bestIce, .ref a0_seen, .ref a0_held]), (a0_tape, aI E 110 va0_tape), (a0_readIce, aI E 12 out.2.2.2.2)]) := by
  refine Ct.of rfl (Nat.le_of_ble_eq_true rfl) (fun K hL k r hin => ?_)
  subst hL
  unfold fX8_readsCell at hf
  show G E K 1 0 0 [(0, .ref a0)] [] [(a0, oB 8 [.ref a0_row, .int va0_isKept, .ref a0_lanes, .ref a0_sizes, .ref a0_items, .ref a0_tape, .int va0_length, .int va0_at, .int va0_number, .ref a0_readIce, .int va0_readCells, .ref a0_readPeople, .int va0_readMany, .ref a0_readSayings, .int va0_readSaid, .ref a0_line, .ref a0_bestLine, .int va0_bestFar, .int va0_bestIce, .ref a0_seen, .ref a0_held]), (a0_tape, aI E 110 va0_tape), (a0_readIce, aI E 12 va0_readIce)] 0
  refine g_aload_n k 0 dX8_readsCell_0 rfl rfl ?_
  refine g_bipush k dX8_readsCell_1 bi_60 ?_
  obtain ⟨o1, ho2, hf⟩ := bnd_some hf
  refine g_cv k miX8_readsNumber mvX8_readsNumber (ctX8_readsNumber (kL K) E N a0 a0_row a0_lanes a0_sizes a0_items a0_tape a0_readIce a0_readPeople a0_readSayings a0_line a0_bestLine a0_seen a0_held va0_isKept va0_length va0_at va0_number va0_readCells va0_readMany va0_readSaid va0_bestFar va0_bestIce va0_tape 60 o1 ho2) [0, 1] 0 (ws' := [(a0, oB 8 [.ref a0_row, .int va0_isKept, .ref a0_lanes, .ref a0_sizes, .ref a0_items, .ref a0_tape, .int va0_length, .int o1.2.1, .int o1.2.2, .ref a0_readIce, .int va0_readCells, .ref a0_readPeople, .int va0_readMany, .ref a0_readSayings, .int va0_readSaid, .ref a0_line, .ref a0_bestLine, .int va0_bestFar, .int va0_bestIce, .ref a0_seen, .ref a0_held]), (a0_tape, aI E 110 va0_tape), (a0_readIce, aI E 12 va0_readIce)]) dX8_readsCell_3 lkX8_132 rfl ⟨rfl, rfl⟩ ⟨by decide, by decide⟩ rfl rfl rfl rfl (Nat.le_of_ble_eq_true rfl) rfl rfl rfl ?_
  refine g_st (st' := [.int o1.1]) rfl ?_
  refine g_if_ne k (tgt := 11) dX8_readsCell_6 (by decide) (fun c3 => ?_) (fun c3 => ?_)
  · replace hf := ite_f c3 hf
    refine g_aload_n k 0 dX8_readsCell_11 rfl rfl ?_
    refine g_get k cfX8 9 0 dX8_readsCell_12 lkX8_26 (by decide) rfl rfl ?_
    refine g_aload_n k 0 dX8_readsCell_15 rfl rfl ?_
    refine g_get k cfX8 10 0 dX8_readsCell_16 lkX8_135 (by decide) rfl rfl ?_
    refine g_aload_n k 0 dX8_readsCell_19 rfl rfl ?_
    refine g_get k cfX8 8 0 dX8_readsCell_20 lkX8_126 (by decide) rfl rfl ?_
    obtain ⟨κ4, hκ4, hiκ4, heκ4, hf⟩ := ixb_some hf
    refine g_iastore k 2 (ws' := [(a0, oB 8 [.ref a0_row, .int va0_isKept, .ref a0_lanes, .ref a0_sizes, .ref a0_items, .ref a0_tape, .int va0_length, .int o1.2.1, .int o1.2.2, .ref a0_readIce, .int va0_readCells, .ref a0_readPeople, .int va0_readMany, .ref a0_readSayings, .int va0_readSaid, .ref a0_line, .ref a0_bestLine, .int va0_bestFar, .int va0_bestIce, .ref a0_seen, .ref a0_held]), (a0_tape, aI E 110 va0_tape), (a0_readIce, aI E 12 (upd va0_readIce κ4 o1.2.2))]) dX8_readsCell_23 rfl hiκ4 heκ4 rfl ?_
    refine g_aload_n k 0 dX8_readsCell_24 rfl rfl ?_
    refine g_dup k dX8_readsCell_25 rfl ?_
    refine g_get k cfX8 10 0 dX8_readsCell_26 lkX8_135 (by decide) rfl rfl ?_
    refine g_iconst k dX8_readsCell_29 ic_1 ?_
    refine g_iadd k dX8_readsCell_30 ?_
    refine g_put k cfX8 10 0 (ws' := [(a0, oB 8 [.ref a0_row, .int va0_isKept, .ref a0_lanes, .ref a0_sizes, .ref a0_items, .ref a0_tape, .int va0_length, .int o1.2.1, .int o1.2.2, .ref a0_readIce, .int (va0_readCells + 1), .ref a0_readPeople, .int va0_readMany, .ref a0_readSayings, .int va0_readSaid, .ref a0_line, .ref a0_bestLine, .int va0_bestFar, .int va0_bestIce, .ref a0_seen, .ref a0_held]), (a0_tape, aI E 110 va0_tape), (a0_readIce, aI E 12 (upd va0_readIce κ4 o1.2.2))]) dX8_readsCell_31 lkX8_135 (by decide) rfl rfl rfl rfl (Nat.le_of_ble_eq_true rfl) rfl ?_
    refine g_iconst k dX8_readsCell_34 ic_1 ?_
    obtain rfl := Option.some.inj hf
    exact g_zret k (rfl) r dX8_readsCell_35 ⟨rfl, rfl⟩
  · replace hf := ite_t c3 hf
    refine g_iconst k dX8_readsCell_9 ic_0 ?_
    obtain rfl := Option.some.inj hf
    exact g_zret k (rfl) r dX8_readsCell_10 ⟨rfl, rfl⟩
abbrev rmX8_readsPerson : Room := { frames := 2, cells := 0, slots := 0, locals := 46 }
def fX8_readsPerson (N : Nat) (va0_length : Int32) (va0_at : Int32) (va0_readMany : Int32) (va0_tape : Nat → Int32) (va0_readPeople : Nat → Int32)  : Option (Int32 × Int32 × Int32 × (Nat → Int32)) :=
  bnd (fX8_isHere N va0_length va0_at va0_tape 112) fun o1 =>
  if o1 = 0 then
  bnd (fX8_isHere N va0_length va0_at va0_tape 108) fun o4 =>
  if o4 = 0 then
  bnd (fX8_isHere N va0_length va0_at va0_tape 100) fun o7 =>
  if o7 = 0 then
  bnd (fX8_isHere N va0_length va0_at va0_tape 115) fun o10 =>
  if o10 = 0 then
  bnd (fX8_isHere N va0_length va0_at va0_tape 99) fun o13 =>
  if o13 = 0 then
  some (0, va0_at, va0_readMany, va0_readPeople)
  else
  bnd (fX8_skip N va0_length (va0_at + 1) va0_tape) fun o18 =>
  bnd (fX8_isDigit N va0_length o18 va0_tape 1) fun o20 =>
  if o20 = 0 then
  some (0, o18, va0_readMany, va0_readPeople)
  else
  ixb (2 * va0_readMany) 12 fun κ23 =>
  ixb o18 110 fun κ24 =>
  ixb ((2 * va0_readMany) + 1) 12 fun κ25 =>
  bnd (fX8_skip N va0_length (o18 + 1) va0_tape) fun o26 =>
  some (1, o26, (va0_readMany + 1), (upd (upd va0_readPeople κ23 4) κ25 ((va0_tape κ24) - 48)))
  else
  bnd (fX8_skip N va0_length (va0_at + 1) va0_tape) fun o29 =>
  bnd (fX8_isDigit N va0_length o29 va0_tape 1) fun o31 =>
  if o31 = 0 then
  some (0, o29, va0_readMany, va0_readPeople)
  else
  ixb (2 * va0_readMany) 12 fun κ34 =>
  ixb o29 110 fun κ35 =>
  ixb ((2 * va0_readMany) + 1) 12 fun κ36 =>
  bnd (fX8_skip N va0_length (o29 + 1) va0_tape) fun o37 =>
  some (1, o37, (va0_readMany + 1), (upd (upd va0_readPeople κ34 3) κ36 ((va0_tape κ35) - 48)))
  else
  bnd (fX8_skip N va0_length (va0_at + 1) va0_tape) fun o40 =>
  bnd (fX8_isDigit N va0_length o40 va0_tape 1) fun o42 =>
  if o42 = 0 then
  some (0, o40, va0_readMany, va0_readPeople)
  else
  ixb (2 * va0_readMany) 12 fun κ45 =>
  ixb o40 110 fun κ46 =>
  ixb ((2 * va0_readMany) + 1) 12 fun κ47 =>
  bnd (fX8_skip N va0_length (o40 + 1) va0_tape) fun o48 =>
  some (1, o48, (va0_readMany + 1), (upd (upd va0_readPeople κ45 2) κ47 ((va0_tape κ46) - 48)))
  else
  bnd (fX8_skip N va0_length (va0_at + 1) va0_tape) fun o51 =>
  bnd (fX8_isDigit N va0_length o51 va0_tape 1) fun o53 =>
  if o53 = 0 then
  some (0, o51, va0_readMany, va0_readPeople)
  else
  ixb (2 * va0_readMany) 12 fun κ56 =>
  ixb o51 110 fun κ57 =>
  ixb ((2 * va0_readMany) + 1) 12 fun κ58 =>
  bnd (fX8_skip N va0_length (o51 + 1) va0_tape) fun o59 =>
  some (1, o59, (va0_readMany + 1), (upd (upd va0_readPeople κ56 1) κ58 ((va0_tape κ57) - 48)))
  else
  bnd (fX8_skip N va0_length (va0_at + 1) va0_tape) fun o62 =>
  bnd (fX8_isDigit N va0_length o62 va0_tape 1) fun o64 =>
  if o64 = 0 then
  some (0, o62, va0_readMany, va0_readPeople)
  else
  ixb (2 * va0_readMany) 12 fun κ67 =>
  ixb o62 110 fun κ68 =>
  ixb ((2 * va0_readMany) + 1) 12 fun κ69 =>
  bnd (fX8_skip N va0_length (o62 + 1) va0_tape) fun o70 =>
  some (1, o70, (va0_readMany + 1), (upd (upd va0_readPeople κ67 0) κ69 ((va0_tape κ68) - 48)))
set_option maxHeartbeats 4000000 in
set_option maxRecDepth 100000 in
theorem ctX8_readsPerson (l : Launch) (E : Ev) (N : Nat) (a0 : Nat) (a0_row : Nat) (a0_lanes : Nat) (a0_sizes : Nat) (a0_items : Nat) (a0_tape : Nat) (a0_readIce : Nat) (a0_readPeople : Nat) (a0_readSayings : Nat) (a0_line : Nat) (a0_bestLine : Nat) (a0_seen : Nat) (a0_held : Nat) (va0_isKept : Int32) (va0_length : Int32) (va0_at : Int32) (va0_number : Int32) (va0_readCells : Int32) (va0_readMany : Int32) (va0_readSaid : Int32) (va0_bestFar : Int32) (va0_bestIce : Int32) (va0_tape : Nat → Int32) (va0_readPeople : Nat → Int32)  (out : Int32 × Int32 × Int32 × (Nat → Int32)) (hf : fX8_readsPerson N va0_length va0_at va0_readMany va0_tape va0_readPeople  = some out) : Ct l E yX8_readsPerson cX8_readsPerson 2 (some .boolean) rmX8_readsPerson [.ref a0] [(a0, oB 8 [.ref a0_row, .int va0_isKept, .ref a0_lanes, .ref a0_sizes, .ref a0_items, .ref a0_tape, .int va0_length, .int va0_at, .int va0_number, .ref a0_readIce, .int va0_readCells, .ref a0_readPeople, .int va0_readMany, .ref a0_readSayings, .int va0_readSaid, .ref a0_line, .ref a0_bestLine, .int va0_bestFar, .int va0_bestIce, .ref a0_seen, .ref a0_held]), (a0_tape, aI E 110 va0_tape), (a0_readPeople, aI E 12 va0_readPeople)] (Pe (some (.int out.1)) [(a0, oB 8 [.ref a0_row, .int va0_isKept, .ref a0_lanes, .ref a0_sizes, .ref a0_items, .ref a0_tape, .int va0_length, .int out.2.1, .int va0_number, .ref a0_readIce, .int va0_readCells, .ref a0_readPeople, .int out.2.2.1, .ref a0_readSayings, .int va0_readSaid, .ref a0_line, .ref a0_bestLine, .int va0_bestFar, .int va0_bestIce, .ref a0_seen, .ref a0_held]), (a0_tape, aI E 110 va0_tape), (a0_readPeople, aI E 12 out.2.2.2)]) := by
  refine Ct.of rfl (Nat.le_of_ble_eq_true rfl) (fun K hL k r hin => ?_)
  subst hL
  unfold fX8_readsPerson at hf
  show G E K 2 0 0 [(0, .ref a0)] [] [(a0, oB 8 [.ref a0_row, .int va0_isKept, .ref a0_lanes, .ref a0_sizes, .ref a0_items, .ref a0_tape, .int va0_length, .int va0_at, .int va0_number, .ref a0_readIce, .int va0_readCells, .ref a0_readPeople, .int va0_readMany, .ref a0_readSayings, .int va0_readSaid, .ref a0_line, .ref a0_bestLine, .int va0_bestFar, .int va0_bestIce, .ref a0_seen, .ref a0_held]), (a0_tape, aI E 110 va0_tape), (a0_readPeople, aI E 12 va0_readPeople)] 0
  refine g_aload_n k 0 dX8_readsPerson_0 rfl rfl ?_
  refine g_bipush k dX8_readsPerson_1 bi_112 ?_
  obtain ⟨o1, ho2, hf⟩ := bnd_some hf
  refine g_cv k miX8_isHere mvX8_isHere (ctX8_isHere (kL K) E N a0 a0_row a0_lanes a0_sizes a0_items a0_tape a0_readIce a0_readPeople a0_readSayings a0_line a0_bestLine a0_seen a0_held va0_isKept va0_length va0_at va0_number va0_readCells va0_readMany va0_readSaid va0_bestFar va0_bestIce va0_tape 112 o1 ho2) [0, 1] 0 (ws' := [(a0, oB 8 [.ref a0_row, .int va0_isKept, .ref a0_lanes, .ref a0_sizes, .ref a0_items, .ref a0_tape, .int va0_length, .int va0_at, .int va0_number, .ref a0_readIce, .int va0_readCells, .ref a0_readPeople, .int va0_readMany, .ref a0_readSayings, .int va0_readSaid, .ref a0_line, .ref a0_bestLine, .int va0_bestFar, .int va0_bestIce, .ref a0_seen, .ref a0_held]), (a0_tape, aI E 110 va0_tape), (a0_readPeople, aI E 12 va0_readPeople)]) dX8_readsPerson_3 lkX8_120 rfl ⟨rfl, rfl⟩ ⟨by decide, by decide⟩ rfl rfl rfl rfl (Nat.le_of_ble_eq_true rfl) rfl rfl rfl ?_
  refine g_st (st' := [.int o1]) rfl ?_
  refine g_if_eq k (tgt := 13) dX8_readsPerson_6 (by decide) (fun c3 => ?_) (fun c3 => ?_)
  · replace hf := ite_t c3 hf
    refine g_aload_n k 0 dX8_readsPerson_13 rfl rfl ?_
    refine g_bipush k dX8_readsPerson_14 bi_108 ?_
    obtain ⟨o4, ho5, hf⟩ := bnd_some hf
    refine g_cv k miX8_isHere mvX8_isHere (ctX8_isHere (kL K) E N a0 a0_row a0_lanes a0_sizes a0_items a0_tape a0_readIce a0_readPeople a0_readSayings a0_line a0_bestLine a0_seen a0_held va0_isKept va0_length va0_at va0_number va0_readCells va0_readMany va0_readSaid va0_bestFar va0_bestIce va0_tape 108 o4 ho5) [0, 1] 0 (ws' := [(a0, oB 8 [.ref a0_row, .int va0_isKept, .ref a0_lanes, .ref a0_sizes, .ref a0_items, .ref a0_tape, .int va0_length, .int va0_at, .int va0_number, .ref a0_readIce, .int va0_readCells, .ref a0_readPeople, .int va0_readMany, .ref a0_readSayings, .int va0_readSaid, .ref a0_line, .ref a0_bestLine, .int va0_bestFar, .int va0_bestIce, .ref a0_seen, .ref a0_held]), (a0_tape, aI E 110 va0_tape), (a0_readPeople, aI E 12 va0_readPeople)]) dX8_readsPerson_16 lkX8_120 rfl ⟨rfl, rfl⟩ ⟨by decide, by decide⟩ rfl rfl rfl rfl (Nat.le_of_ble_eq_true rfl) rfl rfl rfl ?_
    refine g_st (st' := [.int o4]) rfl ?_
    refine g_if_eq k (tgt := 26) dX8_readsPerson_19 (by decide) (fun c6 => ?_) (fun c6 => ?_)
    · replace hf := ite_t c6 hf
      refine g_aload_n k 0 dX8_readsPerson_26 rfl rfl ?_
      refine g_bipush k dX8_readsPerson_27 bi_100 ?_
      obtain ⟨o7, ho8, hf⟩ := bnd_some hf
      refine g_cv k miX8_isHere mvX8_isHere (ctX8_isHere (kL K) E N a0 a0_row a0_lanes a0_sizes a0_items a0_tape a0_readIce a0_readPeople a0_readSayings a0_line a0_bestLine a0_seen a0_held va0_isKept va0_length va0_at va0_number va0_readCells va0_readMany va0_readSaid va0_bestFar va0_bestIce va0_tape 100 o7 ho8) [0, 1] 0 (ws' := [(a0, oB 8 [.ref a0_row, .int va0_isKept, .ref a0_lanes, .ref a0_sizes, .ref a0_items, .ref a0_tape, .int va0_length, .int va0_at, .int va0_number, .ref a0_readIce, .int va0_readCells, .ref a0_readPeople, .int va0_readMany, .ref a0_readSayings, .int va0_readSaid, .ref a0_line, .ref a0_bestLine, .int va0_bestFar, .int va0_bestIce, .ref a0_seen, .ref a0_held]), (a0_tape, aI E 110 va0_tape), (a0_readPeople, aI E 12 va0_readPeople)]) dX8_readsPerson_29 lkX8_120 rfl ⟨rfl, rfl⟩ ⟨by decide, by decide⟩ rfl rfl rfl rfl (Nat.le_of_ble_eq_true rfl) rfl rfl rfl ?_
      refine g_st (st' := [.int o7]) rfl ?_
      refine g_if_eq k (tgt := 39) dX8_readsPerson_32 (by decide) (fun c9 => ?_) (fun c9 => ?_)
      · replace hf := ite_t c9 hf
        refine g_aload_n k 0 dX8_readsPerson_39 rfl rfl ?_
        refine g_bipush k dX8_readsPerson_40 bi_115 ?_
        obtain ⟨o10, ho11, hf⟩ := bnd_some hf
        refine g_cv k miX8_isHere mvX8_isHere (ctX8_isHere (kL K) E N a0 a0_row a0_lanes a0_sizes a0_items a0_tape a0_readIce a0_readPeople a0_readSayings a0_line a0_bestLine a0_seen a0_held va0_isKept va0_length va0_at va0_number va0_readCells va0_readMany va0_readSaid va0_bestFar va0_bestIce va0_tape 115 o10 ho11) [0, 1] 0 (ws' := [(a0, oB 8 [.ref a0_row, .int va0_isKept, .ref a0_lanes, .ref a0_sizes, .ref a0_items, .ref a0_tape, .int va0_length, .int va0_at, .int va0_number, .ref a0_readIce, .int va0_readCells, .ref a0_readPeople, .int va0_readMany, .ref a0_readSayings, .int va0_readSaid, .ref a0_line, .ref a0_bestLine, .int va0_bestFar, .int va0_bestIce, .ref a0_seen, .ref a0_held]), (a0_tape, aI E 110 va0_tape), (a0_readPeople, aI E 12 va0_readPeople)]) dX8_readsPerson_42 lkX8_120 rfl ⟨rfl, rfl⟩ ⟨by decide, by decide⟩ rfl rfl rfl rfl (Nat.le_of_ble_eq_true rfl) rfl rfl rfl ?_
        refine g_st (st' := [.int o10]) rfl ?_
        refine g_if_eq k (tgt := 52) dX8_readsPerson_45 (by decide) (fun c12 => ?_) (fun c12 => ?_)
        · replace hf := ite_t c12 hf
          refine g_aload_n k 0 dX8_readsPerson_52 rfl rfl ?_
          refine g_bipush k dX8_readsPerson_53 bi_99 ?_
          obtain ⟨o13, ho14, hf⟩ := bnd_some hf
          refine g_cv k miX8_isHere mvX8_isHere (ctX8_isHere (kL K) E N a0 a0_row a0_lanes a0_sizes a0_items a0_tape a0_readIce a0_readPeople a0_readSayings a0_line a0_bestLine a0_seen a0_held va0_isKept va0_length va0_at va0_number va0_readCells va0_readMany va0_readSaid va0_bestFar va0_bestIce va0_tape 99 o13 ho14) [0, 1] 0 (ws' := [(a0, oB 8 [.ref a0_row, .int va0_isKept, .ref a0_lanes, .ref a0_sizes, .ref a0_items, .ref a0_tape, .int va0_length, .int va0_at, .int va0_number, .ref a0_readIce, .int va0_readCells, .ref a0_readPeople, .int va0_readMany, .ref a0_readSayings, .int va0_readSaid, .ref a0_line, .ref a0_bestLine, .int va0_bestFar, .int va0_bestIce, .ref a0_seen, .ref a0_held]), (a0_tape, aI E 110 va0_tape), (a0_readPeople, aI E 12 va0_readPeople)]) dX8_readsPerson_55 lkX8_120 rfl ⟨rfl, rfl⟩ ⟨by decide, by decide⟩ rfl rfl rfl rfl (Nat.le_of_ble_eq_true rfl) rfl rfl rfl ?_
          refine g_st (st' := [.int o13]) rfl ?_
          refine g_if_eq k (tgt := 65) dX8_readsPerson_58 (by decide) (fun c15 => ?_) (fun c15 => ?_)
          · replace hf := ite_t c15 hf
            refine g_bipush k dX8_readsPerson_65 bi_m4 ?_
            refine g_istore_n k (lv' := [(1, .int (-4)), (0, .ref a0)]) dX8_readsPerson_67 rfl (by decide) rfl ?_
            refine g_iload_n k 0 dX8_readsPerson_68 rfl rfl ?_
            refine g_bipush k dX8_readsPerson_69 bi_m4 ?_
            refine g_icmp_ne k (tgt := 76) dX8_readsPerson_71 (by decide) (fun c16 => absurd c16 (by decide)) (fun _ => ?_)
            refine g_iconst k dX8_readsPerson_74 ic_0 ?_
            obtain rfl := Option.some.inj hf
            exact g_zret k (rfl) r dX8_readsPerson_75 ⟨rfl, rfl⟩
          · replace hf := ite_f c15 hf
            refine g_iconst k dX8_readsPerson_61 ic_4 ?_
            refine g_goto k (tgt := 67) dX8_readsPerson_62 (by decide) ?_
            refine g_istore_n k (lv' := [(1, .int 4), (0, .ref a0)]) dX8_readsPerson_67 rfl (by decide) rfl ?_
            refine g_iload_n k 0 dX8_readsPerson_68 rfl rfl ?_
            refine g_bipush k dX8_readsPerson_69 bi_m4 ?_
            refine g_icmp_ne k (tgt := 76) dX8_readsPerson_71 (by decide) (fun _ => ?_) (fun c17 => absurd c17 (by decide))
            refine g_aload_n k 1 dX8_readsPerson_76 rfl rfl ?_
            refine g_dup k dX8_readsPerson_77 rfl ?_
            refine g_get k cfX8 7 0 dX8_readsPerson_78 lkX8_115 (by decide) rfl rfl ?_
            refine g_iconst k dX8_readsPerson_81 ic_1 ?_
            refine g_iadd k dX8_readsPerson_82 ?_
            refine g_put k cfX8 7 0 (ws' := [(a0, oB 8 [.ref a0_row, .int va0_isKept, .ref a0_lanes, .ref a0_sizes, .ref a0_items, .ref a0_tape, .int va0_length, .int (va0_at + 1), .int va0_number, .ref a0_readIce, .int va0_readCells, .ref a0_readPeople, .int va0_readMany, .ref a0_readSayings, .int va0_readSaid, .ref a0_line, .ref a0_bestLine, .int va0_bestFar, .int va0_bestIce, .ref a0_seen, .ref a0_held]), (a0_tape, aI E 110 va0_tape), (a0_readPeople, aI E 12 va0_readPeople)]) dX8_readsPerson_83 lkX8_115 (by decide) rfl rfl rfl rfl (Nat.le_of_ble_eq_true rfl) rfl ?_
            refine g_aload_n k 1 dX8_readsPerson_86 rfl rfl ?_
            obtain ⟨o18, ho19, hf⟩ := bnd_some hf
            refine g_cv k miX8_skip mvX8_skip (ctX8_skip (kL K) E N a0 a0_row a0_lanes a0_sizes a0_items a0_tape a0_readIce a0_readPeople a0_readSayings a0_line a0_bestLine a0_seen a0_held va0_isKept va0_length (va0_at + 1) va0_number va0_readCells va0_readMany va0_readSaid va0_bestFar va0_bestIce va0_tape  o18 ho19) [0, 1] 0 (ws' := [(a0, oB 8 [.ref a0_row, .int va0_isKept, .ref a0_lanes, .ref a0_sizes, .ref a0_items, .ref a0_tape, .int va0_length, .int o18, .int va0_number, .ref a0_readIce, .int va0_readCells, .ref a0_readPeople, .int va0_readMany, .ref a0_readSayings, .int va0_readSaid, .ref a0_line, .ref a0_bestLine, .int va0_bestFar, .int va0_bestIce, .ref a0_seen, .ref a0_held]), (a0_tape, aI E 110 va0_tape), (a0_readPeople, aI E 12 va0_readPeople)]) dX8_readsPerson_87 lkX8_123 rfl ⟨rfl, rfl⟩ ⟨by decide, by decide⟩ rfl rfl rfl rfl (Nat.le_of_ble_eq_true rfl) rfl rfl rfl ?_
            refine g_st (st' := []) rfl ?_
            refine g_aload_n k 1 dX8_readsPerson_90 rfl rfl ?_
            refine g_iconst k dX8_readsPerson_91 ic_1 ?_
            obtain ⟨o20, ho21, hf⟩ := bnd_some hf
            refine g_cv k miX8_isDigit mvX8_isDigit (ctX8_isDigit (kL K) E N a0 a0_row a0_lanes a0_sizes a0_items a0_tape a0_readIce a0_readPeople a0_readSayings a0_line a0_bestLine a0_seen a0_held va0_isKept va0_length o18 va0_number va0_readCells va0_readMany va0_readSaid va0_bestFar va0_bestIce va0_tape 1 o20 ho21) [0, 1] 0 (ws' := [(a0, oB 8 [.ref a0_row, .int va0_isKept, .ref a0_lanes, .ref a0_sizes, .ref a0_items, .ref a0_tape, .int va0_length, .int o18, .int va0_number, .ref a0_readIce, .int va0_readCells, .ref a0_readPeople, .int va0_readMany, .ref a0_readSayings, .int va0_readSaid, .ref a0_line, .ref a0_bestLine, .int va0_bestFar, .int va0_bestIce, .ref a0_seen, .ref a0_held]), (a0_tape, aI E 110 va0_tape), (a0_readPeople, aI E 12 va0_readPeople)]) dX8_readsPerson_92 lkX8_129 rfl ⟨rfl, rfl⟩ ⟨by decide, by decide⟩ rfl rfl rfl rfl (Nat.le_of_ble_eq_true rfl) rfl rfl rfl ?_
            refine g_st (st' := [.int o20]) rfl ?_
            refine g_if_ne k (tgt := 100) dX8_readsPerson_95 (by decide) (fun c22 => ?_) (fun c22 => ?_)
            · replace hf := ite_f c22 hf
              refine g_aload_n k 1 dX8_readsPerson_100 rfl rfl ?_
              refine g_get k cfX8 11 0 dX8_readsPerson_101 lkX8_29 (by decide) rfl rfl ?_
              refine g_iconst k dX8_readsPerson_104 ic_2 ?_
              refine g_aload_n k 1 dX8_readsPerson_105 rfl rfl ?_
              refine g_get k cfX8 12 0 dX8_readsPerson_106 lkX8_138 (by decide) rfl rfl ?_
              refine g_imul k dX8_readsPerson_109 ?_
              refine g_iload_n k 0 dX8_readsPerson_110 rfl rfl ?_
              obtain ⟨κ23, hκ23, hiκ23, heκ23, hf⟩ := ixb_some hf
              refine g_iastore k 2 (ws' := [(a0, oB 8 [.ref a0_row, .int va0_isKept, .ref a0_lanes, .ref a0_sizes, .ref a0_items, .ref a0_tape, .int va0_length, .int o18, .int va0_number, .ref a0_readIce, .int va0_readCells, .ref a0_readPeople, .int va0_readMany, .ref a0_readSayings, .int va0_readSaid, .ref a0_line, .ref a0_bestLine, .int va0_bestFar, .int va0_bestIce, .ref a0_seen, .ref a0_held]), (a0_tape, aI E 110 va0_tape), (a0_readPeople, aI E 12 (upd va0_readPeople κ23 4))]) dX8_readsPerson_111 rfl hiκ23 heκ23 rfl ?_
              refine g_aload_n k 1 dX8_readsPerson_112 rfl rfl ?_
              refine g_get k cfX8 11 0 dX8_readsPerson_113 lkX8_29 (by decide) rfl rfl ?_
              refine g_iconst k dX8_readsPerson_116 ic_2 ?_
              refine g_aload_n k 1 dX8_readsPerson_117 rfl rfl ?_
              refine g_get k cfX8 12 0 dX8_readsPerson_118 lkX8_138 (by decide) rfl rfl ?_
              refine g_imul k dX8_readsPerson_121 ?_
              refine g_iconst k dX8_readsPerson_122 ic_1 ?_
              refine g_iadd k dX8_readsPerson_123 ?_
              refine g_aload_n k 1 dX8_readsPerson_124 rfl rfl ?_
              refine g_get k cfX8 5 0 dX8_readsPerson_125 lkX8_23 (by decide) rfl rfl ?_
              refine g_aload_n k 1 dX8_readsPerson_128 rfl rfl ?_
              refine g_get k cfX8 7 0 dX8_readsPerson_129 lkX8_115 (by decide) rfl rfl ?_
              obtain ⟨κ24, hκ24, hiκ24, heκ24, hf⟩ := ixb_some hf
              refine g_iaload k 1 dX8_readsPerson_132 rfl hiκ24 heκ24 ?_
              refine g_bipush k dX8_readsPerson_133 bi_48 ?_
              refine g_isub k dX8_readsPerson_135 ?_
              obtain ⟨κ25, hκ25, hiκ25, heκ25, hf⟩ := ixb_some hf
              refine g_iastore k 2 (ws' := [(a0, oB 8 [.ref a0_row, .int va0_isKept, .ref a0_lanes, .ref a0_sizes, .ref a0_items, .ref a0_tape, .int va0_length, .int o18, .int va0_number, .ref a0_readIce, .int va0_readCells, .ref a0_readPeople, .int va0_readMany, .ref a0_readSayings, .int va0_readSaid, .ref a0_line, .ref a0_bestLine, .int va0_bestFar, .int va0_bestIce, .ref a0_seen, .ref a0_held]), (a0_tape, aI E 110 va0_tape), (a0_readPeople, aI E 12 (upd (upd va0_readPeople κ23 4) κ25 ((va0_tape κ24) - 48)))]) dX8_readsPerson_136 rfl hiκ25 heκ25 rfl ?_
              refine g_aload_n k 1 dX8_readsPerson_137 rfl rfl ?_
              refine g_dup k dX8_readsPerson_138 rfl ?_
              refine g_get k cfX8 12 0 dX8_readsPerson_139 lkX8_138 (by decide) rfl rfl ?_
              refine g_iconst k dX8_readsPerson_142 ic_1 ?_
              refine g_iadd k dX8_readsPerson_143 ?_
              refine g_put k cfX8 12 0 (ws' := [(a0, oB 8 [.ref a0_row, .int va0_isKept, .ref a0_lanes, .ref a0_sizes, .ref a0_items, .ref a0_tape, .int va0_length, .int o18, .int va0_number, .ref a0_readIce, .int va0_readCells, .ref a0_readPeople, .int (va0_readMany + 1), .ref a0_readSayings, .int va0_readSaid, .ref a0_line, .ref a0_bestLine, .int va0_bestFar, .int va0_bestIce, .ref a0_seen, .ref a0_held]), (a0_tape, aI E 110 va0_tape), (a0_readPeople, aI E 12 (upd (upd va0_readPeople κ23 4) κ25 ((va0_tape κ24) - 48)))]) dX8_readsPerson_144 lkX8_138 (by decide) rfl rfl rfl rfl (Nat.le_of_ble_eq_true rfl) rfl ?_
              refine g_aload_n k 1 dX8_readsPerson_147 rfl rfl ?_
              refine g_dup k dX8_readsPerson_148 rfl ?_
              refine g_get k cfX8 7 0 dX8_readsPerson_149 lkX8_115 (by decide) rfl rfl ?_
              refine g_iconst k dX8_readsPerson_152 ic_1 ?_
              refine g_iadd k dX8_readsPerson_153 ?_
              refine g_put k cfX8 7 0 (ws' := [(a0, oB 8 [.ref a0_row, .int va0_isKept, .ref a0_lanes, .ref a0_sizes, .ref a0_items, .ref a0_tape, .int va0_length, .int (o18 + 1), .int va0_number, .ref a0_readIce, .int va0_readCells, .ref a0_readPeople, .int (va0_readMany + 1), .ref a0_readSayings, .int va0_readSaid, .ref a0_line, .ref a0_bestLine, .int va0_bestFar, .int va0_bestIce, .ref a0_seen, .ref a0_held]), (a0_tape, aI E 110 va0_tape), (a0_readPeople, aI E 12 (upd (upd va0_readPeople κ23 4) κ25 ((va0_tape κ24) - 48)))]) dX8_readsPerson_154 lkX8_115 (by decide) rfl rfl rfl rfl (Nat.le_of_ble_eq_true rfl) rfl ?_
              refine g_aload_n k 1 dX8_readsPerson_157 rfl rfl ?_
              obtain ⟨o26, ho27, hf⟩ := bnd_some hf
              refine g_cv k miX8_skip mvX8_skip (ctX8_skip (kL K) E N a0 a0_row a0_lanes a0_sizes a0_items a0_tape a0_readIce a0_readPeople a0_readSayings a0_line a0_bestLine a0_seen a0_held va0_isKept va0_length (o18 + 1) va0_number va0_readCells (va0_readMany + 1) va0_readSaid va0_bestFar va0_bestIce va0_tape  o26 ho27) [0, 1] 0 (ws' := [(a0, oB 8 [.ref a0_row, .int va0_isKept, .ref a0_lanes, .ref a0_sizes, .ref a0_items, .ref a0_tape, .int va0_length, .int o26, .int va0_number, .ref a0_readIce, .int va0_readCells, .ref a0_readPeople, .int (va0_readMany + 1), .ref a0_readSayings, .int va0_readSaid, .ref a0_line, .ref a0_bestLine, .int va0_bestFar, .int va0_bestIce, .ref a0_seen, .ref a0_held]), (a0_tape, aI E 110 va0_tape), (a0_readPeople, aI E 12 (upd (upd va0_readPeople κ23 4) κ25 ((va0_tape κ24) - 48)))]) dX8_readsPerson_158 lkX8_123 rfl ⟨rfl, rfl⟩ ⟨by decide, by decide⟩ rfl rfl rfl rfl (Nat.le_of_ble_eq_true rfl) rfl rfl rfl ?_
              refine g_st (st' := []) rfl ?_
              refine g_iconst k dX8_readsPerson_161 ic_1 ?_
              obtain rfl := Option.some.inj hf
              exact g_zret k (rfl) r dX8_readsPerson_162 ⟨rfl, rfl⟩
            · replace hf := ite_t c22 hf
              refine g_iconst k dX8_readsPerson_98 ic_0 ?_
              obtain rfl := Option.some.inj hf
              exact g_zret k (rfl) r dX8_readsPerson_99 ⟨rfl, rfl⟩
        · replace hf := ite_f c12 hf
          refine g_iconst k dX8_readsPerson_48 ic_3 ?_
          refine g_goto k (tgt := 67) dX8_readsPerson_49 (by decide) ?_
          refine g_istore_n k (lv' := [(1, .int 3), (0, .ref a0)]) dX8_readsPerson_67 rfl (by decide) rfl ?_
          refine g_iload_n k 0 dX8_readsPerson_68 rfl rfl ?_
          refine g_bipush k dX8_readsPerson_69 bi_m4 ?_
          refine g_icmp_ne k (tgt := 76) dX8_readsPerson_71 (by decide) (fun _ => ?_) (fun c28 => absurd c28 (by decide))
          refine g_aload_n k 1 dX8_readsPerson_76 rfl rfl ?_
          refine g_dup k dX8_readsPerson_77 rfl ?_
          refine g_get k cfX8 7 0 dX8_readsPerson_78 lkX8_115 (by decide) rfl rfl ?_
          refine g_iconst k dX8_readsPerson_81 ic_1 ?_
          refine g_iadd k dX8_readsPerson_82 ?_
          refine g_put k cfX8 7 0 (ws' := [(a0, oB 8 [.ref a0_row, .int va0_isKept, .ref a0_lanes, .ref a0_sizes, .ref a0_items, .ref a0_tape, .int va0_length, .int (va0_at + 1), .int va0_number, .ref a0_readIce, .int va0_readCells, .ref a0_readPeople, .int va0_readMany, .ref a0_readSayings, .int va0_readSaid, .ref a0_line, .ref a0_bestLine, .int va0_bestFar, .int va0_bestIce, .ref a0_seen, .ref a0_held]), (a0_tape, aI E 110 va0_tape), (a0_readPeople, aI E 12 va0_readPeople)]) dX8_readsPerson_83 lkX8_115 (by decide) rfl rfl rfl rfl (Nat.le_of_ble_eq_true rfl) rfl ?_
          refine g_aload_n k 1 dX8_readsPerson_86 rfl rfl ?_
          obtain ⟨o29, ho30, hf⟩ := bnd_some hf
          refine g_cv k miX8_skip mvX8_skip (ctX8_skip (kL K) E N a0 a0_row a0_lanes a0_sizes a0_items a0_tape a0_readIce a0_readPeople a0_readSayings a0_line a0_bestLine a0_seen a0_held va0_isKept va0_length (va0_at + 1) va0_number va0_readCells va0_readMany va0_readSaid va0_bestFar va0_bestIce va0_tape  o29 ho30) [0, 1] 0 (ws' := [(a0, oB 8 [.ref a0_row, .int va0_isKept, .ref a0_lanes, .ref a0_sizes, .ref a0_items, .ref a0_tape, .int va0_length, .int o29, .int va0_number, .ref a0_readIce, .int va0_readCells, .ref a0_readPeople, .int va0_readMany, .ref a0_readSayings, .int va0_readSaid, .ref a0_line, .ref a0_bestLine, .int va0_bestFar, .int va0_bestIce, .ref a0_seen, .ref a0_held]), (a0_tape, aI E 110 va0_tape), (a0_readPeople, aI E 12 va0_readPeople)]) dX8_readsPerson_87 lkX8_123 rfl ⟨rfl, rfl⟩ ⟨by decide, by decide⟩ rfl rfl rfl rfl (Nat.le_of_ble_eq_true rfl) rfl rfl rfl ?_
          refine g_st (st' := []) rfl ?_
          refine g_aload_n k 1 dX8_readsPerson_90 rfl rfl ?_
          refine g_iconst k dX8_readsPerson_91 ic_1 ?_
          obtain ⟨o31, ho32, hf⟩ := bnd_some hf
          refine g_cv k miX8_isDigit mvX8_isDigit (ctX8_isDigit (kL K) E N a0 a0_row a0_lanes a0_sizes a0_items a0_tape a0_readIce a0_readPeople a0_readSayings a0_line a0_bestLine a0_seen a0_held va0_isKept va0_length o29 va0_number va0_readCells va0_readMany va0_readSaid va0_bestFar va0_bestIce va0_tape 1 o31 ho32) [0, 1] 0 (ws' := [(a0, oB 8 [.ref a0_row, .int va0_isKept, .ref a0_lanes, .ref a0_sizes, .ref a0_items, .ref a0_tape, .int va0_length, .int o29, .int va0_number, .ref a0_readIce, .int va0_readCells, .ref a0_readPeople, .int va0_readMany, .ref a0_readSayings, .int va0_readSaid, .ref a0_line, .ref a0_bestLine, .int va0_bestFar, .int va0_bestIce, .ref a0_seen, .ref a0_held]), (a0_tape, aI E 110 va0_tape), (a0_readPeople, aI E 12 va0_readPeople)]) dX8_readsPerson_92 lkX8_129 rfl ⟨rfl, rfl⟩ ⟨by decide, by decide⟩ rfl rfl rfl rfl (Nat.le_of_ble_eq_true rfl) rfl rfl rfl ?_
          refine g_st (st' := [.int o31]) rfl ?_
          refine g_if_ne k (tgt := 100) dX8_readsPerson_95 (by decide) (fun c33 => ?_) (fun c33 => ?_)
          · replace hf := ite_f c33 hf
            refine g_aload_n k 1 dX8_readsPerson_100 rfl rfl ?_
            refine g_get k cfX8 11 0 dX8_readsPerson_101 lkX8_29 (by decide) rfl rfl ?_
            refine g_iconst k dX8_readsPerson_104 ic_2 ?_
            refine g_aload_n k 1 dX8_readsPerson_105 rfl rfl ?_
            refine g_get k cfX8 12 0 dX8_readsPerson_106 lkX8_138 (by decide) rfl rfl ?_
            refine g_imul k dX8_readsPerson_109 ?_
            refine g_iload_n k 0 dX8_readsPerson_110 rfl rfl ?_
            obtain ⟨κ34, hκ34, hiκ34, heκ34, hf⟩ := ixb_some hf
            refine g_iastore k 2 (ws' := [(a0, oB 8 [.ref a0_row, .int va0_isKept, .ref a0_lanes, .ref a0_sizes, .ref a0_items, .ref a0_tape, .int va0_length, .int o29, .int va0_number, .ref a0_readIce, .int va0_readCells, .ref a0_readPeople, .int va0_readMany, .ref a0_readSayings, .int va0_readSaid, .ref a0_line, .ref a0_bestLine, .int va0_bestFar, .int va0_bestIce, .ref a0_seen, .ref a0_held]), (a0_tape, aI E 110 va0_tape), (a0_readPeople, aI E 12 (upd va0_readPeople κ34 3))]) dX8_readsPerson_111 rfl hiκ34 heκ34 rfl ?_
            refine g_aload_n k 1 dX8_readsPerson_112 rfl rfl ?_
            refine g_get k cfX8 11 0 dX8_readsPerson_113 lkX8_29 (by decide) rfl rfl ?_
            refine g_iconst k dX8_readsPerson_116 ic_2 ?_
            refine g_aload_n k 1 dX8_readsPerson_117 rfl rfl ?_
            refine g_get k cfX8 12 0 dX8_readsPerson_118 lkX8_138 (by decide) rfl rfl ?_
            refine g_imul k dX8_readsPerson_121 ?_
            refine g_iconst k dX8_readsPerson_122 ic_1 ?_
            refine g_iadd k dX8_readsPerson_123 ?_
            refine g_aload_n k 1 dX8_readsPerson_124 rfl rfl ?_
            refine g_get k cfX8 5 0 dX8_readsPerson_125 lkX8_23 (by decide) rfl rfl ?_
            refine g_aload_n k 1 dX8_readsPerson_128 rfl rfl ?_
            refine g_get k cfX8 7 0 dX8_readsPerson_129 lkX8_115 (by decide) rfl rfl ?_
            obtain ⟨κ35, hκ35, hiκ35, heκ35, hf⟩ := ixb_some hf
            refine g_iaload k 1 dX8_readsPerson_132 rfl hiκ35 heκ35 ?_
            refine g_bipush k dX8_readsPerson_133 bi_48 ?_
            refine g_isub k dX8_readsPerson_135 ?_
            obtain ⟨κ36, hκ36, hiκ36, heκ36, hf⟩ := ixb_some hf
            refine g_iastore k 2 (ws' := [(a0, oB 8 [.ref a0_row, .int va0_isKept, .ref a0_lanes, .ref a0_sizes, .ref a0_items, .ref a0_tape, .int va0_length, .int o29, .int va0_number, .ref a0_readIce, .int va0_readCells, .ref a0_readPeople, .int va0_readMany, .ref a0_readSayings, .int va0_readSaid, .ref a0_line, .ref a0_bestLine, .int va0_bestFar, .int va0_bestIce, .ref a0_seen, .ref a0_held]), (a0_tape, aI E 110 va0_tape), (a0_readPeople, aI E 12 (upd (upd va0_readPeople κ34 3) κ36 ((va0_tape κ35) - 48)))]) dX8_readsPerson_136 rfl hiκ36 heκ36 rfl ?_
            refine g_aload_n k 1 dX8_readsPerson_137 rfl rfl ?_
            refine g_dup k dX8_readsPerson_138 rfl ?_
            refine g_get k cfX8 12 0 dX8_readsPerson_139 lkX8_138 (by decide) rfl rfl ?_
            refine g_iconst k dX8_readsPerson_142 ic_1 ?_
            refine g_iadd k dX8_readsPerson_143 ?_
            refine g_put k cfX8 12 0 (ws' := [(a0, oB 8 [.ref a0_row, .int va0_isKept, .ref a0_lanes, .ref a0_sizes, .ref a0_items, .ref a0_tape, .int va0_length, .int o29, .int va0_number, .ref a0_readIce, .int va0_readCells, .ref a0_readPeople, .int (va0_readMany + 1), .ref a0_readSayings, .int va0_readSaid, .ref a0_line, .ref a0_bestLine, .int va0_bestFar, .int va0_bestIce, .ref a0_seen, .ref a0_held]), (a0_tape, aI E 110 va0_tape), (a0_readPeople, aI E 12 (upd (upd va0_readPeople κ34 3) κ36 ((va0_tape κ35) - 48)))]) dX8_readsPerson_144 lkX8_138 (by decide) rfl rfl rfl rfl (Nat.le_of_ble_eq_true rfl) rfl ?_
            refine g_aload_n k 1 dX8_readsPerson_147 rfl rfl ?_
            refine g_dup k dX8_readsPerson_148 rfl ?_
            refine g_get k cfX8 7 0 dX8_readsPerson_149 lkX8_115 (by decide) rfl rfl ?_
            refine g_iconst k dX8_readsPerson_152 ic_1 ?_
            refine g_iadd k dX8_readsPerson_153 ?_
            refine g_put k cfX8 7 0 (ws' := [(a0, oB 8 [.ref a0_row, .int va0_isKept, .ref a0_lanes, .ref a0_sizes, .ref a0_items, .ref a0_tape, .int va0_length, .int (o29 + 1), .int va0_number, .ref a0_readIce, .int va0_readCells, .ref a0_readPeople, .int (va0_readMany + 1), .ref a0_readSayings, .int va0_readSaid, .ref a0_line, .ref a0_bestLine, .int va0_bestFar, .int va0_bestIce, .ref a0_seen, .ref a0_held]), (a0_tape, aI E 110 va0_tape), (a0_readPeople, aI E 12 (upd (upd va0_readPeople κ34 3) κ36 ((va0_tape κ35) - 48)))]) dX8_readsPerson_154 lkX8_115 (by decide) rfl rfl rfl rfl (Nat.le_of_ble_eq_true rfl) rfl ?_
            refine g_aload_n k 1 dX8_readsPerson_157 rfl rfl ?_
            obtain ⟨o37, ho38, hf⟩ := bnd_some hf
            refine g_cv k miX8_skip mvX8_skip (ctX8_skip (kL K) E N a0 a0_row a0_lanes a0_sizes a0_items a0_tape a0_readIce a0_readPeople a0_readSayings a0_line a0_bestLine a0_seen a0_held va0_isKept va0_length (o29 + 1) va0_number va0_readCells (va0_readMany + 1) va0_readSaid va0_bestFar va0_bestIce va0_tape  o37 ho38) [0, 1] 0 (ws' := [(a0, oB 8 [.ref a0_row, .int va0_isKept, .ref a0_lanes, .ref a0_sizes, .ref a0_items, .ref a0_tape, .int va0_length, .int o37, .int va0_number, .ref a0_readIce, .int va0_readCells, .ref a0_readPeople, .int (va0_readMany + 1), .ref a0_readSayings, .int va0_readSaid, .ref a0_line, .ref a0_bestLine, .int va0_bestFar, .int va0_bestIce, .ref a0_seen, .ref a0_held]), (a0_tape, aI E 110 va0_tape), (a0_readPeople, aI E 12 (upd (upd va0_readPeople κ34 3) κ36 ((va0_tape κ35) - 48)))]) dX8_readsPerson_158 lkX8_123 rfl ⟨rfl, rfl⟩ ⟨by decide, by decide⟩ rfl rfl rfl rfl (Nat.le_of_ble_eq_true rfl) rfl rfl rfl ?_
            refine g_st (st' := []) rfl ?_
            refine g_iconst k dX8_readsPerson_161 ic_1 ?_
            obtain rfl := Option.some.inj hf
            exact g_zret k (rfl) r dX8_readsPerson_162 ⟨rfl, rfl⟩
          · replace hf := ite_t c33 hf
            refine g_iconst k dX8_readsPerson_98 ic_0 ?_
            obtain rfl := Option.some.inj hf
            exact g_zret k (rfl) r dX8_readsPerson_99 ⟨rfl, rfl⟩
      · replace hf := ite_f c9 hf
        refine g_iconst k dX8_readsPerson_35 ic_2 ?_
        refine g_goto k (tgt := 67) dX8_readsPerson_36 (by decide) ?_
        refine g_istore_n k (lv' := [(1, .int 2), (0, .ref a0)]) dX8_readsPerson_67 rfl (by decide) rfl ?_
        refine g_iload_n k 0 dX8_readsPerson_68 rfl rfl ?_
        refine g_bipush k dX8_readsPerson_69 bi_m4 ?_
        refine g_icmp_ne k (tgt := 76) dX8_readsPerson_71 (by decide) (fun _ => ?_) (fun c39 => absurd c39 (by decide))
        refine g_aload_n k 1 dX8_readsPerson_76 rfl rfl ?_
        refine g_dup k dX8_readsPerson_77 rfl ?_
        refine g_get k cfX8 7 0 dX8_readsPerson_78 lkX8_115 (by decide) rfl rfl ?_
        refine g_iconst k dX8_readsPerson_81 ic_1 ?_
        refine g_iadd k dX8_readsPerson_82 ?_
        refine g_put k cfX8 7 0 (ws' := [(a0, oB 8 [.ref a0_row, .int va0_isKept, .ref a0_lanes, .ref a0_sizes, .ref a0_items, .ref a0_tape, .int va0_length, .int (va0_at + 1), .int va0_number, .ref a0_readIce, .int va0_readCells, .ref a0_readPeople, .int va0_readMany, .ref a0_readSayings, .int va0_readSaid, .ref a0_line, .ref a0_bestLine, .int va0_bestFar, .int va0_bestIce, .ref a0_seen, .ref a0_held]), (a0_tape, aI E 110 va0_tape), (a0_readPeople, aI E 12 va0_readPeople)]) dX8_readsPerson_83 lkX8_115 (by decide) rfl rfl rfl rfl (Nat.le_of_ble_eq_true rfl) rfl ?_
        refine g_aload_n k 1 dX8_readsPerson_86 rfl rfl ?_
        obtain ⟨o40, ho41, hf⟩ := bnd_some hf
        refine g_cv k miX8_skip mvX8_skip (ctX8_skip (kL K) E N a0 a0_row a0_lanes a0_sizes a0_items a0_tape a0_readIce a0_readPeople a0_readSayings a0_line a0_bestLine a0_seen a0_held va0_isKept va0_length (va0_at + 1) va0_number va0_readCells va0_readMany va0_readSaid va0_bestFar va0_bestIce va0_tape  o40 ho41) [0, 1] 0 (ws' := [(a0, oB 8 [.ref a0_row, .int va0_isKept, .ref a0_lanes, .ref a0_sizes, .ref a0_items, .ref a0_tape, .int va0_length, .int o40, .int va0_number, .ref a0_readIce, .int va0_readCells, .ref a0_readPeople, .int va0_readMany, .ref a0_readSayings, .int va0_readSaid, .ref a0_line, .ref a0_bestLine, .int va0_bestFar, .int va0_bestIce, .ref a0_seen, .ref a0_held]), (a0_tape, aI E 110 va0_tape), (a0_readPeople, aI E 12 va0_readPeople)]) dX8_readsPerson_87 lkX8_123 rfl ⟨rfl, rfl⟩ ⟨by decide, by decide⟩ rfl rfl rfl rfl (Nat.le_of_ble_eq_true rfl) rfl rfl rfl ?_
        refine g_st (st' := []) rfl ?_
        refine g_aload_n k 1 dX8_readsPerson_90 rfl rfl ?_
        refine g_iconst k dX8_readsPerson_91 ic_1 ?_
        obtain ⟨o42, ho43, hf⟩ := bnd_some hf
        refine g_cv k miX8_isDigit mvX8_isDigit (ctX8_isDigit (kL K) E N a0 a0_row a0_lanes a0_sizes a0_items a0_tape a0_readIce a0_readPeople a0_readSayings a0_line a0_bestLine a0_seen a0_held va0_isKept va0_length o40 va0_number va0_readCells va0_readMany va0_readSaid va0_bestFar va0_bestIce va0_tape 1 o42 ho43) [0, 1] 0 (ws' := [(a0, oB 8 [.ref a0_row, .int va0_isKept, .ref a0_lanes, .ref a0_sizes, .ref a0_items, .ref a0_tape, .int va0_length, .int o40, .int va0_number, .ref a0_readIce, .int va0_readCells, .ref a0_readPeople, .int va0_readMany, .ref a0_readSayings, .int va0_readSaid, .ref a0_line, .ref a0_bestLine, .int va0_bestFar, .int va0_bestIce, .ref a0_seen, .ref a0_held]), (a0_tape, aI E 110 va0_tape), (a0_readPeople, aI E 12 va0_readPeople)]) dX8_readsPerson_92 lkX8_129 rfl ⟨rfl, rfl⟩ ⟨by decide, by decide⟩ rfl rfl rfl rfl (Nat.le_of_ble_eq_true rfl) rfl rfl rfl ?_
        refine g_st (st' := [.int o42]) rfl ?_
        refine g_if_ne k (tgt := 100) dX8_readsPerson_95 (by decide) (fun c44 => ?_) (fun c44 => ?_)
        · replace hf := ite_f c44 hf
          refine g_aload_n k 1 dX8_readsPerson_100 rfl rfl ?_
          refine g_get k cfX8 11 0 dX8_readsPerson_101 lkX8_29 (by decide) rfl rfl ?_
          refine g_iconst k dX8_readsPerson_104 ic_2 ?_
          refine g_aload_n k 1 dX8_readsPerson_105 rfl rfl ?_
          refine g_get k cfX8 12 0 dX8_readsPerson_106 lkX8_138 (by decide) rfl rfl ?_
          refine g_imul k dX8_readsPerson_109 ?_
          refine g_iload_n k 0 dX8_readsPerson_110 rfl rfl ?_
          obtain ⟨κ45, hκ45, hiκ45, heκ45, hf⟩ := ixb_some hf
          refine g_iastore k 2 (ws' := [(a0, oB 8 [.ref a0_row, .int va0_isKept, .ref a0_lanes, .ref a0_sizes, .ref a0_items, .ref a0_tape, .int va0_length, .int o40, .int va0_number, .ref a0_readIce, .int va0_readCells, .ref a0_readPeople, .int va0_readMany, .ref a0_readSayings, .int va0_readSaid, .ref a0_line, .ref a0_bestLine, .int va0_bestFar, .int va0_bestIce, .ref a0_seen, .ref a0_held]), (a0_tape, aI E 110 va0_tape), (a0_readPeople, aI E 12 (upd va0_readPeople κ45 2))]) dX8_readsPerson_111 rfl hiκ45 heκ45 rfl ?_
          refine g_aload_n k 1 dX8_readsPerson_112 rfl rfl ?_
          refine g_get k cfX8 11 0 dX8_readsPerson_113 lkX8_29 (by decide) rfl rfl ?_
          refine g_iconst k dX8_readsPerson_116 ic_2 ?_
          refine g_aload_n k 1 dX8_readsPerson_117 rfl rfl ?_
          refine g_get k cfX8 12 0 dX8_readsPerson_118 lkX8_138 (by decide) rfl rfl ?_
          refine g_imul k dX8_readsPerson_121 ?_
          refine g_iconst k dX8_readsPerson_122 ic_1 ?_
          refine g_iadd k dX8_readsPerson_123 ?_
          refine g_aload_n k 1 dX8_readsPerson_124 rfl rfl ?_
          refine g_get k cfX8 5 0 dX8_readsPerson_125 lkX8_23 (by decide) rfl rfl ?_
          refine g_aload_n k 1 dX8_readsPerson_128 rfl rfl ?_
          refine g_get k cfX8 7 0 dX8_readsPerson_129 lkX8_115 (by decide) rfl rfl ?_
          obtain ⟨κ46, hκ46, hiκ46, heκ46, hf⟩ := ixb_some hf
          refine g_iaload k 1 dX8_readsPerson_132 rfl hiκ46 heκ46 ?_
          refine g_bipush k dX8_readsPerson_133 bi_48 ?_
          refine g_isub k dX8_readsPerson_135 ?_
          obtain ⟨κ47, hκ47, hiκ47, heκ47, hf⟩ := ixb_some hf
          refine g_iastore k 2 (ws' := [(a0, oB 8 [.ref a0_row, .int va0_isKept, .ref a0_lanes, .ref a0_sizes, .ref a0_items, .ref a0_tape, .int va0_length, .int o40, .int va0_number, .ref a0_readIce, .int va0_readCells, .ref a0_readPeople, .int va0_readMany, .ref a0_readSayings, .int va0_readSaid, .ref a0_line, .ref a0_bestLine, .int va0_bestFar, .int va0_bestIce, .ref a0_seen, .ref a0_held]), (a0_tape, aI E 110 va0_tape), (a0_readPeople, aI E 12 (upd (upd va0_readPeople κ45 2) κ47 ((va0_tape κ46) - 48)))]) dX8_readsPerson_136 rfl hiκ47 heκ47 rfl ?_
          refine g_aload_n k 1 dX8_readsPerson_137 rfl rfl ?_
          refine g_dup k dX8_readsPerson_138 rfl ?_
          refine g_get k cfX8 12 0 dX8_readsPerson_139 lkX8_138 (by decide) rfl rfl ?_
          refine g_iconst k dX8_readsPerson_142 ic_1 ?_
          refine g_iadd k dX8_readsPerson_143 ?_
          refine g_put k cfX8 12 0 (ws' := [(a0, oB 8 [.ref a0_row, .int va0_isKept, .ref a0_lanes, .ref a0_sizes, .ref a0_items, .ref a0_tape, .int va0_length, .int o40, .int va0_number, .ref a0_readIce, .int va0_readCells, .ref a0_readPeople, .int (va0_readMany + 1), .ref a0_readSayings, .int va0_readSaid, .ref a0_line, .ref a0_bestLine, .int va0_bestFar, .int va0_bestIce, .ref a0_seen, .ref a0_held]), (a0_tape, aI E 110 va0_tape), (a0_readPeople, aI E 12 (upd (upd va0_readPeople κ45 2) κ47 ((va0_tape κ46) - 48)))]) dX8_readsPerson_144 lkX8_138 (by decide) rfl rfl rfl rfl (Nat.le_of_ble_eq_true rfl) rfl ?_
          refine g_aload_n k 1 dX8_readsPerson_147 rfl rfl ?_
          refine g_dup k dX8_readsPerson_148 rfl ?_
          refine g_get k cfX8 7 0 dX8_readsPerson_149 lkX8_115 (by decide) rfl rfl ?_
          refine g_iconst k dX8_readsPerson_152 ic_1 ?_
          refine g_iadd k dX8_readsPerson_153 ?_
          refine g_put k cfX8 7 0 (ws' := [(a0, oB 8 [.ref a0_row, .int va0_isKept, .ref a0_lanes, .ref a0_sizes, .ref a0_items, .ref a0_tape, .int va0_length, .int (o40 + 1), .int va0_number, .ref a0_readIce, .int va0_readCells, .ref a0_readPeople, .int (va0_readMany + 1), .ref a0_readSayings, .int va0_readSaid, .ref a0_line, .ref a0_bestLine, .int va0_bestFar, .int va0_bestIce, .ref a0_seen, .ref a0_held]), (a0_tape, aI E 110 va0_tape), (a0_readPeople, aI E 12 (upd (upd va0_readPeople κ45 2) κ47 ((va0_tape κ46) - 48)))]) dX8_readsPerson_154 lkX8_115 (by decide) rfl rfl rfl rfl (Nat.le_of_ble_eq_true rfl) rfl ?_
          refine g_aload_n k 1 dX8_readsPerson_157 rfl rfl ?_
          obtain ⟨o48, ho49, hf⟩ := bnd_some hf
          refine g_cv k miX8_skip mvX8_skip (ctX8_skip (kL K) E N a0 a0_row a0_lanes a0_sizes a0_items a0_tape a0_readIce a0_readPeople a0_readSayings a0_line a0_bestLine a0_seen a0_held va0_isKept va0_length (o40 + 1) va0_number va0_readCells (va0_readMany + 1) va0_readSaid va0_bestFar va0_bestIce va0_tape  o48 ho49) [0, 1] 0 (ws' := [(a0, oB 8 [.ref a0_row, .int va0_isKept, .ref a0_lanes, .ref a0_sizes, .ref a0_items, .ref a0_tape, .int va0_length, .int o48, .int va0_number, .ref a0_readIce, .int va0_readCells, .ref a0_readPeople, .int (va0_readMany + 1), .ref a0_readSayings, .int va0_readSaid, .ref a0_line, .ref a0_bestLine, .int va0_bestFar, .int va0_bestIce, .ref a0_seen, .ref a0_held]), (a0_tape, aI E 110 va0_tape), (a0_readPeople, aI E 12 (upd (upd va0_readPeople κ45 2) κ47 ((va0_tape κ46) - 48)))]) dX8_readsPerson_158 lkX8_123 rfl ⟨rfl, rfl⟩ ⟨by decide, by decide⟩ rfl rfl rfl rfl (Nat.le_of_ble_eq_true rfl) rfl rfl rfl ?_
          refine g_st (st' := []) rfl ?_
          refine g_iconst k dX8_readsPerson_161 ic_1 ?_
          obtain rfl := Option.some.inj hf
          exact g_zret k (rfl) r dX8_readsPerson_162 ⟨rfl, rfl⟩
        · replace hf := ite_t c44 hf
          refine g_iconst k dX8_readsPerson_98 ic_0 ?_
          obtain rfl := Option.some.inj hf
          exact g_zret k (rfl) r dX8_readsPerson_99 ⟨rfl, rfl⟩
    · replace hf := ite_f c6 hf
      refine g_iconst k dX8_readsPerson_22 ic_1 ?_
      refine g_goto k (tgt := 67) dX8_readsPerson_23 (by decide) ?_
      refine g_istore_n k (lv' := [(1, .int 1), (0, .ref a0)]) dX8_readsPerson_67 rfl (by decide) rfl ?_
      refine g_iload_n k 0 dX8_readsPerson_68 rfl rfl ?_
      refine g_bipush k dX8_readsPerson_69 bi_m4 ?_
      refine g_icmp_ne k (tgt := 76) dX8_readsPerson_71 (by decide) (fun _ => ?_) (fun c50 => absurd c50 (by decide))
      refine g_aload_n k 1 dX8_readsPerson_76 rfl rfl ?_
      refine g_dup k dX8_readsPerson_77 rfl ?_
      refine g_get k cfX8 7 0 dX8_readsPerson_78 lkX8_115 (by decide) rfl rfl ?_
      refine g_iconst k dX8_readsPerson_81 ic_1 ?_
      refine g_iadd k dX8_readsPerson_82 ?_
      refine g_put k cfX8 7 0 (ws' := [(a0, oB 8 [.ref a0_row, .int va0_isKept, .ref a0_lanes, .ref a0_sizes, .ref a0_items, .ref a0_tape, .int va0_length, .int (va0_at + 1), .int va0_number, .ref a0_readIce, .int va0_readCells, .ref a0_readPeople, .int va0_readMany, .ref a0_readSayings, .int va0_readSaid, .ref a0_line, .ref a0_bestLine, .int va0_bestFar, .int va0_bestIce, .ref a0_seen, .ref a0_held]), (a0_tape, aI E 110 va0_tape), (a0_readPeople, aI E 12 va0_readPeople)]) dX8_readsPerson_83 lkX8_115 (by decide) rfl rfl rfl rfl (Nat.le_of_ble_eq_true rfl) rfl ?_
      refine g_aload_n k 1 dX8_readsPerson_86 rfl rfl ?_
      obtain ⟨o51, ho52, hf⟩ := bnd_some hf
      refine g_cv k miX8_skip mvX8_skip (ctX8_skip (kL K) E N a0 a0_row a0_lanes a0_sizes a0_items a0_tape a0_readIce a0_readPeople a0_readSayings a0_line a0_bestLine a0_seen a0_held va0_isKept va0_length (va0_at + 1) va0_number va0_readCells va0_readMany va0_readSaid va0_bestFar va0_bestIce va0_tape  o51 ho52) [0, 1] 0 (ws' := [(a0, oB 8 [.ref a0_row, .int va0_isKept, .ref a0_lanes, .ref a0_sizes, .ref a0_items, .ref a0_tape, .int va0_length, .int o51, .int va0_number, .ref a0_readIce, .int va0_readCells, .ref a0_readPeople, .int va0_readMany, .ref a0_readSayings, .int va0_readSaid, .ref a0_line, .ref a0_bestLine, .int va0_bestFar, .int va0_bestIce, .ref a0_seen, .ref a0_held]), (a0_tape, aI E 110 va0_tape), (a0_readPeople, aI E 12 va0_readPeople)]) dX8_readsPerson_87 lkX8_123 rfl ⟨rfl, rfl⟩ ⟨by decide, by decide⟩ rfl rfl rfl rfl (Nat.le_of_ble_eq_true rfl) rfl rfl rfl ?_
      refine g_st (st' := []) rfl ?_
      refine g_aload_n k 1 dX8_readsPerson_90 rfl rfl ?_
      refine g_iconst k dX8_readsPerson_91 ic_1 ?_
      obtain ⟨o53, ho54, hf⟩ := bnd_some hf
      refine g_cv k miX8_isDigit mvX8_isDigit (ctX8_isDigit (kL K) E N a0 a0_row a0_lanes a0_sizes a0_items a0_tape a0_readIce a0_readPeople a0_readSayings a0_line a0_bestLine a0_seen a0_held va0_isKept va0_length o51 va0_number va0_readCells va0_readMany va0_readSaid va0_bestFar va0_bestIce va0_tape 1 o53 ho54) [0, 1] 0 (ws' := [(a0, oB 8 [.ref a0_row, .int va0_isKept, .ref a0_lanes, .ref a0_sizes, .ref a0_items, .ref a0_tape, .int va0_length, .int o51, .int va0_number, .ref a0_readIce, .int va0_readCells, .ref a0_readPeople, .int va0_readMany, .ref a0_readSayings, .int va0_readSaid, .ref a0_line, .ref a0_bestLine, .int va0_bestFar, .int va0_bestIce, .ref a0_seen, .ref a0_held]), (a0_tape, aI E 110 va0_tape), (a0_readPeople, aI E 12 va0_readPeople)]) dX8_readsPerson_92 lkX8_129 rfl ⟨rfl, rfl⟩ ⟨by decide, by decide⟩ rfl rfl rfl rfl (Nat.le_of_ble_eq_true rfl) rfl rfl rfl ?_
      refine g_st (st' := [.int o53]) rfl ?_
      refine g_if_ne k (tgt := 100) dX8_readsPerson_95 (by decide) (fun c55 => ?_) (fun c55 => ?_)
      · replace hf := ite_f c55 hf
        refine g_aload_n k 1 dX8_readsPerson_100 rfl rfl ?_
        refine g_get k cfX8 11 0 dX8_readsPerson_101 lkX8_29 (by decide) rfl rfl ?_
        refine g_iconst k dX8_readsPerson_104 ic_2 ?_
        refine g_aload_n k 1 dX8_readsPerson_105 rfl rfl ?_
        refine g_get k cfX8 12 0 dX8_readsPerson_106 lkX8_138 (by decide) rfl rfl ?_
        refine g_imul k dX8_readsPerson_109 ?_
        refine g_iload_n k 0 dX8_readsPerson_110 rfl rfl ?_
        obtain ⟨κ56, hκ56, hiκ56, heκ56, hf⟩ := ixb_some hf
        refine g_iastore k 2 (ws' := [(a0, oB 8 [.ref a0_row, .int va0_isKept, .ref a0_lanes, .ref a0_sizes, .ref a0_items, .ref a0_tape, .int va0_length, .int o51, .int va0_number, .ref a0_readIce, .int va0_readCells, .ref a0_readPeople, .int va0_readMany, .ref a0_readSayings, .int va0_readSaid, .ref a0_line, .ref a0_bestLine, .int va0_bestFar, .int va0_bestIce, .ref a0_seen, .ref a0_held]), (a0_tape, aI E 110 va0_tape), (a0_readPeople, aI E 12 (upd va0_readPeople κ56 1))]) dX8_readsPerson_111 rfl hiκ56 heκ56 rfl ?_
        refine g_aload_n k 1 dX8_readsPerson_112 rfl rfl ?_
        refine g_get k cfX8 11 0 dX8_readsPerson_113 lkX8_29 (by decide) rfl rfl ?_
        refine g_iconst k dX8_readsPerson_116 ic_2 ?_
        refine g_aload_n k 1 dX8_readsPerson_117 rfl rfl ?_
        refine g_get k cfX8 12 0 dX8_readsPerson_118 lkX8_138 (by decide) rfl rfl ?_
        refine g_imul k dX8_readsPerson_121 ?_
        refine g_iconst k dX8_readsPerson_122 ic_1 ?_
        refine g_iadd k dX8_readsPerson_123 ?_
        refine g_aload_n k 1 dX8_readsPerson_124 rfl rfl ?_
        refine g_get k cfX8 5 0 dX8_readsPerson_125 lkX8_23 (by decide) rfl rfl ?_
        refine g_aload_n k 1 dX8_readsPerson_128 rfl rfl ?_
        refine g_get k cfX8 7 0 dX8_readsPerson_129 lkX8_115 (by decide) rfl rfl ?_
        obtain ⟨κ57, hκ57, hiκ57, heκ57, hf⟩ := ixb_some hf
        refine g_iaload k 1 dX8_readsPerson_132 rfl hiκ57 heκ57 ?_
        refine g_bipush k dX8_readsPerson_133 bi_48 ?_
        refine g_isub k dX8_readsPerson_135 ?_
        obtain ⟨κ58, hκ58, hiκ58, heκ58, hf⟩ := ixb_some hf
        refine g_iastore k 2 (ws' := [(a0, oB 8 [.ref a0_row, .int va0_isKept, .ref a0_lanes, .ref a0_sizes, .ref a0_items, .ref a0_tape, .int va0_length, .int o51, .int va0_number, .ref a0_readIce, .int va0_readCells, .ref a0_readPeople, .int va0_readMany, .ref a0_readSayings, .int va0_readSaid, .ref a0_line, .ref a0_bestLine, .int va0_bestFar, .int va0_bestIce, .ref a0_seen, .ref a0_held]), (a0_tape, aI E 110 va0_tape), (a0_readPeople, aI E 12 (upd (upd va0_readPeople κ56 1) κ58 ((va0_tape κ57) - 48)))]) dX8_readsPerson_136 rfl hiκ58 heκ58 rfl ?_
        refine g_aload_n k 1 dX8_readsPerson_137 rfl rfl ?_
        refine g_dup k dX8_readsPerson_138 rfl ?_
        refine g_get k cfX8 12 0 dX8_readsPerson_139 lkX8_138 (by decide) rfl rfl ?_
        refine g_iconst k dX8_readsPerson_142 ic_1 ?_
        refine g_iadd k dX8_readsPerson_143 ?_
        refine g_put k cfX8 12 0 (ws' := [(a0, oB 8 [.ref a0_row, .int va0_isKept, .ref a0_lanes, .ref a0_sizes, .ref a0_items, .ref a0_tape, .int va0_length, .int o51, .int va0_number, .ref a0_readIce, .int va0_readCells, .ref a0_readPeople, .int (va0_readMany + 1), .ref a0_readSayings, .int va0_readSaid, .ref a0_line, .ref a0_bestLine, .int va0_bestFar, .int va0_bestIce, .ref a0_seen, .ref a0_held]), (a0_tape, aI E 110 va0_tape), (a0_readPeople, aI E 12 (upd (upd va0_readPeople κ56 1) κ58 ((va0_tape κ57) - 48)))]) dX8_readsPerson_144 lkX8_138 (by decide) rfl rfl rfl rfl (Nat.le_of_ble_eq_true rfl) rfl ?_
        refine g_aload_n k 1 dX8_readsPerson_147 rfl rfl ?_
        refine g_dup k dX8_readsPerson_148 rfl ?_
        refine g_get k cfX8 7 0 dX8_readsPerson_149 lkX8_115 (by decide) rfl rfl ?_
        refine g_iconst k dX8_readsPerson_152 ic_1 ?_
        refine g_iadd k dX8_readsPerson_153 ?_
        refine g_put k cfX8 7 0 (ws' := [(a0, oB 8 [.ref a0_row, .int va0_isKept, .ref a0_lanes, .ref a0_sizes, .ref a0_items, .ref a0_tape, .int va0_length, .int (o51 + 1), .int va0_number, .ref a0_readIce, .int va0_readCells, .ref a0_readPeople, .int (va0_readMany + 1), .ref a0_readSayings, .int va0_readSaid, .ref a0_line, .ref a0_bestLine, .int va0_bestFar, .int va0_bestIce, .ref a0_seen, .ref a0_held]), (a0_tape, aI E 110 va0_tape), (a0_readPeople, aI E 12 (upd (upd va0_readPeople κ56 1) κ58 ((va0_tape κ57) - 48)))]) dX8_readsPerson_154 lkX8_115 (by decide) rfl rfl rfl rfl (Nat.le_of_ble_eq_true rfl) rfl ?_
        refine g_aload_n k 1 dX8_readsPerson_157 rfl rfl ?_
        obtain ⟨o59, ho60, hf⟩ := bnd_some hf
        refine g_cv k miX8_skip mvX8_skip (ctX8_skip (kL K) E N a0 a0_row a0_lanes a0_sizes a0_items a0_tape a0_readIce a0_readPeople a0_readSayings a0_line a0_bestLine a0_seen a0_held va0_isKept va0_length (o51 + 1) va0_number va0_readCells (va0_readMany + 1) va0_readSaid va0_bestFar va0_bestIce va0_tape  o59 ho60) [0, 1] 0 (ws' := [(a0, oB 8 [.ref a0_row, .int va0_isKept, .ref a0_lanes, .ref a0_sizes, .ref a0_items, .ref a0_tape, .int va0_length, .int o59, .int va0_number, .ref a0_readIce, .int va0_readCells, .ref a0_readPeople, .int (va0_readMany + 1), .ref a0_readSayings, .int va0_readSaid, .ref a0_line, .ref a0_bestLine, .int va0_bestFar, .int va0_bestIce, .ref a0_seen, .ref a0_held]), (a0_tape, aI E 110 va0_tape), (a0_readPeople, aI E 12 (upd (upd va0_readPeople κ56 1) κ58 ((va0_tape κ57) - 48)))]) dX8_readsPerson_158 lkX8_123 rfl ⟨rfl, rfl⟩ ⟨by decide, by decide⟩ rfl rfl rfl rfl (Nat.le_of_ble_eq_true rfl) rfl rfl rfl ?_
        refine g_st (st' := []) rfl ?_
        refine g_iconst k dX8_readsPerson_161 ic_1 ?_
        obtain rfl := Option.some.inj hf
        exact g_zret k (rfl) r dX8_readsPerson_162 ⟨rfl, rfl⟩
      · replace hf := ite_t c55 hf
        refine g_iconst k dX8_readsPerson_98 ic_0 ?_
        obtain rfl := Option.some.inj hf
        exact g_zret k (rfl) r dX8_readsPerson_99 ⟨rfl, rfl⟩
  · replace hf := ite_f c3 hf
    refine g_iconst k dX8_readsPerson_9 ic_0 ?_
    refine g_goto k (tgt := 67) dX8_readsPerson_10 (by decide) ?_
    refine g_istore_n k (lv' := [(1, .int 0), (0, .ref a0)]) dX8_readsPerson_67 rfl (by decide) rfl ?_
    refine g_iload_n k 0 dX8_readsPerson_68 rfl rfl ?_
    refine g_bipush k dX8_readsPerson_69 bi_m4 ?_
    refine g_icmp_ne k (tgt := 76) dX8_readsPerson_71 (by decide) (fun _ => ?_) (fun c61 => absurd c61 (by decide))
    refine g_aload_n k 1 dX8_readsPerson_76 rfl rfl ?_
    refine g_dup k dX8_readsPerson_77 rfl ?_
    refine g_get k cfX8 7 0 dX8_readsPerson_78 lkX8_115 (by decide) rfl rfl ?_
    refine g_iconst k dX8_readsPerson_81 ic_1 ?_
    refine g_iadd k dX8_readsPerson_82 ?_
    refine g_put k cfX8 7 0 (ws' := [(a0, oB 8 [.ref a0_row, .int va0_isKept, .ref a0_lanes, .ref a0_sizes, .ref a0_items, .ref a0_tape, .int va0_length, .int (va0_at + 1), .int va0_number, .ref a0_readIce, .int va0_readCells, .ref a0_readPeople, .int va0_readMany, .ref a0_readSayings, .int va0_readSaid, .ref a0_line, .ref a0_bestLine, .int va0_bestFar, .int va0_bestIce, .ref a0_seen, .ref a0_held]), (a0_tape, aI E 110 va0_tape), (a0_readPeople, aI E 12 va0_readPeople)]) dX8_readsPerson_83 lkX8_115 (by decide) rfl rfl rfl rfl (Nat.le_of_ble_eq_true rfl) rfl ?_
    refine g_aload_n k 1 dX8_readsPerson_86 rfl rfl ?_
    obtain ⟨o62, ho63, hf⟩ := bnd_some hf
    refine g_cv k miX8_skip mvX8_skip (ctX8_skip (kL K) E N a0 a0_row a0_lanes a0_sizes a0_items a0_tape a0_readIce a0_readPeople a0_readSayings a0_line a0_bestLine a0_seen a0_held va0_isKept va0_length (va0_at + 1) va0_number va0_readCells va0_readMany va0_readSaid va0_bestFar va0_bestIce va0_tape  o62 ho63) [0, 1] 0 (ws' := [(a0, oB 8 [.ref a0_row, .int va0_isKept, .ref a0_lanes, .ref a0_sizes, .ref a0_items, .ref a0_tape, .int va0_length, .int o62, .int va0_number, .ref a0_readIce, .int va0_readCells, .ref a0_readPeople, .int va0_readMany, .ref a0_readSayings, .int va0_readSaid, .ref a0_line, .ref a0_bestLine, .int va0_bestFar, .int va0_bestIce, .ref a0_seen, .ref a0_held]), (a0_tape, aI E 110 va0_tape), (a0_readPeople, aI E 12 va0_readPeople)]) dX8_readsPerson_87 lkX8_123 rfl ⟨rfl, rfl⟩ ⟨by decide, by decide⟩ rfl rfl rfl rfl (Nat.le_of_ble_eq_true rfl) rfl rfl rfl ?_
    refine g_st (st' := []) rfl ?_
    refine g_aload_n k 1 dX8_readsPerson_90 rfl rfl ?_
    refine g_iconst k dX8_readsPerson_91 ic_1 ?_
    obtain ⟨o64, ho65, hf⟩ := bnd_some hf
    refine g_cv k miX8_isDigit mvX8_isDigit (ctX8_isDigit (kL K) E N a0 a0_row a0_lanes a0_sizes a0_items a0_tape a0_readIce a0_readPeople a0_readSayings a0_line a0_bestLine a0_seen a0_held va0_isKept va0_length o62 va0_number va0_readCells va0_readMany va0_readSaid va0_bestFar va0_bestIce va0_tape 1 o64 ho65) [0, 1] 0 (ws' := [(a0, oB 8 [.ref a0_row, .int va0_isKept, .ref a0_lanes, .ref a0_sizes, .ref a0_items, .ref a0_tape, .int va0_length, .int o62, .int va0_number, .ref a0_readIce, .int va0_readCells, .ref a0_readPeople, .int va0_readMany, .ref a0_readSayings, .int va0_readSaid, .ref a0_line, .ref a0_bestLine, .int va0_bestFar, .int va0_bestIce, .ref a0_seen, .ref a0_held]), (a0_tape, aI E 110 va0_tape), (a0_readPeople, aI E 12 va0_readPeople)]) dX8_readsPerson_92 lkX8_129 rfl ⟨rfl, rfl⟩ ⟨by decide, by decide⟩ rfl rfl rfl rfl (Nat.le_of_ble_eq_true rfl) rfl rfl rfl ?_
    refine g_st (st' := [.int o64]) rfl ?_
    refine g_if_ne k (tgt := 100) dX8_readsPerson_95 (by decide) (fun c66 => ?_) (fun c66 => ?_)
    · replace hf := ite_f c66 hf
      refine g_aload_n k 1 dX8_readsPerson_100 rfl rfl ?_
      refine g_get k cfX8 11 0 dX8_readsPerson_101 lkX8_29 (by decide) rfl rfl ?_
      refine g_iconst k dX8_readsPerson_104 ic_2 ?_
      refine g_aload_n k 1 dX8_readsPerson_105 rfl rfl ?_
      refine g_get k cfX8 12 0 dX8_readsPerson_106 lkX8_138 (by decide) rfl rfl ?_
      refine g_imul k dX8_readsPerson_109 ?_
      refine g_iload_n k 0 dX8_readsPerson_110 rfl rfl ?_
      obtain ⟨κ67, hκ67, hiκ67, heκ67, hf⟩ := ixb_some hf
      refine g_iastore k 2 (ws' := [(a0, oB 8 [.ref a0_row, .int va0_isKept, .ref a0_lanes, .ref a0_sizes, .ref a0_items, .ref a0_tape, .int va0_length, .int o62, .int va0_number, .ref a0_readIce, .int va0_readCells, .ref a0_readPeople, .int va0_readMany, .ref a0_readSayings, .int va0_readSaid, .ref a0_line, .ref a0_bestLine, .int va0_bestFar, .int va0_bestIce, .ref a0_seen, .ref a0_held]), (a0_tape, aI E 110 va0_tape), (a0_readPeople, aI E 12 (upd va0_readPeople κ67 0))]) dX8_readsPerson_111 rfl hiκ67 heκ67 rfl ?_
      refine g_aload_n k 1 dX8_readsPerson_112 rfl rfl ?_
      refine g_get k cfX8 11 0 dX8_readsPerson_113 lkX8_29 (by decide) rfl rfl ?_
      refine g_iconst k dX8_readsPerson_116 ic_2 ?_
      refine g_aload_n k 1 dX8_readsPerson_117 rfl rfl ?_
      refine g_get k cfX8 12 0 dX8_readsPerson_118 lkX8_138 (by decide) rfl rfl ?_
      refine g_imul k dX8_readsPerson_121 ?_
      refine g_iconst k dX8_readsPerson_122 ic_1 ?_
      refine g_iadd k dX8_readsPerson_123 ?_
      refine g_aload_n k 1 dX8_readsPerson_124 rfl rfl ?_
      refine g_get k cfX8 5 0 dX8_readsPerson_125 lkX8_23 (by decide) rfl rfl ?_
      refine g_aload_n k 1 dX8_readsPerson_128 rfl rfl ?_
      refine g_get k cfX8 7 0 dX8_readsPerson_129 lkX8_115 (by decide) rfl rfl ?_
      obtain ⟨κ68, hκ68, hiκ68, heκ68, hf⟩ := ixb_some hf
      refine g_iaload k 1 dX8_readsPerson_132 rfl hiκ68 heκ68 ?_
      refine g_bipush k dX8_readsPerson_133 bi_48 ?_
      refine g_isub k dX8_readsPerson_135 ?_
      obtain ⟨κ69, hκ69, hiκ69, heκ69, hf⟩ := ixb_some hf
      refine g_iastore k 2 (ws' := [(a0, oB 8 [.ref a0_row, .int va0_isKept, .ref a0_lanes, .ref a0_sizes, .ref a0_items, .ref a0_tape, .int va0_length, .int o62, .int va0_number, .ref a0_readIce, .int va0_readCells, .ref a0_readPeople, .int va0_readMany, .ref a0_readSayings, .int va0_readSaid, .ref a0_line, .ref a0_bestLine, .int va0_bestFar, .int va0_bestIce, .ref a0_seen, .ref a0_held]), (a0_tape, aI E 110 va0_tape), (a0_readPeople, aI E 12 (upd (upd va0_readPeople κ67 0) κ69 ((va0_tape κ68) - 48)))]) dX8_readsPerson_136 rfl hiκ69 heκ69 rfl ?_
      refine g_aload_n k 1 dX8_readsPerson_137 rfl rfl ?_
      refine g_dup k dX8_readsPerson_138 rfl ?_
      refine g_get k cfX8 12 0 dX8_readsPerson_139 lkX8_138 (by decide) rfl rfl ?_
      refine g_iconst k dX8_readsPerson_142 ic_1 ?_
      refine g_iadd k dX8_readsPerson_143 ?_
      refine g_put k cfX8 12 0 (ws' := [(a0, oB 8 [.ref a0_row, .int va0_isKept, .ref a0_lanes, .ref a0_sizes, .ref a0_items, .ref a0_tape, .int va0_length, .int o62, .int va0_number, .ref a0_readIce, .int va0_readCells, .ref a0_readPeople, .int (va0_readMany + 1), .ref a0_readSayings, .int va0_readSaid, .ref a0_line, .ref a0_bestLine, .int va0_bestFar, .int va0_bestIce, .ref a0_seen, .ref a0_held]), (a0_tape, aI E 110 va0_tape), (a0_readPeople, aI E 12 (upd (upd va0_readPeople κ67 0) κ69 ((va0_tape κ68) - 48)))]) dX8_readsPerson_144 lkX8_138 (by decide) rfl rfl rfl rfl (Nat.le_of_ble_eq_true rfl) rfl ?_
      refine g_aload_n k 1 dX8_readsPerson_147 rfl rfl ?_
      refine g_dup k dX8_readsPerson_148 rfl ?_
      refine g_get k cfX8 7 0 dX8_readsPerson_149 lkX8_115 (by decide) rfl rfl ?_
      refine g_iconst k dX8_readsPerson_152 ic_1 ?_
      refine g_iadd k dX8_readsPerson_153 ?_
      refine g_put k cfX8 7 0 (ws' := [(a0, oB 8 [.ref a0_row, .int va0_isKept, .ref a0_lanes, .ref a0_sizes, .ref a0_items, .ref a0_tape, .int va0_length, .int (o62 + 1), .int va0_number, .ref a0_readIce, .int va0_readCells, .ref a0_readPeople, .int (va0_readMany + 1), .ref a0_readSayings, .int va0_readSaid, .ref a0_line, .ref a0_bestLine, .int va0_bestFar, .int va0_bestIce, .ref a0_seen, .ref a0_held]), (a0_tape, aI E 110 va0_tape), (a0_readPeople, aI E 12 (upd (upd va0_readPeople κ67 0) κ69 ((va0_tape κ68) - 48)))]) dX8_readsPerson_154 lkX8_115 (by decide) rfl rfl rfl rfl (Nat.le_of_ble_eq_true rfl) rfl ?_
      refine g_aload_n k 1 dX8_readsPerson_157 rfl rfl ?_
      obtain ⟨o70, ho71, hf⟩ := bnd_some hf
      refine g_cv k miX8_skip mvX8_skip (ctX8_skip (kL K) E N a0 a0_row a0_lanes a0_sizes a0_items a0_tape a0_readIce a0_readPeople a0_readSayings a0_line a0_bestLine a0_seen a0_held va0_isKept va0_length (o62 + 1) va0_number va0_readCells (va0_readMany + 1) va0_readSaid va0_bestFar va0_bestIce va0_tape  o70 ho71) [0, 1] 0 (ws' := [(a0, oB 8 [.ref a0_row, .int va0_isKept, .ref a0_lanes, .ref a0_sizes, .ref a0_items, .ref a0_tape, .int va0_length, .int o70, .int va0_number, .ref a0_readIce, .int va0_readCells, .ref a0_readPeople, .int (va0_readMany + 1), .ref a0_readSayings, .int va0_readSaid, .ref a0_line, .ref a0_bestLine, .int va0_bestFar, .int va0_bestIce, .ref a0_seen, .ref a0_held]), (a0_tape, aI E 110 va0_tape), (a0_readPeople, aI E 12 (upd (upd va0_readPeople κ67 0) κ69 ((va0_tape κ68) - 48)))]) dX8_readsPerson_158 lkX8_123 rfl ⟨rfl, rfl⟩ ⟨by decide, by decide⟩ rfl rfl rfl rfl (Nat.le_of_ble_eq_true rfl) rfl rfl rfl ?_
      refine g_st (st' := []) rfl ?_
      refine g_iconst k dX8_readsPerson_161 ic_1 ?_
      obtain rfl := Option.some.inj hf
      exact g_zret k (rfl) r dX8_readsPerson_162 ⟨rfl, rfl⟩
    · replace hf := ite_t c66 hf
      refine g_iconst k dX8_readsPerson_98 ic_0 ?_
      obtain rfl := Option.some.inj hf
      exact g_zret k (rfl) r dX8_readsPerson_99 ⟨rfl, rfl⟩
abbrev rmX8_isFor : Room := { frames := 2, cells := 0, slots := 0, locals := 46 }
def fX8_isFor (N : Nat) (va0_length : Int32) (va0_at : Int32) (va0_readMany : Int32) (va0_tape : Nat → Int32) (x1 : Int32) : Option (Int32) :=
  bnd (fX8_isDigit N va0_length va0_at va0_tape 0) fun o1 =>
  if o1 = 0 then
  some (0)
  else
  ixb va0_at 110 fun κ4 =>
  if va0_readMany ≤ ((va0_tape κ4) - 48) then
  some (0)
  else
  ixb va0_at 110 fun κ6 =>
  if (x1 >>> (((va0_tape κ6) - 48) &&& 31)) = 0 then
  some (1)
  else
  some (0)
set_option maxHeartbeats 4000000 in
set_option maxRecDepth 100000 in
theorem ctX8_isFor (l : Launch) (E : Ev) (N : Nat) (a0 : Nat) (a0_row : Nat) (a0_lanes : Nat) (a0_sizes : Nat) (a0_items : Nat) (a0_tape : Nat) (a0_readIce : Nat) (a0_readPeople : Nat) (a0_readSayings : Nat) (a0_line : Nat) (a0_bestLine : Nat) (a0_seen : Nat) (a0_held : Nat) (va0_isKept : Int32) (va0_length : Int32) (va0_at : Int32) (va0_number : Int32) (va0_readCells : Int32) (va0_readMany : Int32) (va0_readSaid : Int32) (va0_bestFar : Int32) (va0_bestIce : Int32) (va0_tape : Nat → Int32) (x1 : Int32) (out : Int32) (hf : fX8_isFor N va0_length va0_at va0_readMany va0_tape x1 = some out) : Ct l E yX8_isFor cX8_isFor 2 (some .boolean) rmX8_isFor [.ref a0, .int x1] [(a0, oB 8 [.ref a0_row, .int va0_isKept, .ref a0_lanes, .ref a0_sizes, .ref a0_items, .ref a0_tape, .int va0_length, .int va0_at, .int va0_number, .ref a0_readIce, .int va0_readCells, .ref a0_readPeople, .int va0_readMany, .ref a0_readSayings, .int va0_readSaid, .ref a0_line, .ref a0_bestLine, .int va0_bestFar, .int va0_bestIce, .ref a0_seen, .ref a0_held]), (a0_tape, aI E 110 va0_tape)] (Pe (some (.int out)) [(a0, oB 8 [.ref a0_row, .int va0_isKept, .ref a0_lanes, .ref a0_sizes, .ref a0_items, .ref a0_tape, .int va0_length, .int va0_at, .int va0_number, .ref a0_readIce, .int va0_readCells, .ref a0_readPeople, .int va0_readMany, .ref a0_readSayings, .int va0_readSaid, .ref a0_line, .ref a0_bestLine, .int va0_bestFar, .int va0_bestIce, .ref a0_seen, .ref a0_held]), (a0_tape, aI E 110 va0_tape)]) := by
  refine Ct.of rfl (Nat.le_of_ble_eq_true rfl) (fun K hL k r hin => ?_)
  subst hL
  unfold fX8_isFor at hf
  show G E K 2 0 0 [(0, .ref a0), (1, .int x1)] [] [(a0, oB 8 [.ref a0_row, .int va0_isKept, .ref a0_lanes, .ref a0_sizes, .ref a0_items, .ref a0_tape, .int va0_length, .int va0_at, .int va0_number, .ref a0_readIce, .int va0_readCells, .ref a0_readPeople, .int va0_readMany, .ref a0_readSayings, .int va0_readSaid, .ref a0_line, .ref a0_bestLine, .int va0_bestFar, .int va0_bestIce, .ref a0_seen, .ref a0_held]), (a0_tape, aI E 110 va0_tape)] 0
  refine g_aload_n k 0 dX8_isFor_0 rfl rfl ?_
  refine g_iconst k dX8_isFor_1 ic_0 ?_
  obtain ⟨o1, ho2, hf⟩ := bnd_some hf
  refine g_cv k miX8_isDigit mvX8_isDigit (ctX8_isDigit (kL K) E N a0 a0_row a0_lanes a0_sizes a0_items a0_tape a0_readIce a0_readPeople a0_readSayings a0_line a0_bestLine a0_seen a0_held va0_isKept va0_length va0_at va0_number va0_readCells va0_readMany va0_readSaid va0_bestFar va0_bestIce va0_tape 0 o1 ho2) [0, 1] 0 (ws' := [(a0, oB 8 [.ref a0_row, .int va0_isKept, .ref a0_lanes, .ref a0_sizes, .ref a0_items, .ref a0_tape, .int va0_length, .int va0_at, .int va0_number, .ref a0_readIce, .int va0_readCells, .ref a0_readPeople, .int va0_readMany, .ref a0_readSayings, .int va0_readSaid, .ref a0_line, .ref a0_bestLine, .int va0_bestFar, .int va0_bestIce, .ref a0_seen, .ref a0_held]), (a0_tape, aI E 110 va0_tape)]) dX8_isFor_2 lkX8_129 rfl ⟨rfl, rfl⟩ ⟨by decide, by decide⟩ rfl rfl rfl rfl (Nat.le_of_ble_eq_true rfl) rfl rfl rfl ?_
  refine g_st (st' := [.int o1]) rfl ?_
  refine g_if_eq k (tgt := 48) dX8_isFor_5 (by decide) (fun c3 => ?_) (fun c3 => ?_)
  · replace hf := ite_t c3 hf
    refine g_iconst k dX8_isFor_48 ic_0 ?_
    obtain rfl := Option.some.inj hf
    exact g_zret k (rfl) r dX8_isFor_49 ⟨rfl, rfl⟩
  · replace hf := ite_f c3 hf
    refine g_aload_n k 0 dX8_isFor_8 rfl rfl ?_
    refine g_get k cfX8 5 0 dX8_isFor_9 lkX8_23 (by decide) rfl rfl ?_
    refine g_aload_n k 0 dX8_isFor_12 rfl rfl ?_
    refine g_get k cfX8 7 0 dX8_isFor_13 lkX8_115 (by decide) rfl rfl ?_
    obtain ⟨κ4, hκ4, hiκ4, heκ4, hf⟩ := ixb_some hf
    refine g_iaload k 1 dX8_isFor_16 rfl hiκ4 heκ4 ?_
    refine g_bipush k dX8_isFor_17 bi_48 ?_
    refine g_isub k dX8_isFor_19 ?_
    refine g_aload_n k 0 dX8_isFor_20 rfl rfl ?_
    refine g_get k cfX8 12 0 dX8_isFor_21 lkX8_138 (by decide) rfl rfl ?_
    refine g_icmp_ge k (tgt := 48) dX8_isFor_24 (by decide) (fun c5 => ?_) (fun c5 => ?_)
    · replace hf := ite_t c5 hf
      refine g_iconst k dX8_isFor_48 ic_0 ?_
      obtain rfl := Option.some.inj hf
      exact g_zret k (rfl) r dX8_isFor_49 ⟨rfl, rfl⟩
    · replace hf := ite_f c5 hf
      refine g_iload_n k 1 dX8_isFor_27 rfl rfl ?_
      refine g_aload_n k 0 dX8_isFor_28 rfl rfl ?_
      refine g_get k cfX8 5 0 dX8_isFor_29 lkX8_23 (by decide) rfl rfl ?_
      refine g_aload_n k 0 dX8_isFor_32 rfl rfl ?_
      refine g_get k cfX8 7 0 dX8_isFor_33 lkX8_115 (by decide) rfl rfl ?_
      obtain ⟨κ6, hκ6, hiκ6, heκ6, hf⟩ := ixb_some hf
      refine g_iaload k 1 dX8_isFor_36 rfl hiκ6 heκ6 ?_
      refine g_bipush k dX8_isFor_37 bi_48 ?_
      refine g_isub k dX8_isFor_39 ?_
      refine g_ishr k dX8_isFor_40 ?_
      refine g_if_ne k (tgt := 48) dX8_isFor_41 (by decide) (fun c7 => ?_) (fun c7 => ?_)
      · replace hf := ite_f c7 hf
        refine g_iconst k dX8_isFor_48 ic_0 ?_
        obtain rfl := Option.some.inj hf
        exact g_zret k (rfl) r dX8_isFor_49 ⟨rfl, rfl⟩
      · replace hf := ite_t c7 hf
        refine g_iconst k dX8_isFor_44 ic_1 ?_
        refine g_goto k (tgt := 49) dX8_isFor_45 (by decide) ?_
        obtain rfl := Option.some.inj hf
        exact g_zret k (rfl) r dX8_isFor_49 ⟨rfl, rfl⟩
abbrev rmX8_readsSaying : Room := { frames := 3, cells := 0, slots := 0, locals := 68 }
def fX8_readsSaying_L32 (N : Nat) (va0_length : Int32) (va0_readMany : Int32) (va0_tape : Nat → Int32) : Nat → Int32 → Int32 → Option (Int32 × Int32)
  | 0, _, _ => none
  | n + 1, x1, va0_at =>
    bnd (fX8_isFor N va0_length va0_at va0_readMany va0_tape x1) fun o12 =>
    if o12 = 0 then
    some (x1, va0_at)
    else
    ixb va0_at 110 fun κ15 =>
    bnd (fX8_skip N va0_length (va0_at + 1) va0_tape) fun o16 =>
    fX8_readsSaying_L32 N va0_length va0_readMany va0_tape n (x1 ||| (1 <<< (((va0_tape κ15) - 48) &&& 31))) o16
set_option maxHeartbeats 4000000 in
set_option maxRecDepth 100000 in
theorem wX8_readsSaying_L32 {E : Ev} {K : KX} (k : OKX E K cX8_readsSaying RX8 2 rmX8_readsSaying) (N : Nat) (a0 : Nat) (a0_row : Nat) (a0_lanes : Nat) (a0_sizes : Nat) (a0_items : Nat) (a0_tape : Nat) (a0_readIce : Nat) (a0_readPeople : Nat) (a0_readSayings : Nat) (a0_line : Nat) (a0_bestLine : Nat) (a0_seen : Nat) (a0_held : Nat) (va0_length : Int32) (va0_readMany : Int32) (va0_tape : Nat → Int32) (va0_isKept : Int32) (va0_number : Int32) (va0_readCells : Int32) (va0_readSaid : Int32) (va0_bestFar : Int32) (va0_bestIce : Int32) (va0_readSayings : Nat → Int32) : ∀ (n : Nat) (x1 : Int32) (va0_at : Int32) (o : Int32 × Int32), fX8_readsSaying_L32 N va0_length va0_readMany va0_tape n x1 va0_at = some o → G E K 2 0 0 [(0, .ref a0), (1, .int o.1)] [] [(a0, oB 8 [.ref a0_row, .int va0_isKept, .ref a0_lanes, .ref a0_sizes, .ref a0_items, .ref a0_tape, .int va0_length, .int o.2, .int va0_number, .ref a0_readIce, .int va0_readCells, .ref a0_readPeople, .int va0_readMany, .ref a0_readSayings, .int va0_readSaid, .ref a0_line, .ref a0_bestLine, .int va0_bestFar, .int va0_bestIce, .ref a0_seen, .ref a0_held]), (a0_tape, aI E 110 va0_tape), (a0_readSayings, aI E 10 va0_readSayings)] 74 → G E K 2 0 0 [(0, .ref a0), (1, .int x1)] [] [(a0, oB 8 [.ref a0_row, .int va0_isKept, .ref a0_lanes, .ref a0_sizes, .ref a0_items, .ref a0_tape, .int va0_length, .int va0_at, .int va0_number, .ref a0_readIce, .int va0_readCells, .ref a0_readPeople, .int va0_readMany, .ref a0_readSayings, .int va0_readSaid, .ref a0_line, .ref a0_bestLine, .int va0_bestFar, .int va0_bestIce, .ref a0_seen, .ref a0_held]), (a0_tape, aI E 110 va0_tape), (a0_readSayings, aI E 10 va0_readSayings)] 32 := by
  intro n
  induction n with
  | zero => intro x1 va0_at o hf; cases hf
  | succ n ih =>
    intro x1 va0_at o hf hG
    rw [fX8_readsSaying_L32] at hf
    refine g_aload_n k 0 dX8_readsSaying_32 rfl rfl ?_
    refine g_iload_n k 1 dX8_readsSaying_33 rfl rfl ?_
    obtain ⟨o12, ho13, hf⟩ := bnd_some hf
    refine g_cv k miX8_isFor mvX8_isFor (ctX8_isFor (kL K) E N a0 a0_row a0_lanes a0_sizes a0_items a0_tape a0_readIce a0_readPeople a0_readSayings a0_line a0_bestLine a0_seen a0_held va0_isKept va0_length va0_at va0_number va0_readCells va0_readMany va0_readSaid va0_bestFar va0_bestIce va0_tape x1 o12 ho13) [0, 1] 0 (ws' := [(a0, oB 8 [.ref a0_row, .int va0_isKept, .ref a0_lanes, .ref a0_sizes, .ref a0_items, .ref a0_tape, .int va0_length, .int va0_at, .int va0_number, .ref a0_readIce, .int va0_readCells, .ref a0_readPeople, .int va0_readMany, .ref a0_readSayings, .int va0_readSaid, .ref a0_line, .ref a0_bestLine, .int va0_bestFar, .int va0_bestIce, .ref a0_seen, .ref a0_held]), (a0_tape, aI E 110 va0_tape), (a0_readSayings, aI E 10 va0_readSayings)]) dX8_readsSaying_34 lkX8_144 rfl ⟨rfl, rfl⟩ ⟨by decide, by decide⟩ rfl rfl rfl rfl (Nat.le_of_ble_eq_true rfl) rfl rfl rfl ?_
    refine g_st (st' := [.int o12]) rfl ?_
    refine g_if_eq k (tgt := 74) dX8_readsSaying_37 (by decide) (fun c14 => ?_) (fun c14 => ?_)
    · replace hf := ite_t c14 hf
      refine g_lv [0, 1] rfl ?_
      obtain rfl := Option.some.inj hf
      exact hG
    · replace hf := ite_f c14 hf
      refine g_iload_n k 1 dX8_readsSaying_40 rfl rfl ?_
      refine g_iconst k dX8_readsSaying_41 ic_1 ?_
      refine g_aload_n k 0 dX8_readsSaying_42 rfl rfl ?_
      refine g_get k cfX8 5 0 dX8_readsSaying_43 lkX8_23 (by decide) rfl rfl ?_
      refine g_aload_n k 0 dX8_readsSaying_46 rfl rfl ?_
      refine g_get k cfX8 7 0 dX8_readsSaying_47 lkX8_115 (by decide) rfl rfl ?_
      obtain ⟨κ15, hκ15, hiκ15, heκ15, hf⟩ := ixb_some hf
      refine g_iaload k 1 dX8_readsSaying_50 rfl hiκ15 heκ15 ?_
      refine g_bipush k dX8_readsSaying_51 bi_48 ?_
      refine g_isub k dX8_readsSaying_53 ?_
      refine g_ishl k dX8_readsSaying_54 ?_
      refine g_ior k dX8_readsSaying_55 ?_
      refine g_istore_n k (lv' := [(1, .int (x1 ||| (1 <<< (((va0_tape κ15) - 48) &&& 31)))), (0, .ref a0)]) dX8_readsSaying_56 rfl (by decide) rfl ?_
      refine g_aload_n k 1 dX8_readsSaying_57 rfl rfl ?_
      refine g_dup k dX8_readsSaying_58 rfl ?_
      refine g_get k cfX8 7 0 dX8_readsSaying_59 lkX8_115 (by decide) rfl rfl ?_
      refine g_iconst k dX8_readsSaying_62 ic_1 ?_
      refine g_iadd k dX8_readsSaying_63 ?_
      refine g_put k cfX8 7 0 (ws' := [(a0, oB 8 [.ref a0_row, .int va0_isKept, .ref a0_lanes, .ref a0_sizes, .ref a0_items, .ref a0_tape, .int va0_length, .int (va0_at + 1), .int va0_number, .ref a0_readIce, .int va0_readCells, .ref a0_readPeople, .int va0_readMany, .ref a0_readSayings, .int va0_readSaid, .ref a0_line, .ref a0_bestLine, .int va0_bestFar, .int va0_bestIce, .ref a0_seen, .ref a0_held]), (a0_tape, aI E 110 va0_tape), (a0_readSayings, aI E 10 va0_readSayings)]) dX8_readsSaying_64 lkX8_115 (by decide) rfl rfl rfl rfl (Nat.le_of_ble_eq_true rfl) rfl ?_
      refine g_aload_n k 1 dX8_readsSaying_67 rfl rfl ?_
      obtain ⟨o16, ho17, hf⟩ := bnd_some hf
      refine g_cv k miX8_skip mvX8_skip (ctX8_skip (kL K) E N a0 a0_row a0_lanes a0_sizes a0_items a0_tape a0_readIce a0_readPeople a0_readSayings a0_line a0_bestLine a0_seen a0_held va0_isKept va0_length (va0_at + 1) va0_number va0_readCells va0_readMany va0_readSaid va0_bestFar va0_bestIce va0_tape  o16 ho17) [0, 1] 0 (ws' := [(a0, oB 8 [.ref a0_row, .int va0_isKept, .ref a0_lanes, .ref a0_sizes, .ref a0_items, .ref a0_tape, .int va0_length, .int o16, .int va0_number, .ref a0_readIce, .int va0_readCells, .ref a0_readPeople, .int va0_readMany, .ref a0_readSayings, .int va0_readSaid, .ref a0_line, .ref a0_bestLine, .int va0_bestFar, .int va0_bestIce, .ref a0_seen, .ref a0_held]), (a0_tape, aI E 110 va0_tape), (a0_readSayings, aI E 10 va0_readSayings)]) dX8_readsSaying_68 lkX8_123 rfl ⟨rfl, rfl⟩ ⟨by decide, by decide⟩ rfl rfl rfl rfl (Nat.le_of_ble_eq_true rfl) rfl rfl rfl ?_
      refine g_st (st' := []) rfl ?_
      refine g_goto k (tgt := 32) dX8_readsSaying_71 (by decide) ?_
      refine g_lv [1, 0] rfl ?_
      exact ih (x1 ||| (1 <<< (((va0_tape κ15) - 48) &&& 31))) o16 o hf hG
def fX8_readsSaying (N : Nat) (va0_length : Int32) (va0_at : Int32) (va0_number : Int32) (va0_readMany : Int32) (va0_readSaid : Int32) (va0_tape : Nat → Int32) (va0_readSayings : Nat → Int32)  : Option (Int32 × Int32 × Int32 × Int32 × (Nat → Int32)) :=
  bnd (fX8_readsNumber N va0_length va0_at va0_number va0_tape 20) fun o1 =>
  if o1.1 = 0 then
  some (0, o1.2.1, o1.2.2, va0_readSaid, va0_readSayings)
  else
  bnd (fX8_sign N va0_length o1.2.1 va0_tape 58) fun o4 =>
  if o4.1 = 0 then
  ixb (2 * va0_readSaid) 10 fun κ7 =>
  ixb ((2 * va0_readSaid) + 1) 10 fun κ8 =>
  some (1, o4.2, o1.2.2, (va0_readSaid + 1), (upd (upd va0_readSayings κ7 o1.2.2) κ8 0))
  else
  bnd (fX8_isFor N va0_length o4.2 va0_readMany va0_tape 0) fun o9 =>
  if o9 = 0 then
  some (0, o4.2, o1.2.2, va0_readSaid, va0_readSayings)
  else
  bnd (fX8_readsSaying_L32 N va0_length va0_readMany va0_tape N 0 o4.2) fun o18 =>
  ixb (2 * va0_readSaid) 10 fun κ20 =>
  ixb ((2 * va0_readSaid) + 1) 10 fun κ21 =>
  some (1, o18.2, o1.2.2, (va0_readSaid + 1), (upd (upd va0_readSayings κ20 o1.2.2) κ21 o18.1))
set_option maxHeartbeats 4000000 in
set_option maxRecDepth 100000 in
theorem ctX8_readsSaying (l : Launch) (E : Ev) (N : Nat) (a0 : Nat) (a0_row : Nat) (a0_lanes : Nat) (a0_sizes : Nat) (a0_items : Nat) (a0_tape : Nat) (a0_readIce : Nat) (a0_readPeople : Nat) (a0_readSayings : Nat) (a0_line : Nat) (a0_bestLine : Nat) (a0_seen : Nat) (a0_held : Nat) (va0_isKept : Int32) (va0_length : Int32) (va0_at : Int32) (va0_number : Int32) (va0_readCells : Int32) (va0_readMany : Int32) (va0_readSaid : Int32) (va0_bestFar : Int32) (va0_bestIce : Int32) (va0_tape : Nat → Int32) (va0_readSayings : Nat → Int32)  (out : Int32 × Int32 × Int32 × Int32 × (Nat → Int32)) (hf : fX8_readsSaying N va0_length va0_at va0_number va0_readMany va0_readSaid va0_tape va0_readSayings  = some out) : Ct l E yX8_readsSaying cX8_readsSaying 2 (some .boolean) rmX8_readsSaying [.ref a0] [(a0, oB 8 [.ref a0_row, .int va0_isKept, .ref a0_lanes, .ref a0_sizes, .ref a0_items, .ref a0_tape, .int va0_length, .int va0_at, .int va0_number, .ref a0_readIce, .int va0_readCells, .ref a0_readPeople, .int va0_readMany, .ref a0_readSayings, .int va0_readSaid, .ref a0_line, .ref a0_bestLine, .int va0_bestFar, .int va0_bestIce, .ref a0_seen, .ref a0_held]), (a0_tape, aI E 110 va0_tape), (a0_readSayings, aI E 10 va0_readSayings)] (Pe (some (.int out.1)) [(a0, oB 8 [.ref a0_row, .int va0_isKept, .ref a0_lanes, .ref a0_sizes, .ref a0_items, .ref a0_tape, .int va0_length, .int out.2.1, .int out.2.2.1, .ref a0_readIce, .int va0_readCells, .ref a0_readPeople, .int va0_readMany, .ref a0_readSayings, .int out.2.2.2.1, .ref a0_line, .ref a0_bestLine, .int va0_bestFar, .int va0_bestIce, .ref a0_seen, .ref a0_held]), (a0_tape, aI E 110 va0_tape), (a0_readSayings, aI E 10 out.2.2.2.2)]) := by
  refine Ct.of rfl (Nat.le_of_ble_eq_true rfl) (fun K hL k r hin => ?_)
  subst hL
  unfold fX8_readsSaying at hf
  show G E K 2 0 0 [(0, .ref a0)] [] [(a0, oB 8 [.ref a0_row, .int va0_isKept, .ref a0_lanes, .ref a0_sizes, .ref a0_items, .ref a0_tape, .int va0_length, .int va0_at, .int va0_number, .ref a0_readIce, .int va0_readCells, .ref a0_readPeople, .int va0_readMany, .ref a0_readSayings, .int va0_readSaid, .ref a0_line, .ref a0_bestLine, .int va0_bestFar, .int va0_bestIce, .ref a0_seen, .ref a0_held]), (a0_tape, aI E 110 va0_tape), (a0_readSayings, aI E 10 va0_readSayings)] 0
  refine g_aload_n k 0 dX8_readsSaying_0 rfl rfl ?_
  refine g_bipush k dX8_readsSaying_1 bi_20 ?_
  obtain ⟨o1, ho2, hf⟩ := bnd_some hf
  refine g_cv k miX8_readsNumber mvX8_readsNumber (ctX8_readsNumber (kL K) E N a0 a0_row a0_lanes a0_sizes a0_items a0_tape a0_readIce a0_readPeople a0_readSayings a0_line a0_bestLine a0_seen a0_held va0_isKept va0_length va0_at va0_number va0_readCells va0_readMany va0_readSaid va0_bestFar va0_bestIce va0_tape 20 o1 ho2) [0, 1] 0 (ws' := [(a0, oB 8 [.ref a0_row, .int va0_isKept, .ref a0_lanes, .ref a0_sizes, .ref a0_items, .ref a0_tape, .int va0_length, .int o1.2.1, .int o1.2.2, .ref a0_readIce, .int va0_readCells, .ref a0_readPeople, .int va0_readMany, .ref a0_readSayings, .int va0_readSaid, .ref a0_line, .ref a0_bestLine, .int va0_bestFar, .int va0_bestIce, .ref a0_seen, .ref a0_held]), (a0_tape, aI E 110 va0_tape), (a0_readSayings, aI E 10 va0_readSayings)]) dX8_readsSaying_3 lkX8_132 rfl ⟨rfl, rfl⟩ ⟨by decide, by decide⟩ rfl rfl rfl rfl (Nat.le_of_ble_eq_true rfl) rfl rfl rfl ?_
  refine g_st (st' := [.int o1.1]) rfl ?_
  refine g_if_ne k (tgt := 11) dX8_readsSaying_6 (by decide) (fun c3 => ?_) (fun c3 => ?_)
  · replace hf := ite_f c3 hf
    refine g_iconst k dX8_readsSaying_11 ic_0 ?_
    refine g_istore_n k (lv' := [(1, .int 0), (0, .ref a0)]) dX8_readsSaying_12 rfl (by decide) rfl ?_
    refine g_aload_n k 1 dX8_readsSaying_13 rfl rfl ?_
    refine g_bipush k dX8_readsSaying_14 bi_58 ?_
    obtain ⟨o4, ho5, hf⟩ := bnd_some hf
    refine g_cv k miX8_sign mvX8_sign (ctX8_sign (kL K) E N a0 a0_row a0_lanes a0_sizes a0_items a0_tape a0_readIce a0_readPeople a0_readSayings a0_line a0_bestLine a0_seen a0_held va0_isKept va0_length o1.2.1 o1.2.2 va0_readCells va0_readMany va0_readSaid va0_bestFar va0_bestIce va0_tape 58 o4 ho5) [0, 1] 0 (ws' := [(a0, oB 8 [.ref a0_row, .int va0_isKept, .ref a0_lanes, .ref a0_sizes, .ref a0_items, .ref a0_tape, .int va0_length, .int o4.2, .int o1.2.2, .ref a0_readIce, .int va0_readCells, .ref a0_readPeople, .int va0_readMany, .ref a0_readSayings, .int va0_readSaid, .ref a0_line, .ref a0_bestLine, .int va0_bestFar, .int va0_bestIce, .ref a0_seen, .ref a0_held]), (a0_tape, aI E 110 va0_tape), (a0_readSayings, aI E 10 va0_readSayings)]) dX8_readsSaying_16 lkX8_141 rfl ⟨rfl, rfl⟩ ⟨by decide, by decide⟩ rfl rfl rfl rfl (Nat.le_of_ble_eq_true rfl) rfl rfl rfl ?_
    refine g_st (st' := [.int o4.1]) rfl ?_
    refine g_if_eq k (tgt := 74) dX8_readsSaying_19 (by decide) (fun c6 => ?_) (fun c6 => ?_)
    · replace hf := ite_t c6 hf
      refine g_aload_n k 1 dX8_readsSaying_74 rfl rfl ?_
      refine g_get k cfX8 13 0 dX8_readsSaying_75 lkX8_32 (by decide) rfl rfl ?_
      refine g_iconst k dX8_readsSaying_78 ic_2 ?_
      refine g_aload_n k 1 dX8_readsSaying_79 rfl rfl ?_
      refine g_get k cfX8 14 0 dX8_readsSaying_80 lkX8_147 (by decide) rfl rfl ?_
      refine g_imul k dX8_readsSaying_83 ?_
      refine g_aload_n k 1 dX8_readsSaying_84 rfl rfl ?_
      refine g_get k cfX8 8 0 dX8_readsSaying_85 lkX8_126 (by decide) rfl rfl ?_
      obtain ⟨κ7, hκ7, hiκ7, heκ7, hf⟩ := ixb_some hf
      refine g_iastore k 2 (ws' := [(a0, oB 8 [.ref a0_row, .int va0_isKept, .ref a0_lanes, .ref a0_sizes, .ref a0_items, .ref a0_tape, .int va0_length, .int o4.2, .int o1.2.2, .ref a0_readIce, .int va0_readCells, .ref a0_readPeople, .int va0_readMany, .ref a0_readSayings, .int va0_readSaid, .ref a0_line, .ref a0_bestLine, .int va0_bestFar, .int va0_bestIce, .ref a0_seen, .ref a0_held]), (a0_tape, aI E 110 va0_tape), (a0_readSayings, aI E 10 (upd va0_readSayings κ7 o1.2.2))]) dX8_readsSaying_88 rfl hiκ7 heκ7 rfl ?_
      refine g_aload_n k 1 dX8_readsSaying_89 rfl rfl ?_
      refine g_get k cfX8 13 0 dX8_readsSaying_90 lkX8_32 (by decide) rfl rfl ?_
      refine g_iconst k dX8_readsSaying_93 ic_2 ?_
      refine g_aload_n k 1 dX8_readsSaying_94 rfl rfl ?_
      refine g_get k cfX8 14 0 dX8_readsSaying_95 lkX8_147 (by decide) rfl rfl ?_
      refine g_imul k dX8_readsSaying_98 ?_
      refine g_iconst k dX8_readsSaying_99 ic_1 ?_
      refine g_iadd k dX8_readsSaying_100 ?_
      refine g_iload_n k 0 dX8_readsSaying_101 rfl rfl ?_
      obtain ⟨κ8, hκ8, hiκ8, heκ8, hf⟩ := ixb_some hf
      refine g_iastore k 2 (ws' := [(a0, oB 8 [.ref a0_row, .int va0_isKept, .ref a0_lanes, .ref a0_sizes, .ref a0_items, .ref a0_tape, .int va0_length, .int o4.2, .int o1.2.2, .ref a0_readIce, .int va0_readCells, .ref a0_readPeople, .int va0_readMany, .ref a0_readSayings, .int va0_readSaid, .ref a0_line, .ref a0_bestLine, .int va0_bestFar, .int va0_bestIce, .ref a0_seen, .ref a0_held]), (a0_tape, aI E 110 va0_tape), (a0_readSayings, aI E 10 (upd (upd va0_readSayings κ7 o1.2.2) κ8 0))]) dX8_readsSaying_102 rfl hiκ8 heκ8 rfl ?_
      refine g_aload_n k 1 dX8_readsSaying_103 rfl rfl ?_
      refine g_dup k dX8_readsSaying_104 rfl ?_
      refine g_get k cfX8 14 0 dX8_readsSaying_105 lkX8_147 (by decide) rfl rfl ?_
      refine g_iconst k dX8_readsSaying_108 ic_1 ?_
      refine g_iadd k dX8_readsSaying_109 ?_
      refine g_put k cfX8 14 0 (ws' := [(a0, oB 8 [.ref a0_row, .int va0_isKept, .ref a0_lanes, .ref a0_sizes, .ref a0_items, .ref a0_tape, .int va0_length, .int o4.2, .int o1.2.2, .ref a0_readIce, .int va0_readCells, .ref a0_readPeople, .int va0_readMany, .ref a0_readSayings, .int (va0_readSaid + 1), .ref a0_line, .ref a0_bestLine, .int va0_bestFar, .int va0_bestIce, .ref a0_seen, .ref a0_held]), (a0_tape, aI E 110 va0_tape), (a0_readSayings, aI E 10 (upd (upd va0_readSayings κ7 o1.2.2) κ8 0))]) dX8_readsSaying_110 lkX8_147 (by decide) rfl rfl rfl rfl (Nat.le_of_ble_eq_true rfl) rfl ?_
      refine g_iconst k dX8_readsSaying_113 ic_1 ?_
      obtain rfl := Option.some.inj hf
      exact g_zret k (rfl) r dX8_readsSaying_114 ⟨rfl, rfl⟩
    · replace hf := ite_f c6 hf
      refine g_aload_n k 1 dX8_readsSaying_22 rfl rfl ?_
      refine g_iconst k dX8_readsSaying_23 ic_0 ?_
      obtain ⟨o9, ho10, hf⟩ := bnd_some hf
      refine g_cv k miX8_isFor mvX8_isFor (ctX8_isFor (kL K) E N a0 a0_row a0_lanes a0_sizes a0_items a0_tape a0_readIce a0_readPeople a0_readSayings a0_line a0_bestLine a0_seen a0_held va0_isKept va0_length o4.2 o1.2.2 va0_readCells va0_readMany va0_readSaid va0_bestFar va0_bestIce va0_tape 0 o9 ho10) [0, 1] 0 (ws' := [(a0, oB 8 [.ref a0_row, .int va0_isKept, .ref a0_lanes, .ref a0_sizes, .ref a0_items, .ref a0_tape, .int va0_length, .int o4.2, .int o1.2.2, .ref a0_readIce, .int va0_readCells, .ref a0_readPeople, .int va0_readMany, .ref a0_readSayings, .int va0_readSaid, .ref a0_line, .ref a0_bestLine, .int va0_bestFar, .int va0_bestIce, .ref a0_seen, .ref a0_held]), (a0_tape, aI E 110 va0_tape), (a0_readSayings, aI E 10 va0_readSayings)]) dX8_readsSaying_24 lkX8_144 rfl ⟨rfl, rfl⟩ ⟨by decide, by decide⟩ rfl rfl rfl rfl (Nat.le_of_ble_eq_true rfl) rfl rfl rfl ?_
      refine g_st (st' := [.int o9]) rfl ?_
      refine g_if_ne k (tgt := 32) dX8_readsSaying_27 (by decide) (fun c11 => ?_) (fun c11 => ?_)
      · replace hf := ite_f c11 hf
        obtain ⟨o18, ho19, hf⟩ := bnd_some hf
        refine g_lv [1, 0] (lv' := [(0, .ref a0), (1, .int 0)]) rfl ?_
        refine wX8_readsSaying_L32 k N a0 a0_row a0_lanes a0_sizes a0_items a0_tape a0_readIce a0_readPeople a0_readSayings a0_line a0_bestLine a0_seen a0_held  va0_length va0_readMany va0_tape va0_isKept o1.2.2 va0_readCells va0_readSaid va0_bestFar va0_bestIce va0_readSayings N 0 o4.2 o18 ho19 ?_
        refine g_aload_n k 0 dX8_readsSaying_74 rfl rfl ?_
        refine g_get k cfX8 13 0 dX8_readsSaying_75 lkX8_32 (by decide) rfl rfl ?_
        refine g_iconst k dX8_readsSaying_78 ic_2 ?_
        refine g_aload_n k 0 dX8_readsSaying_79 rfl rfl ?_
        refine g_get k cfX8 14 0 dX8_readsSaying_80 lkX8_147 (by decide) rfl rfl ?_
        refine g_imul k dX8_readsSaying_83 ?_
        refine g_aload_n k 0 dX8_readsSaying_84 rfl rfl ?_
        refine g_get k cfX8 8 0 dX8_readsSaying_85 lkX8_126 (by decide) rfl rfl ?_
        obtain ⟨κ20, hκ20, hiκ20, heκ20, hf⟩ := ixb_some hf
        refine g_iastore k 2 (ws' := [(a0, oB 8 [.ref a0_row, .int va0_isKept, .ref a0_lanes, .ref a0_sizes, .ref a0_items, .ref a0_tape, .int va0_length, .int o18.2, .int o1.2.2, .ref a0_readIce, .int va0_readCells, .ref a0_readPeople, .int va0_readMany, .ref a0_readSayings, .int va0_readSaid, .ref a0_line, .ref a0_bestLine, .int va0_bestFar, .int va0_bestIce, .ref a0_seen, .ref a0_held]), (a0_tape, aI E 110 va0_tape), (a0_readSayings, aI E 10 (upd va0_readSayings κ20 o1.2.2))]) dX8_readsSaying_88 rfl hiκ20 heκ20 rfl ?_
        refine g_aload_n k 0 dX8_readsSaying_89 rfl rfl ?_
        refine g_get k cfX8 13 0 dX8_readsSaying_90 lkX8_32 (by decide) rfl rfl ?_
        refine g_iconst k dX8_readsSaying_93 ic_2 ?_
        refine g_aload_n k 0 dX8_readsSaying_94 rfl rfl ?_
        refine g_get k cfX8 14 0 dX8_readsSaying_95 lkX8_147 (by decide) rfl rfl ?_
        refine g_imul k dX8_readsSaying_98 ?_
        refine g_iconst k dX8_readsSaying_99 ic_1 ?_
        refine g_iadd k dX8_readsSaying_100 ?_
        refine g_iload_n k 1 dX8_readsSaying_101 rfl rfl ?_
        obtain ⟨κ21, hκ21, hiκ21, heκ21, hf⟩ := ixb_some hf
        refine g_iastore k 2 (ws' := [(a0, oB 8 [.ref a0_row, .int va0_isKept, .ref a0_lanes, .ref a0_sizes, .ref a0_items, .ref a0_tape, .int va0_length, .int o18.2, .int o1.2.2, .ref a0_readIce, .int va0_readCells, .ref a0_readPeople, .int va0_readMany, .ref a0_readSayings, .int va0_readSaid, .ref a0_line, .ref a0_bestLine, .int va0_bestFar, .int va0_bestIce, .ref a0_seen, .ref a0_held]), (a0_tape, aI E 110 va0_tape), (a0_readSayings, aI E 10 (upd (upd va0_readSayings κ20 o1.2.2) κ21 o18.1))]) dX8_readsSaying_102 rfl hiκ21 heκ21 rfl ?_
        refine g_aload_n k 0 dX8_readsSaying_103 rfl rfl ?_
        refine g_dup k dX8_readsSaying_104 rfl ?_
        refine g_get k cfX8 14 0 dX8_readsSaying_105 lkX8_147 (by decide) rfl rfl ?_
        refine g_iconst k dX8_readsSaying_108 ic_1 ?_
        refine g_iadd k dX8_readsSaying_109 ?_
        refine g_put k cfX8 14 0 (ws' := [(a0, oB 8 [.ref a0_row, .int va0_isKept, .ref a0_lanes, .ref a0_sizes, .ref a0_items, .ref a0_tape, .int va0_length, .int o18.2, .int o1.2.2, .ref a0_readIce, .int va0_readCells, .ref a0_readPeople, .int va0_readMany, .ref a0_readSayings, .int (va0_readSaid + 1), .ref a0_line, .ref a0_bestLine, .int va0_bestFar, .int va0_bestIce, .ref a0_seen, .ref a0_held]), (a0_tape, aI E 110 va0_tape), (a0_readSayings, aI E 10 (upd (upd va0_readSayings κ20 o1.2.2) κ21 o18.1))]) dX8_readsSaying_110 lkX8_147 (by decide) rfl rfl rfl rfl (Nat.le_of_ble_eq_true rfl) rfl ?_
        refine g_iconst k dX8_readsSaying_113 ic_1 ?_
        obtain rfl := Option.some.inj hf
        exact g_zret k (rfl) r dX8_readsSaying_114 ⟨rfl, rfl⟩
      · replace hf := ite_t c11 hf
        refine g_iconst k dX8_readsSaying_30 ic_0 ?_
        obtain rfl := Option.some.inj hf
        exact g_zret k (rfl) r dX8_readsSaying_31 ⟨rfl, rfl⟩
  · replace hf := ite_t c3 hf
    refine g_iconst k dX8_readsSaying_9 ic_0 ?_
    obtain rfl := Option.some.inj hf
    exact g_zret k (rfl) r dX8_readsSaying_10 ⟨rfl, rfl⟩
abbrev rmX8_reads : Room := { frames := 4, cells := 0, slots := 0, locals := 89 }
def fX8_reads_L29 (N : Nat) (va0_length : Int32) (va0_tape : Nat → Int32) : Nat → Int32 → Int32 → Int32 → Int32 → (Nat → Int32) → Option (Int32 × Int32 × Int32 × Int32 × (Nat → Int32))
  | 0, _, _, _, _, _ => none
  | n + 1, x1, va0_at, va0_number, va0_readCells, va0_readIce =>
    if x1 = 0 then
    some (x1, va0_at, va0_number, va0_readCells, va0_readIce)
    else
    if 12 ≤ va0_readCells then
    some (x1, va0_at, va0_number, va0_readCells, va0_readIce)
    else
    bnd (fX8_sign N va0_length va0_at va0_tape 46) fun o7 =>
    if o7.1 = 0 then
    some (x1, o7.2, va0_number, va0_readCells, va0_readIce)
    else
    bnd (fX8_readsCell N va0_length o7.2 va0_number va0_readCells va0_tape va0_readIce) fun o10 =>
    fX8_reads_L29 N va0_length va0_tape n o10.1 o10.2.1 o10.2.2.1 o10.2.2.2.1 o10.2.2.2.2
set_option maxHeartbeats 4000000 in
set_option maxRecDepth 100000 in
theorem wX8_reads_L29 {E : Ev} {K : KX} (k : OKX E K cX8_reads RX8 2 rmX8_reads) (N : Nat) (a0 : Nat) (a0_row : Nat) (a0_lanes : Nat) (a0_sizes : Nat) (a0_items : Nat) (a0_tape : Nat) (a0_readIce : Nat) (a0_readPeople : Nat) (a0_readSayings : Nat) (a0_line : Nat) (a0_bestLine : Nat) (a0_seen : Nat) (a0_held : Nat) (va0_length : Int32) (va0_tape : Nat → Int32) (va0_isKept : Int32) (va0_readMany : Int32) (va0_readSaid : Int32) (va0_bestFar : Int32) (va0_bestIce : Int32) (va0_readPeople : Nat → Int32) (va0_readSayings : Nat → Int32) : ∀ (n : Nat) (x1 : Int32) (va0_at : Int32) (va0_number : Int32) (va0_readCells : Int32) (va0_readIce : Nat → Int32) (o : Int32 × Int32 × Int32 × Int32 × (Nat → Int32)), fX8_reads_L29 N va0_length va0_tape n x1 va0_at va0_number va0_readCells va0_readIce = some o → G E K 2 0 0 [(0, .ref a0), (1, .int o.1)] [] [(a0, oB 8 [.ref a0_row, .int va0_isKept, .ref a0_lanes, .ref a0_sizes, .ref a0_items, .ref a0_tape, .int va0_length, .int o.2.1, .int o.2.2.1, .ref a0_readIce, .int o.2.2.2.1, .ref a0_readPeople, .int va0_readMany, .ref a0_readSayings, .int va0_readSaid, .ref a0_line, .ref a0_bestLine, .int va0_bestFar, .int va0_bestIce, .ref a0_seen, .ref a0_held]), (a0_tape, aI E 110 va0_tape), (a0_readIce, aI E 12 o.2.2.2.2), (a0_readPeople, aI E 12 va0_readPeople), (a0_readSayings, aI E 10 va0_readSayings)] 59 → G E K 2 0 0 [(0, .ref a0), (1, .int x1)] [] [(a0, oB 8 [.ref a0_row, .int va0_isKept, .ref a0_lanes, .ref a0_sizes, .ref a0_items, .ref a0_tape, .int va0_length, .int va0_at, .int va0_number, .ref a0_readIce, .int va0_readCells, .ref a0_readPeople, .int va0_readMany, .ref a0_readSayings, .int va0_readSaid, .ref a0_line, .ref a0_bestLine, .int va0_bestFar, .int va0_bestIce, .ref a0_seen, .ref a0_held]), (a0_tape, aI E 110 va0_tape), (a0_readIce, aI E 12 va0_readIce), (a0_readPeople, aI E 12 va0_readPeople), (a0_readSayings, aI E 10 va0_readSayings)] 29 := by
  intro n
  induction n with
  | zero => intro x1 va0_at va0_number va0_readCells va0_readIce o hf; cases hf
  | succ n ih =>
    intro x1 va0_at va0_number va0_readCells va0_readIce o hf hG
    rw [fX8_reads_L29] at hf
    refine g_iload_n k 1 dX8_reads_29 rfl rfl ?_
    refine g_if_eq k (tgt := 59) dX8_reads_30 (by decide) (fun c5 => ?_) (fun c5 => ?_)
    · replace hf := ite_t c5 hf
      refine g_lv [0, 1] rfl ?_
      obtain rfl := Option.some.inj hf
      exact hG
    · replace hf := ite_f c5 hf
      refine g_aload_n k 0 dX8_reads_33 rfl rfl ?_
      refine g_get k cfX8 10 0 dX8_reads_34 lkX8_135 (by decide) rfl rfl ?_
      refine g_bipush k dX8_reads_37 bi_12 ?_
      refine g_icmp_ge k (tgt := 59) dX8_reads_39 (by decide) (fun c6 => ?_) (fun c6 => ?_)
      · replace hf := ite_t c6 hf
        refine g_lv [0, 1] rfl ?_
        obtain rfl := Option.some.inj hf
        exact hG
      · replace hf := ite_f c6 hf
        refine g_aload_n k 0 dX8_reads_42 rfl rfl ?_
        refine g_bipush k dX8_reads_43 bi_46 ?_
        obtain ⟨o7, ho8, hf⟩ := bnd_some hf
        refine g_cv k miX8_sign mvX8_sign (ctX8_sign (kL K) E N a0 a0_row a0_lanes a0_sizes a0_items a0_tape a0_readIce a0_readPeople a0_readSayings a0_line a0_bestLine a0_seen a0_held va0_isKept va0_length va0_at va0_number va0_readCells va0_readMany va0_readSaid va0_bestFar va0_bestIce va0_tape 46 o7 ho8) [0, 1] 0 (ws' := [(a0, oB 8 [.ref a0_row, .int va0_isKept, .ref a0_lanes, .ref a0_sizes, .ref a0_items, .ref a0_tape, .int va0_length, .int o7.2, .int va0_number, .ref a0_readIce, .int va0_readCells, .ref a0_readPeople, .int va0_readMany, .ref a0_readSayings, .int va0_readSaid, .ref a0_line, .ref a0_bestLine, .int va0_bestFar, .int va0_bestIce, .ref a0_seen, .ref a0_held]), (a0_tape, aI E 110 va0_tape), (a0_readIce, aI E 12 va0_readIce), (a0_readPeople, aI E 12 va0_readPeople), (a0_readSayings, aI E 10 va0_readSayings)]) dX8_reads_45 lkX8_141 rfl ⟨rfl, rfl⟩ ⟨by decide, by decide⟩ rfl rfl rfl rfl (Nat.le_of_ble_eq_true rfl) rfl rfl rfl ?_
        refine g_st (st' := [.int o7.1]) rfl ?_
        refine g_if_eq k (tgt := 59) dX8_reads_48 (by decide) (fun c9 => ?_) (fun c9 => ?_)
        · replace hf := ite_t c9 hf
          refine g_lv [0, 1] rfl ?_
          obtain rfl := Option.some.inj hf
          exact hG
        · replace hf := ite_f c9 hf
          refine g_aload_n k 0 dX8_reads_51 rfl rfl ?_
          obtain ⟨o10, ho11, hf⟩ := bnd_some hf
          refine g_cv k miX8_readsCell mvX8_readsCell (ctX8_readsCell (kL K) E N a0 a0_row a0_lanes a0_sizes a0_items a0_tape a0_readIce a0_readPeople a0_readSayings a0_line a0_bestLine a0_seen a0_held va0_isKept va0_length o7.2 va0_number va0_readCells va0_readMany va0_readSaid va0_bestFar va0_bestIce va0_tape va0_readIce  o10 ho11) [0, 1, 2] 0 (ws' := [(a0, oB 8 [.ref a0_row, .int va0_isKept, .ref a0_lanes, .ref a0_sizes, .ref a0_items, .ref a0_tape, .int va0_length, .int o10.2.1, .int o10.2.2.1, .ref a0_readIce, .int o10.2.2.2.1, .ref a0_readPeople, .int va0_readMany, .ref a0_readSayings, .int va0_readSaid, .ref a0_line, .ref a0_bestLine, .int va0_bestFar, .int va0_bestIce, .ref a0_seen, .ref a0_held]), (a0_tape, aI E 110 va0_tape), (a0_readIce, aI E 12 o10.2.2.2.2), (a0_readPeople, aI E 12 va0_readPeople), (a0_readSayings, aI E 10 va0_readSayings)]) dX8_reads_52 lkX8_150 rfl ⟨rfl, rfl⟩ ⟨by decide, by decide⟩ rfl rfl rfl rfl (Nat.le_of_ble_eq_true rfl) rfl rfl rfl ?_
          refine g_st (st' := [.int o10.1]) rfl ?_
          refine g_istore_n k (lv' := [(1, .int o10.1), (0, .ref a0)]) dX8_reads_55 rfl (by decide) rfl ?_
          refine g_goto k (tgt := 29) dX8_reads_56 (by decide) ?_
          refine g_lv [1, 0] rfl ?_
          exact ih o10.1 o10.2.1 o10.2.2.1 o10.2.2.2.1 o10.2.2.2.2 o hf hG
def fX8_reads_L85 (N : Nat) (va0_length : Int32) (va0_tape : Nat → Int32) : Nat → Int32 → Int32 → Int32 → (Nat → Int32) → Option (Int32 × Int32 × Int32 × (Nat → Int32))
  | 0, _, _, _, _ => none
  | n + 1, x1, va0_at, va0_readMany, va0_readPeople =>
    if x1 = 0 then
    some (x1, va0_at, va0_readMany, va0_readPeople)
    else
    if 6 ≤ va0_readMany then
    some (x1, va0_at, va0_readMany, va0_readPeople)
    else
    bnd (fX8_sign N va0_length va0_at va0_tape 44) fun o17 =>
    if o17.1 = 0 then
    some (x1, o17.2, va0_readMany, va0_readPeople)
    else
    bnd (fX8_readsPerson N va0_length o17.2 va0_readMany va0_tape va0_readPeople) fun o20 =>
    fX8_reads_L85 N va0_length va0_tape n o20.1 o20.2.1 o20.2.2.1 o20.2.2.2
set_option maxHeartbeats 4000000 in
set_option maxRecDepth 100000 in
theorem wX8_reads_L85 {E : Ev} {K : KX} (k : OKX E K cX8_reads RX8 2 rmX8_reads) (N : Nat) (a0 : Nat) (a0_row : Nat) (a0_lanes : Nat) (a0_sizes : Nat) (a0_items : Nat) (a0_tape : Nat) (a0_readIce : Nat) (a0_readPeople : Nat) (a0_readSayings : Nat) (a0_line : Nat) (a0_bestLine : Nat) (a0_seen : Nat) (a0_held : Nat) (va0_length : Int32) (va0_tape : Nat → Int32) (va0_isKept : Int32) (va0_number : Int32) (va0_readCells : Int32) (va0_readSaid : Int32) (va0_bestFar : Int32) (va0_bestIce : Int32) (va0_readIce : Nat → Int32) (va0_readSayings : Nat → Int32) : ∀ (n : Nat) (x1 : Int32) (va0_at : Int32) (va0_readMany : Int32) (va0_readPeople : Nat → Int32) (o : Int32 × Int32 × Int32 × (Nat → Int32)), fX8_reads_L85 N va0_length va0_tape n x1 va0_at va0_readMany va0_readPeople = some o → G E K 2 0 0 [(0, .ref a0), (1, .int o.1)] [] [(a0, oB 8 [.ref a0_row, .int va0_isKept, .ref a0_lanes, .ref a0_sizes, .ref a0_items, .ref a0_tape, .int va0_length, .int o.2.1, .int va0_number, .ref a0_readIce, .int va0_readCells, .ref a0_readPeople, .int o.2.2.1, .ref a0_readSayings, .int va0_readSaid, .ref a0_line, .ref a0_bestLine, .int va0_bestFar, .int va0_bestIce, .ref a0_seen, .ref a0_held]), (a0_tape, aI E 110 va0_tape), (a0_readIce, aI E 12 va0_readIce), (a0_readPeople, aI E 12 o.2.2.2), (a0_readSayings, aI E 10 va0_readSayings)] 115 → G E K 2 0 0 [(0, .ref a0), (1, .int x1)] [] [(a0, oB 8 [.ref a0_row, .int va0_isKept, .ref a0_lanes, .ref a0_sizes, .ref a0_items, .ref a0_tape, .int va0_length, .int va0_at, .int va0_number, .ref a0_readIce, .int va0_readCells, .ref a0_readPeople, .int va0_readMany, .ref a0_readSayings, .int va0_readSaid, .ref a0_line, .ref a0_bestLine, .int va0_bestFar, .int va0_bestIce, .ref a0_seen, .ref a0_held]), (a0_tape, aI E 110 va0_tape), (a0_readIce, aI E 12 va0_readIce), (a0_readPeople, aI E 12 va0_readPeople), (a0_readSayings, aI E 10 va0_readSayings)] 85 := by
  intro n
  induction n with
  | zero => intro x1 va0_at va0_readMany va0_readPeople o hf; cases hf
  | succ n ih =>
    intro x1 va0_at va0_readMany va0_readPeople o hf hG
    rw [fX8_reads_L85] at hf
    refine g_iload_n k 1 dX8_reads_85 rfl rfl ?_
    refine g_if_eq k (tgt := 115) dX8_reads_86 (by decide) (fun c15 => ?_) (fun c15 => ?_)
    · replace hf := ite_t c15 hf
      refine g_lv [0, 1] rfl ?_
      obtain rfl := Option.some.inj hf
      exact hG
    · replace hf := ite_f c15 hf
      refine g_aload_n k 0 dX8_reads_89 rfl rfl ?_
      refine g_get k cfX8 12 0 dX8_reads_90 lkX8_138 (by decide) rfl rfl ?_
      refine g_bipush k dX8_reads_93 bi_6 ?_
      refine g_icmp_ge k (tgt := 115) dX8_reads_95 (by decide) (fun c16 => ?_) (fun c16 => ?_)
      · replace hf := ite_t c16 hf
        refine g_lv [0, 1] rfl ?_
        obtain rfl := Option.some.inj hf
        exact hG
      · replace hf := ite_f c16 hf
        refine g_aload_n k 0 dX8_reads_98 rfl rfl ?_
        refine g_bipush k dX8_reads_99 bi_44 ?_
        obtain ⟨o17, ho18, hf⟩ := bnd_some hf
        refine g_cv k miX8_sign mvX8_sign (ctX8_sign (kL K) E N a0 a0_row a0_lanes a0_sizes a0_items a0_tape a0_readIce a0_readPeople a0_readSayings a0_line a0_bestLine a0_seen a0_held va0_isKept va0_length va0_at va0_number va0_readCells va0_readMany va0_readSaid va0_bestFar va0_bestIce va0_tape 44 o17 ho18) [0, 1] 0 (ws' := [(a0, oB 8 [.ref a0_row, .int va0_isKept, .ref a0_lanes, .ref a0_sizes, .ref a0_items, .ref a0_tape, .int va0_length, .int o17.2, .int va0_number, .ref a0_readIce, .int va0_readCells, .ref a0_readPeople, .int va0_readMany, .ref a0_readSayings, .int va0_readSaid, .ref a0_line, .ref a0_bestLine, .int va0_bestFar, .int va0_bestIce, .ref a0_seen, .ref a0_held]), (a0_tape, aI E 110 va0_tape), (a0_readIce, aI E 12 va0_readIce), (a0_readPeople, aI E 12 va0_readPeople), (a0_readSayings, aI E 10 va0_readSayings)]) dX8_reads_101 lkX8_141 rfl ⟨rfl, rfl⟩ ⟨by decide, by decide⟩ rfl rfl rfl rfl (Nat.le_of_ble_eq_true rfl) rfl rfl rfl ?_
        refine g_st (st' := [.int o17.1]) rfl ?_
        refine g_if_eq k (tgt := 115) dX8_reads_104 (by decide) (fun c19 => ?_) (fun c19 => ?_)
        · replace hf := ite_t c19 hf
          refine g_lv [0, 1] rfl ?_
          obtain rfl := Option.some.inj hf
          exact hG
        · replace hf := ite_f c19 hf
          refine g_aload_n k 0 dX8_reads_107 rfl rfl ?_
          obtain ⟨o20, ho21, hf⟩ := bnd_some hf
          refine g_cv k miX8_readsPerson mvX8_readsPerson (ctX8_readsPerson (kL K) E N a0 a0_row a0_lanes a0_sizes a0_items a0_tape a0_readIce a0_readPeople a0_readSayings a0_line a0_bestLine a0_seen a0_held va0_isKept va0_length o17.2 va0_number va0_readCells va0_readMany va0_readSaid va0_bestFar va0_bestIce va0_tape va0_readPeople  o20 ho21) [0, 1, 3] 0 (ws' := [(a0, oB 8 [.ref a0_row, .int va0_isKept, .ref a0_lanes, .ref a0_sizes, .ref a0_items, .ref a0_tape, .int va0_length, .int o20.2.1, .int va0_number, .ref a0_readIce, .int va0_readCells, .ref a0_readPeople, .int o20.2.2.1, .ref a0_readSayings, .int va0_readSaid, .ref a0_line, .ref a0_bestLine, .int va0_bestFar, .int va0_bestIce, .ref a0_seen, .ref a0_held]), (a0_tape, aI E 110 va0_tape), (a0_readIce, aI E 12 va0_readIce), (a0_readPeople, aI E 12 o20.2.2.2), (a0_readSayings, aI E 10 va0_readSayings)]) dX8_reads_108 lkX8_154 rfl ⟨rfl, rfl⟩ ⟨by decide, by decide⟩ rfl rfl rfl rfl (Nat.le_of_ble_eq_true rfl) rfl rfl rfl ?_
          refine g_st (st' := [.int o20.1]) rfl ?_
          refine g_istore_n k (lv' := [(1, .int o20.1), (0, .ref a0)]) dX8_reads_111 rfl (by decide) rfl ?_
          refine g_goto k (tgt := 85) dX8_reads_112 (by decide) ?_
          refine g_lv [1, 0] rfl ?_
          exact ih o20.1 o20.2.1 o20.2.2.1 o20.2.2.2 o hf hG
def fX8_reads_L133 (N : Nat) (va0_length : Int32) (va0_readMany : Int32) (va0_tape : Nat → Int32) : Nat → Int32 → Int32 → Int32 → Int32 → (Nat → Int32) → Option (Int32 × Int32 × Int32 × Int32 × (Nat → Int32))
  | 0, _, _, _, _, _ => none
  | n + 1, x1, va0_at, va0_number, va0_readSaid, va0_readSayings =>
    if x1 = 0 then
    some (x1, va0_at, va0_number, va0_readSaid, va0_readSayings)
    else
    if 5 ≤ va0_readSaid then
    some (x1, va0_at, va0_number, va0_readSaid, va0_readSayings)
    else
    bnd (fX8_sign N va0_length va0_at va0_tape 44) fun o36 =>
    if o36.1 = 0 then
    some (x1, o36.2, va0_number, va0_readSaid, va0_readSayings)
    else
    bnd (fX8_readsSaying N va0_length o36.2 va0_number va0_readMany va0_readSaid va0_tape va0_readSayings) fun o39 =>
    fX8_reads_L133 N va0_length va0_readMany va0_tape n o39.1 o39.2.1 o39.2.2.1 o39.2.2.2.1 o39.2.2.2.2
set_option maxHeartbeats 4000000 in
set_option maxRecDepth 100000 in
theorem wX8_reads_L133 {E : Ev} {K : KX} (k : OKX E K cX8_reads RX8 2 rmX8_reads) (N : Nat) (a0 : Nat) (a0_row : Nat) (a0_lanes : Nat) (a0_sizes : Nat) (a0_items : Nat) (a0_tape : Nat) (a0_readIce : Nat) (a0_readPeople : Nat) (a0_readSayings : Nat) (a0_line : Nat) (a0_bestLine : Nat) (a0_seen : Nat) (a0_held : Nat) (va0_length : Int32) (va0_readMany : Int32) (va0_tape : Nat → Int32) (va0_isKept : Int32) (va0_readCells : Int32) (va0_bestFar : Int32) (va0_bestIce : Int32) (va0_readIce : Nat → Int32) (va0_readPeople : Nat → Int32) : ∀ (n : Nat) (x1 : Int32) (va0_at : Int32) (va0_number : Int32) (va0_readSaid : Int32) (va0_readSayings : Nat → Int32) (o : Int32 × Int32 × Int32 × Int32 × (Nat → Int32)), fX8_reads_L133 N va0_length va0_readMany va0_tape n x1 va0_at va0_number va0_readSaid va0_readSayings = some o → G E K 2 0 0 [(0, .ref a0), (1, .int o.1)] [] [(a0, oB 8 [.ref a0_row, .int va0_isKept, .ref a0_lanes, .ref a0_sizes, .ref a0_items, .ref a0_tape, .int va0_length, .int o.2.1, .int o.2.2.1, .ref a0_readIce, .int va0_readCells, .ref a0_readPeople, .int va0_readMany, .ref a0_readSayings, .int o.2.2.2.1, .ref a0_line, .ref a0_bestLine, .int va0_bestFar, .int va0_bestIce, .ref a0_seen, .ref a0_held]), (a0_tape, aI E 110 va0_tape), (a0_readIce, aI E 12 va0_readIce), (a0_readPeople, aI E 12 va0_readPeople), (a0_readSayings, aI E 10 o.2.2.2.2)] 162 → G E K 2 0 0 [(0, .ref a0), (1, .int x1)] [] [(a0, oB 8 [.ref a0_row, .int va0_isKept, .ref a0_lanes, .ref a0_sizes, .ref a0_items, .ref a0_tape, .int va0_length, .int va0_at, .int va0_number, .ref a0_readIce, .int va0_readCells, .ref a0_readPeople, .int va0_readMany, .ref a0_readSayings, .int va0_readSaid, .ref a0_line, .ref a0_bestLine, .int va0_bestFar, .int va0_bestIce, .ref a0_seen, .ref a0_held]), (a0_tape, aI E 110 va0_tape), (a0_readIce, aI E 12 va0_readIce), (a0_readPeople, aI E 12 va0_readPeople), (a0_readSayings, aI E 10 va0_readSayings)] 133 := by
  intro n
  induction n with
  | zero => intro x1 va0_at va0_number va0_readSaid va0_readSayings o hf; cases hf
  | succ n ih =>
    intro x1 va0_at va0_number va0_readSaid va0_readSayings o hf hG
    rw [fX8_reads_L133] at hf
    refine g_iload_n k 1 dX8_reads_133 rfl rfl ?_
    refine g_if_eq k (tgt := 162) dX8_reads_134 (by decide) (fun c34 => ?_) (fun c34 => ?_)
    · replace hf := ite_t c34 hf
      refine g_lv [0, 1] rfl ?_
      obtain rfl := Option.some.inj hf
      exact hG
    · replace hf := ite_f c34 hf
      refine g_aload_n k 0 dX8_reads_137 rfl rfl ?_
      refine g_get k cfX8 14 0 dX8_reads_138 lkX8_147 (by decide) rfl rfl ?_
      refine g_iconst k dX8_reads_141 ic_5 ?_
      refine g_icmp_ge k (tgt := 162) dX8_reads_142 (by decide) (fun c35 => ?_) (fun c35 => ?_)
      · replace hf := ite_t c35 hf
        refine g_lv [0, 1] rfl ?_
        obtain rfl := Option.some.inj hf
        exact hG
      · replace hf := ite_f c35 hf
        refine g_aload_n k 0 dX8_reads_145 rfl rfl ?_
        refine g_bipush k dX8_reads_146 bi_44 ?_
        obtain ⟨o36, ho37, hf⟩ := bnd_some hf
        refine g_cv k miX8_sign mvX8_sign (ctX8_sign (kL K) E N a0 a0_row a0_lanes a0_sizes a0_items a0_tape a0_readIce a0_readPeople a0_readSayings a0_line a0_bestLine a0_seen a0_held va0_isKept va0_length va0_at va0_number va0_readCells va0_readMany va0_readSaid va0_bestFar va0_bestIce va0_tape 44 o36 ho37) [0, 1] 0 (ws' := [(a0, oB 8 [.ref a0_row, .int va0_isKept, .ref a0_lanes, .ref a0_sizes, .ref a0_items, .ref a0_tape, .int va0_length, .int o36.2, .int va0_number, .ref a0_readIce, .int va0_readCells, .ref a0_readPeople, .int va0_readMany, .ref a0_readSayings, .int va0_readSaid, .ref a0_line, .ref a0_bestLine, .int va0_bestFar, .int va0_bestIce, .ref a0_seen, .ref a0_held]), (a0_tape, aI E 110 va0_tape), (a0_readIce, aI E 12 va0_readIce), (a0_readPeople, aI E 12 va0_readPeople), (a0_readSayings, aI E 10 va0_readSayings)]) dX8_reads_148 lkX8_141 rfl ⟨rfl, rfl⟩ ⟨by decide, by decide⟩ rfl rfl rfl rfl (Nat.le_of_ble_eq_true rfl) rfl rfl rfl ?_
        refine g_st (st' := [.int o36.1]) rfl ?_
        refine g_if_eq k (tgt := 162) dX8_reads_151 (by decide) (fun c38 => ?_) (fun c38 => ?_)
        · replace hf := ite_t c38 hf
          refine g_lv [0, 1] rfl ?_
          obtain rfl := Option.some.inj hf
          exact hG
        · replace hf := ite_f c38 hf
          refine g_aload_n k 0 dX8_reads_154 rfl rfl ?_
          obtain ⟨o39, ho40, hf⟩ := bnd_some hf
          refine g_cv k miX8_readsSaying mvX8_readsSaying (ctX8_readsSaying (kL K) E N a0 a0_row a0_lanes a0_sizes a0_items a0_tape a0_readIce a0_readPeople a0_readSayings a0_line a0_bestLine a0_seen a0_held va0_isKept va0_length o36.2 va0_number va0_readCells va0_readMany va0_readSaid va0_bestFar va0_bestIce va0_tape va0_readSayings  o39 ho40) [0, 1, 4] 0 (ws' := [(a0, oB 8 [.ref a0_row, .int va0_isKept, .ref a0_lanes, .ref a0_sizes, .ref a0_items, .ref a0_tape, .int va0_length, .int o39.2.1, .int o39.2.2.1, .ref a0_readIce, .int va0_readCells, .ref a0_readPeople, .int va0_readMany, .ref a0_readSayings, .int o39.2.2.2.1, .ref a0_line, .ref a0_bestLine, .int va0_bestFar, .int va0_bestIce, .ref a0_seen, .ref a0_held]), (a0_tape, aI E 110 va0_tape), (a0_readIce, aI E 12 va0_readIce), (a0_readPeople, aI E 12 va0_readPeople), (a0_readSayings, aI E 10 o39.2.2.2.2)]) dX8_reads_155 lkX8_157 rfl ⟨rfl, rfl⟩ ⟨by decide, by decide⟩ rfl rfl rfl rfl (Nat.le_of_ble_eq_true rfl) rfl rfl rfl ?_
          refine g_st (st' := [.int o39.1]) rfl ?_
          refine g_istore_n k (lv' := [(1, .int o39.1), (0, .ref a0)]) dX8_reads_158 rfl (by decide) rfl ?_
          refine g_goto k (tgt := 133) dX8_reads_159 (by decide) ?_
          refine g_lv [1, 0] rfl ?_
          exact ih o39.1 o39.2.1 o39.2.2.1 o39.2.2.2.1 o39.2.2.2.2 o hf hG
def fX8_reads (N : Nat) (va0_length : Int32) (va0_at : Int32) (va0_number : Int32) (va0_readCells : Int32) (va0_readMany : Int32) (va0_readSaid : Int32) (va0_tape : Nat → Int32) (va0_readIce : Nat → Int32) (va0_readPeople : Nat → Int32) (va0_readSayings : Nat → Int32)  : Option (Int32 × Int32 × Int32 × Int32 × Int32 × Int32 × (Nat → Int32) × (Nat → Int32) × (Nat → Int32)) :=
  bnd (fX8_skip N va0_length 0 va0_tape) fun o1 =>
  bnd (fX8_readsCell N va0_length o1 va0_number 0 va0_tape va0_readIce) fun o3 =>
  bnd (fX8_reads_L29 N va0_length va0_tape N o3.1 o3.2.1 o3.2.2.1 o3.2.2.2.1 o3.2.2.2.2) fun o12 =>
  if o12.1 = 0 then
  bnd (fX8_reads_L85 N va0_length va0_tape N 0 o12.2.1 0 va0_readPeople) fun o22 =>
  if o22.1 = 0 then
  if o22.1 = 0 then
  some (0, o22.2.1, o12.2.2.1, o12.2.2.2.1, o22.2.2.1, 0, o12.2.2.2.2, o22.2.2.2, va0_readSayings)
  else
  if o22.2.1 = va0_length then
  some (1, o22.2.1, o12.2.2.1, o12.2.2.2.1, o22.2.2.1, 0, o12.2.2.2.2, o22.2.2.2, va0_readSayings)
  else
  some (0, o22.2.1, o12.2.2.1, o12.2.2.2.1, o22.2.2.1, 0, o12.2.2.2.2, o22.2.2.2, va0_readSayings)
  else
  bnd (fX8_sign N va0_length o22.2.1 va0_tape 59) fun o27 =>
  if o27.1 = 0 then
  if o22.1 = 0 then
  some (0, o27.2, o12.2.2.1, o12.2.2.2.1, o22.2.2.1, 0, o12.2.2.2.2, o22.2.2.2, va0_readSayings)
  else
  if o27.2 = va0_length then
  some (1, o27.2, o12.2.2.1, o12.2.2.2.1, o22.2.2.1, 0, o12.2.2.2.2, o22.2.2.2, va0_readSayings)
  else
  some (0, o27.2, o12.2.2.1, o12.2.2.2.1, o22.2.2.1, 0, o12.2.2.2.2, o22.2.2.2, va0_readSayings)
  else
  bnd (fX8_readsSaying N va0_length o27.2 o12.2.2.1 o22.2.2.1 0 va0_tape va0_readSayings) fun o32 =>
  bnd (fX8_reads_L133 N va0_length o22.2.2.1 va0_tape N o32.1 o32.2.1 o32.2.2.1 o32.2.2.2.1 o32.2.2.2.2) fun o41 =>
  if o41.1 = 0 then
  some (0, o41.2.1, o41.2.2.1, o12.2.2.2.1, o22.2.2.1, o41.2.2.2.1, o12.2.2.2.2, o22.2.2.2, o41.2.2.2.2)
  else
  if o41.2.1 = va0_length then
  some (1, o41.2.1, o41.2.2.1, o12.2.2.2.1, o22.2.2.1, o41.2.2.2.1, o12.2.2.2.2, o22.2.2.2, o41.2.2.2.2)
  else
  some (0, o41.2.1, o41.2.2.1, o12.2.2.2.1, o22.2.2.1, o41.2.2.2.1, o12.2.2.2.2, o22.2.2.2, o41.2.2.2.2)
  else
  bnd (fX8_sign N va0_length o12.2.1 va0_tape 59) fun o45 =>
  if o45.1 = 0 then
  bnd (fX8_reads_L85 N va0_length va0_tape N 0 o45.2 0 va0_readPeople) fun o48 =>
  if o48.1 = 0 then
  if o48.1 = 0 then
  some (0, o48.2.1, o12.2.2.1, o12.2.2.2.1, o48.2.2.1, 0, o12.2.2.2.2, o48.2.2.2, va0_readSayings)
  else
  if o48.2.1 = va0_length then
  some (1, o48.2.1, o12.2.2.1, o12.2.2.2.1, o48.2.2.1, 0, o12.2.2.2.2, o48.2.2.2, va0_readSayings)
  else
  some (0, o48.2.1, o12.2.2.1, o12.2.2.2.1, o48.2.2.1, 0, o12.2.2.2.2, o48.2.2.2, va0_readSayings)
  else
  bnd (fX8_sign N va0_length o48.2.1 va0_tape 59) fun o53 =>
  if o53.1 = 0 then
  if o48.1 = 0 then
  some (0, o53.2, o12.2.2.1, o12.2.2.2.1, o48.2.2.1, 0, o12.2.2.2.2, o48.2.2.2, va0_readSayings)
  else
  if o53.2 = va0_length then
  some (1, o53.2, o12.2.2.1, o12.2.2.2.1, o48.2.2.1, 0, o12.2.2.2.2, o48.2.2.2, va0_readSayings)
  else
  some (0, o53.2, o12.2.2.1, o12.2.2.2.1, o48.2.2.1, 0, o12.2.2.2.2, o48.2.2.2, va0_readSayings)
  else
  bnd (fX8_readsSaying N va0_length o53.2 o12.2.2.1 o48.2.2.1 0 va0_tape va0_readSayings) fun o58 =>
  bnd (fX8_reads_L133 N va0_length o48.2.2.1 va0_tape N o58.1 o58.2.1 o58.2.2.1 o58.2.2.2.1 o58.2.2.2.2) fun o60 =>
  if o60.1 = 0 then
  some (0, o60.2.1, o60.2.2.1, o12.2.2.2.1, o48.2.2.1, o60.2.2.2.1, o12.2.2.2.2, o48.2.2.2, o60.2.2.2.2)
  else
  if o60.2.1 = va0_length then
  some (1, o60.2.1, o60.2.2.1, o12.2.2.2.1, o48.2.2.1, o60.2.2.2.1, o12.2.2.2.2, o48.2.2.2, o60.2.2.2.2)
  else
  some (0, o60.2.1, o60.2.2.1, o12.2.2.2.1, o48.2.2.1, o60.2.2.2.1, o12.2.2.2.2, o48.2.2.2, o60.2.2.2.2)
  else
  bnd (fX8_readsPerson N va0_length o45.2 0 va0_tape va0_readPeople) fun o64 =>
  if o64.1 = 0 then
  bnd (fX8_reads_L85 N va0_length va0_tape N 0 o64.2.1 o64.2.2.1 o64.2.2.2) fun o67 =>
  if o67.1 = 0 then
  if o67.1 = 0 then
  some (0, o67.2.1, o12.2.2.1, o12.2.2.2.1, o67.2.2.1, 0, o12.2.2.2.2, o67.2.2.2, va0_readSayings)
  else
  if o67.2.1 = va0_length then
  some (1, o67.2.1, o12.2.2.1, o12.2.2.2.1, o67.2.2.1, 0, o12.2.2.2.2, o67.2.2.2, va0_readSayings)
  else
  some (0, o67.2.1, o12.2.2.1, o12.2.2.2.1, o67.2.2.1, 0, o12.2.2.2.2, o67.2.2.2, va0_readSayings)
  else
  bnd (fX8_sign N va0_length o67.2.1 va0_tape 59) fun o72 =>
  if o72.1 = 0 then
  if o67.1 = 0 then
  some (0, o72.2, o12.2.2.1, o12.2.2.2.1, o67.2.2.1, 0, o12.2.2.2.2, o67.2.2.2, va0_readSayings)
  else
  if o72.2 = va0_length then
  some (1, o72.2, o12.2.2.1, o12.2.2.2.1, o67.2.2.1, 0, o12.2.2.2.2, o67.2.2.2, va0_readSayings)
  else
  some (0, o72.2, o12.2.2.1, o12.2.2.2.1, o67.2.2.1, 0, o12.2.2.2.2, o67.2.2.2, va0_readSayings)
  else
  bnd (fX8_readsSaying N va0_length o72.2 o12.2.2.1 o67.2.2.1 0 va0_tape va0_readSayings) fun o77 =>
  bnd (fX8_reads_L133 N va0_length o67.2.2.1 va0_tape N o77.1 o77.2.1 o77.2.2.1 o77.2.2.2.1 o77.2.2.2.2) fun o79 =>
  if o79.1 = 0 then
  some (0, o79.2.1, o79.2.2.1, o12.2.2.2.1, o67.2.2.1, o79.2.2.2.1, o12.2.2.2.2, o67.2.2.2, o79.2.2.2.2)
  else
  if o79.2.1 = va0_length then
  some (1, o79.2.1, o79.2.2.1, o12.2.2.2.1, o67.2.2.1, o79.2.2.2.1, o12.2.2.2.2, o67.2.2.2, o79.2.2.2.2)
  else
  some (0, o79.2.1, o79.2.2.1, o12.2.2.2.1, o67.2.2.1, o79.2.2.2.1, o12.2.2.2.2, o67.2.2.2, o79.2.2.2.2)
  else
  bnd (fX8_reads_L85 N va0_length va0_tape N 1 o64.2.1 o64.2.2.1 o64.2.2.2) fun o83 =>
  if o83.1 = 0 then
  if o83.1 = 0 then
  some (0, o83.2.1, o12.2.2.1, o12.2.2.2.1, o83.2.2.1, 0, o12.2.2.2.2, o83.2.2.2, va0_readSayings)
  else
  if o83.2.1 = va0_length then
  some (1, o83.2.1, o12.2.2.1, o12.2.2.2.1, o83.2.2.1, 0, o12.2.2.2.2, o83.2.2.2, va0_readSayings)
  else
  some (0, o83.2.1, o12.2.2.1, o12.2.2.2.1, o83.2.2.1, 0, o12.2.2.2.2, o83.2.2.2, va0_readSayings)
  else
  bnd (fX8_sign N va0_length o83.2.1 va0_tape 59) fun o88 =>
  if o88.1 = 0 then
  if o83.1 = 0 then
  some (0, o88.2, o12.2.2.1, o12.2.2.2.1, o83.2.2.1, 0, o12.2.2.2.2, o83.2.2.2, va0_readSayings)
  else
  if o88.2 = va0_length then
  some (1, o88.2, o12.2.2.1, o12.2.2.2.1, o83.2.2.1, 0, o12.2.2.2.2, o83.2.2.2, va0_readSayings)
  else
  some (0, o88.2, o12.2.2.1, o12.2.2.2.1, o83.2.2.1, 0, o12.2.2.2.2, o83.2.2.2, va0_readSayings)
  else
  bnd (fX8_readsSaying N va0_length o88.2 o12.2.2.1 o83.2.2.1 0 va0_tape va0_readSayings) fun o93 =>
  bnd (fX8_reads_L133 N va0_length o83.2.2.1 va0_tape N o93.1 o93.2.1 o93.2.2.1 o93.2.2.2.1 o93.2.2.2.2) fun o95 =>
  if o95.1 = 0 then
  some (0, o95.2.1, o95.2.2.1, o12.2.2.2.1, o83.2.2.1, o95.2.2.2.1, o12.2.2.2.2, o83.2.2.2, o95.2.2.2.2)
  else
  if o95.2.1 = va0_length then
  some (1, o95.2.1, o95.2.2.1, o12.2.2.2.1, o83.2.2.1, o95.2.2.2.1, o12.2.2.2.2, o83.2.2.2, o95.2.2.2.2)
  else
  some (0, o95.2.1, o95.2.2.1, o12.2.2.2.1, o83.2.2.1, o95.2.2.2.1, o12.2.2.2.2, o83.2.2.2, o95.2.2.2.2)
set_option maxHeartbeats 4000000 in
set_option maxRecDepth 100000 in
theorem ctX8_reads (l : Launch) (E : Ev) (N : Nat) (a0 : Nat) (a0_row : Nat) (a0_lanes : Nat) (a0_sizes : Nat) (a0_items : Nat) (a0_tape : Nat) (a0_readIce : Nat) (a0_readPeople : Nat) (a0_readSayings : Nat) (a0_line : Nat) (a0_bestLine : Nat) (a0_seen : Nat) (a0_held : Nat) (va0_isKept : Int32) (va0_length : Int32) (va0_at : Int32) (va0_number : Int32) (va0_readCells : Int32) (va0_readMany : Int32) (va0_readSaid : Int32) (va0_bestFar : Int32) (va0_bestIce : Int32) (va0_tape : Nat → Int32) (va0_readIce : Nat → Int32) (va0_readPeople : Nat → Int32) (va0_readSayings : Nat → Int32)  (out : Int32 × Int32 × Int32 × Int32 × Int32 × Int32 × (Nat → Int32) × (Nat → Int32) × (Nat → Int32)) (hf : fX8_reads N va0_length va0_at va0_number va0_readCells va0_readMany va0_readSaid va0_tape va0_readIce va0_readPeople va0_readSayings  = some out) : Ct l E yX8_reads cX8_reads 2 (some .boolean) rmX8_reads [.ref a0] [(a0, oB 8 [.ref a0_row, .int va0_isKept, .ref a0_lanes, .ref a0_sizes, .ref a0_items, .ref a0_tape, .int va0_length, .int va0_at, .int va0_number, .ref a0_readIce, .int va0_readCells, .ref a0_readPeople, .int va0_readMany, .ref a0_readSayings, .int va0_readSaid, .ref a0_line, .ref a0_bestLine, .int va0_bestFar, .int va0_bestIce, .ref a0_seen, .ref a0_held]), (a0_tape, aI E 110 va0_tape), (a0_readIce, aI E 12 va0_readIce), (a0_readPeople, aI E 12 va0_readPeople), (a0_readSayings, aI E 10 va0_readSayings)] (Pe (some (.int out.1)) [(a0, oB 8 [.ref a0_row, .int va0_isKept, .ref a0_lanes, .ref a0_sizes, .ref a0_items, .ref a0_tape, .int va0_length, .int out.2.1, .int out.2.2.1, .ref a0_readIce, .int out.2.2.2.1, .ref a0_readPeople, .int out.2.2.2.2.1, .ref a0_readSayings, .int out.2.2.2.2.2.1, .ref a0_line, .ref a0_bestLine, .int va0_bestFar, .int va0_bestIce, .ref a0_seen, .ref a0_held]), (a0_tape, aI E 110 va0_tape), (a0_readIce, aI E 12 out.2.2.2.2.2.2.1), (a0_readPeople, aI E 12 out.2.2.2.2.2.2.2.1), (a0_readSayings, aI E 10 out.2.2.2.2.2.2.2.2)]) := by
  refine Ct.of rfl (Nat.le_of_ble_eq_true rfl) (fun K hL k r hin => ?_)
  subst hL
  unfold fX8_reads at hf
  show G E K 2 0 0 [(0, .ref a0)] [] [(a0, oB 8 [.ref a0_row, .int va0_isKept, .ref a0_lanes, .ref a0_sizes, .ref a0_items, .ref a0_tape, .int va0_length, .int va0_at, .int va0_number, .ref a0_readIce, .int va0_readCells, .ref a0_readPeople, .int va0_readMany, .ref a0_readSayings, .int va0_readSaid, .ref a0_line, .ref a0_bestLine, .int va0_bestFar, .int va0_bestIce, .ref a0_seen, .ref a0_held]), (a0_tape, aI E 110 va0_tape), (a0_readIce, aI E 12 va0_readIce), (a0_readPeople, aI E 12 va0_readPeople), (a0_readSayings, aI E 10 va0_readSayings)] 0
  refine g_aload_n k 0 dX8_reads_0 rfl rfl ?_
  refine g_iconst k dX8_reads_1 ic_0 ?_
  refine g_put k cfX8 7 0 (ws' := [(a0, oB 8 [.ref a0_row, .int va0_isKept, .ref a0_lanes, .ref a0_sizes, .ref a0_items, .ref a0_tape, .int va0_length, .int 0, .int va0_number, .ref a0_readIce, .int va0_readCells, .ref a0_readPeople, .int va0_readMany, .ref a0_readSayings, .int va0_readSaid, .ref a0_line, .ref a0_bestLine, .int va0_bestFar, .int va0_bestIce, .ref a0_seen, .ref a0_held]), (a0_tape, aI E 110 va0_tape), (a0_readIce, aI E 12 va0_readIce), (a0_readPeople, aI E 12 va0_readPeople), (a0_readSayings, aI E 10 va0_readSayings)]) dX8_reads_2 lkX8_115 (by decide) rfl rfl rfl rfl (Nat.le_of_ble_eq_true rfl) rfl ?_
  refine g_aload_n k 0 dX8_reads_5 rfl rfl ?_
  refine g_iconst k dX8_reads_6 ic_0 ?_
  refine g_put k cfX8 10 0 (ws' := [(a0, oB 8 [.ref a0_row, .int va0_isKept, .ref a0_lanes, .ref a0_sizes, .ref a0_items, .ref a0_tape, .int va0_length, .int 0, .int va0_number, .ref a0_readIce, .int 0, .ref a0_readPeople, .int va0_readMany, .ref a0_readSayings, .int va0_readSaid, .ref a0_line, .ref a0_bestLine, .int va0_bestFar, .int va0_bestIce, .ref a0_seen, .ref a0_held]), (a0_tape, aI E 110 va0_tape), (a0_readIce, aI E 12 va0_readIce), (a0_readPeople, aI E 12 va0_readPeople), (a0_readSayings, aI E 10 va0_readSayings)]) dX8_reads_7 lkX8_135 (by decide) rfl rfl rfl rfl (Nat.le_of_ble_eq_true rfl) rfl ?_
  refine g_aload_n k 0 dX8_reads_10 rfl rfl ?_
  refine g_iconst k dX8_reads_11 ic_0 ?_
  refine g_put k cfX8 12 0 (ws' := [(a0, oB 8 [.ref a0_row, .int va0_isKept, .ref a0_lanes, .ref a0_sizes, .ref a0_items, .ref a0_tape, .int va0_length, .int 0, .int va0_number, .ref a0_readIce, .int 0, .ref a0_readPeople, .int 0, .ref a0_readSayings, .int va0_readSaid, .ref a0_line, .ref a0_bestLine, .int va0_bestFar, .int va0_bestIce, .ref a0_seen, .ref a0_held]), (a0_tape, aI E 110 va0_tape), (a0_readIce, aI E 12 va0_readIce), (a0_readPeople, aI E 12 va0_readPeople), (a0_readSayings, aI E 10 va0_readSayings)]) dX8_reads_12 lkX8_138 (by decide) rfl rfl rfl rfl (Nat.le_of_ble_eq_true rfl) rfl ?_
  refine g_aload_n k 0 dX8_reads_15 rfl rfl ?_
  refine g_iconst k dX8_reads_16 ic_0 ?_
  refine g_put k cfX8 14 0 (ws' := [(a0, oB 8 [.ref a0_row, .int va0_isKept, .ref a0_lanes, .ref a0_sizes, .ref a0_items, .ref a0_tape, .int va0_length, .int 0, .int va0_number, .ref a0_readIce, .int 0, .ref a0_readPeople, .int 0, .ref a0_readSayings, .int 0, .ref a0_line, .ref a0_bestLine, .int va0_bestFar, .int va0_bestIce, .ref a0_seen, .ref a0_held]), (a0_tape, aI E 110 va0_tape), (a0_readIce, aI E 12 va0_readIce), (a0_readPeople, aI E 12 va0_readPeople), (a0_readSayings, aI E 10 va0_readSayings)]) dX8_reads_17 lkX8_147 (by decide) rfl rfl rfl rfl (Nat.le_of_ble_eq_true rfl) rfl ?_
  refine g_aload_n k 0 dX8_reads_20 rfl rfl ?_
  obtain ⟨o1, ho2, hf⟩ := bnd_some hf
  refine g_cv k miX8_skip mvX8_skip (ctX8_skip (kL K) E N a0 a0_row a0_lanes a0_sizes a0_items a0_tape a0_readIce a0_readPeople a0_readSayings a0_line a0_bestLine a0_seen a0_held va0_isKept va0_length 0 va0_number 0 0 0 va0_bestFar va0_bestIce va0_tape  o1 ho2) [0, 1] 0 (ws' := [(a0, oB 8 [.ref a0_row, .int va0_isKept, .ref a0_lanes, .ref a0_sizes, .ref a0_items, .ref a0_tape, .int va0_length, .int o1, .int va0_number, .ref a0_readIce, .int 0, .ref a0_readPeople, .int 0, .ref a0_readSayings, .int 0, .ref a0_line, .ref a0_bestLine, .int va0_bestFar, .int va0_bestIce, .ref a0_seen, .ref a0_held]), (a0_tape, aI E 110 va0_tape), (a0_readIce, aI E 12 va0_readIce), (a0_readPeople, aI E 12 va0_readPeople), (a0_readSayings, aI E 10 va0_readSayings)]) dX8_reads_21 lkX8_123 rfl ⟨rfl, rfl⟩ ⟨by decide, by decide⟩ rfl rfl rfl rfl (Nat.le_of_ble_eq_true rfl) rfl rfl rfl ?_
  refine g_st (st' := []) rfl ?_
  refine g_aload_n k 0 dX8_reads_24 rfl rfl ?_
  obtain ⟨o3, ho4, hf⟩ := bnd_some hf
  refine g_cv k miX8_readsCell mvX8_readsCell (ctX8_readsCell (kL K) E N a0 a0_row a0_lanes a0_sizes a0_items a0_tape a0_readIce a0_readPeople a0_readSayings a0_line a0_bestLine a0_seen a0_held va0_isKept va0_length o1 va0_number 0 0 0 va0_bestFar va0_bestIce va0_tape va0_readIce  o3 ho4) [0, 1, 2] 0 (ws' := [(a0, oB 8 [.ref a0_row, .int va0_isKept, .ref a0_lanes, .ref a0_sizes, .ref a0_items, .ref a0_tape, .int va0_length, .int o3.2.1, .int o3.2.2.1, .ref a0_readIce, .int o3.2.2.2.1, .ref a0_readPeople, .int 0, .ref a0_readSayings, .int 0, .ref a0_line, .ref a0_bestLine, .int va0_bestFar, .int va0_bestIce, .ref a0_seen, .ref a0_held]), (a0_tape, aI E 110 va0_tape), (a0_readIce, aI E 12 o3.2.2.2.2), (a0_readPeople, aI E 12 va0_readPeople), (a0_readSayings, aI E 10 va0_readSayings)]) dX8_reads_25 lkX8_150 rfl ⟨rfl, rfl⟩ ⟨by decide, by decide⟩ rfl rfl rfl rfl (Nat.le_of_ble_eq_true rfl) rfl rfl rfl ?_
  refine g_st (st' := [.int o3.1]) rfl ?_
  refine g_istore_n k (lv' := [(1, .int o3.1), (0, .ref a0)]) dX8_reads_28 rfl (by decide) rfl ?_
  obtain ⟨o12, ho13, hf⟩ := bnd_some hf
  refine g_lv [1, 0] (lv' := [(0, .ref a0), (1, .int o3.1)]) rfl ?_
  refine wX8_reads_L29 k N a0 a0_row a0_lanes a0_sizes a0_items a0_tape a0_readIce a0_readPeople a0_readSayings a0_line a0_bestLine a0_seen a0_held  va0_length va0_tape va0_isKept 0 0 va0_bestFar va0_bestIce va0_readPeople va0_readSayings N o3.1 o3.2.1 o3.2.2.1 o3.2.2.2.1 o3.2.2.2.2 o12 ho13 ?_
  refine g_iload_n k 1 dX8_reads_59 rfl rfl ?_
  refine g_if_eq k (tgt := 83) dX8_reads_60 (by decide) (fun c14 => ?_) (fun c14 => ?_)
  · replace hf := ite_t c14 hf
    refine g_iconst k dX8_reads_83 ic_0 ?_
    refine g_istore_n k (lv' := [(1, .int 0), (0, .ref a0)]) dX8_reads_84 rfl (by decide) rfl ?_
    obtain ⟨o22, ho23, hf⟩ := bnd_some hf
    refine g_lv [1, 0] (lv' := [(0, .ref a0), (1, .int 0)]) rfl ?_
    refine wX8_reads_L85 k N a0 a0_row a0_lanes a0_sizes a0_items a0_tape a0_readIce a0_readPeople a0_readSayings a0_line a0_bestLine a0_seen a0_held  va0_length va0_tape va0_isKept o12.2.2.1 o12.2.2.2.1 0 va0_bestFar va0_bestIce o12.2.2.2.2 va0_readSayings N 0 o12.2.1 0 va0_readPeople o22 ho23 ?_
    refine g_iload_n k 1 dX8_reads_115 rfl rfl ?_
    refine g_if_eq k (tgt := 162) dX8_reads_116 (by decide) (fun c24 => ?_) (fun c24 => ?_)
    · replace hf := ite_t c24 hf
      refine g_iload_n k 1 dX8_reads_162 rfl rfl ?_
      refine g_if_eq k (tgt := 181) dX8_reads_163 (by decide) (fun c25 => ?_) (fun c25 => ?_)
      · replace hf := ite_t c25 hf
        refine g_iconst k dX8_reads_181 ic_0 ?_
        obtain rfl := Option.some.inj hf
        exact g_zret k (rfl) r dX8_reads_182 ⟨rfl, rfl⟩
      · replace hf := ite_f c25 hf
        refine g_aload_n k 0 dX8_reads_166 rfl rfl ?_
        refine g_get k cfX8 7 0 dX8_reads_167 lkX8_115 (by decide) rfl rfl ?_
        refine g_aload_n k 0 dX8_reads_170 rfl rfl ?_
        refine g_get k cfX8 6 0 dX8_reads_171 lkX8_111 (by decide) rfl rfl ?_
        refine g_icmp_ne k (tgt := 181) dX8_reads_174 (by decide) (fun c26 => ?_) (fun c26 => ?_)
        · replace hf := ite_f c26 hf
          refine g_iconst k dX8_reads_181 ic_0 ?_
          obtain rfl := Option.some.inj hf
          exact g_zret k (rfl) r dX8_reads_182 ⟨rfl, rfl⟩
        · replace hf := ite_t c26 hf
          refine g_iconst k dX8_reads_177 ic_1 ?_
          refine g_goto k (tgt := 182) dX8_reads_178 (by decide) ?_
          obtain rfl := Option.some.inj hf
          exact g_zret k (rfl) r dX8_reads_182 ⟨rfl, rfl⟩
    · replace hf := ite_f c24 hf
      refine g_aload_n k 0 dX8_reads_119 rfl rfl ?_
      refine g_bipush k dX8_reads_120 bi_59 ?_
      obtain ⟨o27, ho28, hf⟩ := bnd_some hf
      refine g_cv k miX8_sign mvX8_sign (ctX8_sign (kL K) E N a0 a0_row a0_lanes a0_sizes a0_items a0_tape a0_readIce a0_readPeople a0_readSayings a0_line a0_bestLine a0_seen a0_held va0_isKept va0_length o22.2.1 o12.2.2.1 o12.2.2.2.1 o22.2.2.1 0 va0_bestFar va0_bestIce va0_tape 59 o27 ho28) [0, 1] 0 (ws' := [(a0, oB 8 [.ref a0_row, .int va0_isKept, .ref a0_lanes, .ref a0_sizes, .ref a0_items, .ref a0_tape, .int va0_length, .int o27.2, .int o12.2.2.1, .ref a0_readIce, .int o12.2.2.2.1, .ref a0_readPeople, .int o22.2.2.1, .ref a0_readSayings, .int 0, .ref a0_line, .ref a0_bestLine, .int va0_bestFar, .int va0_bestIce, .ref a0_seen, .ref a0_held]), (a0_tape, aI E 110 va0_tape), (a0_readIce, aI E 12 o12.2.2.2.2), (a0_readPeople, aI E 12 o22.2.2.2), (a0_readSayings, aI E 10 va0_readSayings)]) dX8_reads_122 lkX8_141 rfl ⟨rfl, rfl⟩ ⟨by decide, by decide⟩ rfl rfl rfl rfl (Nat.le_of_ble_eq_true rfl) rfl rfl rfl ?_
      refine g_st (st' := [.int o27.1]) rfl ?_
      refine g_if_eq k (tgt := 162) dX8_reads_125 (by decide) (fun c29 => ?_) (fun c29 => ?_)
      · replace hf := ite_t c29 hf
        refine g_iload_n k 1 dX8_reads_162 rfl rfl ?_
        refine g_if_eq k (tgt := 181) dX8_reads_163 (by decide) (fun c30 => ?_) (fun c30 => ?_)
        · replace hf := ite_t c30 hf
          refine g_iconst k dX8_reads_181 ic_0 ?_
          obtain rfl := Option.some.inj hf
          exact g_zret k (rfl) r dX8_reads_182 ⟨rfl, rfl⟩
        · replace hf := ite_f c30 hf
          refine g_aload_n k 0 dX8_reads_166 rfl rfl ?_
          refine g_get k cfX8 7 0 dX8_reads_167 lkX8_115 (by decide) rfl rfl ?_
          refine g_aload_n k 0 dX8_reads_170 rfl rfl ?_
          refine g_get k cfX8 6 0 dX8_reads_171 lkX8_111 (by decide) rfl rfl ?_
          refine g_icmp_ne k (tgt := 181) dX8_reads_174 (by decide) (fun c31 => ?_) (fun c31 => ?_)
          · replace hf := ite_f c31 hf
            refine g_iconst k dX8_reads_181 ic_0 ?_
            obtain rfl := Option.some.inj hf
            exact g_zret k (rfl) r dX8_reads_182 ⟨rfl, rfl⟩
          · replace hf := ite_t c31 hf
            refine g_iconst k dX8_reads_177 ic_1 ?_
            refine g_goto k (tgt := 182) dX8_reads_178 (by decide) ?_
            obtain rfl := Option.some.inj hf
            exact g_zret k (rfl) r dX8_reads_182 ⟨rfl, rfl⟩
      · replace hf := ite_f c29 hf
        refine g_aload_n k 0 dX8_reads_128 rfl rfl ?_
        obtain ⟨o32, ho33, hf⟩ := bnd_some hf
        refine g_cv k miX8_readsSaying mvX8_readsSaying (ctX8_readsSaying (kL K) E N a0 a0_row a0_lanes a0_sizes a0_items a0_tape a0_readIce a0_readPeople a0_readSayings a0_line a0_bestLine a0_seen a0_held va0_isKept va0_length o27.2 o12.2.2.1 o12.2.2.2.1 o22.2.2.1 0 va0_bestFar va0_bestIce va0_tape va0_readSayings  o32 ho33) [0, 1, 4] 0 (ws' := [(a0, oB 8 [.ref a0_row, .int va0_isKept, .ref a0_lanes, .ref a0_sizes, .ref a0_items, .ref a0_tape, .int va0_length, .int o32.2.1, .int o32.2.2.1, .ref a0_readIce, .int o12.2.2.2.1, .ref a0_readPeople, .int o22.2.2.1, .ref a0_readSayings, .int o32.2.2.2.1, .ref a0_line, .ref a0_bestLine, .int va0_bestFar, .int va0_bestIce, .ref a0_seen, .ref a0_held]), (a0_tape, aI E 110 va0_tape), (a0_readIce, aI E 12 o12.2.2.2.2), (a0_readPeople, aI E 12 o22.2.2.2), (a0_readSayings, aI E 10 o32.2.2.2.2)]) dX8_reads_129 lkX8_157 rfl ⟨rfl, rfl⟩ ⟨by decide, by decide⟩ rfl rfl rfl rfl (Nat.le_of_ble_eq_true rfl) rfl rfl rfl ?_
        refine g_st (st' := [.int o32.1]) rfl ?_
        refine g_istore_n k (lv' := [(1, .int o32.1), (0, .ref a0)]) dX8_reads_132 rfl (by decide) rfl ?_
        obtain ⟨o41, ho42, hf⟩ := bnd_some hf
        refine g_lv [1, 0] (lv' := [(0, .ref a0), (1, .int o32.1)]) rfl ?_
        refine wX8_reads_L133 k N a0 a0_row a0_lanes a0_sizes a0_items a0_tape a0_readIce a0_readPeople a0_readSayings a0_line a0_bestLine a0_seen a0_held  va0_length o22.2.2.1 va0_tape va0_isKept o12.2.2.2.1 va0_bestFar va0_bestIce o12.2.2.2.2 o22.2.2.2 N o32.1 o32.2.1 o32.2.2.1 o32.2.2.2.1 o32.2.2.2.2 o41 ho42 ?_
        refine g_iload_n k 1 dX8_reads_162 rfl rfl ?_
        refine g_if_eq k (tgt := 181) dX8_reads_163 (by decide) (fun c43 => ?_) (fun c43 => ?_)
        · replace hf := ite_t c43 hf
          refine g_iconst k dX8_reads_181 ic_0 ?_
          obtain rfl := Option.some.inj hf
          exact g_zret k (rfl) r dX8_reads_182 ⟨rfl, rfl⟩
        · replace hf := ite_f c43 hf
          refine g_aload_n k 0 dX8_reads_166 rfl rfl ?_
          refine g_get k cfX8 7 0 dX8_reads_167 lkX8_115 (by decide) rfl rfl ?_
          refine g_aload_n k 0 dX8_reads_170 rfl rfl ?_
          refine g_get k cfX8 6 0 dX8_reads_171 lkX8_111 (by decide) rfl rfl ?_
          refine g_icmp_ne k (tgt := 181) dX8_reads_174 (by decide) (fun c44 => ?_) (fun c44 => ?_)
          · replace hf := ite_f c44 hf
            refine g_iconst k dX8_reads_181 ic_0 ?_
            obtain rfl := Option.some.inj hf
            exact g_zret k (rfl) r dX8_reads_182 ⟨rfl, rfl⟩
          · replace hf := ite_t c44 hf
            refine g_iconst k dX8_reads_177 ic_1 ?_
            refine g_goto k (tgt := 182) dX8_reads_178 (by decide) ?_
            obtain rfl := Option.some.inj hf
            exact g_zret k (rfl) r dX8_reads_182 ⟨rfl, rfl⟩
  · replace hf := ite_f c14 hf
    refine g_aload_n k 0 dX8_reads_63 rfl rfl ?_
    refine g_bipush k dX8_reads_64 bi_59 ?_
    obtain ⟨o45, ho46, hf⟩ := bnd_some hf
    refine g_cv k miX8_sign mvX8_sign (ctX8_sign (kL K) E N a0 a0_row a0_lanes a0_sizes a0_items a0_tape a0_readIce a0_readPeople a0_readSayings a0_line a0_bestLine a0_seen a0_held va0_isKept va0_length o12.2.1 o12.2.2.1 o12.2.2.2.1 0 0 va0_bestFar va0_bestIce va0_tape 59 o45 ho46) [0, 1] 0 (ws' := [(a0, oB 8 [.ref a0_row, .int va0_isKept, .ref a0_lanes, .ref a0_sizes, .ref a0_items, .ref a0_tape, .int va0_length, .int o45.2, .int o12.2.2.1, .ref a0_readIce, .int o12.2.2.2.1, .ref a0_readPeople, .int 0, .ref a0_readSayings, .int 0, .ref a0_line, .ref a0_bestLine, .int va0_bestFar, .int va0_bestIce, .ref a0_seen, .ref a0_held]), (a0_tape, aI E 110 va0_tape), (a0_readIce, aI E 12 o12.2.2.2.2), (a0_readPeople, aI E 12 va0_readPeople), (a0_readSayings, aI E 10 va0_readSayings)]) dX8_reads_66 lkX8_141 rfl ⟨rfl, rfl⟩ ⟨by decide, by decide⟩ rfl rfl rfl rfl (Nat.le_of_ble_eq_true rfl) rfl rfl rfl ?_
    refine g_st (st' := [.int o45.1]) rfl ?_
    refine g_if_eq k (tgt := 83) dX8_reads_69 (by decide) (fun c47 => ?_) (fun c47 => ?_)
    · replace hf := ite_t c47 hf
      refine g_iconst k dX8_reads_83 ic_0 ?_
      refine g_istore_n k (lv' := [(1, .int 0), (0, .ref a0)]) dX8_reads_84 rfl (by decide) rfl ?_
      obtain ⟨o48, ho49, hf⟩ := bnd_some hf
      refine g_lv [1, 0] (lv' := [(0, .ref a0), (1, .int 0)]) rfl ?_
      refine wX8_reads_L85 k N a0 a0_row a0_lanes a0_sizes a0_items a0_tape a0_readIce a0_readPeople a0_readSayings a0_line a0_bestLine a0_seen a0_held  va0_length va0_tape va0_isKept o12.2.2.1 o12.2.2.2.1 0 va0_bestFar va0_bestIce o12.2.2.2.2 va0_readSayings N 0 o45.2 0 va0_readPeople o48 ho49 ?_
      refine g_iload_n k 1 dX8_reads_115 rfl rfl ?_
      refine g_if_eq k (tgt := 162) dX8_reads_116 (by decide) (fun c50 => ?_) (fun c50 => ?_)
      · replace hf := ite_t c50 hf
        refine g_iload_n k 1 dX8_reads_162 rfl rfl ?_
        refine g_if_eq k (tgt := 181) dX8_reads_163 (by decide) (fun c51 => ?_) (fun c51 => ?_)
        · replace hf := ite_t c51 hf
          refine g_iconst k dX8_reads_181 ic_0 ?_
          obtain rfl := Option.some.inj hf
          exact g_zret k (rfl) r dX8_reads_182 ⟨rfl, rfl⟩
        · replace hf := ite_f c51 hf
          refine g_aload_n k 0 dX8_reads_166 rfl rfl ?_
          refine g_get k cfX8 7 0 dX8_reads_167 lkX8_115 (by decide) rfl rfl ?_
          refine g_aload_n k 0 dX8_reads_170 rfl rfl ?_
          refine g_get k cfX8 6 0 dX8_reads_171 lkX8_111 (by decide) rfl rfl ?_
          refine g_icmp_ne k (tgt := 181) dX8_reads_174 (by decide) (fun c52 => ?_) (fun c52 => ?_)
          · replace hf := ite_f c52 hf
            refine g_iconst k dX8_reads_181 ic_0 ?_
            obtain rfl := Option.some.inj hf
            exact g_zret k (rfl) r dX8_reads_182 ⟨rfl, rfl⟩
          · replace hf := ite_t c52 hf
            refine g_iconst k dX8_reads_177 ic_1 ?_
            refine g_goto k (tgt := 182) dX8_reads_178 (by decide) ?_
            obtain rfl := Option.some.inj hf
            exact g_zret k (rfl) r dX8_reads_182 ⟨rfl, rfl⟩
      · replace hf := ite_f c50 hf
        refine g_aload_n k 0 dX8_reads_119 rfl rfl ?_
        refine g_bipush k dX8_reads_120 bi_59 ?_
        obtain ⟨o53, ho54, hf⟩ := bnd_some hf
        refine g_cv k miX8_sign mvX8_sign (ctX8_sign (kL K) E N a0 a0_row a0_lanes a0_sizes a0_items a0_tape a0_readIce a0_readPeople a0_readSayings a0_line a0_bestLine a0_seen a0_held va0_isKept va0_length o48.2.1 o12.2.2.1 o12.2.2.2.1 o48.2.2.1 0 va0_bestFar va0_bestIce va0_tape 59 o53 ho54) [0, 1] 0 (ws' := [(a0, oB 8 [.ref a0_row, .int va0_isKept, .ref a0_lanes, .ref a0_sizes, .ref a0_items, .ref a0_tape, .int va0_length, .int o53.2, .int o12.2.2.1, .ref a0_readIce, .int o12.2.2.2.1, .ref a0_readPeople, .int o48.2.2.1, .ref a0_readSayings, .int 0, .ref a0_line, .ref a0_bestLine, .int va0_bestFar, .int va0_bestIce, .ref a0_seen, .ref a0_held]), (a0_tape, aI E 110 va0_tape), (a0_readIce, aI E 12 o12.2.2.2.2), (a0_readPeople, aI E 12 o48.2.2.2), (a0_readSayings, aI E 10 va0_readSayings)]) dX8_reads_122 lkX8_141 rfl ⟨rfl, rfl⟩ ⟨by decide, by decide⟩ rfl rfl rfl rfl (Nat.le_of_ble_eq_true rfl) rfl rfl rfl ?_
        refine g_st (st' := [.int o53.1]) rfl ?_
        refine g_if_eq k (tgt := 162) dX8_reads_125 (by decide) (fun c55 => ?_) (fun c55 => ?_)
        · replace hf := ite_t c55 hf
          refine g_iload_n k 1 dX8_reads_162 rfl rfl ?_
          refine g_if_eq k (tgt := 181) dX8_reads_163 (by decide) (fun c56 => ?_) (fun c56 => ?_)
          · replace hf := ite_t c56 hf
            refine g_iconst k dX8_reads_181 ic_0 ?_
            obtain rfl := Option.some.inj hf
            exact g_zret k (rfl) r dX8_reads_182 ⟨rfl, rfl⟩
          · replace hf := ite_f c56 hf
            refine g_aload_n k 0 dX8_reads_166 rfl rfl ?_
            refine g_get k cfX8 7 0 dX8_reads_167 lkX8_115 (by decide) rfl rfl ?_
            refine g_aload_n k 0 dX8_reads_170 rfl rfl ?_
            refine g_get k cfX8 6 0 dX8_reads_171 lkX8_111 (by decide) rfl rfl ?_
            refine g_icmp_ne k (tgt := 181) dX8_reads_174 (by decide) (fun c57 => ?_) (fun c57 => ?_)
            · replace hf := ite_f c57 hf
              refine g_iconst k dX8_reads_181 ic_0 ?_
              obtain rfl := Option.some.inj hf
              exact g_zret k (rfl) r dX8_reads_182 ⟨rfl, rfl⟩
            · replace hf := ite_t c57 hf
              refine g_iconst k dX8_reads_177 ic_1 ?_
              refine g_goto k (tgt := 182) dX8_reads_178 (by decide) ?_
              obtain rfl := Option.some.inj hf
              exact g_zret k (rfl) r dX8_reads_182 ⟨rfl, rfl⟩
        · replace hf := ite_f c55 hf
          refine g_aload_n k 0 dX8_reads_128 rfl rfl ?_
          obtain ⟨o58, ho59, hf⟩ := bnd_some hf
          refine g_cv k miX8_readsSaying mvX8_readsSaying (ctX8_readsSaying (kL K) E N a0 a0_row a0_lanes a0_sizes a0_items a0_tape a0_readIce a0_readPeople a0_readSayings a0_line a0_bestLine a0_seen a0_held va0_isKept va0_length o53.2 o12.2.2.1 o12.2.2.2.1 o48.2.2.1 0 va0_bestFar va0_bestIce va0_tape va0_readSayings  o58 ho59) [0, 1, 4] 0 (ws' := [(a0, oB 8 [.ref a0_row, .int va0_isKept, .ref a0_lanes, .ref a0_sizes, .ref a0_items, .ref a0_tape, .int va0_length, .int o58.2.1, .int o58.2.2.1, .ref a0_readIce, .int o12.2.2.2.1, .ref a0_readPeople, .int o48.2.2.1, .ref a0_readSayings, .int o58.2.2.2.1, .ref a0_line, .ref a0_bestLine, .int va0_bestFar, .int va0_bestIce, .ref a0_seen, .ref a0_held]), (a0_tape, aI E 110 va0_tape), (a0_readIce, aI E 12 o12.2.2.2.2), (a0_readPeople, aI E 12 o48.2.2.2), (a0_readSayings, aI E 10 o58.2.2.2.2)]) dX8_reads_129 lkX8_157 rfl ⟨rfl, rfl⟩ ⟨by decide, by decide⟩ rfl rfl rfl rfl (Nat.le_of_ble_eq_true rfl) rfl rfl rfl ?_
          refine g_st (st' := [.int o58.1]) rfl ?_
          refine g_istore_n k (lv' := [(1, .int o58.1), (0, .ref a0)]) dX8_reads_132 rfl (by decide) rfl ?_
          obtain ⟨o60, ho61, hf⟩ := bnd_some hf
          refine g_lv [1, 0] (lv' := [(0, .ref a0), (1, .int o58.1)]) rfl ?_
          refine wX8_reads_L133 k N a0 a0_row a0_lanes a0_sizes a0_items a0_tape a0_readIce a0_readPeople a0_readSayings a0_line a0_bestLine a0_seen a0_held  va0_length o48.2.2.1 va0_tape va0_isKept o12.2.2.2.1 va0_bestFar va0_bestIce o12.2.2.2.2 o48.2.2.2 N o58.1 o58.2.1 o58.2.2.1 o58.2.2.2.1 o58.2.2.2.2 o60 ho61 ?_
          refine g_iload_n k 1 dX8_reads_162 rfl rfl ?_
          refine g_if_eq k (tgt := 181) dX8_reads_163 (by decide) (fun c62 => ?_) (fun c62 => ?_)
          · replace hf := ite_t c62 hf
            refine g_iconst k dX8_reads_181 ic_0 ?_
            obtain rfl := Option.some.inj hf
            exact g_zret k (rfl) r dX8_reads_182 ⟨rfl, rfl⟩
          · replace hf := ite_f c62 hf
            refine g_aload_n k 0 dX8_reads_166 rfl rfl ?_
            refine g_get k cfX8 7 0 dX8_reads_167 lkX8_115 (by decide) rfl rfl ?_
            refine g_aload_n k 0 dX8_reads_170 rfl rfl ?_
            refine g_get k cfX8 6 0 dX8_reads_171 lkX8_111 (by decide) rfl rfl ?_
            refine g_icmp_ne k (tgt := 181) dX8_reads_174 (by decide) (fun c63 => ?_) (fun c63 => ?_)
            · replace hf := ite_f c63 hf
              refine g_iconst k dX8_reads_181 ic_0 ?_
              obtain rfl := Option.some.inj hf
              exact g_zret k (rfl) r dX8_reads_182 ⟨rfl, rfl⟩
            · replace hf := ite_t c63 hf
              refine g_iconst k dX8_reads_177 ic_1 ?_
              refine g_goto k (tgt := 182) dX8_reads_178 (by decide) ?_
              obtain rfl := Option.some.inj hf
              exact g_zret k (rfl) r dX8_reads_182 ⟨rfl, rfl⟩
    · replace hf := ite_f c47 hf
      refine g_aload_n k 0 dX8_reads_72 rfl rfl ?_
      obtain ⟨o64, ho65, hf⟩ := bnd_some hf
      refine g_cv k miX8_readsPerson mvX8_readsPerson (ctX8_readsPerson (kL K) E N a0 a0_row a0_lanes a0_sizes a0_items a0_tape a0_readIce a0_readPeople a0_readSayings a0_line a0_bestLine a0_seen a0_held va0_isKept va0_length o45.2 o12.2.2.1 o12.2.2.2.1 0 0 va0_bestFar va0_bestIce va0_tape va0_readPeople  o64 ho65) [0, 1, 3] 0 (ws' := [(a0, oB 8 [.ref a0_row, .int va0_isKept, .ref a0_lanes, .ref a0_sizes, .ref a0_items, .ref a0_tape, .int va0_length, .int o64.2.1, .int o12.2.2.1, .ref a0_readIce, .int o12.2.2.2.1, .ref a0_readPeople, .int o64.2.2.1, .ref a0_readSayings, .int 0, .ref a0_line, .ref a0_bestLine, .int va0_bestFar, .int va0_bestIce, .ref a0_seen, .ref a0_held]), (a0_tape, aI E 110 va0_tape), (a0_readIce, aI E 12 o12.2.2.2.2), (a0_readPeople, aI E 12 o64.2.2.2), (a0_readSayings, aI E 10 va0_readSayings)]) dX8_reads_73 lkX8_154 rfl ⟨rfl, rfl⟩ ⟨by decide, by decide⟩ rfl rfl rfl rfl (Nat.le_of_ble_eq_true rfl) rfl rfl rfl ?_
      refine g_st (st' := [.int o64.1]) rfl ?_
      refine g_if_eq k (tgt := 83) dX8_reads_76 (by decide) (fun c66 => ?_) (fun c66 => ?_)
      · replace hf := ite_t c66 hf
        refine g_iconst k dX8_reads_83 ic_0 ?_
        refine g_istore_n k (lv' := [(1, .int 0), (0, .ref a0)]) dX8_reads_84 rfl (by decide) rfl ?_
        obtain ⟨o67, ho68, hf⟩ := bnd_some hf
        refine g_lv [1, 0] (lv' := [(0, .ref a0), (1, .int 0)]) rfl ?_
        refine wX8_reads_L85 k N a0 a0_row a0_lanes a0_sizes a0_items a0_tape a0_readIce a0_readPeople a0_readSayings a0_line a0_bestLine a0_seen a0_held  va0_length va0_tape va0_isKept o12.2.2.1 o12.2.2.2.1 0 va0_bestFar va0_bestIce o12.2.2.2.2 va0_readSayings N 0 o64.2.1 o64.2.2.1 o64.2.2.2 o67 ho68 ?_
        refine g_iload_n k 1 dX8_reads_115 rfl rfl ?_
        refine g_if_eq k (tgt := 162) dX8_reads_116 (by decide) (fun c69 => ?_) (fun c69 => ?_)
        · replace hf := ite_t c69 hf
          refine g_iload_n k 1 dX8_reads_162 rfl rfl ?_
          refine g_if_eq k (tgt := 181) dX8_reads_163 (by decide) (fun c70 => ?_) (fun c70 => ?_)
          · replace hf := ite_t c70 hf
            refine g_iconst k dX8_reads_181 ic_0 ?_
            obtain rfl := Option.some.inj hf
            exact g_zret k (rfl) r dX8_reads_182 ⟨rfl, rfl⟩
          · replace hf := ite_f c70 hf
            refine g_aload_n k 0 dX8_reads_166 rfl rfl ?_
            refine g_get k cfX8 7 0 dX8_reads_167 lkX8_115 (by decide) rfl rfl ?_
            refine g_aload_n k 0 dX8_reads_170 rfl rfl ?_
            refine g_get k cfX8 6 0 dX8_reads_171 lkX8_111 (by decide) rfl rfl ?_
            refine g_icmp_ne k (tgt := 181) dX8_reads_174 (by decide) (fun c71 => ?_) (fun c71 => ?_)
            · replace hf := ite_f c71 hf
              refine g_iconst k dX8_reads_181 ic_0 ?_
              obtain rfl := Option.some.inj hf
              exact g_zret k (rfl) r dX8_reads_182 ⟨rfl, rfl⟩
            · replace hf := ite_t c71 hf
              refine g_iconst k dX8_reads_177 ic_1 ?_
              refine g_goto k (tgt := 182) dX8_reads_178 (by decide) ?_
              obtain rfl := Option.some.inj hf
              exact g_zret k (rfl) r dX8_reads_182 ⟨rfl, rfl⟩
        · replace hf := ite_f c69 hf
          refine g_aload_n k 0 dX8_reads_119 rfl rfl ?_
          refine g_bipush k dX8_reads_120 bi_59 ?_
          obtain ⟨o72, ho73, hf⟩ := bnd_some hf
          refine g_cv k miX8_sign mvX8_sign (ctX8_sign (kL K) E N a0 a0_row a0_lanes a0_sizes a0_items a0_tape a0_readIce a0_readPeople a0_readSayings a0_line a0_bestLine a0_seen a0_held va0_isKept va0_length o67.2.1 o12.2.2.1 o12.2.2.2.1 o67.2.2.1 0 va0_bestFar va0_bestIce va0_tape 59 o72 ho73) [0, 1] 0 (ws' := [(a0, oB 8 [.ref a0_row, .int va0_isKept, .ref a0_lanes, .ref a0_sizes, .ref a0_items, .ref a0_tape, .int va0_length, .int o72.2, .int o12.2.2.1, .ref a0_readIce, .int o12.2.2.2.1, .ref a0_readPeople, .int o67.2.2.1, .ref a0_readSayings, .int 0, .ref a0_line, .ref a0_bestLine, .int va0_bestFar, .int va0_bestIce, .ref a0_seen, .ref a0_held]), (a0_tape, aI E 110 va0_tape), (a0_readIce, aI E 12 o12.2.2.2.2), (a0_readPeople, aI E 12 o67.2.2.2), (a0_readSayings, aI E 10 va0_readSayings)]) dX8_reads_122 lkX8_141 rfl ⟨rfl, rfl⟩ ⟨by decide, by decide⟩ rfl rfl rfl rfl (Nat.le_of_ble_eq_true rfl) rfl rfl rfl ?_
          refine g_st (st' := [.int o72.1]) rfl ?_
          refine g_if_eq k (tgt := 162) dX8_reads_125 (by decide) (fun c74 => ?_) (fun c74 => ?_)
          · replace hf := ite_t c74 hf
            refine g_iload_n k 1 dX8_reads_162 rfl rfl ?_
            refine g_if_eq k (tgt := 181) dX8_reads_163 (by decide) (fun c75 => ?_) (fun c75 => ?_)
            · replace hf := ite_t c75 hf
              refine g_iconst k dX8_reads_181 ic_0 ?_
              obtain rfl := Option.some.inj hf
              exact g_zret k (rfl) r dX8_reads_182 ⟨rfl, rfl⟩
            · replace hf := ite_f c75 hf
              refine g_aload_n k 0 dX8_reads_166 rfl rfl ?_
              refine g_get k cfX8 7 0 dX8_reads_167 lkX8_115 (by decide) rfl rfl ?_
              refine g_aload_n k 0 dX8_reads_170 rfl rfl ?_
              refine g_get k cfX8 6 0 dX8_reads_171 lkX8_111 (by decide) rfl rfl ?_
              refine g_icmp_ne k (tgt := 181) dX8_reads_174 (by decide) (fun c76 => ?_) (fun c76 => ?_)
              · replace hf := ite_f c76 hf
                refine g_iconst k dX8_reads_181 ic_0 ?_
                obtain rfl := Option.some.inj hf
                exact g_zret k (rfl) r dX8_reads_182 ⟨rfl, rfl⟩
              · replace hf := ite_t c76 hf
                refine g_iconst k dX8_reads_177 ic_1 ?_
                refine g_goto k (tgt := 182) dX8_reads_178 (by decide) ?_
                obtain rfl := Option.some.inj hf
                exact g_zret k (rfl) r dX8_reads_182 ⟨rfl, rfl⟩
          · replace hf := ite_f c74 hf
            refine g_aload_n k 0 dX8_reads_128 rfl rfl ?_
            obtain ⟨o77, ho78, hf⟩ := bnd_some hf
            refine g_cv k miX8_readsSaying mvX8_readsSaying (ctX8_readsSaying (kL K) E N a0 a0_row a0_lanes a0_sizes a0_items a0_tape a0_readIce a0_readPeople a0_readSayings a0_line a0_bestLine a0_seen a0_held va0_isKept va0_length o72.2 o12.2.2.1 o12.2.2.2.1 o67.2.2.1 0 va0_bestFar va0_bestIce va0_tape va0_readSayings  o77 ho78) [0, 1, 4] 0 (ws' := [(a0, oB 8 [.ref a0_row, .int va0_isKept, .ref a0_lanes, .ref a0_sizes, .ref a0_items, .ref a0_tape, .int va0_length, .int o77.2.1, .int o77.2.2.1, .ref a0_readIce, .int o12.2.2.2.1, .ref a0_readPeople, .int o67.2.2.1, .ref a0_readSayings, .int o77.2.2.2.1, .ref a0_line, .ref a0_bestLine, .int va0_bestFar, .int va0_bestIce, .ref a0_seen, .ref a0_held]), (a0_tape, aI E 110 va0_tape), (a0_readIce, aI E 12 o12.2.2.2.2), (a0_readPeople, aI E 12 o67.2.2.2), (a0_readSayings, aI E 10 o77.2.2.2.2)]) dX8_reads_129 lkX8_157 rfl ⟨rfl, rfl⟩ ⟨by decide, by decide⟩ rfl rfl rfl rfl (Nat.le_of_ble_eq_true rfl) rfl rfl rfl ?_
            refine g_st (st' := [.int o77.1]) rfl ?_
            refine g_istore_n k (lv' := [(1, .int o77.1), (0, .ref a0)]) dX8_reads_132 rfl (by decide) rfl ?_
            obtain ⟨o79, ho80, hf⟩ := bnd_some hf
            refine g_lv [1, 0] (lv' := [(0, .ref a0), (1, .int o77.1)]) rfl ?_
            refine wX8_reads_L133 k N a0 a0_row a0_lanes a0_sizes a0_items a0_tape a0_readIce a0_readPeople a0_readSayings a0_line a0_bestLine a0_seen a0_held  va0_length o67.2.2.1 va0_tape va0_isKept o12.2.2.2.1 va0_bestFar va0_bestIce o12.2.2.2.2 o67.2.2.2 N o77.1 o77.2.1 o77.2.2.1 o77.2.2.2.1 o77.2.2.2.2 o79 ho80 ?_
            refine g_iload_n k 1 dX8_reads_162 rfl rfl ?_
            refine g_if_eq k (tgt := 181) dX8_reads_163 (by decide) (fun c81 => ?_) (fun c81 => ?_)
            · replace hf := ite_t c81 hf
              refine g_iconst k dX8_reads_181 ic_0 ?_
              obtain rfl := Option.some.inj hf
              exact g_zret k (rfl) r dX8_reads_182 ⟨rfl, rfl⟩
            · replace hf := ite_f c81 hf
              refine g_aload_n k 0 dX8_reads_166 rfl rfl ?_
              refine g_get k cfX8 7 0 dX8_reads_167 lkX8_115 (by decide) rfl rfl ?_
              refine g_aload_n k 0 dX8_reads_170 rfl rfl ?_
              refine g_get k cfX8 6 0 dX8_reads_171 lkX8_111 (by decide) rfl rfl ?_
              refine g_icmp_ne k (tgt := 181) dX8_reads_174 (by decide) (fun c82 => ?_) (fun c82 => ?_)
              · replace hf := ite_f c82 hf
                refine g_iconst k dX8_reads_181 ic_0 ?_
                obtain rfl := Option.some.inj hf
                exact g_zret k (rfl) r dX8_reads_182 ⟨rfl, rfl⟩
              · replace hf := ite_t c82 hf
                refine g_iconst k dX8_reads_177 ic_1 ?_
                refine g_goto k (tgt := 182) dX8_reads_178 (by decide) ?_
                obtain rfl := Option.some.inj hf
                exact g_zret k (rfl) r dX8_reads_182 ⟨rfl, rfl⟩
      · replace hf := ite_f c66 hf
        refine g_iconst k dX8_reads_79 ic_1 ?_
        refine g_goto k (tgt := 84) dX8_reads_80 (by decide) ?_
        refine g_istore_n k (lv' := [(1, .int 1), (0, .ref a0)]) dX8_reads_84 rfl (by decide) rfl ?_
        obtain ⟨o83, ho84, hf⟩ := bnd_some hf
        refine g_lv [1, 0] (lv' := [(0, .ref a0), (1, .int 1)]) rfl ?_
        refine wX8_reads_L85 k N a0 a0_row a0_lanes a0_sizes a0_items a0_tape a0_readIce a0_readPeople a0_readSayings a0_line a0_bestLine a0_seen a0_held  va0_length va0_tape va0_isKept o12.2.2.1 o12.2.2.2.1 0 va0_bestFar va0_bestIce o12.2.2.2.2 va0_readSayings N 1 o64.2.1 o64.2.2.1 o64.2.2.2 o83 ho84 ?_
        refine g_iload_n k 1 dX8_reads_115 rfl rfl ?_
        refine g_if_eq k (tgt := 162) dX8_reads_116 (by decide) (fun c85 => ?_) (fun c85 => ?_)
        · replace hf := ite_t c85 hf
          refine g_iload_n k 1 dX8_reads_162 rfl rfl ?_
          refine g_if_eq k (tgt := 181) dX8_reads_163 (by decide) (fun c86 => ?_) (fun c86 => ?_)
          · replace hf := ite_t c86 hf
            refine g_iconst k dX8_reads_181 ic_0 ?_
            obtain rfl := Option.some.inj hf
            exact g_zret k (rfl) r dX8_reads_182 ⟨rfl, rfl⟩
          · replace hf := ite_f c86 hf
            refine g_aload_n k 0 dX8_reads_166 rfl rfl ?_
            refine g_get k cfX8 7 0 dX8_reads_167 lkX8_115 (by decide) rfl rfl ?_
            refine g_aload_n k 0 dX8_reads_170 rfl rfl ?_
            refine g_get k cfX8 6 0 dX8_reads_171 lkX8_111 (by decide) rfl rfl ?_
            refine g_icmp_ne k (tgt := 181) dX8_reads_174 (by decide) (fun c87 => ?_) (fun c87 => ?_)
            · replace hf := ite_f c87 hf
              refine g_iconst k dX8_reads_181 ic_0 ?_
              obtain rfl := Option.some.inj hf
              exact g_zret k (rfl) r dX8_reads_182 ⟨rfl, rfl⟩
            · replace hf := ite_t c87 hf
              refine g_iconst k dX8_reads_177 ic_1 ?_
              refine g_goto k (tgt := 182) dX8_reads_178 (by decide) ?_
              obtain rfl := Option.some.inj hf
              exact g_zret k (rfl) r dX8_reads_182 ⟨rfl, rfl⟩
        · replace hf := ite_f c85 hf
          refine g_aload_n k 0 dX8_reads_119 rfl rfl ?_
          refine g_bipush k dX8_reads_120 bi_59 ?_
          obtain ⟨o88, ho89, hf⟩ := bnd_some hf
          refine g_cv k miX8_sign mvX8_sign (ctX8_sign (kL K) E N a0 a0_row a0_lanes a0_sizes a0_items a0_tape a0_readIce a0_readPeople a0_readSayings a0_line a0_bestLine a0_seen a0_held va0_isKept va0_length o83.2.1 o12.2.2.1 o12.2.2.2.1 o83.2.2.1 0 va0_bestFar va0_bestIce va0_tape 59 o88 ho89) [0, 1] 0 (ws' := [(a0, oB 8 [.ref a0_row, .int va0_isKept, .ref a0_lanes, .ref a0_sizes, .ref a0_items, .ref a0_tape, .int va0_length, .int o88.2, .int o12.2.2.1, .ref a0_readIce, .int o12.2.2.2.1, .ref a0_readPeople, .int o83.2.2.1, .ref a0_readSayings, .int 0, .ref a0_line, .ref a0_bestLine, .int va0_bestFar, .int va0_bestIce, .ref a0_seen, .ref a0_held]), (a0_tape, aI E 110 va0_tape), (a0_readIce, aI E 12 o12.2.2.2.2), (a0_readPeople, aI E 12 o83.2.2.2), (a0_readSayings, aI E 10 va0_readSayings)]) dX8_reads_122 lkX8_141 rfl ⟨rfl, rfl⟩ ⟨by decide, by decide⟩ rfl rfl rfl rfl (Nat.le_of_ble_eq_true rfl) rfl rfl rfl ?_
          refine g_st (st' := [.int o88.1]) rfl ?_
          refine g_if_eq k (tgt := 162) dX8_reads_125 (by decide) (fun c90 => ?_) (fun c90 => ?_)
          · replace hf := ite_t c90 hf
            refine g_iload_n k 1 dX8_reads_162 rfl rfl ?_
            refine g_if_eq k (tgt := 181) dX8_reads_163 (by decide) (fun c91 => ?_) (fun c91 => ?_)
            · replace hf := ite_t c91 hf
              refine g_iconst k dX8_reads_181 ic_0 ?_
              obtain rfl := Option.some.inj hf
              exact g_zret k (rfl) r dX8_reads_182 ⟨rfl, rfl⟩
            · replace hf := ite_f c91 hf
              refine g_aload_n k 0 dX8_reads_166 rfl rfl ?_
              refine g_get k cfX8 7 0 dX8_reads_167 lkX8_115 (by decide) rfl rfl ?_
              refine g_aload_n k 0 dX8_reads_170 rfl rfl ?_
              refine g_get k cfX8 6 0 dX8_reads_171 lkX8_111 (by decide) rfl rfl ?_
              refine g_icmp_ne k (tgt := 181) dX8_reads_174 (by decide) (fun c92 => ?_) (fun c92 => ?_)
              · replace hf := ite_f c92 hf
                refine g_iconst k dX8_reads_181 ic_0 ?_
                obtain rfl := Option.some.inj hf
                exact g_zret k (rfl) r dX8_reads_182 ⟨rfl, rfl⟩
              · replace hf := ite_t c92 hf
                refine g_iconst k dX8_reads_177 ic_1 ?_
                refine g_goto k (tgt := 182) dX8_reads_178 (by decide) ?_
                obtain rfl := Option.some.inj hf
                exact g_zret k (rfl) r dX8_reads_182 ⟨rfl, rfl⟩
          · replace hf := ite_f c90 hf
            refine g_aload_n k 0 dX8_reads_128 rfl rfl ?_
            obtain ⟨o93, ho94, hf⟩ := bnd_some hf
            refine g_cv k miX8_readsSaying mvX8_readsSaying (ctX8_readsSaying (kL K) E N a0 a0_row a0_lanes a0_sizes a0_items a0_tape a0_readIce a0_readPeople a0_readSayings a0_line a0_bestLine a0_seen a0_held va0_isKept va0_length o88.2 o12.2.2.1 o12.2.2.2.1 o83.2.2.1 0 va0_bestFar va0_bestIce va0_tape va0_readSayings  o93 ho94) [0, 1, 4] 0 (ws' := [(a0, oB 8 [.ref a0_row, .int va0_isKept, .ref a0_lanes, .ref a0_sizes, .ref a0_items, .ref a0_tape, .int va0_length, .int o93.2.1, .int o93.2.2.1, .ref a0_readIce, .int o12.2.2.2.1, .ref a0_readPeople, .int o83.2.2.1, .ref a0_readSayings, .int o93.2.2.2.1, .ref a0_line, .ref a0_bestLine, .int va0_bestFar, .int va0_bestIce, .ref a0_seen, .ref a0_held]), (a0_tape, aI E 110 va0_tape), (a0_readIce, aI E 12 o12.2.2.2.2), (a0_readPeople, aI E 12 o83.2.2.2), (a0_readSayings, aI E 10 o93.2.2.2.2)]) dX8_reads_129 lkX8_157 rfl ⟨rfl, rfl⟩ ⟨by decide, by decide⟩ rfl rfl rfl rfl (Nat.le_of_ble_eq_true rfl) rfl rfl rfl ?_
            refine g_st (st' := [.int o93.1]) rfl ?_
            refine g_istore_n k (lv' := [(1, .int o93.1), (0, .ref a0)]) dX8_reads_132 rfl (by decide) rfl ?_
            obtain ⟨o95, ho96, hf⟩ := bnd_some hf
            refine g_lv [1, 0] (lv' := [(0, .ref a0), (1, .int o93.1)]) rfl ?_
            refine wX8_reads_L133 k N a0 a0_row a0_lanes a0_sizes a0_items a0_tape a0_readIce a0_readPeople a0_readSayings a0_line a0_bestLine a0_seen a0_held  va0_length o83.2.2.1 va0_tape va0_isKept o12.2.2.2.1 va0_bestFar va0_bestIce o12.2.2.2.2 o83.2.2.2 N o93.1 o93.2.1 o93.2.2.1 o93.2.2.2.1 o93.2.2.2.2 o95 ho96 ?_
            refine g_iload_n k 1 dX8_reads_162 rfl rfl ?_
            refine g_if_eq k (tgt := 181) dX8_reads_163 (by decide) (fun c97 => ?_) (fun c97 => ?_)
            · replace hf := ite_t c97 hf
              refine g_iconst k dX8_reads_181 ic_0 ?_
              obtain rfl := Option.some.inj hf
              exact g_zret k (rfl) r dX8_reads_182 ⟨rfl, rfl⟩
            · replace hf := ite_f c97 hf
              refine g_aload_n k 0 dX8_reads_166 rfl rfl ?_
              refine g_get k cfX8 7 0 dX8_reads_167 lkX8_115 (by decide) rfl rfl ?_
              refine g_aload_n k 0 dX8_reads_170 rfl rfl ?_
              refine g_get k cfX8 6 0 dX8_reads_171 lkX8_111 (by decide) rfl rfl ?_
              refine g_icmp_ne k (tgt := 181) dX8_reads_174 (by decide) (fun c98 => ?_) (fun c98 => ?_)
              · replace hf := ite_f c98 hf
                refine g_iconst k dX8_reads_181 ic_0 ?_
                obtain rfl := Option.some.inj hf
                exact g_zret k (rfl) r dX8_reads_182 ⟨rfl, rfl⟩
              · replace hf := ite_t c98 hf
                refine g_iconst k dX8_reads_177 ic_1 ?_
                refine g_goto k (tgt := 182) dX8_reads_178 (by decide) ?_
                obtain rfl := Option.some.inj hf
                exact g_zret k (rfl) r dX8_reads_182 ⟨rfl, rfl⟩
abbrev rmX8_canal : Room := { frames := 5, cells := 0, slots := 0, locals := 110 }
def fX8_canal_L40 (N : Nat) (x1 : Int32) (x2 : Int32) (x3 : Int32) : Nat → Int32 → (Nat → Int32) → Option (Int32 × (Nat → Int32))
  | 0, _, _ => none
  | n + 1, x4, va0_row =>
    if 242 ≤ x4 then
    some (x4, va0_row)
    else
    ixb x4 525 fun κ5 =>
    fX8_canal_L40 N x1 x2 x3 n (x4 + 1) (upd va0_row κ5 0)
set_option maxHeartbeats 4000000 in
set_option maxRecDepth 100000 in
theorem wX8_canal_L40 {E : Ev} {K : KX} (k : OKX E K cX8_canal RX8 5 rmX8_canal) (N : Nat) (a0 : Nat) (a0_row : Nat) (a0_lanes : Nat) (a0_sizes : Nat) (a0_items : Nat) (a0_tape : Nat) (a0_readIce : Nat) (a0_readPeople : Nat) (a0_readSayings : Nat) (a0_line : Nat) (a0_bestLine : Nat) (a0_seen : Nat) (a0_held : Nat) (x1 : Int32) (x2 : Int32) (x3 : Int32) (va0_isKept : Int32) (va0_length : Int32) (va0_at : Int32) (va0_number : Int32) (va0_readCells : Int32) (va0_readMany : Int32) (va0_readSaid : Int32) (va0_bestFar : Int32) (va0_bestIce : Int32) (va0_tape : Nat → Int32) (va0_readIce : Nat → Int32) (va0_readPeople : Nat → Int32) (va0_readSayings : Nat → Int32) : ∀ (n : Nat) (x4 : Int32) (va0_row : Nat → Int32) (o : Int32 × (Nat → Int32)), fX8_canal_L40 N x1 x2 x3 n x4 va0_row = some o → G E K 5 0 0 [(0, .ref a0), (1, .int x1), (2, .int x2), (3, .int x3), (4, .int o.1)] [] [(a0, oB 8 [.ref a0_row, .int va0_isKept, .ref a0_lanes, .ref a0_sizes, .ref a0_items, .ref a0_tape, .int va0_length, .int va0_at, .int va0_number, .ref a0_readIce, .int va0_readCells, .ref a0_readPeople, .int va0_readMany, .ref a0_readSayings, .int va0_readSaid, .ref a0_line, .ref a0_bestLine, .int va0_bestFar, .int va0_bestIce, .ref a0_seen, .ref a0_held]), (a0_row, aI E 525 o.2), (a0_tape, aI E 110 va0_tape), (a0_readIce, aI E 12 va0_readIce), (a0_readPeople, aI E 12 va0_readPeople), (a0_readSayings, aI E 10 va0_readSayings)] 62 → G E K 5 0 0 [(0, .ref a0), (1, .int x1), (2, .int x2), (3, .int x3), (4, .int x4)] [] [(a0, oB 8 [.ref a0_row, .int va0_isKept, .ref a0_lanes, .ref a0_sizes, .ref a0_items, .ref a0_tape, .int va0_length, .int va0_at, .int va0_number, .ref a0_readIce, .int va0_readCells, .ref a0_readPeople, .int va0_readMany, .ref a0_readSayings, .int va0_readSaid, .ref a0_line, .ref a0_bestLine, .int va0_bestFar, .int va0_bestIce, .ref a0_seen, .ref a0_held]), (a0_row, aI E 525 va0_row), (a0_tape, aI E 110 va0_tape), (a0_readIce, aI E 12 va0_readIce), (a0_readPeople, aI E 12 va0_readPeople), (a0_readSayings, aI E 10 va0_readSayings)] 40 := by
  intro n
  induction n with
  | zero => intro x4 va0_row o hf; cases hf
  | succ n ih =>
    intro x4 va0_row o hf hG
    rw [fX8_canal_L40] at hf
    refine g_iload k 4 dX8_canal_40 rfl ?_
    refine g_sipush k dX8_canal_42 si_242 ?_
    refine g_icmp_ge k (tgt := 62) dX8_canal_45 (by decide) (fun c4 => ?_) (fun c4 => ?_)
    · replace hf := ite_t c4 hf
      refine g_lv [0, 1, 2, 3, 4] rfl ?_
      obtain rfl := Option.some.inj hf
      exact hG
    · replace hf := ite_f c4 hf
      refine g_aload_n k 0 dX8_canal_48 rfl rfl ?_
      refine g_get k cfX8 0 0 dX8_canal_49 lkX8_7 (by decide) rfl rfl ?_
      refine g_iload k 4 dX8_canal_52 rfl ?_
      refine g_iconst k dX8_canal_54 ic_0 ?_
      obtain ⟨κ5, hκ5, hiκ5, heκ5, hf⟩ := ixb_some hf
      refine g_iastore k 1 (ws' := [(a0, oB 8 [.ref a0_row, .int va0_isKept, .ref a0_lanes, .ref a0_sizes, .ref a0_items, .ref a0_tape, .int va0_length, .int va0_at, .int va0_number, .ref a0_readIce, .int va0_readCells, .ref a0_readPeople, .int va0_readMany, .ref a0_readSayings, .int va0_readSaid, .ref a0_line, .ref a0_bestLine, .int va0_bestFar, .int va0_bestIce, .ref a0_seen, .ref a0_held]), (a0_row, aI E 525 (upd va0_row κ5 0)), (a0_tape, aI E 110 va0_tape), (a0_readIce, aI E 12 va0_readIce), (a0_readPeople, aI E 12 va0_readPeople), (a0_readSayings, aI E 10 va0_readSayings)]) dX8_canal_55 rfl hiκ5 heκ5 rfl ?_
      refine g_iinc k (lv' := [(4, .int (x4 + 1)), (0, .ref a0), (1, .int x1), (2, .int x2), (3, .int x3)]) 4 dX8_canal_56 rfl (ii_1 _) (by decide) rfl ?_
      refine g_goto k (tgt := 40) dX8_canal_59 (by decide) ?_
      refine g_lv [1, 2, 3, 4, 0] rfl ?_
      exact ih (x4 + 1) (upd va0_row κ5 0) o hf hG
def fX8_canal_L80 (N : Nat) (x1 : Int32) (x2 : Int32) (x3 : Int32) (va0_readCells : Int32) (va0_readIce : Nat → Int32) : Nat → Int32 → (Nat → Int32) → Option (Int32 × (Nat → Int32))
  | 0, _, _ => none
  | n + 1, x4, va0_row =>
    if va0_readCells ≤ x4 then
    some (x4, va0_row)
    else
    ixb x4 12 fun κ9 =>
    bnd (fX8_addCell N va0_row (va0_readIce κ9)) fun o10 =>
    fX8_canal_L80 N x1 x2 x3 va0_readCells va0_readIce n (x4 + 1) o10
set_option maxHeartbeats 4000000 in
set_option maxRecDepth 100000 in
theorem wX8_canal_L80 {E : Ev} {K : KX} (k : OKX E K cX8_canal RX8 5 rmX8_canal) (N : Nat) (a0 : Nat) (a0_row : Nat) (a0_lanes : Nat) (a0_sizes : Nat) (a0_items : Nat) (a0_tape : Nat) (a0_readIce : Nat) (a0_readPeople : Nat) (a0_readSayings : Nat) (a0_line : Nat) (a0_bestLine : Nat) (a0_seen : Nat) (a0_held : Nat) (x1 : Int32) (x2 : Int32) (x3 : Int32) (va0_readCells : Int32) (va0_readIce : Nat → Int32) (va0_isKept : Int32) (va0_length : Int32) (va0_at : Int32) (va0_number : Int32) (va0_readMany : Int32) (va0_readSaid : Int32) (va0_bestFar : Int32) (va0_bestIce : Int32) (va0_tape : Nat → Int32) (va0_readPeople : Nat → Int32) (va0_readSayings : Nat → Int32) : ∀ (n : Nat) (x4 : Int32) (va0_row : Nat → Int32) (o : Int32 × (Nat → Int32)), fX8_canal_L80 N x1 x2 x3 va0_readCells va0_readIce n x4 va0_row = some o → G E K 5 0 0 [(0, .ref a0), (1, .int x1), (2, .int x2), (3, .int x3), (4, .int o.1)] [] [(a0, oB 8 [.ref a0_row, .int va0_isKept, .ref a0_lanes, .ref a0_sizes, .ref a0_items, .ref a0_tape, .int va0_length, .int va0_at, .int va0_number, .ref a0_readIce, .int va0_readCells, .ref a0_readPeople, .int va0_readMany, .ref a0_readSayings, .int va0_readSaid, .ref a0_line, .ref a0_bestLine, .int va0_bestFar, .int va0_bestIce, .ref a0_seen, .ref a0_held]), (a0_row, aI E 525 o.2), (a0_tape, aI E 110 va0_tape), (a0_readIce, aI E 12 va0_readIce), (a0_readPeople, aI E 12 va0_readPeople), (a0_readSayings, aI E 10 va0_readSayings)] 106 → G E K 5 0 0 [(0, .ref a0), (1, .int x1), (2, .int x2), (3, .int x3), (4, .int x4)] [] [(a0, oB 8 [.ref a0_row, .int va0_isKept, .ref a0_lanes, .ref a0_sizes, .ref a0_items, .ref a0_tape, .int va0_length, .int va0_at, .int va0_number, .ref a0_readIce, .int va0_readCells, .ref a0_readPeople, .int va0_readMany, .ref a0_readSayings, .int va0_readSaid, .ref a0_line, .ref a0_bestLine, .int va0_bestFar, .int va0_bestIce, .ref a0_seen, .ref a0_held]), (a0_row, aI E 525 va0_row), (a0_tape, aI E 110 va0_tape), (a0_readIce, aI E 12 va0_readIce), (a0_readPeople, aI E 12 va0_readPeople), (a0_readSayings, aI E 10 va0_readSayings)] 80 := by
  intro n
  induction n with
  | zero => intro x4 va0_row o hf; cases hf
  | succ n ih =>
    intro x4 va0_row o hf hG
    rw [fX8_canal_L80] at hf
    refine g_iload k 4 dX8_canal_80 rfl ?_
    refine g_aload_n k 0 dX8_canal_82 rfl rfl ?_
    refine g_get k cfX8 10 0 dX8_canal_83 lkX8_135 (by decide) rfl rfl ?_
    refine g_icmp_ge k (tgt := 106) dX8_canal_86 (by decide) (fun c8 => ?_) (fun c8 => ?_)
    · replace hf := ite_t c8 hf
      refine g_lv [0, 1, 2, 3, 4] rfl ?_
      obtain rfl := Option.some.inj hf
      exact hG
    · replace hf := ite_f c8 hf
      refine g_aload_n k 0 dX8_canal_89 rfl rfl ?_
      refine g_aload_n k 0 dX8_canal_90 rfl rfl ?_
      refine g_get k cfX8 9 0 dX8_canal_91 lkX8_26 (by decide) rfl rfl ?_
      refine g_iload k 4 dX8_canal_94 rfl ?_
      obtain ⟨κ9, hκ9, hiκ9, heκ9, hf⟩ := ixb_some hf
      refine g_iaload k 3 dX8_canal_96 rfl hiκ9 heκ9 ?_
      obtain ⟨o10, ho11, hf⟩ := bnd_some hf
      refine g_cv k miX8_addCell mvX8_addCell (ctX8_addCell (kL K) E N a0 a0_row a0_lanes a0_sizes a0_items a0_tape a0_readIce a0_readPeople a0_readSayings a0_line a0_bestLine a0_seen a0_held va0_isKept va0_length va0_at va0_number va0_readCells va0_readMany va0_readSaid va0_bestFar va0_bestIce va0_row (va0_readIce κ9) o10 ho11) [0, 1] 0 (ws' := [(a0, oB 8 [.ref a0_row, .int va0_isKept, .ref a0_lanes, .ref a0_sizes, .ref a0_items, .ref a0_tape, .int va0_length, .int va0_at, .int va0_number, .ref a0_readIce, .int va0_readCells, .ref a0_readPeople, .int va0_readMany, .ref a0_readSayings, .int va0_readSaid, .ref a0_line, .ref a0_bestLine, .int va0_bestFar, .int va0_bestIce, .ref a0_seen, .ref a0_held]), (a0_row, aI E 525 o10), (a0_tape, aI E 110 va0_tape), (a0_readIce, aI E 12 va0_readIce), (a0_readPeople, aI E 12 va0_readPeople), (a0_readSayings, aI E 10 va0_readSayings)]) dX8_canal_97 lkX8_53 rfl ⟨rfl, rfl⟩ ⟨by decide, by decide⟩ rfl rfl rfl rfl (Nat.le_of_ble_eq_true rfl) rfl rfl rfl ?_
      refine g_st (st' := []) rfl ?_
      refine g_iinc k (lv' := [(4, .int (x4 + 1)), (0, .ref a0), (1, .int x1), (2, .int x2), (3, .int x3)]) 4 dX8_canal_100 rfl (ii_1 _) (by decide) rfl ?_
      refine g_goto k (tgt := 80) dX8_canal_103 (by decide) ?_
      refine g_lv [1, 2, 3, 4, 0] rfl ?_
      exact ih (x4 + 1) o10 o hf hG
def fX8_canal_L109 (N : Nat) (x1 : Int32) (x2 : Int32) (x3 : Int32) (va0_readMany : Int32) (va0_readPeople : Nat → Int32) : Nat → Int32 → (Nat → Int32) → Option (Int32 × (Nat → Int32))
  | 0, _, _ => none
  | n + 1, x4, va0_row =>
    if va0_readMany ≤ x4 then
    some (x4, va0_row)
    else
    ixb (2 * x4) 12 fun κ15 =>
    ixb ((2 * x4) + 1) 12 fun κ16 =>
    bnd (fX8_addPerson N va0_row (va0_readPeople κ15) (va0_readPeople κ16)) fun o17 =>
    fX8_canal_L109 N x1 x2 x3 va0_readMany va0_readPeople n (x4 + 1) o17
set_option maxHeartbeats 4000000 in
set_option maxRecDepth 100000 in
theorem wX8_canal_L109 {E : Ev} {K : KX} (k : OKX E K cX8_canal RX8 5 rmX8_canal) (N : Nat) (a0 : Nat) (a0_row : Nat) (a0_lanes : Nat) (a0_sizes : Nat) (a0_items : Nat) (a0_tape : Nat) (a0_readIce : Nat) (a0_readPeople : Nat) (a0_readSayings : Nat) (a0_line : Nat) (a0_bestLine : Nat) (a0_seen : Nat) (a0_held : Nat) (x1 : Int32) (x2 : Int32) (x3 : Int32) (va0_readMany : Int32) (va0_readPeople : Nat → Int32) (va0_isKept : Int32) (va0_length : Int32) (va0_at : Int32) (va0_number : Int32) (va0_readCells : Int32) (va0_readSaid : Int32) (va0_bestFar : Int32) (va0_bestIce : Int32) (va0_tape : Nat → Int32) (va0_readIce : Nat → Int32) (va0_readSayings : Nat → Int32) : ∀ (n : Nat) (x4 : Int32) (va0_row : Nat → Int32) (o : Int32 × (Nat → Int32)), fX8_canal_L109 N x1 x2 x3 va0_readMany va0_readPeople n x4 va0_row = some o → G E K 5 0 0 [(0, .ref a0), (1, .int x1), (2, .int x2), (3, .int x3), (4, .int o.1)] [] [(a0, oB 8 [.ref a0_row, .int va0_isKept, .ref a0_lanes, .ref a0_sizes, .ref a0_items, .ref a0_tape, .int va0_length, .int va0_at, .int va0_number, .ref a0_readIce, .int va0_readCells, .ref a0_readPeople, .int va0_readMany, .ref a0_readSayings, .int va0_readSaid, .ref a0_line, .ref a0_bestLine, .int va0_bestFar, .int va0_bestIce, .ref a0_seen, .ref a0_held]), (a0_row, aI E 525 o.2), (a0_tape, aI E 110 va0_tape), (a0_readIce, aI E 12 va0_readIce), (a0_readPeople, aI E 12 va0_readPeople), (a0_readSayings, aI E 10 va0_readSayings)] 148 → G E K 5 0 0 [(0, .ref a0), (1, .int x1), (2, .int x2), (3, .int x3), (4, .int x4)] [] [(a0, oB 8 [.ref a0_row, .int va0_isKept, .ref a0_lanes, .ref a0_sizes, .ref a0_items, .ref a0_tape, .int va0_length, .int va0_at, .int va0_number, .ref a0_readIce, .int va0_readCells, .ref a0_readPeople, .int va0_readMany, .ref a0_readSayings, .int va0_readSaid, .ref a0_line, .ref a0_bestLine, .int va0_bestFar, .int va0_bestIce, .ref a0_seen, .ref a0_held]), (a0_row, aI E 525 va0_row), (a0_tape, aI E 110 va0_tape), (a0_readIce, aI E 12 va0_readIce), (a0_readPeople, aI E 12 va0_readPeople), (a0_readSayings, aI E 10 va0_readSayings)] 109 := by
  intro n
  induction n with
  | zero => intro x4 va0_row o hf; cases hf
  | succ n ih =>
    intro x4 va0_row o hf hG
    rw [fX8_canal_L109] at hf
    refine g_iload k 4 dX8_canal_109 rfl ?_
    refine g_aload_n k 0 dX8_canal_111 rfl rfl ?_
    refine g_get k cfX8 12 0 dX8_canal_112 lkX8_138 (by decide) rfl rfl ?_
    refine g_icmp_ge k (tgt := 148) dX8_canal_115 (by decide) (fun c14 => ?_) (fun c14 => ?_)
    · replace hf := ite_t c14 hf
      refine g_lv [0, 1, 2, 3, 4] rfl ?_
      obtain rfl := Option.some.inj hf
      exact hG
    · replace hf := ite_f c14 hf
      refine g_aload_n k 0 dX8_canal_118 rfl rfl ?_
      refine g_aload_n k 0 dX8_canal_119 rfl rfl ?_
      refine g_get k cfX8 11 0 dX8_canal_120 lkX8_29 (by decide) rfl rfl ?_
      refine g_iconst k dX8_canal_123 ic_2 ?_
      refine g_iload k 4 dX8_canal_124 rfl ?_
      refine g_imul k dX8_canal_126 ?_
      obtain ⟨κ15, hκ15, hiκ15, heκ15, hf⟩ := ixb_some hf
      refine g_iaload k 4 dX8_canal_127 rfl hiκ15 heκ15 ?_
      refine g_aload_n k 0 dX8_canal_128 rfl rfl ?_
      refine g_get k cfX8 11 0 dX8_canal_129 lkX8_29 (by decide) rfl rfl ?_
      refine g_iconst k dX8_canal_132 ic_2 ?_
      refine g_iload k 4 dX8_canal_133 rfl ?_
      refine g_imul k dX8_canal_135 ?_
      refine g_iconst k dX8_canal_136 ic_1 ?_
      refine g_iadd k dX8_canal_137 ?_
      obtain ⟨κ16, hκ16, hiκ16, heκ16, hf⟩ := ixb_some hf
      refine g_iaload k 4 dX8_canal_138 rfl hiκ16 heκ16 ?_
      obtain ⟨o17, ho18, hf⟩ := bnd_some hf
      refine g_cv k miX8_addPerson mvX8_addPerson (ctX8_addPerson (kL K) E N a0 a0_row a0_lanes a0_sizes a0_items a0_tape a0_readIce a0_readPeople a0_readSayings a0_line a0_bestLine a0_seen a0_held va0_isKept va0_length va0_at va0_number va0_readCells va0_readMany va0_readSaid va0_bestFar va0_bestIce va0_row (va0_readPeople κ15) (va0_readPeople κ16) o17 ho18) [0, 1] 0 (ws' := [(a0, oB 8 [.ref a0_row, .int va0_isKept, .ref a0_lanes, .ref a0_sizes, .ref a0_items, .ref a0_tape, .int va0_length, .int va0_at, .int va0_number, .ref a0_readIce, .int va0_readCells, .ref a0_readPeople, .int va0_readMany, .ref a0_readSayings, .int va0_readSaid, .ref a0_line, .ref a0_bestLine, .int va0_bestFar, .int va0_bestIce, .ref a0_seen, .ref a0_held]), (a0_row, aI E 525 o17), (a0_tape, aI E 110 va0_tape), (a0_readIce, aI E 12 va0_readIce), (a0_readPeople, aI E 12 va0_readPeople), (a0_readSayings, aI E 10 va0_readSayings)]) dX8_canal_139 lkX8_61 rfl ⟨rfl, rfl⟩ ⟨by decide, by decide⟩ rfl rfl rfl rfl (Nat.le_of_ble_eq_true rfl) rfl rfl rfl ?_
      refine g_st (st' := []) rfl ?_
      refine g_iinc k (lv' := [(4, .int (x4 + 1)), (0, .ref a0), (1, .int x1), (2, .int x2), (3, .int x3)]) 4 dX8_canal_142 rfl (ii_1 _) (by decide) rfl ?_
      refine g_goto k (tgt := 109) dX8_canal_145 (by decide) ?_
      refine g_lv [1, 2, 3, 4, 0] rfl ?_
      exact ih (x4 + 1) o17 o hf hG
def fX8_canal_L151 (N : Nat) (x1 : Int32) (x2 : Int32) (x3 : Int32) (va0_readSaid : Int32) (va0_readSayings : Nat → Int32) : Nat → Int32 → (Nat → Int32) → Option (Int32 × (Nat → Int32))
  | 0, _, _ => none
  | n + 1, x4, va0_row =>
    if va0_readSaid ≤ x4 then
    some (x4, va0_row)
    else
    ixb (2 * x4) 10 fun κ22 =>
    ixb ((2 * x4) + 1) 10 fun κ23 =>
    bnd (fX8_addSaying N va0_row (va0_readSayings κ22) (va0_readSayings κ23)) fun o24 =>
    fX8_canal_L151 N x1 x2 x3 va0_readSaid va0_readSayings n (x4 + 1) o24
set_option maxHeartbeats 4000000 in
set_option maxRecDepth 100000 in
theorem wX8_canal_L151 {E : Ev} {K : KX} (k : OKX E K cX8_canal RX8 5 rmX8_canal) (N : Nat) (a0 : Nat) (a0_row : Nat) (a0_lanes : Nat) (a0_sizes : Nat) (a0_items : Nat) (a0_tape : Nat) (a0_readIce : Nat) (a0_readPeople : Nat) (a0_readSayings : Nat) (a0_line : Nat) (a0_bestLine : Nat) (a0_seen : Nat) (a0_held : Nat) (x1 : Int32) (x2 : Int32) (x3 : Int32) (va0_readSaid : Int32) (va0_readSayings : Nat → Int32) (va0_isKept : Int32) (va0_length : Int32) (va0_at : Int32) (va0_number : Int32) (va0_readCells : Int32) (va0_readMany : Int32) (va0_bestFar : Int32) (va0_bestIce : Int32) (va0_tape : Nat → Int32) (va0_readIce : Nat → Int32) (va0_readPeople : Nat → Int32) : ∀ (n : Nat) (x4 : Int32) (va0_row : Nat → Int32) (o : Int32 × (Nat → Int32)), fX8_canal_L151 N x1 x2 x3 va0_readSaid va0_readSayings n x4 va0_row = some o → G E K 5 0 0 [(0, .ref a0), (1, .int x1), (2, .int x2), (3, .int x3), (4, .int o.1)] [] [(a0, oB 8 [.ref a0_row, .int va0_isKept, .ref a0_lanes, .ref a0_sizes, .ref a0_items, .ref a0_tape, .int va0_length, .int va0_at, .int va0_number, .ref a0_readIce, .int va0_readCells, .ref a0_readPeople, .int va0_readMany, .ref a0_readSayings, .int va0_readSaid, .ref a0_line, .ref a0_bestLine, .int va0_bestFar, .int va0_bestIce, .ref a0_seen, .ref a0_held]), (a0_row, aI E 525 o.2), (a0_tape, aI E 110 va0_tape), (a0_readIce, aI E 12 va0_readIce), (a0_readPeople, aI E 12 va0_readPeople), (a0_readSayings, aI E 10 va0_readSayings)] 190 → G E K 5 0 0 [(0, .ref a0), (1, .int x1), (2, .int x2), (3, .int x3), (4, .int x4)] [] [(a0, oB 8 [.ref a0_row, .int va0_isKept, .ref a0_lanes, .ref a0_sizes, .ref a0_items, .ref a0_tape, .int va0_length, .int va0_at, .int va0_number, .ref a0_readIce, .int va0_readCells, .ref a0_readPeople, .int va0_readMany, .ref a0_readSayings, .int va0_readSaid, .ref a0_line, .ref a0_bestLine, .int va0_bestFar, .int va0_bestIce, .ref a0_seen, .ref a0_held]), (a0_row, aI E 525 va0_row), (a0_tape, aI E 110 va0_tape), (a0_readIce, aI E 12 va0_readIce), (a0_readPeople, aI E 12 va0_readPeople), (a0_readSayings, aI E 10 va0_readSayings)] 151 := by
  intro n
  induction n with
  | zero => intro x4 va0_row o hf; cases hf
  | succ n ih =>
    intro x4 va0_row o hf hG
    rw [fX8_canal_L151] at hf
    refine g_iload k 4 dX8_canal_151 rfl ?_
    refine g_aload_n k 0 dX8_canal_153 rfl rfl ?_
    refine g_get k cfX8 14 0 dX8_canal_154 lkX8_147 (by decide) rfl rfl ?_
    refine g_icmp_ge k (tgt := 190) dX8_canal_157 (by decide) (fun c21 => ?_) (fun c21 => ?_)
    · replace hf := ite_t c21 hf
      refine g_lv [0, 1, 2, 3, 4] rfl ?_
      obtain rfl := Option.some.inj hf
      exact hG
    · replace hf := ite_f c21 hf
      refine g_aload_n k 0 dX8_canal_160 rfl rfl ?_
      refine g_aload_n k 0 dX8_canal_161 rfl rfl ?_
      refine g_get k cfX8 13 0 dX8_canal_162 lkX8_32 (by decide) rfl rfl ?_
      refine g_iconst k dX8_canal_165 ic_2 ?_
      refine g_iload k 4 dX8_canal_166 rfl ?_
      refine g_imul k dX8_canal_168 ?_
      obtain ⟨κ22, hκ22, hiκ22, heκ22, hf⟩ := ixb_some hf
      refine g_iaload k 5 dX8_canal_169 rfl hiκ22 heκ22 ?_
      refine g_aload_n k 0 dX8_canal_170 rfl rfl ?_
      refine g_get k cfX8 13 0 dX8_canal_171 lkX8_32 (by decide) rfl rfl ?_
      refine g_iconst k dX8_canal_174 ic_2 ?_
      refine g_iload k 4 dX8_canal_175 rfl ?_
      refine g_imul k dX8_canal_177 ?_
      refine g_iconst k dX8_canal_178 ic_1 ?_
      refine g_iadd k dX8_canal_179 ?_
      obtain ⟨κ23, hκ23, hiκ23, heκ23, hf⟩ := ixb_some hf
      refine g_iaload k 5 dX8_canal_180 rfl hiκ23 heκ23 ?_
      obtain ⟨o24, ho25, hf⟩ := bnd_some hf
      refine g_cv k miX8_addSaying mvX8_addSaying (ctX8_addSaying (kL K) E N a0 a0_row a0_lanes a0_sizes a0_items a0_tape a0_readIce a0_readPeople a0_readSayings a0_line a0_bestLine a0_seen a0_held va0_isKept va0_length va0_at va0_number va0_readCells va0_readMany va0_readSaid va0_bestFar va0_bestIce va0_row (va0_readSayings κ22) (va0_readSayings κ23) o24 ho25) [0, 1] 0 (ws' := [(a0, oB 8 [.ref a0_row, .int va0_isKept, .ref a0_lanes, .ref a0_sizes, .ref a0_items, .ref a0_tape, .int va0_length, .int va0_at, .int va0_number, .ref a0_readIce, .int va0_readCells, .ref a0_readPeople, .int va0_readMany, .ref a0_readSayings, .int va0_readSaid, .ref a0_line, .ref a0_bestLine, .int va0_bestFar, .int va0_bestIce, .ref a0_seen, .ref a0_held]), (a0_row, aI E 525 o24), (a0_tape, aI E 110 va0_tape), (a0_readIce, aI E 12 va0_readIce), (a0_readPeople, aI E 12 va0_readPeople), (a0_readSayings, aI E 10 va0_readSayings)]) dX8_canal_181 lkX8_71 rfl ⟨rfl, rfl⟩ ⟨by decide, by decide⟩ rfl rfl rfl rfl (Nat.le_of_ble_eq_true rfl) rfl rfl rfl ?_
      refine g_st (st' := []) rfl ?_
      refine g_iinc k (lv' := [(4, .int (x4 + 1)), (0, .ref a0), (1, .int x1), (2, .int x2), (3, .int x3)]) 4 dX8_canal_184 rfl (ii_1 _) (by decide) rfl ?_
      refine g_goto k (tgt := 151) dX8_canal_187 (by decide) ?_
      refine g_lv [1, 2, 3, 4, 0] rfl ?_
      exact ih (x4 + 1) o24 o hf hG
def fX8_canal (N : Nat) (va0_length : Int32) (va0_at : Int32) (va0_number : Int32) (va0_readCells : Int32) (va0_readMany : Int32) (va0_readSaid : Int32) (va0_row : Nat → Int32) (va0_tape : Nat → Int32) (va0_readIce : Nat → Int32) (va0_readPeople : Nat → Int32) (va0_readSayings : Nat → Int32)  : Option (Int32 × Int32 × Int32 × Int32 × Int32 × Int32 × Int32 × (Nat → Int32) × (Nat → Int32) × (Nat → Int32) × (Nat → Int32)) :=
  bnd (fX8_reads N va0_length va0_at va0_number va0_readCells va0_readMany va0_readSaid va0_tape va0_readIce va0_readPeople va0_readSayings) fun o1 =>
  if o1.1 = 0 then
  some (((-20) - o1.2.1), 0, o1.2.1, o1.2.2.1, o1.2.2.2.1, o1.2.2.2.2.1, o1.2.2.2.2.2.1, va0_row, o1.2.2.2.2.2.2.1, o1.2.2.2.2.2.2.2.1, o1.2.2.2.2.2.2.2.2)
  else
  bnd (fX8_canal_L40 N o1.1 (va0_row 2) (va0_row 25) N 0 va0_row) fun o6 =>
  bnd (fX8_canal_L80 N o1.1 (va0_row 2) (va0_row 25) o1.2.2.2.1 o1.2.2.2.2.2.2.1 N 0 (upd (upd o6.2 2 (va0_row 2)) 25 (va0_row 25))) fun o12 =>
  bnd (fX8_canal_L109 N o1.1 (va0_row 2) (va0_row 25) o1.2.2.2.2.1 o1.2.2.2.2.2.2.2.1 N 0 o12.2) fun o19 =>
  bnd (fX8_canal_L151 N o1.1 (va0_row 2) (va0_row 25) o1.2.2.2.2.2.1 o1.2.2.2.2.2.2.2.2 N 0 o19.2) fun o26 =>
  some ((o26.2 26), 0, o1.2.1, o1.2.2.1, o1.2.2.2.1, o1.2.2.2.2.1, o1.2.2.2.2.2.1, o26.2, o1.2.2.2.2.2.2.1, o1.2.2.2.2.2.2.2.1, o1.2.2.2.2.2.2.2.2)
set_option maxHeartbeats 4000000 in
set_option maxRecDepth 100000 in
theorem ctX8_canal (l : Launch) (E : Ev) (N : Nat) (a0 : Nat) (a0_row : Nat) (a0_lanes : Nat) (a0_sizes : Nat) (a0_items : Nat) (a0_tape : Nat) (a0_readIce : Nat) (a0_readPeople : Nat) (a0_readSayings : Nat) (a0_line : Nat) (a0_bestLine : Nat) (a0_seen : Nat) (a0_held : Nat) (va0_isKept : Int32) (va0_length : Int32) (va0_at : Int32) (va0_number : Int32) (va0_readCells : Int32) (va0_readMany : Int32) (va0_readSaid : Int32) (va0_bestFar : Int32) (va0_bestIce : Int32) (va0_row : Nat → Int32) (va0_tape : Nat → Int32) (va0_readIce : Nat → Int32) (va0_readPeople : Nat → Int32) (va0_readSayings : Nat → Int32)  (out : Int32 × Int32 × Int32 × Int32 × Int32 × Int32 × Int32 × (Nat → Int32) × (Nat → Int32) × (Nat → Int32) × (Nat → Int32)) (hf : fX8_canal N va0_length va0_at va0_number va0_readCells va0_readMany va0_readSaid va0_row va0_tape va0_readIce va0_readPeople va0_readSayings  = some out) : Ct l E yX8_canal cX8_canal 5 (some .int) rmX8_canal [.ref a0] [(a0, oB 8 [.ref a0_row, .int va0_isKept, .ref a0_lanes, .ref a0_sizes, .ref a0_items, .ref a0_tape, .int va0_length, .int va0_at, .int va0_number, .ref a0_readIce, .int va0_readCells, .ref a0_readPeople, .int va0_readMany, .ref a0_readSayings, .int va0_readSaid, .ref a0_line, .ref a0_bestLine, .int va0_bestFar, .int va0_bestIce, .ref a0_seen, .ref a0_held]), (a0_row, aI E 525 va0_row), (a0_tape, aI E 110 va0_tape), (a0_readIce, aI E 12 va0_readIce), (a0_readPeople, aI E 12 va0_readPeople), (a0_readSayings, aI E 10 va0_readSayings)] (Pe (some (.int out.1)) [(a0, oB 8 [.ref a0_row, .int va0_isKept, .ref a0_lanes, .ref a0_sizes, .ref a0_items, .ref a0_tape, .int out.2.1, .int out.2.2.1, .int out.2.2.2.1, .ref a0_readIce, .int out.2.2.2.2.1, .ref a0_readPeople, .int out.2.2.2.2.2.1, .ref a0_readSayings, .int out.2.2.2.2.2.2.1, .ref a0_line, .ref a0_bestLine, .int va0_bestFar, .int va0_bestIce, .ref a0_seen, .ref a0_held]), (a0_row, aI E 525 out.2.2.2.2.2.2.2.1), (a0_tape, aI E 110 va0_tape), (a0_readIce, aI E 12 out.2.2.2.2.2.2.2.2.1), (a0_readPeople, aI E 12 out.2.2.2.2.2.2.2.2.2.1), (a0_readSayings, aI E 10 out.2.2.2.2.2.2.2.2.2.2)]) := by
  refine Ct.of rfl (Nat.le_of_ble_eq_true rfl) (fun K hL k r hin => ?_)
  subst hL
  unfold fX8_canal at hf
  show G E K 5 0 0 [(0, .ref a0)] [] [(a0, oB 8 [.ref a0_row, .int va0_isKept, .ref a0_lanes, .ref a0_sizes, .ref a0_items, .ref a0_tape, .int va0_length, .int va0_at, .int va0_number, .ref a0_readIce, .int va0_readCells, .ref a0_readPeople, .int va0_readMany, .ref a0_readSayings, .int va0_readSaid, .ref a0_line, .ref a0_bestLine, .int va0_bestFar, .int va0_bestIce, .ref a0_seen, .ref a0_held]), (a0_row, aI E 525 va0_row), (a0_tape, aI E 110 va0_tape), (a0_readIce, aI E 12 va0_readIce), (a0_readPeople, aI E 12 va0_readPeople), (a0_readSayings, aI E 10 va0_readSayings)] 0
  refine g_aload_n k 0 dX8_canal_0 rfl rfl ?_
  obtain ⟨o1, ho2, hf⟩ := bnd_some hf
  refine g_cv k miX8_reads mvX8_reads (ctX8_reads (kL K) E N a0 a0_row a0_lanes a0_sizes a0_items a0_tape a0_readIce a0_readPeople a0_readSayings a0_line a0_bestLine a0_seen a0_held va0_isKept va0_length va0_at va0_number va0_readCells va0_readMany va0_readSaid va0_bestFar va0_bestIce va0_tape va0_readIce va0_readPeople va0_readSayings  o1 ho2) [0, 2, 3, 4, 5] 0 (ws' := [(a0, oB 8 [.ref a0_row, .int va0_isKept, .ref a0_lanes, .ref a0_sizes, .ref a0_items, .ref a0_tape, .int va0_length, .int o1.2.1, .int o1.2.2.1, .ref a0_readIce, .int o1.2.2.2.1, .ref a0_readPeople, .int o1.2.2.2.2.1, .ref a0_readSayings, .int o1.2.2.2.2.2.1, .ref a0_line, .ref a0_bestLine, .int va0_bestFar, .int va0_bestIce, .ref a0_seen, .ref a0_held]), (a0_row, aI E 525 va0_row), (a0_tape, aI E 110 va0_tape), (a0_readIce, aI E 12 o1.2.2.2.2.2.2.1), (a0_readPeople, aI E 12 o1.2.2.2.2.2.2.2.1), (a0_readSayings, aI E 10 o1.2.2.2.2.2.2.2.2)]) dX8_canal_1 lkX8_160 rfl ⟨rfl, rfl⟩ ⟨by decide, by decide⟩ rfl rfl rfl rfl (Nat.le_of_ble_eq_true rfl) rfl rfl rfl ?_
  refine g_st (st' := [.int o1.1]) rfl ?_
  refine g_istore_n k (lv' := [(1, .int o1.1), (0, .ref a0)]) dX8_canal_4 rfl (by decide) rfl ?_
  refine g_aload_n k 1 dX8_canal_5 rfl rfl ?_
  refine g_iconst k dX8_canal_6 ic_0 ?_
  refine g_put k cfX8 6 0 (ws' := [(a0, oB 8 [.ref a0_row, .int va0_isKept, .ref a0_lanes, .ref a0_sizes, .ref a0_items, .ref a0_tape, .int 0, .int o1.2.1, .int o1.2.2.1, .ref a0_readIce, .int o1.2.2.2.1, .ref a0_readPeople, .int o1.2.2.2.2.1, .ref a0_readSayings, .int o1.2.2.2.2.2.1, .ref a0_line, .ref a0_bestLine, .int va0_bestFar, .int va0_bestIce, .ref a0_seen, .ref a0_held]), (a0_row, aI E 525 va0_row), (a0_tape, aI E 110 va0_tape), (a0_readIce, aI E 12 o1.2.2.2.2.2.2.1), (a0_readPeople, aI E 12 o1.2.2.2.2.2.2.2.1), (a0_readSayings, aI E 10 o1.2.2.2.2.2.2.2.2)]) dX8_canal_7 lkX8_111 (by decide) rfl rfl rfl rfl (Nat.le_of_ble_eq_true rfl) rfl ?_
  refine g_iload_n k 0 dX8_canal_10 rfl rfl ?_
  refine g_if_ne k (tgt := 22) dX8_canal_11 (by decide) (fun c3 => ?_) (fun c3 => ?_)
  · replace hf := ite_f c3 hf
    refine g_aload_n k 1 dX8_canal_22 rfl rfl ?_
    refine g_get k cfX8 0 0 dX8_canal_23 lkX8_7 (by decide) rfl rfl ?_
    refine g_iconst k dX8_canal_26 ic_2 ?_
    refine g_iaload k 1 dX8_canal_27 rfl vi_2_525 cl_2 ?_
    refine g_istore_n k (lv' := [(2, .int (va0_row 2)), (1, .int o1.1), (0, .ref a0)]) dX8_canal_28 rfl (by decide) rfl ?_
    refine g_aload_n k 2 dX8_canal_29 rfl rfl ?_
    refine g_get k cfX8 0 0 dX8_canal_30 lkX8_7 (by decide) rfl rfl ?_
    refine g_bipush k dX8_canal_33 bi_25 ?_
    refine g_iaload k 1 dX8_canal_35 rfl vi_25_525 cl_25 ?_
    refine g_istore_n k (lv' := [(3, .int (va0_row 25)), (2, .int (va0_row 2)), (1, .int o1.1), (0, .ref a0)]) dX8_canal_36 rfl (by decide) rfl ?_
    refine g_iconst k dX8_canal_37 ic_0 ?_
    refine g_istore k (lv' := [(4, .int 0), (3, .int (va0_row 25)), (2, .int (va0_row 2)), (1, .int o1.1), (0, .ref a0)]) dX8_canal_38 (by decide) rfl ?_
    obtain ⟨o6, ho7, hf⟩ := bnd_some hf
    refine g_lv [4, 3, 2, 1, 0] (lv' := [(0, .ref a0), (1, .int o1.1), (2, .int (va0_row 2)), (3, .int (va0_row 25)), (4, .int 0)]) rfl ?_
    refine wX8_canal_L40 k N a0 a0_row a0_lanes a0_sizes a0_items a0_tape a0_readIce a0_readPeople a0_readSayings a0_line a0_bestLine a0_seen a0_held  o1.1 (va0_row 2) (va0_row 25) va0_isKept 0 o1.2.1 o1.2.2.1 o1.2.2.2.1 o1.2.2.2.2.1 o1.2.2.2.2.2.1 va0_bestFar va0_bestIce va0_tape o1.2.2.2.2.2.2.1 o1.2.2.2.2.2.2.2.1 o1.2.2.2.2.2.2.2.2 N 0 va0_row o6 ho7 ?_
    refine g_aload_n k 0 dX8_canal_62 rfl rfl ?_
    refine g_get k cfX8 0 0 dX8_canal_63 lkX8_7 (by decide) rfl rfl ?_
    refine g_iconst k dX8_canal_66 ic_2 ?_
    refine g_iload_n k 2 dX8_canal_67 rfl rfl ?_
    refine g_iastore k 1 (ws' := [(a0, oB 8 [.ref a0_row, .int va0_isKept, .ref a0_lanes, .ref a0_sizes, .ref a0_items, .ref a0_tape, .int 0, .int o1.2.1, .int o1.2.2.1, .ref a0_readIce, .int o1.2.2.2.1, .ref a0_readPeople, .int o1.2.2.2.2.1, .ref a0_readSayings, .int o1.2.2.2.2.2.1, .ref a0_line, .ref a0_bestLine, .int va0_bestFar, .int va0_bestIce, .ref a0_seen, .ref a0_held]), (a0_row, aI E 525 (upd o6.2 2 (va0_row 2))), (a0_tape, aI E 110 va0_tape), (a0_readIce, aI E 12 o1.2.2.2.2.2.2.1), (a0_readPeople, aI E 12 o1.2.2.2.2.2.2.2.1), (a0_readSayings, aI E 10 o1.2.2.2.2.2.2.2.2)]) dX8_canal_68 rfl vi_2_525 cl_2 rfl ?_
    refine g_aload_n k 0 dX8_canal_69 rfl rfl ?_
    refine g_get k cfX8 0 0 dX8_canal_70 lkX8_7 (by decide) rfl rfl ?_
    refine g_bipush k dX8_canal_73 bi_25 ?_
    refine g_iload_n k 3 dX8_canal_75 rfl rfl ?_
    refine g_iastore k 1 (ws' := [(a0, oB 8 [.ref a0_row, .int va0_isKept, .ref a0_lanes, .ref a0_sizes, .ref a0_items, .ref a0_tape, .int 0, .int o1.2.1, .int o1.2.2.1, .ref a0_readIce, .int o1.2.2.2.1, .ref a0_readPeople, .int o1.2.2.2.2.1, .ref a0_readSayings, .int o1.2.2.2.2.2.1, .ref a0_line, .ref a0_bestLine, .int va0_bestFar, .int va0_bestIce, .ref a0_seen, .ref a0_held]), (a0_row, aI E 525 (upd (upd o6.2 2 (va0_row 2)) 25 (va0_row 25))), (a0_tape, aI E 110 va0_tape), (a0_readIce, aI E 12 o1.2.2.2.2.2.2.1), (a0_readPeople, aI E 12 o1.2.2.2.2.2.2.2.1), (a0_readSayings, aI E 10 o1.2.2.2.2.2.2.2.2)]) dX8_canal_76 rfl vi_25_525 cl_25 rfl ?_
    refine g_iconst k dX8_canal_77 ic_0 ?_
    refine g_istore k (lv' := [(4, .int 0), (0, .ref a0), (1, .int o1.1), (2, .int (va0_row 2)), (3, .int (va0_row 25))]) dX8_canal_78 (by decide) rfl ?_
    obtain ⟨o12, ho13, hf⟩ := bnd_some hf
    refine g_lv [1, 2, 3, 4, 0] (lv' := [(0, .ref a0), (1, .int o1.1), (2, .int (va0_row 2)), (3, .int (va0_row 25)), (4, .int 0)]) rfl ?_
    refine wX8_canal_L80 k N a0 a0_row a0_lanes a0_sizes a0_items a0_tape a0_readIce a0_readPeople a0_readSayings a0_line a0_bestLine a0_seen a0_held  o1.1 (va0_row 2) (va0_row 25) o1.2.2.2.1 o1.2.2.2.2.2.2.1 va0_isKept 0 o1.2.1 o1.2.2.1 o1.2.2.2.2.1 o1.2.2.2.2.2.1 va0_bestFar va0_bestIce va0_tape o1.2.2.2.2.2.2.2.1 o1.2.2.2.2.2.2.2.2 N 0 (upd (upd o6.2 2 (va0_row 2)) 25 (va0_row 25)) o12 ho13 ?_
    refine g_iconst k dX8_canal_106 ic_0 ?_
    refine g_istore k (lv' := [(4, .int 0), (0, .ref a0), (1, .int o1.1), (2, .int (va0_row 2)), (3, .int (va0_row 25))]) dX8_canal_107 (by decide) rfl ?_
    obtain ⟨o19, ho20, hf⟩ := bnd_some hf
    refine g_lv [1, 2, 3, 4, 0] (lv' := [(0, .ref a0), (1, .int o1.1), (2, .int (va0_row 2)), (3, .int (va0_row 25)), (4, .int 0)]) rfl ?_
    refine wX8_canal_L109 k N a0 a0_row a0_lanes a0_sizes a0_items a0_tape a0_readIce a0_readPeople a0_readSayings a0_line a0_bestLine a0_seen a0_held  o1.1 (va0_row 2) (va0_row 25) o1.2.2.2.2.1 o1.2.2.2.2.2.2.2.1 va0_isKept 0 o1.2.1 o1.2.2.1 o1.2.2.2.1 o1.2.2.2.2.2.1 va0_bestFar va0_bestIce va0_tape o1.2.2.2.2.2.2.1 o1.2.2.2.2.2.2.2.2 N 0 o12.2 o19 ho20 ?_
    refine g_iconst k dX8_canal_148 ic_0 ?_
    refine g_istore k (lv' := [(4, .int 0), (0, .ref a0), (1, .int o1.1), (2, .int (va0_row 2)), (3, .int (va0_row 25))]) dX8_canal_149 (by decide) rfl ?_
    obtain ⟨o26, ho27, hf⟩ := bnd_some hf
    refine g_lv [1, 2, 3, 4, 0] (lv' := [(0, .ref a0), (1, .int o1.1), (2, .int (va0_row 2)), (3, .int (va0_row 25)), (4, .int 0)]) rfl ?_
    refine wX8_canal_L151 k N a0 a0_row a0_lanes a0_sizes a0_items a0_tape a0_readIce a0_readPeople a0_readSayings a0_line a0_bestLine a0_seen a0_held  o1.1 (va0_row 2) (va0_row 25) o1.2.2.2.2.2.1 o1.2.2.2.2.2.2.2.2 va0_isKept 0 o1.2.1 o1.2.2.1 o1.2.2.2.1 o1.2.2.2.2.1 va0_bestFar va0_bestIce va0_tape o1.2.2.2.2.2.2.1 o1.2.2.2.2.2.2.2.1 N 0 o19.2 o26 ho27 ?_
    refine g_aload_n k 0 dX8_canal_190 rfl rfl ?_
    refine g_get k cfX8 0 0 dX8_canal_191 lkX8_7 (by decide) rfl rfl ?_
    refine g_bipush k dX8_canal_194 bi_26 ?_
    refine g_iaload k 1 dX8_canal_196 rfl vi_26_525 cl_26 ?_
    obtain rfl := Option.some.inj hf
    exact g_iret k r dX8_canal_197 ⟨rfl, rfl⟩
  · replace hf := ite_t c3 hf
    refine g_bipush k dX8_canal_14 bi_m20 ?_
    refine g_aload_n k 1 dX8_canal_16 rfl rfl ?_
    refine g_get k cfX8 7 0 dX8_canal_17 lkX8_115 (by decide) rfl rfl ?_
    refine g_isub k dX8_canal_20 ?_
    obtain rfl := Option.some.inj hf
    exact g_iret k r dX8_canal_21 ⟨rfl, rfl⟩
abbrev rmX8_sumFrom : Room := { frames := 0, cells := 0, slots := 0, locals := 0 }
def fX8_sumFrom_L6 (N : Nat) (x1 : Int32) (x2 : Int32) (x3 : Int32) (va0_row : Nat → Int32) : Nat → Int32 → Int32 → Option (Int32 × Int32)
  | 0, _, _ => none
  | n + 1, x4, x5 =>
    if x3 ≤ x5 then
    some (x4, x5)
    else
    ixb (x1 + x5) 525 fun κ2 =>
    fX8_sumFrom_L6 N x1 x2 x3 va0_row n (x4 + (va0_row κ2)) (x5 + 1)
set_option maxHeartbeats 4000000 in
set_option maxRecDepth 100000 in
theorem wX8_sumFrom_L6 {E : Ev} {K : KX} (k : OKX E K cX8_sumFrom RX8 6 rmX8_sumFrom) (N : Nat) (a0 : Nat) (a0_row : Nat) (a0_lanes : Nat) (a0_sizes : Nat) (a0_items : Nat) (a0_tape : Nat) (a0_readIce : Nat) (a0_readPeople : Nat) (a0_readSayings : Nat) (a0_line : Nat) (a0_bestLine : Nat) (a0_seen : Nat) (a0_held : Nat) (x1 : Int32) (x2 : Int32) (x3 : Int32) (va0_row : Nat → Int32) (va0_isKept : Int32) (va0_length : Int32) (va0_at : Int32) (va0_number : Int32) (va0_readCells : Int32) (va0_readMany : Int32) (va0_readSaid : Int32) (va0_bestFar : Int32) (va0_bestIce : Int32) : ∀ (n : Nat) (x4 : Int32) (x5 : Int32) (o : Int32 × Int32), fX8_sumFrom_L6 N x1 x2 x3 va0_row n x4 x5 = some o → G E K 6 0 0 [(0, .ref a0), (1, .int x1), (2, .int x2), (3, .int x3), (4, .int o.1), (5, .int o.2)] [] [(a0, oB 8 [.ref a0_row, .int va0_isKept, .ref a0_lanes, .ref a0_sizes, .ref a0_items, .ref a0_tape, .int va0_length, .int va0_at, .int va0_number, .ref a0_readIce, .int va0_readCells, .ref a0_readPeople, .int va0_readMany, .ref a0_readSayings, .int va0_readSaid, .ref a0_line, .ref a0_bestLine, .int va0_bestFar, .int va0_bestIce, .ref a0_seen, .ref a0_held]), (a0_row, aI E 525 va0_row)] 32 → G E K 6 0 0 [(0, .ref a0), (1, .int x1), (2, .int x2), (3, .int x3), (4, .int x4), (5, .int x5)] [] [(a0, oB 8 [.ref a0_row, .int va0_isKept, .ref a0_lanes, .ref a0_sizes, .ref a0_items, .ref a0_tape, .int va0_length, .int va0_at, .int va0_number, .ref a0_readIce, .int va0_readCells, .ref a0_readPeople, .int va0_readMany, .ref a0_readSayings, .int va0_readSaid, .ref a0_line, .ref a0_bestLine, .int va0_bestFar, .int va0_bestIce, .ref a0_seen, .ref a0_held]), (a0_row, aI E 525 va0_row)] 6 := by
  intro n
  induction n with
  | zero => intro x4 x5 o hf; cases hf
  | succ n ih =>
    intro x4 x5 o hf hG
    rw [fX8_sumFrom_L6] at hf
    refine g_iload k 5 dX8_sumFrom_6 rfl ?_
    refine g_iload_n k 3 dX8_sumFrom_8 rfl rfl ?_
    refine g_icmp_ge k (tgt := 32) dX8_sumFrom_9 (by decide) (fun c1 => ?_) (fun c1 => ?_)
    · replace hf := ite_t c1 hf
      refine g_lv [0, 1, 2, 3, 4, 5] rfl ?_
      obtain rfl := Option.some.inj hf
      exact hG
    · replace hf := ite_f c1 hf
      refine g_iload k 4 dX8_sumFrom_12 rfl ?_
      refine g_aload_n k 0 dX8_sumFrom_14 rfl rfl ?_
      refine g_get k cfX8 0 0 dX8_sumFrom_15 lkX8_7 (by decide) rfl rfl ?_
      refine g_iload_n k 1 dX8_sumFrom_18 rfl rfl ?_
      refine g_iload k 5 dX8_sumFrom_19 rfl ?_
      refine g_iadd k dX8_sumFrom_21 ?_
      obtain ⟨κ2, hκ2, hiκ2, heκ2, hf⟩ := ixb_some hf
      refine g_iaload k 1 dX8_sumFrom_22 rfl hiκ2 heκ2 ?_
      refine g_iadd k dX8_sumFrom_23 ?_
      refine g_istore k (lv' := [(4, .int (x4 + (va0_row κ2))), (0, .ref a0), (1, .int x1), (2, .int x2), (3, .int x3), (5, .int x5)]) dX8_sumFrom_24 (by decide) rfl ?_
      refine g_iinc k (lv' := [(5, .int (x5 + 1)), (4, .int (x4 + (va0_row κ2))), (0, .ref a0), (1, .int x1), (2, .int x2), (3, .int x3)]) 5 dX8_sumFrom_26 rfl (ii_1 _) (by decide) rfl ?_
      refine g_goto k (tgt := 6) dX8_sumFrom_29 (by decide) ?_
      refine g_lv [2, 3, 4, 5, 1, 0] rfl ?_
      exact ih (x4 + (va0_row κ2)) (x5 + 1) o hf hG
def fX8_sumFrom (N : Nat) (va0_row : Nat → Int32) (x1 : Int32) (x2 : Int32) (x3 : Int32) : Option (Int32) :=
  bnd (fX8_sumFrom_L6 N x1 x2 x3 va0_row N 0 x2) fun o3 =>
  some (o3.1)
set_option maxHeartbeats 4000000 in
set_option maxRecDepth 100000 in
theorem ctX8_sumFrom (l : Launch) (E : Ev) (N : Nat) (a0 : Nat) (a0_row : Nat) (a0_lanes : Nat) (a0_sizes : Nat) (a0_items : Nat) (a0_tape : Nat) (a0_readIce : Nat) (a0_readPeople : Nat) (a0_readSayings : Nat) (a0_line : Nat) (a0_bestLine : Nat) (a0_seen : Nat) (a0_held : Nat) (va0_isKept : Int32) (va0_length : Int32) (va0_at : Int32) (va0_number : Int32) (va0_readCells : Int32) (va0_readMany : Int32) (va0_readSaid : Int32) (va0_bestFar : Int32) (va0_bestIce : Int32) (va0_row : Nat → Int32) (x1 : Int32) (x2 : Int32) (x3 : Int32) (out : Int32) (hf : fX8_sumFrom N va0_row x1 x2 x3 = some out) : Ct l E yX8_sumFrom cX8_sumFrom 6 (some .int) rmX8_sumFrom [.ref a0, .int x1, .int x2, .int x3] [(a0, oB 8 [.ref a0_row, .int va0_isKept, .ref a0_lanes, .ref a0_sizes, .ref a0_items, .ref a0_tape, .int va0_length, .int va0_at, .int va0_number, .ref a0_readIce, .int va0_readCells, .ref a0_readPeople, .int va0_readMany, .ref a0_readSayings, .int va0_readSaid, .ref a0_line, .ref a0_bestLine, .int va0_bestFar, .int va0_bestIce, .ref a0_seen, .ref a0_held]), (a0_row, aI E 525 va0_row)] (Pe (some (.int out)) [(a0, oB 8 [.ref a0_row, .int va0_isKept, .ref a0_lanes, .ref a0_sizes, .ref a0_items, .ref a0_tape, .int va0_length, .int va0_at, .int va0_number, .ref a0_readIce, .int va0_readCells, .ref a0_readPeople, .int va0_readMany, .ref a0_readSayings, .int va0_readSaid, .ref a0_line, .ref a0_bestLine, .int va0_bestFar, .int va0_bestIce, .ref a0_seen, .ref a0_held]), (a0_row, aI E 525 va0_row)]) := by
  refine Ct.of rfl (Nat.le_of_ble_eq_true rfl) (fun K hL k r hin => ?_)
  subst hL
  unfold fX8_sumFrom at hf
  show G E K 6 0 0 [(0, .ref a0), (1, .int x1), (2, .int x2), (3, .int x3)] [] [(a0, oB 8 [.ref a0_row, .int va0_isKept, .ref a0_lanes, .ref a0_sizes, .ref a0_items, .ref a0_tape, .int va0_length, .int va0_at, .int va0_number, .ref a0_readIce, .int va0_readCells, .ref a0_readPeople, .int va0_readMany, .ref a0_readSayings, .int va0_readSaid, .ref a0_line, .ref a0_bestLine, .int va0_bestFar, .int va0_bestIce, .ref a0_seen, .ref a0_held]), (a0_row, aI E 525 va0_row)] 0
  refine g_iconst k dX8_sumFrom_0 ic_0 ?_
  refine g_istore k (lv' := [(4, .int 0), (0, .ref a0), (1, .int x1), (2, .int x2), (3, .int x3)]) dX8_sumFrom_1 (by decide) rfl ?_
  refine g_iload_n k 3 dX8_sumFrom_3 rfl rfl ?_
  refine g_istore k (lv' := [(5, .int x2), (4, .int 0), (0, .ref a0), (1, .int x1), (2, .int x2), (3, .int x3)]) dX8_sumFrom_4 (by decide) rfl ?_
  obtain ⟨o3, ho4, hf⟩ := bnd_some hf
  refine g_lv [2, 3, 4, 5, 1, 0] (lv' := [(0, .ref a0), (1, .int x1), (2, .int x2), (3, .int x3), (4, .int 0), (5, .int x2)]) rfl ?_
  refine wX8_sumFrom_L6 k N a0 a0_row a0_lanes a0_sizes a0_items a0_tape a0_readIce a0_readPeople a0_readSayings a0_line a0_bestLine a0_seen a0_held  x1 x2 x3 va0_row va0_isKept va0_length va0_at va0_number va0_readCells va0_readMany va0_readSaid va0_bestFar va0_bestIce N 0 x2 o3 ho4 ?_
  refine g_iload k 4 dX8_sumFrom_32 rfl ?_
  obtain rfl := Option.some.inj hf
  exact g_iret k r dX8_sumFrom_34 ⟨rfl, rfl⟩
abbrev rmX8_count : Room := { frames := 1, cells := 0, slots := 0, locals := 25 }
def fX8_count (N : Nat) (va0_row : Nat → Int32) (x1 : Int32) : Option (Int32) :=
  if x1 = 0 then
  some ((va0_row 26))
  else
  if x1 = 1 then
  some ((va0_row 27))
  else
  if x1 = 2 then
  some ((va0_row 28))
  else
  if x1 = 3 then
  some ((va0_row 0))
  else
  if x1 = 4 then
  some ((va0_row 1))
  else
  if x1 = 5 then
  some ((va0_row 25))
  else
  if x1 = 6 then
  bnd (fX8_sumFrom N va0_row 3 (va0_row 0) (va0_row 26)) fun o8 =>
  some (o8)
  else
  if x1 = 7 then
  bnd (fX8_sumFrom N va0_row 15 0 (va0_row 28)) fun o11 =>
  some (o11)
  else
  if x1 = 8 then
  some ((va0_row 41))
  else
  some ((-1))
set_option maxHeartbeats 4000000 in
set_option maxRecDepth 100000 in
theorem ctX8_count (l : Launch) (E : Ev) (N : Nat) (a0 : Nat) (a0_row : Nat) (a0_lanes : Nat) (a0_sizes : Nat) (a0_items : Nat) (a0_tape : Nat) (a0_readIce : Nat) (a0_readPeople : Nat) (a0_readSayings : Nat) (a0_line : Nat) (a0_bestLine : Nat) (a0_seen : Nat) (a0_held : Nat) (va0_isKept : Int32) (va0_length : Int32) (va0_at : Int32) (va0_number : Int32) (va0_readCells : Int32) (va0_readMany : Int32) (va0_readSaid : Int32) (va0_bestFar : Int32) (va0_bestIce : Int32) (va0_row : Nat → Int32) (x1 : Int32) (out : Int32) (hf : fX8_count N va0_row x1 = some out) : Ct l E yX8_count cX8_count 2 (some .int) rmX8_count [.ref a0, .int x1] [(a0, oB 8 [.ref a0_row, .int va0_isKept, .ref a0_lanes, .ref a0_sizes, .ref a0_items, .ref a0_tape, .int va0_length, .int va0_at, .int va0_number, .ref a0_readIce, .int va0_readCells, .ref a0_readPeople, .int va0_readMany, .ref a0_readSayings, .int va0_readSaid, .ref a0_line, .ref a0_bestLine, .int va0_bestFar, .int va0_bestIce, .ref a0_seen, .ref a0_held]), (a0_row, aI E 525 va0_row)] (Pe (some (.int out)) [(a0, oB 8 [.ref a0_row, .int va0_isKept, .ref a0_lanes, .ref a0_sizes, .ref a0_items, .ref a0_tape, .int va0_length, .int va0_at, .int va0_number, .ref a0_readIce, .int va0_readCells, .ref a0_readPeople, .int va0_readMany, .ref a0_readSayings, .int va0_readSaid, .ref a0_line, .ref a0_bestLine, .int va0_bestFar, .int va0_bestIce, .ref a0_seen, .ref a0_held]), (a0_row, aI E 525 va0_row)]) := by
  refine Ct.of rfl (Nat.le_of_ble_eq_true rfl) (fun K hL k r hin => ?_)
  subst hL
  unfold fX8_count at hf
  show G E K 2 0 0 [(0, .ref a0), (1, .int x1)] [] [(a0, oB 8 [.ref a0_row, .int va0_isKept, .ref a0_lanes, .ref a0_sizes, .ref a0_items, .ref a0_tape, .int va0_length, .int va0_at, .int va0_number, .ref a0_readIce, .int va0_readCells, .ref a0_readPeople, .int va0_readMany, .ref a0_readSayings, .int va0_readSaid, .ref a0_line, .ref a0_bestLine, .int va0_bestFar, .int va0_bestIce, .ref a0_seen, .ref a0_held]), (a0_row, aI E 525 va0_row)] 0
  refine g_iload_n k 1 dX8_count_0 rfl rfl ?_
  by_cases c1 : x1 = 0
  · replace hf := ite_t c1 hf
    refine g_tabIn k (tgt := 52) dX8_count_1 (by rw [c1]; decide) (by rw [c1]; decide) (off := 51) (by rw [c1]; rfl) (by decide) ?_
    refine g_aload_n k 0 dX8_count_52 rfl rfl ?_
    refine g_get k cfX8 0 0 dX8_count_53 lkX8_7 (by decide) rfl rfl ?_
    refine g_bipush k dX8_count_56 bi_26 ?_
    refine g_iaload k 1 dX8_count_58 rfl vi_26_525 cl_26 ?_
    obtain rfl := Option.some.inj hf
    exact g_iret k r dX8_count_59 ⟨rfl, rfl⟩
  replace hf := ite_f c1 hf
  by_cases c2 : x1 = 1
  · replace hf := ite_t c2 hf
    refine g_tabIn k (tgt := 60) dX8_count_1 (by rw [c2]; decide) (by rw [c2]; decide) (off := 59) (by rw [c2]; rfl) (by decide) ?_
    refine g_aload_n k 0 dX8_count_60 rfl rfl ?_
    refine g_get k cfX8 0 0 dX8_count_61 lkX8_7 (by decide) rfl rfl ?_
    refine g_bipush k dX8_count_64 bi_27 ?_
    refine g_iaload k 1 dX8_count_66 rfl vi_27_525 cl_27 ?_
    obtain rfl := Option.some.inj hf
    exact g_iret k r dX8_count_67 ⟨rfl, rfl⟩
  replace hf := ite_f c2 hf
  by_cases c3 : x1 = 2
  · replace hf := ite_t c3 hf
    refine g_tabIn k (tgt := 68) dX8_count_1 (by rw [c3]; decide) (by rw [c3]; decide) (off := 67) (by rw [c3]; rfl) (by decide) ?_
    refine g_aload_n k 0 dX8_count_68 rfl rfl ?_
    refine g_get k cfX8 0 0 dX8_count_69 lkX8_7 (by decide) rfl rfl ?_
    refine g_bipush k dX8_count_72 bi_28 ?_
    refine g_iaload k 1 dX8_count_74 rfl vi_28_525 cl_28 ?_
    obtain rfl := Option.some.inj hf
    exact g_iret k r dX8_count_75 ⟨rfl, rfl⟩
  replace hf := ite_f c3 hf
  by_cases c4 : x1 = 3
  · replace hf := ite_t c4 hf
    refine g_tabIn k (tgt := 76) dX8_count_1 (by rw [c4]; decide) (by rw [c4]; decide) (off := 75) (by rw [c4]; rfl) (by decide) ?_
    refine g_aload_n k 0 dX8_count_76 rfl rfl ?_
    refine g_get k cfX8 0 0 dX8_count_77 lkX8_7 (by decide) rfl rfl ?_
    refine g_iconst k dX8_count_80 ic_0 ?_
    refine g_iaload k 1 dX8_count_81 rfl vi_0_525 cl_0 ?_
    obtain rfl := Option.some.inj hf
    exact g_iret k r dX8_count_82 ⟨rfl, rfl⟩
  replace hf := ite_f c4 hf
  by_cases c5 : x1 = 4
  · replace hf := ite_t c5 hf
    refine g_tabIn k (tgt := 83) dX8_count_1 (by rw [c5]; decide) (by rw [c5]; decide) (off := 82) (by rw [c5]; rfl) (by decide) ?_
    refine g_aload_n k 0 dX8_count_83 rfl rfl ?_
    refine g_get k cfX8 0 0 dX8_count_84 lkX8_7 (by decide) rfl rfl ?_
    refine g_iconst k dX8_count_87 ic_1 ?_
    refine g_iaload k 1 dX8_count_88 rfl vi_1_525 cl_1 ?_
    obtain rfl := Option.some.inj hf
    exact g_iret k r dX8_count_89 ⟨rfl, rfl⟩
  replace hf := ite_f c5 hf
  by_cases c6 : x1 = 5
  · replace hf := ite_t c6 hf
    refine g_tabIn k (tgt := 90) dX8_count_1 (by rw [c6]; decide) (by rw [c6]; decide) (off := 89) (by rw [c6]; rfl) (by decide) ?_
    refine g_aload_n k 0 dX8_count_90 rfl rfl ?_
    refine g_get k cfX8 0 0 dX8_count_91 lkX8_7 (by decide) rfl rfl ?_
    refine g_bipush k dX8_count_94 bi_25 ?_
    refine g_iaload k 1 dX8_count_96 rfl vi_25_525 cl_25 ?_
    obtain rfl := Option.some.inj hf
    exact g_iret k r dX8_count_97 ⟨rfl, rfl⟩
  replace hf := ite_f c6 hf
  by_cases c7 : x1 = 6
  · replace hf := ite_t c7 hf
    refine g_tabIn k (tgt := 98) dX8_count_1 (by rw [c7]; decide) (by rw [c7]; decide) (off := 97) (by rw [c7]; rfl) (by decide) ?_
    refine g_aload_n k 0 dX8_count_98 rfl rfl ?_
    refine g_iconst k dX8_count_99 ic_3 ?_
    refine g_aload_n k 0 dX8_count_100 rfl rfl ?_
    refine g_get k cfX8 0 0 dX8_count_101 lkX8_7 (by decide) rfl rfl ?_
    refine g_iconst k dX8_count_104 ic_0 ?_
    refine g_iaload k 1 dX8_count_105 rfl vi_0_525 cl_0 ?_
    refine g_aload_n k 0 dX8_count_106 rfl rfl ?_
    refine g_get k cfX8 0 0 dX8_count_107 lkX8_7 (by decide) rfl rfl ?_
    refine g_bipush k dX8_count_110 bi_26 ?_
    refine g_iaload k 1 dX8_count_112 rfl vi_26_525 cl_26 ?_
    obtain ⟨o8, ho9, hf⟩ := bnd_some hf
    refine g_cv k miX8_sumFrom mvX8_sumFrom (ctX8_sumFrom (kL K) E N a0 a0_row a0_lanes a0_sizes a0_items a0_tape a0_readIce a0_readPeople a0_readSayings a0_line a0_bestLine a0_seen a0_held va0_isKept va0_length va0_at va0_number va0_readCells va0_readMany va0_readSaid va0_bestFar va0_bestIce va0_row 3 (va0_row 0) (va0_row 26) o8 ho9) [0, 1] 0 (ws' := [(a0, oB 8 [.ref a0_row, .int va0_isKept, .ref a0_lanes, .ref a0_sizes, .ref a0_items, .ref a0_tape, .int va0_length, .int va0_at, .int va0_number, .ref a0_readIce, .int va0_readCells, .ref a0_readPeople, .int va0_readMany, .ref a0_readSayings, .int va0_readSaid, .ref a0_line, .ref a0_bestLine, .int va0_bestFar, .int va0_bestIce, .ref a0_seen, .ref a0_held]), (a0_row, aI E 525 va0_row)]) dX8_count_113 lkX8_163 rfl ⟨rfl, rfl⟩ ⟨by decide, by decide⟩ rfl rfl rfl rfl (Nat.le_of_ble_eq_true rfl) rfl rfl rfl ?_
    refine g_st (st' := [.int o8]) rfl ?_
    obtain rfl := Option.some.inj hf
    exact g_iret k r dX8_count_116 ⟨rfl, rfl⟩
  replace hf := ite_f c7 hf
  by_cases c10 : x1 = 7
  · replace hf := ite_t c10 hf
    refine g_tabIn k (tgt := 117) dX8_count_1 (by rw [c10]; decide) (by rw [c10]; decide) (off := 116) (by rw [c10]; rfl) (by decide) ?_
    refine g_aload_n k 0 dX8_count_117 rfl rfl ?_
    refine g_bipush k dX8_count_118 bi_15 ?_
    refine g_iconst k dX8_count_120 ic_0 ?_
    refine g_aload_n k 0 dX8_count_121 rfl rfl ?_
    refine g_get k cfX8 0 0 dX8_count_122 lkX8_7 (by decide) rfl rfl ?_
    refine g_bipush k dX8_count_125 bi_28 ?_
    refine g_iaload k 1 dX8_count_127 rfl vi_28_525 cl_28 ?_
    obtain ⟨o11, ho12, hf⟩ := bnd_some hf
    refine g_cv k miX8_sumFrom mvX8_sumFrom (ctX8_sumFrom (kL K) E N a0 a0_row a0_lanes a0_sizes a0_items a0_tape a0_readIce a0_readPeople a0_readSayings a0_line a0_bestLine a0_seen a0_held va0_isKept va0_length va0_at va0_number va0_readCells va0_readMany va0_readSaid va0_bestFar va0_bestIce va0_row 15 0 (va0_row 28) o11 ho12) [0, 1] 0 (ws' := [(a0, oB 8 [.ref a0_row, .int va0_isKept, .ref a0_lanes, .ref a0_sizes, .ref a0_items, .ref a0_tape, .int va0_length, .int va0_at, .int va0_number, .ref a0_readIce, .int va0_readCells, .ref a0_readPeople, .int va0_readMany, .ref a0_readSayings, .int va0_readSaid, .ref a0_line, .ref a0_bestLine, .int va0_bestFar, .int va0_bestIce, .ref a0_seen, .ref a0_held]), (a0_row, aI E 525 va0_row)]) dX8_count_128 lkX8_163 rfl ⟨rfl, rfl⟩ ⟨by decide, by decide⟩ rfl rfl rfl rfl (Nat.le_of_ble_eq_true rfl) rfl rfl rfl ?_
    refine g_st (st' := [.int o11]) rfl ?_
    obtain rfl := Option.some.inj hf
    exact g_iret k r dX8_count_131 ⟨rfl, rfl⟩
  replace hf := ite_f c10 hf
  by_cases c13 : x1 = 8
  · replace hf := ite_t c13 hf
    refine g_tabIn k (tgt := 132) dX8_count_1 (by rw [c13]; decide) (by rw [c13]; decide) (off := 131) (by rw [c13]; rfl) (by decide) ?_
    refine g_aload_n k 0 dX8_count_132 rfl rfl ?_
    refine g_get k cfX8 0 0 dX8_count_133 lkX8_7 (by decide) rfl rfl ?_
    refine g_bipush k dX8_count_136 bi_41 ?_
    refine g_iaload k 1 dX8_count_138 rfl vi_41_525 cl_41 ?_
    obtain rfl := Option.some.inj hf
    exact g_iret k r dX8_count_139 ⟨rfl, rfl⟩
  replace hf := ite_f c13 hf
  refine g_tabOut k (tgt := 140) dX8_count_1 (by have := lv_neT (k := 0) c1 (a := 0) (by decide); have := lv_neT (k := 1) c2 (a := 1) (by decide); have := lv_neT (k := 2) c3 (a := 2) (by decide); have := lv_neT (k := 3) c4 (a := 3) (by decide); have := lv_neT (k := 4) c5 (a := 4) (by decide); have := lv_neT (k := 5) c6 (a := 5) (by decide); have := lv_neT (k := 6) c7 (a := 6) (by decide); have := lv_neT (k := 7) c10 (a := 7) (by decide); have := lv_neT (k := 8) c13 (a := 8) (by decide); omega) (by decide) ?_
  refine g_iconst k dX8_count_140 ic_m1 ?_
  obtain rfl := Option.some.inj hf
  exact g_iret k r dX8_count_141 ⟨rfl, rfl⟩
abbrev rmX8_keepPast : Room := { frames := 0, cells := 0, slots := 0, locals := 0 }
def fX8_keepPast_L58 (N : Nat)  : Nat → Int32 → (Nat → Int32) → Option (Int32 × (Nat → Int32))
  | 0, _, _ => none
  | n + 1, x1, va0_row =>
    if 25 ≤ x1 then
    some (x1, va0_row)
    else
    ixb x1 525 fun κ3 =>
    ixb ((42 + (25 * (va0_row 41))) + x1) 525 fun κ4 =>
    fX8_keepPast_L58 N  n (x1 + 1) (upd va0_row κ4 (va0_row κ3))
set_option maxHeartbeats 4000000 in
set_option maxRecDepth 100000 in
theorem wX8_keepPast_L58 {E : Ev} {K : KX} (k : OKX E K cX8_keepPast RX8 2 rmX8_keepPast) (N : Nat) (a0 : Nat) (a0_row : Nat) (a0_lanes : Nat) (a0_sizes : Nat) (a0_items : Nat) (a0_tape : Nat) (a0_readIce : Nat) (a0_readPeople : Nat) (a0_readSayings : Nat) (a0_line : Nat) (a0_bestLine : Nat) (a0_seen : Nat) (a0_held : Nat) (va0_isKept : Int32) (va0_length : Int32) (va0_at : Int32) (va0_number : Int32) (va0_readCells : Int32) (va0_readMany : Int32) (va0_readSaid : Int32) (va0_bestFar : Int32) (va0_bestIce : Int32) : ∀ (n : Nat) (x1 : Int32) (va0_row : Nat → Int32) (o : Int32 × (Nat → Int32)), fX8_keepPast_L58 N  n x1 va0_row = some o → G E K 2 0 0 [(0, .ref a0), (1, .int o.1)] [] [(a0, oB 8 [.ref a0_row, .int va0_isKept, .ref a0_lanes, .ref a0_sizes, .ref a0_items, .ref a0_tape, .int va0_length, .int va0_at, .int va0_number, .ref a0_readIce, .int va0_readCells, .ref a0_readPeople, .int va0_readMany, .ref a0_readSayings, .int va0_readSaid, .ref a0_line, .ref a0_bestLine, .int va0_bestFar, .int va0_bestIce, .ref a0_seen, .ref a0_held]), (a0_row, aI E 525 o.2)] 96 → G E K 2 0 0 [(0, .ref a0), (1, .int x1)] [] [(a0, oB 8 [.ref a0_row, .int va0_isKept, .ref a0_lanes, .ref a0_sizes, .ref a0_items, .ref a0_tape, .int va0_length, .int va0_at, .int va0_number, .ref a0_readIce, .int va0_readCells, .ref a0_readPeople, .int va0_readMany, .ref a0_readSayings, .int va0_readSaid, .ref a0_line, .ref a0_bestLine, .int va0_bestFar, .int va0_bestIce, .ref a0_seen, .ref a0_held]), (a0_row, aI E 525 va0_row)] 58 := by
  intro n
  induction n with
  | zero => intro x1 va0_row o hf; cases hf
  | succ n ih =>
    intro x1 va0_row o hf hG
    rw [fX8_keepPast_L58] at hf
    refine g_iload_n k 1 dX8_keepPast_58 rfl rfl ?_
    refine g_bipush k dX8_keepPast_59 bi_25 ?_
    refine g_icmp_ge k (tgt := 96) dX8_keepPast_61 (by decide) (fun c2 => ?_) (fun c2 => ?_)
    · replace hf := ite_t c2 hf
      refine g_lv [0, 1] rfl ?_
      obtain rfl := Option.some.inj hf
      exact hG
    · replace hf := ite_f c2 hf
      refine g_aload_n k 0 dX8_keepPast_64 rfl rfl ?_
      refine g_get k cfX8 0 0 dX8_keepPast_65 lkX8_7 (by decide) rfl rfl ?_
      refine g_bipush k dX8_keepPast_68 bi_42 ?_
      refine g_bipush k dX8_keepPast_70 bi_25 ?_
      refine g_aload_n k 0 dX8_keepPast_72 rfl rfl ?_
      refine g_get k cfX8 0 0 dX8_keepPast_73 lkX8_7 (by decide) rfl rfl ?_
      refine g_bipush k dX8_keepPast_76 bi_41 ?_
      refine g_iaload k 1 dX8_keepPast_78 rfl vi_41_525 cl_41 ?_
      refine g_imul k dX8_keepPast_79 ?_
      refine g_iadd k dX8_keepPast_80 ?_
      refine g_iload_n k 1 dX8_keepPast_81 rfl rfl ?_
      refine g_iadd k dX8_keepPast_82 ?_
      refine g_aload_n k 0 dX8_keepPast_83 rfl rfl ?_
      refine g_get k cfX8 0 0 dX8_keepPast_84 lkX8_7 (by decide) rfl rfl ?_
      refine g_iload_n k 1 dX8_keepPast_87 rfl rfl ?_
      obtain ⟨κ3, hκ3, hiκ3, heκ3, hf⟩ := ixb_some hf
      refine g_iaload k 1 dX8_keepPast_88 rfl hiκ3 heκ3 ?_
      obtain ⟨κ4, hκ4, hiκ4, heκ4, hf⟩ := ixb_some hf
      refine g_iastore k 1 (ws' := [(a0, oB 8 [.ref a0_row, .int va0_isKept, .ref a0_lanes, .ref a0_sizes, .ref a0_items, .ref a0_tape, .int va0_length, .int va0_at, .int va0_number, .ref a0_readIce, .int va0_readCells, .ref a0_readPeople, .int va0_readMany, .ref a0_readSayings, .int va0_readSaid, .ref a0_line, .ref a0_bestLine, .int va0_bestFar, .int va0_bestIce, .ref a0_seen, .ref a0_held]), (a0_row, aI E 525 (upd va0_row κ4 (va0_row κ3)))]) dX8_keepPast_89 rfl hiκ4 heκ4 rfl ?_
      refine g_iinc k (lv' := [(1, .int (x1 + 1)), (0, .ref a0)]) 1 dX8_keepPast_90 rfl (ii_1 _) (by decide) rfl ?_
      refine g_goto k (tgt := 58) dX8_keepPast_93 (by decide) ?_
      refine g_lv [1, 0] rfl ?_
      exact ih (x1 + 1) (upd va0_row κ4 (va0_row κ3)) o hf hG
def fX8_keepPast_L14 (N : Nat)  : Nat → Int32 → (Nat → Int32) → Option (Int32 × (Nat → Int32))
  | 0, _, _ => none
  | n + 1, x1, va0_row =>
    if 175 ≤ x1 then
    some (x1, va0_row)
    else
    ixb (67 + x1) 525 fun κ8 =>
    ixb (42 + x1) 525 fun κ9 =>
    fX8_keepPast_L14 N  n (x1 + 1) (upd va0_row κ9 (va0_row κ8))
set_option maxHeartbeats 4000000 in
set_option maxRecDepth 100000 in
theorem wX8_keepPast_L14 {E : Ev} {K : KX} (k : OKX E K cX8_keepPast RX8 2 rmX8_keepPast) (N : Nat) (a0 : Nat) (a0_row : Nat) (a0_lanes : Nat) (a0_sizes : Nat) (a0_items : Nat) (a0_tape : Nat) (a0_readIce : Nat) (a0_readPeople : Nat) (a0_readSayings : Nat) (a0_line : Nat) (a0_bestLine : Nat) (a0_seen : Nat) (a0_held : Nat) (va0_isKept : Int32) (va0_length : Int32) (va0_at : Int32) (va0_number : Int32) (va0_readCells : Int32) (va0_readMany : Int32) (va0_readSaid : Int32) (va0_bestFar : Int32) (va0_bestIce : Int32) : ∀ (n : Nat) (x1 : Int32) (va0_row : Nat → Int32) (o : Int32 × (Nat → Int32)), fX8_keepPast_L14 N  n x1 va0_row = some o → G E K 2 0 0 [(0, .ref a0), (1, .int o.1)] [] [(a0, oB 8 [.ref a0_row, .int va0_isKept, .ref a0_lanes, .ref a0_sizes, .ref a0_items, .ref a0_tape, .int va0_length, .int va0_at, .int va0_number, .ref a0_readIce, .int va0_readCells, .ref a0_readPeople, .int va0_readMany, .ref a0_readSayings, .int va0_readSaid, .ref a0_line, .ref a0_bestLine, .int va0_bestFar, .int va0_bestIce, .ref a0_seen, .ref a0_held]), (a0_row, aI E 525 o.2)] 45 → G E K 2 0 0 [(0, .ref a0), (1, .int x1)] [] [(a0, oB 8 [.ref a0_row, .int va0_isKept, .ref a0_lanes, .ref a0_sizes, .ref a0_items, .ref a0_tape, .int va0_length, .int va0_at, .int va0_number, .ref a0_readIce, .int va0_readCells, .ref a0_readPeople, .int va0_readMany, .ref a0_readSayings, .int va0_readSaid, .ref a0_line, .ref a0_bestLine, .int va0_bestFar, .int va0_bestIce, .ref a0_seen, .ref a0_held]), (a0_row, aI E 525 va0_row)] 14 := by
  intro n
  induction n with
  | zero => intro x1 va0_row o hf; cases hf
  | succ n ih =>
    intro x1 va0_row o hf hG
    rw [fX8_keepPast_L14] at hf
    refine g_iload_n k 1 dX8_keepPast_14 rfl rfl ?_
    refine g_sipush k dX8_keepPast_15 si_175 ?_
    refine g_icmp_ge k (tgt := 45) dX8_keepPast_18 (by decide) (fun c7 => ?_) (fun c7 => ?_)
    · replace hf := ite_t c7 hf
      refine g_lv [0, 1] rfl ?_
      obtain rfl := Option.some.inj hf
      exact hG
    · replace hf := ite_f c7 hf
      refine g_aload_n k 0 dX8_keepPast_21 rfl rfl ?_
      refine g_get k cfX8 0 0 dX8_keepPast_22 lkX8_7 (by decide) rfl rfl ?_
      refine g_bipush k dX8_keepPast_25 bi_42 ?_
      refine g_iload_n k 1 dX8_keepPast_27 rfl rfl ?_
      refine g_iadd k dX8_keepPast_28 ?_
      refine g_aload_n k 0 dX8_keepPast_29 rfl rfl ?_
      refine g_get k cfX8 0 0 dX8_keepPast_30 lkX8_7 (by decide) rfl rfl ?_
      refine g_bipush k dX8_keepPast_33 bi_67 ?_
      refine g_iload_n k 1 dX8_keepPast_35 rfl rfl ?_
      refine g_iadd k dX8_keepPast_36 ?_
      obtain ⟨κ8, hκ8, hiκ8, heκ8, hf⟩ := ixb_some hf
      refine g_iaload k 1 dX8_keepPast_37 rfl hiκ8 heκ8 ?_
      obtain ⟨κ9, hκ9, hiκ9, heκ9, hf⟩ := ixb_some hf
      refine g_iastore k 1 (ws' := [(a0, oB 8 [.ref a0_row, .int va0_isKept, .ref a0_lanes, .ref a0_sizes, .ref a0_items, .ref a0_tape, .int va0_length, .int va0_at, .int va0_number, .ref a0_readIce, .int va0_readCells, .ref a0_readPeople, .int va0_readMany, .ref a0_readSayings, .int va0_readSaid, .ref a0_line, .ref a0_bestLine, .int va0_bestFar, .int va0_bestIce, .ref a0_seen, .ref a0_held]), (a0_row, aI E 525 (upd va0_row κ9 (va0_row κ8)))]) dX8_keepPast_38 rfl hiκ9 heκ9 rfl ?_
      refine g_iinc k (lv' := [(1, .int (x1 + 1)), (0, .ref a0)]) 1 dX8_keepPast_39 rfl (ii_1 _) (by decide) rfl ?_
      refine g_goto k (tgt := 14) dX8_keepPast_42 (by decide) ?_
      refine g_lv [1, 0] rfl ?_
      exact ih (x1 + 1) (upd va0_row κ9 (va0_row κ8)) o hf hG
def fX8_keepPast (N : Nat) (va0_row : Nat → Int32)  : Option ((Nat → Int32)) :=
  if (va0_row 41) = 8 then
  bnd (fX8_keepPast_L14 N  N 0 va0_row) fun o10 =>
  bnd (fX8_keepPast_L58 N  N 0 (upd o10.2 41 ((o10.2 41) - 1))) fun o12 =>
  some ((upd o12.2 41 ((o12.2 41) + 1)))
  else
  bnd (fX8_keepPast_L58 N  N 0 va0_row) fun o5 =>
  some ((upd o5.2 41 ((o5.2 41) + 1)))
set_option maxHeartbeats 4000000 in
set_option maxRecDepth 100000 in
theorem ctX8_keepPast (l : Launch) (E : Ev) (N : Nat) (a0 : Nat) (a0_row : Nat) (a0_lanes : Nat) (a0_sizes : Nat) (a0_items : Nat) (a0_tape : Nat) (a0_readIce : Nat) (a0_readPeople : Nat) (a0_readSayings : Nat) (a0_line : Nat) (a0_bestLine : Nat) (a0_seen : Nat) (a0_held : Nat) (va0_isKept : Int32) (va0_length : Int32) (va0_at : Int32) (va0_number : Int32) (va0_readCells : Int32) (va0_readMany : Int32) (va0_readSaid : Int32) (va0_bestFar : Int32) (va0_bestIce : Int32) (va0_row : Nat → Int32)  (out : (Nat → Int32)) (hf : fX8_keepPast N va0_row  = some out) : Ct l E yX8_keepPast cX8_keepPast 2 none rmX8_keepPast [.ref a0] [(a0, oB 8 [.ref a0_row, .int va0_isKept, .ref a0_lanes, .ref a0_sizes, .ref a0_items, .ref a0_tape, .int va0_length, .int va0_at, .int va0_number, .ref a0_readIce, .int va0_readCells, .ref a0_readPeople, .int va0_readMany, .ref a0_readSayings, .int va0_readSaid, .ref a0_line, .ref a0_bestLine, .int va0_bestFar, .int va0_bestIce, .ref a0_seen, .ref a0_held]), (a0_row, aI E 525 va0_row)] (Pe none [(a0, oB 8 [.ref a0_row, .int va0_isKept, .ref a0_lanes, .ref a0_sizes, .ref a0_items, .ref a0_tape, .int va0_length, .int va0_at, .int va0_number, .ref a0_readIce, .int va0_readCells, .ref a0_readPeople, .int va0_readMany, .ref a0_readSayings, .int va0_readSaid, .ref a0_line, .ref a0_bestLine, .int va0_bestFar, .int va0_bestIce, .ref a0_seen, .ref a0_held]), (a0_row, aI E 525 out)]) := by
  refine Ct.of rfl (Nat.le_of_ble_eq_true rfl) (fun K hL k r hin => ?_)
  subst hL
  unfold fX8_keepPast at hf
  show G E K 2 0 0 [(0, .ref a0)] [] [(a0, oB 8 [.ref a0_row, .int va0_isKept, .ref a0_lanes, .ref a0_sizes, .ref a0_items, .ref a0_tape, .int va0_length, .int va0_at, .int va0_number, .ref a0_readIce, .int va0_readCells, .ref a0_readPeople, .int va0_readMany, .ref a0_readSayings, .int va0_readSaid, .ref a0_line, .ref a0_bestLine, .int va0_bestFar, .int va0_bestIce, .ref a0_seen, .ref a0_held]), (a0_row, aI E 525 va0_row)] 0
  refine g_aload_n k 0 dX8_keepPast_0 rfl rfl ?_
  refine g_get k cfX8 0 0 dX8_keepPast_1 lkX8_7 (by decide) rfl rfl ?_
  refine g_bipush k dX8_keepPast_4 bi_41 ?_
  refine g_iaload k 1 dX8_keepPast_6 rfl vi_41_525 cl_41 ?_
  refine g_bipush k dX8_keepPast_7 bi_8 ?_
  refine g_icmp_ne k (tgt := 56) dX8_keepPast_9 (by decide) (fun c1 => ?_) (fun c1 => ?_)
  · replace hf := ite_f c1 hf
    refine g_iconst k dX8_keepPast_56 ic_0 ?_
    refine g_istore_n k (lv' := [(1, .int 0), (0, .ref a0)]) dX8_keepPast_57 rfl (by decide) rfl ?_
    obtain ⟨o5, ho6, hf⟩ := bnd_some hf
    refine g_lv [1, 0] (lv' := [(0, .ref a0), (1, .int 0)]) rfl ?_
    refine wX8_keepPast_L58 k N a0 a0_row a0_lanes a0_sizes a0_items a0_tape a0_readIce a0_readPeople a0_readSayings a0_line a0_bestLine a0_seen a0_held   va0_isKept va0_length va0_at va0_number va0_readCells va0_readMany va0_readSaid va0_bestFar va0_bestIce N 0 va0_row o5 ho6 ?_
    refine g_aload_n k 0 dX8_keepPast_96 rfl rfl ?_
    refine g_get k cfX8 0 0 dX8_keepPast_97 lkX8_7 (by decide) rfl rfl ?_
    refine g_bipush k dX8_keepPast_100 bi_41 ?_
    refine g_dup2 k dX8_keepPast_102 rfl rfl ?_
    refine g_iaload k 1 dX8_keepPast_103 rfl vi_41_525 cl_41 ?_
    refine g_iconst k dX8_keepPast_104 ic_1 ?_
    refine g_iadd k dX8_keepPast_105 ?_
    refine g_iastore k 1 (ws' := [(a0, oB 8 [.ref a0_row, .int va0_isKept, .ref a0_lanes, .ref a0_sizes, .ref a0_items, .ref a0_tape, .int va0_length, .int va0_at, .int va0_number, .ref a0_readIce, .int va0_readCells, .ref a0_readPeople, .int va0_readMany, .ref a0_readSayings, .int va0_readSaid, .ref a0_line, .ref a0_bestLine, .int va0_bestFar, .int va0_bestIce, .ref a0_seen, .ref a0_held]), (a0_row, aI E 525 (upd o5.2 41 ((o5.2 41) + 1)))]) dX8_keepPast_106 rfl vi_41_525 cl_41 rfl ?_
    obtain rfl := Option.some.inj hf
    exact g_vret k r dX8_keepPast_107 ⟨rfl, rfl⟩
  · replace hf := ite_t c1 hf
    refine g_iconst k dX8_keepPast_12 ic_0 ?_
    refine g_istore_n k (lv' := [(1, .int 0), (0, .ref a0)]) dX8_keepPast_13 rfl (by decide) rfl ?_
    obtain ⟨o10, ho11, hf⟩ := bnd_some hf
    refine g_lv [1, 0] (lv' := [(0, .ref a0), (1, .int 0)]) rfl ?_
    refine wX8_keepPast_L14 k N a0 a0_row a0_lanes a0_sizes a0_items a0_tape a0_readIce a0_readPeople a0_readSayings a0_line a0_bestLine a0_seen a0_held   va0_isKept va0_length va0_at va0_number va0_readCells va0_readMany va0_readSaid va0_bestFar va0_bestIce N 0 va0_row o10 ho11 ?_
    refine g_aload_n k 0 dX8_keepPast_45 rfl rfl ?_
    refine g_get k cfX8 0 0 dX8_keepPast_46 lkX8_7 (by decide) rfl rfl ?_
    refine g_bipush k dX8_keepPast_49 bi_41 ?_
    refine g_dup2 k dX8_keepPast_51 rfl rfl ?_
    refine g_iaload k 1 dX8_keepPast_52 rfl vi_41_525 cl_41 ?_
    refine g_iconst k dX8_keepPast_53 ic_1 ?_
    refine g_isub k dX8_keepPast_54 ?_
    refine g_iastore k 1 (ws' := [(a0, oB 8 [.ref a0_row, .int va0_isKept, .ref a0_lanes, .ref a0_sizes, .ref a0_items, .ref a0_tape, .int va0_length, .int va0_at, .int va0_number, .ref a0_readIce, .int va0_readCells, .ref a0_readPeople, .int va0_readMany, .ref a0_readSayings, .int va0_readSaid, .ref a0_line, .ref a0_bestLine, .int va0_bestFar, .int va0_bestIce, .ref a0_seen, .ref a0_held]), (a0_row, aI E 525 (upd o10.2 41 ((o10.2 41) - 1)))]) dX8_keepPast_55 rfl vi_41_525 cl_41 rfl ?_
    refine g_iconst k dX8_keepPast_56 ic_0 ?_
    refine g_istore_n k (lv' := [(1, .int 0), (0, .ref a0)]) dX8_keepPast_57 rfl (by decide) rfl ?_
    obtain ⟨o12, ho13, hf⟩ := bnd_some hf
    refine g_lv [1, 0] (lv' := [(0, .ref a0), (1, .int 0)]) rfl ?_
    refine wX8_keepPast_L58 k N a0 a0_row a0_lanes a0_sizes a0_items a0_tape a0_readIce a0_readPeople a0_readSayings a0_line a0_bestLine a0_seen a0_held   va0_isKept va0_length va0_at va0_number va0_readCells va0_readMany va0_readSaid va0_bestFar va0_bestIce N 0 (upd o10.2 41 ((o10.2 41) - 1)) o12 ho13 ?_
    refine g_aload_n k 0 dX8_keepPast_96 rfl rfl ?_
    refine g_get k cfX8 0 0 dX8_keepPast_97 lkX8_7 (by decide) rfl rfl ?_
    refine g_bipush k dX8_keepPast_100 bi_41 ?_
    refine g_dup2 k dX8_keepPast_102 rfl rfl ?_
    refine g_iaload k 1 dX8_keepPast_103 rfl vi_41_525 cl_41 ?_
    refine g_iconst k dX8_keepPast_104 ic_1 ?_
    refine g_iadd k dX8_keepPast_105 ?_
    refine g_iastore k 1 (ws' := [(a0, oB 8 [.ref a0_row, .int va0_isKept, .ref a0_lanes, .ref a0_sizes, .ref a0_items, .ref a0_tape, .int va0_length, .int va0_at, .int va0_number, .ref a0_readIce, .int va0_readCells, .ref a0_readPeople, .int va0_readMany, .ref a0_readSayings, .int va0_readSaid, .ref a0_line, .ref a0_bestLine, .int va0_bestFar, .int va0_bestIce, .ref a0_seen, .ref a0_held]), (a0_row, aI E 525 (upd o12.2 41 ((o12.2 41) + 1)))]) dX8_keepPast_106 rfl vi_41_525 cl_41 rfl ?_
    obtain rfl := Option.some.inj hf
    exact g_vret k r dX8_keepPast_107 ⟨rfl, rfl⟩
abbrev rmX8_isThrough : Room := { frames := 0, cells := 0, slots := 0, locals := 0 }
def fX8_isThrough (N : Nat) (va0_row : Nat → Int32) (x1 : Int32) : Option (Int32) :=
  ixb (x1 + 0) 525 fun κ1 =>
  if (va0_row κ1) = (va0_row 26) then
  some (1)
  else
  some (0)
set_option maxHeartbeats 4000000 in
set_option maxRecDepth 100000 in
theorem ctX8_isThrough (l : Launch) (E : Ev) (N : Nat) (a0 : Nat) (a0_row : Nat) (a0_lanes : Nat) (a0_sizes : Nat) (a0_items : Nat) (a0_tape : Nat) (a0_readIce : Nat) (a0_readPeople : Nat) (a0_readSayings : Nat) (a0_line : Nat) (a0_bestLine : Nat) (a0_seen : Nat) (a0_held : Nat) (va0_isKept : Int32) (va0_length : Int32) (va0_at : Int32) (va0_number : Int32) (va0_readCells : Int32) (va0_readMany : Int32) (va0_readSaid : Int32) (va0_bestFar : Int32) (va0_bestIce : Int32) (va0_row : Nat → Int32) (x1 : Int32) (out : Int32) (hf : fX8_isThrough N va0_row x1 = some out) : Ct l E yX8_isThrough cX8_isThrough 2 (some .boolean) rmX8_isThrough [.ref a0, .int x1] [(a0, oB 8 [.ref a0_row, .int va0_isKept, .ref a0_lanes, .ref a0_sizes, .ref a0_items, .ref a0_tape, .int va0_length, .int va0_at, .int va0_number, .ref a0_readIce, .int va0_readCells, .ref a0_readPeople, .int va0_readMany, .ref a0_readSayings, .int va0_readSaid, .ref a0_line, .ref a0_bestLine, .int va0_bestFar, .int va0_bestIce, .ref a0_seen, .ref a0_held]), (a0_row, aI E 525 va0_row)] (Pe (some (.int out)) [(a0, oB 8 [.ref a0_row, .int va0_isKept, .ref a0_lanes, .ref a0_sizes, .ref a0_items, .ref a0_tape, .int va0_length, .int va0_at, .int va0_number, .ref a0_readIce, .int va0_readCells, .ref a0_readPeople, .int va0_readMany, .ref a0_readSayings, .int va0_readSaid, .ref a0_line, .ref a0_bestLine, .int va0_bestFar, .int va0_bestIce, .ref a0_seen, .ref a0_held]), (a0_row, aI E 525 va0_row)]) := by
  refine Ct.of rfl (Nat.le_of_ble_eq_true rfl) (fun K hL k r hin => ?_)
  subst hL
  unfold fX8_isThrough at hf
  show G E K 2 0 0 [(0, .ref a0), (1, .int x1)] [] [(a0, oB 8 [.ref a0_row, .int va0_isKept, .ref a0_lanes, .ref a0_sizes, .ref a0_items, .ref a0_tape, .int va0_length, .int va0_at, .int va0_number, .ref a0_readIce, .int va0_readCells, .ref a0_readPeople, .int va0_readMany, .ref a0_readSayings, .int va0_readSaid, .ref a0_line, .ref a0_bestLine, .int va0_bestFar, .int va0_bestIce, .ref a0_seen, .ref a0_held]), (a0_row, aI E 525 va0_row)] 0
  refine g_aload_n k 0 dX8_isThrough_0 rfl rfl ?_
  refine g_get k cfX8 0 0 dX8_isThrough_1 lkX8_7 (by decide) rfl rfl ?_
  refine g_iload_n k 1 dX8_isThrough_4 rfl rfl ?_
  refine g_iconst k dX8_isThrough_5 ic_0 ?_
  refine g_iadd k dX8_isThrough_6 ?_
  obtain ⟨κ1, hκ1, hiκ1, heκ1, hf⟩ := ixb_some hf
  refine g_iaload k 1 dX8_isThrough_7 rfl hiκ1 heκ1 ?_
  refine g_aload_n k 0 dX8_isThrough_8 rfl rfl ?_
  refine g_get k cfX8 0 0 dX8_isThrough_9 lkX8_7 (by decide) rfl rfl ?_
  refine g_bipush k dX8_isThrough_12 bi_26 ?_
  refine g_iaload k 1 dX8_isThrough_14 rfl vi_26_525 cl_26 ?_
  refine g_icmp_ne k (tgt := 22) dX8_isThrough_15 (by decide) (fun c2 => ?_) (fun c2 => ?_)
  · replace hf := ite_f c2 hf
    refine g_iconst k dX8_isThrough_22 ic_0 ?_
    obtain rfl := Option.some.inj hf
    exact g_zret k (rfl) r dX8_isThrough_23 ⟨rfl, rfl⟩
  · replace hf := ite_t c2 hf
    refine g_iconst k dX8_isThrough_18 ic_1 ?_
    refine g_goto k (tgt := 23) dX8_isThrough_19 (by decide) ?_
    obtain rfl := Option.some.inj hf
    exact g_zret k (rfl) r dX8_isThrough_23 ⟨rfl, rfl⟩
abbrev rmX8_iceAhead : Room := { frames := 1, cells := 0, slots := 0, locals := 21 }
def fX8_iceAhead (N : Nat) (va0_row : Nat → Int32) (x1 : Int32) : Option (Int32) :=
  bnd (fX8_isThrough N va0_row x1) fun o1 =>
  if o1 = 0 then
  ixb (x1 + 0) 525 fun κ4 =>
  ixb ((x1 + 3) + (va0_row κ4)) 525 fun κ5 =>
  some ((va0_row κ5))
  else
  some (0)
set_option maxHeartbeats 4000000 in
set_option maxRecDepth 100000 in
theorem ctX8_iceAhead (l : Launch) (E : Ev) (N : Nat) (a0 : Nat) (a0_row : Nat) (a0_lanes : Nat) (a0_sizes : Nat) (a0_items : Nat) (a0_tape : Nat) (a0_readIce : Nat) (a0_readPeople : Nat) (a0_readSayings : Nat) (a0_line : Nat) (a0_bestLine : Nat) (a0_seen : Nat) (a0_held : Nat) (va0_isKept : Int32) (va0_length : Int32) (va0_at : Int32) (va0_number : Int32) (va0_readCells : Int32) (va0_readMany : Int32) (va0_readSaid : Int32) (va0_bestFar : Int32) (va0_bestIce : Int32) (va0_row : Nat → Int32) (x1 : Int32) (out : Int32) (hf : fX8_iceAhead N va0_row x1 = some out) : Ct l E yX8_iceAhead cX8_iceAhead 2 (some .int) rmX8_iceAhead [.ref a0, .int x1] [(a0, oB 8 [.ref a0_row, .int va0_isKept, .ref a0_lanes, .ref a0_sizes, .ref a0_items, .ref a0_tape, .int va0_length, .int va0_at, .int va0_number, .ref a0_readIce, .int va0_readCells, .ref a0_readPeople, .int va0_readMany, .ref a0_readSayings, .int va0_readSaid, .ref a0_line, .ref a0_bestLine, .int va0_bestFar, .int va0_bestIce, .ref a0_seen, .ref a0_held]), (a0_row, aI E 525 va0_row)] (Pe (some (.int out)) [(a0, oB 8 [.ref a0_row, .int va0_isKept, .ref a0_lanes, .ref a0_sizes, .ref a0_items, .ref a0_tape, .int va0_length, .int va0_at, .int va0_number, .ref a0_readIce, .int va0_readCells, .ref a0_readPeople, .int va0_readMany, .ref a0_readSayings, .int va0_readSaid, .ref a0_line, .ref a0_bestLine, .int va0_bestFar, .int va0_bestIce, .ref a0_seen, .ref a0_held]), (a0_row, aI E 525 va0_row)]) := by
  refine Ct.of rfl (Nat.le_of_ble_eq_true rfl) (fun K hL k r hin => ?_)
  subst hL
  unfold fX8_iceAhead at hf
  show G E K 2 0 0 [(0, .ref a0), (1, .int x1)] [] [(a0, oB 8 [.ref a0_row, .int va0_isKept, .ref a0_lanes, .ref a0_sizes, .ref a0_items, .ref a0_tape, .int va0_length, .int va0_at, .int va0_number, .ref a0_readIce, .int va0_readCells, .ref a0_readPeople, .int va0_readMany, .ref a0_readSayings, .int va0_readSaid, .ref a0_line, .ref a0_bestLine, .int va0_bestFar, .int va0_bestIce, .ref a0_seen, .ref a0_held]), (a0_row, aI E 525 va0_row)] 0
  refine g_aload_n k 0 dX8_iceAhead_0 rfl rfl ?_
  refine g_iload_n k 1 dX8_iceAhead_1 rfl rfl ?_
  obtain ⟨o1, ho2, hf⟩ := bnd_some hf
  refine g_cv k miX8_isThrough mvX8_isThrough (ctX8_isThrough (kL K) E N a0 a0_row a0_lanes a0_sizes a0_items a0_tape a0_readIce a0_readPeople a0_readSayings a0_line a0_bestLine a0_seen a0_held va0_isKept va0_length va0_at va0_number va0_readCells va0_readMany va0_readSaid va0_bestFar va0_bestIce va0_row x1 o1 ho2) [0, 1] 0 (ws' := [(a0, oB 8 [.ref a0_row, .int va0_isKept, .ref a0_lanes, .ref a0_sizes, .ref a0_items, .ref a0_tape, .int va0_length, .int va0_at, .int va0_number, .ref a0_readIce, .int va0_readCells, .ref a0_readPeople, .int va0_readMany, .ref a0_readSayings, .int va0_readSaid, .ref a0_line, .ref a0_bestLine, .int va0_bestFar, .int va0_bestIce, .ref a0_seen, .ref a0_held]), (a0_row, aI E 525 va0_row)]) dX8_iceAhead_2 lkX8_166 rfl ⟨rfl, rfl⟩ ⟨by decide, by decide⟩ rfl rfl rfl rfl (Nat.le_of_ble_eq_true rfl) rfl rfl rfl ?_
  refine g_st (st' := [.int o1]) rfl ?_
  refine g_if_eq k (tgt := 12) dX8_iceAhead_5 (by decide) (fun c3 => ?_) (fun c3 => ?_)
  · replace hf := ite_t c3 hf
    refine g_aload_n k 0 dX8_iceAhead_12 rfl rfl ?_
    refine g_get k cfX8 0 0 dX8_iceAhead_13 lkX8_7 (by decide) rfl rfl ?_
    refine g_iload_n k 1 dX8_iceAhead_16 rfl rfl ?_
    refine g_iconst k dX8_iceAhead_17 ic_3 ?_
    refine g_iadd k dX8_iceAhead_18 ?_
    refine g_aload_n k 0 dX8_iceAhead_19 rfl rfl ?_
    refine g_get k cfX8 0 0 dX8_iceAhead_20 lkX8_7 (by decide) rfl rfl ?_
    refine g_iload_n k 1 dX8_iceAhead_23 rfl rfl ?_
    refine g_iconst k dX8_iceAhead_24 ic_0 ?_
    refine g_iadd k dX8_iceAhead_25 ?_
    obtain ⟨κ4, hκ4, hiκ4, heκ4, hf⟩ := ixb_some hf
    refine g_iaload k 1 dX8_iceAhead_26 rfl hiκ4 heκ4 ?_
    refine g_iadd k dX8_iceAhead_27 ?_
    obtain ⟨κ5, hκ5, hiκ5, heκ5, hf⟩ := ixb_some hf
    refine g_iaload k 1 dX8_iceAhead_28 rfl hiκ5 heκ5 ?_
    obtain rfl := Option.some.inj hf
    exact g_iret k r dX8_iceAhead_29 ⟨rfl, rfl⟩
  · replace hf := ite_f c3 hf
    refine g_iconst k dX8_iceAhead_8 ic_0 ?_
    refine g_goto k (tgt := 29) dX8_iceAhead_9 (by decide) ?_
    obtain rfl := Option.some.inj hf
    exact g_iret k r dX8_iceAhead_29 ⟨rfl, rfl⟩
abbrev rmX8_pass : Room := { frames := 5, cells := 0, slots := 0, locals := 122 }
def fX8_pass_L113 (N : Nat) (x1 : Int32) (x2 : Int32) (x3 : Int32) : Nat → Int32 → (Nat → Int32) → Option (Int32 × (Nat → Int32))
  | 0, _, _ => none
  | n + 1, x4, va0_row =>
    if (va0_row 28) ≤ x4 then
    some (x4, va0_row)
    else
    ixb ((x1 + 15) + x4) 525 fun κ8 =>
    if x4 = x2 then
    bnd (fX8_least N ((va0_row κ8) - 2)) fun o15 =>
    ixb ((x1 + 15) + x4) 525 fun κ17 =>
    fX8_pass_L113 N x1 x2 x3 n (x4 + 1) (upd va0_row κ17 o15)
    else
    if (va0_row κ8) = 0 then
    ixb ((x1 + 15) + x4) 525 fun κ14 =>
    fX8_pass_L113 N x1 x2 x3 n (x4 + 1) (upd va0_row κ14 0)
    else
    bnd (fX8_most N ((va0_row κ8) + 1) 20) fun o11 =>
    ixb ((x1 + 15) + x4) 525 fun κ13 =>
    fX8_pass_L113 N x1 x2 x3 n (x4 + 1) (upd va0_row κ13 o11)
set_option maxHeartbeats 4000000 in
set_option maxRecDepth 100000 in
theorem wX8_pass_L113 {E : Ev} {K : KX} (k : OKX E K cX8_pass RX8 6 rmX8_pass) (N : Nat) (a0 : Nat) (a0_row : Nat) (a0_lanes : Nat) (a0_sizes : Nat) (a0_items : Nat) (a0_tape : Nat) (a0_readIce : Nat) (a0_readPeople : Nat) (a0_readSayings : Nat) (a0_line : Nat) (a0_bestLine : Nat) (a0_seen : Nat) (a0_held : Nat) (x1 : Int32) (x2 : Int32) (x3 : Int32) (va0_isKept : Int32) (va0_length : Int32) (va0_at : Int32) (va0_number : Int32) (va0_readCells : Int32) (va0_readMany : Int32) (va0_readSaid : Int32) (va0_bestFar : Int32) (va0_bestIce : Int32) : ∀ (n : Nat) (x4 : Int32) (va0_row : Nat → Int32) (o : Int32 × (Nat → Int32)), fX8_pass_L113 N x1 x2 x3 n x4 va0_row = some o → G E K 6 0 0 [(0, .ref a0), (1, .int x1), (2, .int x2), (3, .int x3), (4, .int o.1)] [] [(a0, oB 8 [.ref a0_row, .int va0_isKept, .ref a0_lanes, .ref a0_sizes, .ref a0_items, .ref a0_tape, .int va0_length, .int va0_at, .int va0_number, .ref a0_readIce, .int va0_readCells, .ref a0_readPeople, .int va0_readMany, .ref a0_readSayings, .int va0_readSaid, .ref a0_line, .ref a0_bestLine, .int va0_bestFar, .int va0_bestIce, .ref a0_seen, .ref a0_held]), (a0_row, aI E 525 o.2)] 191 → G E K 6 0 0 [(0, .ref a0), (1, .int x1), (2, .int x2), (3, .int x3), (4, .int x4)] [] [(a0, oB 8 [.ref a0_row, .int va0_isKept, .ref a0_lanes, .ref a0_sizes, .ref a0_items, .ref a0_tape, .int va0_length, .int va0_at, .int va0_number, .ref a0_readIce, .int va0_readCells, .ref a0_readPeople, .int va0_readMany, .ref a0_readSayings, .int va0_readSaid, .ref a0_line, .ref a0_bestLine, .int va0_bestFar, .int va0_bestIce, .ref a0_seen, .ref a0_held]), (a0_row, aI E 525 va0_row)] 113 := by
  intro n
  induction n with
  | zero => intro x4 va0_row o hf; cases hf
  | succ n ih =>
    intro x4 va0_row o hf hG
    rw [fX8_pass_L113] at hf
    refine g_iload k 4 dX8_pass_113 rfl ?_
    refine g_aload_n k 0 dX8_pass_115 rfl rfl ?_
    refine g_get k cfX8 0 0 dX8_pass_116 lkX8_7 (by decide) rfl rfl ?_
    refine g_bipush k dX8_pass_119 bi_28 ?_
    refine g_iaload k 1 dX8_pass_121 rfl vi_28_525 cl_28 ?_
    refine g_icmp_ge k (tgt := 191) dX8_pass_122 (by decide) (fun c7 => ?_) (fun c7 => ?_)
    · replace hf := ite_t c7 hf
      refine g_lv [0, 1, 2, 3, 4] rfl ?_
      obtain rfl := Option.some.inj hf
      exact hG
    · replace hf := ite_f c7 hf
      refine g_aload_n k 0 dX8_pass_125 rfl rfl ?_
      refine g_get k cfX8 0 0 dX8_pass_126 lkX8_7 (by decide) rfl rfl ?_
      refine g_iload_n k 1 dX8_pass_129 rfl rfl ?_
      refine g_bipush k dX8_pass_130 bi_15 ?_
      refine g_iadd k dX8_pass_132 ?_
      refine g_iload k 4 dX8_pass_133 rfl ?_
      refine g_iadd k dX8_pass_135 ?_
      obtain ⟨κ8, hκ8, hiκ8, heκ8, hf⟩ := ixb_some hf
      refine g_iaload k 1 dX8_pass_136 rfl hiκ8 heκ8 ?_
      refine g_istore k (lv' := [(5, .int (va0_row κ8)), (0, .ref a0), (1, .int x1), (2, .int x2), (3, .int x3), (4, .int x4)]) dX8_pass_137 (by decide) rfl ?_
      refine g_aload_n k 1 dX8_pass_139 rfl rfl ?_
      refine g_get k cfX8 0 0 dX8_pass_140 lkX8_7 (by decide) rfl rfl ?_
      refine g_iload_n k 2 dX8_pass_143 rfl rfl ?_
      refine g_bipush k dX8_pass_144 bi_15 ?_
      refine g_iadd k dX8_pass_146 ?_
      refine g_iload k 5 dX8_pass_147 rfl ?_
      refine g_iadd k dX8_pass_149 ?_
      refine g_iload k 5 dX8_pass_150 rfl ?_
      refine g_iload_n k 3 dX8_pass_152 rfl rfl ?_
      refine g_icmp_ne k (tgt := 166) dX8_pass_153 (by decide) (fun c9 => ?_) (fun c9 => ?_)
      · replace hf := ite_f c9 hf
        refine g_iload k 0 dX8_pass_166 rfl ?_
        refine g_if_ne k (tgt := 175) dX8_pass_168 (by decide) (fun c10 => ?_) (fun c10 => ?_)
        · replace hf := ite_f c10 hf
          refine g_iload k 0 dX8_pass_175 rfl ?_
          refine g_iconst k dX8_pass_177 ic_1 ?_
          refine g_iadd k dX8_pass_178 ?_
          refine g_bipush k dX8_pass_179 bi_20 ?_
          obtain ⟨o11, ho12, hf⟩ := bnd_some hf
          refine g_cs k miX8_most msX8_most (ctX8_most (kL K) E N   ((va0_row κ8) + 1) 20 o11 ho12) [] (ws' := [(a0, oB 8 [.ref a0_row, .int va0_isKept, .ref a0_lanes, .ref a0_sizes, .ref a0_items, .ref a0_tape, .int va0_length, .int va0_at, .int va0_number, .ref a0_readIce, .int va0_readCells, .ref a0_readPeople, .int va0_readMany, .ref a0_readSayings, .int va0_readSaid, .ref a0_line, .ref a0_bestLine, .int va0_bestFar, .int va0_bestIce, .ref a0_seen, .ref a0_held]), (a0_row, aI E 525 va0_row)]) dX8_pass_181 lkX8_176 rfl ⟨rfl, rfl⟩ ⟨by decide, by decide⟩ rfl rfl rfl (Nat.le_of_ble_eq_true rfl) rfl rfl rfl ?_
          refine g_st (st' := [.int o11, .int ((x1 + 15) + x4), .ref a0_row]) rfl ?_
          obtain ⟨κ13, hκ13, hiκ13, heκ13, hf⟩ := ixb_some hf
          refine g_iastore k 1 (ws' := [(a0, oB 8 [.ref a0_row, .int va0_isKept, .ref a0_lanes, .ref a0_sizes, .ref a0_items, .ref a0_tape, .int va0_length, .int va0_at, .int va0_number, .ref a0_readIce, .int va0_readCells, .ref a0_readPeople, .int va0_readMany, .ref a0_readSayings, .int va0_readSaid, .ref a0_line, .ref a0_bestLine, .int va0_bestFar, .int va0_bestIce, .ref a0_seen, .ref a0_held]), (a0_row, aI E 525 (upd va0_row κ13 o11))]) dX8_pass_184 rfl hiκ13 heκ13 rfl ?_
          refine g_iinc k (lv' := [(4, .int (x4 + 1)), (5, .int (va0_row κ8)), (0, .ref a0), (1, .int x1), (2, .int x2), (3, .int x3)]) 5 dX8_pass_185 rfl (ii_1 _) (by decide) rfl ?_
          refine g_goto k (tgt := 113) dX8_pass_188 (by decide) ?_
          refine g_lv [2, 3, 4, 5, 0] rfl ?_
          exact ih (x4 + 1) (upd va0_row κ13 o11) o hf hG
        · replace hf := ite_t c10 hf
          refine g_iconst k dX8_pass_171 ic_0 ?_
          refine g_goto k (tgt := 184) dX8_pass_172 (by decide) ?_
          obtain ⟨κ14, hκ14, hiκ14, heκ14, hf⟩ := ixb_some hf
          refine g_iastore k 1 (ws' := [(a0, oB 8 [.ref a0_row, .int va0_isKept, .ref a0_lanes, .ref a0_sizes, .ref a0_items, .ref a0_tape, .int va0_length, .int va0_at, .int va0_number, .ref a0_readIce, .int va0_readCells, .ref a0_readPeople, .int va0_readMany, .ref a0_readSayings, .int va0_readSaid, .ref a0_line, .ref a0_bestLine, .int va0_bestFar, .int va0_bestIce, .ref a0_seen, .ref a0_held]), (a0_row, aI E 525 (upd va0_row κ14 0))]) dX8_pass_184 rfl hiκ14 heκ14 rfl ?_
          refine g_iinc k (lv' := [(4, .int (x4 + 1)), (5, .int (va0_row κ8)), (0, .ref a0), (1, .int x1), (2, .int x2), (3, .int x3)]) 5 dX8_pass_185 rfl (ii_1 _) (by decide) rfl ?_
          refine g_goto k (tgt := 113) dX8_pass_188 (by decide) ?_
          refine g_lv [2, 3, 4, 5, 0] rfl ?_
          exact ih (x4 + 1) (upd va0_row κ14 0) o hf hG
      · replace hf := ite_t c9 hf
        refine g_iload k 0 dX8_pass_156 rfl ?_
        refine g_iconst k dX8_pass_158 ic_2 ?_
        refine g_isub k dX8_pass_159 ?_
        obtain ⟨o15, ho16, hf⟩ := bnd_some hf
        refine g_cs k miX8_least msX8_least (ctX8_least (kL K) E N   ((va0_row κ8) - 2) o15 ho16) [] (ws' := [(a0, oB 8 [.ref a0_row, .int va0_isKept, .ref a0_lanes, .ref a0_sizes, .ref a0_items, .ref a0_tape, .int va0_length, .int va0_at, .int va0_number, .ref a0_readIce, .int va0_readCells, .ref a0_readPeople, .int va0_readMany, .ref a0_readSayings, .int va0_readSaid, .ref a0_line, .ref a0_bestLine, .int va0_bestFar, .int va0_bestIce, .ref a0_seen, .ref a0_held]), (a0_row, aI E 525 va0_row)]) dX8_pass_160 lkX8_173 rfl ⟨rfl, rfl⟩ ⟨by decide, by decide⟩ rfl rfl rfl (Nat.le_of_ble_eq_true rfl) rfl rfl rfl ?_
        refine g_st (st' := [.int o15, .int ((x1 + 15) + x4), .ref a0_row]) rfl ?_
        refine g_goto k (tgt := 184) dX8_pass_163 (by decide) ?_
        obtain ⟨κ17, hκ17, hiκ17, heκ17, hf⟩ := ixb_some hf
        refine g_iastore k 1 (ws' := [(a0, oB 8 [.ref a0_row, .int va0_isKept, .ref a0_lanes, .ref a0_sizes, .ref a0_items, .ref a0_tape, .int va0_length, .int va0_at, .int va0_number, .ref a0_readIce, .int va0_readCells, .ref a0_readPeople, .int va0_readMany, .ref a0_readSayings, .int va0_readSaid, .ref a0_line, .ref a0_bestLine, .int va0_bestFar, .int va0_bestIce, .ref a0_seen, .ref a0_held]), (a0_row, aI E 525 (upd va0_row κ17 o15))]) dX8_pass_184 rfl hiκ17 heκ17 rfl ?_
        refine g_iinc k (lv' := [(4, .int (x4 + 1)), (5, .int (va0_row κ8)), (0, .ref a0), (1, .int x1), (2, .int x2), (3, .int x3)]) 5 dX8_pass_185 rfl (ii_1 _) (by decide) rfl ?_
        refine g_goto k (tgt := 113) dX8_pass_188 (by decide) ?_
        refine g_lv [2, 3, 4, 5, 0] rfl ?_
        exact ih (x4 + 1) (upd va0_row κ17 o15) o hf hG
def fX8_pass (N : Nat) (va0_row : Nat → Int32) (x1 : Int32) (x2 : Int32) : Option ((Nat → Int32)) :=
  if x2 = (-4) then
  bnd (fX8_isThrough N va0_row x1) fun o43 =>
  if o43 = 0 then
  ixb (x1 + 0) 525 fun κ50 =>
  ixb ((x1 + 3) + (va0_row κ50)) 525 fun κ51 =>
  bnd (fX8_least N ((va0_row κ51) - 0)) fun o52 =>
  ixb ((x1 + 3) + (va0_row κ50)) 525 fun κ54 =>
  ixb ((x1 + 3) + (va0_row κ50)) 525 fun κ55 =>
  if ((upd va0_row κ54 o52) κ55) = 0 then
  ixb (x1 + 0) 525 fun κ65 =>
  ixb (x1 + 0) 525 fun κ66 =>
  bnd (fX8_pass_L113 N x1 x2 0 N 0 (upd (upd va0_row κ54 o52) κ66 (((upd va0_row κ54 o52) κ65) + 1))) fun o67 =>
  ixb (x1 + 1) 525 fun κ69 =>
  ixb (x1 + 1) 525 fun κ70 =>
  some ((upd o67.2 κ70 ((o67.2 κ69) + 1)))
  else
  ixb ((x1 + 3) + (va0_row κ50)) 525 fun κ57 =>
  bnd (fX8_most N (((upd va0_row κ54 o52) κ57) + ((upd va0_row κ54 o52) 25)) 60) fun o58 =>
  ixb ((x1 + 3) + (va0_row κ50)) 525 fun κ60 =>
  bnd (fX8_pass_L113 N x1 x2 0 N 0 (upd (upd va0_row κ54 o52) κ60 o58)) fun o61 =>
  ixb (x1 + 1) 525 fun κ63 =>
  ixb (x1 + 1) 525 fun κ64 =>
  some ((upd o61.2 κ64 ((o61.2 κ63) + 1)))
  else
  bnd (fX8_pass_L113 N x1 x2 0 N 0 va0_row) fun o46 =>
  ixb (x1 + 1) 525 fun κ48 =>
  ixb (x1 + 1) 525 fun κ49 =>
  some ((upd o46.2 κ49 ((o46.2 κ48) + 1)))
  else
  bnd (fX8_rockOf N va0_row x1 x2) fun o2 =>
  bnd (fX8_isThrough N va0_row x1) fun o4 =>
  if o4 = 0 then
  ixb (x1 + 0) 525 fun κ22 =>
  ixb ((x1 + 3) + (va0_row κ22)) 525 fun κ23 =>
  bnd (fX8_least N ((va0_row κ23) - o2)) fun o24 =>
  ixb ((x1 + 3) + (va0_row κ22)) 525 fun κ26 =>
  ixb ((x1 + 3) + (va0_row κ22)) 525 fun κ27 =>
  if ((upd va0_row κ26 o24) κ27) = 0 then
  ixb (x1 + 0) 525 fun κ37 =>
  ixb (x1 + 0) 525 fun κ38 =>
  bnd (fX8_pass_L113 N x1 x2 o2 N 0 (upd (upd va0_row κ26 o24) κ38 (((upd va0_row κ26 o24) κ37) + 1))) fun o39 =>
  ixb (x1 + 1) 525 fun κ41 =>
  ixb (x1 + 1) 525 fun κ42 =>
  some ((upd o39.2 κ42 ((o39.2 κ41) + 1)))
  else
  ixb ((x1 + 3) + (va0_row κ22)) 525 fun κ29 =>
  bnd (fX8_most N (((upd va0_row κ26 o24) κ29) + ((upd va0_row κ26 o24) 25)) 60) fun o30 =>
  ixb ((x1 + 3) + (va0_row κ22)) 525 fun κ32 =>
  bnd (fX8_pass_L113 N x1 x2 o2 N 0 (upd (upd va0_row κ26 o24) κ32 o30)) fun o33 =>
  ixb (x1 + 1) 525 fun κ35 =>
  ixb (x1 + 1) 525 fun κ36 =>
  some ((upd o33.2 κ36 ((o33.2 κ35) + 1)))
  else
  bnd (fX8_pass_L113 N x1 x2 o2 N 0 va0_row) fun o18 =>
  ixb (x1 + 1) 525 fun κ20 =>
  ixb (x1 + 1) 525 fun κ21 =>
  some ((upd o18.2 κ21 ((o18.2 κ20) + 1)))
set_option maxHeartbeats 4000000 in
set_option maxRecDepth 100000 in
theorem ctX8_pass (l : Launch) (E : Ev) (N : Nat) (a0 : Nat) (a0_row : Nat) (a0_lanes : Nat) (a0_sizes : Nat) (a0_items : Nat) (a0_tape : Nat) (a0_readIce : Nat) (a0_readPeople : Nat) (a0_readSayings : Nat) (a0_line : Nat) (a0_bestLine : Nat) (a0_seen : Nat) (a0_held : Nat) (va0_isKept : Int32) (va0_length : Int32) (va0_at : Int32) (va0_number : Int32) (va0_readCells : Int32) (va0_readMany : Int32) (va0_readSaid : Int32) (va0_bestFar : Int32) (va0_bestIce : Int32) (va0_row : Nat → Int32) (x1 : Int32) (x2 : Int32) (out : (Nat → Int32)) (hf : fX8_pass N va0_row x1 x2 = some out) : Ct l E yX8_pass cX8_pass 6 none rmX8_pass [.ref a0, .int x1, .int x2] [(a0, oB 8 [.ref a0_row, .int va0_isKept, .ref a0_lanes, .ref a0_sizes, .ref a0_items, .ref a0_tape, .int va0_length, .int va0_at, .int va0_number, .ref a0_readIce, .int va0_readCells, .ref a0_readPeople, .int va0_readMany, .ref a0_readSayings, .int va0_readSaid, .ref a0_line, .ref a0_bestLine, .int va0_bestFar, .int va0_bestIce, .ref a0_seen, .ref a0_held]), (a0_row, aI E 525 va0_row)] (Pe none [(a0, oB 8 [.ref a0_row, .int va0_isKept, .ref a0_lanes, .ref a0_sizes, .ref a0_items, .ref a0_tape, .int va0_length, .int va0_at, .int va0_number, .ref a0_readIce, .int va0_readCells, .ref a0_readPeople, .int va0_readMany, .ref a0_readSayings, .int va0_readSaid, .ref a0_line, .ref a0_bestLine, .int va0_bestFar, .int va0_bestIce, .ref a0_seen, .ref a0_held]), (a0_row, aI E 525 out)]) := by
  refine Ct.of rfl (Nat.le_of_ble_eq_true rfl) (fun K hL k r hin => ?_)
  subst hL
  unfold fX8_pass at hf
  show G E K 6 0 0 [(0, .ref a0), (1, .int x1), (2, .int x2)] [] [(a0, oB 8 [.ref a0_row, .int va0_isKept, .ref a0_lanes, .ref a0_sizes, .ref a0_items, .ref a0_tape, .int va0_length, .int va0_at, .int va0_number, .ref a0_readIce, .int va0_readCells, .ref a0_readPeople, .int va0_readMany, .ref a0_readSayings, .int va0_readSaid, .ref a0_line, .ref a0_bestLine, .int va0_bestFar, .int va0_bestIce, .ref a0_seen, .ref a0_held]), (a0_row, aI E 525 va0_row)] 0
  refine g_iload_n k 2 dX8_pass_0 rfl rfl ?_
  refine g_bipush k dX8_pass_1 bi_m4 ?_
  refine g_icmp_ne k (tgt := 10) dX8_pass_3 (by decide) (fun c1 => ?_) (fun c1 => ?_)
  · replace hf := ite_f c1 hf
    refine g_aload_n k 0 dX8_pass_10 rfl rfl ?_
    refine g_iload_n k 1 dX8_pass_11 rfl rfl ?_
    refine g_iload_n k 2 dX8_pass_12 rfl rfl ?_
    obtain ⟨o2, ho3, hf⟩ := bnd_some hf
    refine g_cv k miX8_rockOf mvX8_rockOf (ctX8_rockOf (kL K) E N a0 a0_row a0_lanes a0_sizes a0_items a0_tape a0_readIce a0_readPeople a0_readSayings a0_line a0_bestLine a0_seen a0_held va0_isKept va0_length va0_at va0_number va0_readCells va0_readMany va0_readSaid va0_bestFar va0_bestIce va0_row x1 x2 o2 ho3) [0, 1] 0 (ws' := [(a0, oB 8 [.ref a0_row, .int va0_isKept, .ref a0_lanes, .ref a0_sizes, .ref a0_items, .ref a0_tape, .int va0_length, .int va0_at, .int va0_number, .ref a0_readIce, .int va0_readCells, .ref a0_readPeople, .int va0_readMany, .ref a0_readSayings, .int va0_readSaid, .ref a0_line, .ref a0_bestLine, .int va0_bestFar, .int va0_bestIce, .ref a0_seen, .ref a0_held]), (a0_row, aI E 525 va0_row)]) dX8_pass_13 lkX8_169 rfl ⟨rfl, rfl⟩ ⟨by decide, by decide⟩ rfl rfl rfl rfl (Nat.le_of_ble_eq_true rfl) rfl rfl rfl ?_
    refine g_st (st' := [.int o2]) rfl ?_
    refine g_istore_n k (lv' := [(3, .int o2), (0, .ref a0), (1, .int x1), (2, .int x2)]) dX8_pass_16 rfl (by decide) rfl ?_
    refine g_aload_n k 1 dX8_pass_17 rfl rfl ?_
    refine g_iload_n k 2 dX8_pass_18 rfl rfl ?_
    obtain ⟨o4, ho5, hf⟩ := bnd_some hf
    refine g_cv k miX8_isThrough mvX8_isThrough (ctX8_isThrough (kL K) E N a0 a0_row a0_lanes a0_sizes a0_items a0_tape a0_readIce a0_readPeople a0_readSayings a0_line a0_bestLine a0_seen a0_held va0_isKept va0_length va0_at va0_number va0_readCells va0_readMany va0_readSaid va0_bestFar va0_bestIce va0_row x1 o4 ho5) [0, 1] 0 (ws' := [(a0, oB 8 [.ref a0_row, .int va0_isKept, .ref a0_lanes, .ref a0_sizes, .ref a0_items, .ref a0_tape, .int va0_length, .int va0_at, .int va0_number, .ref a0_readIce, .int va0_readCells, .ref a0_readPeople, .int va0_readMany, .ref a0_readSayings, .int va0_readSaid, .ref a0_line, .ref a0_bestLine, .int va0_bestFar, .int va0_bestIce, .ref a0_seen, .ref a0_held]), (a0_row, aI E 525 va0_row)]) dX8_pass_19 lkX8_166 rfl ⟨rfl, rfl⟩ ⟨by decide, by decide⟩ rfl rfl rfl rfl (Nat.le_of_ble_eq_true rfl) rfl rfl rfl ?_
    refine g_st (st' := [.int o4]) rfl ?_
    refine g_if_ne k (tgt := 110) dX8_pass_22 (by decide) (fun c6 => ?_) (fun c6 => ?_)
    · replace hf := ite_f c6 hf
      refine g_iconst k dX8_pass_110 ic_0 ?_
      refine g_istore k (lv' := [(4, .int 0), (3, .int o2), (0, .ref a0), (1, .int x1), (2, .int x2)]) dX8_pass_111 (by decide) rfl ?_
      obtain ⟨o18, ho19, hf⟩ := bnd_some hf
      refine g_lv [2, 3, 4, 1, 0] (lv' := [(0, .ref a0), (1, .int x1), (2, .int x2), (3, .int o2), (4, .int 0)]) rfl ?_
      refine wX8_pass_L113 k N a0 a0_row a0_lanes a0_sizes a0_items a0_tape a0_readIce a0_readPeople a0_readSayings a0_line a0_bestLine a0_seen a0_held  x1 x2 o2 va0_isKept va0_length va0_at va0_number va0_readCells va0_readMany va0_readSaid va0_bestFar va0_bestIce N 0 va0_row o18 ho19 ?_
      refine g_aload_n k 0 dX8_pass_191 rfl rfl ?_
      refine g_get k cfX8 0 0 dX8_pass_192 lkX8_7 (by decide) rfl rfl ?_
      refine g_iload_n k 1 dX8_pass_195 rfl rfl ?_
      refine g_iconst k dX8_pass_196 ic_1 ?_
      refine g_iadd k dX8_pass_197 ?_
      refine g_dup2 k dX8_pass_198 rfl rfl ?_
      obtain ⟨κ20, hκ20, hiκ20, heκ20, hf⟩ := ixb_some hf
      refine g_iaload k 1 dX8_pass_199 rfl hiκ20 heκ20 ?_
      refine g_iconst k dX8_pass_200 ic_1 ?_
      refine g_iadd k dX8_pass_201 ?_
      obtain ⟨κ21, hκ21, hiκ21, heκ21, hf⟩ := ixb_some hf
      refine g_iastore k 1 (ws' := [(a0, oB 8 [.ref a0_row, .int va0_isKept, .ref a0_lanes, .ref a0_sizes, .ref a0_items, .ref a0_tape, .int va0_length, .int va0_at, .int va0_number, .ref a0_readIce, .int va0_readCells, .ref a0_readPeople, .int va0_readMany, .ref a0_readSayings, .int va0_readSaid, .ref a0_line, .ref a0_bestLine, .int va0_bestFar, .int va0_bestIce, .ref a0_seen, .ref a0_held]), (a0_row, aI E 525 (upd o18.2 κ21 ((o18.2 κ20) + 1)))]) dX8_pass_202 rfl hiκ21 heκ21 rfl ?_
      obtain rfl := Option.some.inj hf
      exact g_vret k r dX8_pass_203 ⟨rfl, rfl⟩
    · replace hf := ite_t c6 hf
      refine g_iload_n k 2 dX8_pass_25 rfl rfl ?_
      refine g_iconst k dX8_pass_26 ic_3 ?_
      refine g_iadd k dX8_pass_27 ?_
      refine g_aload_n k 1 dX8_pass_28 rfl rfl ?_
      refine g_get k cfX8 0 0 dX8_pass_29 lkX8_7 (by decide) rfl rfl ?_
      refine g_iload_n k 2 dX8_pass_32 rfl rfl ?_
      refine g_iconst k dX8_pass_33 ic_0 ?_
      refine g_iadd k dX8_pass_34 ?_
      obtain ⟨κ22, hκ22, hiκ22, heκ22, hf⟩ := ixb_some hf
      refine g_iaload k 1 dX8_pass_35 rfl hiκ22 heκ22 ?_
      refine g_iadd k dX8_pass_36 ?_
      refine g_istore k (lv' := [(4, .int ((x1 + 3) + (va0_row κ22))), (3, .int o2), (0, .ref a0), (1, .int x1), (2, .int x2)]) dX8_pass_37 (by decide) rfl ?_
      refine g_aload_n k 2 dX8_pass_39 rfl rfl ?_
      refine g_get k cfX8 0 0 dX8_pass_40 lkX8_7 (by decide) rfl rfl ?_
      refine g_iload k 0 dX8_pass_43 rfl ?_
      refine g_aload_n k 2 dX8_pass_45 rfl rfl ?_
      refine g_get k cfX8 0 0 dX8_pass_46 lkX8_7 (by decide) rfl rfl ?_
      refine g_iload k 0 dX8_pass_49 rfl ?_
      obtain ⟨κ23, hκ23, hiκ23, heκ23, hf⟩ := ixb_some hf
      refine g_iaload k 1 dX8_pass_51 rfl hiκ23 heκ23 ?_
      refine g_iload_n k 1 dX8_pass_52 rfl rfl ?_
      refine g_isub k dX8_pass_53 ?_
      obtain ⟨o24, ho25, hf⟩ := bnd_some hf
      refine g_cs k miX8_least msX8_least (ctX8_least (kL K) E N   ((va0_row κ23) - o2) o24 ho25) [] (ws' := [(a0, oB 8 [.ref a0_row, .int va0_isKept, .ref a0_lanes, .ref a0_sizes, .ref a0_items, .ref a0_tape, .int va0_length, .int va0_at, .int va0_number, .ref a0_readIce, .int va0_readCells, .ref a0_readPeople, .int va0_readMany, .ref a0_readSayings, .int va0_readSaid, .ref a0_line, .ref a0_bestLine, .int va0_bestFar, .int va0_bestIce, .ref a0_seen, .ref a0_held]), (a0_row, aI E 525 va0_row)]) dX8_pass_54 lkX8_173 rfl ⟨rfl, rfl⟩ ⟨by decide, by decide⟩ rfl rfl rfl (Nat.le_of_ble_eq_true rfl) rfl rfl rfl ?_
      refine g_st (st' := [.int o24, .int ((x1 + 3) + (va0_row κ22)), .ref a0_row]) rfl ?_
      obtain ⟨κ26, hκ26, hiκ26, heκ26, hf⟩ := ixb_some hf
      refine g_iastore k 1 (ws' := [(a0, oB 8 [.ref a0_row, .int va0_isKept, .ref a0_lanes, .ref a0_sizes, .ref a0_items, .ref a0_tape, .int va0_length, .int va0_at, .int va0_number, .ref a0_readIce, .int va0_readCells, .ref a0_readPeople, .int va0_readMany, .ref a0_readSayings, .int va0_readSaid, .ref a0_line, .ref a0_bestLine, .int va0_bestFar, .int va0_bestIce, .ref a0_seen, .ref a0_held]), (a0_row, aI E 525 (upd va0_row κ26 o24))]) dX8_pass_57 rfl hiκ26 heκ26 rfl ?_
      refine g_aload_n k 2 dX8_pass_58 rfl rfl ?_
      refine g_get k cfX8 0 0 dX8_pass_59 lkX8_7 (by decide) rfl rfl ?_
      refine g_iload k 0 dX8_pass_62 rfl ?_
      obtain ⟨κ27, hκ27, hiκ27, heκ27, hf⟩ := ixb_some hf
      refine g_iaload k 1 dX8_pass_64 rfl hiκ27 heκ27 ?_
      refine g_if_ne k (tgt := 83) dX8_pass_65 (by decide) (fun c28 => ?_) (fun c28 => ?_)
      · replace hf := ite_f c28 hf
        refine g_aload_n k 2 dX8_pass_83 rfl rfl ?_
        refine g_get k cfX8 0 0 dX8_pass_84 lkX8_7 (by decide) rfl rfl ?_
        refine g_iload k 0 dX8_pass_87 rfl ?_
        refine g_aload_n k 2 dX8_pass_89 rfl rfl ?_
        refine g_get k cfX8 0 0 dX8_pass_90 lkX8_7 (by decide) rfl rfl ?_
        refine g_iload k 0 dX8_pass_93 rfl ?_
        obtain ⟨κ29, hκ29, hiκ29, heκ29, hf⟩ := ixb_some hf
        refine g_iaload k 1 dX8_pass_95 rfl hiκ29 heκ29 ?_
        refine g_aload_n k 2 dX8_pass_96 rfl rfl ?_
        refine g_get k cfX8 0 0 dX8_pass_97 lkX8_7 (by decide) rfl rfl ?_
        refine g_bipush k dX8_pass_100 bi_25 ?_
        refine g_iaload k 1 dX8_pass_102 rfl vi_25_525 cl_25 ?_
        refine g_iadd k dX8_pass_103 ?_
        refine g_bipush k dX8_pass_104 bi_60 ?_
        obtain ⟨o30, ho31, hf⟩ := bnd_some hf
        refine g_cs k miX8_most msX8_most (ctX8_most (kL K) E N   (((upd va0_row κ26 o24) κ29) + ((upd va0_row κ26 o24) 25)) 60 o30 ho31) [] (ws' := [(a0, oB 8 [.ref a0_row, .int va0_isKept, .ref a0_lanes, .ref a0_sizes, .ref a0_items, .ref a0_tape, .int va0_length, .int va0_at, .int va0_number, .ref a0_readIce, .int va0_readCells, .ref a0_readPeople, .int va0_readMany, .ref a0_readSayings, .int va0_readSaid, .ref a0_line, .ref a0_bestLine, .int va0_bestFar, .int va0_bestIce, .ref a0_seen, .ref a0_held]), (a0_row, aI E 525 (upd va0_row κ26 o24))]) dX8_pass_106 lkX8_176 rfl ⟨rfl, rfl⟩ ⟨by decide, by decide⟩ rfl rfl rfl (Nat.le_of_ble_eq_true rfl) rfl rfl rfl ?_
        refine g_st (st' := [.int o30, .int ((x1 + 3) + (va0_row κ22)), .ref a0_row]) rfl ?_
        obtain ⟨κ32, hκ32, hiκ32, heκ32, hf⟩ := ixb_some hf
        refine g_iastore k 1 (ws' := [(a0, oB 8 [.ref a0_row, .int va0_isKept, .ref a0_lanes, .ref a0_sizes, .ref a0_items, .ref a0_tape, .int va0_length, .int va0_at, .int va0_number, .ref a0_readIce, .int va0_readCells, .ref a0_readPeople, .int va0_readMany, .ref a0_readSayings, .int va0_readSaid, .ref a0_line, .ref a0_bestLine, .int va0_bestFar, .int va0_bestIce, .ref a0_seen, .ref a0_held]), (a0_row, aI E 525 (upd (upd va0_row κ26 o24) κ32 o30))]) dX8_pass_109 rfl hiκ32 heκ32 rfl ?_
        refine g_iconst k dX8_pass_110 ic_0 ?_
        refine g_istore k (lv' := [(4, .int 0), (3, .int o2), (0, .ref a0), (1, .int x1), (2, .int x2)]) dX8_pass_111 (by decide) rfl ?_
        obtain ⟨o33, ho34, hf⟩ := bnd_some hf
        refine g_lv [2, 3, 4, 1, 0] (lv' := [(0, .ref a0), (1, .int x1), (2, .int x2), (3, .int o2), (4, .int 0)]) rfl ?_
        refine wX8_pass_L113 k N a0 a0_row a0_lanes a0_sizes a0_items a0_tape a0_readIce a0_readPeople a0_readSayings a0_line a0_bestLine a0_seen a0_held  x1 x2 o2 va0_isKept va0_length va0_at va0_number va0_readCells va0_readMany va0_readSaid va0_bestFar va0_bestIce N 0 (upd (upd va0_row κ26 o24) κ32 o30) o33 ho34 ?_
        refine g_aload_n k 0 dX8_pass_191 rfl rfl ?_
        refine g_get k cfX8 0 0 dX8_pass_192 lkX8_7 (by decide) rfl rfl ?_
        refine g_iload_n k 1 dX8_pass_195 rfl rfl ?_
        refine g_iconst k dX8_pass_196 ic_1 ?_
        refine g_iadd k dX8_pass_197 ?_
        refine g_dup2 k dX8_pass_198 rfl rfl ?_
        obtain ⟨κ35, hκ35, hiκ35, heκ35, hf⟩ := ixb_some hf
        refine g_iaload k 1 dX8_pass_199 rfl hiκ35 heκ35 ?_
        refine g_iconst k dX8_pass_200 ic_1 ?_
        refine g_iadd k dX8_pass_201 ?_
        obtain ⟨κ36, hκ36, hiκ36, heκ36, hf⟩ := ixb_some hf
        refine g_iastore k 1 (ws' := [(a0, oB 8 [.ref a0_row, .int va0_isKept, .ref a0_lanes, .ref a0_sizes, .ref a0_items, .ref a0_tape, .int va0_length, .int va0_at, .int va0_number, .ref a0_readIce, .int va0_readCells, .ref a0_readPeople, .int va0_readMany, .ref a0_readSayings, .int va0_readSaid, .ref a0_line, .ref a0_bestLine, .int va0_bestFar, .int va0_bestIce, .ref a0_seen, .ref a0_held]), (a0_row, aI E 525 (upd o33.2 κ36 ((o33.2 κ35) + 1)))]) dX8_pass_202 rfl hiκ36 heκ36 rfl ?_
        obtain rfl := Option.some.inj hf
        exact g_vret k r dX8_pass_203 ⟨rfl, rfl⟩
      · replace hf := ite_t c28 hf
        refine g_aload_n k 2 dX8_pass_68 rfl rfl ?_
        refine g_get k cfX8 0 0 dX8_pass_69 lkX8_7 (by decide) rfl rfl ?_
        refine g_iload_n k 3 dX8_pass_72 rfl rfl ?_
        refine g_iconst k dX8_pass_73 ic_0 ?_
        refine g_iadd k dX8_pass_74 ?_
        refine g_dup2 k dX8_pass_75 rfl rfl ?_
        obtain ⟨κ37, hκ37, hiκ37, heκ37, hf⟩ := ixb_some hf
        refine g_iaload k 1 dX8_pass_76 rfl hiκ37 heκ37 ?_
        refine g_iconst k dX8_pass_77 ic_1 ?_
        refine g_iadd k dX8_pass_78 ?_
        obtain ⟨κ38, hκ38, hiκ38, heκ38, hf⟩ := ixb_some hf
        refine g_iastore k 1 (ws' := [(a0, oB 8 [.ref a0_row, .int va0_isKept, .ref a0_lanes, .ref a0_sizes, .ref a0_items, .ref a0_tape, .int va0_length, .int va0_at, .int va0_number, .ref a0_readIce, .int va0_readCells, .ref a0_readPeople, .int va0_readMany, .ref a0_readSayings, .int va0_readSaid, .ref a0_line, .ref a0_bestLine, .int va0_bestFar, .int va0_bestIce, .ref a0_seen, .ref a0_held]), (a0_row, aI E 525 (upd (upd va0_row κ26 o24) κ38 (((upd va0_row κ26 o24) κ37) + 1)))]) dX8_pass_79 rfl hiκ38 heκ38 rfl ?_
        refine g_goto k (tgt := 110) dX8_pass_80 (by decide) ?_
        refine g_iconst k dX8_pass_110 ic_0 ?_
        refine g_istore k (lv' := [(4, .int 0), (3, .int o2), (0, .ref a0), (1, .int x1), (2, .int x2)]) dX8_pass_111 (by decide) rfl ?_
        obtain ⟨o39, ho40, hf⟩ := bnd_some hf
        refine g_lv [2, 3, 4, 1, 0] (lv' := [(0, .ref a0), (1, .int x1), (2, .int x2), (3, .int o2), (4, .int 0)]) rfl ?_
        refine wX8_pass_L113 k N a0 a0_row a0_lanes a0_sizes a0_items a0_tape a0_readIce a0_readPeople a0_readSayings a0_line a0_bestLine a0_seen a0_held  x1 x2 o2 va0_isKept va0_length va0_at va0_number va0_readCells va0_readMany va0_readSaid va0_bestFar va0_bestIce N 0 (upd (upd va0_row κ26 o24) κ38 (((upd va0_row κ26 o24) κ37) + 1)) o39 ho40 ?_
        refine g_aload_n k 0 dX8_pass_191 rfl rfl ?_
        refine g_get k cfX8 0 0 dX8_pass_192 lkX8_7 (by decide) rfl rfl ?_
        refine g_iload_n k 1 dX8_pass_195 rfl rfl ?_
        refine g_iconst k dX8_pass_196 ic_1 ?_
        refine g_iadd k dX8_pass_197 ?_
        refine g_dup2 k dX8_pass_198 rfl rfl ?_
        obtain ⟨κ41, hκ41, hiκ41, heκ41, hf⟩ := ixb_some hf
        refine g_iaload k 1 dX8_pass_199 rfl hiκ41 heκ41 ?_
        refine g_iconst k dX8_pass_200 ic_1 ?_
        refine g_iadd k dX8_pass_201 ?_
        obtain ⟨κ42, hκ42, hiκ42, heκ42, hf⟩ := ixb_some hf
        refine g_iastore k 1 (ws' := [(a0, oB 8 [.ref a0_row, .int va0_isKept, .ref a0_lanes, .ref a0_sizes, .ref a0_items, .ref a0_tape, .int va0_length, .int va0_at, .int va0_number, .ref a0_readIce, .int va0_readCells, .ref a0_readPeople, .int va0_readMany, .ref a0_readSayings, .int va0_readSaid, .ref a0_line, .ref a0_bestLine, .int va0_bestFar, .int va0_bestIce, .ref a0_seen, .ref a0_held]), (a0_row, aI E 525 (upd o39.2 κ42 ((o39.2 κ41) + 1)))]) dX8_pass_202 rfl hiκ42 heκ42 rfl ?_
        obtain rfl := Option.some.inj hf
        exact g_vret k r dX8_pass_203 ⟨rfl, rfl⟩
  · replace hf := ite_t c1 hf
    refine g_iconst k dX8_pass_6 ic_0 ?_
    refine g_goto k (tgt := 16) dX8_pass_7 (by decide) ?_
    refine g_istore_n k (lv' := [(3, .int 0), (0, .ref a0), (1, .int x1), (2, .int x2)]) dX8_pass_16 rfl (by decide) rfl ?_
    refine g_aload_n k 1 dX8_pass_17 rfl rfl ?_
    refine g_iload_n k 2 dX8_pass_18 rfl rfl ?_
    obtain ⟨o43, ho44, hf⟩ := bnd_some hf
    refine g_cv k miX8_isThrough mvX8_isThrough (ctX8_isThrough (kL K) E N a0 a0_row a0_lanes a0_sizes a0_items a0_tape a0_readIce a0_readPeople a0_readSayings a0_line a0_bestLine a0_seen a0_held va0_isKept va0_length va0_at va0_number va0_readCells va0_readMany va0_readSaid va0_bestFar va0_bestIce va0_row x1 o43 ho44) [0, 1] 0 (ws' := [(a0, oB 8 [.ref a0_row, .int va0_isKept, .ref a0_lanes, .ref a0_sizes, .ref a0_items, .ref a0_tape, .int va0_length, .int va0_at, .int va0_number, .ref a0_readIce, .int va0_readCells, .ref a0_readPeople, .int va0_readMany, .ref a0_readSayings, .int va0_readSaid, .ref a0_line, .ref a0_bestLine, .int va0_bestFar, .int va0_bestIce, .ref a0_seen, .ref a0_held]), (a0_row, aI E 525 va0_row)]) dX8_pass_19 lkX8_166 rfl ⟨rfl, rfl⟩ ⟨by decide, by decide⟩ rfl rfl rfl rfl (Nat.le_of_ble_eq_true rfl) rfl rfl rfl ?_
    refine g_st (st' := [.int o43]) rfl ?_
    refine g_if_ne k (tgt := 110) dX8_pass_22 (by decide) (fun c45 => ?_) (fun c45 => ?_)
    · replace hf := ite_f c45 hf
      refine g_iconst k dX8_pass_110 ic_0 ?_
      refine g_istore k (lv' := [(4, .int 0), (3, .int 0), (0, .ref a0), (1, .int x1), (2, .int x2)]) dX8_pass_111 (by decide) rfl ?_
      obtain ⟨o46, ho47, hf⟩ := bnd_some hf
      refine g_lv [2, 3, 4, 1, 0] (lv' := [(0, .ref a0), (1, .int x1), (2, .int x2), (3, .int 0), (4, .int 0)]) rfl ?_
      refine wX8_pass_L113 k N a0 a0_row a0_lanes a0_sizes a0_items a0_tape a0_readIce a0_readPeople a0_readSayings a0_line a0_bestLine a0_seen a0_held  x1 x2 0 va0_isKept va0_length va0_at va0_number va0_readCells va0_readMany va0_readSaid va0_bestFar va0_bestIce N 0 va0_row o46 ho47 ?_
      refine g_aload_n k 0 dX8_pass_191 rfl rfl ?_
      refine g_get k cfX8 0 0 dX8_pass_192 lkX8_7 (by decide) rfl rfl ?_
      refine g_iload_n k 1 dX8_pass_195 rfl rfl ?_
      refine g_iconst k dX8_pass_196 ic_1 ?_
      refine g_iadd k dX8_pass_197 ?_
      refine g_dup2 k dX8_pass_198 rfl rfl ?_
      obtain ⟨κ48, hκ48, hiκ48, heκ48, hf⟩ := ixb_some hf
      refine g_iaload k 1 dX8_pass_199 rfl hiκ48 heκ48 ?_
      refine g_iconst k dX8_pass_200 ic_1 ?_
      refine g_iadd k dX8_pass_201 ?_
      obtain ⟨κ49, hκ49, hiκ49, heκ49, hf⟩ := ixb_some hf
      refine g_iastore k 1 (ws' := [(a0, oB 8 [.ref a0_row, .int va0_isKept, .ref a0_lanes, .ref a0_sizes, .ref a0_items, .ref a0_tape, .int va0_length, .int va0_at, .int va0_number, .ref a0_readIce, .int va0_readCells, .ref a0_readPeople, .int va0_readMany, .ref a0_readSayings, .int va0_readSaid, .ref a0_line, .ref a0_bestLine, .int va0_bestFar, .int va0_bestIce, .ref a0_seen, .ref a0_held]), (a0_row, aI E 525 (upd o46.2 κ49 ((o46.2 κ48) + 1)))]) dX8_pass_202 rfl hiκ49 heκ49 rfl ?_
      obtain rfl := Option.some.inj hf
      exact g_vret k r dX8_pass_203 ⟨rfl, rfl⟩
    · replace hf := ite_t c45 hf
      refine g_iload_n k 2 dX8_pass_25 rfl rfl ?_
      refine g_iconst k dX8_pass_26 ic_3 ?_
      refine g_iadd k dX8_pass_27 ?_
      refine g_aload_n k 1 dX8_pass_28 rfl rfl ?_
      refine g_get k cfX8 0 0 dX8_pass_29 lkX8_7 (by decide) rfl rfl ?_
      refine g_iload_n k 2 dX8_pass_32 rfl rfl ?_
      refine g_iconst k dX8_pass_33 ic_0 ?_
      refine g_iadd k dX8_pass_34 ?_
      obtain ⟨κ50, hκ50, hiκ50, heκ50, hf⟩ := ixb_some hf
      refine g_iaload k 1 dX8_pass_35 rfl hiκ50 heκ50 ?_
      refine g_iadd k dX8_pass_36 ?_
      refine g_istore k (lv' := [(4, .int ((x1 + 3) + (va0_row κ50))), (3, .int 0), (0, .ref a0), (1, .int x1), (2, .int x2)]) dX8_pass_37 (by decide) rfl ?_
      refine g_aload_n k 2 dX8_pass_39 rfl rfl ?_
      refine g_get k cfX8 0 0 dX8_pass_40 lkX8_7 (by decide) rfl rfl ?_
      refine g_iload k 0 dX8_pass_43 rfl ?_
      refine g_aload_n k 2 dX8_pass_45 rfl rfl ?_
      refine g_get k cfX8 0 0 dX8_pass_46 lkX8_7 (by decide) rfl rfl ?_
      refine g_iload k 0 dX8_pass_49 rfl ?_
      obtain ⟨κ51, hκ51, hiκ51, heκ51, hf⟩ := ixb_some hf
      refine g_iaload k 1 dX8_pass_51 rfl hiκ51 heκ51 ?_
      refine g_iload_n k 1 dX8_pass_52 rfl rfl ?_
      refine g_isub k dX8_pass_53 ?_
      obtain ⟨o52, ho53, hf⟩ := bnd_some hf
      refine g_cs k miX8_least msX8_least (ctX8_least (kL K) E N   ((va0_row κ51) - 0) o52 ho53) [] (ws' := [(a0, oB 8 [.ref a0_row, .int va0_isKept, .ref a0_lanes, .ref a0_sizes, .ref a0_items, .ref a0_tape, .int va0_length, .int va0_at, .int va0_number, .ref a0_readIce, .int va0_readCells, .ref a0_readPeople, .int va0_readMany, .ref a0_readSayings, .int va0_readSaid, .ref a0_line, .ref a0_bestLine, .int va0_bestFar, .int va0_bestIce, .ref a0_seen, .ref a0_held]), (a0_row, aI E 525 va0_row)]) dX8_pass_54 lkX8_173 rfl ⟨rfl, rfl⟩ ⟨by decide, by decide⟩ rfl rfl rfl (Nat.le_of_ble_eq_true rfl) rfl rfl rfl ?_
      refine g_st (st' := [.int o52, .int ((x1 + 3) + (va0_row κ50)), .ref a0_row]) rfl ?_
      obtain ⟨κ54, hκ54, hiκ54, heκ54, hf⟩ := ixb_some hf
      refine g_iastore k 1 (ws' := [(a0, oB 8 [.ref a0_row, .int va0_isKept, .ref a0_lanes, .ref a0_sizes, .ref a0_items, .ref a0_tape, .int va0_length, .int va0_at, .int va0_number, .ref a0_readIce, .int va0_readCells, .ref a0_readPeople, .int va0_readMany, .ref a0_readSayings, .int va0_readSaid, .ref a0_line, .ref a0_bestLine, .int va0_bestFar, .int va0_bestIce, .ref a0_seen, .ref a0_held]), (a0_row, aI E 525 (upd va0_row κ54 o52))]) dX8_pass_57 rfl hiκ54 heκ54 rfl ?_
      refine g_aload_n k 2 dX8_pass_58 rfl rfl ?_
      refine g_get k cfX8 0 0 dX8_pass_59 lkX8_7 (by decide) rfl rfl ?_
      refine g_iload k 0 dX8_pass_62 rfl ?_
      obtain ⟨κ55, hκ55, hiκ55, heκ55, hf⟩ := ixb_some hf
      refine g_iaload k 1 dX8_pass_64 rfl hiκ55 heκ55 ?_
      refine g_if_ne k (tgt := 83) dX8_pass_65 (by decide) (fun c56 => ?_) (fun c56 => ?_)
      · replace hf := ite_f c56 hf
        refine g_aload_n k 2 dX8_pass_83 rfl rfl ?_
        refine g_get k cfX8 0 0 dX8_pass_84 lkX8_7 (by decide) rfl rfl ?_
        refine g_iload k 0 dX8_pass_87 rfl ?_
        refine g_aload_n k 2 dX8_pass_89 rfl rfl ?_
        refine g_get k cfX8 0 0 dX8_pass_90 lkX8_7 (by decide) rfl rfl ?_
        refine g_iload k 0 dX8_pass_93 rfl ?_
        obtain ⟨κ57, hκ57, hiκ57, heκ57, hf⟩ := ixb_some hf
        refine g_iaload k 1 dX8_pass_95 rfl hiκ57 heκ57 ?_
        refine g_aload_n k 2 dX8_pass_96 rfl rfl ?_
        refine g_get k cfX8 0 0 dX8_pass_97 lkX8_7 (by decide) rfl rfl ?_
        refine g_bipush k dX8_pass_100 bi_25 ?_
        refine g_iaload k 1 dX8_pass_102 rfl vi_25_525 cl_25 ?_
        refine g_iadd k dX8_pass_103 ?_
        refine g_bipush k dX8_pass_104 bi_60 ?_
        obtain ⟨o58, ho59, hf⟩ := bnd_some hf
        refine g_cs k miX8_most msX8_most (ctX8_most (kL K) E N   (((upd va0_row κ54 o52) κ57) + ((upd va0_row κ54 o52) 25)) 60 o58 ho59) [] (ws' := [(a0, oB 8 [.ref a0_row, .int va0_isKept, .ref a0_lanes, .ref a0_sizes, .ref a0_items, .ref a0_tape, .int va0_length, .int va0_at, .int va0_number, .ref a0_readIce, .int va0_readCells, .ref a0_readPeople, .int va0_readMany, .ref a0_readSayings, .int va0_readSaid, .ref a0_line, .ref a0_bestLine, .int va0_bestFar, .int va0_bestIce, .ref a0_seen, .ref a0_held]), (a0_row, aI E 525 (upd va0_row κ54 o52))]) dX8_pass_106 lkX8_176 rfl ⟨rfl, rfl⟩ ⟨by decide, by decide⟩ rfl rfl rfl (Nat.le_of_ble_eq_true rfl) rfl rfl rfl ?_
        refine g_st (st' := [.int o58, .int ((x1 + 3) + (va0_row κ50)), .ref a0_row]) rfl ?_
        obtain ⟨κ60, hκ60, hiκ60, heκ60, hf⟩ := ixb_some hf
        refine g_iastore k 1 (ws' := [(a0, oB 8 [.ref a0_row, .int va0_isKept, .ref a0_lanes, .ref a0_sizes, .ref a0_items, .ref a0_tape, .int va0_length, .int va0_at, .int va0_number, .ref a0_readIce, .int va0_readCells, .ref a0_readPeople, .int va0_readMany, .ref a0_readSayings, .int va0_readSaid, .ref a0_line, .ref a0_bestLine, .int va0_bestFar, .int va0_bestIce, .ref a0_seen, .ref a0_held]), (a0_row, aI E 525 (upd (upd va0_row κ54 o52) κ60 o58))]) dX8_pass_109 rfl hiκ60 heκ60 rfl ?_
        refine g_iconst k dX8_pass_110 ic_0 ?_
        refine g_istore k (lv' := [(4, .int 0), (3, .int 0), (0, .ref a0), (1, .int x1), (2, .int x2)]) dX8_pass_111 (by decide) rfl ?_
        obtain ⟨o61, ho62, hf⟩ := bnd_some hf
        refine g_lv [2, 3, 4, 1, 0] (lv' := [(0, .ref a0), (1, .int x1), (2, .int x2), (3, .int 0), (4, .int 0)]) rfl ?_
        refine wX8_pass_L113 k N a0 a0_row a0_lanes a0_sizes a0_items a0_tape a0_readIce a0_readPeople a0_readSayings a0_line a0_bestLine a0_seen a0_held  x1 x2 0 va0_isKept va0_length va0_at va0_number va0_readCells va0_readMany va0_readSaid va0_bestFar va0_bestIce N 0 (upd (upd va0_row κ54 o52) κ60 o58) o61 ho62 ?_
        refine g_aload_n k 0 dX8_pass_191 rfl rfl ?_
        refine g_get k cfX8 0 0 dX8_pass_192 lkX8_7 (by decide) rfl rfl ?_
        refine g_iload_n k 1 dX8_pass_195 rfl rfl ?_
        refine g_iconst k dX8_pass_196 ic_1 ?_
        refine g_iadd k dX8_pass_197 ?_
        refine g_dup2 k dX8_pass_198 rfl rfl ?_
        obtain ⟨κ63, hκ63, hiκ63, heκ63, hf⟩ := ixb_some hf
        refine g_iaload k 1 dX8_pass_199 rfl hiκ63 heκ63 ?_
        refine g_iconst k dX8_pass_200 ic_1 ?_
        refine g_iadd k dX8_pass_201 ?_
        obtain ⟨κ64, hκ64, hiκ64, heκ64, hf⟩ := ixb_some hf
        refine g_iastore k 1 (ws' := [(a0, oB 8 [.ref a0_row, .int va0_isKept, .ref a0_lanes, .ref a0_sizes, .ref a0_items, .ref a0_tape, .int va0_length, .int va0_at, .int va0_number, .ref a0_readIce, .int va0_readCells, .ref a0_readPeople, .int va0_readMany, .ref a0_readSayings, .int va0_readSaid, .ref a0_line, .ref a0_bestLine, .int va0_bestFar, .int va0_bestIce, .ref a0_seen, .ref a0_held]), (a0_row, aI E 525 (upd o61.2 κ64 ((o61.2 κ63) + 1)))]) dX8_pass_202 rfl hiκ64 heκ64 rfl ?_
        obtain rfl := Option.some.inj hf
        exact g_vret k r dX8_pass_203 ⟨rfl, rfl⟩
      · replace hf := ite_t c56 hf
        refine g_aload_n k 2 dX8_pass_68 rfl rfl ?_
        refine g_get k cfX8 0 0 dX8_pass_69 lkX8_7 (by decide) rfl rfl ?_
        refine g_iload_n k 3 dX8_pass_72 rfl rfl ?_
        refine g_iconst k dX8_pass_73 ic_0 ?_
        refine g_iadd k dX8_pass_74 ?_
        refine g_dup2 k dX8_pass_75 rfl rfl ?_
        obtain ⟨κ65, hκ65, hiκ65, heκ65, hf⟩ := ixb_some hf
        refine g_iaload k 1 dX8_pass_76 rfl hiκ65 heκ65 ?_
        refine g_iconst k dX8_pass_77 ic_1 ?_
        refine g_iadd k dX8_pass_78 ?_
        obtain ⟨κ66, hκ66, hiκ66, heκ66, hf⟩ := ixb_some hf
        refine g_iastore k 1 (ws' := [(a0, oB 8 [.ref a0_row, .int va0_isKept, .ref a0_lanes, .ref a0_sizes, .ref a0_items, .ref a0_tape, .int va0_length, .int va0_at, .int va0_number, .ref a0_readIce, .int va0_readCells, .ref a0_readPeople, .int va0_readMany, .ref a0_readSayings, .int va0_readSaid, .ref a0_line, .ref a0_bestLine, .int va0_bestFar, .int va0_bestIce, .ref a0_seen, .ref a0_held]), (a0_row, aI E 525 (upd (upd va0_row κ54 o52) κ66 (((upd va0_row κ54 o52) κ65) + 1)))]) dX8_pass_79 rfl hiκ66 heκ66 rfl ?_
        refine g_goto k (tgt := 110) dX8_pass_80 (by decide) ?_
        refine g_iconst k dX8_pass_110 ic_0 ?_
        refine g_istore k (lv' := [(4, .int 0), (3, .int 0), (0, .ref a0), (1, .int x1), (2, .int x2)]) dX8_pass_111 (by decide) rfl ?_
        obtain ⟨o67, ho68, hf⟩ := bnd_some hf
        refine g_lv [2, 3, 4, 1, 0] (lv' := [(0, .ref a0), (1, .int x1), (2, .int x2), (3, .int 0), (4, .int 0)]) rfl ?_
        refine wX8_pass_L113 k N a0 a0_row a0_lanes a0_sizes a0_items a0_tape a0_readIce a0_readPeople a0_readSayings a0_line a0_bestLine a0_seen a0_held  x1 x2 0 va0_isKept va0_length va0_at va0_number va0_readCells va0_readMany va0_readSaid va0_bestFar va0_bestIce N 0 (upd (upd va0_row κ54 o52) κ66 (((upd va0_row κ54 o52) κ65) + 1)) o67 ho68 ?_
        refine g_aload_n k 0 dX8_pass_191 rfl rfl ?_
        refine g_get k cfX8 0 0 dX8_pass_192 lkX8_7 (by decide) rfl rfl ?_
        refine g_iload_n k 1 dX8_pass_195 rfl rfl ?_
        refine g_iconst k dX8_pass_196 ic_1 ?_
        refine g_iadd k dX8_pass_197 ?_
        refine g_dup2 k dX8_pass_198 rfl rfl ?_
        obtain ⟨κ69, hκ69, hiκ69, heκ69, hf⟩ := ixb_some hf
        refine g_iaload k 1 dX8_pass_199 rfl hiκ69 heκ69 ?_
        refine g_iconst k dX8_pass_200 ic_1 ?_
        refine g_iadd k dX8_pass_201 ?_
        obtain ⟨κ70, hκ70, hiκ70, heκ70, hf⟩ := ixb_some hf
        refine g_iastore k 1 (ws' := [(a0, oB 8 [.ref a0_row, .int va0_isKept, .ref a0_lanes, .ref a0_sizes, .ref a0_items, .ref a0_tape, .int va0_length, .int va0_at, .int va0_number, .ref a0_readIce, .int va0_readCells, .ref a0_readPeople, .int va0_readMany, .ref a0_readSayings, .int va0_readSaid, .ref a0_line, .ref a0_bestLine, .int va0_bestFar, .int va0_bestIce, .ref a0_seen, .ref a0_held]), (a0_row, aI E 525 (upd o67.2 κ70 ((o67.2 κ69) + 1)))]) dX8_pass_202 rfl hiκ70 heκ70 rfl ?_
        obtain rfl := Option.some.inj hf
        exact g_vret k r dX8_pass_203 ⟨rfl, rfl⟩
abbrev rmX8_say : Room := { frames := 6, cells := 0, slots := 0, locals := 147 }
def fX8_say (N : Nat) (va0_row : Nat → Int32) (x1 : Int32) : Option (Int32 × (Nat → Int32)) :=
  if x1 = (-4) then
  if (va0_row 1) = 9999 then
  some ((-3), va0_row)
  else
  bnd (fX8_keepPast N va0_row) fun o3 =>
  bnd (fX8_pass N o3 0 x1) fun o5 =>
  some ((o5 0), o5)
  else
  bnd (fX8_isSaying N va0_row x1) fun o7 =>
  if o7 = 0 then
  some ((-1), va0_row)
  else
  if (va0_row 1) = 9999 then
  some ((-3), va0_row)
  else
  bnd (fX8_keepPast N va0_row) fun o11 =>
  bnd (fX8_pass N o11 0 x1) fun o13 =>
  some ((o13 0), o13)
set_option maxHeartbeats 4000000 in
set_option maxRecDepth 100000 in
theorem ctX8_say (l : Launch) (E : Ev) (N : Nat) (a0 : Nat) (a0_row : Nat) (a0_lanes : Nat) (a0_sizes : Nat) (a0_items : Nat) (a0_tape : Nat) (a0_readIce : Nat) (a0_readPeople : Nat) (a0_readSayings : Nat) (a0_line : Nat) (a0_bestLine : Nat) (a0_seen : Nat) (a0_held : Nat) (va0_isKept : Int32) (va0_length : Int32) (va0_at : Int32) (va0_number : Int32) (va0_readCells : Int32) (va0_readMany : Int32) (va0_readSaid : Int32) (va0_bestFar : Int32) (va0_bestIce : Int32) (va0_row : Nat → Int32) (x1 : Int32) (out : Int32 × (Nat → Int32)) (hf : fX8_say N va0_row x1 = some out) : Ct l E yX8_say cX8_say 2 (some .int) rmX8_say [.ref a0, .int x1] [(a0, oB 8 [.ref a0_row, .int va0_isKept, .ref a0_lanes, .ref a0_sizes, .ref a0_items, .ref a0_tape, .int va0_length, .int va0_at, .int va0_number, .ref a0_readIce, .int va0_readCells, .ref a0_readPeople, .int va0_readMany, .ref a0_readSayings, .int va0_readSaid, .ref a0_line, .ref a0_bestLine, .int va0_bestFar, .int va0_bestIce, .ref a0_seen, .ref a0_held]), (a0_row, aI E 525 va0_row)] (Pe (some (.int out.1)) [(a0, oB 8 [.ref a0_row, .int va0_isKept, .ref a0_lanes, .ref a0_sizes, .ref a0_items, .ref a0_tape, .int va0_length, .int va0_at, .int va0_number, .ref a0_readIce, .int va0_readCells, .ref a0_readPeople, .int va0_readMany, .ref a0_readSayings, .int va0_readSaid, .ref a0_line, .ref a0_bestLine, .int va0_bestFar, .int va0_bestIce, .ref a0_seen, .ref a0_held]), (a0_row, aI E 525 out.2)]) := by
  refine Ct.of rfl (Nat.le_of_ble_eq_true rfl) (fun K hL k r hin => ?_)
  subst hL
  unfold fX8_say at hf
  show G E K 2 0 0 [(0, .ref a0), (1, .int x1)] [] [(a0, oB 8 [.ref a0_row, .int va0_isKept, .ref a0_lanes, .ref a0_sizes, .ref a0_items, .ref a0_tape, .int va0_length, .int va0_at, .int va0_number, .ref a0_readIce, .int va0_readCells, .ref a0_readPeople, .int va0_readMany, .ref a0_readSayings, .int va0_readSaid, .ref a0_line, .ref a0_bestLine, .int va0_bestFar, .int va0_bestIce, .ref a0_seen, .ref a0_held]), (a0_row, aI E 525 va0_row)] 0
  refine g_iload_n k 1 dX8_say_0 rfl rfl ?_
  refine g_bipush k dX8_say_1 bi_m4 ?_
  refine g_icmp_eq k (tgt := 16) dX8_say_3 (by decide) (fun c1 => ?_) (fun c1 => ?_)
  · replace hf := ite_t c1 hf
    refine g_aload_n k 0 dX8_say_16 rfl rfl ?_
    refine g_get k cfX8 0 0 dX8_say_17 lkX8_7 (by decide) rfl rfl ?_
    refine g_iconst k dX8_say_20 ic_1 ?_
    refine g_iaload k 1 dX8_say_21 rfl vi_1_525 cl_1 ?_
    refine g_sipush k dX8_say_22 si_9999 ?_
    refine g_icmp_ne k (tgt := 31) dX8_say_25 (by decide) (fun c2 => ?_) (fun c2 => ?_)
    · replace hf := ite_f c2 hf
      refine g_aload_n k 0 dX8_say_31 rfl rfl ?_
      obtain ⟨o3, ho4, hf⟩ := bnd_some hf
      refine g_cv k miX8_keepPast mvX8_keepPast (ctX8_keepPast (kL K) E N a0 a0_row a0_lanes a0_sizes a0_items a0_tape a0_readIce a0_readPeople a0_readSayings a0_line a0_bestLine a0_seen a0_held va0_isKept va0_length va0_at va0_number va0_readCells va0_readMany va0_readSaid va0_bestFar va0_bestIce va0_row  o3 ho4) [0, 1] 0 (ws' := [(a0, oB 8 [.ref a0_row, .int va0_isKept, .ref a0_lanes, .ref a0_sizes, .ref a0_items, .ref a0_tape, .int va0_length, .int va0_at, .int va0_number, .ref a0_readIce, .int va0_readCells, .ref a0_readPeople, .int va0_readMany, .ref a0_readSayings, .int va0_readSaid, .ref a0_line, .ref a0_bestLine, .int va0_bestFar, .int va0_bestIce, .ref a0_seen, .ref a0_held]), (a0_row, aI E 525 o3)]) dX8_say_32 lkX8_179 rfl ⟨rfl, rfl⟩ ⟨by decide, by decide⟩ rfl rfl rfl rfl (Nat.le_of_ble_eq_true rfl) rfl rfl rfl ?_
      refine g_st (st' := []) rfl ?_
      refine g_aload_n k 0 dX8_say_35 rfl rfl ?_
      refine g_iconst k dX8_say_36 ic_0 ?_
      refine g_iload_n k 1 dX8_say_37 rfl rfl ?_
      obtain ⟨o5, ho6, hf⟩ := bnd_some hf
      refine g_cv k miX8_pass mvX8_pass (ctX8_pass (kL K) E N a0 a0_row a0_lanes a0_sizes a0_items a0_tape a0_readIce a0_readPeople a0_readSayings a0_line a0_bestLine a0_seen a0_held va0_isKept va0_length va0_at va0_number va0_readCells va0_readMany va0_readSaid va0_bestFar va0_bestIce o3 0 x1 o5 ho6) [0, 1] 0 (ws' := [(a0, oB 8 [.ref a0_row, .int va0_isKept, .ref a0_lanes, .ref a0_sizes, .ref a0_items, .ref a0_tape, .int va0_length, .int va0_at, .int va0_number, .ref a0_readIce, .int va0_readCells, .ref a0_readPeople, .int va0_readMany, .ref a0_readSayings, .int va0_readSaid, .ref a0_line, .ref a0_bestLine, .int va0_bestFar, .int va0_bestIce, .ref a0_seen, .ref a0_held]), (a0_row, aI E 525 o5)]) dX8_say_38 lkX8_182 rfl ⟨rfl, rfl⟩ ⟨by decide, by decide⟩ rfl rfl rfl rfl (Nat.le_of_ble_eq_true rfl) rfl rfl rfl ?_
      refine g_st (st' := []) rfl ?_
      refine g_aload_n k 0 dX8_say_41 rfl rfl ?_
      refine g_get k cfX8 0 0 dX8_say_42 lkX8_7 (by decide) rfl rfl ?_
      refine g_iconst k dX8_say_45 ic_0 ?_
      refine g_iaload k 1 dX8_say_46 rfl vi_0_525 cl_0 ?_
      obtain rfl := Option.some.inj hf
      exact g_iret k r dX8_say_47 ⟨rfl, rfl⟩
    · replace hf := ite_t c2 hf
      refine g_bipush k dX8_say_28 bi_m3 ?_
      obtain rfl := Option.some.inj hf
      exact g_iret k r dX8_say_30 ⟨rfl, rfl⟩
  · replace hf := ite_f c1 hf
    refine g_aload_n k 0 dX8_say_6 rfl rfl ?_
    refine g_iload_n k 1 dX8_say_7 rfl rfl ?_
    obtain ⟨o7, ho8, hf⟩ := bnd_some hf
    refine g_cv k miX8_isSaying mvX8_isSaying (ctX8_isSaying (kL K) E N a0 a0_row a0_lanes a0_sizes a0_items a0_tape a0_readIce a0_readPeople a0_readSayings a0_line a0_bestLine a0_seen a0_held va0_isKept va0_length va0_at va0_number va0_readCells va0_readMany va0_readSaid va0_bestFar va0_bestIce va0_row x1 o7 ho8) [0, 1] 0 (ws' := [(a0, oB 8 [.ref a0_row, .int va0_isKept, .ref a0_lanes, .ref a0_sizes, .ref a0_items, .ref a0_tape, .int va0_length, .int va0_at, .int va0_number, .ref a0_readIce, .int va0_readCells, .ref a0_readPeople, .int va0_readMany, .ref a0_readSayings, .int va0_readSaid, .ref a0_line, .ref a0_bestLine, .int va0_bestFar, .int va0_bestIce, .ref a0_seen, .ref a0_held]), (a0_row, aI E 525 va0_row)]) dX8_say_8 lkX8_100 rfl ⟨rfl, rfl⟩ ⟨by decide, by decide⟩ rfl rfl rfl rfl (Nat.le_of_ble_eq_true rfl) rfl rfl rfl ?_
    refine g_st (st' := [.int o7]) rfl ?_
    refine g_if_ne k (tgt := 16) dX8_say_11 (by decide) (fun c9 => ?_) (fun c9 => ?_)
    · replace hf := ite_f c9 hf
      refine g_aload_n k 0 dX8_say_16 rfl rfl ?_
      refine g_get k cfX8 0 0 dX8_say_17 lkX8_7 (by decide) rfl rfl ?_
      refine g_iconst k dX8_say_20 ic_1 ?_
      refine g_iaload k 1 dX8_say_21 rfl vi_1_525 cl_1 ?_
      refine g_sipush k dX8_say_22 si_9999 ?_
      refine g_icmp_ne k (tgt := 31) dX8_say_25 (by decide) (fun c10 => ?_) (fun c10 => ?_)
      · replace hf := ite_f c10 hf
        refine g_aload_n k 0 dX8_say_31 rfl rfl ?_
        obtain ⟨o11, ho12, hf⟩ := bnd_some hf
        refine g_cv k miX8_keepPast mvX8_keepPast (ctX8_keepPast (kL K) E N a0 a0_row a0_lanes a0_sizes a0_items a0_tape a0_readIce a0_readPeople a0_readSayings a0_line a0_bestLine a0_seen a0_held va0_isKept va0_length va0_at va0_number va0_readCells va0_readMany va0_readSaid va0_bestFar va0_bestIce va0_row  o11 ho12) [0, 1] 0 (ws' := [(a0, oB 8 [.ref a0_row, .int va0_isKept, .ref a0_lanes, .ref a0_sizes, .ref a0_items, .ref a0_tape, .int va0_length, .int va0_at, .int va0_number, .ref a0_readIce, .int va0_readCells, .ref a0_readPeople, .int va0_readMany, .ref a0_readSayings, .int va0_readSaid, .ref a0_line, .ref a0_bestLine, .int va0_bestFar, .int va0_bestIce, .ref a0_seen, .ref a0_held]), (a0_row, aI E 525 o11)]) dX8_say_32 lkX8_179 rfl ⟨rfl, rfl⟩ ⟨by decide, by decide⟩ rfl rfl rfl rfl (Nat.le_of_ble_eq_true rfl) rfl rfl rfl ?_
        refine g_st (st' := []) rfl ?_
        refine g_aload_n k 0 dX8_say_35 rfl rfl ?_
        refine g_iconst k dX8_say_36 ic_0 ?_
        refine g_iload_n k 1 dX8_say_37 rfl rfl ?_
        obtain ⟨o13, ho14, hf⟩ := bnd_some hf
        refine g_cv k miX8_pass mvX8_pass (ctX8_pass (kL K) E N a0 a0_row a0_lanes a0_sizes a0_items a0_tape a0_readIce a0_readPeople a0_readSayings a0_line a0_bestLine a0_seen a0_held va0_isKept va0_length va0_at va0_number va0_readCells va0_readMany va0_readSaid va0_bestFar va0_bestIce o11 0 x1 o13 ho14) [0, 1] 0 (ws' := [(a0, oB 8 [.ref a0_row, .int va0_isKept, .ref a0_lanes, .ref a0_sizes, .ref a0_items, .ref a0_tape, .int va0_length, .int va0_at, .int va0_number, .ref a0_readIce, .int va0_readCells, .ref a0_readPeople, .int va0_readMany, .ref a0_readSayings, .int va0_readSaid, .ref a0_line, .ref a0_bestLine, .int va0_bestFar, .int va0_bestIce, .ref a0_seen, .ref a0_held]), (a0_row, aI E 525 o13)]) dX8_say_38 lkX8_182 rfl ⟨rfl, rfl⟩ ⟨by decide, by decide⟩ rfl rfl rfl rfl (Nat.le_of_ble_eq_true rfl) rfl rfl rfl ?_
        refine g_st (st' := []) rfl ?_
        refine g_aload_n k 0 dX8_say_41 rfl rfl ?_
        refine g_get k cfX8 0 0 dX8_say_42 lkX8_7 (by decide) rfl rfl ?_
        refine g_iconst k dX8_say_45 ic_0 ?_
        refine g_iaload k 1 dX8_say_46 rfl vi_0_525 cl_0 ?_
        obtain rfl := Option.some.inj hf
        exact g_iret k r dX8_say_47 ⟨rfl, rfl⟩
      · replace hf := ite_t c10 hf
        refine g_bipush k dX8_say_28 bi_m3 ?_
        obtain rfl := Option.some.inj hf
        exact g_iret k r dX8_say_30 ⟨rfl, rfl⟩
    · replace hf := ite_t c9 hf
      refine g_iconst k dX8_say_14 ic_m1 ?_
      obtain rfl := Option.some.inj hf
      exact g_iret k r dX8_say_15 ⟨rfl, rfl⟩
abbrev rmX8_thaw : Room := { frames := 2, cells := 0, slots := 0, locals := 46 }
def fX8_thaw (N : Nat) (va0_row : Nat → Int32) (x1 : Int32) (x2 : Int32) : Option (Int32 × (Nat → Int32)) :=
  bnd (fX8_isCell N va0_row x1) fun o1 =>
  if o1 = 0 then
  some ((-1), va0_row)
  else
  bnd (fX8_in N x2.toInt64 1 60) fun o4 =>
  if o4 = 0 then
  some ((-1), va0_row)
  else
  ixb (3 + x1) 525 fun κ7 =>
  if (va0_row κ7) = 0 then
  some ((-2), va0_row)
  else
  bnd (fX8_keepPast N va0_row) fun o9 =>
  ixb (3 + x1) 525 fun κ11 =>
  bnd (fX8_least N ((o9 κ11) - x2)) fun o12 =>
  ixb (3 + x1) 525 fun κ14 =>
  ixb (3 + x1) 525 fun κ15 =>
  some (((upd o9 κ14 o12) κ15), (upd o9 κ14 o12))
set_option maxHeartbeats 4000000 in
set_option maxRecDepth 100000 in
theorem ctX8_thaw (l : Launch) (E : Ev) (N : Nat) (a0 : Nat) (a0_row : Nat) (a0_lanes : Nat) (a0_sizes : Nat) (a0_items : Nat) (a0_tape : Nat) (a0_readIce : Nat) (a0_readPeople : Nat) (a0_readSayings : Nat) (a0_line : Nat) (a0_bestLine : Nat) (a0_seen : Nat) (a0_held : Nat) (va0_isKept : Int32) (va0_length : Int32) (va0_at : Int32) (va0_number : Int32) (va0_readCells : Int32) (va0_readMany : Int32) (va0_readSaid : Int32) (va0_bestFar : Int32) (va0_bestIce : Int32) (va0_row : Nat → Int32) (x1 : Int32) (x2 : Int32) (out : Int32 × (Nat → Int32)) (hf : fX8_thaw N va0_row x1 x2 = some out) : Ct l E yX8_thaw cX8_thaw 3 (some .int) rmX8_thaw [.ref a0, .int x1, .int x2] [(a0, oB 8 [.ref a0_row, .int va0_isKept, .ref a0_lanes, .ref a0_sizes, .ref a0_items, .ref a0_tape, .int va0_length, .int va0_at, .int va0_number, .ref a0_readIce, .int va0_readCells, .ref a0_readPeople, .int va0_readMany, .ref a0_readSayings, .int va0_readSaid, .ref a0_line, .ref a0_bestLine, .int va0_bestFar, .int va0_bestIce, .ref a0_seen, .ref a0_held]), (a0_row, aI E 525 va0_row)] (Pe (some (.int out.1)) [(a0, oB 8 [.ref a0_row, .int va0_isKept, .ref a0_lanes, .ref a0_sizes, .ref a0_items, .ref a0_tape, .int va0_length, .int va0_at, .int va0_number, .ref a0_readIce, .int va0_readCells, .ref a0_readPeople, .int va0_readMany, .ref a0_readSayings, .int va0_readSaid, .ref a0_line, .ref a0_bestLine, .int va0_bestFar, .int va0_bestIce, .ref a0_seen, .ref a0_held]), (a0_row, aI E 525 out.2)]) := by
  refine Ct.of rfl (Nat.le_of_ble_eq_true rfl) (fun K hL k r hin => ?_)
  subst hL
  unfold fX8_thaw at hf
  show G E K 3 0 0 [(0, .ref a0), (1, .int x1), (2, .int x2)] [] [(a0, oB 8 [.ref a0_row, .int va0_isKept, .ref a0_lanes, .ref a0_sizes, .ref a0_items, .ref a0_tape, .int va0_length, .int va0_at, .int va0_number, .ref a0_readIce, .int va0_readCells, .ref a0_readPeople, .int va0_readMany, .ref a0_readSayings, .int va0_readSaid, .ref a0_line, .ref a0_bestLine, .int va0_bestFar, .int va0_bestIce, .ref a0_seen, .ref a0_held]), (a0_row, aI E 525 va0_row)] 0
  refine g_aload_n k 0 dX8_thaw_0 rfl rfl ?_
  refine g_iload_n k 1 dX8_thaw_1 rfl rfl ?_
  obtain ⟨o1, ho2, hf⟩ := bnd_some hf
  refine g_cv k miX8_isCell mvX8_isCell (ctX8_isCell (kL K) E N a0 a0_row a0_lanes a0_sizes a0_items a0_tape a0_readIce a0_readPeople a0_readSayings a0_line a0_bestLine a0_seen a0_held va0_isKept va0_length va0_at va0_number va0_readCells va0_readMany va0_readSaid va0_bestFar va0_bestIce va0_row x1 o1 ho2) [0, 1] 0 (ws' := [(a0, oB 8 [.ref a0_row, .int va0_isKept, .ref a0_lanes, .ref a0_sizes, .ref a0_items, .ref a0_tape, .int va0_length, .int va0_at, .int va0_number, .ref a0_readIce, .int va0_readCells, .ref a0_readPeople, .int va0_readMany, .ref a0_readSayings, .int va0_readSaid, .ref a0_line, .ref a0_bestLine, .int va0_bestFar, .int va0_bestIce, .ref a0_seen, .ref a0_held]), (a0_row, aI E 525 va0_row)]) dX8_thaw_2 lkX8_74 rfl ⟨rfl, rfl⟩ ⟨by decide, by decide⟩ rfl rfl rfl rfl (Nat.le_of_ble_eq_true rfl) rfl rfl rfl ?_
  refine g_st (st' := [.int o1]) rfl ?_
  refine g_if_eq k (tgt := 20) dX8_thaw_5 (by decide) (fun c3 => ?_) (fun c3 => ?_)
  · replace hf := ite_t c3 hf
    refine g_iconst k dX8_thaw_20 ic_m1 ?_
    obtain rfl := Option.some.inj hf
    exact g_iret k r dX8_thaw_21 ⟨rfl, rfl⟩
  · replace hf := ite_f c3 hf
    refine g_iload_n k 2 dX8_thaw_8 rfl rfl ?_
    refine g_i2l k dX8_thaw_9 ?_
    refine g_lconst k dX8_thaw_10 lc_1 ?_
    refine g_ldc2 k dX8_thaw_11 lkX8_51 ?_
    obtain ⟨o4, ho5, hf⟩ := bnd_some hf
    refine g_cs k miX8_in msX8_in (ctX8_in (kL K) E N   x2.toInt64 1 60 o4 ho5) [] (ws' := [(a0, oB 8 [.ref a0_row, .int va0_isKept, .ref a0_lanes, .ref a0_sizes, .ref a0_items, .ref a0_tape, .int va0_length, .int va0_at, .int va0_number, .ref a0_readIce, .int va0_readCells, .ref a0_readPeople, .int va0_readMany, .ref a0_readSayings, .int va0_readSaid, .ref a0_line, .ref a0_bestLine, .int va0_bestFar, .int va0_bestIce, .ref a0_seen, .ref a0_held]), (a0_row, aI E 525 va0_row)]) dX8_thaw_14 lkX8_47 rfl ⟨rfl, rfl⟩ ⟨by decide, by decide⟩ rfl rfl rfl (Nat.le_of_ble_eq_true rfl) rfl rfl rfl ?_
    refine g_st (st' := [.int o4]) rfl ?_
    refine g_if_ne k (tgt := 22) dX8_thaw_17 (by decide) (fun c6 => ?_) (fun c6 => ?_)
    · replace hf := ite_f c6 hf
      refine g_aload_n k 0 dX8_thaw_22 rfl rfl ?_
      refine g_get k cfX8 0 0 dX8_thaw_23 lkX8_7 (by decide) rfl rfl ?_
      refine g_iconst k dX8_thaw_26 ic_3 ?_
      refine g_iload_n k 1 dX8_thaw_27 rfl rfl ?_
      refine g_iadd k dX8_thaw_28 ?_
      obtain ⟨κ7, hκ7, hiκ7, heκ7, hf⟩ := ixb_some hf
      refine g_iaload k 1 dX8_thaw_29 rfl hiκ7 heκ7 ?_
      refine g_if_ne k (tgt := 36) dX8_thaw_30 (by decide) (fun c8 => ?_) (fun c8 => ?_)
      · replace hf := ite_f c8 hf
        refine g_aload_n k 0 dX8_thaw_36 rfl rfl ?_
        obtain ⟨o9, ho10, hf⟩ := bnd_some hf
        refine g_cv k miX8_keepPast mvX8_keepPast (ctX8_keepPast (kL K) E N a0 a0_row a0_lanes a0_sizes a0_items a0_tape a0_readIce a0_readPeople a0_readSayings a0_line a0_bestLine a0_seen a0_held va0_isKept va0_length va0_at va0_number va0_readCells va0_readMany va0_readSaid va0_bestFar va0_bestIce va0_row  o9 ho10) [0, 1] 0 (ws' := [(a0, oB 8 [.ref a0_row, .int va0_isKept, .ref a0_lanes, .ref a0_sizes, .ref a0_items, .ref a0_tape, .int va0_length, .int va0_at, .int va0_number, .ref a0_readIce, .int va0_readCells, .ref a0_readPeople, .int va0_readMany, .ref a0_readSayings, .int va0_readSaid, .ref a0_line, .ref a0_bestLine, .int va0_bestFar, .int va0_bestIce, .ref a0_seen, .ref a0_held]), (a0_row, aI E 525 o9)]) dX8_thaw_37 lkX8_179 rfl ⟨rfl, rfl⟩ ⟨by decide, by decide⟩ rfl rfl rfl rfl (Nat.le_of_ble_eq_true rfl) rfl rfl rfl ?_
        refine g_st (st' := []) rfl ?_
        refine g_aload_n k 0 dX8_thaw_40 rfl rfl ?_
        refine g_get k cfX8 0 0 dX8_thaw_41 lkX8_7 (by decide) rfl rfl ?_
        refine g_iconst k dX8_thaw_44 ic_3 ?_
        refine g_iload_n k 1 dX8_thaw_45 rfl rfl ?_
        refine g_iadd k dX8_thaw_46 ?_
        refine g_aload_n k 0 dX8_thaw_47 rfl rfl ?_
        refine g_get k cfX8 0 0 dX8_thaw_48 lkX8_7 (by decide) rfl rfl ?_
        refine g_iconst k dX8_thaw_51 ic_3 ?_
        refine g_iload_n k 1 dX8_thaw_52 rfl rfl ?_
        refine g_iadd k dX8_thaw_53 ?_
        obtain ⟨κ11, hκ11, hiκ11, heκ11, hf⟩ := ixb_some hf
        refine g_iaload k 1 dX8_thaw_54 rfl hiκ11 heκ11 ?_
        refine g_iload_n k 2 dX8_thaw_55 rfl rfl ?_
        refine g_isub k dX8_thaw_56 ?_
        obtain ⟨o12, ho13, hf⟩ := bnd_some hf
        refine g_cs k miX8_least msX8_least (ctX8_least (kL K) E N   ((o9 κ11) - x2) o12 ho13) [] (ws' := [(a0, oB 8 [.ref a0_row, .int va0_isKept, .ref a0_lanes, .ref a0_sizes, .ref a0_items, .ref a0_tape, .int va0_length, .int va0_at, .int va0_number, .ref a0_readIce, .int va0_readCells, .ref a0_readPeople, .int va0_readMany, .ref a0_readSayings, .int va0_readSaid, .ref a0_line, .ref a0_bestLine, .int va0_bestFar, .int va0_bestIce, .ref a0_seen, .ref a0_held]), (a0_row, aI E 525 o9)]) dX8_thaw_57 lkX8_173 rfl ⟨rfl, rfl⟩ ⟨by decide, by decide⟩ rfl rfl rfl (Nat.le_of_ble_eq_true rfl) rfl rfl rfl ?_
        refine g_st (st' := [.int o12, .int (3 + x1), .ref a0_row]) rfl ?_
        obtain ⟨κ14, hκ14, hiκ14, heκ14, hf⟩ := ixb_some hf
        refine g_iastore k 1 (ws' := [(a0, oB 8 [.ref a0_row, .int va0_isKept, .ref a0_lanes, .ref a0_sizes, .ref a0_items, .ref a0_tape, .int va0_length, .int va0_at, .int va0_number, .ref a0_readIce, .int va0_readCells, .ref a0_readPeople, .int va0_readMany, .ref a0_readSayings, .int va0_readSaid, .ref a0_line, .ref a0_bestLine, .int va0_bestFar, .int va0_bestIce, .ref a0_seen, .ref a0_held]), (a0_row, aI E 525 (upd o9 κ14 o12))]) dX8_thaw_60 rfl hiκ14 heκ14 rfl ?_
        refine g_aload_n k 0 dX8_thaw_61 rfl rfl ?_
        refine g_get k cfX8 0 0 dX8_thaw_62 lkX8_7 (by decide) rfl rfl ?_
        refine g_iconst k dX8_thaw_65 ic_3 ?_
        refine g_iload_n k 1 dX8_thaw_66 rfl rfl ?_
        refine g_iadd k dX8_thaw_67 ?_
        obtain ⟨κ15, hκ15, hiκ15, heκ15, hf⟩ := ixb_some hf
        refine g_iaload k 1 dX8_thaw_68 rfl hiκ15 heκ15 ?_
        obtain rfl := Option.some.inj hf
        exact g_iret k r dX8_thaw_69 ⟨rfl, rfl⟩
      · replace hf := ite_t c8 hf
        refine g_bipush k dX8_thaw_33 bi_m2 ?_
        obtain rfl := Option.some.inj hf
        exact g_iret k r dX8_thaw_35 ⟨rfl, rfl⟩
    · replace hf := ite_t c6 hf
      refine g_iconst k dX8_thaw_20 ic_m1 ?_
      obtain rfl := Option.some.inj hf
      exact g_iret k r dX8_thaw_21 ⟨rfl, rfl⟩
abbrev rmX8_mind : Room := { frames := 2, cells := 0, slots := 0, locals := 46 }
def fX8_mind (N : Nat) (va0_row : Nat → Int32) (x1 : Int32) (x2 : Int32) : Option (Int32 × (Nat → Int32)) :=
  bnd (fX8_isPerson N va0_row x1) fun o1 =>
  if o1 = 0 then
  some ((-1), va0_row)
  else
  bnd (fX8_isSaying N va0_row x2) fun o4 =>
  if o4 = 0 then
  some ((-1), va0_row)
  else
  bnd (fX8_keepPast N va0_row) fun o7 =>
  ixb (20 + x2) 525 fun κ9 =>
  ixb (20 + x2) 525 fun κ10 =>
  ixb (20 + x2) 525 fun κ11 =>
  some (((upd o7 κ10 ((o7 κ9) ^^^ (1 <<< (x1 &&& 31)))) κ11), (upd o7 κ10 ((o7 κ9) ^^^ (1 <<< (x1 &&& 31)))))
set_option maxHeartbeats 4000000 in
set_option maxRecDepth 100000 in
theorem ctX8_mind (l : Launch) (E : Ev) (N : Nat) (a0 : Nat) (a0_row : Nat) (a0_lanes : Nat) (a0_sizes : Nat) (a0_items : Nat) (a0_tape : Nat) (a0_readIce : Nat) (a0_readPeople : Nat) (a0_readSayings : Nat) (a0_line : Nat) (a0_bestLine : Nat) (a0_seen : Nat) (a0_held : Nat) (va0_isKept : Int32) (va0_length : Int32) (va0_at : Int32) (va0_number : Int32) (va0_readCells : Int32) (va0_readMany : Int32) (va0_readSaid : Int32) (va0_bestFar : Int32) (va0_bestIce : Int32) (va0_row : Nat → Int32) (x1 : Int32) (x2 : Int32) (out : Int32 × (Nat → Int32)) (hf : fX8_mind N va0_row x1 x2 = some out) : Ct l E yX8_mind cX8_mind 3 (some .int) rmX8_mind [.ref a0, .int x1, .int x2] [(a0, oB 8 [.ref a0_row, .int va0_isKept, .ref a0_lanes, .ref a0_sizes, .ref a0_items, .ref a0_tape, .int va0_length, .int va0_at, .int va0_number, .ref a0_readIce, .int va0_readCells, .ref a0_readPeople, .int va0_readMany, .ref a0_readSayings, .int va0_readSaid, .ref a0_line, .ref a0_bestLine, .int va0_bestFar, .int va0_bestIce, .ref a0_seen, .ref a0_held]), (a0_row, aI E 525 va0_row)] (Pe (some (.int out.1)) [(a0, oB 8 [.ref a0_row, .int va0_isKept, .ref a0_lanes, .ref a0_sizes, .ref a0_items, .ref a0_tape, .int va0_length, .int va0_at, .int va0_number, .ref a0_readIce, .int va0_readCells, .ref a0_readPeople, .int va0_readMany, .ref a0_readSayings, .int va0_readSaid, .ref a0_line, .ref a0_bestLine, .int va0_bestFar, .int va0_bestIce, .ref a0_seen, .ref a0_held]), (a0_row, aI E 525 out.2)]) := by
  refine Ct.of rfl (Nat.le_of_ble_eq_true rfl) (fun K hL k r hin => ?_)
  subst hL
  unfold fX8_mind at hf
  show G E K 3 0 0 [(0, .ref a0), (1, .int x1), (2, .int x2)] [] [(a0, oB 8 [.ref a0_row, .int va0_isKept, .ref a0_lanes, .ref a0_sizes, .ref a0_items, .ref a0_tape, .int va0_length, .int va0_at, .int va0_number, .ref a0_readIce, .int va0_readCells, .ref a0_readPeople, .int va0_readMany, .ref a0_readSayings, .int va0_readSaid, .ref a0_line, .ref a0_bestLine, .int va0_bestFar, .int va0_bestIce, .ref a0_seen, .ref a0_held]), (a0_row, aI E 525 va0_row)] 0
  refine g_aload_n k 0 dX8_mind_0 rfl rfl ?_
  refine g_iload_n k 1 dX8_mind_1 rfl rfl ?_
  obtain ⟨o1, ho2, hf⟩ := bnd_some hf
  refine g_cv k miX8_isPerson mvX8_isPerson (ctX8_isPerson (kL K) E N a0 a0_row a0_lanes a0_sizes a0_items a0_tape a0_readIce a0_readPeople a0_readSayings a0_line a0_bestLine a0_seen a0_held va0_isKept va0_length va0_at va0_number va0_readCells va0_readMany va0_readSaid va0_bestFar va0_bestIce va0_row x1 o1 ho2) [0, 1] 0 (ws' := [(a0, oB 8 [.ref a0_row, .int va0_isKept, .ref a0_lanes, .ref a0_sizes, .ref a0_items, .ref a0_tape, .int va0_length, .int va0_at, .int va0_number, .ref a0_readIce, .int va0_readCells, .ref a0_readPeople, .int va0_readMany, .ref a0_readSayings, .int va0_readSaid, .ref a0_line, .ref a0_bestLine, .int va0_bestFar, .int va0_bestIce, .ref a0_seen, .ref a0_held]), (a0_row, aI E 525 va0_row)]) dX8_mind_2 lkX8_97 rfl ⟨rfl, rfl⟩ ⟨by decide, by decide⟩ rfl rfl rfl rfl (Nat.le_of_ble_eq_true rfl) rfl rfl rfl ?_
  refine g_st (st' := [.int o1]) rfl ?_
  refine g_if_eq k (tgt := 16) dX8_mind_5 (by decide) (fun c3 => ?_) (fun c3 => ?_)
  · replace hf := ite_t c3 hf
    refine g_iconst k dX8_mind_16 ic_m1 ?_
    obtain rfl := Option.some.inj hf
    exact g_iret k r dX8_mind_17 ⟨rfl, rfl⟩
  · replace hf := ite_f c3 hf
    refine g_aload_n k 0 dX8_mind_8 rfl rfl ?_
    refine g_iload_n k 2 dX8_mind_9 rfl rfl ?_
    obtain ⟨o4, ho5, hf⟩ := bnd_some hf
    refine g_cv k miX8_isSaying mvX8_isSaying (ctX8_isSaying (kL K) E N a0 a0_row a0_lanes a0_sizes a0_items a0_tape a0_readIce a0_readPeople a0_readSayings a0_line a0_bestLine a0_seen a0_held va0_isKept va0_length va0_at va0_number va0_readCells va0_readMany va0_readSaid va0_bestFar va0_bestIce va0_row x2 o4 ho5) [0, 1] 0 (ws' := [(a0, oB 8 [.ref a0_row, .int va0_isKept, .ref a0_lanes, .ref a0_sizes, .ref a0_items, .ref a0_tape, .int va0_length, .int va0_at, .int va0_number, .ref a0_readIce, .int va0_readCells, .ref a0_readPeople, .int va0_readMany, .ref a0_readSayings, .int va0_readSaid, .ref a0_line, .ref a0_bestLine, .int va0_bestFar, .int va0_bestIce, .ref a0_seen, .ref a0_held]), (a0_row, aI E 525 va0_row)]) dX8_mind_10 lkX8_100 rfl ⟨rfl, rfl⟩ ⟨by decide, by decide⟩ rfl rfl rfl rfl (Nat.le_of_ble_eq_true rfl) rfl rfl rfl ?_
    refine g_st (st' := [.int o4]) rfl ?_
    refine g_if_ne k (tgt := 18) dX8_mind_13 (by decide) (fun c6 => ?_) (fun c6 => ?_)
    · replace hf := ite_f c6 hf
      refine g_aload_n k 0 dX8_mind_18 rfl rfl ?_
      obtain ⟨o7, ho8, hf⟩ := bnd_some hf
      refine g_cv k miX8_keepPast mvX8_keepPast (ctX8_keepPast (kL K) E N a0 a0_row a0_lanes a0_sizes a0_items a0_tape a0_readIce a0_readPeople a0_readSayings a0_line a0_bestLine a0_seen a0_held va0_isKept va0_length va0_at va0_number va0_readCells va0_readMany va0_readSaid va0_bestFar va0_bestIce va0_row  o7 ho8) [0, 1] 0 (ws' := [(a0, oB 8 [.ref a0_row, .int va0_isKept, .ref a0_lanes, .ref a0_sizes, .ref a0_items, .ref a0_tape, .int va0_length, .int va0_at, .int va0_number, .ref a0_readIce, .int va0_readCells, .ref a0_readPeople, .int va0_readMany, .ref a0_readSayings, .int va0_readSaid, .ref a0_line, .ref a0_bestLine, .int va0_bestFar, .int va0_bestIce, .ref a0_seen, .ref a0_held]), (a0_row, aI E 525 o7)]) dX8_mind_19 lkX8_179 rfl ⟨rfl, rfl⟩ ⟨by decide, by decide⟩ rfl rfl rfl rfl (Nat.le_of_ble_eq_true rfl) rfl rfl rfl ?_
      refine g_st (st' := []) rfl ?_
      refine g_aload_n k 0 dX8_mind_22 rfl rfl ?_
      refine g_get k cfX8 0 0 dX8_mind_23 lkX8_7 (by decide) rfl rfl ?_
      refine g_bipush k dX8_mind_26 bi_20 ?_
      refine g_iload_n k 2 dX8_mind_28 rfl rfl ?_
      refine g_iadd k dX8_mind_29 ?_
      refine g_dup2 k dX8_mind_30 rfl rfl ?_
      obtain ⟨κ9, hκ9, hiκ9, heκ9, hf⟩ := ixb_some hf
      refine g_iaload k 1 dX8_mind_31 rfl hiκ9 heκ9 ?_
      refine g_iconst k dX8_mind_32 ic_1 ?_
      refine g_iload_n k 1 dX8_mind_33 rfl rfl ?_
      refine g_ishl k dX8_mind_34 ?_
      refine g_ixor k dX8_mind_35 ?_
      obtain ⟨κ10, hκ10, hiκ10, heκ10, hf⟩ := ixb_some hf
      refine g_iastore k 1 (ws' := [(a0, oB 8 [.ref a0_row, .int va0_isKept, .ref a0_lanes, .ref a0_sizes, .ref a0_items, .ref a0_tape, .int va0_length, .int va0_at, .int va0_number, .ref a0_readIce, .int va0_readCells, .ref a0_readPeople, .int va0_readMany, .ref a0_readSayings, .int va0_readSaid, .ref a0_line, .ref a0_bestLine, .int va0_bestFar, .int va0_bestIce, .ref a0_seen, .ref a0_held]), (a0_row, aI E 525 (upd o7 κ10 ((o7 κ9) ^^^ (1 <<< (x1 &&& 31)))))]) dX8_mind_36 rfl hiκ10 heκ10 rfl ?_
      refine g_aload_n k 0 dX8_mind_37 rfl rfl ?_
      refine g_get k cfX8 0 0 dX8_mind_38 lkX8_7 (by decide) rfl rfl ?_
      refine g_bipush k dX8_mind_41 bi_20 ?_
      refine g_iload_n k 2 dX8_mind_43 rfl rfl ?_
      refine g_iadd k dX8_mind_44 ?_
      obtain ⟨κ11, hκ11, hiκ11, heκ11, hf⟩ := ixb_some hf
      refine g_iaload k 1 dX8_mind_45 rfl hiκ11 heκ11 ?_
      obtain rfl := Option.some.inj hf
      exact g_iret k r dX8_mind_46 ⟨rfl, rfl⟩
    · replace hf := ite_t c6 hf
      refine g_iconst k dX8_mind_16 ic_m1 ?_
      obtain rfl := Option.some.inj hf
      exact g_iret k r dX8_mind_17 ⟨rfl, rfl⟩
abbrev rmX8_drift : Room := { frames := 6, cells := 0, slots := 0, locals := 147 }
def fX8_drift_L33 (N : Nat) (x1 : Int32) : Nat → Int32 → (Nat → Int32) → Option (Int32 × (Nat → Int32))
  | 0, _, _ => none
  | n + 1, x2, va0_row =>
    if x1 ≤ x2 then
    some (x2, va0_row)
    else
    bnd (fX8_keepPast N va0_row) fun o6 =>
    dvb (((upd o6 2 ((((((o6 2).toInt64) * 1103515245) + 12345) &&& 2147483647).toInt32)) 28) + 1) (if (irem (((upd o6 2 ((((((o6 2).toInt64) * 1103515245) + 12345) &&& 2147483647).toInt32)) 2) / 65536) (((upd o6 2 ((((((o6 2).toInt64) * 1103515245) + 12345) &&& 2147483647).toInt32)) 28) + 1)) = ((upd o6 2 ((((((o6 2).toInt64) * 1103515245) + 12345) &&& 2147483647).toInt32)) 28) then
    bnd (fX8_pass N (upd o6 2 ((((((o6 2).toInt64) * 1103515245) + 12345) &&& 2147483647).toInt32)) 0 (-4)) fun o12 =>
    fX8_drift_L33 N x1 n (x2 + 1) o12
    else
    bnd (fX8_pass N (upd o6 2 ((((((o6 2).toInt64) * 1103515245) + 12345) &&& 2147483647).toInt32)) 0 (irem (((upd o6 2 ((((((o6 2).toInt64) * 1103515245) + 12345) &&& 2147483647).toInt32)) 2) / 65536) (((upd o6 2 ((((((o6 2).toInt64) * 1103515245) + 12345) &&& 2147483647).toInt32)) 28) + 1))) fun o10 =>
    fX8_drift_L33 N x1 n (x2 + 1) o10)
set_option maxHeartbeats 4000000 in
set_option maxRecDepth 100000 in
theorem wX8_drift_L33 {E : Ev} {K : KX} (k : OKX E K cX8_drift RX8 6 rmX8_drift) (N : Nat) (a0 : Nat) (a0_row : Nat) (a0_lanes : Nat) (a0_sizes : Nat) (a0_items : Nat) (a0_tape : Nat) (a0_readIce : Nat) (a0_readPeople : Nat) (a0_readSayings : Nat) (a0_line : Nat) (a0_bestLine : Nat) (a0_seen : Nat) (a0_held : Nat) (x1 : Int32) (va0_isKept : Int32) (va0_length : Int32) (va0_at : Int32) (va0_number : Int32) (va0_readCells : Int32) (va0_readMany : Int32) (va0_readSaid : Int32) (va0_bestFar : Int32) (va0_bestIce : Int32) : ∀ (n : Nat) (x2 : Int32) (va0_row : Nat → Int32) (o : Int32 × (Nat → Int32)), fX8_drift_L33 N x1 n x2 va0_row = some o → G E K 6 0 0 [(0, .ref a0), (1, .int x1), (2, .int o.1)] [] [(a0, oB 8 [.ref a0_row, .int va0_isKept, .ref a0_lanes, .ref a0_sizes, .ref a0_items, .ref a0_tape, .int va0_length, .int va0_at, .int va0_number, .ref a0_readIce, .int va0_readCells, .ref a0_readPeople, .int va0_readMany, .ref a0_readSayings, .int va0_readSaid, .ref a0_line, .ref a0_bestLine, .int va0_bestFar, .int va0_bestIce, .ref a0_seen, .ref a0_held]), (a0_row, aI E 525 o.2)] 121 → G E K 6 0 0 [(0, .ref a0), (1, .int x1), (2, .int x2)] [] [(a0, oB 8 [.ref a0_row, .int va0_isKept, .ref a0_lanes, .ref a0_sizes, .ref a0_items, .ref a0_tape, .int va0_length, .int va0_at, .int va0_number, .ref a0_readIce, .int va0_readCells, .ref a0_readPeople, .int va0_readMany, .ref a0_readSayings, .int va0_readSaid, .ref a0_line, .ref a0_bestLine, .int va0_bestFar, .int va0_bestIce, .ref a0_seen, .ref a0_held]), (a0_row, aI E 525 va0_row)] 33 := by
  intro n
  induction n with
  | zero => intro x2 va0_row o hf; cases hf
  | succ n ih =>
    intro x2 va0_row o hf hG
    rw [fX8_drift_L33] at hf
    refine g_iload_n k 2 dX8_drift_33 rfl rfl ?_
    refine g_iload_n k 1 dX8_drift_34 rfl rfl ?_
    refine g_icmp_ge k (tgt := 121) dX8_drift_35 (by decide) (fun c5 => ?_) (fun c5 => ?_)
    · replace hf := ite_t c5 hf
      refine g_lv [0, 1, 2] rfl ?_
      obtain rfl := Option.some.inj hf
      exact hG
    · replace hf := ite_f c5 hf
      refine g_aload_n k 0 dX8_drift_38 rfl rfl ?_
      obtain ⟨o6, ho7, hf⟩ := bnd_some hf
      refine g_cv k miX8_keepPast mvX8_keepPast (ctX8_keepPast (kL K) E N a0 a0_row a0_lanes a0_sizes a0_items a0_tape a0_readIce a0_readPeople a0_readSayings a0_line a0_bestLine a0_seen a0_held va0_isKept va0_length va0_at va0_number va0_readCells va0_readMany va0_readSaid va0_bestFar va0_bestIce va0_row  o6 ho7) [0, 1] 0 (ws' := [(a0, oB 8 [.ref a0_row, .int va0_isKept, .ref a0_lanes, .ref a0_sizes, .ref a0_items, .ref a0_tape, .int va0_length, .int va0_at, .int va0_number, .ref a0_readIce, .int va0_readCells, .ref a0_readPeople, .int va0_readMany, .ref a0_readSayings, .int va0_readSaid, .ref a0_line, .ref a0_bestLine, .int va0_bestFar, .int va0_bestIce, .ref a0_seen, .ref a0_held]), (a0_row, aI E 525 o6)]) dX8_drift_39 lkX8_179 rfl ⟨rfl, rfl⟩ ⟨by decide, by decide⟩ rfl rfl rfl rfl (Nat.le_of_ble_eq_true rfl) rfl rfl rfl ?_
      refine g_st (st' := []) rfl ?_
      refine g_aload_n k 0 dX8_drift_42 rfl rfl ?_
      refine g_get k cfX8 0 0 dX8_drift_43 lkX8_7 (by decide) rfl rfl ?_
      refine g_iconst k dX8_drift_46 ic_2 ?_
      refine g_iaload k 1 dX8_drift_47 rfl vi_2_525 cl_2 ?_
      refine g_i2l k dX8_drift_48 ?_
      refine g_ldc2 k dX8_drift_49 lkX8_187 ?_
      refine g_lmul k dX8_drift_52 ?_
      refine g_ldc2 k dX8_drift_53 lkX8_189 ?_
      refine g_ladd k dX8_drift_56 ?_
      refine g_lstore_n k (lv' := [(3, .long ((((o6 2).toInt64) * 1103515245) + 12345)), (0, .ref a0), (1, .int x1), (2, .int x2)]) dX8_drift_57 rfl (by decide) rfl ?_
      refine g_aload_n k 1 dX8_drift_58 rfl rfl ?_
      refine g_get k cfX8 0 0 dX8_drift_59 lkX8_7 (by decide) rfl rfl ?_
      refine g_iconst k dX8_drift_62 ic_2 ?_
      refine g_lload_n k 0 dX8_drift_63 rfl rfl ?_
      refine g_ldc2 k dX8_drift_64 lkX8_191 ?_
      refine g_land k dX8_drift_67 ?_
      refine g_l2i k dX8_drift_68 ?_
      refine g_iastore k 1 (ws' := [(a0, oB 8 [.ref a0_row, .int va0_isKept, .ref a0_lanes, .ref a0_sizes, .ref a0_items, .ref a0_tape, .int va0_length, .int va0_at, .int va0_number, .ref a0_readIce, .int va0_readCells, .ref a0_readPeople, .int va0_readMany, .ref a0_readSayings, .int va0_readSaid, .ref a0_line, .ref a0_bestLine, .int va0_bestFar, .int va0_bestIce, .ref a0_seen, .ref a0_held]), (a0_row, aI E 525 (upd o6 2 ((((((o6 2).toInt64) * 1103515245) + 12345) &&& 2147483647).toInt32)))]) dX8_drift_69 rfl vi_2_525 cl_2 rfl ?_
      refine g_aload_n k 1 dX8_drift_70 rfl rfl ?_
      refine g_get k cfX8 0 0 dX8_drift_71 lkX8_7 (by decide) rfl rfl ?_
      refine g_iconst k dX8_drift_74 ic_2 ?_
      refine g_iaload k 1 dX8_drift_75 rfl vi_2_525 cl_2 ?_
      refine g_ldc k dX8_drift_76 lkX8_193 ?_
      refine g_idiv k dX8_drift_78 (by decide) ?_
      refine g_aload_n k 1 dX8_drift_79 rfl rfl ?_
      refine g_get k cfX8 0 0 dX8_drift_80 lkX8_7 (by decide) rfl rfl ?_
      refine g_bipush k dX8_drift_83 bi_28 ?_
      refine g_iaload k 1 dX8_drift_85 rfl vi_28_525 cl_28 ?_
      refine g_iconst k dX8_drift_86 ic_1 ?_
      refine g_iadd k dX8_drift_87 ?_
      obtain ⟨hz8, hf⟩ := dvb_some hf
      refine g_irem k dX8_drift_88 hz8 ?_
      refine g_istore k (lv' := [(5, .int (irem (((upd o6 2 ((((((o6 2).toInt64) * 1103515245) + 12345) &&& 2147483647).toInt32)) 2) / 65536) (((upd o6 2 ((((((o6 2).toInt64) * 1103515245) + 12345) &&& 2147483647).toInt32)) 28) + 1))), (3, .long ((((o6 2).toInt64) * 1103515245) + 12345)), (0, .ref a0), (1, .int x1), (2, .int x2)]) dX8_drift_89 (by decide) rfl ?_
      refine g_aload_n k 2 dX8_drift_91 rfl rfl ?_
      refine g_iconst k dX8_drift_92 ic_0 ?_
      refine g_iload k 0 dX8_drift_93 rfl ?_
      refine g_aload_n k 2 dX8_drift_95 rfl rfl ?_
      refine g_get k cfX8 0 0 dX8_drift_96 lkX8_7 (by decide) rfl rfl ?_
      refine g_bipush k dX8_drift_99 bi_28 ?_
      refine g_iaload k 1 dX8_drift_101 rfl vi_28_525 cl_28 ?_
      refine g_icmp_ne k (tgt := 110) dX8_drift_102 (by decide) (fun c9 => ?_) (fun c9 => ?_)
      · replace hf := ite_f c9 hf
        refine g_iload k 0 dX8_drift_110 rfl ?_
        obtain ⟨o10, ho11, hf⟩ := bnd_some hf
        refine g_cv k miX8_pass mvX8_pass (ctX8_pass (kL K) E N a0 a0_row a0_lanes a0_sizes a0_items a0_tape a0_readIce a0_readPeople a0_readSayings a0_line a0_bestLine a0_seen a0_held va0_isKept va0_length va0_at va0_number va0_readCells va0_readMany va0_readSaid va0_bestFar va0_bestIce (upd o6 2 ((((((o6 2).toInt64) * 1103515245) + 12345) &&& 2147483647).toInt32)) 0 (irem (((upd o6 2 ((((((o6 2).toInt64) * 1103515245) + 12345) &&& 2147483647).toInt32)) 2) / 65536) (((upd o6 2 ((((((o6 2).toInt64) * 1103515245) + 12345) &&& 2147483647).toInt32)) 28) + 1)) o10 ho11) [0, 1] 0 (ws' := [(a0, oB 8 [.ref a0_row, .int va0_isKept, .ref a0_lanes, .ref a0_sizes, .ref a0_items, .ref a0_tape, .int va0_length, .int va0_at, .int va0_number, .ref a0_readIce, .int va0_readCells, .ref a0_readPeople, .int va0_readMany, .ref a0_readSayings, .int va0_readSaid, .ref a0_line, .ref a0_bestLine, .int va0_bestFar, .int va0_bestIce, .ref a0_seen, .ref a0_held]), (a0_row, aI E 525 o10)]) dX8_drift_112 lkX8_182 rfl ⟨rfl, rfl⟩ ⟨by decide, by decide⟩ rfl rfl rfl rfl (Nat.le_of_ble_eq_true rfl) rfl rfl rfl ?_
        refine g_st (st' := []) rfl ?_
        refine g_iinc k (lv' := [(2, .int (x2 + 1)), (5, .int (irem (((upd o6 2 ((((((o6 2).toInt64) * 1103515245) + 12345) &&& 2147483647).toInt32)) 2) / 65536) (((upd o6 2 ((((((o6 2).toInt64) * 1103515245) + 12345) &&& 2147483647).toInt32)) 28) + 1))), (3, .long ((((o6 2).toInt64) * 1103515245) + 12345)), (0, .ref a0), (1, .int x1)]) 4 dX8_drift_115 rfl (ii_1 _) (by decide) rfl ?_
        refine g_goto k (tgt := 33) dX8_drift_118 (by decide) ?_
        refine g_lv [3, 4, 0] rfl ?_
        exact ih (x2 + 1) o10 o hf hG
      · replace hf := ite_t c9 hf
        refine g_bipush k dX8_drift_105 bi_m4 ?_
        refine g_goto k (tgt := 112) dX8_drift_107 (by decide) ?_
        obtain ⟨o12, ho13, hf⟩ := bnd_some hf
        refine g_cv k miX8_pass mvX8_pass (ctX8_pass (kL K) E N a0 a0_row a0_lanes a0_sizes a0_items a0_tape a0_readIce a0_readPeople a0_readSayings a0_line a0_bestLine a0_seen a0_held va0_isKept va0_length va0_at va0_number va0_readCells va0_readMany va0_readSaid va0_bestFar va0_bestIce (upd o6 2 ((((((o6 2).toInt64) * 1103515245) + 12345) &&& 2147483647).toInt32)) 0 (-4) o12 ho13) [0, 1] 0 (ws' := [(a0, oB 8 [.ref a0_row, .int va0_isKept, .ref a0_lanes, .ref a0_sizes, .ref a0_items, .ref a0_tape, .int va0_length, .int va0_at, .int va0_number, .ref a0_readIce, .int va0_readCells, .ref a0_readPeople, .int va0_readMany, .ref a0_readSayings, .int va0_readSaid, .ref a0_line, .ref a0_bestLine, .int va0_bestFar, .int va0_bestIce, .ref a0_seen, .ref a0_held]), (a0_row, aI E 525 o12)]) dX8_drift_112 lkX8_182 rfl ⟨rfl, rfl⟩ ⟨by decide, by decide⟩ rfl rfl rfl rfl (Nat.le_of_ble_eq_true rfl) rfl rfl rfl ?_
        refine g_st (st' := []) rfl ?_
        refine g_iinc k (lv' := [(2, .int (x2 + 1)), (5, .int (irem (((upd o6 2 ((((((o6 2).toInt64) * 1103515245) + 12345) &&& 2147483647).toInt32)) 2) / 65536) (((upd o6 2 ((((((o6 2).toInt64) * 1103515245) + 12345) &&& 2147483647).toInt32)) 28) + 1))), (3, .long ((((o6 2).toInt64) * 1103515245) + 12345)), (0, .ref a0), (1, .int x1)]) 4 dX8_drift_115 rfl (ii_1 _) (by decide) rfl ?_
        refine g_goto k (tgt := 33) dX8_drift_118 (by decide) ?_
        refine g_lv [3, 4, 0] rfl ?_
        exact ih (x2 + 1) o12 o hf hG
def fX8_drift (N : Nat) (va0_row : Nat → Int32) (x1 : Int32) : Option (Int32 × (Nat → Int32)) :=
  bnd (fX8_in N x1.toInt64 1 40) fun o1 =>
  if o1 = 0 then
  some ((-1), va0_row)
  else
  if ((va0_row 1) + x1) ≤ 9999 then
  bnd (fX8_drift_L33 N x1 N 0 va0_row) fun o14 =>
  some ((o14.2 0), o14.2)
  else
  some ((-3), va0_row)
set_option maxHeartbeats 4000000 in
set_option maxRecDepth 100000 in
theorem ctX8_drift (l : Launch) (E : Ev) (N : Nat) (a0 : Nat) (a0_row : Nat) (a0_lanes : Nat) (a0_sizes : Nat) (a0_items : Nat) (a0_tape : Nat) (a0_readIce : Nat) (a0_readPeople : Nat) (a0_readSayings : Nat) (a0_line : Nat) (a0_bestLine : Nat) (a0_seen : Nat) (a0_held : Nat) (va0_isKept : Int32) (va0_length : Int32) (va0_at : Int32) (va0_number : Int32) (va0_readCells : Int32) (va0_readMany : Int32) (va0_readSaid : Int32) (va0_bestFar : Int32) (va0_bestIce : Int32) (va0_row : Nat → Int32) (x1 : Int32) (out : Int32 × (Nat → Int32)) (hf : fX8_drift N va0_row x1 = some out) : Ct l E yX8_drift cX8_drift 6 (some .int) rmX8_drift [.ref a0, .int x1] [(a0, oB 8 [.ref a0_row, .int va0_isKept, .ref a0_lanes, .ref a0_sizes, .ref a0_items, .ref a0_tape, .int va0_length, .int va0_at, .int va0_number, .ref a0_readIce, .int va0_readCells, .ref a0_readPeople, .int va0_readMany, .ref a0_readSayings, .int va0_readSaid, .ref a0_line, .ref a0_bestLine, .int va0_bestFar, .int va0_bestIce, .ref a0_seen, .ref a0_held]), (a0_row, aI E 525 va0_row)] (Pe (some (.int out.1)) [(a0, oB 8 [.ref a0_row, .int va0_isKept, .ref a0_lanes, .ref a0_sizes, .ref a0_items, .ref a0_tape, .int va0_length, .int va0_at, .int va0_number, .ref a0_readIce, .int va0_readCells, .ref a0_readPeople, .int va0_readMany, .ref a0_readSayings, .int va0_readSaid, .ref a0_line, .ref a0_bestLine, .int va0_bestFar, .int va0_bestIce, .ref a0_seen, .ref a0_held]), (a0_row, aI E 525 out.2)]) := by
  refine Ct.of rfl (Nat.le_of_ble_eq_true rfl) (fun K hL k r hin => ?_)
  subst hL
  unfold fX8_drift at hf
  show G E K 6 0 0 [(0, .ref a0), (1, .int x1)] [] [(a0, oB 8 [.ref a0_row, .int va0_isKept, .ref a0_lanes, .ref a0_sizes, .ref a0_items, .ref a0_tape, .int va0_length, .int va0_at, .int va0_number, .ref a0_readIce, .int va0_readCells, .ref a0_readPeople, .int va0_readMany, .ref a0_readSayings, .int va0_readSaid, .ref a0_line, .ref a0_bestLine, .int va0_bestFar, .int va0_bestIce, .ref a0_seen, .ref a0_held]), (a0_row, aI E 525 va0_row)] 0
  refine g_iload_n k 1 dX8_drift_0 rfl rfl ?_
  refine g_i2l k dX8_drift_1 ?_
  refine g_lconst k dX8_drift_2 lc_1 ?_
  refine g_ldc2 k dX8_drift_3 lkX8_185 ?_
  obtain ⟨o1, ho2, hf⟩ := bnd_some hf
  refine g_cs k miX8_in msX8_in (ctX8_in (kL K) E N   x1.toInt64 1 40 o1 ho2) [] (ws' := [(a0, oB 8 [.ref a0_row, .int va0_isKept, .ref a0_lanes, .ref a0_sizes, .ref a0_items, .ref a0_tape, .int va0_length, .int va0_at, .int va0_number, .ref a0_readIce, .int va0_readCells, .ref a0_readPeople, .int va0_readMany, .ref a0_readSayings, .int va0_readSaid, .ref a0_line, .ref a0_bestLine, .int va0_bestFar, .int va0_bestIce, .ref a0_seen, .ref a0_held]), (a0_row, aI E 525 va0_row)]) dX8_drift_6 lkX8_47 rfl ⟨rfl, rfl⟩ ⟨by decide, by decide⟩ rfl rfl rfl (Nat.le_of_ble_eq_true rfl) rfl rfl rfl ?_
  refine g_st (st' := [.int o1]) rfl ?_
  refine g_if_ne k (tgt := 14) dX8_drift_9 (by decide) (fun c3 => ?_) (fun c3 => ?_)
  · replace hf := ite_f c3 hf
    refine g_aload_n k 0 dX8_drift_14 rfl rfl ?_
    refine g_get k cfX8 0 0 dX8_drift_15 lkX8_7 (by decide) rfl rfl ?_
    refine g_iconst k dX8_drift_18 ic_1 ?_
    refine g_iaload k 1 dX8_drift_19 rfl vi_1_525 cl_1 ?_
    refine g_iload_n k 1 dX8_drift_20 rfl rfl ?_
    refine g_iadd k dX8_drift_21 ?_
    refine g_sipush k dX8_drift_22 si_9999 ?_
    refine g_icmp_le k (tgt := 31) dX8_drift_25 (by decide) (fun c4 => ?_) (fun c4 => ?_)
    · replace hf := ite_t c4 hf
      refine g_iconst k dX8_drift_31 ic_0 ?_
      refine g_istore_n k (lv' := [(2, .int 0), (0, .ref a0), (1, .int x1)]) dX8_drift_32 rfl (by decide) rfl ?_
      obtain ⟨o14, ho15, hf⟩ := bnd_some hf
      refine g_lv [1, 2, 0] (lv' := [(0, .ref a0), (1, .int x1), (2, .int 0)]) rfl ?_
      refine wX8_drift_L33 k N a0 a0_row a0_lanes a0_sizes a0_items a0_tape a0_readIce a0_readPeople a0_readSayings a0_line a0_bestLine a0_seen a0_held  x1 va0_isKept va0_length va0_at va0_number va0_readCells va0_readMany va0_readSaid va0_bestFar va0_bestIce N 0 va0_row o14 ho15 ?_
      refine g_aload_n k 0 dX8_drift_121 rfl rfl ?_
      refine g_get k cfX8 0 0 dX8_drift_122 lkX8_7 (by decide) rfl rfl ?_
      refine g_iconst k dX8_drift_125 ic_0 ?_
      refine g_iaload k 1 dX8_drift_126 rfl vi_0_525 cl_0 ?_
      obtain rfl := Option.some.inj hf
      exact g_iret k r dX8_drift_127 ⟨rfl, rfl⟩
    · replace hf := ite_f c4 hf
      refine g_bipush k dX8_drift_28 bi_m3 ?_
      obtain rfl := Option.some.inj hf
      exact g_iret k r dX8_drift_30 ⟨rfl, rfl⟩
  · replace hf := ite_t c3 hf
    refine g_iconst k dX8_drift_12 ic_m1 ?_
    obtain rfl := Option.some.inj hf
    exact g_iret k r dX8_drift_13 ⟨rfl, rfl⟩
abbrev rmX8_undo : Room := { frames := 0, cells := 0, slots := 0, locals := 0 }
def fX8_undo_L26 (N : Nat)  : Nat → Int32 → (Nat → Int32) → Option (Int32 × (Nat → Int32))
  | 0, _, _ => none
  | n + 1, x1, va0_row =>
    if 25 ≤ x1 then
    some (x1, va0_row)
    else
    ixb ((42 + (25 * (va0_row 41))) + x1) 525 fun κ3 =>
    ixb x1 525 fun κ4 =>
    fX8_undo_L26 N  n (x1 + 1) (upd va0_row κ4 (va0_row κ3))
set_option maxHeartbeats 4000000 in
set_option maxRecDepth 100000 in
theorem wX8_undo_L26 {E : Ev} {K : KX} (k : OKX E K cX8_undo RX8 2 rmX8_undo) (N : Nat) (a0 : Nat) (a0_row : Nat) (a0_lanes : Nat) (a0_sizes : Nat) (a0_items : Nat) (a0_tape : Nat) (a0_readIce : Nat) (a0_readPeople : Nat) (a0_readSayings : Nat) (a0_line : Nat) (a0_bestLine : Nat) (a0_seen : Nat) (a0_held : Nat) (va0_isKept : Int32) (va0_length : Int32) (va0_at : Int32) (va0_number : Int32) (va0_readCells : Int32) (va0_readMany : Int32) (va0_readSaid : Int32) (va0_bestFar : Int32) (va0_bestIce : Int32) : ∀ (n : Nat) (x1 : Int32) (va0_row : Nat → Int32) (o : Int32 × (Nat → Int32)), fX8_undo_L26 N  n x1 va0_row = some o → G E K 2 0 0 [(0, .ref a0), (1, .int o.1)] [] [(a0, oB 8 [.ref a0_row, .int va0_isKept, .ref a0_lanes, .ref a0_sizes, .ref a0_items, .ref a0_tape, .int va0_length, .int va0_at, .int va0_number, .ref a0_readIce, .int va0_readCells, .ref a0_readPeople, .int va0_readMany, .ref a0_readSayings, .int va0_readSaid, .ref a0_line, .ref a0_bestLine, .int va0_bestFar, .int va0_bestIce, .ref a0_seen, .ref a0_held]), (a0_row, aI E 525 o.2)] 64 → G E K 2 0 0 [(0, .ref a0), (1, .int x1)] [] [(a0, oB 8 [.ref a0_row, .int va0_isKept, .ref a0_lanes, .ref a0_sizes, .ref a0_items, .ref a0_tape, .int va0_length, .int va0_at, .int va0_number, .ref a0_readIce, .int va0_readCells, .ref a0_readPeople, .int va0_readMany, .ref a0_readSayings, .int va0_readSaid, .ref a0_line, .ref a0_bestLine, .int va0_bestFar, .int va0_bestIce, .ref a0_seen, .ref a0_held]), (a0_row, aI E 525 va0_row)] 26 := by
  intro n
  induction n with
  | zero => intro x1 va0_row o hf; cases hf
  | succ n ih =>
    intro x1 va0_row o hf hG
    rw [fX8_undo_L26] at hf
    refine g_iload_n k 1 dX8_undo_26 rfl rfl ?_
    refine g_bipush k dX8_undo_27 bi_25 ?_
    refine g_icmp_ge k (tgt := 64) dX8_undo_29 (by decide) (fun c2 => ?_) (fun c2 => ?_)
    · replace hf := ite_t c2 hf
      refine g_lv [0, 1] rfl ?_
      obtain rfl := Option.some.inj hf
      exact hG
    · replace hf := ite_f c2 hf
      refine g_aload_n k 0 dX8_undo_32 rfl rfl ?_
      refine g_get k cfX8 0 0 dX8_undo_33 lkX8_7 (by decide) rfl rfl ?_
      refine g_iload_n k 1 dX8_undo_36 rfl rfl ?_
      refine g_aload_n k 0 dX8_undo_37 rfl rfl ?_
      refine g_get k cfX8 0 0 dX8_undo_38 lkX8_7 (by decide) rfl rfl ?_
      refine g_bipush k dX8_undo_41 bi_42 ?_
      refine g_bipush k dX8_undo_43 bi_25 ?_
      refine g_aload_n k 0 dX8_undo_45 rfl rfl ?_
      refine g_get k cfX8 0 0 dX8_undo_46 lkX8_7 (by decide) rfl rfl ?_
      refine g_bipush k dX8_undo_49 bi_41 ?_
      refine g_iaload k 1 dX8_undo_51 rfl vi_41_525 cl_41 ?_
      refine g_imul k dX8_undo_52 ?_
      refine g_iadd k dX8_undo_53 ?_
      refine g_iload_n k 1 dX8_undo_54 rfl rfl ?_
      refine g_iadd k dX8_undo_55 ?_
      obtain ⟨κ3, hκ3, hiκ3, heκ3, hf⟩ := ixb_some hf
      refine g_iaload k 1 dX8_undo_56 rfl hiκ3 heκ3 ?_
      obtain ⟨κ4, hκ4, hiκ4, heκ4, hf⟩ := ixb_some hf
      refine g_iastore k 1 (ws' := [(a0, oB 8 [.ref a0_row, .int va0_isKept, .ref a0_lanes, .ref a0_sizes, .ref a0_items, .ref a0_tape, .int va0_length, .int va0_at, .int va0_number, .ref a0_readIce, .int va0_readCells, .ref a0_readPeople, .int va0_readMany, .ref a0_readSayings, .int va0_readSaid, .ref a0_line, .ref a0_bestLine, .int va0_bestFar, .int va0_bestIce, .ref a0_seen, .ref a0_held]), (a0_row, aI E 525 (upd va0_row κ4 (va0_row κ3)))]) dX8_undo_57 rfl hiκ4 heκ4 rfl ?_
      refine g_iinc k (lv' := [(1, .int (x1 + 1)), (0, .ref a0)]) 1 dX8_undo_58 rfl (ii_1 _) (by decide) rfl ?_
      refine g_goto k (tgt := 26) dX8_undo_61 (by decide) ?_
      refine g_lv [1, 0] rfl ?_
      exact ih (x1 + 1) (upd va0_row κ4 (va0_row κ3)) o hf hG
def fX8_undo (N : Nat) (va0_row : Nat → Int32)  : Option (Int32 × (Nat → Int32)) :=
  if (va0_row 41) = 0 then
  some ((-4), va0_row)
  else
  bnd (fX8_undo_L26 N  N 0 (upd va0_row 41 ((va0_row 41) - 1))) fun o5 =>
  some ((o5.2 41), o5.2)
set_option maxHeartbeats 4000000 in
set_option maxRecDepth 100000 in
theorem ctX8_undo (l : Launch) (E : Ev) (N : Nat) (a0 : Nat) (a0_row : Nat) (a0_lanes : Nat) (a0_sizes : Nat) (a0_items : Nat) (a0_tape : Nat) (a0_readIce : Nat) (a0_readPeople : Nat) (a0_readSayings : Nat) (a0_line : Nat) (a0_bestLine : Nat) (a0_seen : Nat) (a0_held : Nat) (va0_isKept : Int32) (va0_length : Int32) (va0_at : Int32) (va0_number : Int32) (va0_readCells : Int32) (va0_readMany : Int32) (va0_readSaid : Int32) (va0_bestFar : Int32) (va0_bestIce : Int32) (va0_row : Nat → Int32)  (out : Int32 × (Nat → Int32)) (hf : fX8_undo N va0_row  = some out) : Ct l E yX8_undo cX8_undo 2 (some .int) rmX8_undo [.ref a0] [(a0, oB 8 [.ref a0_row, .int va0_isKept, .ref a0_lanes, .ref a0_sizes, .ref a0_items, .ref a0_tape, .int va0_length, .int va0_at, .int va0_number, .ref a0_readIce, .int va0_readCells, .ref a0_readPeople, .int va0_readMany, .ref a0_readSayings, .int va0_readSaid, .ref a0_line, .ref a0_bestLine, .int va0_bestFar, .int va0_bestIce, .ref a0_seen, .ref a0_held]), (a0_row, aI E 525 va0_row)] (Pe (some (.int out.1)) [(a0, oB 8 [.ref a0_row, .int va0_isKept, .ref a0_lanes, .ref a0_sizes, .ref a0_items, .ref a0_tape, .int va0_length, .int va0_at, .int va0_number, .ref a0_readIce, .int va0_readCells, .ref a0_readPeople, .int va0_readMany, .ref a0_readSayings, .int va0_readSaid, .ref a0_line, .ref a0_bestLine, .int va0_bestFar, .int va0_bestIce, .ref a0_seen, .ref a0_held]), (a0_row, aI E 525 out.2)]) := by
  refine Ct.of rfl (Nat.le_of_ble_eq_true rfl) (fun K hL k r hin => ?_)
  subst hL
  unfold fX8_undo at hf
  show G E K 2 0 0 [(0, .ref a0)] [] [(a0, oB 8 [.ref a0_row, .int va0_isKept, .ref a0_lanes, .ref a0_sizes, .ref a0_items, .ref a0_tape, .int va0_length, .int va0_at, .int va0_number, .ref a0_readIce, .int va0_readCells, .ref a0_readPeople, .int va0_readMany, .ref a0_readSayings, .int va0_readSaid, .ref a0_line, .ref a0_bestLine, .int va0_bestFar, .int va0_bestIce, .ref a0_seen, .ref a0_held]), (a0_row, aI E 525 va0_row)] 0
  refine g_aload_n k 0 dX8_undo_0 rfl rfl ?_
  refine g_get k cfX8 0 0 dX8_undo_1 lkX8_7 (by decide) rfl rfl ?_
  refine g_bipush k dX8_undo_4 bi_41 ?_
  refine g_iaload k 1 dX8_undo_6 rfl vi_41_525 cl_41 ?_
  refine g_if_ne k (tgt := 13) dX8_undo_7 (by decide) (fun c1 => ?_) (fun c1 => ?_)
  · replace hf := ite_f c1 hf
    refine g_aload_n k 0 dX8_undo_13 rfl rfl ?_
    refine g_get k cfX8 0 0 dX8_undo_14 lkX8_7 (by decide) rfl rfl ?_
    refine g_bipush k dX8_undo_17 bi_41 ?_
    refine g_dup2 k dX8_undo_19 rfl rfl ?_
    refine g_iaload k 1 dX8_undo_20 rfl vi_41_525 cl_41 ?_
    refine g_iconst k dX8_undo_21 ic_1 ?_
    refine g_isub k dX8_undo_22 ?_
    refine g_iastore k 1 (ws' := [(a0, oB 8 [.ref a0_row, .int va0_isKept, .ref a0_lanes, .ref a0_sizes, .ref a0_items, .ref a0_tape, .int va0_length, .int va0_at, .int va0_number, .ref a0_readIce, .int va0_readCells, .ref a0_readPeople, .int va0_readMany, .ref a0_readSayings, .int va0_readSaid, .ref a0_line, .ref a0_bestLine, .int va0_bestFar, .int va0_bestIce, .ref a0_seen, .ref a0_held]), (a0_row, aI E 525 (upd va0_row 41 ((va0_row 41) - 1)))]) dX8_undo_23 rfl vi_41_525 cl_41 rfl ?_
    refine g_iconst k dX8_undo_24 ic_0 ?_
    refine g_istore_n k (lv' := [(1, .int 0), (0, .ref a0)]) dX8_undo_25 rfl (by decide) rfl ?_
    obtain ⟨o5, ho6, hf⟩ := bnd_some hf
    refine g_lv [1, 0] (lv' := [(0, .ref a0), (1, .int 0)]) rfl ?_
    refine wX8_undo_L26 k N a0 a0_row a0_lanes a0_sizes a0_items a0_tape a0_readIce a0_readPeople a0_readSayings a0_line a0_bestLine a0_seen a0_held   va0_isKept va0_length va0_at va0_number va0_readCells va0_readMany va0_readSaid va0_bestFar va0_bestIce N 0 (upd va0_row 41 ((va0_row 41) - 1)) o5 ho6 ?_
    refine g_aload_n k 0 dX8_undo_64 rfl rfl ?_
    refine g_get k cfX8 0 0 dX8_undo_65 lkX8_7 (by decide) rfl rfl ?_
    refine g_bipush k dX8_undo_68 bi_41 ?_
    refine g_iaload k 1 dX8_undo_70 rfl vi_41_525 cl_41 ?_
    obtain rfl := Option.some.inj hf
    exact g_iret k r dX8_undo_71 ⟨rfl, rfl⟩
  · replace hf := ite_t c1 hf
    refine g_bipush k dX8_undo_10 bi_m4 ?_
    obtain rfl := Option.some.inj hf
    exact g_iret k r dX8_undo_12 ⟨rfl, rfl⟩
abbrev rmX8_seed : Room := { frames := 0, cells := 0, slots := 0, locals := 0 }
def fX8_seed (N : Nat) (va0_row : Nat → Int32) (x1 : Int32) : Option (Int32 × (Nat → Int32)) :=
  if 0 ≤ x1 then
  some ((va0_row 2), (upd va0_row 2 x1))
  else
  some ((-1), va0_row)
set_option maxHeartbeats 4000000 in
set_option maxRecDepth 100000 in
theorem ctX8_seed (l : Launch) (E : Ev) (N : Nat) (a0 : Nat) (a0_row : Nat) (a0_lanes : Nat) (a0_sizes : Nat) (a0_items : Nat) (a0_tape : Nat) (a0_readIce : Nat) (a0_readPeople : Nat) (a0_readSayings : Nat) (a0_line : Nat) (a0_bestLine : Nat) (a0_seen : Nat) (a0_held : Nat) (va0_isKept : Int32) (va0_length : Int32) (va0_at : Int32) (va0_number : Int32) (va0_readCells : Int32) (va0_readMany : Int32) (va0_readSaid : Int32) (va0_bestFar : Int32) (va0_bestIce : Int32) (va0_row : Nat → Int32) (x1 : Int32) (out : Int32 × (Nat → Int32)) (hf : fX8_seed N va0_row x1 = some out) : Ct l E yX8_seed cX8_seed 3 (some .int) rmX8_seed [.ref a0, .int x1] [(a0, oB 8 [.ref a0_row, .int va0_isKept, .ref a0_lanes, .ref a0_sizes, .ref a0_items, .ref a0_tape, .int va0_length, .int va0_at, .int va0_number, .ref a0_readIce, .int va0_readCells, .ref a0_readPeople, .int va0_readMany, .ref a0_readSayings, .int va0_readSaid, .ref a0_line, .ref a0_bestLine, .int va0_bestFar, .int va0_bestIce, .ref a0_seen, .ref a0_held]), (a0_row, aI E 525 va0_row)] (Pe (some (.int out.1)) [(a0, oB 8 [.ref a0_row, .int va0_isKept, .ref a0_lanes, .ref a0_sizes, .ref a0_items, .ref a0_tape, .int va0_length, .int va0_at, .int va0_number, .ref a0_readIce, .int va0_readCells, .ref a0_readPeople, .int va0_readMany, .ref a0_readSayings, .int va0_readSaid, .ref a0_line, .ref a0_bestLine, .int va0_bestFar, .int va0_bestIce, .ref a0_seen, .ref a0_held]), (a0_row, aI E 525 out.2)]) := by
  refine Ct.of rfl (Nat.le_of_ble_eq_true rfl) (fun K hL k r hin => ?_)
  subst hL
  unfold fX8_seed at hf
  show G E K 3 0 0 [(0, .ref a0), (1, .int x1)] [] [(a0, oB 8 [.ref a0_row, .int va0_isKept, .ref a0_lanes, .ref a0_sizes, .ref a0_items, .ref a0_tape, .int va0_length, .int va0_at, .int va0_number, .ref a0_readIce, .int va0_readCells, .ref a0_readPeople, .int va0_readMany, .ref a0_readSayings, .int va0_readSaid, .ref a0_line, .ref a0_bestLine, .int va0_bestFar, .int va0_bestIce, .ref a0_seen, .ref a0_held]), (a0_row, aI E 525 va0_row)] 0
  refine g_iload_n k 1 dX8_seed_0 rfl rfl ?_
  refine g_if_ge k (tgt := 6) dX8_seed_1 (by decide) (fun c1 => ?_) (fun c1 => ?_)
  · replace hf := ite_t c1 hf
    refine g_aload_n k 0 dX8_seed_6 rfl rfl ?_
    refine g_get k cfX8 0 0 dX8_seed_7 lkX8_7 (by decide) rfl rfl ?_
    refine g_iconst k dX8_seed_10 ic_2 ?_
    refine g_iaload k 1 dX8_seed_11 rfl vi_2_525 cl_2 ?_
    refine g_istore_n k (lv' := [(2, .int (va0_row 2)), (0, .ref a0), (1, .int x1)]) dX8_seed_12 rfl (by decide) rfl ?_
    refine g_aload_n k 1 dX8_seed_13 rfl rfl ?_
    refine g_get k cfX8 0 0 dX8_seed_14 lkX8_7 (by decide) rfl rfl ?_
    refine g_iconst k dX8_seed_17 ic_2 ?_
    refine g_iload_n k 2 dX8_seed_18 rfl rfl ?_
    refine g_iastore k 1 (ws' := [(a0, oB 8 [.ref a0_row, .int va0_isKept, .ref a0_lanes, .ref a0_sizes, .ref a0_items, .ref a0_tape, .int va0_length, .int va0_at, .int va0_number, .ref a0_readIce, .int va0_readCells, .ref a0_readPeople, .int va0_readMany, .ref a0_readSayings, .int va0_readSaid, .ref a0_line, .ref a0_bestLine, .int va0_bestFar, .int va0_bestIce, .ref a0_seen, .ref a0_held]), (a0_row, aI E 525 (upd va0_row 2 x1))]) dX8_seed_19 rfl vi_2_525 cl_2 rfl ?_
    refine g_iload_n k 0 dX8_seed_20 rfl rfl ?_
    obtain rfl := Option.some.inj hf
    exact g_iret k r dX8_seed_21 ⟨rfl, rfl⟩
  · replace hf := ite_f c1 hf
    refine g_iconst k dX8_seed_4 ic_m1 ?_
    obtain rfl := Option.some.inj hf
    exact g_iret k r dX8_seed_5 ⟨rfl, rfl⟩
abbrev rmX8_layTried : Room := { frames := 0, cells := 0, slots := 0, locals := 0 }
def fX8_layTried_L2 (N : Nat)  : Nat → Int32 → (Nat → Int32) → Option (Int32 × (Nat → Int32))
  | 0, _, _ => none
  | n + 1, x1, va0_row =>
    if 41 ≤ x1 then
    some (x1, va0_row)
    else
    ixb x1 525 fun κ2 =>
    ixb (484 + x1) 525 fun κ3 =>
    fX8_layTried_L2 N  n (x1 + 1) (upd va0_row κ3 (va0_row κ2))
set_option maxHeartbeats 4000000 in
set_option maxRecDepth 100000 in
theorem wX8_layTried_L2 {E : Ev} {K : KX} (k : OKX E K cX8_layTried RX8 2 rmX8_layTried) (N : Nat) (a0 : Nat) (a0_row : Nat) (a0_lanes : Nat) (a0_sizes : Nat) (a0_items : Nat) (a0_tape : Nat) (a0_readIce : Nat) (a0_readPeople : Nat) (a0_readSayings : Nat) (a0_line : Nat) (a0_bestLine : Nat) (a0_seen : Nat) (a0_held : Nat) (va0_isKept : Int32) (va0_length : Int32) (va0_at : Int32) (va0_number : Int32) (va0_readCells : Int32) (va0_readMany : Int32) (va0_readSaid : Int32) (va0_bestFar : Int32) (va0_bestIce : Int32) : ∀ (n : Nat) (x1 : Int32) (va0_row : Nat → Int32) (o : Int32 × (Nat → Int32)), fX8_layTried_L2 N  n x1 va0_row = some o → G E K 2 0 0 [(0, .ref a0), (1, .int o.1)] [] [(a0, oB 8 [.ref a0_row, .int va0_isKept, .ref a0_lanes, .ref a0_sizes, .ref a0_items, .ref a0_tape, .int va0_length, .int va0_at, .int va0_number, .ref a0_readIce, .int va0_readCells, .ref a0_readPeople, .int va0_readMany, .ref a0_readSayings, .int va0_readSaid, .ref a0_line, .ref a0_bestLine, .int va0_bestFar, .int va0_bestIce, .ref a0_seen, .ref a0_held]), (a0_row, aI E 525 o.2)] 30 → G E K 2 0 0 [(0, .ref a0), (1, .int x1)] [] [(a0, oB 8 [.ref a0_row, .int va0_isKept, .ref a0_lanes, .ref a0_sizes, .ref a0_items, .ref a0_tape, .int va0_length, .int va0_at, .int va0_number, .ref a0_readIce, .int va0_readCells, .ref a0_readPeople, .int va0_readMany, .ref a0_readSayings, .int va0_readSaid, .ref a0_line, .ref a0_bestLine, .int va0_bestFar, .int va0_bestIce, .ref a0_seen, .ref a0_held]), (a0_row, aI E 525 va0_row)] 2 := by
  intro n
  induction n with
  | zero => intro x1 va0_row o hf; cases hf
  | succ n ih =>
    intro x1 va0_row o hf hG
    rw [fX8_layTried_L2] at hf
    refine g_iload_n k 1 dX8_layTried_2 rfl rfl ?_
    refine g_bipush k dX8_layTried_3 bi_41 ?_
    refine g_icmp_ge k (tgt := 30) dX8_layTried_5 (by decide) (fun c1 => ?_) (fun c1 => ?_)
    · replace hf := ite_t c1 hf
      refine g_lv [0, 1] rfl ?_
      obtain rfl := Option.some.inj hf
      exact hG
    · replace hf := ite_f c1 hf
      refine g_aload_n k 0 dX8_layTried_8 rfl rfl ?_
      refine g_get k cfX8 0 0 dX8_layTried_9 lkX8_7 (by decide) rfl rfl ?_
      refine g_sipush k dX8_layTried_12 si_484 ?_
      refine g_iload_n k 1 dX8_layTried_15 rfl rfl ?_
      refine g_iadd k dX8_layTried_16 ?_
      refine g_aload_n k 0 dX8_layTried_17 rfl rfl ?_
      refine g_get k cfX8 0 0 dX8_layTried_18 lkX8_7 (by decide) rfl rfl ?_
      refine g_iload_n k 1 dX8_layTried_21 rfl rfl ?_
      obtain ⟨κ2, hκ2, hiκ2, heκ2, hf⟩ := ixb_some hf
      refine g_iaload k 1 dX8_layTried_22 rfl hiκ2 heκ2 ?_
      obtain ⟨κ3, hκ3, hiκ3, heκ3, hf⟩ := ixb_some hf
      refine g_iastore k 1 (ws' := [(a0, oB 8 [.ref a0_row, .int va0_isKept, .ref a0_lanes, .ref a0_sizes, .ref a0_items, .ref a0_tape, .int va0_length, .int va0_at, .int va0_number, .ref a0_readIce, .int va0_readCells, .ref a0_readPeople, .int va0_readMany, .ref a0_readSayings, .int va0_readSaid, .ref a0_line, .ref a0_bestLine, .int va0_bestFar, .int va0_bestIce, .ref a0_seen, .ref a0_held]), (a0_row, aI E 525 (upd va0_row κ3 (va0_row κ2)))]) dX8_layTried_23 rfl hiκ3 heκ3 rfl ?_
      refine g_iinc k (lv' := [(1, .int (x1 + 1)), (0, .ref a0)]) 1 dX8_layTried_24 rfl (ii_1 _) (by decide) rfl ?_
      refine g_goto k (tgt := 2) dX8_layTried_27 (by decide) ?_
      refine g_lv [1, 0] rfl ?_
      exact ih (x1 + 1) (upd va0_row κ3 (va0_row κ2)) o hf hG
def fX8_layTried (N : Nat) (va0_row : Nat → Int32)  : Option ((Nat → Int32)) :=
  bnd (fX8_layTried_L2 N  N 0 va0_row) fun o4 =>
  some (o4.2)
set_option maxHeartbeats 4000000 in
set_option maxRecDepth 100000 in
theorem ctX8_layTried (l : Launch) (E : Ev) (N : Nat) (a0 : Nat) (a0_row : Nat) (a0_lanes : Nat) (a0_sizes : Nat) (a0_items : Nat) (a0_tape : Nat) (a0_readIce : Nat) (a0_readPeople : Nat) (a0_readSayings : Nat) (a0_line : Nat) (a0_bestLine : Nat) (a0_seen : Nat) (a0_held : Nat) (va0_isKept : Int32) (va0_length : Int32) (va0_at : Int32) (va0_number : Int32) (va0_readCells : Int32) (va0_readMany : Int32) (va0_readSaid : Int32) (va0_bestFar : Int32) (va0_bestIce : Int32) (va0_row : Nat → Int32)  (out : (Nat → Int32)) (hf : fX8_layTried N va0_row  = some out) : Ct l E yX8_layTried cX8_layTried 2 none rmX8_layTried [.ref a0] [(a0, oB 8 [.ref a0_row, .int va0_isKept, .ref a0_lanes, .ref a0_sizes, .ref a0_items, .ref a0_tape, .int va0_length, .int va0_at, .int va0_number, .ref a0_readIce, .int va0_readCells, .ref a0_readPeople, .int va0_readMany, .ref a0_readSayings, .int va0_readSaid, .ref a0_line, .ref a0_bestLine, .int va0_bestFar, .int va0_bestIce, .ref a0_seen, .ref a0_held]), (a0_row, aI E 525 va0_row)] (Pe none [(a0, oB 8 [.ref a0_row, .int va0_isKept, .ref a0_lanes, .ref a0_sizes, .ref a0_items, .ref a0_tape, .int va0_length, .int va0_at, .int va0_number, .ref a0_readIce, .int va0_readCells, .ref a0_readPeople, .int va0_readMany, .ref a0_readSayings, .int va0_readSaid, .ref a0_line, .ref a0_bestLine, .int va0_bestFar, .int va0_bestIce, .ref a0_seen, .ref a0_held]), (a0_row, aI E 525 out)]) := by
  refine Ct.of rfl (Nat.le_of_ble_eq_true rfl) (fun K hL k r hin => ?_)
  subst hL
  unfold fX8_layTried at hf
  show G E K 2 0 0 [(0, .ref a0)] [] [(a0, oB 8 [.ref a0_row, .int va0_isKept, .ref a0_lanes, .ref a0_sizes, .ref a0_items, .ref a0_tape, .int va0_length, .int va0_at, .int va0_number, .ref a0_readIce, .int va0_readCells, .ref a0_readPeople, .int va0_readMany, .ref a0_readSayings, .int va0_readSaid, .ref a0_line, .ref a0_bestLine, .int va0_bestFar, .int va0_bestIce, .ref a0_seen, .ref a0_held]), (a0_row, aI E 525 va0_row)] 0
  refine g_iconst k dX8_layTried_0 ic_0 ?_
  refine g_istore_n k (lv' := [(1, .int 0), (0, .ref a0)]) dX8_layTried_1 rfl (by decide) rfl ?_
  obtain ⟨o4, ho5, hf⟩ := bnd_some hf
  refine g_lv [1, 0] (lv' := [(0, .ref a0), (1, .int 0)]) rfl ?_
  refine wX8_layTried_L2 k N a0 a0_row a0_lanes a0_sizes a0_items a0_tape a0_readIce a0_readPeople a0_readSayings a0_line a0_bestLine a0_seen a0_held   va0_isKept va0_length va0_at va0_number va0_readCells va0_readMany va0_readSaid va0_bestFar va0_bestIce N 0 va0_row o4 ho5 ?_
  obtain rfl := Option.some.inj hf
  exact g_vret k r dX8_layTried_30 ⟨rfl, rfl⟩
abbrev rmX8_rock : Room := { frames := 5, cells := 0, slots := 0, locals := 122 }
def fX8_rock (N : Nat) (va0_row : Nat → Int32) (x1 : Int32) : Option (Int32) :=
  bnd (fX8_isSaying N va0_row x1) fun o1 =>
  if o1 = 0 then
  some ((-1))
  else
  bnd (fX8_rockOf N va0_row 0 x1) fun o4 =>
  some (o4)
set_option maxHeartbeats 4000000 in
set_option maxRecDepth 100000 in
theorem ctX8_rock (l : Launch) (E : Ev) (N : Nat) (a0 : Nat) (a0_row : Nat) (a0_lanes : Nat) (a0_sizes : Nat) (a0_items : Nat) (a0_tape : Nat) (a0_readIce : Nat) (a0_readPeople : Nat) (a0_readSayings : Nat) (a0_line : Nat) (a0_bestLine : Nat) (a0_seen : Nat) (a0_held : Nat) (va0_isKept : Int32) (va0_length : Int32) (va0_at : Int32) (va0_number : Int32) (va0_readCells : Int32) (va0_readMany : Int32) (va0_readSaid : Int32) (va0_bestFar : Int32) (va0_bestIce : Int32) (va0_row : Nat → Int32) (x1 : Int32) (out : Int32) (hf : fX8_rock N va0_row x1 = some out) : Ct l E yX8_rock cX8_rock 2 (some .int) rmX8_rock [.ref a0, .int x1] [(a0, oB 8 [.ref a0_row, .int va0_isKept, .ref a0_lanes, .ref a0_sizes, .ref a0_items, .ref a0_tape, .int va0_length, .int va0_at, .int va0_number, .ref a0_readIce, .int va0_readCells, .ref a0_readPeople, .int va0_readMany, .ref a0_readSayings, .int va0_readSaid, .ref a0_line, .ref a0_bestLine, .int va0_bestFar, .int va0_bestIce, .ref a0_seen, .ref a0_held]), (a0_row, aI E 525 va0_row)] (Pe (some (.int out)) [(a0, oB 8 [.ref a0_row, .int va0_isKept, .ref a0_lanes, .ref a0_sizes, .ref a0_items, .ref a0_tape, .int va0_length, .int va0_at, .int va0_number, .ref a0_readIce, .int va0_readCells, .ref a0_readPeople, .int va0_readMany, .ref a0_readSayings, .int va0_readSaid, .ref a0_line, .ref a0_bestLine, .int va0_bestFar, .int va0_bestIce, .ref a0_seen, .ref a0_held]), (a0_row, aI E 525 va0_row)]) := by
  refine Ct.of rfl (Nat.le_of_ble_eq_true rfl) (fun K hL k r hin => ?_)
  subst hL
  unfold fX8_rock at hf
  show G E K 2 0 0 [(0, .ref a0), (1, .int x1)] [] [(a0, oB 8 [.ref a0_row, .int va0_isKept, .ref a0_lanes, .ref a0_sizes, .ref a0_items, .ref a0_tape, .int va0_length, .int va0_at, .int va0_number, .ref a0_readIce, .int va0_readCells, .ref a0_readPeople, .int va0_readMany, .ref a0_readSayings, .int va0_readSaid, .ref a0_line, .ref a0_bestLine, .int va0_bestFar, .int va0_bestIce, .ref a0_seen, .ref a0_held]), (a0_row, aI E 525 va0_row)] 0
  refine g_aload_n k 0 dX8_rock_0 rfl rfl ?_
  refine g_iload_n k 1 dX8_rock_1 rfl rfl ?_
  obtain ⟨o1, ho2, hf⟩ := bnd_some hf
  refine g_cv k miX8_isSaying mvX8_isSaying (ctX8_isSaying (kL K) E N a0 a0_row a0_lanes a0_sizes a0_items a0_tape a0_readIce a0_readPeople a0_readSayings a0_line a0_bestLine a0_seen a0_held va0_isKept va0_length va0_at va0_number va0_readCells va0_readMany va0_readSaid va0_bestFar va0_bestIce va0_row x1 o1 ho2) [0, 1] 0 (ws' := [(a0, oB 8 [.ref a0_row, .int va0_isKept, .ref a0_lanes, .ref a0_sizes, .ref a0_items, .ref a0_tape, .int va0_length, .int va0_at, .int va0_number, .ref a0_readIce, .int va0_readCells, .ref a0_readPeople, .int va0_readMany, .ref a0_readSayings, .int va0_readSaid, .ref a0_line, .ref a0_bestLine, .int va0_bestFar, .int va0_bestIce, .ref a0_seen, .ref a0_held]), (a0_row, aI E 525 va0_row)]) dX8_rock_2 lkX8_100 rfl ⟨rfl, rfl⟩ ⟨by decide, by decide⟩ rfl rfl rfl rfl (Nat.le_of_ble_eq_true rfl) rfl rfl rfl ?_
  refine g_st (st' := [.int o1]) rfl ?_
  refine g_if_eq k (tgt := 17) dX8_rock_5 (by decide) (fun c3 => ?_) (fun c3 => ?_)
  · replace hf := ite_t c3 hf
    refine g_iconst k dX8_rock_17 ic_m1 ?_
    obtain rfl := Option.some.inj hf
    exact g_iret k r dX8_rock_18 ⟨rfl, rfl⟩
  · replace hf := ite_f c3 hf
    refine g_aload_n k 0 dX8_rock_8 rfl rfl ?_
    refine g_iconst k dX8_rock_9 ic_0 ?_
    refine g_iload_n k 1 dX8_rock_10 rfl rfl ?_
    obtain ⟨o4, ho5, hf⟩ := bnd_some hf
    refine g_cv k miX8_rockOf mvX8_rockOf (ctX8_rockOf (kL K) E N a0 a0_row a0_lanes a0_sizes a0_items a0_tape a0_readIce a0_readPeople a0_readSayings a0_line a0_bestLine a0_seen a0_held va0_isKept va0_length va0_at va0_number va0_readCells va0_readMany va0_readSaid va0_bestFar va0_bestIce va0_row 0 x1 o4 ho5) [0, 1] 0 (ws' := [(a0, oB 8 [.ref a0_row, .int va0_isKept, .ref a0_lanes, .ref a0_sizes, .ref a0_items, .ref a0_tape, .int va0_length, .int va0_at, .int va0_number, .ref a0_readIce, .int va0_readCells, .ref a0_readPeople, .int va0_readMany, .ref a0_readSayings, .int va0_readSaid, .ref a0_line, .ref a0_bestLine, .int va0_bestFar, .int va0_bestIce, .ref a0_seen, .ref a0_held]), (a0_row, aI E 525 va0_row)]) dX8_rock_11 lkX8_169 rfl ⟨rfl, rfl⟩ ⟨by decide, by decide⟩ rfl rfl rfl rfl (Nat.le_of_ble_eq_true rfl) rfl rfl rfl ?_
    refine g_st (st' := [.int o4]) rfl ?_
    refine g_goto k (tgt := 18) dX8_rock_14 (by decide) ?_
    obtain rfl := Option.some.inj hf
    exact g_iret k r dX8_rock_18 ⟨rfl, rfl⟩
abbrev rmX8_nextAt : Room := { frames := 5, cells := 0, slots := 0, locals := 122 }
def fX8_nextAt_L5 (N : Nat) (x1 : Int32) (va0_row : Nat → Int32) : Nat → Int32 → Int32 → Option (Int32 × Int32)
  | 0, _, _ => none
  | n + 1, x2, x3 =>
    if (va0_row 28) ≤ x3 then
    some (x2, x3)
    else
    if x2 = (-4) then
    fX8_nextAt_L5 N x1 va0_row n x3 (x3 + 1)
    else
    bnd (fX8_rockOf N va0_row x1 x3) fun o3 =>
    bnd (fX8_rockOf N va0_row x1 x2) fun o5 =>
    if o3 ≤ o5 then
    fX8_nextAt_L5 N x1 va0_row n x2 (x3 + 1)
    else
    fX8_nextAt_L5 N x1 va0_row n x3 (x3 + 1)
set_option maxHeartbeats 4000000 in
set_option maxRecDepth 100000 in
theorem wX8_nextAt_L5 {E : Ev} {K : KX} (k : OKX E K cX8_nextAt RX8 4 rmX8_nextAt) (N : Nat) (a0 : Nat) (a0_row : Nat) (a0_lanes : Nat) (a0_sizes : Nat) (a0_items : Nat) (a0_tape : Nat) (a0_readIce : Nat) (a0_readPeople : Nat) (a0_readSayings : Nat) (a0_line : Nat) (a0_bestLine : Nat) (a0_seen : Nat) (a0_held : Nat) (x1 : Int32) (va0_row : Nat → Int32) (va0_isKept : Int32) (va0_length : Int32) (va0_at : Int32) (va0_number : Int32) (va0_readCells : Int32) (va0_readMany : Int32) (va0_readSaid : Int32) (va0_bestFar : Int32) (va0_bestIce : Int32) : ∀ (n : Nat) (x2 : Int32) (x3 : Int32) (o : Int32 × Int32), fX8_nextAt_L5 N x1 va0_row n x2 x3 = some o → G E K 4 0 0 [(0, .ref a0), (1, .int x1), (2, .int o.1), (3, .int o.2)] [] [(a0, oB 8 [.ref a0_row, .int va0_isKept, .ref a0_lanes, .ref a0_sizes, .ref a0_items, .ref a0_tape, .int va0_length, .int va0_at, .int va0_number, .ref a0_readIce, .int va0_readCells, .ref a0_readPeople, .int va0_readMany, .ref a0_readSayings, .int va0_readSaid, .ref a0_line, .ref a0_bestLine, .int va0_bestFar, .int va0_bestIce, .ref a0_seen, .ref a0_held]), (a0_row, aI E 525 va0_row)] 49 → G E K 4 0 0 [(0, .ref a0), (1, .int x1), (2, .int x2), (3, .int x3)] [] [(a0, oB 8 [.ref a0_row, .int va0_isKept, .ref a0_lanes, .ref a0_sizes, .ref a0_items, .ref a0_tape, .int va0_length, .int va0_at, .int va0_number, .ref a0_readIce, .int va0_readCells, .ref a0_readPeople, .int va0_readMany, .ref a0_readSayings, .int va0_readSaid, .ref a0_line, .ref a0_bestLine, .int va0_bestFar, .int va0_bestIce, .ref a0_seen, .ref a0_held]), (a0_row, aI E 525 va0_row)] 5 := by
  intro n
  induction n with
  | zero => intro x2 x3 o hf; cases hf
  | succ n ih =>
    intro x2 x3 o hf hG
    rw [fX8_nextAt_L5] at hf
    refine g_iload_n k 3 dX8_nextAt_5 rfl rfl ?_
    refine g_aload_n k 0 dX8_nextAt_6 rfl rfl ?_
    refine g_get k cfX8 0 0 dX8_nextAt_7 lkX8_7 (by decide) rfl rfl ?_
    refine g_bipush k dX8_nextAt_10 bi_28 ?_
    refine g_iaload k 1 dX8_nextAt_12 rfl vi_28_525 cl_28 ?_
    refine g_icmp_ge k (tgt := 49) dX8_nextAt_13 (by decide) (fun c1 => ?_) (fun c1 => ?_)
    · replace hf := ite_t c1 hf
      refine g_lv [0, 1, 2, 3] rfl ?_
      obtain rfl := Option.some.inj hf
      exact hG
    · replace hf := ite_f c1 hf
      refine g_iload_n k 2 dX8_nextAt_16 rfl rfl ?_
      refine g_bipush k dX8_nextAt_17 bi_m4 ?_
      refine g_icmp_eq k (tgt := 37) dX8_nextAt_19 (by decide) (fun c2 => ?_) (fun c2 => ?_)
      · replace hf := ite_t c2 hf
        refine g_iload_n k 3 dX8_nextAt_37 rfl rfl ?_
        refine g_goto k (tgt := 42) dX8_nextAt_38 (by decide) ?_
        refine g_istore_n k (lv' := [(2, .int x3), (0, .ref a0), (1, .int x1), (3, .int x3)]) dX8_nextAt_42 rfl (by decide) rfl ?_
        refine g_iinc k (lv' := [(3, .int (x3 + 1)), (2, .int x3), (0, .ref a0), (1, .int x1)]) 3 dX8_nextAt_43 rfl (ii_1 _) (by decide) rfl ?_
        refine g_goto k (tgt := 5) dX8_nextAt_46 (by decide) ?_
        refine g_lv [2, 3, 1, 0] rfl ?_
        exact ih x3 (x3 + 1) o hf hG
      · replace hf := ite_f c2 hf
        refine g_aload_n k 0 dX8_nextAt_22 rfl rfl ?_
        refine g_iload_n k 1 dX8_nextAt_23 rfl rfl ?_
        refine g_iload_n k 3 dX8_nextAt_24 rfl rfl ?_
        obtain ⟨o3, ho4, hf⟩ := bnd_some hf
        refine g_cv k miX8_rockOf mvX8_rockOf (ctX8_rockOf (kL K) E N a0 a0_row a0_lanes a0_sizes a0_items a0_tape a0_readIce a0_readPeople a0_readSayings a0_line a0_bestLine a0_seen a0_held va0_isKept va0_length va0_at va0_number va0_readCells va0_readMany va0_readSaid va0_bestFar va0_bestIce va0_row x1 x3 o3 ho4) [0, 1] 0 (ws' := [(a0, oB 8 [.ref a0_row, .int va0_isKept, .ref a0_lanes, .ref a0_sizes, .ref a0_items, .ref a0_tape, .int va0_length, .int va0_at, .int va0_number, .ref a0_readIce, .int va0_readCells, .ref a0_readPeople, .int va0_readMany, .ref a0_readSayings, .int va0_readSaid, .ref a0_line, .ref a0_bestLine, .int va0_bestFar, .int va0_bestIce, .ref a0_seen, .ref a0_held]), (a0_row, aI E 525 va0_row)]) dX8_nextAt_25 lkX8_169 rfl ⟨rfl, rfl⟩ ⟨by decide, by decide⟩ rfl rfl rfl rfl (Nat.le_of_ble_eq_true rfl) rfl rfl rfl ?_
        refine g_st (st' := [.int o3]) rfl ?_
        refine g_aload_n k 0 dX8_nextAt_28 rfl rfl ?_
        refine g_iload_n k 1 dX8_nextAt_29 rfl rfl ?_
        refine g_iload_n k 2 dX8_nextAt_30 rfl rfl ?_
        obtain ⟨o5, ho6, hf⟩ := bnd_some hf
        refine g_cv k miX8_rockOf mvX8_rockOf (ctX8_rockOf (kL K) E N a0 a0_row a0_lanes a0_sizes a0_items a0_tape a0_readIce a0_readPeople a0_readSayings a0_line a0_bestLine a0_seen a0_held va0_isKept va0_length va0_at va0_number va0_readCells va0_readMany va0_readSaid va0_bestFar va0_bestIce va0_row x1 x2 o5 ho6) [0, 1] 0 (ws' := [(a0, oB 8 [.ref a0_row, .int va0_isKept, .ref a0_lanes, .ref a0_sizes, .ref a0_items, .ref a0_tape, .int va0_length, .int va0_at, .int va0_number, .ref a0_readIce, .int va0_readCells, .ref a0_readPeople, .int va0_readMany, .ref a0_readSayings, .int va0_readSaid, .ref a0_line, .ref a0_bestLine, .int va0_bestFar, .int va0_bestIce, .ref a0_seen, .ref a0_held]), (a0_row, aI E 525 va0_row)]) dX8_nextAt_31 lkX8_169 rfl ⟨rfl, rfl⟩ ⟨by decide, by decide⟩ rfl rfl rfl rfl (Nat.le_of_ble_eq_true rfl) rfl rfl rfl ?_
        refine g_st (st' := [.int o5, .int o3]) rfl ?_
        refine g_icmp_le k (tgt := 41) dX8_nextAt_34 (by decide) (fun c7 => ?_) (fun c7 => ?_)
        · replace hf := ite_t c7 hf
          refine g_iload_n k 2 dX8_nextAt_41 rfl rfl ?_
          refine g_istore_n k (lv' := [(2, .int x2), (0, .ref a0), (1, .int x1), (3, .int x3)]) dX8_nextAt_42 rfl (by decide) rfl ?_
          refine g_iinc k (lv' := [(3, .int (x3 + 1)), (2, .int x2), (0, .ref a0), (1, .int x1)]) 3 dX8_nextAt_43 rfl (ii_1 _) (by decide) rfl ?_
          refine g_goto k (tgt := 5) dX8_nextAt_46 (by decide) ?_
          refine g_lv [2, 3, 1, 0] rfl ?_
          exact ih x2 (x3 + 1) o hf hG
        · replace hf := ite_f c7 hf
          refine g_iload_n k 3 dX8_nextAt_37 rfl rfl ?_
          refine g_goto k (tgt := 42) dX8_nextAt_38 (by decide) ?_
          refine g_istore_n k (lv' := [(2, .int x3), (0, .ref a0), (1, .int x1), (3, .int x3)]) dX8_nextAt_42 rfl (by decide) rfl ?_
          refine g_iinc k (lv' := [(3, .int (x3 + 1)), (2, .int x3), (0, .ref a0), (1, .int x1)]) 3 dX8_nextAt_43 rfl (ii_1 _) (by decide) rfl ?_
          refine g_goto k (tgt := 5) dX8_nextAt_46 (by decide) ?_
          refine g_lv [2, 3, 1, 0] rfl ?_
          exact ih x3 (x3 + 1) o hf hG
def fX8_nextAt (N : Nat) (va0_row : Nat → Int32) (x1 : Int32) : Option (Int32) :=
  bnd (fX8_nextAt_L5 N x1 va0_row N (-4) 0) fun o8 =>
  some (o8.1)
set_option maxHeartbeats 4000000 in
set_option maxRecDepth 100000 in
theorem ctX8_nextAt (l : Launch) (E : Ev) (N : Nat) (a0 : Nat) (a0_row : Nat) (a0_lanes : Nat) (a0_sizes : Nat) (a0_items : Nat) (a0_tape : Nat) (a0_readIce : Nat) (a0_readPeople : Nat) (a0_readSayings : Nat) (a0_line : Nat) (a0_bestLine : Nat) (a0_seen : Nat) (a0_held : Nat) (va0_isKept : Int32) (va0_length : Int32) (va0_at : Int32) (va0_number : Int32) (va0_readCells : Int32) (va0_readMany : Int32) (va0_readSaid : Int32) (va0_bestFar : Int32) (va0_bestIce : Int32) (va0_row : Nat → Int32) (x1 : Int32) (out : Int32) (hf : fX8_nextAt N va0_row x1 = some out) : Ct l E yX8_nextAt cX8_nextAt 4 (some .int) rmX8_nextAt [.ref a0, .int x1] [(a0, oB 8 [.ref a0_row, .int va0_isKept, .ref a0_lanes, .ref a0_sizes, .ref a0_items, .ref a0_tape, .int va0_length, .int va0_at, .int va0_number, .ref a0_readIce, .int va0_readCells, .ref a0_readPeople, .int va0_readMany, .ref a0_readSayings, .int va0_readSaid, .ref a0_line, .ref a0_bestLine, .int va0_bestFar, .int va0_bestIce, .ref a0_seen, .ref a0_held]), (a0_row, aI E 525 va0_row)] (Pe (some (.int out)) [(a0, oB 8 [.ref a0_row, .int va0_isKept, .ref a0_lanes, .ref a0_sizes, .ref a0_items, .ref a0_tape, .int va0_length, .int va0_at, .int va0_number, .ref a0_readIce, .int va0_readCells, .ref a0_readPeople, .int va0_readMany, .ref a0_readSayings, .int va0_readSaid, .ref a0_line, .ref a0_bestLine, .int va0_bestFar, .int va0_bestIce, .ref a0_seen, .ref a0_held]), (a0_row, aI E 525 va0_row)]) := by
  refine Ct.of rfl (Nat.le_of_ble_eq_true rfl) (fun K hL k r hin => ?_)
  subst hL
  unfold fX8_nextAt at hf
  show G E K 4 0 0 [(0, .ref a0), (1, .int x1)] [] [(a0, oB 8 [.ref a0_row, .int va0_isKept, .ref a0_lanes, .ref a0_sizes, .ref a0_items, .ref a0_tape, .int va0_length, .int va0_at, .int va0_number, .ref a0_readIce, .int va0_readCells, .ref a0_readPeople, .int va0_readMany, .ref a0_readSayings, .int va0_readSaid, .ref a0_line, .ref a0_bestLine, .int va0_bestFar, .int va0_bestIce, .ref a0_seen, .ref a0_held]), (a0_row, aI E 525 va0_row)] 0
  refine g_bipush k dX8_nextAt_0 bi_m4 ?_
  refine g_istore_n k (lv' := [(2, .int (-4)), (0, .ref a0), (1, .int x1)]) dX8_nextAt_2 rfl (by decide) rfl ?_
  refine g_iconst k dX8_nextAt_3 ic_0 ?_
  refine g_istore_n k (lv' := [(3, .int 0), (2, .int (-4)), (0, .ref a0), (1, .int x1)]) dX8_nextAt_4 rfl (by decide) rfl ?_
  obtain ⟨o8, ho9, hf⟩ := bnd_some hf
  refine g_lv [2, 3, 1, 0] (lv' := [(0, .ref a0), (1, .int x1), (2, .int (-4)), (3, .int 0)]) rfl ?_
  refine wX8_nextAt_L5 k N a0 a0_row a0_lanes a0_sizes a0_items a0_tape a0_readIce a0_readPeople a0_readSayings a0_line a0_bestLine a0_seen a0_held  x1 va0_row va0_isKept va0_length va0_at va0_number va0_readCells va0_readMany va0_readSaid va0_bestFar va0_bestIce N (-4) 0 o8 ho9 ?_
  refine g_iload_n k 2 dX8_nextAt_49 rfl rfl ?_
  obtain rfl := Option.some.inj hf
  exact g_iret k r dX8_nextAt_50 ⟨rfl, rfl⟩
abbrev rmX8_next : Room := { frames := 6, cells := 0, slots := 0, locals := 145 }
def fX8_next (N : Nat) (va0_row : Nat → Int32) (x1 : Int32) : Option (Int32) :=
  bnd (fX8_in N x1.toInt64 0 1) fun o1 =>
  if o1 = 0 then
  some ((-1))
  else
  bnd (fX8_nextAt N va0_row 0) fun o4 =>
  if o4 = (-4) then
  some (o4)
  else
  if x1 = 0 then
  some (o4)
  else
  bnd (fX8_rockOf N va0_row 0 o4) fun o8 =>
  some (o8)
set_option maxHeartbeats 4000000 in
set_option maxRecDepth 100000 in
theorem ctX8_next (l : Launch) (E : Ev) (N : Nat) (a0 : Nat) (a0_row : Nat) (a0_lanes : Nat) (a0_sizes : Nat) (a0_items : Nat) (a0_tape : Nat) (a0_readIce : Nat) (a0_readPeople : Nat) (a0_readSayings : Nat) (a0_line : Nat) (a0_bestLine : Nat) (a0_seen : Nat) (a0_held : Nat) (va0_isKept : Int32) (va0_length : Int32) (va0_at : Int32) (va0_number : Int32) (va0_readCells : Int32) (va0_readMany : Int32) (va0_readSaid : Int32) (va0_bestFar : Int32) (va0_bestIce : Int32) (va0_row : Nat → Int32) (x1 : Int32) (out : Int32) (hf : fX8_next N va0_row x1 = some out) : Ct l E yX8_next cX8_next 3 (some .int) rmX8_next [.ref a0, .int x1] [(a0, oB 8 [.ref a0_row, .int va0_isKept, .ref a0_lanes, .ref a0_sizes, .ref a0_items, .ref a0_tape, .int va0_length, .int va0_at, .int va0_number, .ref a0_readIce, .int va0_readCells, .ref a0_readPeople, .int va0_readMany, .ref a0_readSayings, .int va0_readSaid, .ref a0_line, .ref a0_bestLine, .int va0_bestFar, .int va0_bestIce, .ref a0_seen, .ref a0_held]), (a0_row, aI E 525 va0_row)] (Pe (some (.int out)) [(a0, oB 8 [.ref a0_row, .int va0_isKept, .ref a0_lanes, .ref a0_sizes, .ref a0_items, .ref a0_tape, .int va0_length, .int va0_at, .int va0_number, .ref a0_readIce, .int va0_readCells, .ref a0_readPeople, .int va0_readMany, .ref a0_readSayings, .int va0_readSaid, .ref a0_line, .ref a0_bestLine, .int va0_bestFar, .int va0_bestIce, .ref a0_seen, .ref a0_held]), (a0_row, aI E 525 va0_row)]) := by
  refine Ct.of rfl (Nat.le_of_ble_eq_true rfl) (fun K hL k r hin => ?_)
  subst hL
  unfold fX8_next at hf
  show G E K 3 0 0 [(0, .ref a0), (1, .int x1)] [] [(a0, oB 8 [.ref a0_row, .int va0_isKept, .ref a0_lanes, .ref a0_sizes, .ref a0_items, .ref a0_tape, .int va0_length, .int va0_at, .int va0_number, .ref a0_readIce, .int va0_readCells, .ref a0_readPeople, .int va0_readMany, .ref a0_readSayings, .int va0_readSaid, .ref a0_line, .ref a0_bestLine, .int va0_bestFar, .int va0_bestIce, .ref a0_seen, .ref a0_held]), (a0_row, aI E 525 va0_row)] 0
  refine g_iload_n k 1 dX8_next_0 rfl rfl ?_
  refine g_i2l k dX8_next_1 ?_
  refine g_lconst k dX8_next_2 lc_0 ?_
  refine g_lconst k dX8_next_3 lc_1 ?_
  obtain ⟨o1, ho2, hf⟩ := bnd_some hf
  refine g_cs k miX8_in msX8_in (ctX8_in (kL K) E N   x1.toInt64 0 1 o1 ho2) [] (ws' := [(a0, oB 8 [.ref a0_row, .int va0_isKept, .ref a0_lanes, .ref a0_sizes, .ref a0_items, .ref a0_tape, .int va0_length, .int va0_at, .int va0_number, .ref a0_readIce, .int va0_readCells, .ref a0_readPeople, .int va0_readMany, .ref a0_readSayings, .int va0_readSaid, .ref a0_line, .ref a0_bestLine, .int va0_bestFar, .int va0_bestIce, .ref a0_seen, .ref a0_held]), (a0_row, aI E 525 va0_row)]) dX8_next_4 lkX8_47 rfl ⟨rfl, rfl⟩ ⟨by decide, by decide⟩ rfl rfl rfl (Nat.le_of_ble_eq_true rfl) rfl rfl rfl ?_
  refine g_st (st' := [.int o1]) rfl ?_
  refine g_if_ne k (tgt := 12) dX8_next_7 (by decide) (fun c3 => ?_) (fun c3 => ?_)
  · replace hf := ite_f c3 hf
    refine g_aload_n k 0 dX8_next_12 rfl rfl ?_
    refine g_iconst k dX8_next_13 ic_0 ?_
    obtain ⟨o4, ho5, hf⟩ := bnd_some hf
    refine g_cv k miX8_nextAt mvX8_nextAt (ctX8_nextAt (kL K) E N a0 a0_row a0_lanes a0_sizes a0_items a0_tape a0_readIce a0_readPeople a0_readSayings a0_line a0_bestLine a0_seen a0_held va0_isKept va0_length va0_at va0_number va0_readCells va0_readMany va0_readSaid va0_bestFar va0_bestIce va0_row 0 o4 ho5) [0, 1] 0 (ws' := [(a0, oB 8 [.ref a0_row, .int va0_isKept, .ref a0_lanes, .ref a0_sizes, .ref a0_items, .ref a0_tape, .int va0_length, .int va0_at, .int va0_number, .ref a0_readIce, .int va0_readCells, .ref a0_readPeople, .int va0_readMany, .ref a0_readSayings, .int va0_readSaid, .ref a0_line, .ref a0_bestLine, .int va0_bestFar, .int va0_bestIce, .ref a0_seen, .ref a0_held]), (a0_row, aI E 525 va0_row)]) dX8_next_14 lkX8_194 rfl ⟨rfl, rfl⟩ ⟨by decide, by decide⟩ rfl rfl rfl rfl (Nat.le_of_ble_eq_true rfl) rfl rfl rfl ?_
    refine g_st (st' := [.int o4]) rfl ?_
    refine g_istore_n k (lv' := [(2, .int o4), (0, .ref a0), (1, .int x1)]) dX8_next_17 rfl (by decide) rfl ?_
    refine g_iload_n k 0 dX8_next_18 rfl rfl ?_
    refine g_bipush k dX8_next_19 bi_m4 ?_
    refine g_icmp_eq k (tgt := 28) dX8_next_21 (by decide) (fun c6 => ?_) (fun c6 => ?_)
    · replace hf := ite_t c6 hf
      refine g_iload_n k 0 dX8_next_28 rfl rfl ?_
      refine g_goto k (tgt := 38) dX8_next_29 (by decide) ?_
      obtain rfl := Option.some.inj hf
      exact g_iret k r dX8_next_38 ⟨rfl, rfl⟩
    · replace hf := ite_f c6 hf
      refine g_iload_n k 2 dX8_next_24 rfl rfl ?_
      refine g_if_ne k (tgt := 32) dX8_next_25 (by decide) (fun c7 => ?_) (fun c7 => ?_)
      · replace hf := ite_f c7 hf
        refine g_aload_n k 1 dX8_next_32 rfl rfl ?_
        refine g_iconst k dX8_next_33 ic_0 ?_
        refine g_iload_n k 0 dX8_next_34 rfl rfl ?_
        obtain ⟨o8, ho9, hf⟩ := bnd_some hf
        refine g_cv k miX8_rockOf mvX8_rockOf (ctX8_rockOf (kL K) E N a0 a0_row a0_lanes a0_sizes a0_items a0_tape a0_readIce a0_readPeople a0_readSayings a0_line a0_bestLine a0_seen a0_held va0_isKept va0_length va0_at va0_number va0_readCells va0_readMany va0_readSaid va0_bestFar va0_bestIce va0_row 0 o4 o8 ho9) [0, 1] 0 (ws' := [(a0, oB 8 [.ref a0_row, .int va0_isKept, .ref a0_lanes, .ref a0_sizes, .ref a0_items, .ref a0_tape, .int va0_length, .int va0_at, .int va0_number, .ref a0_readIce, .int va0_readCells, .ref a0_readPeople, .int va0_readMany, .ref a0_readSayings, .int va0_readSaid, .ref a0_line, .ref a0_bestLine, .int va0_bestFar, .int va0_bestIce, .ref a0_seen, .ref a0_held]), (a0_row, aI E 525 va0_row)]) dX8_next_35 lkX8_169 rfl ⟨rfl, rfl⟩ ⟨by decide, by decide⟩ rfl rfl rfl rfl (Nat.le_of_ble_eq_true rfl) rfl rfl rfl ?_
        refine g_st (st' := [.int o8]) rfl ?_
        obtain rfl := Option.some.inj hf
        exact g_iret k r dX8_next_38 ⟨rfl, rfl⟩
      · replace hf := ite_t c7 hf
        refine g_iload_n k 0 dX8_next_28 rfl rfl ?_
        refine g_goto k (tgt := 38) dX8_next_29 (by decide) ?_
        obtain rfl := Option.some.inj hf
        exact g_iret k r dX8_next_38 ⟨rfl, rfl⟩
  · replace hf := ite_t c3 hf
    refine g_iconst k dX8_next_10 ic_m1 ?_
    obtain rfl := Option.some.inj hf
    exact g_iret k r dX8_next_11 ⟨rfl, rfl⟩
abbrev rmX8_greedy : Room := { frames := 6, cells := 0, slots := 0, locals := 147 }
def fX8_greedy_L30 (N : Nat) (x1 : Int32) (x2 : Int32) : Nat → Int32 → (Nat → Int32) → Option (Int32 × (Nat → Int32))
  | 0, _, _ => none
  | n + 1, x3, va0_row =>
    if x1 ≤ x3 then
    some (x3, va0_row)
    else
    bnd (fX8_nextAt N va0_row 484) fun o10 =>
    bnd (fX8_pass N va0_row 484 o10) fun o12 =>
    fX8_greedy_L30 N x1 x2 n (x3 + 1) o12
set_option maxHeartbeats 4000000 in
set_option maxRecDepth 100000 in
theorem wX8_greedy_L30 {E : Ev} {K : KX} (k : OKX E K cX8_greedy RX8 4 rmX8_greedy) (N : Nat) (a0 : Nat) (a0_row : Nat) (a0_lanes : Nat) (a0_sizes : Nat) (a0_items : Nat) (a0_tape : Nat) (a0_readIce : Nat) (a0_readPeople : Nat) (a0_readSayings : Nat) (a0_line : Nat) (a0_bestLine : Nat) (a0_seen : Nat) (a0_held : Nat) (x1 : Int32) (x2 : Int32) (va0_isKept : Int32) (va0_length : Int32) (va0_at : Int32) (va0_number : Int32) (va0_readCells : Int32) (va0_readMany : Int32) (va0_readSaid : Int32) (va0_bestFar : Int32) (va0_bestIce : Int32) : ∀ (n : Nat) (x3 : Int32) (va0_row : Nat → Int32) (o : Int32 × (Nat → Int32)), fX8_greedy_L30 N x1 x2 n x3 va0_row = some o → G E K 4 0 0 [(0, .ref a0), (1, .int x1), (2, .int x2), (3, .int o.1)] [] [(a0, oB 8 [.ref a0_row, .int va0_isKept, .ref a0_lanes, .ref a0_sizes, .ref a0_items, .ref a0_tape, .int va0_length, .int va0_at, .int va0_number, .ref a0_readIce, .int va0_readCells, .ref a0_readPeople, .int va0_readMany, .ref a0_readSayings, .int va0_readSaid, .ref a0_line, .ref a0_bestLine, .int va0_bestFar, .int va0_bestIce, .ref a0_seen, .ref a0_held]), (a0_row, aI E 525 o.2)] 55 → G E K 4 0 0 [(0, .ref a0), (1, .int x1), (2, .int x2), (3, .int x3)] [] [(a0, oB 8 [.ref a0_row, .int va0_isKept, .ref a0_lanes, .ref a0_sizes, .ref a0_items, .ref a0_tape, .int va0_length, .int va0_at, .int va0_number, .ref a0_readIce, .int va0_readCells, .ref a0_readPeople, .int va0_readMany, .ref a0_readSayings, .int va0_readSaid, .ref a0_line, .ref a0_bestLine, .int va0_bestFar, .int va0_bestIce, .ref a0_seen, .ref a0_held]), (a0_row, aI E 525 va0_row)] 30 := by
  intro n
  induction n with
  | zero => intro x3 va0_row o hf; cases hf
  | succ n ih =>
    intro x3 va0_row o hf hG
    rw [fX8_greedy_L30] at hf
    refine g_iload_n k 3 dX8_greedy_30 rfl rfl ?_
    refine g_iload_n k 1 dX8_greedy_31 rfl rfl ?_
    refine g_icmp_ge k (tgt := 55) dX8_greedy_32 (by decide) (fun c9 => ?_) (fun c9 => ?_)
    · replace hf := ite_t c9 hf
      refine g_lv [0, 1, 2, 3] rfl ?_
      obtain rfl := Option.some.inj hf
      exact hG
    · replace hf := ite_f c9 hf
      refine g_aload_n k 0 dX8_greedy_35 rfl rfl ?_
      refine g_sipush k dX8_greedy_36 si_484 ?_
      refine g_aload_n k 0 dX8_greedy_39 rfl rfl ?_
      refine g_sipush k dX8_greedy_40 si_484 ?_
      obtain ⟨o10, ho11, hf⟩ := bnd_some hf
      refine g_cv k miX8_nextAt mvX8_nextAt (ctX8_nextAt (kL K) E N a0 a0_row a0_lanes a0_sizes a0_items a0_tape a0_readIce a0_readPeople a0_readSayings a0_line a0_bestLine a0_seen a0_held va0_isKept va0_length va0_at va0_number va0_readCells va0_readMany va0_readSaid va0_bestFar va0_bestIce va0_row 484 o10 ho11) [0, 1] 0 (ws' := [(a0, oB 8 [.ref a0_row, .int va0_isKept, .ref a0_lanes, .ref a0_sizes, .ref a0_items, .ref a0_tape, .int va0_length, .int va0_at, .int va0_number, .ref a0_readIce, .int va0_readCells, .ref a0_readPeople, .int va0_readMany, .ref a0_readSayings, .int va0_readSaid, .ref a0_line, .ref a0_bestLine, .int va0_bestFar, .int va0_bestIce, .ref a0_seen, .ref a0_held]), (a0_row, aI E 525 va0_row)]) dX8_greedy_43 lkX8_194 rfl ⟨rfl, rfl⟩ ⟨by decide, by decide⟩ rfl rfl rfl rfl (Nat.le_of_ble_eq_true rfl) rfl rfl rfl ?_
      refine g_st (st' := [.int o10, .int 484, .ref a0]) rfl ?_
      obtain ⟨o12, ho13, hf⟩ := bnd_some hf
      refine g_cv k miX8_pass mvX8_pass (ctX8_pass (kL K) E N a0 a0_row a0_lanes a0_sizes a0_items a0_tape a0_readIce a0_readPeople a0_readSayings a0_line a0_bestLine a0_seen a0_held va0_isKept va0_length va0_at va0_number va0_readCells va0_readMany va0_readSaid va0_bestFar va0_bestIce va0_row 484 o10 o12 ho13) [0, 1] 0 (ws' := [(a0, oB 8 [.ref a0_row, .int va0_isKept, .ref a0_lanes, .ref a0_sizes, .ref a0_items, .ref a0_tape, .int va0_length, .int va0_at, .int va0_number, .ref a0_readIce, .int va0_readCells, .ref a0_readPeople, .int va0_readMany, .ref a0_readSayings, .int va0_readSaid, .ref a0_line, .ref a0_bestLine, .int va0_bestFar, .int va0_bestIce, .ref a0_seen, .ref a0_held]), (a0_row, aI E 525 o12)]) dX8_greedy_46 lkX8_182 rfl ⟨rfl, rfl⟩ ⟨by decide, by decide⟩ rfl rfl rfl rfl (Nat.le_of_ble_eq_true rfl) rfl rfl rfl ?_
      refine g_st (st' := []) rfl ?_
      refine g_iinc k (lv' := [(3, .int (x3 + 1)), (0, .ref a0), (1, .int x1), (2, .int x2)]) 3 dX8_greedy_49 rfl (ii_1 _) (by decide) rfl ?_
      refine g_goto k (tgt := 30) dX8_greedy_52 (by decide) ?_
      refine g_lv [1, 2, 3, 0] rfl ?_
      exact ih (x3 + 1) o12 o hf hG
def fX8_greedy (N : Nat) (va0_row : Nat → Int32) (x1 : Int32) (x2 : Int32) : Option (Int32 × (Nat → Int32)) :=
  bnd (fX8_in N x1.toInt64 0 99) fun o1 =>
  if o1 = 0 then
  some ((-1), va0_row)
  else
  bnd (fX8_in N x2.toInt64 0 1) fun o4 =>
  if o4 = 0 then
  some ((-1), va0_row)
  else
  bnd (fX8_layTried N va0_row) fun o7 =>
  bnd (fX8_greedy_L30 N x1 x2 N 0 o7) fun o14 =>
  if x2 = 0 then
  some ((o14.2 484), o14.2)
  else
  bnd (fX8_iceAhead N o14.2 484) fun o17 =>
  some (o17, o14.2)
set_option maxHeartbeats 4000000 in
set_option maxRecDepth 100000 in
theorem ctX8_greedy (l : Launch) (E : Ev) (N : Nat) (a0 : Nat) (a0_row : Nat) (a0_lanes : Nat) (a0_sizes : Nat) (a0_items : Nat) (a0_tape : Nat) (a0_readIce : Nat) (a0_readPeople : Nat) (a0_readSayings : Nat) (a0_line : Nat) (a0_bestLine : Nat) (a0_seen : Nat) (a0_held : Nat) (va0_isKept : Int32) (va0_length : Int32) (va0_at : Int32) (va0_number : Int32) (va0_readCells : Int32) (va0_readMany : Int32) (va0_readSaid : Int32) (va0_bestFar : Int32) (va0_bestIce : Int32) (va0_row : Nat → Int32) (x1 : Int32) (x2 : Int32) (out : Int32 × (Nat → Int32)) (hf : fX8_greedy N va0_row x1 x2 = some out) : Ct l E yX8_greedy cX8_greedy 4 (some .int) rmX8_greedy [.ref a0, .int x1, .int x2] [(a0, oB 8 [.ref a0_row, .int va0_isKept, .ref a0_lanes, .ref a0_sizes, .ref a0_items, .ref a0_tape, .int va0_length, .int va0_at, .int va0_number, .ref a0_readIce, .int va0_readCells, .ref a0_readPeople, .int va0_readMany, .ref a0_readSayings, .int va0_readSaid, .ref a0_line, .ref a0_bestLine, .int va0_bestFar, .int va0_bestIce, .ref a0_seen, .ref a0_held]), (a0_row, aI E 525 va0_row)] (Pe (some (.int out.1)) [(a0, oB 8 [.ref a0_row, .int va0_isKept, .ref a0_lanes, .ref a0_sizes, .ref a0_items, .ref a0_tape, .int va0_length, .int va0_at, .int va0_number, .ref a0_readIce, .int va0_readCells, .ref a0_readPeople, .int va0_readMany, .ref a0_readSayings, .int va0_readSaid, .ref a0_line, .ref a0_bestLine, .int va0_bestFar, .int va0_bestIce, .ref a0_seen, .ref a0_held]), (a0_row, aI E 525 out.2)]) := by
  refine Ct.of rfl (Nat.le_of_ble_eq_true rfl) (fun K hL k r hin => ?_)
  subst hL
  unfold fX8_greedy at hf
  show G E K 4 0 0 [(0, .ref a0), (1, .int x1), (2, .int x2)] [] [(a0, oB 8 [.ref a0_row, .int va0_isKept, .ref a0_lanes, .ref a0_sizes, .ref a0_items, .ref a0_tape, .int va0_length, .int va0_at, .int va0_number, .ref a0_readIce, .int va0_readCells, .ref a0_readPeople, .int va0_readMany, .ref a0_readSayings, .int va0_readSaid, .ref a0_line, .ref a0_bestLine, .int va0_bestFar, .int va0_bestIce, .ref a0_seen, .ref a0_held]), (a0_row, aI E 525 va0_row)] 0
  refine g_iload_n k 1 dX8_greedy_0 rfl rfl ?_
  refine g_i2l k dX8_greedy_1 ?_
  refine g_lconst k dX8_greedy_2 lc_0 ?_
  refine g_ldc2 k dX8_greedy_3 lkX8_197 ?_
  obtain ⟨o1, ho2, hf⟩ := bnd_some hf
  refine g_cs k miX8_in msX8_in (ctX8_in (kL K) E N   x1.toInt64 0 99 o1 ho2) [] (ws' := [(a0, oB 8 [.ref a0_row, .int va0_isKept, .ref a0_lanes, .ref a0_sizes, .ref a0_items, .ref a0_tape, .int va0_length, .int va0_at, .int va0_number, .ref a0_readIce, .int va0_readCells, .ref a0_readPeople, .int va0_readMany, .ref a0_readSayings, .int va0_readSaid, .ref a0_line, .ref a0_bestLine, .int va0_bestFar, .int va0_bestIce, .ref a0_seen, .ref a0_held]), (a0_row, aI E 525 va0_row)]) dX8_greedy_6 lkX8_47 rfl ⟨rfl, rfl⟩ ⟨by decide, by decide⟩ rfl rfl rfl (Nat.le_of_ble_eq_true rfl) rfl rfl rfl ?_
  refine g_st (st' := [.int o1]) rfl ?_
  refine g_if_eq k (tgt := 22) dX8_greedy_9 (by decide) (fun c3 => ?_) (fun c3 => ?_)
  · replace hf := ite_t c3 hf
    refine g_iconst k dX8_greedy_22 ic_m1 ?_
    obtain rfl := Option.some.inj hf
    exact g_iret k r dX8_greedy_23 ⟨rfl, rfl⟩
  · replace hf := ite_f c3 hf
    refine g_iload_n k 2 dX8_greedy_12 rfl rfl ?_
    refine g_i2l k dX8_greedy_13 ?_
    refine g_lconst k dX8_greedy_14 lc_0 ?_
    refine g_lconst k dX8_greedy_15 lc_1 ?_
    obtain ⟨o4, ho5, hf⟩ := bnd_some hf
    refine g_cs k miX8_in msX8_in (ctX8_in (kL K) E N   x2.toInt64 0 1 o4 ho5) [] (ws' := [(a0, oB 8 [.ref a0_row, .int va0_isKept, .ref a0_lanes, .ref a0_sizes, .ref a0_items, .ref a0_tape, .int va0_length, .int va0_at, .int va0_number, .ref a0_readIce, .int va0_readCells, .ref a0_readPeople, .int va0_readMany, .ref a0_readSayings, .int va0_readSaid, .ref a0_line, .ref a0_bestLine, .int va0_bestFar, .int va0_bestIce, .ref a0_seen, .ref a0_held]), (a0_row, aI E 525 va0_row)]) dX8_greedy_16 lkX8_47 rfl ⟨rfl, rfl⟩ ⟨by decide, by decide⟩ rfl rfl rfl (Nat.le_of_ble_eq_true rfl) rfl rfl rfl ?_
    refine g_st (st' := [.int o4]) rfl ?_
    refine g_if_ne k (tgt := 24) dX8_greedy_19 (by decide) (fun c6 => ?_) (fun c6 => ?_)
    · replace hf := ite_f c6 hf
      refine g_aload_n k 0 dX8_greedy_24 rfl rfl ?_
      obtain ⟨o7, ho8, hf⟩ := bnd_some hf
      refine g_cv k miX8_layTried mvX8_layTried (ctX8_layTried (kL K) E N a0 a0_row a0_lanes a0_sizes a0_items a0_tape a0_readIce a0_readPeople a0_readSayings a0_line a0_bestLine a0_seen a0_held va0_isKept va0_length va0_at va0_number va0_readCells va0_readMany va0_readSaid va0_bestFar va0_bestIce va0_row  o7 ho8) [0, 1] 0 (ws' := [(a0, oB 8 [.ref a0_row, .int va0_isKept, .ref a0_lanes, .ref a0_sizes, .ref a0_items, .ref a0_tape, .int va0_length, .int va0_at, .int va0_number, .ref a0_readIce, .int va0_readCells, .ref a0_readPeople, .int va0_readMany, .ref a0_readSayings, .int va0_readSaid, .ref a0_line, .ref a0_bestLine, .int va0_bestFar, .int va0_bestIce, .ref a0_seen, .ref a0_held]), (a0_row, aI E 525 o7)]) dX8_greedy_25 lkX8_199 rfl ⟨rfl, rfl⟩ ⟨by decide, by decide⟩ rfl rfl rfl rfl (Nat.le_of_ble_eq_true rfl) rfl rfl rfl ?_
      refine g_st (st' := []) rfl ?_
      refine g_iconst k dX8_greedy_28 ic_0 ?_
      refine g_istore_n k (lv' := [(3, .int 0), (0, .ref a0), (1, .int x1), (2, .int x2)]) dX8_greedy_29 rfl (by decide) rfl ?_
      obtain ⟨o14, ho15, hf⟩ := bnd_some hf
      refine g_lv [1, 2, 3, 0] (lv' := [(0, .ref a0), (1, .int x1), (2, .int x2), (3, .int 0)]) rfl ?_
      refine wX8_greedy_L30 k N a0 a0_row a0_lanes a0_sizes a0_items a0_tape a0_readIce a0_readPeople a0_readSayings a0_line a0_bestLine a0_seen a0_held  x1 x2 va0_isKept va0_length va0_at va0_number va0_readCells va0_readMany va0_readSaid va0_bestFar va0_bestIce N 0 o7 o14 ho15 ?_
      refine g_iload_n k 2 dX8_greedy_55 rfl rfl ?_
      refine g_if_ne k (tgt := 70) dX8_greedy_56 (by decide) (fun c16 => ?_) (fun c16 => ?_)
      · replace hf := ite_f c16 hf
        refine g_aload_n k 0 dX8_greedy_70 rfl rfl ?_
        refine g_sipush k dX8_greedy_71 si_484 ?_
        obtain ⟨o17, ho18, hf⟩ := bnd_some hf
        refine g_cv k miX8_iceAhead mvX8_iceAhead (ctX8_iceAhead (kL K) E N a0 a0_row a0_lanes a0_sizes a0_items a0_tape a0_readIce a0_readPeople a0_readSayings a0_line a0_bestLine a0_seen a0_held va0_isKept va0_length va0_at va0_number va0_readCells va0_readMany va0_readSaid va0_bestFar va0_bestIce o14.2 484 o17 ho18) [0, 1] 0 (ws' := [(a0, oB 8 [.ref a0_row, .int va0_isKept, .ref a0_lanes, .ref a0_sizes, .ref a0_items, .ref a0_tape, .int va0_length, .int va0_at, .int va0_number, .ref a0_readIce, .int va0_readCells, .ref a0_readPeople, .int va0_readMany, .ref a0_readSayings, .int va0_readSaid, .ref a0_line, .ref a0_bestLine, .int va0_bestFar, .int va0_bestIce, .ref a0_seen, .ref a0_held]), (a0_row, aI E 525 o14.2)]) dX8_greedy_74 lkX8_202 rfl ⟨rfl, rfl⟩ ⟨by decide, by decide⟩ rfl rfl rfl rfl (Nat.le_of_ble_eq_true rfl) rfl rfl rfl ?_
        refine g_st (st' := [.int o17]) rfl ?_
        obtain rfl := Option.some.inj hf
        exact g_iret k r dX8_greedy_77 ⟨rfl, rfl⟩
      · replace hf := ite_t c16 hf
        refine g_aload_n k 0 dX8_greedy_59 rfl rfl ?_
        refine g_get k cfX8 0 0 dX8_greedy_60 lkX8_7 (by decide) rfl rfl ?_
        refine g_sipush k dX8_greedy_63 si_484 ?_
        refine g_iaload k 1 dX8_greedy_66 rfl vi_484_525 cl_484 ?_
        refine g_goto k (tgt := 77) dX8_greedy_67 (by decide) ?_
        obtain rfl := Option.some.inj hf
        exact g_iret k r dX8_greedy_77 ⟨rfl, rfl⟩
    · replace hf := ite_t c6 hf
      refine g_iconst k dX8_greedy_22 ic_m1 ?_
      obtain rfl := Option.some.inj hf
      exact g_iret k r dX8_greedy_23 ⟨rfl, rfl⟩
abbrev rmX8_through : Room := { frames := 6, cells := 0, slots := 0, locals := 147 }
def fX8_through_L6 (N : Nat)  : Nat → Int32 → (Nat → Int32) → Option ((Int32 × (Nat → Int32)) ⊕ (Int32 × (Nat → Int32)))
  | 0, _, _ => none
  | n + 1, x1, va0_row =>
    if 100 ≤ x1 then
    some (.inr (x1, va0_row))
    else
    bnd (fX8_isThrough N va0_row 484) fun o4 =>
    if o4 = 0 then
    bnd (fX8_nextAt N va0_row 484) fun o7 =>
    bnd (fX8_pass N va0_row 484 o7) fun o9 =>
    fX8_through_L6 N  n (x1 + 1) o9
    else
    some (.inl (x1, va0_row))
set_option maxHeartbeats 4000000 in
set_option maxRecDepth 100000 in
theorem wX8_through_L6 {E : Ev} {K : KX} (k : OKX E K cX8_through RX8 2 rmX8_through) (N : Nat) (a0 : Nat) (a0_row : Nat) (a0_lanes : Nat) (a0_sizes : Nat) (a0_items : Nat) (a0_tape : Nat) (a0_readIce : Nat) (a0_readPeople : Nat) (a0_readSayings : Nat) (a0_line : Nat) (a0_bestLine : Nat) (a0_seen : Nat) (a0_held : Nat) (va0_isKept : Int32) (va0_length : Int32) (va0_at : Int32) (va0_number : Int32) (va0_readCells : Int32) (va0_readMany : Int32) (va0_readSaid : Int32) (va0_bestFar : Int32) (va0_bestIce : Int32) {out : Int32 × (Nat → Int32)} (r : RTX E K 0 0 (some .int) (Pe (some (.int out.1)) [(a0, oB 8 [.ref a0_row, .int va0_isKept, .ref a0_lanes, .ref a0_sizes, .ref a0_items, .ref a0_tape, .int va0_length, .int va0_at, .int va0_number, .ref a0_readIce, .int va0_readCells, .ref a0_readPeople, .int va0_readMany, .ref a0_readSayings, .int va0_readSaid, .ref a0_line, .ref a0_bestLine, .int va0_bestFar, .int va0_bestIce, .ref a0_seen, .ref a0_held]), (a0_row, aI E 525 out.2)])) : ∀ (n : Nat) (x1 : Int32) (va0_row : Nat → Int32) (o : (Int32 × (Nat → Int32)) ⊕ (Int32 × (Nat → Int32))), fX8_through_L6 N  n x1 va0_row = some o → (∀ w, o = .inl w → w = out) → (∀ v, o = .inr v → G E K 2 0 0 [(0, .ref a0), (1, .int v.1)] [] [(a0, oB 8 [.ref a0_row, .int va0_isKept, .ref a0_lanes, .ref a0_sizes, .ref a0_items, .ref a0_tape, .int va0_length, .int va0_at, .int va0_number, .ref a0_readIce, .int va0_readCells, .ref a0_readPeople, .int va0_readMany, .ref a0_readSayings, .int va0_readSaid, .ref a0_line, .ref a0_bestLine, .int va0_bestFar, .int va0_bestIce, .ref a0_seen, .ref a0_held]), (a0_row, aI E 525 v.2)] 44) → G E K 2 0 0 [(0, .ref a0), (1, .int x1)] [] [(a0, oB 8 [.ref a0_row, .int va0_isKept, .ref a0_lanes, .ref a0_sizes, .ref a0_items, .ref a0_tape, .int va0_length, .int va0_at, .int va0_number, .ref a0_readIce, .int va0_readCells, .ref a0_readPeople, .int va0_readMany, .ref a0_readSayings, .int va0_readSaid, .ref a0_line, .ref a0_bestLine, .int va0_bestFar, .int va0_bestIce, .ref a0_seen, .ref a0_held]), (a0_row, aI E 525 va0_row)] 6 := by
  intro n
  induction n with
  | zero => intro x1 va0_row o hf; cases hf
  | succ n ih =>
    intro x1 va0_row o hf hr hG
    rw [fX8_through_L6] at hf
    refine g_iload_n k 1 dX8_through_6 rfl rfl ?_
    refine g_bipush k dX8_through_7 bi_100 ?_
    refine g_icmp_ge k (tgt := 44) dX8_through_9 (by decide) (fun c3 => ?_) (fun c3 => ?_)
    · replace hf := ite_t c3 hf
      refine g_lv [0, 1] rfl ?_
      obtain rfl := Option.some.inj hf
      exact hG _ rfl
    · replace hf := ite_f c3 hf
      refine g_aload_n k 0 dX8_through_12 rfl rfl ?_
      refine g_sipush k dX8_through_13 si_484 ?_
      obtain ⟨o4, ho5, hf⟩ := bnd_some hf
      refine g_cv k miX8_isThrough mvX8_isThrough (ctX8_isThrough (kL K) E N a0 a0_row a0_lanes a0_sizes a0_items a0_tape a0_readIce a0_readPeople a0_readSayings a0_line a0_bestLine a0_seen a0_held va0_isKept va0_length va0_at va0_number va0_readCells va0_readMany va0_readSaid va0_bestFar va0_bestIce va0_row 484 o4 ho5) [0, 1] 0 (ws' := [(a0, oB 8 [.ref a0_row, .int va0_isKept, .ref a0_lanes, .ref a0_sizes, .ref a0_items, .ref a0_tape, .int va0_length, .int va0_at, .int va0_number, .ref a0_readIce, .int va0_readCells, .ref a0_readPeople, .int va0_readMany, .ref a0_readSayings, .int va0_readSaid, .ref a0_line, .ref a0_bestLine, .int va0_bestFar, .int va0_bestIce, .ref a0_seen, .ref a0_held]), (a0_row, aI E 525 va0_row)]) dX8_through_16 lkX8_166 rfl ⟨rfl, rfl⟩ ⟨by decide, by decide⟩ rfl rfl rfl rfl (Nat.le_of_ble_eq_true rfl) rfl rfl rfl ?_
      refine g_st (st' := [.int o4]) rfl ?_
      refine g_if_eq k (tgt := 24) dX8_through_19 (by decide) (fun c6 => ?_) (fun c6 => ?_)
      · replace hf := ite_t c6 hf
        refine g_aload_n k 0 dX8_through_24 rfl rfl ?_
        refine g_sipush k dX8_through_25 si_484 ?_
        refine g_aload_n k 0 dX8_through_28 rfl rfl ?_
        refine g_sipush k dX8_through_29 si_484 ?_
        obtain ⟨o7, ho8, hf⟩ := bnd_some hf
        refine g_cv k miX8_nextAt mvX8_nextAt (ctX8_nextAt (kL K) E N a0 a0_row a0_lanes a0_sizes a0_items a0_tape a0_readIce a0_readPeople a0_readSayings a0_line a0_bestLine a0_seen a0_held va0_isKept va0_length va0_at va0_number va0_readCells va0_readMany va0_readSaid va0_bestFar va0_bestIce va0_row 484 o7 ho8) [0, 1] 0 (ws' := [(a0, oB 8 [.ref a0_row, .int va0_isKept, .ref a0_lanes, .ref a0_sizes, .ref a0_items, .ref a0_tape, .int va0_length, .int va0_at, .int va0_number, .ref a0_readIce, .int va0_readCells, .ref a0_readPeople, .int va0_readMany, .ref a0_readSayings, .int va0_readSaid, .ref a0_line, .ref a0_bestLine, .int va0_bestFar, .int va0_bestIce, .ref a0_seen, .ref a0_held]), (a0_row, aI E 525 va0_row)]) dX8_through_32 lkX8_194 rfl ⟨rfl, rfl⟩ ⟨by decide, by decide⟩ rfl rfl rfl rfl (Nat.le_of_ble_eq_true rfl) rfl rfl rfl ?_
        refine g_st (st' := [.int o7, .int 484, .ref a0]) rfl ?_
        obtain ⟨o9, ho10, hf⟩ := bnd_some hf
        refine g_cv k miX8_pass mvX8_pass (ctX8_pass (kL K) E N a0 a0_row a0_lanes a0_sizes a0_items a0_tape a0_readIce a0_readPeople a0_readSayings a0_line a0_bestLine a0_seen a0_held va0_isKept va0_length va0_at va0_number va0_readCells va0_readMany va0_readSaid va0_bestFar va0_bestIce va0_row 484 o7 o9 ho10) [0, 1] 0 (ws' := [(a0, oB 8 [.ref a0_row, .int va0_isKept, .ref a0_lanes, .ref a0_sizes, .ref a0_items, .ref a0_tape, .int va0_length, .int va0_at, .int va0_number, .ref a0_readIce, .int va0_readCells, .ref a0_readPeople, .int va0_readMany, .ref a0_readSayings, .int va0_readSaid, .ref a0_line, .ref a0_bestLine, .int va0_bestFar, .int va0_bestIce, .ref a0_seen, .ref a0_held]), (a0_row, aI E 525 o9)]) dX8_through_35 lkX8_182 rfl ⟨rfl, rfl⟩ ⟨by decide, by decide⟩ rfl rfl rfl rfl (Nat.le_of_ble_eq_true rfl) rfl rfl rfl ?_
        refine g_st (st' := []) rfl ?_
        refine g_iinc k (lv' := [(1, .int (x1 + 1)), (0, .ref a0)]) 1 dX8_through_38 rfl (ii_1 _) (by decide) rfl ?_
        refine g_goto k (tgt := 6) dX8_through_41 (by decide) ?_
        refine g_lv [1, 0] rfl ?_
        exact ih (x1 + 1) o9 o hf hr hG
      · replace hf := ite_f c6 hf
        refine g_iload_n k 1 dX8_through_22 rfl rfl ?_
        obtain rfl := Option.some.inj hf
        obtain rfl := hr _ rfl
        exact g_iret k r dX8_through_23 ⟨rfl, rfl⟩
def fX8_through (N : Nat) (va0_row : Nat → Int32)  : Option (Int32 × (Nat → Int32)) :=
  bnd (fX8_layTried N va0_row) fun o1 =>
  bnd (fX8_through_L6 N  N 0 o1) fun o11 => lret o11 fun v13 =>
  some ((-4), v13.2)
set_option maxHeartbeats 4000000 in
set_option maxRecDepth 100000 in
theorem ctX8_through (l : Launch) (E : Ev) (N : Nat) (a0 : Nat) (a0_row : Nat) (a0_lanes : Nat) (a0_sizes : Nat) (a0_items : Nat) (a0_tape : Nat) (a0_readIce : Nat) (a0_readPeople : Nat) (a0_readSayings : Nat) (a0_line : Nat) (a0_bestLine : Nat) (a0_seen : Nat) (a0_held : Nat) (va0_isKept : Int32) (va0_length : Int32) (va0_at : Int32) (va0_number : Int32) (va0_readCells : Int32) (va0_readMany : Int32) (va0_readSaid : Int32) (va0_bestFar : Int32) (va0_bestIce : Int32) (va0_row : Nat → Int32)  (out : Int32 × (Nat → Int32)) (hf : fX8_through N va0_row  = some out) : Ct l E yX8_through cX8_through 2 (some .int) rmX8_through [.ref a0] [(a0, oB 8 [.ref a0_row, .int va0_isKept, .ref a0_lanes, .ref a0_sizes, .ref a0_items, .ref a0_tape, .int va0_length, .int va0_at, .int va0_number, .ref a0_readIce, .int va0_readCells, .ref a0_readPeople, .int va0_readMany, .ref a0_readSayings, .int va0_readSaid, .ref a0_line, .ref a0_bestLine, .int va0_bestFar, .int va0_bestIce, .ref a0_seen, .ref a0_held]), (a0_row, aI E 525 va0_row)] (Pe (some (.int out.1)) [(a0, oB 8 [.ref a0_row, .int va0_isKept, .ref a0_lanes, .ref a0_sizes, .ref a0_items, .ref a0_tape, .int va0_length, .int va0_at, .int va0_number, .ref a0_readIce, .int va0_readCells, .ref a0_readPeople, .int va0_readMany, .ref a0_readSayings, .int va0_readSaid, .ref a0_line, .ref a0_bestLine, .int va0_bestFar, .int va0_bestIce, .ref a0_seen, .ref a0_held]), (a0_row, aI E 525 out.2)]) := by
  refine Ct.of rfl (Nat.le_of_ble_eq_true rfl) (fun K hL k r hin => ?_)
  subst hL
  unfold fX8_through at hf
  show G E K 2 0 0 [(0, .ref a0)] [] [(a0, oB 8 [.ref a0_row, .int va0_isKept, .ref a0_lanes, .ref a0_sizes, .ref a0_items, .ref a0_tape, .int va0_length, .int va0_at, .int va0_number, .ref a0_readIce, .int va0_readCells, .ref a0_readPeople, .int va0_readMany, .ref a0_readSayings, .int va0_readSaid, .ref a0_line, .ref a0_bestLine, .int va0_bestFar, .int va0_bestIce, .ref a0_seen, .ref a0_held]), (a0_row, aI E 525 va0_row)] 0
  refine g_aload_n k 0 dX8_through_0 rfl rfl ?_
  obtain ⟨o1, ho2, hf⟩ := bnd_some hf
  refine g_cv k miX8_layTried mvX8_layTried (ctX8_layTried (kL K) E N a0 a0_row a0_lanes a0_sizes a0_items a0_tape a0_readIce a0_readPeople a0_readSayings a0_line a0_bestLine a0_seen a0_held va0_isKept va0_length va0_at va0_number va0_readCells va0_readMany va0_readSaid va0_bestFar va0_bestIce va0_row  o1 ho2) [0, 1] 0 (ws' := [(a0, oB 8 [.ref a0_row, .int va0_isKept, .ref a0_lanes, .ref a0_sizes, .ref a0_items, .ref a0_tape, .int va0_length, .int va0_at, .int va0_number, .ref a0_readIce, .int va0_readCells, .ref a0_readPeople, .int va0_readMany, .ref a0_readSayings, .int va0_readSaid, .ref a0_line, .ref a0_bestLine, .int va0_bestFar, .int va0_bestIce, .ref a0_seen, .ref a0_held]), (a0_row, aI E 525 o1)]) dX8_through_1 lkX8_199 rfl ⟨rfl, rfl⟩ ⟨by decide, by decide⟩ rfl rfl rfl rfl (Nat.le_of_ble_eq_true rfl) rfl rfl rfl ?_
  refine g_st (st' := []) rfl ?_
  refine g_iconst k dX8_through_4 ic_0 ?_
  refine g_istore_n k (lv' := [(1, .int 0), (0, .ref a0)]) dX8_through_5 rfl (by decide) rfl ?_
  obtain ⟨o11, ho12, hf⟩ := bnd_some hf
  refine g_lv [1, 0] (lv' := [(0, .ref a0), (1, .int 0)]) rfl ?_
  refine wX8_through_L6 k N a0 a0_row a0_lanes a0_sizes a0_items a0_tape a0_readIce a0_readPeople a0_readSayings a0_line a0_bestLine a0_seen a0_held   va0_isKept va0_length va0_at va0_number va0_readCells va0_readMany va0_readSaid va0_bestFar va0_bestIce r N 0 o1 o11 ho12 (fun w e => by subst e; exact Option.some.inj hf) (fun v13 e => ?_)
  subst e
  replace hf := lret_r hf
  refine g_bipush k dX8_through_44 bi_m4 ?_
  obtain rfl := Option.some.inj hf
  exact g_iret k r dX8_through_46 ⟨rfl, rfl⟩
abbrev rmX8_tryLine : Room := { frames := 6, cells := 0, slots := 0, locals := 147 }
def fX8_tryLine_L6 (N : Nat) (x1 : Int32) (va0_line : Nat → Int32) : Nat → Int32 → (Nat → Int32) → Option (Int32 × (Nat → Int32))
  | 0, _, _ => none
  | n + 1, x2, va0_row =>
    if x1 ≤ x2 then
    some (x2, va0_row)
    else
    ixb x2 5 fun κ4 =>
    bnd (fX8_pass N va0_row 484 (va0_line κ4)) fun o5 =>
    fX8_tryLine_L6 N x1 va0_line n (x2 + 1) o5
set_option maxHeartbeats 4000000 in
set_option maxRecDepth 100000 in
theorem wX8_tryLine_L6 {E : Ev} {K : KX} (k : OKX E K cX8_tryLine RX8 4 rmX8_tryLine) (N : Nat) (a0 : Nat) (a0_row : Nat) (a0_lanes : Nat) (a0_sizes : Nat) (a0_items : Nat) (a0_tape : Nat) (a0_readIce : Nat) (a0_readPeople : Nat) (a0_readSayings : Nat) (a0_line : Nat) (a0_bestLine : Nat) (a0_seen : Nat) (a0_held : Nat) (x1 : Int32) (va0_line : Nat → Int32) (va0_isKept : Int32) (va0_length : Int32) (va0_at : Int32) (va0_number : Int32) (va0_readCells : Int32) (va0_readMany : Int32) (va0_readSaid : Int32) (va0_bestFar : Int32) (va0_bestIce : Int32) (va0_bestLine : Nat → Int32) : ∀ (n : Nat) (x2 : Int32) (va0_row : Nat → Int32) (o : Int32 × (Nat → Int32)), fX8_tryLine_L6 N x1 va0_line n x2 va0_row = some o → G E K 4 0 0 [(0, .ref a0), (1, .int x1), (2, .int o.1)] [] [(a0, oB 8 [.ref a0_row, .int va0_isKept, .ref a0_lanes, .ref a0_sizes, .ref a0_items, .ref a0_tape, .int va0_length, .int va0_at, .int va0_number, .ref a0_readIce, .int va0_readCells, .ref a0_readPeople, .int va0_readMany, .ref a0_readSayings, .int va0_readSaid, .ref a0_line, .ref a0_bestLine, .int va0_bestFar, .int va0_bestIce, .ref a0_seen, .ref a0_held]), (a0_row, aI E 525 o.2), (a0_line, aI E 5 va0_line), (a0_bestLine, aI E 5 va0_bestLine)] 30 → G E K 4 0 0 [(0, .ref a0), (1, .int x1), (2, .int x2)] [] [(a0, oB 8 [.ref a0_row, .int va0_isKept, .ref a0_lanes, .ref a0_sizes, .ref a0_items, .ref a0_tape, .int va0_length, .int va0_at, .int va0_number, .ref a0_readIce, .int va0_readCells, .ref a0_readPeople, .int va0_readMany, .ref a0_readSayings, .int va0_readSaid, .ref a0_line, .ref a0_bestLine, .int va0_bestFar, .int va0_bestIce, .ref a0_seen, .ref a0_held]), (a0_row, aI E 525 va0_row), (a0_line, aI E 5 va0_line), (a0_bestLine, aI E 5 va0_bestLine)] 6 := by
  intro n
  induction n with
  | zero => intro x2 va0_row o hf; cases hf
  | succ n ih =>
    intro x2 va0_row o hf hG
    rw [fX8_tryLine_L6] at hf
    refine g_iload_n k 2 dX8_tryLine_6 rfl rfl ?_
    refine g_iload_n k 1 dX8_tryLine_7 rfl rfl ?_
    refine g_icmp_ge k (tgt := 30) dX8_tryLine_8 (by decide) (fun c3 => ?_) (fun c3 => ?_)
    · replace hf := ite_t c3 hf
      refine g_lv [0, 1, 2] rfl ?_
      obtain rfl := Option.some.inj hf
      exact hG
    · replace hf := ite_f c3 hf
      refine g_aload_n k 0 dX8_tryLine_11 rfl rfl ?_
      refine g_sipush k dX8_tryLine_12 si_484 ?_
      refine g_aload_n k 0 dX8_tryLine_15 rfl rfl ?_
      refine g_get k cfX8 15 0 dX8_tryLine_16 lkX8_35 (by decide) rfl rfl ?_
      refine g_iload_n k 2 dX8_tryLine_19 rfl rfl ?_
      obtain ⟨κ4, hκ4, hiκ4, heκ4, hf⟩ := ixb_some hf
      refine g_iaload k 2 dX8_tryLine_20 rfl hiκ4 heκ4 ?_
      obtain ⟨o5, ho6, hf⟩ := bnd_some hf
      refine g_cv k miX8_pass mvX8_pass (ctX8_pass (kL K) E N a0 a0_row a0_lanes a0_sizes a0_items a0_tape a0_readIce a0_readPeople a0_readSayings a0_line a0_bestLine a0_seen a0_held va0_isKept va0_length va0_at va0_number va0_readCells va0_readMany va0_readSaid va0_bestFar va0_bestIce va0_row 484 (va0_line κ4) o5 ho6) [0, 1] 0 (ws' := [(a0, oB 8 [.ref a0_row, .int va0_isKept, .ref a0_lanes, .ref a0_sizes, .ref a0_items, .ref a0_tape, .int va0_length, .int va0_at, .int va0_number, .ref a0_readIce, .int va0_readCells, .ref a0_readPeople, .int va0_readMany, .ref a0_readSayings, .int va0_readSaid, .ref a0_line, .ref a0_bestLine, .int va0_bestFar, .int va0_bestIce, .ref a0_seen, .ref a0_held]), (a0_row, aI E 525 o5), (a0_line, aI E 5 va0_line), (a0_bestLine, aI E 5 va0_bestLine)]) dX8_tryLine_21 lkX8_182 rfl ⟨rfl, rfl⟩ ⟨by decide, by decide⟩ rfl rfl rfl rfl (Nat.le_of_ble_eq_true rfl) rfl rfl rfl ?_
      refine g_st (st' := []) rfl ?_
      refine g_iinc k (lv' := [(2, .int (x2 + 1)), (0, .ref a0), (1, .int x1)]) 2 dX8_tryLine_24 rfl (ii_1 _) (by decide) rfl ?_
      refine g_goto k (tgt := 6) dX8_tryLine_27 (by decide) ?_
      refine g_lv [1, 2, 0] rfl ?_
      exact ih (x2 + 1) o5 o hf hG
def fX8_tryLine_L87 (N : Nat) (x1 : Int32) (x2 : Int32) (va0_line : Nat → Int32) : Nat → Int32 → (Nat → Int32) → Option (Int32 × (Nat → Int32))
  | 0, _, _ => none
  | n + 1, x3, va0_bestLine =>
    if x1 ≤ x3 then
    some (x3, va0_bestLine)
    else
    ixb x3 5 fun κ13 =>
    ixb x3 5 fun κ14 =>
    fX8_tryLine_L87 N x1 x2 va0_line n (x3 + 1) (upd va0_bestLine κ14 (va0_line κ13))
set_option maxHeartbeats 4000000 in
set_option maxRecDepth 100000 in
theorem wX8_tryLine_L87 {E : Ev} {K : KX} (k : OKX E K cX8_tryLine RX8 4 rmX8_tryLine) (N : Nat) (a0 : Nat) (a0_row : Nat) (a0_lanes : Nat) (a0_sizes : Nat) (a0_items : Nat) (a0_tape : Nat) (a0_readIce : Nat) (a0_readPeople : Nat) (a0_readSayings : Nat) (a0_line : Nat) (a0_bestLine : Nat) (a0_seen : Nat) (a0_held : Nat) (x1 : Int32) (x2 : Int32) (va0_line : Nat → Int32) (va0_isKept : Int32) (va0_length : Int32) (va0_at : Int32) (va0_number : Int32) (va0_readCells : Int32) (va0_readMany : Int32) (va0_readSaid : Int32) (va0_bestFar : Int32) (va0_bestIce : Int32) (va0_row : Nat → Int32) : ∀ (n : Nat) (x3 : Int32) (va0_bestLine : Nat → Int32) (o : Int32 × (Nat → Int32)), fX8_tryLine_L87 N x1 x2 va0_line n x3 va0_bestLine = some o → G E K 4 0 0 [(0, .ref a0), (1, .int x1), (2, .int x2), (3, .int o.1)] [] [(a0, oB 8 [.ref a0_row, .int va0_isKept, .ref a0_lanes, .ref a0_sizes, .ref a0_items, .ref a0_tape, .int va0_length, .int va0_at, .int va0_number, .ref a0_readIce, .int va0_readCells, .ref a0_readPeople, .int va0_readMany, .ref a0_readSayings, .int va0_readSaid, .ref a0_line, .ref a0_bestLine, .int va0_bestFar, .int va0_bestIce, .ref a0_seen, .ref a0_held]), (a0_row, aI E 525 va0_row), (a0_line, aI E 5 va0_line), (a0_bestLine, aI E 5 o.2)] 110 → G E K 4 0 0 [(0, .ref a0), (1, .int x1), (2, .int x2), (3, .int x3)] [] [(a0, oB 8 [.ref a0_row, .int va0_isKept, .ref a0_lanes, .ref a0_sizes, .ref a0_items, .ref a0_tape, .int va0_length, .int va0_at, .int va0_number, .ref a0_readIce, .int va0_readCells, .ref a0_readPeople, .int va0_readMany, .ref a0_readSayings, .int va0_readSaid, .ref a0_line, .ref a0_bestLine, .int va0_bestFar, .int va0_bestIce, .ref a0_seen, .ref a0_held]), (a0_row, aI E 525 va0_row), (a0_line, aI E 5 va0_line), (a0_bestLine, aI E 5 va0_bestLine)] 87 := by
  intro n
  induction n with
  | zero => intro x3 va0_bestLine o hf; cases hf
  | succ n ih =>
    intro x3 va0_bestLine o hf hG
    rw [fX8_tryLine_L87] at hf
    refine g_iload_n k 3 dX8_tryLine_87 rfl rfl ?_
    refine g_iload_n k 1 dX8_tryLine_88 rfl rfl ?_
    refine g_icmp_ge k (tgt := 110) dX8_tryLine_89 (by decide) (fun c12 => ?_) (fun c12 => ?_)
    · replace hf := ite_t c12 hf
      refine g_lv [0, 1, 2, 3] rfl ?_
      obtain rfl := Option.some.inj hf
      exact hG
    · replace hf := ite_f c12 hf
      refine g_aload_n k 0 dX8_tryLine_92 rfl rfl ?_
      refine g_get k cfX8 16 0 dX8_tryLine_93 lkX8_38 (by decide) rfl rfl ?_
      refine g_iload_n k 3 dX8_tryLine_96 rfl rfl ?_
      refine g_aload_n k 0 dX8_tryLine_97 rfl rfl ?_
      refine g_get k cfX8 15 0 dX8_tryLine_98 lkX8_35 (by decide) rfl rfl ?_
      refine g_iload_n k 3 dX8_tryLine_101 rfl rfl ?_
      obtain ⟨κ13, hκ13, hiκ13, heκ13, hf⟩ := ixb_some hf
      refine g_iaload k 2 dX8_tryLine_102 rfl hiκ13 heκ13 ?_
      obtain ⟨κ14, hκ14, hiκ14, heκ14, hf⟩ := ixb_some hf
      refine g_iastore k 3 (ws' := [(a0, oB 8 [.ref a0_row, .int va0_isKept, .ref a0_lanes, .ref a0_sizes, .ref a0_items, .ref a0_tape, .int va0_length, .int va0_at, .int va0_number, .ref a0_readIce, .int va0_readCells, .ref a0_readPeople, .int va0_readMany, .ref a0_readSayings, .int va0_readSaid, .ref a0_line, .ref a0_bestLine, .int va0_bestFar, .int va0_bestIce, .ref a0_seen, .ref a0_held]), (a0_row, aI E 525 va0_row), (a0_line, aI E 5 va0_line), (a0_bestLine, aI E 5 (upd va0_bestLine κ14 (va0_line κ13)))]) dX8_tryLine_103 rfl hiκ14 heκ14 rfl ?_
      refine g_iinc k (lv' := [(3, .int (x3 + 1)), (0, .ref a0), (1, .int x1), (2, .int x2)]) 3 dX8_tryLine_104 rfl (ii_1 _) (by decide) rfl ?_
      refine g_goto k (tgt := 87) dX8_tryLine_107 (by decide) ?_
      refine g_lv [1, 2, 3, 0] rfl ?_
      exact ih (x3 + 1) (upd va0_bestLine κ14 (va0_line κ13)) o hf hG
def fX8_tryLine (N : Nat) (va0_bestFar : Int32) (va0_bestIce : Int32) (va0_row : Nat → Int32) (va0_line : Nat → Int32) (va0_bestLine : Nat → Int32) (x1 : Int32) : Option (Int32 × Int32 × (Nat → Int32) × (Nat → Int32)) :=
  bnd (fX8_layTried N va0_row) fun o1 =>
  bnd (fX8_tryLine_L6 N x1 va0_line N 0 o1) fun o7 =>
  if va0_bestFar < (o7.2 484) then
  bnd (fX8_iceAhead N o7.2 484) fun o10 =>
  bnd (fX8_tryLine_L87 N x1 (o7.2 484) va0_line N 0 va0_bestLine) fun o15 =>
  some ((o7.2 484), o10, o7.2, o15.2)
  else
  if (o7.2 484) = va0_bestFar then
  bnd (fX8_iceAhead N o7.2 484) fun o18 =>
  if va0_bestIce ≤ o18 then
  some (va0_bestFar, va0_bestIce, o7.2, va0_bestLine)
  else
  bnd (fX8_iceAhead N o7.2 484) fun o21 =>
  bnd (fX8_tryLine_L87 N x1 (o7.2 484) va0_line N 0 va0_bestLine) fun o23 =>
  some ((o7.2 484), o21, o7.2, o23.2)
  else
  some (va0_bestFar, va0_bestIce, o7.2, va0_bestLine)
set_option maxHeartbeats 4000000 in
set_option maxRecDepth 100000 in
theorem ctX8_tryLine (l : Launch) (E : Ev) (N : Nat) (a0 : Nat) (a0_row : Nat) (a0_lanes : Nat) (a0_sizes : Nat) (a0_items : Nat) (a0_tape : Nat) (a0_readIce : Nat) (a0_readPeople : Nat) (a0_readSayings : Nat) (a0_line : Nat) (a0_bestLine : Nat) (a0_seen : Nat) (a0_held : Nat) (va0_isKept : Int32) (va0_length : Int32) (va0_at : Int32) (va0_number : Int32) (va0_readCells : Int32) (va0_readMany : Int32) (va0_readSaid : Int32) (va0_bestFar : Int32) (va0_bestIce : Int32) (va0_row : Nat → Int32) (va0_line : Nat → Int32) (va0_bestLine : Nat → Int32) (x1 : Int32) (out : Int32 × Int32 × (Nat → Int32) × (Nat → Int32)) (hf : fX8_tryLine N va0_bestFar va0_bestIce va0_row va0_line va0_bestLine x1 = some out) : Ct l E yX8_tryLine cX8_tryLine 4 none rmX8_tryLine [.ref a0, .int x1] [(a0, oB 8 [.ref a0_row, .int va0_isKept, .ref a0_lanes, .ref a0_sizes, .ref a0_items, .ref a0_tape, .int va0_length, .int va0_at, .int va0_number, .ref a0_readIce, .int va0_readCells, .ref a0_readPeople, .int va0_readMany, .ref a0_readSayings, .int va0_readSaid, .ref a0_line, .ref a0_bestLine, .int va0_bestFar, .int va0_bestIce, .ref a0_seen, .ref a0_held]), (a0_row, aI E 525 va0_row), (a0_line, aI E 5 va0_line), (a0_bestLine, aI E 5 va0_bestLine)] (Pe none [(a0, oB 8 [.ref a0_row, .int va0_isKept, .ref a0_lanes, .ref a0_sizes, .ref a0_items, .ref a0_tape, .int va0_length, .int va0_at, .int va0_number, .ref a0_readIce, .int va0_readCells, .ref a0_readPeople, .int va0_readMany, .ref a0_readSayings, .int va0_readSaid, .ref a0_line, .ref a0_bestLine, .int out.1, .int out.2.1, .ref a0_seen, .ref a0_held]), (a0_row, aI E 525 out.2.2.1), (a0_line, aI E 5 va0_line), (a0_bestLine, aI E 5 out.2.2.2)]) := by
  refine Ct.of rfl (Nat.le_of_ble_eq_true rfl) (fun K hL k r hin => ?_)
  subst hL
  unfold fX8_tryLine at hf
  show G E K 4 0 0 [(0, .ref a0), (1, .int x1)] [] [(a0, oB 8 [.ref a0_row, .int va0_isKept, .ref a0_lanes, .ref a0_sizes, .ref a0_items, .ref a0_tape, .int va0_length, .int va0_at, .int va0_number, .ref a0_readIce, .int va0_readCells, .ref a0_readPeople, .int va0_readMany, .ref a0_readSayings, .int va0_readSaid, .ref a0_line, .ref a0_bestLine, .int va0_bestFar, .int va0_bestIce, .ref a0_seen, .ref a0_held]), (a0_row, aI E 525 va0_row), (a0_line, aI E 5 va0_line), (a0_bestLine, aI E 5 va0_bestLine)] 0
  refine g_aload_n k 0 dX8_tryLine_0 rfl rfl ?_
  obtain ⟨o1, ho2, hf⟩ := bnd_some hf
  refine g_cv k miX8_layTried mvX8_layTried (ctX8_layTried (kL K) E N a0 a0_row a0_lanes a0_sizes a0_items a0_tape a0_readIce a0_readPeople a0_readSayings a0_line a0_bestLine a0_seen a0_held va0_isKept va0_length va0_at va0_number va0_readCells va0_readMany va0_readSaid va0_bestFar va0_bestIce va0_row  o1 ho2) [0, 1] 0 (ws' := [(a0, oB 8 [.ref a0_row, .int va0_isKept, .ref a0_lanes, .ref a0_sizes, .ref a0_items, .ref a0_tape, .int va0_length, .int va0_at, .int va0_number, .ref a0_readIce, .int va0_readCells, .ref a0_readPeople, .int va0_readMany, .ref a0_readSayings, .int va0_readSaid, .ref a0_line, .ref a0_bestLine, .int va0_bestFar, .int va0_bestIce, .ref a0_seen, .ref a0_held]), (a0_row, aI E 525 o1), (a0_line, aI E 5 va0_line), (a0_bestLine, aI E 5 va0_bestLine)]) dX8_tryLine_1 lkX8_199 rfl ⟨rfl, rfl⟩ ⟨by decide, by decide⟩ rfl rfl rfl rfl (Nat.le_of_ble_eq_true rfl) rfl rfl rfl ?_
  refine g_st (st' := []) rfl ?_
  refine g_iconst k dX8_tryLine_4 ic_0 ?_
  refine g_istore_n k (lv' := [(2, .int 0), (0, .ref a0), (1, .int x1)]) dX8_tryLine_5 rfl (by decide) rfl ?_
  obtain ⟨o7, ho8, hf⟩ := bnd_some hf
  refine g_lv [1, 2, 0] (lv' := [(0, .ref a0), (1, .int x1), (2, .int 0)]) rfl ?_
  refine wX8_tryLine_L6 k N a0 a0_row a0_lanes a0_sizes a0_items a0_tape a0_readIce a0_readPeople a0_readSayings a0_line a0_bestLine a0_seen a0_held  x1 va0_line va0_isKept va0_length va0_at va0_number va0_readCells va0_readMany va0_readSaid va0_bestFar va0_bestIce va0_bestLine N 0 o1 o7 ho8 ?_
  refine g_aload_n k 0 dX8_tryLine_30 rfl rfl ?_
  refine g_get k cfX8 0 0 dX8_tryLine_31 lkX8_7 (by decide) rfl rfl ?_
  refine g_sipush k dX8_tryLine_34 si_484 ?_
  refine g_iaload k 1 dX8_tryLine_37 rfl vi_484_525 cl_484 ?_
  refine g_istore_n k (lv' := [(2, .int (o7.2 484)), (0, .ref a0), (1, .int x1)]) dX8_tryLine_38 rfl (by decide) rfl ?_
  refine g_iload_n k 0 dX8_tryLine_39 rfl rfl ?_
  refine g_aload_n k 1 dX8_tryLine_40 rfl rfl ?_
  refine g_get k cfX8 17 0 dX8_tryLine_41 lkX8_205 (by decide) rfl rfl ?_
  refine g_icmp_gt k (tgt := 69) dX8_tryLine_44 (by decide) (fun c9 => ?_) (fun c9 => ?_)
  · replace hf := ite_t c9 hf
    refine g_aload_n k 1 dX8_tryLine_69 rfl rfl ?_
    refine g_iload_n k 0 dX8_tryLine_70 rfl rfl ?_
    refine g_put k cfX8 17 0 (ws' := [(a0, oB 8 [.ref a0_row, .int va0_isKept, .ref a0_lanes, .ref a0_sizes, .ref a0_items, .ref a0_tape, .int va0_length, .int va0_at, .int va0_number, .ref a0_readIce, .int va0_readCells, .ref a0_readPeople, .int va0_readMany, .ref a0_readSayings, .int va0_readSaid, .ref a0_line, .ref a0_bestLine, .int (o7.2 484), .int va0_bestIce, .ref a0_seen, .ref a0_held]), (a0_row, aI E 525 o7.2), (a0_line, aI E 5 va0_line), (a0_bestLine, aI E 5 va0_bestLine)]) dX8_tryLine_71 lkX8_205 (by decide) rfl rfl rfl rfl (Nat.le_of_ble_eq_true rfl) rfl ?_
    refine g_aload_n k 1 dX8_tryLine_74 rfl rfl ?_
    refine g_aload_n k 1 dX8_tryLine_75 rfl rfl ?_
    refine g_sipush k dX8_tryLine_76 si_484 ?_
    obtain ⟨o10, ho11, hf⟩ := bnd_some hf
    refine g_cv k miX8_iceAhead mvX8_iceAhead (ctX8_iceAhead (kL K) E N a0 a0_row a0_lanes a0_sizes a0_items a0_tape a0_readIce a0_readPeople a0_readSayings a0_line a0_bestLine a0_seen a0_held va0_isKept va0_length va0_at va0_number va0_readCells va0_readMany va0_readSaid (o7.2 484) va0_bestIce o7.2 484 o10 ho11) [0, 1] 0 (ws' := [(a0, oB 8 [.ref a0_row, .int va0_isKept, .ref a0_lanes, .ref a0_sizes, .ref a0_items, .ref a0_tape, .int va0_length, .int va0_at, .int va0_number, .ref a0_readIce, .int va0_readCells, .ref a0_readPeople, .int va0_readMany, .ref a0_readSayings, .int va0_readSaid, .ref a0_line, .ref a0_bestLine, .int (o7.2 484), .int va0_bestIce, .ref a0_seen, .ref a0_held]), (a0_row, aI E 525 o7.2), (a0_line, aI E 5 va0_line), (a0_bestLine, aI E 5 va0_bestLine)]) dX8_tryLine_79 lkX8_202 rfl ⟨rfl, rfl⟩ ⟨by decide, by decide⟩ rfl rfl rfl rfl (Nat.le_of_ble_eq_true rfl) rfl rfl rfl ?_
    refine g_st (st' := [.int o10, .ref a0]) rfl ?_
    refine g_put k cfX8 18 0 (ws' := [(a0, oB 8 [.ref a0_row, .int va0_isKept, .ref a0_lanes, .ref a0_sizes, .ref a0_items, .ref a0_tape, .int va0_length, .int va0_at, .int va0_number, .ref a0_readIce, .int va0_readCells, .ref a0_readPeople, .int va0_readMany, .ref a0_readSayings, .int va0_readSaid, .ref a0_line, .ref a0_bestLine, .int (o7.2 484), .int o10, .ref a0_seen, .ref a0_held]), (a0_row, aI E 525 o7.2), (a0_line, aI E 5 va0_line), (a0_bestLine, aI E 5 va0_bestLine)]) dX8_tryLine_82 lkX8_208 (by decide) rfl rfl rfl rfl (Nat.le_of_ble_eq_true rfl) rfl ?_
    refine g_iconst k dX8_tryLine_85 ic_0 ?_
    refine g_istore_n k (lv' := [(3, .int 0), (2, .int (o7.2 484)), (0, .ref a0), (1, .int x1)]) dX8_tryLine_86 rfl (by decide) rfl ?_
    obtain ⟨o15, ho16, hf⟩ := bnd_some hf
    refine g_lv [2, 3, 1, 0] (lv' := [(0, .ref a0), (1, .int x1), (2, .int (o7.2 484)), (3, .int 0)]) rfl ?_
    refine wX8_tryLine_L87 k N a0 a0_row a0_lanes a0_sizes a0_items a0_tape a0_readIce a0_readPeople a0_readSayings a0_line a0_bestLine a0_seen a0_held  x1 (o7.2 484) va0_line va0_isKept va0_length va0_at va0_number va0_readCells va0_readMany va0_readSaid (o7.2 484) o10 o7.2 N 0 va0_bestLine o15 ho16 ?_
    obtain rfl := Option.some.inj hf
    exact g_vret k r dX8_tryLine_110 ⟨rfl, rfl⟩
  · replace hf := ite_f c9 hf
    refine g_iload_n k 0 dX8_tryLine_47 rfl rfl ?_
    refine g_aload_n k 1 dX8_tryLine_48 rfl rfl ?_
    refine g_get k cfX8 17 0 dX8_tryLine_49 lkX8_205 (by decide) rfl rfl ?_
    refine g_icmp_ne k (tgt := 110) dX8_tryLine_52 (by decide) (fun c17 => ?_) (fun c17 => ?_)
    · replace hf := ite_f c17 hf
      obtain rfl := Option.some.inj hf
      exact g_vret k r dX8_tryLine_110 ⟨rfl, rfl⟩
    · replace hf := ite_t c17 hf
      refine g_aload_n k 1 dX8_tryLine_55 rfl rfl ?_
      refine g_sipush k dX8_tryLine_56 si_484 ?_
      obtain ⟨o18, ho19, hf⟩ := bnd_some hf
      refine g_cv k miX8_iceAhead mvX8_iceAhead (ctX8_iceAhead (kL K) E N a0 a0_row a0_lanes a0_sizes a0_items a0_tape a0_readIce a0_readPeople a0_readSayings a0_line a0_bestLine a0_seen a0_held va0_isKept va0_length va0_at va0_number va0_readCells va0_readMany va0_readSaid va0_bestFar va0_bestIce o7.2 484 o18 ho19) [0, 1] 0 (ws' := [(a0, oB 8 [.ref a0_row, .int va0_isKept, .ref a0_lanes, .ref a0_sizes, .ref a0_items, .ref a0_tape, .int va0_length, .int va0_at, .int va0_number, .ref a0_readIce, .int va0_readCells, .ref a0_readPeople, .int va0_readMany, .ref a0_readSayings, .int va0_readSaid, .ref a0_line, .ref a0_bestLine, .int va0_bestFar, .int va0_bestIce, .ref a0_seen, .ref a0_held]), (a0_row, aI E 525 o7.2), (a0_line, aI E 5 va0_line), (a0_bestLine, aI E 5 va0_bestLine)]) dX8_tryLine_59 lkX8_202 rfl ⟨rfl, rfl⟩ ⟨by decide, by decide⟩ rfl rfl rfl rfl (Nat.le_of_ble_eq_true rfl) rfl rfl rfl ?_
      refine g_st (st' := [.int o18]) rfl ?_
      refine g_aload_n k 1 dX8_tryLine_62 rfl rfl ?_
      refine g_get k cfX8 18 0 dX8_tryLine_63 lkX8_208 (by decide) rfl rfl ?_
      refine g_icmp_ge k (tgt := 110) dX8_tryLine_66 (by decide) (fun c20 => ?_) (fun c20 => ?_)
      · replace hf := ite_t c20 hf
        obtain rfl := Option.some.inj hf
        exact g_vret k r dX8_tryLine_110 ⟨rfl, rfl⟩
      · replace hf := ite_f c20 hf
        refine g_aload_n k 1 dX8_tryLine_69 rfl rfl ?_
        refine g_iload_n k 0 dX8_tryLine_70 rfl rfl ?_
        refine g_put k cfX8 17 0 (ws' := [(a0, oB 8 [.ref a0_row, .int va0_isKept, .ref a0_lanes, .ref a0_sizes, .ref a0_items, .ref a0_tape, .int va0_length, .int va0_at, .int va0_number, .ref a0_readIce, .int va0_readCells, .ref a0_readPeople, .int va0_readMany, .ref a0_readSayings, .int va0_readSaid, .ref a0_line, .ref a0_bestLine, .int (o7.2 484), .int va0_bestIce, .ref a0_seen, .ref a0_held]), (a0_row, aI E 525 o7.2), (a0_line, aI E 5 va0_line), (a0_bestLine, aI E 5 va0_bestLine)]) dX8_tryLine_71 lkX8_205 (by decide) rfl rfl rfl rfl (Nat.le_of_ble_eq_true rfl) rfl ?_
        refine g_aload_n k 1 dX8_tryLine_74 rfl rfl ?_
        refine g_aload_n k 1 dX8_tryLine_75 rfl rfl ?_
        refine g_sipush k dX8_tryLine_76 si_484 ?_
        obtain ⟨o21, ho22, hf⟩ := bnd_some hf
        refine g_cv k miX8_iceAhead mvX8_iceAhead (ctX8_iceAhead (kL K) E N a0 a0_row a0_lanes a0_sizes a0_items a0_tape a0_readIce a0_readPeople a0_readSayings a0_line a0_bestLine a0_seen a0_held va0_isKept va0_length va0_at va0_number va0_readCells va0_readMany va0_readSaid (o7.2 484) va0_bestIce o7.2 484 o21 ho22) [0, 1] 0 (ws' := [(a0, oB 8 [.ref a0_row, .int va0_isKept, .ref a0_lanes, .ref a0_sizes, .ref a0_items, .ref a0_tape, .int va0_length, .int va0_at, .int va0_number, .ref a0_readIce, .int va0_readCells, .ref a0_readPeople, .int va0_readMany, .ref a0_readSayings, .int va0_readSaid, .ref a0_line, .ref a0_bestLine, .int (o7.2 484), .int va0_bestIce, .ref a0_seen, .ref a0_held]), (a0_row, aI E 525 o7.2), (a0_line, aI E 5 va0_line), (a0_bestLine, aI E 5 va0_bestLine)]) dX8_tryLine_79 lkX8_202 rfl ⟨rfl, rfl⟩ ⟨by decide, by decide⟩ rfl rfl rfl rfl (Nat.le_of_ble_eq_true rfl) rfl rfl rfl ?_
        refine g_st (st' := [.int o21, .ref a0]) rfl ?_
        refine g_put k cfX8 18 0 (ws' := [(a0, oB 8 [.ref a0_row, .int va0_isKept, .ref a0_lanes, .ref a0_sizes, .ref a0_items, .ref a0_tape, .int va0_length, .int va0_at, .int va0_number, .ref a0_readIce, .int va0_readCells, .ref a0_readPeople, .int va0_readMany, .ref a0_readSayings, .int va0_readSaid, .ref a0_line, .ref a0_bestLine, .int (o7.2 484), .int o21, .ref a0_seen, .ref a0_held]), (a0_row, aI E 525 o7.2), (a0_line, aI E 5 va0_line), (a0_bestLine, aI E 5 va0_bestLine)]) dX8_tryLine_82 lkX8_208 (by decide) rfl rfl rfl rfl (Nat.le_of_ble_eq_true rfl) rfl ?_
        refine g_iconst k dX8_tryLine_85 ic_0 ?_
        refine g_istore_n k (lv' := [(3, .int 0), (2, .int (o7.2 484)), (0, .ref a0), (1, .int x1)]) dX8_tryLine_86 rfl (by decide) rfl ?_
        obtain ⟨o23, ho24, hf⟩ := bnd_some hf
        refine g_lv [2, 3, 1, 0] (lv' := [(0, .ref a0), (1, .int x1), (2, .int (o7.2 484)), (3, .int 0)]) rfl ?_
        refine wX8_tryLine_L87 k N a0 a0_row a0_lanes a0_sizes a0_items a0_tape a0_readIce a0_readPeople a0_readSayings a0_line a0_bestLine a0_seen a0_held  x1 (o7.2 484) va0_line va0_isKept va0_length va0_at va0_number va0_readCells va0_readMany va0_readSaid (o7.2 484) o21 o7.2 N 0 va0_bestLine o23 ho24 ?_
        obtain rfl := Option.some.inj hf
        exact g_vret k r dX8_tryLine_110 ⟨rfl, rfl⟩
abbrev rmX8_tellLine : Room := { frames := 0, cells := 0, slots := 0, locals := 0 }
def fX8_tellLine (N : Nat) (va0_bestFar : Int32) (va0_bestLine : Nat → Int32) (x1 : Int32) (x2 : Int32) : Option (Int32) :=
  if 0 ≤ x2 then
  if x1 ≤ x2 then
  some ((-4))
  else
  ixb x2 5 fun κ3 =>
  some ((va0_bestLine κ3))
  else
  some (va0_bestFar)
set_option maxHeartbeats 4000000 in
set_option maxRecDepth 100000 in
theorem ctX8_tellLine (l : Launch) (E : Ev) (N : Nat) (a0 : Nat) (a0_row : Nat) (a0_lanes : Nat) (a0_sizes : Nat) (a0_items : Nat) (a0_tape : Nat) (a0_readIce : Nat) (a0_readPeople : Nat) (a0_readSayings : Nat) (a0_line : Nat) (a0_bestLine : Nat) (a0_seen : Nat) (a0_held : Nat) (va0_isKept : Int32) (va0_length : Int32) (va0_at : Int32) (va0_number : Int32) (va0_readCells : Int32) (va0_readMany : Int32) (va0_readSaid : Int32) (va0_bestFar : Int32) (va0_bestIce : Int32) (va0_bestLine : Nat → Int32) (x1 : Int32) (x2 : Int32) (out : Int32) (hf : fX8_tellLine N va0_bestFar va0_bestLine x1 x2 = some out) : Ct l E yX8_tellLine cX8_tellLine 3 (some .int) rmX8_tellLine [.ref a0, .int x1, .int x2] [(a0, oB 8 [.ref a0_row, .int va0_isKept, .ref a0_lanes, .ref a0_sizes, .ref a0_items, .ref a0_tape, .int va0_length, .int va0_at, .int va0_number, .ref a0_readIce, .int va0_readCells, .ref a0_readPeople, .int va0_readMany, .ref a0_readSayings, .int va0_readSaid, .ref a0_line, .ref a0_bestLine, .int va0_bestFar, .int va0_bestIce, .ref a0_seen, .ref a0_held]), (a0_bestLine, aI E 5 va0_bestLine)] (Pe (some (.int out)) [(a0, oB 8 [.ref a0_row, .int va0_isKept, .ref a0_lanes, .ref a0_sizes, .ref a0_items, .ref a0_tape, .int va0_length, .int va0_at, .int va0_number, .ref a0_readIce, .int va0_readCells, .ref a0_readPeople, .int va0_readMany, .ref a0_readSayings, .int va0_readSaid, .ref a0_line, .ref a0_bestLine, .int va0_bestFar, .int va0_bestIce, .ref a0_seen, .ref a0_held]), (a0_bestLine, aI E 5 va0_bestLine)]) := by
  refine Ct.of rfl (Nat.le_of_ble_eq_true rfl) (fun K hL k r hin => ?_)
  subst hL
  unfold fX8_tellLine at hf
  show G E K 3 0 0 [(0, .ref a0), (1, .int x1), (2, .int x2)] [] [(a0, oB 8 [.ref a0_row, .int va0_isKept, .ref a0_lanes, .ref a0_sizes, .ref a0_items, .ref a0_tape, .int va0_length, .int va0_at, .int va0_number, .ref a0_readIce, .int va0_readCells, .ref a0_readPeople, .int va0_readMany, .ref a0_readSayings, .int va0_readSaid, .ref a0_line, .ref a0_bestLine, .int va0_bestFar, .int va0_bestIce, .ref a0_seen, .ref a0_held]), (a0_bestLine, aI E 5 va0_bestLine)] 0
  refine g_iload_n k 2 dX8_tellLine_0 rfl rfl ?_
  refine g_if_ge k (tgt := 11) dX8_tellLine_1 (by decide) (fun c1 => ?_) (fun c1 => ?_)
  · replace hf := ite_t c1 hf
    refine g_iload_n k 2 dX8_tellLine_11 rfl rfl ?_
    refine g_iload_n k 1 dX8_tellLine_12 rfl rfl ?_
    refine g_icmp_ge k (tgt := 25) dX8_tellLine_13 (by decide) (fun c2 => ?_) (fun c2 => ?_)
    · replace hf := ite_t c2 hf
      refine g_bipush k dX8_tellLine_25 bi_m4 ?_
      obtain rfl := Option.some.inj hf
      exact g_iret k r dX8_tellLine_27 ⟨rfl, rfl⟩
    · replace hf := ite_f c2 hf
      refine g_aload_n k 0 dX8_tellLine_16 rfl rfl ?_
      refine g_get k cfX8 16 0 dX8_tellLine_17 lkX8_38 (by decide) rfl rfl ?_
      refine g_iload_n k 2 dX8_tellLine_20 rfl rfl ?_
      obtain ⟨κ3, hκ3, hiκ3, heκ3, hf⟩ := ixb_some hf
      refine g_iaload k 1 dX8_tellLine_21 rfl hiκ3 heκ3 ?_
      refine g_goto k (tgt := 27) dX8_tellLine_22 (by decide) ?_
      obtain rfl := Option.some.inj hf
      exact g_iret k r dX8_tellLine_27 ⟨rfl, rfl⟩
  · replace hf := ite_f c1 hf
    refine g_aload_n k 0 dX8_tellLine_4 rfl rfl ?_
    refine g_get k cfX8 17 0 dX8_tellLine_5 lkX8_205 (by decide) rfl rfl ?_
    refine g_goto k (tgt := 27) dX8_tellLine_8 (by decide) ?_
    obtain rfl := Option.some.inj hf
    exact g_iret k r dX8_tellLine_27 ⟨rfl, rfl⟩
abbrev rmX8_nextRow : Room := { frames := 0, cells := 0, slots := 0, locals := 0 }
def fX8_nextRow_L4 (N : Nat) (x1 : Int32) (va0_row : Nat → Int32) : Nat → Int32 → (Nat → Int32) → Option (Int32 × (Nat → Int32))
  | 0, _, _ => none
  | n + 1, x2, va0_line =>
    if x2 < 0 then
    some (x2, va0_line)
    else
    ixb x2 5 fun κ2 =>
    if (va0_line κ2) = ((va0_row 28) - 1) then
    ixb x2 5 fun κ4 =>
    fX8_nextRow_L4 N x1 va0_row n (x2 + (-1)) (upd va0_line κ4 0)
    else
    some (x2, va0_line)
set_option maxHeartbeats 4000000 in
set_option maxRecDepth 100000 in
theorem wX8_nextRow_L4 {E : Ev} {K : KX} (k : OKX E K cX8_nextRow RX8 3 rmX8_nextRow) (N : Nat) (a0 : Nat) (a0_row : Nat) (a0_lanes : Nat) (a0_sizes : Nat) (a0_items : Nat) (a0_tape : Nat) (a0_readIce : Nat) (a0_readPeople : Nat) (a0_readSayings : Nat) (a0_line : Nat) (a0_bestLine : Nat) (a0_seen : Nat) (a0_held : Nat) (x1 : Int32) (va0_row : Nat → Int32) (va0_isKept : Int32) (va0_length : Int32) (va0_at : Int32) (va0_number : Int32) (va0_readCells : Int32) (va0_readMany : Int32) (va0_readSaid : Int32) (va0_bestFar : Int32) (va0_bestIce : Int32) : ∀ (n : Nat) (x2 : Int32) (va0_line : Nat → Int32) (o : Int32 × (Nat → Int32)), fX8_nextRow_L4 N x1 va0_row n x2 va0_line = some o → G E K 3 0 0 [(0, .ref a0), (1, .int x1), (2, .int o.1)] [] [(a0, oB 8 [.ref a0_row, .int va0_isKept, .ref a0_lanes, .ref a0_sizes, .ref a0_items, .ref a0_tape, .int va0_length, .int va0_at, .int va0_number, .ref a0_readIce, .int va0_readCells, .ref a0_readPeople, .int va0_readMany, .ref a0_readSayings, .int va0_readSaid, .ref a0_line, .ref a0_bestLine, .int va0_bestFar, .int va0_bestIce, .ref a0_seen, .ref a0_held]), (a0_row, aI E 525 va0_row), (a0_line, aI E 5 o.2)] 39 → G E K 3 0 0 [(0, .ref a0), (1, .int x1), (2, .int x2)] [] [(a0, oB 8 [.ref a0_row, .int va0_isKept, .ref a0_lanes, .ref a0_sizes, .ref a0_items, .ref a0_tape, .int va0_length, .int va0_at, .int va0_number, .ref a0_readIce, .int va0_readCells, .ref a0_readPeople, .int va0_readMany, .ref a0_readSayings, .int va0_readSaid, .ref a0_line, .ref a0_bestLine, .int va0_bestFar, .int va0_bestIce, .ref a0_seen, .ref a0_held]), (a0_row, aI E 525 va0_row), (a0_line, aI E 5 va0_line)] 4 := by
  intro n
  induction n with
  | zero => intro x2 va0_line o hf; cases hf
  | succ n ih =>
    intro x2 va0_line o hf hG
    rw [fX8_nextRow_L4] at hf
    refine g_iload_n k 2 dX8_nextRow_4 rfl rfl ?_
    refine g_if_lt k (tgt := 39) dX8_nextRow_5 (by decide) (fun c1 => ?_) (fun c1 => ?_)
    · replace hf := ite_t c1 hf
      refine g_lv [0, 1, 2] rfl ?_
      obtain rfl := Option.some.inj hf
      exact hG
    · replace hf := ite_f c1 hf
      refine g_aload_n k 0 dX8_nextRow_8 rfl rfl ?_
      refine g_get k cfX8 15 0 dX8_nextRow_9 lkX8_35 (by decide) rfl rfl ?_
      refine g_iload_n k 2 dX8_nextRow_12 rfl rfl ?_
      obtain ⟨κ2, hκ2, hiκ2, heκ2, hf⟩ := ixb_some hf
      refine g_iaload k 2 dX8_nextRow_13 rfl hiκ2 heκ2 ?_
      refine g_aload_n k 0 dX8_nextRow_14 rfl rfl ?_
      refine g_get k cfX8 0 0 dX8_nextRow_15 lkX8_7 (by decide) rfl rfl ?_
      refine g_bipush k dX8_nextRow_18 bi_28 ?_
      refine g_iaload k 1 dX8_nextRow_20 rfl vi_28_525 cl_28 ?_
      refine g_iconst k dX8_nextRow_21 ic_1 ?_
      refine g_isub k dX8_nextRow_22 ?_
      refine g_icmp_ne k (tgt := 39) dX8_nextRow_23 (by decide) (fun c3 => ?_) (fun c3 => ?_)
      · replace hf := ite_f c3 hf
        refine g_lv [0, 1, 2] rfl ?_
        obtain rfl := Option.some.inj hf
        exact hG
      · replace hf := ite_t c3 hf
        refine g_aload_n k 0 dX8_nextRow_26 rfl rfl ?_
        refine g_get k cfX8 15 0 dX8_nextRow_27 lkX8_35 (by decide) rfl rfl ?_
        refine g_iload_n k 2 dX8_nextRow_30 rfl rfl ?_
        refine g_iconst k dX8_nextRow_31 ic_0 ?_
        obtain ⟨κ4, hκ4, hiκ4, heκ4, hf⟩ := ixb_some hf
        refine g_iastore k 2 (ws' := [(a0, oB 8 [.ref a0_row, .int va0_isKept, .ref a0_lanes, .ref a0_sizes, .ref a0_items, .ref a0_tape, .int va0_length, .int va0_at, .int va0_number, .ref a0_readIce, .int va0_readCells, .ref a0_readPeople, .int va0_readMany, .ref a0_readSayings, .int va0_readSaid, .ref a0_line, .ref a0_bestLine, .int va0_bestFar, .int va0_bestIce, .ref a0_seen, .ref a0_held]), (a0_row, aI E 525 va0_row), (a0_line, aI E 5 (upd va0_line κ4 0))]) dX8_nextRow_32 rfl hiκ4 heκ4 rfl ?_
        refine g_iinc k (lv' := [(2, .int (x2 + (-1))), (0, .ref a0), (1, .int x1)]) 2 dX8_nextRow_33 rfl (ii_m1 _) (by decide) rfl ?_
        refine g_goto k (tgt := 4) dX8_nextRow_36 (by decide) ?_
        refine g_lv [1, 2, 0] rfl ?_
        exact ih (x2 + (-1)) (upd va0_line κ4 0) o hf hG
def fX8_nextRow (N : Nat) (va0_row : Nat → Int32) (va0_line : Nat → Int32) (x1 : Int32) : Option (Int32 × (Nat → Int32)) :=
  bnd (fX8_nextRow_L4 N x1 va0_row N (x1 - 1) va0_line) fun o5 =>
  if o5.1 < 0 then
  if o5.1 < 0 then
  some (0, o5.2)
  else
  some (1, o5.2)
  else
  ixb o5.1 5 fun κ9 =>
  ixb o5.1 5 fun κ10 =>
  if o5.1 < 0 then
  some (0, (upd o5.2 κ10 ((o5.2 κ9) + 1)))
  else
  some (1, (upd o5.2 κ10 ((o5.2 κ9) + 1)))
set_option maxHeartbeats 4000000 in
set_option maxRecDepth 100000 in
theorem ctX8_nextRow (l : Launch) (E : Ev) (N : Nat) (a0 : Nat) (a0_row : Nat) (a0_lanes : Nat) (a0_sizes : Nat) (a0_items : Nat) (a0_tape : Nat) (a0_readIce : Nat) (a0_readPeople : Nat) (a0_readSayings : Nat) (a0_line : Nat) (a0_bestLine : Nat) (a0_seen : Nat) (a0_held : Nat) (va0_isKept : Int32) (va0_length : Int32) (va0_at : Int32) (va0_number : Int32) (va0_readCells : Int32) (va0_readMany : Int32) (va0_readSaid : Int32) (va0_bestFar : Int32) (va0_bestIce : Int32) (va0_row : Nat → Int32) (va0_line : Nat → Int32) (x1 : Int32) (out : Int32 × (Nat → Int32)) (hf : fX8_nextRow N va0_row va0_line x1 = some out) : Ct l E yX8_nextRow cX8_nextRow 3 (some .boolean) rmX8_nextRow [.ref a0, .int x1] [(a0, oB 8 [.ref a0_row, .int va0_isKept, .ref a0_lanes, .ref a0_sizes, .ref a0_items, .ref a0_tape, .int va0_length, .int va0_at, .int va0_number, .ref a0_readIce, .int va0_readCells, .ref a0_readPeople, .int va0_readMany, .ref a0_readSayings, .int va0_readSaid, .ref a0_line, .ref a0_bestLine, .int va0_bestFar, .int va0_bestIce, .ref a0_seen, .ref a0_held]), (a0_row, aI E 525 va0_row), (a0_line, aI E 5 va0_line)] (Pe (some (.int out.1)) [(a0, oB 8 [.ref a0_row, .int va0_isKept, .ref a0_lanes, .ref a0_sizes, .ref a0_items, .ref a0_tape, .int va0_length, .int va0_at, .int va0_number, .ref a0_readIce, .int va0_readCells, .ref a0_readPeople, .int va0_readMany, .ref a0_readSayings, .int va0_readSaid, .ref a0_line, .ref a0_bestLine, .int va0_bestFar, .int va0_bestIce, .ref a0_seen, .ref a0_held]), (a0_row, aI E 525 va0_row), (a0_line, aI E 5 out.2)]) := by
  refine Ct.of rfl (Nat.le_of_ble_eq_true rfl) (fun K hL k r hin => ?_)
  subst hL
  unfold fX8_nextRow at hf
  show G E K 3 0 0 [(0, .ref a0), (1, .int x1)] [] [(a0, oB 8 [.ref a0_row, .int va0_isKept, .ref a0_lanes, .ref a0_sizes, .ref a0_items, .ref a0_tape, .int va0_length, .int va0_at, .int va0_number, .ref a0_readIce, .int va0_readCells, .ref a0_readPeople, .int va0_readMany, .ref a0_readSayings, .int va0_readSaid, .ref a0_line, .ref a0_bestLine, .int va0_bestFar, .int va0_bestIce, .ref a0_seen, .ref a0_held]), (a0_row, aI E 525 va0_row), (a0_line, aI E 5 va0_line)] 0
  refine g_iload_n k 1 dX8_nextRow_0 rfl rfl ?_
  refine g_iconst k dX8_nextRow_1 ic_1 ?_
  refine g_isub k dX8_nextRow_2 ?_
  refine g_istore_n k (lv' := [(2, .int (x1 - 1)), (0, .ref a0), (1, .int x1)]) dX8_nextRow_3 rfl (by decide) rfl ?_
  obtain ⟨o5, ho6, hf⟩ := bnd_some hf
  refine g_lv [1, 2, 0] (lv' := [(0, .ref a0), (1, .int x1), (2, .int (x1 - 1))]) rfl ?_
  refine wX8_nextRow_L4 k N a0 a0_row a0_lanes a0_sizes a0_items a0_tape a0_readIce a0_readPeople a0_readSayings a0_line a0_bestLine a0_seen a0_held  x1 va0_row va0_isKept va0_length va0_at va0_number va0_readCells va0_readMany va0_readSaid va0_bestFar va0_bestIce N (x1 - 1) va0_line o5 ho6 ?_
  refine g_iload_n k 2 dX8_nextRow_39 rfl rfl ?_
  refine g_if_lt k (tgt := 53) dX8_nextRow_40 (by decide) (fun c7 => ?_) (fun c7 => ?_)
  · replace hf := ite_t c7 hf
    refine g_iload_n k 2 dX8_nextRow_53 rfl rfl ?_
    refine g_if_lt k (tgt := 61) dX8_nextRow_54 (by decide) (fun c8 => ?_) (fun c8 => ?_)
    · replace hf := ite_t c8 hf
      refine g_iconst k dX8_nextRow_61 ic_0 ?_
      obtain rfl := Option.some.inj hf
      exact g_zret k (rfl) r dX8_nextRow_62 ⟨rfl, rfl⟩
    · replace hf := ite_f c8 hf
      refine g_iconst k dX8_nextRow_57 ic_1 ?_
      refine g_goto k (tgt := 62) dX8_nextRow_58 (by decide) ?_
      obtain rfl := Option.some.inj hf
      exact g_zret k (rfl) r dX8_nextRow_62 ⟨rfl, rfl⟩
  · replace hf := ite_f c7 hf
    refine g_aload_n k 0 dX8_nextRow_43 rfl rfl ?_
    refine g_get k cfX8 15 0 dX8_nextRow_44 lkX8_35 (by decide) rfl rfl ?_
    refine g_iload_n k 2 dX8_nextRow_47 rfl rfl ?_
    refine g_dup2 k dX8_nextRow_48 rfl rfl ?_
    obtain ⟨κ9, hκ9, hiκ9, heκ9, hf⟩ := ixb_some hf
    refine g_iaload k 2 dX8_nextRow_49 rfl hiκ9 heκ9 ?_
    refine g_iconst k dX8_nextRow_50 ic_1 ?_
    refine g_iadd k dX8_nextRow_51 ?_
    obtain ⟨κ10, hκ10, hiκ10, heκ10, hf⟩ := ixb_some hf
    refine g_iastore k 2 (ws' := [(a0, oB 8 [.ref a0_row, .int va0_isKept, .ref a0_lanes, .ref a0_sizes, .ref a0_items, .ref a0_tape, .int va0_length, .int va0_at, .int va0_number, .ref a0_readIce, .int va0_readCells, .ref a0_readPeople, .int va0_readMany, .ref a0_readSayings, .int va0_readSaid, .ref a0_line, .ref a0_bestLine, .int va0_bestFar, .int va0_bestIce, .ref a0_seen, .ref a0_held]), (a0_row, aI E 525 va0_row), (a0_line, aI E 5 (upd o5.2 κ10 ((o5.2 κ9) + 1)))]) dX8_nextRow_52 rfl hiκ10 heκ10 rfl ?_
    refine g_iload_n k 2 dX8_nextRow_53 rfl rfl ?_
    refine g_if_lt k (tgt := 61) dX8_nextRow_54 (by decide) (fun c11 => ?_) (fun c11 => ?_)
    · replace hf := ite_t c11 hf
      refine g_iconst k dX8_nextRow_61 ic_0 ?_
      obtain rfl := Option.some.inj hf
      exact g_zret k (rfl) r dX8_nextRow_62 ⟨rfl, rfl⟩
    · replace hf := ite_f c11 hf
      refine g_iconst k dX8_nextRow_57 ic_1 ?_
      refine g_goto k (tgt := 62) dX8_nextRow_58 (by decide) ?_
      obtain rfl := Option.some.inj hf
      exact g_zret k (rfl) r dX8_nextRow_62 ⟨rfl, rfl⟩
abbrev rmX8_plan : Room := { frames := 7, cells := 0, slots := 0, locals := 170 }
def fX8_plan_L39 (N : Nat) (x1 : Int32) (x2 : Int32) : Nat → Int32 → (Nat → Int32) → Option (Int32 × (Nat → Int32))
  | 0, _, _ => none
  | n + 1, x3, va0_line =>
    if x1 ≤ x3 then
    some (x3, va0_line)
    else
    ixb x3 5 fun κ7 =>
    fX8_plan_L39 N x1 x2 n (x3 + 1) (upd va0_line κ7 0)
set_option maxHeartbeats 4000000 in
set_option maxRecDepth 100000 in
theorem wX8_plan_L39 {E : Ev} {K : KX} (k : OKX E K cX8_plan RX8 4 rmX8_plan) (N : Nat) (a0 : Nat) (a0_row : Nat) (a0_lanes : Nat) (a0_sizes : Nat) (a0_items : Nat) (a0_tape : Nat) (a0_readIce : Nat) (a0_readPeople : Nat) (a0_readSayings : Nat) (a0_line : Nat) (a0_bestLine : Nat) (a0_seen : Nat) (a0_held : Nat) (x1 : Int32) (x2 : Int32) (va0_isKept : Int32) (va0_length : Int32) (va0_at : Int32) (va0_number : Int32) (va0_readCells : Int32) (va0_readMany : Int32) (va0_readSaid : Int32) (va0_bestFar : Int32) (va0_bestIce : Int32) (va0_row : Nat → Int32) (va0_bestLine : Nat → Int32) : ∀ (n : Nat) (x3 : Int32) (va0_line : Nat → Int32) (o : Int32 × (Nat → Int32)), fX8_plan_L39 N x1 x2 n x3 va0_line = some o → G E K 4 0 0 [(0, .ref a0), (1, .int x1), (2, .int x2), (3, .int o.1)] [] [(a0, oB 8 [.ref a0_row, .int va0_isKept, .ref a0_lanes, .ref a0_sizes, .ref a0_items, .ref a0_tape, .int va0_length, .int va0_at, .int va0_number, .ref a0_readIce, .int va0_readCells, .ref a0_readPeople, .int va0_readMany, .ref a0_readSayings, .int va0_readSaid, .ref a0_line, .ref a0_bestLine, .int va0_bestFar, .int va0_bestIce, .ref a0_seen, .ref a0_held]), (a0_row, aI E 525 va0_row), (a0_line, aI E 5 o.2), (a0_bestLine, aI E 5 va0_bestLine)] 57 → G E K 4 0 0 [(0, .ref a0), (1, .int x1), (2, .int x2), (3, .int x3)] [] [(a0, oB 8 [.ref a0_row, .int va0_isKept, .ref a0_lanes, .ref a0_sizes, .ref a0_items, .ref a0_tape, .int va0_length, .int va0_at, .int va0_number, .ref a0_readIce, .int va0_readCells, .ref a0_readPeople, .int va0_readMany, .ref a0_readSayings, .int va0_readSaid, .ref a0_line, .ref a0_bestLine, .int va0_bestFar, .int va0_bestIce, .ref a0_seen, .ref a0_held]), (a0_row, aI E 525 va0_row), (a0_line, aI E 5 va0_line), (a0_bestLine, aI E 5 va0_bestLine)] 39 := by
  intro n
  induction n with
  | zero => intro x3 va0_line o hf; cases hf
  | succ n ih =>
    intro x3 va0_line o hf hG
    rw [fX8_plan_L39] at hf
    refine g_iload_n k 3 dX8_plan_39 rfl rfl ?_
    refine g_iload_n k 1 dX8_plan_40 rfl rfl ?_
    refine g_icmp_ge k (tgt := 57) dX8_plan_41 (by decide) (fun c6 => ?_) (fun c6 => ?_)
    · replace hf := ite_t c6 hf
      refine g_lv [0, 1, 2, 3] rfl ?_
      obtain rfl := Option.some.inj hf
      exact hG
    · replace hf := ite_f c6 hf
      refine g_aload_n k 0 dX8_plan_44 rfl rfl ?_
      refine g_get k cfX8 15 0 dX8_plan_45 lkX8_35 (by decide) rfl rfl ?_
      refine g_iload_n k 3 dX8_plan_48 rfl rfl ?_
      refine g_iconst k dX8_plan_49 ic_0 ?_
      obtain ⟨κ7, hκ7, hiκ7, heκ7, hf⟩ := ixb_some hf
      refine g_iastore k 2 (ws' := [(a0, oB 8 [.ref a0_row, .int va0_isKept, .ref a0_lanes, .ref a0_sizes, .ref a0_items, .ref a0_tape, .int va0_length, .int va0_at, .int va0_number, .ref a0_readIce, .int va0_readCells, .ref a0_readPeople, .int va0_readMany, .ref a0_readSayings, .int va0_readSaid, .ref a0_line, .ref a0_bestLine, .int va0_bestFar, .int va0_bestIce, .ref a0_seen, .ref a0_held]), (a0_row, aI E 525 va0_row), (a0_line, aI E 5 (upd va0_line κ7 0)), (a0_bestLine, aI E 5 va0_bestLine)]) dX8_plan_50 rfl hiκ7 heκ7 rfl ?_
      refine g_iinc k (lv' := [(3, .int (x3 + 1)), (0, .ref a0), (1, .int x1), (2, .int x2)]) 3 dX8_plan_51 rfl (ii_1 _) (by decide) rfl ?_
      refine g_goto k (tgt := 39) dX8_plan_54 (by decide) ?_
      refine g_lv [1, 2, 3, 0] rfl ?_
      exact ih (x3 + 1) (upd va0_line κ7 0) o hf hG
def fX8_plan_L59 (N : Nat) (x1 : Int32) (x2 : Int32) : Nat → Int32 → Int32 → Int32 → (Nat → Int32) → (Nat → Int32) → (Nat → Int32) → Option (Int32 × Int32 × Int32 × (Nat → Int32) × (Nat → Int32) × (Nat → Int32))
  | 0, _, _, _, _, _, _ => none
  | n + 1, x3, va0_bestFar, va0_bestIce, va0_row, va0_line, va0_bestLine =>
    if x3 = 0 then
    some (x3, va0_bestFar, va0_bestIce, va0_row, va0_line, va0_bestLine)
    else
    bnd (fX8_tryLine N va0_bestFar va0_bestIce va0_row va0_line va0_bestLine x1) fun o11 =>
    bnd (fX8_nextRow N o11.2.2.1 va0_line x1) fun o13 =>
    fX8_plan_L59 N x1 x2 n o13.1 o11.1 o11.2.1 o11.2.2.1 o13.2 o11.2.2.2
set_option maxHeartbeats 4000000 in
set_option maxRecDepth 100000 in
theorem wX8_plan_L59 {E : Ev} {K : KX} (k : OKX E K cX8_plan RX8 4 rmX8_plan) (N : Nat) (a0 : Nat) (a0_row : Nat) (a0_lanes : Nat) (a0_sizes : Nat) (a0_items : Nat) (a0_tape : Nat) (a0_readIce : Nat) (a0_readPeople : Nat) (a0_readSayings : Nat) (a0_line : Nat) (a0_bestLine : Nat) (a0_seen : Nat) (a0_held : Nat) (x1 : Int32) (x2 : Int32) (va0_isKept : Int32) (va0_length : Int32) (va0_at : Int32) (va0_number : Int32) (va0_readCells : Int32) (va0_readMany : Int32) (va0_readSaid : Int32) : ∀ (n : Nat) (x3 : Int32) (va0_bestFar : Int32) (va0_bestIce : Int32) (va0_row : Nat → Int32) (va0_line : Nat → Int32) (va0_bestLine : Nat → Int32) (o : Int32 × Int32 × Int32 × (Nat → Int32) × (Nat → Int32) × (Nat → Int32)), fX8_plan_L59 N x1 x2 n x3 va0_bestFar va0_bestIce va0_row va0_line va0_bestLine = some o → G E K 4 0 0 [(0, .ref a0), (1, .int x1), (2, .int x2), (3, .int o.1)] [] [(a0, oB 8 [.ref a0_row, .int va0_isKept, .ref a0_lanes, .ref a0_sizes, .ref a0_items, .ref a0_tape, .int va0_length, .int va0_at, .int va0_number, .ref a0_readIce, .int va0_readCells, .ref a0_readPeople, .int va0_readMany, .ref a0_readSayings, .int va0_readSaid, .ref a0_line, .ref a0_bestLine, .int o.2.1, .int o.2.2.1, .ref a0_seen, .ref a0_held]), (a0_row, aI E 525 o.2.2.2.1), (a0_line, aI E 5 o.2.2.2.2.1), (a0_bestLine, aI E 5 o.2.2.2.2.2)] 77 → G E K 4 0 0 [(0, .ref a0), (1, .int x1), (2, .int x2), (3, .int x3)] [] [(a0, oB 8 [.ref a0_row, .int va0_isKept, .ref a0_lanes, .ref a0_sizes, .ref a0_items, .ref a0_tape, .int va0_length, .int va0_at, .int va0_number, .ref a0_readIce, .int va0_readCells, .ref a0_readPeople, .int va0_readMany, .ref a0_readSayings, .int va0_readSaid, .ref a0_line, .ref a0_bestLine, .int va0_bestFar, .int va0_bestIce, .ref a0_seen, .ref a0_held]), (a0_row, aI E 525 va0_row), (a0_line, aI E 5 va0_line), (a0_bestLine, aI E 5 va0_bestLine)] 59 := by
  intro n
  induction n with
  | zero => intro x3 va0_bestFar va0_bestIce va0_row va0_line va0_bestLine o hf; cases hf
  | succ n ih =>
    intro x3 va0_bestFar va0_bestIce va0_row va0_line va0_bestLine o hf hG
    rw [fX8_plan_L59] at hf
    refine g_iload_n k 3 dX8_plan_59 rfl rfl ?_
    refine g_if_eq k (tgt := 77) dX8_plan_60 (by decide) (fun c10 => ?_) (fun c10 => ?_)
    · replace hf := ite_t c10 hf
      refine g_lv [0, 1, 2, 3] rfl ?_
      obtain rfl := Option.some.inj hf
      exact hG
    · replace hf := ite_f c10 hf
      refine g_aload_n k 0 dX8_plan_63 rfl rfl ?_
      refine g_iload_n k 1 dX8_plan_64 rfl rfl ?_
      obtain ⟨o11, ho12, hf⟩ := bnd_some hf
      refine g_cv k miX8_tryLine mvX8_tryLine (ctX8_tryLine (kL K) E N a0 a0_row a0_lanes a0_sizes a0_items a0_tape a0_readIce a0_readPeople a0_readSayings a0_line a0_bestLine a0_seen a0_held va0_isKept va0_length va0_at va0_number va0_readCells va0_readMany va0_readSaid va0_bestFar va0_bestIce va0_row va0_line va0_bestLine x1 o11 ho12) [0, 1, 2, 3] 0 (ws' := [(a0, oB 8 [.ref a0_row, .int va0_isKept, .ref a0_lanes, .ref a0_sizes, .ref a0_items, .ref a0_tape, .int va0_length, .int va0_at, .int va0_number, .ref a0_readIce, .int va0_readCells, .ref a0_readPeople, .int va0_readMany, .ref a0_readSayings, .int va0_readSaid, .ref a0_line, .ref a0_bestLine, .int o11.1, .int o11.2.1, .ref a0_seen, .ref a0_held]), (a0_row, aI E 525 o11.2.2.1), (a0_line, aI E 5 va0_line), (a0_bestLine, aI E 5 o11.2.2.2)]) dX8_plan_65 lkX8_211 rfl ⟨rfl, rfl⟩ ⟨by decide, by decide⟩ rfl rfl rfl rfl (Nat.le_of_ble_eq_true rfl) rfl rfl rfl ?_
      refine g_st (st' := []) rfl ?_
      refine g_aload_n k 0 dX8_plan_68 rfl rfl ?_
      refine g_iload_n k 1 dX8_plan_69 rfl rfl ?_
      obtain ⟨o13, ho14, hf⟩ := bnd_some hf
      refine g_cv k miX8_nextRow mvX8_nextRow (ctX8_nextRow (kL K) E N a0 a0_row a0_lanes a0_sizes a0_items a0_tape a0_readIce a0_readPeople a0_readSayings a0_line a0_bestLine a0_seen a0_held va0_isKept va0_length va0_at va0_number va0_readCells va0_readMany va0_readSaid o11.1 o11.2.1 o11.2.2.1 va0_line x1 o13 ho14) [0, 1, 2] 0 (ws' := [(a0, oB 8 [.ref a0_row, .int va0_isKept, .ref a0_lanes, .ref a0_sizes, .ref a0_items, .ref a0_tape, .int va0_length, .int va0_at, .int va0_number, .ref a0_readIce, .int va0_readCells, .ref a0_readPeople, .int va0_readMany, .ref a0_readSayings, .int va0_readSaid, .ref a0_line, .ref a0_bestLine, .int o11.1, .int o11.2.1, .ref a0_seen, .ref a0_held]), (a0_row, aI E 525 o11.2.2.1), (a0_line, aI E 5 o13.2), (a0_bestLine, aI E 5 o11.2.2.2)]) dX8_plan_70 lkX8_214 rfl ⟨rfl, rfl⟩ ⟨by decide, by decide⟩ rfl rfl rfl rfl (Nat.le_of_ble_eq_true rfl) rfl rfl rfl ?_
      refine g_st (st' := [.int o13.1]) rfl ?_
      refine g_istore_n k (lv' := [(3, .int o13.1), (0, .ref a0), (1, .int x1), (2, .int x2)]) dX8_plan_73 rfl (by decide) rfl ?_
      refine g_goto k (tgt := 59) dX8_plan_74 (by decide) ?_
      refine g_lv [1, 2, 3, 0] rfl ?_
      exact ih o13.1 o11.1 o11.2.1 o11.2.2.1 o13.2 o11.2.2.2 o hf hG
def fX8_plan (N : Nat) (va0_bestFar : Int32) (va0_bestIce : Int32) (va0_row : Nat → Int32) (va0_line : Nat → Int32) (va0_bestLine : Nat → Int32) (x1 : Int32) (x2 : Int32) : Option (Int32 × Int32 × Int32 × (Nat → Int32) × (Nat → Int32) × (Nat → Int32)) :=
  bnd (fX8_in N x1.toInt64 1 4) fun o1 =>
  if o1 = 0 then
  some ((-1), va0_bestFar, va0_bestIce, va0_row, va0_line, va0_bestLine)
  else
  if (-1) ≤ x2 then
  if (va0_row 28) = 0 then
  some ((-4), va0_bestFar, va0_bestIce, va0_row, va0_line, va0_bestLine)
  else
  bnd (fX8_plan_L39 N x1 x2 N 0 va0_line) fun o8 =>
  bnd (fX8_plan_L59 N x1 x2 N 1 (-1) va0_bestIce va0_row o8.2 va0_bestLine) fun o15 =>
  bnd (fX8_tellLine N o15.2.1 o15.2.2.2.2.2 x1 x2) fun o17 =>
  some (o17, o15.2.1, o15.2.2.1, o15.2.2.2.1, o15.2.2.2.2.1, o15.2.2.2.2.2)
  else
  some ((-1), va0_bestFar, va0_bestIce, va0_row, va0_line, va0_bestLine)
set_option maxHeartbeats 4000000 in
set_option maxRecDepth 100000 in
theorem ctX8_plan (l : Launch) (E : Ev) (N : Nat) (a0 : Nat) (a0_row : Nat) (a0_lanes : Nat) (a0_sizes : Nat) (a0_items : Nat) (a0_tape : Nat) (a0_readIce : Nat) (a0_readPeople : Nat) (a0_readSayings : Nat) (a0_line : Nat) (a0_bestLine : Nat) (a0_seen : Nat) (a0_held : Nat) (va0_isKept : Int32) (va0_length : Int32) (va0_at : Int32) (va0_number : Int32) (va0_readCells : Int32) (va0_readMany : Int32) (va0_readSaid : Int32) (va0_bestFar : Int32) (va0_bestIce : Int32) (va0_row : Nat → Int32) (va0_line : Nat → Int32) (va0_bestLine : Nat → Int32) (x1 : Int32) (x2 : Int32) (out : Int32 × Int32 × Int32 × (Nat → Int32) × (Nat → Int32) × (Nat → Int32)) (hf : fX8_plan N va0_bestFar va0_bestIce va0_row va0_line va0_bestLine x1 x2 = some out) : Ct l E yX8_plan cX8_plan 4 (some .int) rmX8_plan [.ref a0, .int x1, .int x2] [(a0, oB 8 [.ref a0_row, .int va0_isKept, .ref a0_lanes, .ref a0_sizes, .ref a0_items, .ref a0_tape, .int va0_length, .int va0_at, .int va0_number, .ref a0_readIce, .int va0_readCells, .ref a0_readPeople, .int va0_readMany, .ref a0_readSayings, .int va0_readSaid, .ref a0_line, .ref a0_bestLine, .int va0_bestFar, .int va0_bestIce, .ref a0_seen, .ref a0_held]), (a0_row, aI E 525 va0_row), (a0_line, aI E 5 va0_line), (a0_bestLine, aI E 5 va0_bestLine)] (Pe (some (.int out.1)) [(a0, oB 8 [.ref a0_row, .int va0_isKept, .ref a0_lanes, .ref a0_sizes, .ref a0_items, .ref a0_tape, .int va0_length, .int va0_at, .int va0_number, .ref a0_readIce, .int va0_readCells, .ref a0_readPeople, .int va0_readMany, .ref a0_readSayings, .int va0_readSaid, .ref a0_line, .ref a0_bestLine, .int out.2.1, .int out.2.2.1, .ref a0_seen, .ref a0_held]), (a0_row, aI E 525 out.2.2.2.1), (a0_line, aI E 5 out.2.2.2.2.1), (a0_bestLine, aI E 5 out.2.2.2.2.2)]) := by
  refine Ct.of rfl (Nat.le_of_ble_eq_true rfl) (fun K hL k r hin => ?_)
  subst hL
  unfold fX8_plan at hf
  show G E K 4 0 0 [(0, .ref a0), (1, .int x1), (2, .int x2)] [] [(a0, oB 8 [.ref a0_row, .int va0_isKept, .ref a0_lanes, .ref a0_sizes, .ref a0_items, .ref a0_tape, .int va0_length, .int va0_at, .int va0_number, .ref a0_readIce, .int va0_readCells, .ref a0_readPeople, .int va0_readMany, .ref a0_readSayings, .int va0_readSaid, .ref a0_line, .ref a0_bestLine, .int va0_bestFar, .int va0_bestIce, .ref a0_seen, .ref a0_held]), (a0_row, aI E 525 va0_row), (a0_line, aI E 5 va0_line), (a0_bestLine, aI E 5 va0_bestLine)] 0
  refine g_iload_n k 1 dX8_plan_0 rfl rfl ?_
  refine g_i2l k dX8_plan_1 ?_
  refine g_lconst k dX8_plan_2 lc_1 ?_
  refine g_ldc2 k dX8_plan_3 lkX8_57 ?_
  obtain ⟨o1, ho2, hf⟩ := bnd_some hf
  refine g_cs k miX8_in msX8_in (ctX8_in (kL K) E N   x1.toInt64 1 4 o1 ho2) [] (ws' := [(a0, oB 8 [.ref a0_row, .int va0_isKept, .ref a0_lanes, .ref a0_sizes, .ref a0_items, .ref a0_tape, .int va0_length, .int va0_at, .int va0_number, .ref a0_readIce, .int va0_readCells, .ref a0_readPeople, .int va0_readMany, .ref a0_readSayings, .int va0_readSaid, .ref a0_line, .ref a0_bestLine, .int va0_bestFar, .int va0_bestIce, .ref a0_seen, .ref a0_held]), (a0_row, aI E 525 va0_row), (a0_line, aI E 5 va0_line), (a0_bestLine, aI E 5 va0_bestLine)]) dX8_plan_6 lkX8_47 rfl ⟨rfl, rfl⟩ ⟨by decide, by decide⟩ rfl rfl rfl (Nat.le_of_ble_eq_true rfl) rfl rfl rfl ?_
  refine g_st (st' := [.int o1]) rfl ?_
  refine g_if_eq k (tgt := 17) dX8_plan_9 (by decide) (fun c3 => ?_) (fun c3 => ?_)
  · replace hf := ite_t c3 hf
    refine g_iconst k dX8_plan_17 ic_m1 ?_
    obtain rfl := Option.some.inj hf
    exact g_iret k r dX8_plan_18 ⟨rfl, rfl⟩
  · replace hf := ite_f c3 hf
    refine g_iload_n k 2 dX8_plan_12 rfl rfl ?_
    refine g_iconst k dX8_plan_13 ic_m1 ?_
    refine g_icmp_ge k (tgt := 19) dX8_plan_14 (by decide) (fun c4 => ?_) (fun c4 => ?_)
    · replace hf := ite_t c4 hf
      refine g_aload_n k 0 dX8_plan_19 rfl rfl ?_
      refine g_get k cfX8 0 0 dX8_plan_20 lkX8_7 (by decide) rfl rfl ?_
      refine g_bipush k dX8_plan_23 bi_28 ?_
      refine g_iaload k 1 dX8_plan_25 rfl vi_28_525 cl_28 ?_
      refine g_if_ne k (tgt := 32) dX8_plan_26 (by decide) (fun c5 => ?_) (fun c5 => ?_)
      · replace hf := ite_f c5 hf
        refine g_aload_n k 0 dX8_plan_32 rfl rfl ?_
        refine g_iconst k dX8_plan_33 ic_m1 ?_
        refine g_put k cfX8 17 0 (ws' := [(a0, oB 8 [.ref a0_row, .int va0_isKept, .ref a0_lanes, .ref a0_sizes, .ref a0_items, .ref a0_tape, .int va0_length, .int va0_at, .int va0_number, .ref a0_readIce, .int va0_readCells, .ref a0_readPeople, .int va0_readMany, .ref a0_readSayings, .int va0_readSaid, .ref a0_line, .ref a0_bestLine, .int (-1), .int va0_bestIce, .ref a0_seen, .ref a0_held]), (a0_row, aI E 525 va0_row), (a0_line, aI E 5 va0_line), (a0_bestLine, aI E 5 va0_bestLine)]) dX8_plan_34 lkX8_205 (by decide) rfl rfl rfl rfl (Nat.le_of_ble_eq_true rfl) rfl ?_
        refine g_iconst k dX8_plan_37 ic_0 ?_
        refine g_istore_n k (lv' := [(3, .int 0), (0, .ref a0), (1, .int x1), (2, .int x2)]) dX8_plan_38 rfl (by decide) rfl ?_
        obtain ⟨o8, ho9, hf⟩ := bnd_some hf
        refine g_lv [1, 2, 3, 0] (lv' := [(0, .ref a0), (1, .int x1), (2, .int x2), (3, .int 0)]) rfl ?_
        refine wX8_plan_L39 k N a0 a0_row a0_lanes a0_sizes a0_items a0_tape a0_readIce a0_readPeople a0_readSayings a0_line a0_bestLine a0_seen a0_held  x1 x2 va0_isKept va0_length va0_at va0_number va0_readCells va0_readMany va0_readSaid (-1) va0_bestIce va0_row va0_bestLine N 0 va0_line o8 ho9 ?_
        refine g_iconst k dX8_plan_57 ic_1 ?_
        refine g_istore_n k (lv' := [(3, .int 1), (0, .ref a0), (1, .int x1), (2, .int x2)]) dX8_plan_58 rfl (by decide) rfl ?_
        obtain ⟨o15, ho16, hf⟩ := bnd_some hf
        refine g_lv [1, 2, 3, 0] (lv' := [(0, .ref a0), (1, .int x1), (2, .int x2), (3, .int 1)]) rfl ?_
        refine wX8_plan_L59 k N a0 a0_row a0_lanes a0_sizes a0_items a0_tape a0_readIce a0_readPeople a0_readSayings a0_line a0_bestLine a0_seen a0_held  x1 x2 va0_isKept va0_length va0_at va0_number va0_readCells va0_readMany va0_readSaid N 1 (-1) va0_bestIce va0_row o8.2 va0_bestLine o15 ho16 ?_
        refine g_aload_n k 0 dX8_plan_77 rfl rfl ?_
        refine g_iload_n k 1 dX8_plan_78 rfl rfl ?_
        refine g_iload_n k 2 dX8_plan_79 rfl rfl ?_
        obtain ⟨o17, ho18, hf⟩ := bnd_some hf
        refine g_cv k miX8_tellLine mvX8_tellLine (ctX8_tellLine (kL K) E N a0 a0_row a0_lanes a0_sizes a0_items a0_tape a0_readIce a0_readPeople a0_readSayings a0_line a0_bestLine a0_seen a0_held va0_isKept va0_length va0_at va0_number va0_readCells va0_readMany va0_readSaid o15.2.1 o15.2.2.1 o15.2.2.2.2.2 x1 x2 o17 ho18) [0, 3] 0 (ws' := [(a0, oB 8 [.ref a0_row, .int va0_isKept, .ref a0_lanes, .ref a0_sizes, .ref a0_items, .ref a0_tape, .int va0_length, .int va0_at, .int va0_number, .ref a0_readIce, .int va0_readCells, .ref a0_readPeople, .int va0_readMany, .ref a0_readSayings, .int va0_readSaid, .ref a0_line, .ref a0_bestLine, .int o15.2.1, .int o15.2.2.1, .ref a0_seen, .ref a0_held]), (a0_row, aI E 525 o15.2.2.2.1), (a0_line, aI E 5 o15.2.2.2.2.1), (a0_bestLine, aI E 5 o15.2.2.2.2.2)]) dX8_plan_80 lkX8_217 rfl ⟨rfl, rfl⟩ ⟨by decide, by decide⟩ rfl rfl rfl rfl (Nat.le_of_ble_eq_true rfl) rfl rfl rfl ?_
        refine g_st (st' := [.int o17]) rfl ?_
        obtain rfl := Option.some.inj hf
        exact g_iret k r dX8_plan_83 ⟨rfl, rfl⟩
      · replace hf := ite_t c5 hf
        refine g_bipush k dX8_plan_29 bi_m4 ?_
        obtain rfl := Option.some.inj hf
        exact g_iret k r dX8_plan_31 ⟨rfl, rfl⟩
    · replace hf := ite_f c4 hf
      refine g_iconst k dX8_plan_17 ic_m1 ?_
      obtain rfl := Option.some.inj hf
      exact g_iret k r dX8_plan_18 ⟨rfl, rfl⟩
abbrev rmX8_swapLine : Room := { frames := 0, cells := 0, slots := 0, locals := 0 }
def fX8_swapLine (N : Nat) (va0_line : Nat → Int32) (x1 : Int32) (x2 : Int32) : Option ((Nat → Int32)) :=
  ixb x1 5 fun κ1 =>
  ixb x2 5 fun κ2 =>
  ixb x1 5 fun κ3 =>
  ixb x2 5 fun κ4 =>
  some ((upd (upd va0_line κ3 (va0_line κ2)) κ4 (va0_line κ1)))
set_option maxHeartbeats 4000000 in
set_option maxRecDepth 100000 in
theorem ctX8_swapLine (l : Launch) (E : Ev) (N : Nat) (a0 : Nat) (a0_row : Nat) (a0_lanes : Nat) (a0_sizes : Nat) (a0_items : Nat) (a0_tape : Nat) (a0_readIce : Nat) (a0_readPeople : Nat) (a0_readSayings : Nat) (a0_line : Nat) (a0_bestLine : Nat) (a0_seen : Nat) (a0_held : Nat) (va0_isKept : Int32) (va0_length : Int32) (va0_at : Int32) (va0_number : Int32) (va0_readCells : Int32) (va0_readMany : Int32) (va0_readSaid : Int32) (va0_bestFar : Int32) (va0_bestIce : Int32) (va0_line : Nat → Int32) (x1 : Int32) (x2 : Int32) (out : (Nat → Int32)) (hf : fX8_swapLine N va0_line x1 x2 = some out) : Ct l E yX8_swapLine cX8_swapLine 4 none rmX8_swapLine [.ref a0, .int x1, .int x2] [(a0, oB 8 [.ref a0_row, .int va0_isKept, .ref a0_lanes, .ref a0_sizes, .ref a0_items, .ref a0_tape, .int va0_length, .int va0_at, .int va0_number, .ref a0_readIce, .int va0_readCells, .ref a0_readPeople, .int va0_readMany, .ref a0_readSayings, .int va0_readSaid, .ref a0_line, .ref a0_bestLine, .int va0_bestFar, .int va0_bestIce, .ref a0_seen, .ref a0_held]), (a0_line, aI E 5 va0_line)] (Pe none [(a0, oB 8 [.ref a0_row, .int va0_isKept, .ref a0_lanes, .ref a0_sizes, .ref a0_items, .ref a0_tape, .int va0_length, .int va0_at, .int va0_number, .ref a0_readIce, .int va0_readCells, .ref a0_readPeople, .int va0_readMany, .ref a0_readSayings, .int va0_readSaid, .ref a0_line, .ref a0_bestLine, .int va0_bestFar, .int va0_bestIce, .ref a0_seen, .ref a0_held]), (a0_line, aI E 5 out)]) := by
  refine Ct.of rfl (Nat.le_of_ble_eq_true rfl) (fun K hL k r hin => ?_)
  subst hL
  unfold fX8_swapLine at hf
  show G E K 4 0 0 [(0, .ref a0), (1, .int x1), (2, .int x2)] [] [(a0, oB 8 [.ref a0_row, .int va0_isKept, .ref a0_lanes, .ref a0_sizes, .ref a0_items, .ref a0_tape, .int va0_length, .int va0_at, .int va0_number, .ref a0_readIce, .int va0_readCells, .ref a0_readPeople, .int va0_readMany, .ref a0_readSayings, .int va0_readSaid, .ref a0_line, .ref a0_bestLine, .int va0_bestFar, .int va0_bestIce, .ref a0_seen, .ref a0_held]), (a0_line, aI E 5 va0_line)] 0
  refine g_aload_n k 0 dX8_swapLine_0 rfl rfl ?_
  refine g_get k cfX8 15 0 dX8_swapLine_1 lkX8_35 (by decide) rfl rfl ?_
  refine g_iload_n k 1 dX8_swapLine_4 rfl rfl ?_
  obtain ⟨κ1, hκ1, hiκ1, heκ1, hf⟩ := ixb_some hf
  refine g_iaload k 1 dX8_swapLine_5 rfl hiκ1 heκ1 ?_
  refine g_istore_n k (lv' := [(3, .int (va0_line κ1)), (0, .ref a0), (1, .int x1), (2, .int x2)]) dX8_swapLine_6 rfl (by decide) rfl ?_
  refine g_aload_n k 1 dX8_swapLine_7 rfl rfl ?_
  refine g_get k cfX8 15 0 dX8_swapLine_8 lkX8_35 (by decide) rfl rfl ?_
  refine g_iload_n k 2 dX8_swapLine_11 rfl rfl ?_
  refine g_aload_n k 1 dX8_swapLine_12 rfl rfl ?_
  refine g_get k cfX8 15 0 dX8_swapLine_13 lkX8_35 (by decide) rfl rfl ?_
  refine g_iload_n k 3 dX8_swapLine_16 rfl rfl ?_
  obtain ⟨κ2, hκ2, hiκ2, heκ2, hf⟩ := ixb_some hf
  refine g_iaload k 1 dX8_swapLine_17 rfl hiκ2 heκ2 ?_
  obtain ⟨κ3, hκ3, hiκ3, heκ3, hf⟩ := ixb_some hf
  refine g_iastore k 1 (ws' := [(a0, oB 8 [.ref a0_row, .int va0_isKept, .ref a0_lanes, .ref a0_sizes, .ref a0_items, .ref a0_tape, .int va0_length, .int va0_at, .int va0_number, .ref a0_readIce, .int va0_readCells, .ref a0_readPeople, .int va0_readMany, .ref a0_readSayings, .int va0_readSaid, .ref a0_line, .ref a0_bestLine, .int va0_bestFar, .int va0_bestIce, .ref a0_seen, .ref a0_held]), (a0_line, aI E 5 (upd va0_line κ3 (va0_line κ2)))]) dX8_swapLine_18 rfl hiκ3 heκ3 rfl ?_
  refine g_aload_n k 1 dX8_swapLine_19 rfl rfl ?_
  refine g_get k cfX8 15 0 dX8_swapLine_20 lkX8_35 (by decide) rfl rfl ?_
  refine g_iload_n k 3 dX8_swapLine_23 rfl rfl ?_
  refine g_iload_n k 0 dX8_swapLine_24 rfl rfl ?_
  obtain ⟨κ4, hκ4, hiκ4, heκ4, hf⟩ := ixb_some hf
  refine g_iastore k 1 (ws' := [(a0, oB 8 [.ref a0_row, .int va0_isKept, .ref a0_lanes, .ref a0_sizes, .ref a0_items, .ref a0_tape, .int va0_length, .int va0_at, .int va0_number, .ref a0_readIce, .int va0_readCells, .ref a0_readPeople, .int va0_readMany, .ref a0_readSayings, .int va0_readSaid, .ref a0_line, .ref a0_bestLine, .int va0_bestFar, .int va0_bestIce, .ref a0_seen, .ref a0_held]), (a0_line, aI E 5 (upd (upd va0_line κ3 (va0_line κ2)) κ4 (va0_line κ1)))]) dX8_swapLine_25 rfl hiκ4 heκ4 rfl ?_
  obtain rfl := Option.some.inj hf
  exact g_vret k r dX8_swapLine_26 ⟨rfl, rfl⟩
