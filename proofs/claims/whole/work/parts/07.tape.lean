abbrev rmX6_isFull : Room := { frames := 0, cells := 0, slots := 0, locals := 0 }
def fX6_isFull (N : Nat) (va0_length : Int32)  : Option (Int32) :=
  if va0_length < 110 then
  some (0)
  else
  some (1)
set_option maxHeartbeats 4000000 in
set_option maxRecDepth 100000 in
theorem ctX6_isFull (l : Launch) (E : Ev) (N : Nat) (a0 : Nat) (a0_letters : Nat) (a0_read : Nat) (va0_length : Int32) (va0_place : Int32) (va0_number : Int32)  (out : Int32) (hf : fX6_isFull N va0_length  = some out) : Ct l E yX6_isFull cX6_isFull 1 (some .boolean) rmX6_isFull [.ref a0] [(a0, oB 6 [.ref a0_letters, .ref a0_read, .int va0_length, .int va0_place, .int va0_number])] (Pe (some (.int out)) [(a0, oB 6 [.ref a0_letters, .ref a0_read, .int va0_length, .int va0_place, .int va0_number])]) := by
  refine Ct.of rfl (Nat.le_of_ble_eq_true rfl) (fun K hL k r hin => ?_)
  subst hL
  unfold fX6_isFull at hf
  show G E K 1 0 0 [(0, .ref a0)] [] [(a0, oB 6 [.ref a0_letters, .ref a0_read, .int va0_length, .int va0_place, .int va0_number])] 0
  refine g_aload_n k 0 dX6_isFull_0 rfl rfl ?_
  refine g_get k cfX6 2 0 dX6_isFull_1 lkX6_22 (by decide) rfl rfl ?_
  refine g_bipush k dX6_isFull_4 bi_110 ?_
  refine g_icmp_lt k (tgt := 13) dX6_isFull_6 (by decide) (fun c1 => ?_) (fun c1 => ?_)
  · replace hf := ite_t c1 hf
    refine g_iconst k dX6_isFull_13 ic_0 ?_
    obtain rfl := Option.some.inj hf
    exact g_zret k (rfl) r dX6_isFull_14 ⟨rfl, rfl⟩
  · replace hf := ite_f c1 hf
    refine g_iconst k dX6_isFull_9 ic_1 ?_
    refine g_goto k (tgt := 14) dX6_isFull_10 (by decide) ?_
    obtain rfl := Option.some.inj hf
    exact g_zret k (rfl) r dX6_isFull_14 ⟨rfl, rfl⟩
abbrev rmX6_add : Room := { frames := 0, cells := 0, slots := 0, locals := 0 }
def fX6_add (N : Nat) (va0_length : Int32) (va0_letters : Nat → Int32) (x1 : Int32) : Option (Int32 × Int32 × (Nat → Int32)) :=
  ixb va0_length 110 fun κ1 =>
  some ((va0_length + 1), (va0_length + 1), (upd va0_letters κ1 (vp_nar .char ((x1.toUInt32 % 65536).toInt32))))
set_option maxHeartbeats 4000000 in
set_option maxRecDepth 100000 in
theorem ctX6_add (l : Launch) (E : Ev) (N : Nat) (a0 : Nat) (a0_letters : Nat) (a0_read : Nat) (va0_length : Int32) (va0_place : Int32) (va0_number : Int32) (va0_letters : Nat → Int32) (x1 : Int32) (out : Int32 × Int32 × (Nat → Int32)) (hf : fX6_add N va0_length va0_letters x1 = some out) : Ct l E yX6_add cX6_add 2 (some .int) rmX6_add [.ref a0, .int x1] [(a0, oB 6 [.ref a0_letters, .ref a0_read, .int va0_length, .int va0_place, .int va0_number]), (a0_letters, aC E 110 va0_letters)] (Pe (some (.int out.1)) [(a0, oB 6 [.ref a0_letters, .ref a0_read, .int out.2.1, .int va0_place, .int va0_number]), (a0_letters, aC E 110 out.2.2)]) := by
  refine Ct.of rfl (Nat.le_of_ble_eq_true rfl) (fun K hL k r hin => ?_)
  subst hL
  unfold fX6_add at hf
  show G E K 2 0 0 [(0, .ref a0), (1, .int x1)] [] [(a0, oB 6 [.ref a0_letters, .ref a0_read, .int va0_length, .int va0_place, .int va0_number]), (a0_letters, aC E 110 va0_letters)] 0
  refine g_aload_n k 0 dX6_add_0 rfl rfl ?_
  refine g_get k cfX6 0 0 dX6_add_1 lkX6_11 (by decide) rfl rfl ?_
  refine g_aload_n k 0 dX6_add_4 rfl rfl ?_
  refine g_get k cfX6 2 0 dX6_add_5 lkX6_22 (by decide) rfl rfl ?_
  refine g_iload_n k 1 dX6_add_8 rfl rfl ?_
  refine g_i2c k dX6_add_9 ?_
  obtain ⟨κ1, hκ1, hiκ1, heκ1, hf⟩ := ixb_some hf
  refine g_castore k 1 (ws' := [(a0, oB 6 [.ref a0_letters, .ref a0_read, .int va0_length, .int va0_place, .int va0_number]), (a0_letters, aC E 110 (upd va0_letters κ1 (vp_nar .char ((x1.toUInt32 % 65536).toInt32))))]) dX6_add_10 rfl hiκ1 heκ1 rfl ?_
  refine g_aload_n k 0 dX6_add_11 rfl rfl ?_
  refine g_dup k dX6_add_12 rfl ?_
  refine g_get k cfX6 2 0 dX6_add_13 lkX6_22 (by decide) rfl rfl ?_
  refine g_iconst k dX6_add_16 ic_1 ?_
  refine g_iadd k dX6_add_17 ?_
  refine g_put k cfX6 2 0 (ws' := [(a0, oB 6 [.ref a0_letters, .ref a0_read, .int (va0_length + 1), .int va0_place, .int va0_number]), (a0_letters, aC E 110 (upd va0_letters κ1 (vp_nar .char ((x1.toUInt32 % 65536).toInt32))))]) dX6_add_18 lkX6_22 (by decide) rfl rfl rfl rfl (Nat.le_of_ble_eq_true rfl) rfl ?_
  refine g_aload_n k 0 dX6_add_21 rfl rfl ?_
  refine g_get k cfX6 2 0 dX6_add_22 lkX6_22 (by decide) rfl rfl ?_
  obtain rfl := Option.some.inj hf
  exact g_iret k r dX6_add_25 ⟨rfl, rfl⟩
abbrev rmX6_skipBlanks : Room := { frames := 0, cells := 0, slots := 0, locals := 0 }
def fX6_skipBlanks_L0 (N : Nat) (va0_length : Int32) (va0_letters : Nat → Int32) : Nat → Int32 → Option (Int32)
  | 0, _ => none
  | n + 1, va0_place =>
    if va0_length ≤ va0_place then
    some (va0_place)
    else
    ixb va0_place 110 fun κ2 =>
    if (va0_letters κ2) = 32 then
    fX6_skipBlanks_L0 N va0_length va0_letters n (va0_place + 1)
    else
    some (va0_place)
set_option maxHeartbeats 4000000 in
set_option maxRecDepth 100000 in
theorem wX6_skipBlanks_L0 {E : Ev} {K : KX} (k : OKX E K cX6_skipBlanks RX6 1 rmX6_skipBlanks) (N : Nat) (a0 : Nat) (a0_letters : Nat) (a0_read : Nat) (va0_length : Int32) (va0_letters : Nat → Int32) (va0_number : Int32) : ∀ (n : Nat) (va0_place : Int32) (o : Int32), fX6_skipBlanks_L0 N va0_length va0_letters n va0_place = some o → G E K 1 0 0 [(0, .ref a0)] [] [(a0, oB 6 [.ref a0_letters, .ref a0_read, .int va0_length, .int o, .int va0_number]), (a0_letters, aC E 110 va0_letters)] 38 → G E K 1 0 0 [(0, .ref a0)] [] [(a0, oB 6 [.ref a0_letters, .ref a0_read, .int va0_length, .int va0_place, .int va0_number]), (a0_letters, aC E 110 va0_letters)] 0 := by
  intro n
  induction n with
  | zero => intro va0_place o hf; cases hf
  | succ n ih =>
    intro va0_place o hf hG
    rw [fX6_skipBlanks_L0] at hf
    refine g_aload_n k 0 dX6_skipBlanks_0 rfl rfl ?_
    refine g_get k cfX6 3 0 dX6_skipBlanks_1 lkX6_26 (by decide) rfl rfl ?_
    refine g_aload_n k 0 dX6_skipBlanks_4 rfl rfl ?_
    refine g_get k cfX6 2 0 dX6_skipBlanks_5 lkX6_22 (by decide) rfl rfl ?_
    refine g_icmp_ge k (tgt := 38) dX6_skipBlanks_8 (by decide) (fun c1 => ?_) (fun c1 => ?_)
    · replace hf := ite_t c1 hf
      refine g_lv [0] rfl ?_
      obtain rfl := Option.some.inj hf
      exact hG
    · replace hf := ite_f c1 hf
      refine g_aload_n k 0 dX6_skipBlanks_11 rfl rfl ?_
      refine g_get k cfX6 0 0 dX6_skipBlanks_12 lkX6_11 (by decide) rfl rfl ?_
      refine g_aload_n k 0 dX6_skipBlanks_15 rfl rfl ?_
      refine g_get k cfX6 3 0 dX6_skipBlanks_16 lkX6_26 (by decide) rfl rfl ?_
      obtain ⟨κ2, hκ2, hiκ2, heκ2, hf⟩ := ixb_some hf
      refine g_caload k 1 dX6_skipBlanks_19 rfl hiκ2 heκ2 ?_
      refine g_bipush k dX6_skipBlanks_20 bi_32 ?_
      refine g_icmp_ne k (tgt := 38) dX6_skipBlanks_22 (by decide) (fun c3 => ?_) (fun c3 => ?_)
      · replace hf := ite_f c3 hf
        refine g_lv [0] rfl ?_
        obtain rfl := Option.some.inj hf
        exact hG
      · replace hf := ite_t c3 hf
        refine g_aload_n k 0 dX6_skipBlanks_25 rfl rfl ?_
        refine g_dup k dX6_skipBlanks_26 rfl ?_
        refine g_get k cfX6 3 0 dX6_skipBlanks_27 lkX6_26 (by decide) rfl rfl ?_
        refine g_iconst k dX6_skipBlanks_30 ic_1 ?_
        refine g_iadd k dX6_skipBlanks_31 ?_
        refine g_put k cfX6 3 0 (ws' := [(a0, oB 6 [.ref a0_letters, .ref a0_read, .int va0_length, .int (va0_place + 1), .int va0_number]), (a0_letters, aC E 110 va0_letters)]) dX6_skipBlanks_32 lkX6_26 (by decide) rfl rfl rfl rfl (Nat.le_of_ble_eq_true rfl) rfl ?_
        refine g_goto k (tgt := 0) dX6_skipBlanks_35 (by decide) ?_
        refine g_lv [0] rfl ?_
        exact ih (va0_place + 1) o hf hG
def fX6_skipBlanks (N : Nat) (va0_length : Int32) (va0_place : Int32) (va0_letters : Nat → Int32)  : Option (Int32) :=
  bnd (fX6_skipBlanks_L0 N va0_length va0_letters N va0_place) fun o4 =>
  some (o4)
set_option maxHeartbeats 4000000 in
set_option maxRecDepth 100000 in
theorem ctX6_skipBlanks (l : Launch) (E : Ev) (N : Nat) (a0 : Nat) (a0_letters : Nat) (a0_read : Nat) (va0_length : Int32) (va0_place : Int32) (va0_number : Int32) (va0_letters : Nat → Int32)  (out : Int32) (hf : fX6_skipBlanks N va0_length va0_place va0_letters  = some out) : Ct l E yX6_skipBlanks cX6_skipBlanks 1 none rmX6_skipBlanks [.ref a0] [(a0, oB 6 [.ref a0_letters, .ref a0_read, .int va0_length, .int va0_place, .int va0_number]), (a0_letters, aC E 110 va0_letters)] (Pe none [(a0, oB 6 [.ref a0_letters, .ref a0_read, .int va0_length, .int out, .int va0_number]), (a0_letters, aC E 110 va0_letters)]) := by
  refine Ct.of rfl (Nat.le_of_ble_eq_true rfl) (fun K hL k r hin => ?_)
  subst hL
  unfold fX6_skipBlanks at hf
  show G E K 1 0 0 [(0, .ref a0)] [] [(a0, oB 6 [.ref a0_letters, .ref a0_read, .int va0_length, .int va0_place, .int va0_number]), (a0_letters, aC E 110 va0_letters)] 0
  obtain ⟨o4, ho5, hf⟩ := bnd_some hf
  refine g_lv [0] (lv' := [(0, .ref a0)]) rfl ?_
  refine wX6_skipBlanks_L0 k N a0 a0_letters a0_read  va0_length va0_letters va0_number N va0_place o4 ho5 ?_
  obtain rfl := Option.some.inj hf
  exact g_vret k r dX6_skipBlanks_38 ⟨rfl, rfl⟩
abbrev rmX6_digitHere : Room := { frames := 0, cells := 0, slots := 0, locals := 0 }
def fX6_digitHere (N : Nat) (va0_length : Int32) (va0_place : Int32) (va0_letters : Nat → Int32)  : Option (Int32) :=
  if va0_length ≤ va0_place then
  some ((-1))
  else
  ixb va0_place 110 fun κ2 =>
  if (va0_letters κ2) < 48 then
  some ((-1))
  else
  ixb va0_place 110 fun κ4 =>
  if (va0_letters κ4) ≤ 57 then
  ixb va0_place 110 fun κ6 =>
  some (((va0_letters κ6) - 48))
  else
  some ((-1))
set_option maxHeartbeats 4000000 in
set_option maxRecDepth 100000 in
theorem ctX6_digitHere (l : Launch) (E : Ev) (N : Nat) (a0 : Nat) (a0_letters : Nat) (a0_read : Nat) (va0_length : Int32) (va0_place : Int32) (va0_number : Int32) (va0_letters : Nat → Int32)  (out : Int32) (hf : fX6_digitHere N va0_length va0_place va0_letters  = some out) : Ct l E yX6_digitHere cX6_digitHere 1 (some .int) rmX6_digitHere [.ref a0] [(a0, oB 6 [.ref a0_letters, .ref a0_read, .int va0_length, .int va0_place, .int va0_number]), (a0_letters, aC E 110 va0_letters)] (Pe (some (.int out)) [(a0, oB 6 [.ref a0_letters, .ref a0_read, .int va0_length, .int va0_place, .int va0_number]), (a0_letters, aC E 110 va0_letters)]) := by
  refine Ct.of rfl (Nat.le_of_ble_eq_true rfl) (fun K hL k r hin => ?_)
  subst hL
  unfold fX6_digitHere at hf
  show G E K 1 0 0 [(0, .ref a0)] [] [(a0, oB 6 [.ref a0_letters, .ref a0_read, .int va0_length, .int va0_place, .int va0_number]), (a0_letters, aC E 110 va0_letters)] 0
  refine g_aload_n k 0 dX6_digitHere_0 rfl rfl ?_
  refine g_get k cfX6 3 0 dX6_digitHere_1 lkX6_26 (by decide) rfl rfl ?_
  refine g_aload_n k 0 dX6_digitHere_4 rfl rfl ?_
  refine g_get k cfX6 2 0 dX6_digitHere_5 lkX6_22 (by decide) rfl rfl ?_
  refine g_icmp_ge k (tgt := 39) dX6_digitHere_8 (by decide) (fun c1 => ?_) (fun c1 => ?_)
  · replace hf := ite_t c1 hf
    refine g_iconst k dX6_digitHere_39 ic_m1 ?_
    obtain rfl := Option.some.inj hf
    exact g_iret k r dX6_digitHere_40 ⟨rfl, rfl⟩
  · replace hf := ite_f c1 hf
    refine g_aload_n k 0 dX6_digitHere_11 rfl rfl ?_
    refine g_get k cfX6 0 0 dX6_digitHere_12 lkX6_11 (by decide) rfl rfl ?_
    refine g_aload_n k 0 dX6_digitHere_15 rfl rfl ?_
    refine g_get k cfX6 3 0 dX6_digitHere_16 lkX6_26 (by decide) rfl rfl ?_
    obtain ⟨κ2, hκ2, hiκ2, heκ2, hf⟩ := ixb_some hf
    refine g_caload k 1 dX6_digitHere_19 rfl hiκ2 heκ2 ?_
    refine g_bipush k dX6_digitHere_20 bi_48 ?_
    refine g_icmp_lt k (tgt := 39) dX6_digitHere_22 (by decide) (fun c3 => ?_) (fun c3 => ?_)
    · replace hf := ite_t c3 hf
      refine g_iconst k dX6_digitHere_39 ic_m1 ?_
      obtain rfl := Option.some.inj hf
      exact g_iret k r dX6_digitHere_40 ⟨rfl, rfl⟩
    · replace hf := ite_f c3 hf
      refine g_aload_n k 0 dX6_digitHere_25 rfl rfl ?_
      refine g_get k cfX6 0 0 dX6_digitHere_26 lkX6_11 (by decide) rfl rfl ?_
      refine g_aload_n k 0 dX6_digitHere_29 rfl rfl ?_
      refine g_get k cfX6 3 0 dX6_digitHere_30 lkX6_26 (by decide) rfl rfl ?_
      obtain ⟨κ4, hκ4, hiκ4, heκ4, hf⟩ := ixb_some hf
      refine g_caload k 1 dX6_digitHere_33 rfl hiκ4 heκ4 ?_
      refine g_bipush k dX6_digitHere_34 bi_57 ?_
      refine g_icmp_le k (tgt := 41) dX6_digitHere_36 (by decide) (fun c5 => ?_) (fun c5 => ?_)
      · replace hf := ite_t c5 hf
        refine g_aload_n k 0 dX6_digitHere_41 rfl rfl ?_
        refine g_get k cfX6 0 0 dX6_digitHere_42 lkX6_11 (by decide) rfl rfl ?_
        refine g_aload_n k 0 dX6_digitHere_45 rfl rfl ?_
        refine g_get k cfX6 3 0 dX6_digitHere_46 lkX6_26 (by decide) rfl rfl ?_
        obtain ⟨κ6, hκ6, hiκ6, heκ6, hf⟩ := ixb_some hf
        refine g_caload k 1 dX6_digitHere_49 rfl hiκ6 heκ6 ?_
        refine g_bipush k dX6_digitHere_50 bi_48 ?_
        refine g_isub k dX6_digitHere_52 ?_
        obtain rfl := Option.some.inj hf
        exact g_iret k r dX6_digitHere_53 ⟨rfl, rfl⟩
      · replace hf := ite_f c5 hf
        refine g_iconst k dX6_digitHere_39 ic_m1 ?_
        obtain rfl := Option.some.inj hf
        exact g_iret k r dX6_digitHere_40 ⟨rfl, rfl⟩
abbrev rmX6_readNumber : Room := { frames := 1, cells := 0, slots := 0, locals := 20 }
def fX6_readNumber (N : Nat) (va0_length : Int32) (va0_place : Int32) (va0_number : Int32) (va0_letters : Nat → Int32) (x1 : Int32) : Option (Int32 × Int32 × Int32) :=
  bnd (fX6_skipBlanks N va0_length va0_place va0_letters) fun o1 =>
  bnd (fX6_digitHere N va0_length o1 va0_letters) fun o3 =>
  if 0 ≤ o3 then
  bnd (fX6_digitHere N va0_length o1 va0_letters) fun o6 =>
  bnd (fX6_digitHere N va0_length (o1 + 1) va0_letters) fun o8 =>
  if o8 < 0 then
  if o6 ≤ x1 then
  some (1, (o1 + 1), o6)
  else
  some (0, o1, o6)
  else
  bnd (fX6_digitHere N va0_length (o1 + 1) va0_letters) fun o12 =>
  if ((o6 * 10) + o12) ≤ x1 then
  some (1, ((o1 + 1) + 1), ((o6 * 10) + o12))
  else
  some (0, o1, ((o6 * 10) + o12))
  else
  some (0, o1, va0_number)
set_option maxHeartbeats 4000000 in
set_option maxRecDepth 100000 in
theorem ctX6_readNumber (l : Launch) (E : Ev) (N : Nat) (a0 : Nat) (a0_letters : Nat) (a0_read : Nat) (va0_length : Int32) (va0_place : Int32) (va0_number : Int32) (va0_letters : Nat → Int32) (x1 : Int32) (out : Int32 × Int32 × Int32) (hf : fX6_readNumber N va0_length va0_place va0_number va0_letters x1 = some out) : Ct l E yX6_readNumber cX6_readNumber 3 (some .boolean) rmX6_readNumber [.ref a0, .int x1] [(a0, oB 6 [.ref a0_letters, .ref a0_read, .int va0_length, .int va0_place, .int va0_number]), (a0_letters, aC E 110 va0_letters)] (Pe (some (.int out.1)) [(a0, oB 6 [.ref a0_letters, .ref a0_read, .int va0_length, .int out.2.1, .int out.2.2]), (a0_letters, aC E 110 va0_letters)]) := by
  refine Ct.of rfl (Nat.le_of_ble_eq_true rfl) (fun K hL k r hin => ?_)
  subst hL
  unfold fX6_readNumber at hf
  show G E K 3 0 0 [(0, .ref a0), (1, .int x1)] [] [(a0, oB 6 [.ref a0_letters, .ref a0_read, .int va0_length, .int va0_place, .int va0_number]), (a0_letters, aC E 110 va0_letters)] 0
  refine g_aload_n k 0 dX6_readNumber_0 rfl rfl ?_
  obtain ⟨o1, ho2, hf⟩ := bnd_some hf
  refine g_cv k miX6_skipBlanks mvX6_skipBlanks (ctX6_skipBlanks (kL K) E N a0 a0_letters a0_read va0_length va0_place va0_number va0_letters  o1 ho2) [0, 1] 0 (ws' := [(a0, oB 6 [.ref a0_letters, .ref a0_read, .int va0_length, .int o1, .int va0_number]), (a0_letters, aC E 110 va0_letters)]) dX6_readNumber_1 lkX6_82 rfl ⟨rfl, rfl⟩ ⟨by decide, by decide⟩ rfl rfl rfl rfl (Nat.le_of_ble_eq_true rfl) rfl rfl rfl ?_
  refine g_st (st' := []) rfl ?_
  refine g_aload_n k 0 dX6_readNumber_4 rfl rfl ?_
  refine g_get k cfX6 3 0 dX6_readNumber_5 lkX6_26 (by decide) rfl rfl ?_
  refine g_istore_n k (lv' := [(2, .int o1), (0, .ref a0), (1, .int x1)]) dX6_readNumber_8 rfl (by decide) rfl ?_
  refine g_aload_n k 1 dX6_readNumber_9 rfl rfl ?_
  obtain ⟨o3, ho4, hf⟩ := bnd_some hf
  refine g_cv k miX6_digitHere mvX6_digitHere (ctX6_digitHere (kL K) E N a0 a0_letters a0_read va0_length o1 va0_number va0_letters  o3 ho4) [0, 1] 0 (ws' := [(a0, oB 6 [.ref a0_letters, .ref a0_read, .int va0_length, .int o1, .int va0_number]), (a0_letters, aC E 110 va0_letters)]) dX6_readNumber_10 lkX6_92 rfl ⟨rfl, rfl⟩ ⟨by decide, by decide⟩ rfl rfl rfl rfl (Nat.le_of_ble_eq_true rfl) rfl rfl rfl ?_
  refine g_st (st' := [.int o3]) rfl ?_
  refine g_if_ge k (tgt := 18) dX6_readNumber_13 (by decide) (fun c5 => ?_) (fun c5 => ?_)
  · replace hf := ite_t c5 hf
    refine g_aload_n k 1 dX6_readNumber_18 rfl rfl ?_
    refine g_aload_n k 1 dX6_readNumber_19 rfl rfl ?_
    obtain ⟨o6, ho7, hf⟩ := bnd_some hf
    refine g_cv k miX6_digitHere mvX6_digitHere (ctX6_digitHere (kL K) E N a0 a0_letters a0_read va0_length o1 va0_number va0_letters  o6 ho7) [0, 1] 0 (ws' := [(a0, oB 6 [.ref a0_letters, .ref a0_read, .int va0_length, .int o1, .int va0_number]), (a0_letters, aC E 110 va0_letters)]) dX6_readNumber_20 lkX6_92 rfl ⟨rfl, rfl⟩ ⟨by decide, by decide⟩ rfl rfl rfl rfl (Nat.le_of_ble_eq_true rfl) rfl rfl rfl ?_
    refine g_st (st' := [.int o6, .ref a0]) rfl ?_
    refine g_put k cfX6 4 0 (ws' := [(a0, oB 6 [.ref a0_letters, .ref a0_read, .int va0_length, .int o1, .int o6]), (a0_letters, aC E 110 va0_letters)]) dX6_readNumber_23 lkX6_29 (by decide) rfl rfl rfl rfl (Nat.le_of_ble_eq_true rfl) rfl ?_
    refine g_aload_n k 1 dX6_readNumber_26 rfl rfl ?_
    refine g_dup k dX6_readNumber_27 rfl ?_
    refine g_get k cfX6 3 0 dX6_readNumber_28 lkX6_26 (by decide) rfl rfl ?_
    refine g_iconst k dX6_readNumber_31 ic_1 ?_
    refine g_iadd k dX6_readNumber_32 ?_
    refine g_put k cfX6 3 0 (ws' := [(a0, oB 6 [.ref a0_letters, .ref a0_read, .int va0_length, .int (o1 + 1), .int o6]), (a0_letters, aC E 110 va0_letters)]) dX6_readNumber_33 lkX6_26 (by decide) rfl rfl rfl rfl (Nat.le_of_ble_eq_true rfl) rfl ?_
    refine g_aload_n k 1 dX6_readNumber_36 rfl rfl ?_
    obtain ⟨o8, ho9, hf⟩ := bnd_some hf
    refine g_cv k miX6_digitHere mvX6_digitHere (ctX6_digitHere (kL K) E N a0 a0_letters a0_read va0_length (o1 + 1) o6 va0_letters  o8 ho9) [0, 1] 0 (ws' := [(a0, oB 6 [.ref a0_letters, .ref a0_read, .int va0_length, .int (o1 + 1), .int o6]), (a0_letters, aC E 110 va0_letters)]) dX6_readNumber_37 lkX6_92 rfl ⟨rfl, rfl⟩ ⟨by decide, by decide⟩ rfl rfl rfl rfl (Nat.le_of_ble_eq_true rfl) rfl rfl rfl ?_
    refine g_st (st' := [.int o8]) rfl ?_
    refine g_if_lt k (tgt := 69) dX6_readNumber_40 (by decide) (fun c10 => ?_) (fun c10 => ?_)
    · replace hf := ite_t c10 hf
      refine g_aload_n k 1 dX6_readNumber_69 rfl rfl ?_
      refine g_get k cfX6 4 0 dX6_readNumber_70 lkX6_29 (by decide) rfl rfl ?_
      refine g_iload_n k 2 dX6_readNumber_73 rfl rfl ?_
      refine g_icmp_le k (tgt := 84) dX6_readNumber_74 (by decide) (fun c11 => ?_) (fun c11 => ?_)
      · replace hf := ite_t c11 hf
        refine g_iconst k dX6_readNumber_84 ic_1 ?_
        obtain rfl := Option.some.inj hf
        exact g_zret k (rfl) r dX6_readNumber_85 ⟨rfl, rfl⟩
      · replace hf := ite_f c11 hf
        refine g_aload_n k 1 dX6_readNumber_77 rfl rfl ?_
        refine g_iload_n k 0 dX6_readNumber_78 rfl rfl ?_
        refine g_put k cfX6 3 0 (ws' := [(a0, oB 6 [.ref a0_letters, .ref a0_read, .int va0_length, .int o1, .int o6]), (a0_letters, aC E 110 va0_letters)]) dX6_readNumber_79 lkX6_26 (by decide) rfl rfl rfl rfl (Nat.le_of_ble_eq_true rfl) rfl ?_
        refine g_iconst k dX6_readNumber_82 ic_0 ?_
        obtain rfl := Option.some.inj hf
        exact g_zret k (rfl) r dX6_readNumber_83 ⟨rfl, rfl⟩
    · replace hf := ite_f c10 hf
      refine g_aload_n k 1 dX6_readNumber_43 rfl rfl ?_
      refine g_aload_n k 1 dX6_readNumber_44 rfl rfl ?_
      refine g_get k cfX6 4 0 dX6_readNumber_45 lkX6_29 (by decide) rfl rfl ?_
      refine g_bipush k dX6_readNumber_48 bi_10 ?_
      refine g_imul k dX6_readNumber_50 ?_
      refine g_aload_n k 1 dX6_readNumber_51 rfl rfl ?_
      obtain ⟨o12, ho13, hf⟩ := bnd_some hf
      refine g_cv k miX6_digitHere mvX6_digitHere (ctX6_digitHere (kL K) E N a0 a0_letters a0_read va0_length (o1 + 1) o6 va0_letters  o12 ho13) [0, 1] 0 (ws' := [(a0, oB 6 [.ref a0_letters, .ref a0_read, .int va0_length, .int (o1 + 1), .int o6]), (a0_letters, aC E 110 va0_letters)]) dX6_readNumber_52 lkX6_92 rfl ⟨rfl, rfl⟩ ⟨by decide, by decide⟩ rfl rfl rfl rfl (Nat.le_of_ble_eq_true rfl) rfl rfl rfl ?_
      refine g_st (st' := [.int o12, .int (o6 * 10), .ref a0]) rfl ?_
      refine g_iadd k dX6_readNumber_55 ?_
      refine g_put k cfX6 4 0 (ws' := [(a0, oB 6 [.ref a0_letters, .ref a0_read, .int va0_length, .int (o1 + 1), .int ((o6 * 10) + o12)]), (a0_letters, aC E 110 va0_letters)]) dX6_readNumber_56 lkX6_29 (by decide) rfl rfl rfl rfl (Nat.le_of_ble_eq_true rfl) rfl ?_
      refine g_aload_n k 1 dX6_readNumber_59 rfl rfl ?_
      refine g_dup k dX6_readNumber_60 rfl ?_
      refine g_get k cfX6 3 0 dX6_readNumber_61 lkX6_26 (by decide) rfl rfl ?_
      refine g_iconst k dX6_readNumber_64 ic_1 ?_
      refine g_iadd k dX6_readNumber_65 ?_
      refine g_put k cfX6 3 0 (ws' := [(a0, oB 6 [.ref a0_letters, .ref a0_read, .int va0_length, .int ((o1 + 1) + 1), .int ((o6 * 10) + o12)]), (a0_letters, aC E 110 va0_letters)]) dX6_readNumber_66 lkX6_26 (by decide) rfl rfl rfl rfl (Nat.le_of_ble_eq_true rfl) rfl ?_
      refine g_aload_n k 1 dX6_readNumber_69 rfl rfl ?_
      refine g_get k cfX6 4 0 dX6_readNumber_70 lkX6_29 (by decide) rfl rfl ?_
      refine g_iload_n k 2 dX6_readNumber_73 rfl rfl ?_
      refine g_icmp_le k (tgt := 84) dX6_readNumber_74 (by decide) (fun c14 => ?_) (fun c14 => ?_)
      · replace hf := ite_t c14 hf
        refine g_iconst k dX6_readNumber_84 ic_1 ?_
        obtain rfl := Option.some.inj hf
        exact g_zret k (rfl) r dX6_readNumber_85 ⟨rfl, rfl⟩
      · replace hf := ite_f c14 hf
        refine g_aload_n k 1 dX6_readNumber_77 rfl rfl ?_
        refine g_iload_n k 0 dX6_readNumber_78 rfl rfl ?_
        refine g_put k cfX6 3 0 (ws' := [(a0, oB 6 [.ref a0_letters, .ref a0_read, .int va0_length, .int o1, .int ((o6 * 10) + o12)]), (a0_letters, aC E 110 va0_letters)]) dX6_readNumber_79 lkX6_26 (by decide) rfl rfl rfl rfl (Nat.le_of_ble_eq_true rfl) rfl ?_
        refine g_iconst k dX6_readNumber_82 ic_0 ?_
        obtain rfl := Option.some.inj hf
        exact g_zret k (rfl) r dX6_readNumber_83 ⟨rfl, rfl⟩
  · replace hf := ite_f c5 hf
    refine g_iconst k dX6_readNumber_16 ic_0 ?_
    obtain rfl := Option.some.inj hf
    exact g_zret k (rfl) r dX6_readNumber_17 ⟨rfl, rfl⟩
abbrev rmX6_readLetter : Room := { frames := 1, cells := 0, slots := 0, locals := 20 }
def fX6_readLetter (N : Nat) (va0_length : Int32) (va0_place : Int32) (va0_letters : Nat → Int32) (x1 : Int32) : Option (Int32 × Int32) :=
  bnd (fX6_skipBlanks N va0_length va0_place va0_letters) fun o1 =>
  if va0_length ≤ o1 then
  some (0, o1)
  else
  ixb o1 110 fun κ4 =>
  if (va0_letters κ4) = x1 then
  some (1, (o1 + 1))
  else
  some (0, o1)
set_option maxHeartbeats 4000000 in
set_option maxRecDepth 100000 in
theorem ctX6_readLetter (l : Launch) (E : Ev) (N : Nat) (a0 : Nat) (a0_letters : Nat) (a0_read : Nat) (va0_length : Int32) (va0_place : Int32) (va0_number : Int32) (va0_letters : Nat → Int32) (x1 : Int32) (out : Int32 × Int32) (hf : fX6_readLetter N va0_length va0_place va0_letters x1 = some out) : Ct l E yX6_readLetter cX6_readLetter 2 (some .boolean) rmX6_readLetter [.ref a0, .int x1] [(a0, oB 6 [.ref a0_letters, .ref a0_read, .int va0_length, .int va0_place, .int va0_number]), (a0_letters, aC E 110 va0_letters)] (Pe (some (.int out.1)) [(a0, oB 6 [.ref a0_letters, .ref a0_read, .int va0_length, .int out.2, .int va0_number]), (a0_letters, aC E 110 va0_letters)]) := by
  refine Ct.of rfl (Nat.le_of_ble_eq_true rfl) (fun K hL k r hin => ?_)
  subst hL
  unfold fX6_readLetter at hf
  show G E K 2 0 0 [(0, .ref a0), (1, .int x1)] [] [(a0, oB 6 [.ref a0_letters, .ref a0_read, .int va0_length, .int va0_place, .int va0_number]), (a0_letters, aC E 110 va0_letters)] 0
  refine g_aload_n k 0 dX6_readLetter_0 rfl rfl ?_
  obtain ⟨o1, ho2, hf⟩ := bnd_some hf
  refine g_cv k miX6_skipBlanks mvX6_skipBlanks (ctX6_skipBlanks (kL K) E N a0 a0_letters a0_read va0_length va0_place va0_number va0_letters  o1 ho2) [0, 1] 0 (ws' := [(a0, oB 6 [.ref a0_letters, .ref a0_read, .int va0_length, .int o1, .int va0_number]), (a0_letters, aC E 110 va0_letters)]) dX6_readLetter_1 lkX6_82 rfl ⟨rfl, rfl⟩ ⟨by decide, by decide⟩ rfl rfl rfl rfl (Nat.le_of_ble_eq_true rfl) rfl rfl rfl ?_
  refine g_st (st' := []) rfl ?_
  refine g_aload_n k 0 dX6_readLetter_4 rfl rfl ?_
  refine g_get k cfX6 3 0 dX6_readLetter_5 lkX6_26 (by decide) rfl rfl ?_
  refine g_aload_n k 0 dX6_readLetter_8 rfl rfl ?_
  refine g_get k cfX6 2 0 dX6_readLetter_9 lkX6_22 (by decide) rfl rfl ?_
  refine g_icmp_ge k (tgt := 28) dX6_readLetter_12 (by decide) (fun c3 => ?_) (fun c3 => ?_)
  · replace hf := ite_t c3 hf
    refine g_iconst k dX6_readLetter_28 ic_0 ?_
    obtain rfl := Option.some.inj hf
    exact g_zret k (rfl) r dX6_readLetter_29 ⟨rfl, rfl⟩
  · replace hf := ite_f c3 hf
    refine g_aload_n k 0 dX6_readLetter_15 rfl rfl ?_
    refine g_get k cfX6 0 0 dX6_readLetter_16 lkX6_11 (by decide) rfl rfl ?_
    refine g_aload_n k 0 dX6_readLetter_19 rfl rfl ?_
    refine g_get k cfX6 3 0 dX6_readLetter_20 lkX6_26 (by decide) rfl rfl ?_
    obtain ⟨κ4, hκ4, hiκ4, heκ4, hf⟩ := ixb_some hf
    refine g_caload k 1 dX6_readLetter_23 rfl hiκ4 heκ4 ?_
    refine g_iload_n k 1 dX6_readLetter_24 rfl rfl ?_
    refine g_icmp_eq k (tgt := 30) dX6_readLetter_25 (by decide) (fun c5 => ?_) (fun c5 => ?_)
    · replace hf := ite_t c5 hf
      refine g_aload_n k 0 dX6_readLetter_30 rfl rfl ?_
      refine g_dup k dX6_readLetter_31 rfl ?_
      refine g_get k cfX6 3 0 dX6_readLetter_32 lkX6_26 (by decide) rfl rfl ?_
      refine g_iconst k dX6_readLetter_35 ic_1 ?_
      refine g_iadd k dX6_readLetter_36 ?_
      refine g_put k cfX6 3 0 (ws' := [(a0, oB 6 [.ref a0_letters, .ref a0_read, .int va0_length, .int (o1 + 1), .int va0_number]), (a0_letters, aC E 110 va0_letters)]) dX6_readLetter_37 lkX6_26 (by decide) rfl rfl rfl rfl (Nat.le_of_ble_eq_true rfl) rfl ?_
      refine g_iconst k dX6_readLetter_40 ic_1 ?_
      obtain rfl := Option.some.inj hf
      exact g_zret k (rfl) r dX6_readLetter_41 ⟨rfl, rfl⟩
    · replace hf := ite_f c5 hf
      refine g_iconst k dX6_readLetter_28 ic_0 ?_
      obtain rfl := Option.some.inj hf
      exact g_zret k (rfl) r dX6_readLetter_29 ⟨rfl, rfl⟩
abbrev rmX6_readCells : Room := { frames := 2, cells := 0, slots := 0, locals := 42 }
def fX6_readCells_L2 (N : Nat) (va0_length : Int32) (va0_letters : Nat → Int32) : Nat → Int32 → Int32 → Int32 → Int32 → (Nat → Int32) → Option ((Int32 × Int32 × Int32 × Int32 × (Nat → Int32)) ⊕ (Int32 × Int32 × Int32 × Int32 × (Nat → Int32)))
  | 0, _, _, _, _, _ => none
  | n + 1, x1, va0_place, va0_number, va0_read_cells, va0_read_now_ice =>
    if 12 ≤ x1 then
    some (.inr (x1, va0_place, va0_number, va0_read_cells, va0_read_now_ice))
    else
    bnd (fX6_readNumber N va0_length va0_place va0_number va0_letters 60) fun o2 =>
    if o2.1 = 0 then
    some (.inl (0, o2.2.1, o2.2.2, va0_read_cells, va0_read_now_ice))
    else
    bnd (fX0_addCell N va0_read_cells va0_read_now_ice o2.2.2) fun o5 =>
    if (x1 + 1) = 12 then
    some (.inr (x1, o2.2.1, o2.2.2, o5.2.1, o5.2.2))
    else
    bnd (fX6_readLetter N va0_length o2.2.1 va0_letters 46) fun o8 =>
    if o8.1 = 0 then
    some (.inr (x1, o8.2, o2.2.2, o5.2.1, o5.2.2))
    else
    fX6_readCells_L2 N va0_length va0_letters n (x1 + 1) o8.2 o2.2.2 o5.2.1 o5.2.2
set_option maxHeartbeats 4000000 in
set_option maxRecDepth 100000 in
theorem wX6_readCells_L2 {E : Ev} {K : KX} (k : OKX E K cX6_readCells RX6 2 rmX6_readCells) (N : Nat) (a0 : Nat) (a0_letters : Nat) (a0_read : Nat) (a0_read_kind : Nat) (a0_read_weight : Nat) (a0_read_now : Nat) (a0_read_now_ice : Nat) (a0_read_now_juice : Nat) (a0_read_now_fors : Nat) (va0_length : Int32) (va0_letters : Nat → Int32) (va0_read_people : Int32) (va0_read_sayings : Int32) (va0_read_frost : Int32) (va0_read_now_boat : Int32) (va0_read_now_minute : Int32) (va0_read_now_draw : Int32) {out : Int32 × Int32 × Int32 × Int32 × (Nat → Int32)} (r : RTX E K 0 0 (some .boolean) (Pe (some (.int out.1)) [(a0, oB 6 [.ref a0_letters, .ref a0_read, .int va0_length, .int out.2.1, .int out.2.2.1]), (a0_letters, aC E 110 va0_letters), (a0_read, oB 0 [.ref a0_read_kind, .ref a0_read_weight, .ref a0_read_now, .int out.2.2.2.1, .int va0_read_people, .int va0_read_sayings, .int va0_read_frost]), (a0_read_now, oB 3 [.ref a0_read_now_ice, .ref a0_read_now_juice, .ref a0_read_now_fors, .int va0_read_now_boat, .int va0_read_now_minute, .int va0_read_now_draw]), (a0_read_now_ice, aI E 12 out.2.2.2.2)])) : ∀ (n : Nat) (x1 : Int32) (va0_place : Int32) (va0_number : Int32) (va0_read_cells : Int32) (va0_read_now_ice : Nat → Int32) (o : (Int32 × Int32 × Int32 × Int32 × (Nat → Int32)) ⊕ (Int32 × Int32 × Int32 × Int32 × (Nat → Int32))), fX6_readCells_L2 N va0_length va0_letters n x1 va0_place va0_number va0_read_cells va0_read_now_ice = some o → (∀ w, o = .inl w → w = out) → (∀ v, o = .inr v → G E K 2 0 0 [(0, .ref a0), (1, .int v.1)] [] [(a0, oB 6 [.ref a0_letters, .ref a0_read, .int va0_length, .int v.2.1, .int v.2.2.1]), (a0_letters, aC E 110 va0_letters), (a0_read, oB 0 [.ref a0_read_kind, .ref a0_read_weight, .ref a0_read_now, .int v.2.2.2.1, .int va0_read_people, .int va0_read_sayings, .int va0_read_frost]), (a0_read_now, oB 3 [.ref a0_read_now_ice, .ref a0_read_now_juice, .ref a0_read_now_fors, .int va0_read_now_boat, .int va0_read_now_minute, .int va0_read_now_draw]), (a0_read_now_ice, aI E 12 v.2.2.2.2)] 57) → G E K 2 0 0 [(0, .ref a0), (1, .int x1)] [] [(a0, oB 6 [.ref a0_letters, .ref a0_read, .int va0_length, .int va0_place, .int va0_number]), (a0_letters, aC E 110 va0_letters), (a0_read, oB 0 [.ref a0_read_kind, .ref a0_read_weight, .ref a0_read_now, .int va0_read_cells, .int va0_read_people, .int va0_read_sayings, .int va0_read_frost]), (a0_read_now, oB 3 [.ref a0_read_now_ice, .ref a0_read_now_juice, .ref a0_read_now_fors, .int va0_read_now_boat, .int va0_read_now_minute, .int va0_read_now_draw]), (a0_read_now_ice, aI E 12 va0_read_now_ice)] 2 := by
  intro n
  induction n with
  | zero => intro x1 va0_place va0_number va0_read_cells va0_read_now_ice o hf; cases hf
  | succ n ih =>
    intro x1 va0_place va0_number va0_read_cells va0_read_now_ice o hf hr hG
    rw [fX6_readCells_L2] at hf
    refine g_iload_n k 1 dX6_readCells_2 rfl rfl ?_
    refine g_bipush k dX6_readCells_3 bi_12 ?_
    refine g_icmp_ge k (tgt := 57) dX6_readCells_5 (by decide) (fun c1 => ?_) (fun c1 => ?_)
    · replace hf := ite_t c1 hf
      refine g_lv [0, 1] rfl ?_
      obtain rfl := Option.some.inj hf
      exact hG _ rfl
    · replace hf := ite_f c1 hf
      refine g_aload_n k 0 dX6_readCells_8 rfl rfl ?_
      refine g_bipush k dX6_readCells_9 bi_60 ?_
      obtain ⟨o2, ho3, hf⟩ := bnd_some hf
      refine g_cv k miX6_readNumber mvX6_readNumber (ctX6_readNumber (kL K) E N a0 a0_letters a0_read va0_length va0_place va0_number va0_letters 60 o2 ho3) [0, 1] 0 (ws' := [(a0, oB 6 [.ref a0_letters, .ref a0_read, .int va0_length, .int o2.2.1, .int o2.2.2]), (a0_letters, aC E 110 va0_letters), (a0_read, oB 0 [.ref a0_read_kind, .ref a0_read_weight, .ref a0_read_now, .int va0_read_cells, .int va0_read_people, .int va0_read_sayings, .int va0_read_frost]), (a0_read_now, oB 3 [.ref a0_read_now_ice, .ref a0_read_now_juice, .ref a0_read_now_fors, .int va0_read_now_boat, .int va0_read_now_minute, .int va0_read_now_draw]), (a0_read_now_ice, aI E 12 va0_read_now_ice)]) dX6_readCells_11 lkX6_67 rfl ⟨rfl, rfl⟩ ⟨by decide, by decide⟩ rfl rfl rfl rfl (Nat.le_of_ble_eq_true rfl) rfl rfl rfl ?_
      refine g_st (st' := [.int o2.1]) rfl ?_
      refine g_if_ne k (tgt := 19) dX6_readCells_14 (by decide) (fun c4 => ?_) (fun c4 => ?_)
      · replace hf := ite_f c4 hf
        refine g_aload_n k 0 dX6_readCells_19 rfl rfl ?_
        refine g_get k cfX6 1 0 dX6_readCells_20 lkX6_18 (by decide) rfl rfl ?_
        refine g_aload_n k 0 dX6_readCells_23 rfl rfl ?_
        refine g_get k cfX6 4 0 dX6_readCells_24 lkX6_29 (by decide) rfl rfl ?_
        obtain ⟨o5, ho6, hf⟩ := bnd_some hf
        refine g_cv k miX0_addCell mvX0_addCell (ctX0_addCell (kL K) E N a0_read a0_read_kind a0_read_weight a0_read_now a0_read_now_ice a0_read_now_juice a0_read_now_fors va0_read_cells va0_read_people va0_read_sayings va0_read_frost va0_read_now_boat va0_read_now_minute va0_read_now_draw va0_read_now_ice o2.2.2 o5 ho6) [2, 3, 4] 0 (ws' := [(a0, oB 6 [.ref a0_letters, .ref a0_read, .int va0_length, .int o2.2.1, .int o2.2.2]), (a0_letters, aC E 110 va0_letters), (a0_read, oB 0 [.ref a0_read_kind, .ref a0_read_weight, .ref a0_read_now, .int o5.2.1, .int va0_read_people, .int va0_read_sayings, .int va0_read_frost]), (a0_read_now, oB 3 [.ref a0_read_now_ice, .ref a0_read_now_juice, .ref a0_read_now_fors, .int va0_read_now_boat, .int va0_read_now_minute, .int va0_read_now_draw]), (a0_read_now_ice, aI E 12 o5.2.2)]) dX6_readCells_27 lkX6_71 rfl ⟨rfl, rfl⟩ ⟨by decide, by decide⟩ rfl rfl rfl rfl (Nat.le_of_ble_eq_true rfl) rfl rfl rfl ?_
        refine g_st (st' := [.int o5.1]) rfl ?_
        refine g_pop k dX6_readCells_30 rfl ?_
        refine g_iload_n k 1 dX6_readCells_31 rfl rfl ?_
        refine g_iconst k dX6_readCells_32 ic_1 ?_
        refine g_iadd k dX6_readCells_33 ?_
        refine g_bipush k dX6_readCells_34 bi_12 ?_
        refine g_icmp_eq k (tgt := 57) dX6_readCells_36 (by decide) (fun c7 => ?_) (fun c7 => ?_)
        · replace hf := ite_t c7 hf
          refine g_lv [0, 1] rfl ?_
          obtain rfl := Option.some.inj hf
          exact hG _ rfl
        · replace hf := ite_f c7 hf
          refine g_aload_n k 0 dX6_readCells_39 rfl rfl ?_
          refine g_bipush k dX6_readCells_40 bi_46 ?_
          obtain ⟨o8, ho9, hf⟩ := bnd_some hf
          refine g_cv k miX6_readLetter mvX6_readLetter (ctX6_readLetter (kL K) E N a0 a0_letters a0_read va0_length o2.2.1 o2.2.2 va0_letters 46 o8 ho9) [0, 1] 0 (ws' := [(a0, oB 6 [.ref a0_letters, .ref a0_read, .int va0_length, .int o8.2, .int o2.2.2]), (a0_letters, aC E 110 va0_letters), (a0_read, oB 0 [.ref a0_read_kind, .ref a0_read_weight, .ref a0_read_now, .int o5.2.1, .int va0_read_people, .int va0_read_sayings, .int va0_read_frost]), (a0_read_now, oB 3 [.ref a0_read_now_ice, .ref a0_read_now_juice, .ref a0_read_now_fors, .int va0_read_now_boat, .int va0_read_now_minute, .int va0_read_now_draw]), (a0_read_now_ice, aI E 12 o5.2.2)]) dX6_readCells_42 lkX6_75 rfl ⟨rfl, rfl⟩ ⟨by decide, by decide⟩ rfl rfl rfl rfl (Nat.le_of_ble_eq_true rfl) rfl rfl rfl ?_
          refine g_st (st' := [.int o8.1]) rfl ?_
          refine g_if_ne k (tgt := 51) dX6_readCells_45 (by decide) (fun c10 => ?_) (fun c10 => ?_)
          · replace hf := ite_f c10 hf
            refine g_iinc k (lv' := [(1, .int (x1 + 1)), (0, .ref a0)]) 1 dX6_readCells_51 rfl (ii_1 _) (by decide) rfl ?_
            refine g_goto k (tgt := 2) dX6_readCells_54 (by decide) ?_
            refine g_lv [1, 0] rfl ?_
            exact ih (x1 + 1) o8.2 o2.2.2 o5.2.1 o5.2.2 o hf hr hG
          · replace hf := ite_t c10 hf
            refine g_goto k (tgt := 57) dX6_readCells_48 (by decide) ?_
            refine g_lv [0, 1] rfl ?_
            obtain rfl := Option.some.inj hf
            exact hG _ rfl
      · replace hf := ite_t c4 hf
        refine g_iconst k dX6_readCells_17 ic_0 ?_
        obtain rfl := Option.some.inj hf
        obtain rfl := hr _ rfl
        exact g_zret k (rfl) r dX6_readCells_18 ⟨rfl, rfl⟩
def fX6_readCells (N : Nat) (va0_length : Int32) (va0_place : Int32) (va0_number : Int32) (va0_letters : Nat → Int32) (va0_read_cells : Int32) (va0_read_now_ice : Nat → Int32)  : Option (Int32 × Int32 × Int32 × Int32 × (Nat → Int32)) :=
  bnd (fX6_readCells_L2 N va0_length va0_letters N 0 va0_place va0_number va0_read_cells va0_read_now_ice) fun o11 => lret o11 fun v13 =>
  bnd (fX6_readLetter N va0_length v13.2.1 va0_letters 59) fun o14 =>
  zb o14.1 (some (o14.1, o14.2, v13.2.2.1, v13.2.2.2.1, v13.2.2.2.2))
set_option maxHeartbeats 4000000 in
set_option maxRecDepth 100000 in
theorem ctX6_readCells (l : Launch) (E : Ev) (N : Nat) (a0 : Nat) (a0_letters : Nat) (a0_read : Nat) (a0_read_kind : Nat) (a0_read_weight : Nat) (a0_read_now : Nat) (a0_read_now_ice : Nat) (a0_read_now_juice : Nat) (a0_read_now_fors : Nat) (va0_length : Int32) (va0_place : Int32) (va0_number : Int32) (va0_letters : Nat → Int32) (va0_read_cells : Int32) (va0_read_people : Int32) (va0_read_sayings : Int32) (va0_read_frost : Int32) (va0_read_now_boat : Int32) (va0_read_now_minute : Int32) (va0_read_now_draw : Int32) (va0_read_now_ice : Nat → Int32)  (out : Int32 × Int32 × Int32 × Int32 × (Nat → Int32)) (hf : fX6_readCells N va0_length va0_place va0_number va0_letters va0_read_cells va0_read_now_ice  = some out) : Ct l E yX6_readCells cX6_readCells 2 (some .boolean) rmX6_readCells [.ref a0] [(a0, oB 6 [.ref a0_letters, .ref a0_read, .int va0_length, .int va0_place, .int va0_number]), (a0_letters, aC E 110 va0_letters), (a0_read, oB 0 [.ref a0_read_kind, .ref a0_read_weight, .ref a0_read_now, .int va0_read_cells, .int va0_read_people, .int va0_read_sayings, .int va0_read_frost]), (a0_read_now, oB 3 [.ref a0_read_now_ice, .ref a0_read_now_juice, .ref a0_read_now_fors, .int va0_read_now_boat, .int va0_read_now_minute, .int va0_read_now_draw]), (a0_read_now_ice, aI E 12 va0_read_now_ice)] (Pe (some (.int out.1)) [(a0, oB 6 [.ref a0_letters, .ref a0_read, .int va0_length, .int out.2.1, .int out.2.2.1]), (a0_letters, aC E 110 va0_letters), (a0_read, oB 0 [.ref a0_read_kind, .ref a0_read_weight, .ref a0_read_now, .int out.2.2.2.1, .int va0_read_people, .int va0_read_sayings, .int va0_read_frost]), (a0_read_now, oB 3 [.ref a0_read_now_ice, .ref a0_read_now_juice, .ref a0_read_now_fors, .int va0_read_now_boat, .int va0_read_now_minute, .int va0_read_now_draw]), (a0_read_now_ice, aI E 12 out.2.2.2.2)]) := by
  refine Ct.of rfl (Nat.le_of_ble_eq_true rfl) (fun K hL k r hin => ?_)
  subst hL
  unfold fX6_readCells at hf
  show G E K 2 0 0 [(0, .ref a0)] [] [(a0, oB 6 [.ref a0_letters, .ref a0_read, .int va0_length, .int va0_place, .int va0_number]), (a0_letters, aC E 110 va0_letters), (a0_read, oB 0 [.ref a0_read_kind, .ref a0_read_weight, .ref a0_read_now, .int va0_read_cells, .int va0_read_people, .int va0_read_sayings, .int va0_read_frost]), (a0_read_now, oB 3 [.ref a0_read_now_ice, .ref a0_read_now_juice, .ref a0_read_now_fors, .int va0_read_now_boat, .int va0_read_now_minute, .int va0_read_now_draw]), (a0_read_now_ice, aI E 12 va0_read_now_ice)] 0
  refine g_iconst k dX6_readCells_0 ic_0 ?_
  refine g_istore_n k (lv' := [(1, .int 0), (0, .ref a0)]) dX6_readCells_1 rfl (by decide) rfl ?_
  obtain ⟨o11, ho12, hf⟩ := bnd_some hf
  refine g_lv [1, 0] (lv' := [(0, .ref a0), (1, .int 0)]) rfl ?_
  refine wX6_readCells_L2 k N a0 a0_letters a0_read a0_read_kind a0_read_weight a0_read_now a0_read_now_ice a0_read_now_juice a0_read_now_fors  va0_length va0_letters va0_read_people va0_read_sayings va0_read_frost va0_read_now_boat va0_read_now_minute va0_read_now_draw r N 0 va0_place va0_number va0_read_cells va0_read_now_ice o11 ho12 (fun w e => by subst e; exact Option.some.inj hf) (fun v13 e => ?_)
  subst e
  replace hf := lret_r hf
  refine g_aload_n k 0 dX6_readCells_57 rfl rfl ?_
  refine g_bipush k dX6_readCells_58 bi_59 ?_
  obtain ⟨o14, ho15, hf⟩ := bnd_some hf
  refine g_cv k miX6_readLetter mvX6_readLetter (ctX6_readLetter (kL K) E N a0 a0_letters a0_read va0_length v13.2.1 v13.2.2.1 va0_letters 59 o14 ho15) [0, 1] 0 (ws' := [(a0, oB 6 [.ref a0_letters, .ref a0_read, .int va0_length, .int o14.2, .int v13.2.2.1]), (a0_letters, aC E 110 va0_letters), (a0_read, oB 0 [.ref a0_read_kind, .ref a0_read_weight, .ref a0_read_now, .int v13.2.2.2.1, .int va0_read_people, .int va0_read_sayings, .int va0_read_frost]), (a0_read_now, oB 3 [.ref a0_read_now_ice, .ref a0_read_now_juice, .ref a0_read_now_fors, .int va0_read_now_boat, .int va0_read_now_minute, .int va0_read_now_draw]), (a0_read_now_ice, aI E 12 v13.2.2.2.2)]) dX6_readCells_60 lkX6_75 rfl ⟨rfl, rfl⟩ ⟨by decide, by decide⟩ rfl rfl rfl rfl (Nat.le_of_ble_eq_true rfl) rfl rfl rfl ?_
  refine g_st (st' := [.int o14.1]) rfl ?_
  obtain ⟨hz16, hf⟩ := zb_some hf
  obtain rfl := Option.some.inj hf
  exact g_zret k (zb_nar hz16) r dX6_readCells_63 ⟨rfl, rfl⟩
abbrev rmX6_readPerson : Room := { frames := 7, cells := 0, slots := 0, locals := 159 }
def fX6_readPerson (N : Nat) (va0_length : Int32) (va0_place : Int32) (va0_letters : Nat → Int32) (va0_read_people : Int32) (va0_read_kind : Nat → Int32) (va0_read_weight : Nat → Int32)  : Option (Int32 × Int32 × Int32 × (Nat → Int32) × (Nat → Int32)) :=
  bnd (fX6_skipBlanks N va0_length va0_place va0_letters) fun o1 =>
  if va0_length ≤ o1 then
  some (0, o1, va0_read_people, va0_read_kind, va0_read_weight)
  else
  ixb o1 110 fun κ5 =>
  bnd (fJ0_indexOf_0f7a4 N (va0_letters κ5)) fun o6 =>
  if 0 ≤ o6 then
  bnd (fX6_skipBlanks N va0_length (o1 + 1) va0_letters) fun o9 =>
  bnd (fX6_digitHere N va0_length o9 va0_letters) fun o11 =>
  if 1 ≤ o11 then
  bnd (fX0_addPerson N va0_read_people va0_read_kind va0_read_weight o6 o11) fun o14 =>
  some (1, (o9 + 1), o14.2.1, o14.2.2.1, o14.2.2.2)
  else
  some (0, o9, va0_read_people, va0_read_kind, va0_read_weight)
  else
  some (0, o1, va0_read_people, va0_read_kind, va0_read_weight)
set_option maxHeartbeats 4000000 in
set_option maxRecDepth 100000 in
theorem ctX6_readPerson (l : Launch) (E : Ev) (N : Nat) (a0 : Nat) (a0_letters : Nat) (a0_read : Nat) (a0_read_kind : Nat) (a0_read_weight : Nat) (a0_read_now : Nat) (va0_length : Int32) (va0_place : Int32) (va0_number : Int32) (va0_letters : Nat → Int32) (va0_read_cells : Int32) (va0_read_people : Int32) (va0_read_sayings : Int32) (va0_read_frost : Int32) (va0_read_kind : Nat → Int32) (va0_read_weight : Nat → Int32)  (out : Int32 × Int32 × Int32 × (Nat → Int32) × (Nat → Int32)) (hf : fX6_readPerson N va0_length va0_place va0_letters va0_read_people va0_read_kind va0_read_weight  = some out) : Ct l E yX6_readPerson cX6_readPerson 3 (some .boolean) rmX6_readPerson [.ref a0] [(a0, oB 6 [.ref a0_letters, .ref a0_read, .int va0_length, .int va0_place, .int va0_number]), (a0_letters, aC E 110 va0_letters), (a0_read, oB 0 [.ref a0_read_kind, .ref a0_read_weight, .ref a0_read_now, .int va0_read_cells, .int va0_read_people, .int va0_read_sayings, .int va0_read_frost]), (a0_read_kind, aI E 6 va0_read_kind), (a0_read_weight, aI E 6 va0_read_weight)] (Pe (some (.int out.1)) [(a0, oB 6 [.ref a0_letters, .ref a0_read, .int va0_length, .int out.2.1, .int va0_number]), (a0_letters, aC E 110 va0_letters), (a0_read, oB 0 [.ref a0_read_kind, .ref a0_read_weight, .ref a0_read_now, .int va0_read_cells, .int out.2.2.1, .int va0_read_sayings, .int va0_read_frost]), (a0_read_kind, aI E 6 out.2.2.2.1), (a0_read_weight, aI E 6 out.2.2.2.2)]) := by
  refine Ct.of rfl (Nat.le_of_ble_eq_true rfl) (fun K hL k r hin => ?_)
  subst hL
  unfold fX6_readPerson at hf
  show G E K 3 0 0 [(0, .ref a0)] [] [(a0, oB 6 [.ref a0_letters, .ref a0_read, .int va0_length, .int va0_place, .int va0_number]), (a0_letters, aC E 110 va0_letters), (a0_read, oB 0 [.ref a0_read_kind, .ref a0_read_weight, .ref a0_read_now, .int va0_read_cells, .int va0_read_people, .int va0_read_sayings, .int va0_read_frost]), (a0_read_kind, aI E 6 va0_read_kind), (a0_read_weight, aI E 6 va0_read_weight)] 0
  refine g_aload_n k 0 dX6_readPerson_0 rfl rfl ?_
  obtain ⟨o1, ho2, hf⟩ := bnd_some hf
  refine g_cv k miX6_skipBlanks mvX6_skipBlanks (ctX6_skipBlanks (kL K) E N a0 a0_letters a0_read va0_length va0_place va0_number va0_letters  o1 ho2) [0, 1] 0 (ws' := [(a0, oB 6 [.ref a0_letters, .ref a0_read, .int va0_length, .int o1, .int va0_number]), (a0_letters, aC E 110 va0_letters), (a0_read, oB 0 [.ref a0_read_kind, .ref a0_read_weight, .ref a0_read_now, .int va0_read_cells, .int va0_read_people, .int va0_read_sayings, .int va0_read_frost]), (a0_read_kind, aI E 6 va0_read_kind), (a0_read_weight, aI E 6 va0_read_weight)]) dX6_readPerson_1 lkX6_82 rfl ⟨rfl, rfl⟩ ⟨by decide, by decide⟩ rfl rfl rfl rfl (Nat.le_of_ble_eq_true rfl) rfl rfl rfl ?_
  refine g_st (st' := []) rfl ?_
  refine g_aload_n k 0 dX6_readPerson_4 rfl rfl ?_
  refine g_get k cfX6 3 0 dX6_readPerson_5 lkX6_26 (by decide) rfl rfl ?_
  refine g_aload_n k 0 dX6_readPerson_8 rfl rfl ?_
  refine g_get k cfX6 2 0 dX6_readPerson_9 lkX6_22 (by decide) rfl rfl ?_
  refine g_icmp_ge k (tgt := 32) dX6_readPerson_12 (by decide) (fun c3 => ?_) (fun c3 => ?_)
  · replace hf := ite_t c3 hf
    refine g_iconst k dX6_readPerson_32 ic_m1 ?_
    refine g_istore_n k (lv' := [(1, .int (-1)), (0, .ref a0)]) dX6_readPerson_33 rfl (by decide) rfl ?_
    refine g_iload_n k 0 dX6_readPerson_34 rfl rfl ?_
    refine g_if_ge k (tgt := 40) dX6_readPerson_35 (by decide) (fun c4 => absurd c4 (by decide)) (fun _ => ?_)
    refine g_iconst k dX6_readPerson_38 ic_0 ?_
    obtain rfl := Option.some.inj hf
    exact g_zret k (rfl) r dX6_readPerson_39 ⟨rfl, rfl⟩
  · replace hf := ite_f c3 hf
    refine g_ldcS k dX6_readPerson_15 ?_
    refine g_aload_n k 0 dX6_readPerson_17 rfl rfl ?_
    refine g_get k cfX6 0 0 dX6_readPerson_18 lkX6_11 (by decide) rfl rfl ?_
    refine g_aload_n k 0 dX6_readPerson_21 rfl rfl ?_
    refine g_get k cfX6 3 0 dX6_readPerson_22 lkX6_26 (by decide) rfl rfl ?_
    obtain ⟨κ5, hκ5, hiκ5, heκ5, hf⟩ := ixb_some hf
    refine g_caload k 1 dX6_readPerson_25 rfl hiκ5 heκ5 ?_
    obtain ⟨o6, ho7, hf⟩ := bnd_some hf
    refine g_cvs k miJ0_indexOf_0f7a4 mwJ0_indexOf_0f7a4 (ctJ0_indexOf_0f7a4 (kL K) E N   (va0_letters κ5) o6 ho7) dX6_readPerson_26 lkX6_87 rfl ⟨rfl, rfl⟩ ⟨by decide, by decide⟩ rfl rfl (Nat.le_of_ble_eq_true rfl) ?_
    refine g_st (st' := [.int o6]) rfl ?_
    refine g_goto k (tgt := 33) dX6_readPerson_29 (by decide) ?_
    refine g_istore_n k (lv' := [(1, .int o6), (0, .ref a0)]) dX6_readPerson_33 rfl (by decide) rfl ?_
    refine g_iload_n k 0 dX6_readPerson_34 rfl rfl ?_
    refine g_if_ge k (tgt := 40) dX6_readPerson_35 (by decide) (fun c8 => ?_) (fun c8 => ?_)
    · replace hf := ite_t c8 hf
      refine g_aload_n k 1 dX6_readPerson_40 rfl rfl ?_
      refine g_dup k dX6_readPerson_41 rfl ?_
      refine g_get k cfX6 3 0 dX6_readPerson_42 lkX6_26 (by decide) rfl rfl ?_
      refine g_iconst k dX6_readPerson_45 ic_1 ?_
      refine g_iadd k dX6_readPerson_46 ?_
      refine g_put k cfX6 3 0 (ws' := [(a0, oB 6 [.ref a0_letters, .ref a0_read, .int va0_length, .int (o1 + 1), .int va0_number]), (a0_letters, aC E 110 va0_letters), (a0_read, oB 0 [.ref a0_read_kind, .ref a0_read_weight, .ref a0_read_now, .int va0_read_cells, .int va0_read_people, .int va0_read_sayings, .int va0_read_frost]), (a0_read_kind, aI E 6 va0_read_kind), (a0_read_weight, aI E 6 va0_read_weight)]) dX6_readPerson_47 lkX6_26 (by decide) rfl rfl rfl rfl (Nat.le_of_ble_eq_true rfl) rfl ?_
      refine g_aload_n k 1 dX6_readPerson_50 rfl rfl ?_
      obtain ⟨o9, ho10, hf⟩ := bnd_some hf
      refine g_cv k miX6_skipBlanks mvX6_skipBlanks (ctX6_skipBlanks (kL K) E N a0 a0_letters a0_read va0_length (o1 + 1) va0_number va0_letters  o9 ho10) [0, 1] 0 (ws' := [(a0, oB 6 [.ref a0_letters, .ref a0_read, .int va0_length, .int o9, .int va0_number]), (a0_letters, aC E 110 va0_letters), (a0_read, oB 0 [.ref a0_read_kind, .ref a0_read_weight, .ref a0_read_now, .int va0_read_cells, .int va0_read_people, .int va0_read_sayings, .int va0_read_frost]), (a0_read_kind, aI E 6 va0_read_kind), (a0_read_weight, aI E 6 va0_read_weight)]) dX6_readPerson_51 lkX6_82 rfl ⟨rfl, rfl⟩ ⟨by decide, by decide⟩ rfl rfl rfl rfl (Nat.le_of_ble_eq_true rfl) rfl rfl rfl ?_
      refine g_st (st' := []) rfl ?_
      refine g_aload_n k 1 dX6_readPerson_54 rfl rfl ?_
      obtain ⟨o11, ho12, hf⟩ := bnd_some hf
      refine g_cv k miX6_digitHere mvX6_digitHere (ctX6_digitHere (kL K) E N a0 a0_letters a0_read va0_length o9 va0_number va0_letters  o11 ho12) [0, 1] 0 (ws' := [(a0, oB 6 [.ref a0_letters, .ref a0_read, .int va0_length, .int o9, .int va0_number]), (a0_letters, aC E 110 va0_letters), (a0_read, oB 0 [.ref a0_read_kind, .ref a0_read_weight, .ref a0_read_now, .int va0_read_cells, .int va0_read_people, .int va0_read_sayings, .int va0_read_frost]), (a0_read_kind, aI E 6 va0_read_kind), (a0_read_weight, aI E 6 va0_read_weight)]) dX6_readPerson_55 lkX6_92 rfl ⟨rfl, rfl⟩ ⟨by decide, by decide⟩ rfl rfl rfl rfl (Nat.le_of_ble_eq_true rfl) rfl rfl rfl ?_
      refine g_st (st' := [.int o11]) rfl ?_
      refine g_istore_n k (lv' := [(2, .int o11), (1, .int o6), (0, .ref a0)]) dX6_readPerson_58 rfl (by decide) rfl ?_
      refine g_iload_n k 0 dX6_readPerson_59 rfl rfl ?_
      refine g_iconst k dX6_readPerson_60 ic_1 ?_
      refine g_icmp_ge k (tgt := 66) dX6_readPerson_61 (by decide) (fun c13 => ?_) (fun c13 => ?_)
      · replace hf := ite_t c13 hf
        refine g_aload_n k 2 dX6_readPerson_66 rfl rfl ?_
        refine g_dup k dX6_readPerson_67 rfl ?_
        refine g_get k cfX6 3 0 dX6_readPerson_68 lkX6_26 (by decide) rfl rfl ?_
        refine g_iconst k dX6_readPerson_71 ic_1 ?_
        refine g_iadd k dX6_readPerson_72 ?_
        refine g_put k cfX6 3 0 (ws' := [(a0, oB 6 [.ref a0_letters, .ref a0_read, .int va0_length, .int (o9 + 1), .int va0_number]), (a0_letters, aC E 110 va0_letters), (a0_read, oB 0 [.ref a0_read_kind, .ref a0_read_weight, .ref a0_read_now, .int va0_read_cells, .int va0_read_people, .int va0_read_sayings, .int va0_read_frost]), (a0_read_kind, aI E 6 va0_read_kind), (a0_read_weight, aI E 6 va0_read_weight)]) dX6_readPerson_73 lkX6_26 (by decide) rfl rfl rfl rfl (Nat.le_of_ble_eq_true rfl) rfl ?_
        refine g_aload_n k 2 dX6_readPerson_76 rfl rfl ?_
        refine g_get k cfX6 1 0 dX6_readPerson_77 lkX6_18 (by decide) rfl rfl ?_
        refine g_iload_n k 1 dX6_readPerson_80 rfl rfl ?_
        refine g_iload_n k 0 dX6_readPerson_81 rfl rfl ?_
        obtain ⟨o14, ho15, hf⟩ := bnd_some hf
        refine g_cv k miX0_addPerson mvX0_addPerson (ctX0_addPerson (kL K) E N a0_read a0_read_kind a0_read_weight a0_read_now va0_read_cells va0_read_people va0_read_sayings va0_read_frost va0_read_kind va0_read_weight o6 o11 o14 ho15) [2, 3, 4] 0 (ws' := [(a0, oB 6 [.ref a0_letters, .ref a0_read, .int va0_length, .int (o9 + 1), .int va0_number]), (a0_letters, aC E 110 va0_letters), (a0_read, oB 0 [.ref a0_read_kind, .ref a0_read_weight, .ref a0_read_now, .int va0_read_cells, .int o14.2.1, .int va0_read_sayings, .int va0_read_frost]), (a0_read_kind, aI E 6 o14.2.2.1), (a0_read_weight, aI E 6 o14.2.2.2)]) dX6_readPerson_82 lkX6_96 rfl ⟨rfl, rfl⟩ ⟨by decide, by decide⟩ rfl rfl rfl rfl (Nat.le_of_ble_eq_true rfl) rfl rfl rfl ?_
        refine g_st (st' := [.int o14.1]) rfl ?_
        refine g_pop k dX6_readPerson_85 rfl ?_
        refine g_iconst k dX6_readPerson_86 ic_1 ?_
        obtain rfl := Option.some.inj hf
        exact g_zret k (rfl) r dX6_readPerson_87 ⟨rfl, rfl⟩
      · replace hf := ite_f c13 hf
        refine g_iconst k dX6_readPerson_64 ic_0 ?_
        obtain rfl := Option.some.inj hf
        exact g_zret k (rfl) r dX6_readPerson_65 ⟨rfl, rfl⟩
    · replace hf := ite_f c8 hf
      refine g_iconst k dX6_readPerson_38 ic_0 ?_
      obtain rfl := Option.some.inj hf
      exact g_zret k (rfl) r dX6_readPerson_39 ⟨rfl, rfl⟩
abbrev rmX6_readPeople : Room := { frames := 8, cells := 0, slots := 0, locals := 181 }
def fX6_readPeople_L2 (N : Nat) (va0_length : Int32) (va0_letters : Nat → Int32) : Nat → Int32 → Int32 → Int32 → (Nat → Int32) → (Nat → Int32) → Option ((Int32 × Int32 × Int32 × (Nat → Int32) × (Nat → Int32)) ⊕ (Int32 × Int32 × Int32 × (Nat → Int32) × (Nat → Int32)))
  | 0, _, _, _, _, _ => none
  | n + 1, x1, va0_place, va0_read_people, va0_read_kind, va0_read_weight =>
    if 6 ≤ x1 then
    some (.inr (x1, va0_place, va0_read_people, va0_read_kind, va0_read_weight))
    else
    bnd (fX6_readPerson N va0_length va0_place va0_letters va0_read_people va0_read_kind va0_read_weight) fun o2 =>
    if o2.1 = 0 then
    some (.inl (0, o2.2.1, o2.2.2.1, o2.2.2.2.1, o2.2.2.2.2))
    else
    if (x1 + 1) = 6 then
    some (.inr (x1, o2.2.1, o2.2.2.1, o2.2.2.2.1, o2.2.2.2.2))
    else
    bnd (fX6_readLetter N va0_length o2.2.1 va0_letters 44) fun o6 =>
    if o6.1 = 0 then
    some (.inr (x1, o6.2, o2.2.2.1, o2.2.2.2.1, o2.2.2.2.2))
    else
    fX6_readPeople_L2 N va0_length va0_letters n (x1 + 1) o6.2 o2.2.2.1 o2.2.2.2.1 o2.2.2.2.2
set_option maxHeartbeats 4000000 in
set_option maxRecDepth 100000 in
theorem wX6_readPeople_L2 {E : Ev} {K : KX} (k : OKX E K cX6_readPeople RX6 2 rmX6_readPeople) (N : Nat) (a0 : Nat) (a0_letters : Nat) (a0_read : Nat) (a0_read_kind : Nat) (a0_read_weight : Nat) (a0_read_now : Nat) (va0_length : Int32) (va0_letters : Nat → Int32) (va0_number : Int32) (va0_read_cells : Int32) (va0_read_sayings : Int32) (va0_read_frost : Int32) {out : Int32 × Int32 × Int32 × (Nat → Int32) × (Nat → Int32)} (r : RTX E K 0 0 (some .boolean) (Pe (some (.int out.1)) [(a0, oB 6 [.ref a0_letters, .ref a0_read, .int va0_length, .int out.2.1, .int va0_number]), (a0_letters, aC E 110 va0_letters), (a0_read, oB 0 [.ref a0_read_kind, .ref a0_read_weight, .ref a0_read_now, .int va0_read_cells, .int out.2.2.1, .int va0_read_sayings, .int va0_read_frost]), (a0_read_kind, aI E 6 out.2.2.2.1), (a0_read_weight, aI E 6 out.2.2.2.2)])) : ∀ (n : Nat) (x1 : Int32) (va0_place : Int32) (va0_read_people : Int32) (va0_read_kind : Nat → Int32) (va0_read_weight : Nat → Int32) (o : (Int32 × Int32 × Int32 × (Nat → Int32) × (Nat → Int32)) ⊕ (Int32 × Int32 × Int32 × (Nat → Int32) × (Nat → Int32))), fX6_readPeople_L2 N va0_length va0_letters n x1 va0_place va0_read_people va0_read_kind va0_read_weight = some o → (∀ w, o = .inl w → w = out) → (∀ v, o = .inr v → G E K 2 0 0 [(0, .ref a0), (1, .int v.1)] [] [(a0, oB 6 [.ref a0_letters, .ref a0_read, .int va0_length, .int v.2.1, .int va0_number]), (a0_letters, aC E 110 va0_letters), (a0_read, oB 0 [.ref a0_read_kind, .ref a0_read_weight, .ref a0_read_now, .int va0_read_cells, .int v.2.2.1, .int va0_read_sayings, .int va0_read_frost]), (a0_read_kind, aI E 6 v.2.2.2.1), (a0_read_weight, aI E 6 v.2.2.2.2)] 43) → G E K 2 0 0 [(0, .ref a0), (1, .int x1)] [] [(a0, oB 6 [.ref a0_letters, .ref a0_read, .int va0_length, .int va0_place, .int va0_number]), (a0_letters, aC E 110 va0_letters), (a0_read, oB 0 [.ref a0_read_kind, .ref a0_read_weight, .ref a0_read_now, .int va0_read_cells, .int va0_read_people, .int va0_read_sayings, .int va0_read_frost]), (a0_read_kind, aI E 6 va0_read_kind), (a0_read_weight, aI E 6 va0_read_weight)] 2 := by
  intro n
  induction n with
  | zero => intro x1 va0_place va0_read_people va0_read_kind va0_read_weight o hf; cases hf
  | succ n ih =>
    intro x1 va0_place va0_read_people va0_read_kind va0_read_weight o hf hr hG
    rw [fX6_readPeople_L2] at hf
    refine g_iload_n k 1 dX6_readPeople_2 rfl rfl ?_
    refine g_bipush k dX6_readPeople_3 bi_6 ?_
    refine g_icmp_ge k (tgt := 43) dX6_readPeople_5 (by decide) (fun c1 => ?_) (fun c1 => ?_)
    · replace hf := ite_t c1 hf
      refine g_lv [0, 1] rfl ?_
      obtain rfl := Option.some.inj hf
      exact hG _ rfl
    · replace hf := ite_f c1 hf
      refine g_aload_n k 0 dX6_readPeople_8 rfl rfl ?_
      obtain ⟨o2, ho3, hf⟩ := bnd_some hf
      refine g_cv k miX6_readPerson mvX6_readPerson (ctX6_readPerson (kL K) E N a0 a0_letters a0_read a0_read_kind a0_read_weight a0_read_now va0_length va0_place va0_number va0_letters va0_read_cells va0_read_people va0_read_sayings va0_read_frost va0_read_kind va0_read_weight  o2 ho3) [0, 1, 2, 3, 4] 0 (ws' := [(a0, oB 6 [.ref a0_letters, .ref a0_read, .int va0_length, .int o2.2.1, .int va0_number]), (a0_letters, aC E 110 va0_letters), (a0_read, oB 0 [.ref a0_read_kind, .ref a0_read_weight, .ref a0_read_now, .int va0_read_cells, .int o2.2.2.1, .int va0_read_sayings, .int va0_read_frost]), (a0_read_kind, aI E 6 o2.2.2.2.1), (a0_read_weight, aI E 6 o2.2.2.2.2)]) dX6_readPeople_9 lkX6_79 rfl ⟨rfl, rfl⟩ ⟨by decide, by decide⟩ rfl rfl rfl rfl (Nat.le_of_ble_eq_true rfl) rfl rfl rfl ?_
      refine g_st (st' := [.int o2.1]) rfl ?_
      refine g_if_ne k (tgt := 17) dX6_readPeople_12 (by decide) (fun c4 => ?_) (fun c4 => ?_)
      · replace hf := ite_f c4 hf
        refine g_iload_n k 1 dX6_readPeople_17 rfl rfl ?_
        refine g_iconst k dX6_readPeople_18 ic_1 ?_
        refine g_iadd k dX6_readPeople_19 ?_
        refine g_bipush k dX6_readPeople_20 bi_6 ?_
        refine g_icmp_eq k (tgt := 43) dX6_readPeople_22 (by decide) (fun c5 => ?_) (fun c5 => ?_)
        · replace hf := ite_t c5 hf
          refine g_lv [0, 1] rfl ?_
          obtain rfl := Option.some.inj hf
          exact hG _ rfl
        · replace hf := ite_f c5 hf
          refine g_aload_n k 0 dX6_readPeople_25 rfl rfl ?_
          refine g_bipush k dX6_readPeople_26 bi_44 ?_
          obtain ⟨o6, ho7, hf⟩ := bnd_some hf
          refine g_cv k miX6_readLetter mvX6_readLetter (ctX6_readLetter (kL K) E N a0 a0_letters a0_read va0_length o2.2.1 va0_number va0_letters 44 o6 ho7) [0, 1] 0 (ws' := [(a0, oB 6 [.ref a0_letters, .ref a0_read, .int va0_length, .int o6.2, .int va0_number]), (a0_letters, aC E 110 va0_letters), (a0_read, oB 0 [.ref a0_read_kind, .ref a0_read_weight, .ref a0_read_now, .int va0_read_cells, .int o2.2.2.1, .int va0_read_sayings, .int va0_read_frost]), (a0_read_kind, aI E 6 o2.2.2.2.1), (a0_read_weight, aI E 6 o2.2.2.2.2)]) dX6_readPeople_28 lkX6_75 rfl ⟨rfl, rfl⟩ ⟨by decide, by decide⟩ rfl rfl rfl rfl (Nat.le_of_ble_eq_true rfl) rfl rfl rfl ?_
          refine g_st (st' := [.int o6.1]) rfl ?_
          refine g_if_ne k (tgt := 37) dX6_readPeople_31 (by decide) (fun c8 => ?_) (fun c8 => ?_)
          · replace hf := ite_f c8 hf
            refine g_iinc k (lv' := [(1, .int (x1 + 1)), (0, .ref a0)]) 1 dX6_readPeople_37 rfl (ii_1 _) (by decide) rfl ?_
            refine g_goto k (tgt := 2) dX6_readPeople_40 (by decide) ?_
            refine g_lv [1, 0] rfl ?_
            exact ih (x1 + 1) o6.2 o2.2.2.1 o2.2.2.2.1 o2.2.2.2.2 o hf hr hG
          · replace hf := ite_t c8 hf
            refine g_goto k (tgt := 43) dX6_readPeople_34 (by decide) ?_
            refine g_lv [0, 1] rfl ?_
            obtain rfl := Option.some.inj hf
            exact hG _ rfl
      · replace hf := ite_t c4 hf
        refine g_iconst k dX6_readPeople_15 ic_0 ?_
        obtain rfl := Option.some.inj hf
        obtain rfl := hr _ rfl
        exact g_zret k (rfl) r dX6_readPeople_16 ⟨rfl, rfl⟩
def fX6_readPeople (N : Nat) (va0_length : Int32) (va0_place : Int32) (va0_letters : Nat → Int32) (va0_read_people : Int32) (va0_read_kind : Nat → Int32) (va0_read_weight : Nat → Int32)  : Option (Int32 × Int32 × Int32 × (Nat → Int32) × (Nat → Int32)) :=
  bnd (fX6_readPeople_L2 N va0_length va0_letters N 0 va0_place va0_read_people va0_read_kind va0_read_weight) fun o9 => lret o9 fun v11 =>
  some (1, v11.2.1, v11.2.2.1, v11.2.2.2.1, v11.2.2.2.2)
set_option maxHeartbeats 4000000 in
set_option maxRecDepth 100000 in
theorem ctX6_readPeople (l : Launch) (E : Ev) (N : Nat) (a0 : Nat) (a0_letters : Nat) (a0_read : Nat) (a0_read_kind : Nat) (a0_read_weight : Nat) (a0_read_now : Nat) (va0_length : Int32) (va0_place : Int32) (va0_number : Int32) (va0_letters : Nat → Int32) (va0_read_cells : Int32) (va0_read_people : Int32) (va0_read_sayings : Int32) (va0_read_frost : Int32) (va0_read_kind : Nat → Int32) (va0_read_weight : Nat → Int32)  (out : Int32 × Int32 × Int32 × (Nat → Int32) × (Nat → Int32)) (hf : fX6_readPeople N va0_length va0_place va0_letters va0_read_people va0_read_kind va0_read_weight  = some out) : Ct l E yX6_readPeople cX6_readPeople 2 (some .boolean) rmX6_readPeople [.ref a0] [(a0, oB 6 [.ref a0_letters, .ref a0_read, .int va0_length, .int va0_place, .int va0_number]), (a0_letters, aC E 110 va0_letters), (a0_read, oB 0 [.ref a0_read_kind, .ref a0_read_weight, .ref a0_read_now, .int va0_read_cells, .int va0_read_people, .int va0_read_sayings, .int va0_read_frost]), (a0_read_kind, aI E 6 va0_read_kind), (a0_read_weight, aI E 6 va0_read_weight)] (Pe (some (.int out.1)) [(a0, oB 6 [.ref a0_letters, .ref a0_read, .int va0_length, .int out.2.1, .int va0_number]), (a0_letters, aC E 110 va0_letters), (a0_read, oB 0 [.ref a0_read_kind, .ref a0_read_weight, .ref a0_read_now, .int va0_read_cells, .int out.2.2.1, .int va0_read_sayings, .int va0_read_frost]), (a0_read_kind, aI E 6 out.2.2.2.1), (a0_read_weight, aI E 6 out.2.2.2.2)]) := by
  refine Ct.of rfl (Nat.le_of_ble_eq_true rfl) (fun K hL k r hin => ?_)
  subst hL
  unfold fX6_readPeople at hf
  show G E K 2 0 0 [(0, .ref a0)] [] [(a0, oB 6 [.ref a0_letters, .ref a0_read, .int va0_length, .int va0_place, .int va0_number]), (a0_letters, aC E 110 va0_letters), (a0_read, oB 0 [.ref a0_read_kind, .ref a0_read_weight, .ref a0_read_now, .int va0_read_cells, .int va0_read_people, .int va0_read_sayings, .int va0_read_frost]), (a0_read_kind, aI E 6 va0_read_kind), (a0_read_weight, aI E 6 va0_read_weight)] 0
  refine g_iconst k dX6_readPeople_0 ic_0 ?_
  refine g_istore_n k (lv' := [(1, .int 0), (0, .ref a0)]) dX6_readPeople_1 rfl (by decide) rfl ?_
  obtain ⟨o9, ho10, hf⟩ := bnd_some hf
  refine g_lv [1, 0] (lv' := [(0, .ref a0), (1, .int 0)]) rfl ?_
  refine wX6_readPeople_L2 k N a0 a0_letters a0_read a0_read_kind a0_read_weight a0_read_now  va0_length va0_letters va0_number va0_read_cells va0_read_sayings va0_read_frost r N 0 va0_place va0_read_people va0_read_kind va0_read_weight o9 ho10 (fun w e => by subst e; exact Option.some.inj hf) (fun v11 e => ?_)
  subst e
  replace hf := lret_r hf
  refine g_iconst k dX6_readPeople_43 ic_1 ?_
  obtain rfl := Option.some.inj hf
  exact g_zret k (rfl) r dX6_readPeople_44 ⟨rfl, rfl⟩
abbrev rmX6_readFors : Room := { frames := 1, cells := 0, slots := 0, locals := 20 }
def fX6_readFors_L8 (N : Nat) (x1 : Int32) (va0_length : Int32) (va0_letters : Nat → Int32) (va0_read_people : Int32) : Nat → Int32 → Int32 → Int32 → (Nat → Int32) → Option ((Int32 × Int32 × (Nat → Int32)) ⊕ (Int32 × Int32 × Int32 × (Nat → Int32)))
  | 0, _, _, _, _ => none
  | n + 1, x2, x3, va0_place, va0_read_now_fors =>
    if 6 ≤ x3 then
    some (.inr (x2, x3, va0_place, va0_read_now_fors))
    else
    bnd (fX6_digitHere N va0_length va0_place va0_letters) fun o4 =>
    if o4 < x2 then
    some (.inl (0, va0_place, va0_read_now_fors))
    else
    if o4 < va0_read_people then
    ixb x1 5 fun κ8 =>
    ixb x1 5 fun κ9 =>
    bnd (fX6_skipBlanks N va0_length (va0_place + 1) va0_letters) fun o10 =>
    bnd (fX6_digitHere N va0_length o10 va0_letters) fun o12 =>
    if 0 ≤ o12 then
    fX6_readFors_L8 N x1 va0_length va0_letters va0_read_people n (o4 + 1) (x3 + 1) o10 (upd va0_read_now_fors κ9 ((va0_read_now_fors κ8) ||| (1 <<< (o4 &&& 31))))
    else
    some (.inr ((o4 + 1), x3, o10, (upd va0_read_now_fors κ9 ((va0_read_now_fors κ8) ||| (1 <<< (o4 &&& 31))))))
    else
    some (.inl (0, va0_place, va0_read_now_fors))
set_option maxHeartbeats 4000000 in
set_option maxRecDepth 100000 in
theorem wX6_readFors_L8 {E : Ev} {K : KX} (k : OKX E K cX6_readFors RX6 5 rmX6_readFors) (N : Nat) (a0 : Nat) (a0_letters : Nat) (a0_read : Nat) (a0_read_kind : Nat) (a0_read_weight : Nat) (a0_read_now : Nat) (a0_read_now_ice : Nat) (a0_read_now_juice : Nat) (a0_read_now_fors : Nat) (x1 : Int32) (va0_length : Int32) (va0_letters : Nat → Int32) (va0_read_people : Int32) (va0_number : Int32) (va0_read_cells : Int32) (va0_read_sayings : Int32) (va0_read_frost : Int32) (va0_read_now_boat : Int32) (va0_read_now_minute : Int32) (va0_read_now_draw : Int32) {out : Int32 × Int32 × (Nat → Int32)} (r : RTX E K 0 0 (some .boolean) (Pe (some (.int out.1)) [(a0, oB 6 [.ref a0_letters, .ref a0_read, .int va0_length, .int out.2.1, .int va0_number]), (a0_letters, aC E 110 va0_letters), (a0_read, oB 0 [.ref a0_read_kind, .ref a0_read_weight, .ref a0_read_now, .int va0_read_cells, .int va0_read_people, .int va0_read_sayings, .int va0_read_frost]), (a0_read_now, oB 3 [.ref a0_read_now_ice, .ref a0_read_now_juice, .ref a0_read_now_fors, .int va0_read_now_boat, .int va0_read_now_minute, .int va0_read_now_draw]), (a0_read_now_fors, aI E 5 out.2.2)])) : ∀ (n : Nat) (x2 : Int32) (x3 : Int32) (va0_place : Int32) (va0_read_now_fors : Nat → Int32) (o : (Int32 × Int32 × (Nat → Int32)) ⊕ (Int32 × Int32 × Int32 × (Nat → Int32))), fX6_readFors_L8 N x1 va0_length va0_letters va0_read_people n x2 x3 va0_place va0_read_now_fors = some o → (∀ w, o = .inl w → w = out) → (∀ v, o = .inr v → G E K 5 0 0 [(0, .ref a0), (1, .int x1), (2, .int v.1), (3, .int v.2.1)] [] [(a0, oB 6 [.ref a0_letters, .ref a0_read, .int va0_length, .int v.2.2.1, .int va0_number]), (a0_letters, aC E 110 va0_letters), (a0_read, oB 0 [.ref a0_read_kind, .ref a0_read_weight, .ref a0_read_now, .int va0_read_cells, .int va0_read_people, .int va0_read_sayings, .int va0_read_frost]), (a0_read_now, oB 3 [.ref a0_read_now_ice, .ref a0_read_now_juice, .ref a0_read_now_fors, .int va0_read_now_boat, .int va0_read_now_minute, .int va0_read_now_draw]), (a0_read_now_fors, aI E 5 v.2.2.2)] 94) → G E K 5 0 0 [(0, .ref a0), (1, .int x1), (2, .int x2), (3, .int x3)] [] [(a0, oB 6 [.ref a0_letters, .ref a0_read, .int va0_length, .int va0_place, .int va0_number]), (a0_letters, aC E 110 va0_letters), (a0_read, oB 0 [.ref a0_read_kind, .ref a0_read_weight, .ref a0_read_now, .int va0_read_cells, .int va0_read_people, .int va0_read_sayings, .int va0_read_frost]), (a0_read_now, oB 3 [.ref a0_read_now_ice, .ref a0_read_now_juice, .ref a0_read_now_fors, .int va0_read_now_boat, .int va0_read_now_minute, .int va0_read_now_draw]), (a0_read_now_fors, aI E 5 va0_read_now_fors)] 8 := by
  intro n
  induction n with
  | zero => intro x2 x3 va0_place va0_read_now_fors o hf; cases hf
  | succ n ih =>
    intro x2 x3 va0_place va0_read_now_fors o hf hr hG
    rw [fX6_readFors_L8] at hf
    refine g_iload_n k 3 dX6_readFors_8 rfl rfl ?_
    refine g_bipush k dX6_readFors_9 bi_6 ?_
    refine g_icmp_ge k (tgt := 94) dX6_readFors_11 (by decide) (fun c3 => ?_) (fun c3 => ?_)
    · replace hf := ite_t c3 hf
      refine g_lv [0, 1, 2, 3] rfl ?_
      obtain rfl := Option.some.inj hf
      exact hG _ rfl
    · replace hf := ite_f c3 hf
      refine g_aload_n k 0 dX6_readFors_14 rfl rfl ?_
      obtain ⟨o4, ho5, hf⟩ := bnd_some hf
      refine g_cv k miX6_digitHere mvX6_digitHere (ctX6_digitHere (kL K) E N a0 a0_letters a0_read va0_length va0_place va0_number va0_letters  o4 ho5) [0, 1] 0 (ws' := [(a0, oB 6 [.ref a0_letters, .ref a0_read, .int va0_length, .int va0_place, .int va0_number]), (a0_letters, aC E 110 va0_letters), (a0_read, oB 0 [.ref a0_read_kind, .ref a0_read_weight, .ref a0_read_now, .int va0_read_cells, .int va0_read_people, .int va0_read_sayings, .int va0_read_frost]), (a0_read_now, oB 3 [.ref a0_read_now_ice, .ref a0_read_now_juice, .ref a0_read_now_fors, .int va0_read_now_boat, .int va0_read_now_minute, .int va0_read_now_draw]), (a0_read_now_fors, aI E 5 va0_read_now_fors)]) dX6_readFors_15 lkX6_92 rfl ⟨rfl, rfl⟩ ⟨by decide, by decide⟩ rfl rfl rfl rfl (Nat.le_of_ble_eq_true rfl) rfl rfl rfl ?_
      refine g_st (st' := [.int o4]) rfl ?_
      refine g_istore k (lv' := [(4, .int o4), (0, .ref a0), (1, .int x1), (2, .int x2), (3, .int x3)]) dX6_readFors_18 (by decide) rfl ?_
      refine g_iload k 0 dX6_readFors_20 rfl ?_
      refine g_iload_n k 3 dX6_readFors_22 rfl rfl ?_
      refine g_icmp_lt k (tgt := 38) dX6_readFors_23 (by decide) (fun c6 => ?_) (fun c6 => ?_)
      · replace hf := ite_t c6 hf
        refine g_iconst k dX6_readFors_38 ic_0 ?_
        obtain rfl := Option.some.inj hf
        obtain rfl := hr _ rfl
        exact g_zret k (rfl) r dX6_readFors_39 ⟨rfl, rfl⟩
      · replace hf := ite_f c6 hf
        refine g_iload k 0 dX6_readFors_26 rfl ?_
        refine g_aload_n k 1 dX6_readFors_28 rfl rfl ?_
        refine g_get k cfX6 1 0 dX6_readFors_29 lkX6_18 (by decide) rfl rfl ?_
        refine g_get k cfX0 4 2 dX6_readFors_32 lkX6_35 (by decide) rfl rfl ?_
        refine g_icmp_lt k (tgt := 40) dX6_readFors_35 (by decide) (fun c7 => ?_) (fun c7 => ?_)
        · replace hf := ite_t c7 hf
          refine g_aload_n k 1 dX6_readFors_40 rfl rfl ?_
          refine g_get k cfX6 1 0 dX6_readFors_41 lkX6_18 (by decide) rfl rfl ?_
          refine g_get k cfX0 2 2 dX6_readFors_44 lkX6_54 (by decide) rfl rfl ?_
          refine g_get k cfX3 2 3 dX6_readFors_47 lkX6_109 (by decide) rfl rfl ?_
          refine g_iload_n k 2 dX6_readFors_50 rfl rfl ?_
          refine g_dup2 k dX6_readFors_51 rfl rfl ?_
          obtain ⟨κ8, hκ8, hiκ8, heκ8, hf⟩ := ixb_some hf
          refine g_iaload k 4 dX6_readFors_52 rfl hiκ8 heκ8 ?_
          refine g_iconst k dX6_readFors_53 ic_1 ?_
          refine g_iload k 0 dX6_readFors_54 rfl ?_
          refine g_ishl k dX6_readFors_56 ?_
          refine g_ior k dX6_readFors_57 ?_
          obtain ⟨κ9, hκ9, hiκ9, heκ9, hf⟩ := ixb_some hf
          refine g_iastore k 4 (ws' := [(a0, oB 6 [.ref a0_letters, .ref a0_read, .int va0_length, .int va0_place, .int va0_number]), (a0_letters, aC E 110 va0_letters), (a0_read, oB 0 [.ref a0_read_kind, .ref a0_read_weight, .ref a0_read_now, .int va0_read_cells, .int va0_read_people, .int va0_read_sayings, .int va0_read_frost]), (a0_read_now, oB 3 [.ref a0_read_now_ice, .ref a0_read_now_juice, .ref a0_read_now_fors, .int va0_read_now_boat, .int va0_read_now_minute, .int va0_read_now_draw]), (a0_read_now_fors, aI E 5 (upd va0_read_now_fors κ9 ((va0_read_now_fors κ8) ||| (1 <<< (o4 &&& 31)))))]) dX6_readFors_58 rfl hiκ9 heκ9 rfl ?_
          refine g_iload k 0 dX6_readFors_59 rfl ?_
          refine g_iconst k dX6_readFors_61 ic_1 ?_
          refine g_iadd k dX6_readFors_62 ?_
          refine g_istore_n k (lv' := [(2, .int (o4 + 1)), (4, .int o4), (0, .ref a0), (1, .int x1), (3, .int x3)]) dX6_readFors_63 rfl (by decide) rfl ?_
          refine g_aload_n k 2 dX6_readFors_64 rfl rfl ?_
          refine g_dup k dX6_readFors_65 rfl ?_
          refine g_get k cfX6 3 0 dX6_readFors_66 lkX6_26 (by decide) rfl rfl ?_
          refine g_iconst k dX6_readFors_69 ic_1 ?_
          refine g_iadd k dX6_readFors_70 ?_
          refine g_put k cfX6 3 0 (ws' := [(a0, oB 6 [.ref a0_letters, .ref a0_read, .int va0_length, .int (va0_place + 1), .int va0_number]), (a0_letters, aC E 110 va0_letters), (a0_read, oB 0 [.ref a0_read_kind, .ref a0_read_weight, .ref a0_read_now, .int va0_read_cells, .int va0_read_people, .int va0_read_sayings, .int va0_read_frost]), (a0_read_now, oB 3 [.ref a0_read_now_ice, .ref a0_read_now_juice, .ref a0_read_now_fors, .int va0_read_now_boat, .int va0_read_now_minute, .int va0_read_now_draw]), (a0_read_now_fors, aI E 5 (upd va0_read_now_fors κ9 ((va0_read_now_fors κ8) ||| (1 <<< (o4 &&& 31)))))]) dX6_readFors_71 lkX6_26 (by decide) rfl rfl rfl rfl (Nat.le_of_ble_eq_true rfl) rfl ?_
          refine g_aload_n k 2 dX6_readFors_74 rfl rfl ?_
          obtain ⟨o10, ho11, hf⟩ := bnd_some hf
          refine g_cv k miX6_skipBlanks mvX6_skipBlanks (ctX6_skipBlanks (kL K) E N a0 a0_letters a0_read va0_length (va0_place + 1) va0_number va0_letters  o10 ho11) [0, 1] 0 (ws' := [(a0, oB 6 [.ref a0_letters, .ref a0_read, .int va0_length, .int o10, .int va0_number]), (a0_letters, aC E 110 va0_letters), (a0_read, oB 0 [.ref a0_read_kind, .ref a0_read_weight, .ref a0_read_now, .int va0_read_cells, .int va0_read_people, .int va0_read_sayings, .int va0_read_frost]), (a0_read_now, oB 3 [.ref a0_read_now_ice, .ref a0_read_now_juice, .ref a0_read_now_fors, .int va0_read_now_boat, .int va0_read_now_minute, .int va0_read_now_draw]), (a0_read_now_fors, aI E 5 (upd va0_read_now_fors κ9 ((va0_read_now_fors κ8) ||| (1 <<< (o4 &&& 31)))))]) dX6_readFors_75 lkX6_82 rfl ⟨rfl, rfl⟩ ⟨by decide, by decide⟩ rfl rfl rfl rfl (Nat.le_of_ble_eq_true rfl) rfl rfl rfl ?_
          refine g_st (st' := []) rfl ?_
          refine g_aload_n k 2 dX6_readFors_78 rfl rfl ?_
          obtain ⟨o12, ho13, hf⟩ := bnd_some hf
          refine g_cv k miX6_digitHere mvX6_digitHere (ctX6_digitHere (kL K) E N a0 a0_letters a0_read va0_length o10 va0_number va0_letters  o12 ho13) [0, 1] 0 (ws' := [(a0, oB 6 [.ref a0_letters, .ref a0_read, .int va0_length, .int o10, .int va0_number]), (a0_letters, aC E 110 va0_letters), (a0_read, oB 0 [.ref a0_read_kind, .ref a0_read_weight, .ref a0_read_now, .int va0_read_cells, .int va0_read_people, .int va0_read_sayings, .int va0_read_frost]), (a0_read_now, oB 3 [.ref a0_read_now_ice, .ref a0_read_now_juice, .ref a0_read_now_fors, .int va0_read_now_boat, .int va0_read_now_minute, .int va0_read_now_draw]), (a0_read_now_fors, aI E 5 (upd va0_read_now_fors κ9 ((va0_read_now_fors κ8) ||| (1 <<< (o4 &&& 31)))))]) dX6_readFors_79 lkX6_92 rfl ⟨rfl, rfl⟩ ⟨by decide, by decide⟩ rfl rfl rfl rfl (Nat.le_of_ble_eq_true rfl) rfl rfl rfl ?_
          refine g_st (st' := [.int o12]) rfl ?_
          refine g_if_ge k (tgt := 88) dX6_readFors_82 (by decide) (fun c14 => ?_) (fun c14 => ?_)
          · replace hf := ite_t c14 hf
            refine g_iinc k (lv' := [(3, .int (x3 + 1)), (2, .int (o4 + 1)), (4, .int o4), (0, .ref a0), (1, .int x1)]) 4 dX6_readFors_88 rfl (ii_1 _) (by decide) rfl ?_
            refine g_goto k (tgt := 8) dX6_readFors_91 (by decide) ?_
            refine g_lv [3, 4, 1, 0] rfl ?_
            exact ih (o4 + 1) (x3 + 1) o10 (upd va0_read_now_fors κ9 ((va0_read_now_fors κ8) ||| (1 <<< (o4 &&& 31)))) o hf hr hG
          · replace hf := ite_f c14 hf
            refine g_goto k (tgt := 94) dX6_readFors_85 (by decide) ?_
            refine g_lv [2, 3, 0, 4] rfl ?_
            obtain rfl := Option.some.inj hf
            exact hG _ rfl
        · replace hf := ite_f c7 hf
          refine g_iconst k dX6_readFors_38 ic_0 ?_
          obtain rfl := Option.some.inj hf
          obtain rfl := hr _ rfl
          exact g_zret k (rfl) r dX6_readFors_39 ⟨rfl, rfl⟩
def fX6_readFors (N : Nat) (va0_length : Int32) (va0_place : Int32) (va0_letters : Nat → Int32) (va0_read_people : Int32) (va0_read_now_fors : Nat → Int32) (x1 : Int32) : Option (Int32 × Int32 × (Nat → Int32)) :=
  bnd (fX6_skipBlanks N va0_length va0_place va0_letters) fun o1 =>
  bnd (fX6_readFors_L8 N x1 va0_length va0_letters va0_read_people N 0 0 o1 va0_read_now_fors) fun o15 => lret o15 fun v17 =>
  some (1, v17.2.2.1, v17.2.2.2)
set_option maxHeartbeats 4000000 in
set_option maxRecDepth 100000 in
theorem ctX6_readFors (l : Launch) (E : Ev) (N : Nat) (a0 : Nat) (a0_letters : Nat) (a0_read : Nat) (a0_read_kind : Nat) (a0_read_weight : Nat) (a0_read_now : Nat) (a0_read_now_ice : Nat) (a0_read_now_juice : Nat) (a0_read_now_fors : Nat) (va0_length : Int32) (va0_place : Int32) (va0_number : Int32) (va0_letters : Nat → Int32) (va0_read_cells : Int32) (va0_read_people : Int32) (va0_read_sayings : Int32) (va0_read_frost : Int32) (va0_read_now_boat : Int32) (va0_read_now_minute : Int32) (va0_read_now_draw : Int32) (va0_read_now_fors : Nat → Int32) (x1 : Int32) (out : Int32 × Int32 × (Nat → Int32)) (hf : fX6_readFors N va0_length va0_place va0_letters va0_read_people va0_read_now_fors x1 = some out) : Ct l E yX6_readFors cX6_readFors 5 (some .boolean) rmX6_readFors [.ref a0, .int x1] [(a0, oB 6 [.ref a0_letters, .ref a0_read, .int va0_length, .int va0_place, .int va0_number]), (a0_letters, aC E 110 va0_letters), (a0_read, oB 0 [.ref a0_read_kind, .ref a0_read_weight, .ref a0_read_now, .int va0_read_cells, .int va0_read_people, .int va0_read_sayings, .int va0_read_frost]), (a0_read_now, oB 3 [.ref a0_read_now_ice, .ref a0_read_now_juice, .ref a0_read_now_fors, .int va0_read_now_boat, .int va0_read_now_minute, .int va0_read_now_draw]), (a0_read_now_fors, aI E 5 va0_read_now_fors)] (Pe (some (.int out.1)) [(a0, oB 6 [.ref a0_letters, .ref a0_read, .int va0_length, .int out.2.1, .int va0_number]), (a0_letters, aC E 110 va0_letters), (a0_read, oB 0 [.ref a0_read_kind, .ref a0_read_weight, .ref a0_read_now, .int va0_read_cells, .int va0_read_people, .int va0_read_sayings, .int va0_read_frost]), (a0_read_now, oB 3 [.ref a0_read_now_ice, .ref a0_read_now_juice, .ref a0_read_now_fors, .int va0_read_now_boat, .int va0_read_now_minute, .int va0_read_now_draw]), (a0_read_now_fors, aI E 5 out.2.2)]) := by
  refine Ct.of rfl (Nat.le_of_ble_eq_true rfl) (fun K hL k r hin => ?_)
  subst hL
  unfold fX6_readFors at hf
  show G E K 5 0 0 [(0, .ref a0), (1, .int x1)] [] [(a0, oB 6 [.ref a0_letters, .ref a0_read, .int va0_length, .int va0_place, .int va0_number]), (a0_letters, aC E 110 va0_letters), (a0_read, oB 0 [.ref a0_read_kind, .ref a0_read_weight, .ref a0_read_now, .int va0_read_cells, .int va0_read_people, .int va0_read_sayings, .int va0_read_frost]), (a0_read_now, oB 3 [.ref a0_read_now_ice, .ref a0_read_now_juice, .ref a0_read_now_fors, .int va0_read_now_boat, .int va0_read_now_minute, .int va0_read_now_draw]), (a0_read_now_fors, aI E 5 va0_read_now_fors)] 0
  refine g_iconst k dX6_readFors_0 ic_0 ?_
  refine g_istore_n k (lv' := [(2, .int 0), (0, .ref a0), (1, .int x1)]) dX6_readFors_1 rfl (by decide) rfl ?_
  refine g_aload_n k 1 dX6_readFors_2 rfl rfl ?_
  obtain ⟨o1, ho2, hf⟩ := bnd_some hf
  refine g_cv k miX6_skipBlanks mvX6_skipBlanks (ctX6_skipBlanks (kL K) E N a0 a0_letters a0_read va0_length va0_place va0_number va0_letters  o1 ho2) [0, 1] 0 (ws' := [(a0, oB 6 [.ref a0_letters, .ref a0_read, .int va0_length, .int o1, .int va0_number]), (a0_letters, aC E 110 va0_letters), (a0_read, oB 0 [.ref a0_read_kind, .ref a0_read_weight, .ref a0_read_now, .int va0_read_cells, .int va0_read_people, .int va0_read_sayings, .int va0_read_frost]), (a0_read_now, oB 3 [.ref a0_read_now_ice, .ref a0_read_now_juice, .ref a0_read_now_fors, .int va0_read_now_boat, .int va0_read_now_minute, .int va0_read_now_draw]), (a0_read_now_fors, aI E 5 va0_read_now_fors)]) dX6_readFors_3 lkX6_82 rfl ⟨rfl, rfl⟩ ⟨by decide, by decide⟩ rfl rfl rfl rfl (Nat.le_of_ble_eq_true rfl) rfl rfl rfl ?_
  refine g_st (st' := []) rfl ?_
  refine g_iconst k dX6_readFors_6 ic_0 ?_
  refine g_istore_n k (lv' := [(3, .int 0), (2, .int 0), (0, .ref a0), (1, .int x1)]) dX6_readFors_7 rfl (by decide) rfl ?_
  obtain ⟨o15, ho16, hf⟩ := bnd_some hf
  refine g_lv [2, 3, 1, 0] (lv' := [(0, .ref a0), (1, .int x1), (2, .int 0), (3, .int 0)]) rfl ?_
  refine wX6_readFors_L8 k N a0 a0_letters a0_read a0_read_kind a0_read_weight a0_read_now a0_read_now_ice a0_read_now_juice a0_read_now_fors  x1 va0_length va0_letters va0_read_people va0_number va0_read_cells va0_read_sayings va0_read_frost va0_read_now_boat va0_read_now_minute va0_read_now_draw r N 0 0 o1 va0_read_now_fors o15 ho16 (fun w e => by subst e; exact Option.some.inj hf) (fun v17 e => ?_)
  subst e
  replace hf := lret_r hf
  refine g_iconst k dX6_readFors_94 ic_1 ?_
  obtain rfl := Option.some.inj hf
  exact g_zret k (rfl) r dX6_readFors_95 ⟨rfl, rfl⟩
abbrev rmX6_readSayings : Room := { frames := 2, cells := 0, slots := 0, locals := 44 }
def fX6_readSayings_L2 (N : Nat) (va0_length : Int32) (va0_letters : Nat → Int32) (va0_read_people : Int32) : Nat → Int32 → Int32 → Int32 → Int32 → (Nat → Int32) → (Nat → Int32) → Option ((Int32 × Int32 × Int32 × Int32 × (Nat → Int32) × (Nat → Int32)) ⊕ (Int32 × Int32 × Int32 × Int32 × (Nat → Int32) × (Nat → Int32)))
  | 0, _, _, _, _, _, _ => none
  | n + 1, x1, va0_place, va0_number, va0_read_sayings, va0_read_now_juice, va0_read_now_fors =>
    if 5 ≤ x1 then
    some (.inr (x1, va0_place, va0_number, va0_read_sayings, va0_read_now_juice, va0_read_now_fors))
    else
    bnd (fX6_readNumber N va0_length va0_place va0_number va0_letters 20) fun o2 =>
    if o2.1 = 0 then
    some (.inl (0, o2.2.1, o2.2.2, va0_read_sayings, va0_read_now_juice, va0_read_now_fors))
    else
    bnd (fX0_addSaying N va0_read_sayings va0_read_now_juice va0_read_now_fors o2.2.2 0) fun o5 =>
    bnd (fX6_readLetter N va0_length o2.2.1 va0_letters 58) fun o7 =>
    if o7.1 = 0 then
    if (x1 + 1) = 5 then
    some (.inr (x1, o7.2, o2.2.2, o5.2.1, o5.2.2.1, o5.2.2.2))
    else
    bnd (fX6_readLetter N va0_length o7.2 va0_letters 44) fun o11 =>
    if o11.1 = 0 then
    some (.inr (x1, o11.2, o2.2.2, o5.2.1, o5.2.2.1, o5.2.2.2))
    else
    fX6_readSayings_L2 N va0_length va0_letters va0_read_people n (x1 + 1) o11.2 o2.2.2 o5.2.1 o5.2.2.1 o5.2.2.2
    else
    bnd (fX6_readFors N va0_length o7.2 va0_letters va0_read_people o5.2.2.2 x1) fun o14 =>
    if o14.1 = 0 then
    some (.inl (0, o14.2.1, o2.2.2, o5.2.1, o5.2.2.1, o14.2.2))
    else
    if (x1 + 1) = 5 then
    some (.inr (x1, o14.2.1, o2.2.2, o5.2.1, o5.2.2.1, o14.2.2))
    else
    bnd (fX6_readLetter N va0_length o14.2.1 va0_letters 44) fun o18 =>
    if o18.1 = 0 then
    some (.inr (x1, o18.2, o2.2.2, o5.2.1, o5.2.2.1, o14.2.2))
    else
    fX6_readSayings_L2 N va0_length va0_letters va0_read_people n (x1 + 1) o18.2 o2.2.2 o5.2.1 o5.2.2.1 o14.2.2
set_option maxHeartbeats 4000000 in
set_option maxRecDepth 100000 in
theorem wX6_readSayings_L2 {E : Ev} {K : KX} (k : OKX E K cX6_readSayings RX6 2 rmX6_readSayings) (N : Nat) (a0 : Nat) (a0_letters : Nat) (a0_read : Nat) (a0_read_kind : Nat) (a0_read_weight : Nat) (a0_read_now : Nat) (a0_read_now_ice : Nat) (a0_read_now_juice : Nat) (a0_read_now_fors : Nat) (va0_length : Int32) (va0_letters : Nat → Int32) (va0_read_people : Int32) (va0_read_cells : Int32) (va0_read_frost : Int32) (va0_read_now_boat : Int32) (va0_read_now_minute : Int32) (va0_read_now_draw : Int32) {out : Int32 × Int32 × Int32 × Int32 × (Nat → Int32) × (Nat → Int32)} (r : RTX E K 0 0 (some .boolean) (Pe (some (.int out.1)) [(a0, oB 6 [.ref a0_letters, .ref a0_read, .int va0_length, .int out.2.1, .int out.2.2.1]), (a0_letters, aC E 110 va0_letters), (a0_read, oB 0 [.ref a0_read_kind, .ref a0_read_weight, .ref a0_read_now, .int va0_read_cells, .int va0_read_people, .int out.2.2.2.1, .int va0_read_frost]), (a0_read_now, oB 3 [.ref a0_read_now_ice, .ref a0_read_now_juice, .ref a0_read_now_fors, .int va0_read_now_boat, .int va0_read_now_minute, .int va0_read_now_draw]), (a0_read_now_juice, aI E 5 out.2.2.2.2.1), (a0_read_now_fors, aI E 5 out.2.2.2.2.2)])) : ∀ (n : Nat) (x1 : Int32) (va0_place : Int32) (va0_number : Int32) (va0_read_sayings : Int32) (va0_read_now_juice : Nat → Int32) (va0_read_now_fors : Nat → Int32) (o : (Int32 × Int32 × Int32 × Int32 × (Nat → Int32) × (Nat → Int32)) ⊕ (Int32 × Int32 × Int32 × Int32 × (Nat → Int32) × (Nat → Int32))), fX6_readSayings_L2 N va0_length va0_letters va0_read_people n x1 va0_place va0_number va0_read_sayings va0_read_now_juice va0_read_now_fors = some o → (∀ w, o = .inl w → w = out) → (∀ v, o = .inr v → G E K 2 0 0 [(0, .ref a0), (1, .int v.1)] [] [(a0, oB 6 [.ref a0_letters, .ref a0_read, .int va0_length, .int v.2.1, .int v.2.2.1]), (a0_letters, aC E 110 va0_letters), (a0_read, oB 0 [.ref a0_read_kind, .ref a0_read_weight, .ref a0_read_now, .int va0_read_cells, .int va0_read_people, .int v.2.2.2.1, .int va0_read_frost]), (a0_read_now, oB 3 [.ref a0_read_now_ice, .ref a0_read_now_juice, .ref a0_read_now_fors, .int va0_read_now_boat, .int va0_read_now_minute, .int va0_read_now_draw]), (a0_read_now_juice, aI E 5 v.2.2.2.2.1), (a0_read_now_fors, aI E 5 v.2.2.2.2.2)] 75) → G E K 2 0 0 [(0, .ref a0), (1, .int x1)] [] [(a0, oB 6 [.ref a0_letters, .ref a0_read, .int va0_length, .int va0_place, .int va0_number]), (a0_letters, aC E 110 va0_letters), (a0_read, oB 0 [.ref a0_read_kind, .ref a0_read_weight, .ref a0_read_now, .int va0_read_cells, .int va0_read_people, .int va0_read_sayings, .int va0_read_frost]), (a0_read_now, oB 3 [.ref a0_read_now_ice, .ref a0_read_now_juice, .ref a0_read_now_fors, .int va0_read_now_boat, .int va0_read_now_minute, .int va0_read_now_draw]), (a0_read_now_juice, aI E 5 va0_read_now_juice), (a0_read_now_fors, aI E 5 va0_read_now_fors)] 2 := by
  intro n
  induction n with
  | zero => intro x1 va0_place va0_number va0_read_sayings va0_read_now_juice va0_read_now_fors o hf; cases hf
  | succ n ih =>
    intro x1 va0_place va0_number va0_read_sayings va0_read_now_juice va0_read_now_fors o hf hr hG
    rw [fX6_readSayings_L2] at hf
    refine g_iload_n k 1 dX6_readSayings_2 rfl rfl ?_
    refine g_iconst k dX6_readSayings_3 ic_5 ?_
    refine g_icmp_ge k (tgt := 75) dX6_readSayings_4 (by decide) (fun c1 => ?_) (fun c1 => ?_)
    · replace hf := ite_t c1 hf
      refine g_lv [0, 1] rfl ?_
      obtain rfl := Option.some.inj hf
      exact hG _ rfl
    · replace hf := ite_f c1 hf
      refine g_aload_n k 0 dX6_readSayings_7 rfl rfl ?_
      refine g_bipush k dX6_readSayings_8 bi_20 ?_
      obtain ⟨o2, ho3, hf⟩ := bnd_some hf
      refine g_cv k miX6_readNumber mvX6_readNumber (ctX6_readNumber (kL K) E N a0 a0_letters a0_read va0_length va0_place va0_number va0_letters 20 o2 ho3) [0, 1] 0 (ws' := [(a0, oB 6 [.ref a0_letters, .ref a0_read, .int va0_length, .int o2.2.1, .int o2.2.2]), (a0_letters, aC E 110 va0_letters), (a0_read, oB 0 [.ref a0_read_kind, .ref a0_read_weight, .ref a0_read_now, .int va0_read_cells, .int va0_read_people, .int va0_read_sayings, .int va0_read_frost]), (a0_read_now, oB 3 [.ref a0_read_now_ice, .ref a0_read_now_juice, .ref a0_read_now_fors, .int va0_read_now_boat, .int va0_read_now_minute, .int va0_read_now_draw]), (a0_read_now_juice, aI E 5 va0_read_now_juice), (a0_read_now_fors, aI E 5 va0_read_now_fors)]) dX6_readSayings_10 lkX6_67 rfl ⟨rfl, rfl⟩ ⟨by decide, by decide⟩ rfl rfl rfl rfl (Nat.le_of_ble_eq_true rfl) rfl rfl rfl ?_
      refine g_st (st' := [.int o2.1]) rfl ?_
      refine g_if_ne k (tgt := 18) dX6_readSayings_13 (by decide) (fun c4 => ?_) (fun c4 => ?_)
      · replace hf := ite_f c4 hf
        refine g_aload_n k 0 dX6_readSayings_18 rfl rfl ?_
        refine g_get k cfX6 1 0 dX6_readSayings_19 lkX6_18 (by decide) rfl rfl ?_
        refine g_aload_n k 0 dX6_readSayings_22 rfl rfl ?_
        refine g_get k cfX6 4 0 dX6_readSayings_23 lkX6_29 (by decide) rfl rfl ?_
        refine g_iconst k dX6_readSayings_26 ic_0 ?_
        obtain ⟨o5, ho6, hf⟩ := bnd_some hf
        refine g_cv k miX0_addSaying mvX0_addSaying (ctX0_addSaying (kL K) E N a0_read a0_read_kind a0_read_weight a0_read_now a0_read_now_ice a0_read_now_juice a0_read_now_fors va0_read_cells va0_read_people va0_read_sayings va0_read_frost va0_read_now_boat va0_read_now_minute va0_read_now_draw va0_read_now_juice va0_read_now_fors o2.2.2 0 o5 ho6) [2, 3, 4, 5] 0 (ws' := [(a0, oB 6 [.ref a0_letters, .ref a0_read, .int va0_length, .int o2.2.1, .int o2.2.2]), (a0_letters, aC E 110 va0_letters), (a0_read, oB 0 [.ref a0_read_kind, .ref a0_read_weight, .ref a0_read_now, .int va0_read_cells, .int va0_read_people, .int o5.2.1, .int va0_read_frost]), (a0_read_now, oB 3 [.ref a0_read_now_ice, .ref a0_read_now_juice, .ref a0_read_now_fors, .int va0_read_now_boat, .int va0_read_now_minute, .int va0_read_now_draw]), (a0_read_now_juice, aI E 5 o5.2.2.1), (a0_read_now_fors, aI E 5 o5.2.2.2)]) dX6_readSayings_27 lkX6_103 rfl ⟨rfl, rfl⟩ ⟨by decide, by decide⟩ rfl rfl rfl rfl (Nat.le_of_ble_eq_true rfl) rfl rfl rfl ?_
        refine g_st (st' := [.int o5.1]) rfl ?_
        refine g_pop k dX6_readSayings_30 rfl ?_
        refine g_aload_n k 0 dX6_readSayings_31 rfl rfl ?_
        refine g_bipush k dX6_readSayings_32 bi_58 ?_
        obtain ⟨o7, ho8, hf⟩ := bnd_some hf
        refine g_cv k miX6_readLetter mvX6_readLetter (ctX6_readLetter (kL K) E N a0 a0_letters a0_read va0_length o2.2.1 o2.2.2 va0_letters 58 o7 ho8) [0, 1] 0 (ws' := [(a0, oB 6 [.ref a0_letters, .ref a0_read, .int va0_length, .int o7.2, .int o2.2.2]), (a0_letters, aC E 110 va0_letters), (a0_read, oB 0 [.ref a0_read_kind, .ref a0_read_weight, .ref a0_read_now, .int va0_read_cells, .int va0_read_people, .int o5.2.1, .int va0_read_frost]), (a0_read_now, oB 3 [.ref a0_read_now_ice, .ref a0_read_now_juice, .ref a0_read_now_fors, .int va0_read_now_boat, .int va0_read_now_minute, .int va0_read_now_draw]), (a0_read_now_juice, aI E 5 o5.2.2.1), (a0_read_now_fors, aI E 5 o5.2.2.2)]) dX6_readSayings_34 lkX6_75 rfl ⟨rfl, rfl⟩ ⟨by decide, by decide⟩ rfl rfl rfl rfl (Nat.le_of_ble_eq_true rfl) rfl rfl rfl ?_
        refine g_st (st' := [.int o7.1]) rfl ?_
        refine g_if_eq k (tgt := 50) dX6_readSayings_37 (by decide) (fun c9 => ?_) (fun c9 => ?_)
        · replace hf := ite_t c9 hf
          refine g_iload_n k 1 dX6_readSayings_50 rfl rfl ?_
          refine g_iconst k dX6_readSayings_51 ic_1 ?_
          refine g_iadd k dX6_readSayings_52 ?_
          refine g_iconst k dX6_readSayings_53 ic_5 ?_
          refine g_icmp_eq k (tgt := 75) dX6_readSayings_54 (by decide) (fun c10 => ?_) (fun c10 => ?_)
          · replace hf := ite_t c10 hf
            refine g_lv [0, 1] rfl ?_
            obtain rfl := Option.some.inj hf
            exact hG _ rfl
          · replace hf := ite_f c10 hf
            refine g_aload_n k 0 dX6_readSayings_57 rfl rfl ?_
            refine g_bipush k dX6_readSayings_58 bi_44 ?_
            obtain ⟨o11, ho12, hf⟩ := bnd_some hf
            refine g_cv k miX6_readLetter mvX6_readLetter (ctX6_readLetter (kL K) E N a0 a0_letters a0_read va0_length o7.2 o2.2.2 va0_letters 44 o11 ho12) [0, 1] 0 (ws' := [(a0, oB 6 [.ref a0_letters, .ref a0_read, .int va0_length, .int o11.2, .int o2.2.2]), (a0_letters, aC E 110 va0_letters), (a0_read, oB 0 [.ref a0_read_kind, .ref a0_read_weight, .ref a0_read_now, .int va0_read_cells, .int va0_read_people, .int o5.2.1, .int va0_read_frost]), (a0_read_now, oB 3 [.ref a0_read_now_ice, .ref a0_read_now_juice, .ref a0_read_now_fors, .int va0_read_now_boat, .int va0_read_now_minute, .int va0_read_now_draw]), (a0_read_now_juice, aI E 5 o5.2.2.1), (a0_read_now_fors, aI E 5 o5.2.2.2)]) dX6_readSayings_60 lkX6_75 rfl ⟨rfl, rfl⟩ ⟨by decide, by decide⟩ rfl rfl rfl rfl (Nat.le_of_ble_eq_true rfl) rfl rfl rfl ?_
            refine g_st (st' := [.int o11.1]) rfl ?_
            refine g_if_ne k (tgt := 69) dX6_readSayings_63 (by decide) (fun c13 => ?_) (fun c13 => ?_)
            · replace hf := ite_f c13 hf
              refine g_iinc k (lv' := [(1, .int (x1 + 1)), (0, .ref a0)]) 1 dX6_readSayings_69 rfl (ii_1 _) (by decide) rfl ?_
              refine g_goto k (tgt := 2) dX6_readSayings_72 (by decide) ?_
              refine g_lv [1, 0] rfl ?_
              exact ih (x1 + 1) o11.2 o2.2.2 o5.2.1 o5.2.2.1 o5.2.2.2 o hf hr hG
            · replace hf := ite_t c13 hf
              refine g_goto k (tgt := 75) dX6_readSayings_66 (by decide) ?_
              refine g_lv [0, 1] rfl ?_
              obtain rfl := Option.some.inj hf
              exact hG _ rfl
        · replace hf := ite_f c9 hf
          refine g_aload_n k 0 dX6_readSayings_40 rfl rfl ?_
          refine g_iload_n k 1 dX6_readSayings_41 rfl rfl ?_
          obtain ⟨o14, ho15, hf⟩ := bnd_some hf
          refine g_cv k miX6_readFors mvX6_readFors (ctX6_readFors (kL K) E N a0 a0_letters a0_read a0_read_kind a0_read_weight a0_read_now a0_read_now_ice a0_read_now_juice a0_read_now_fors va0_length o7.2 o2.2.2 va0_letters va0_read_cells va0_read_people o5.2.1 va0_read_frost va0_read_now_boat va0_read_now_minute va0_read_now_draw o5.2.2.2 x1 o14 ho15) [0, 1, 2, 3, 5] 0 (ws' := [(a0, oB 6 [.ref a0_letters, .ref a0_read, .int va0_length, .int o14.2.1, .int o2.2.2]), (a0_letters, aC E 110 va0_letters), (a0_read, oB 0 [.ref a0_read_kind, .ref a0_read_weight, .ref a0_read_now, .int va0_read_cells, .int va0_read_people, .int o5.2.1, .int va0_read_frost]), (a0_read_now, oB 3 [.ref a0_read_now_ice, .ref a0_read_now_juice, .ref a0_read_now_fors, .int va0_read_now_boat, .int va0_read_now_minute, .int va0_read_now_draw]), (a0_read_now_juice, aI E 5 o5.2.2.1), (a0_read_now_fors, aI E 5 o14.2.2)]) dX6_readSayings_42 lkX6_106 rfl ⟨rfl, rfl⟩ ⟨by decide, by decide⟩ rfl rfl rfl rfl (Nat.le_of_ble_eq_true rfl) rfl rfl rfl ?_
          refine g_st (st' := [.int o14.1]) rfl ?_
          refine g_if_ne k (tgt := 50) dX6_readSayings_45 (by decide) (fun c16 => ?_) (fun c16 => ?_)
          · replace hf := ite_f c16 hf
            refine g_iload_n k 1 dX6_readSayings_50 rfl rfl ?_
            refine g_iconst k dX6_readSayings_51 ic_1 ?_
            refine g_iadd k dX6_readSayings_52 ?_
            refine g_iconst k dX6_readSayings_53 ic_5 ?_
            refine g_icmp_eq k (tgt := 75) dX6_readSayings_54 (by decide) (fun c17 => ?_) (fun c17 => ?_)
            · replace hf := ite_t c17 hf
              refine g_lv [0, 1] rfl ?_
              obtain rfl := Option.some.inj hf
              exact hG _ rfl
            · replace hf := ite_f c17 hf
              refine g_aload_n k 0 dX6_readSayings_57 rfl rfl ?_
              refine g_bipush k dX6_readSayings_58 bi_44 ?_
              obtain ⟨o18, ho19, hf⟩ := bnd_some hf
              refine g_cv k miX6_readLetter mvX6_readLetter (ctX6_readLetter (kL K) E N a0 a0_letters a0_read va0_length o14.2.1 o2.2.2 va0_letters 44 o18 ho19) [0, 1] 0 (ws' := [(a0, oB 6 [.ref a0_letters, .ref a0_read, .int va0_length, .int o18.2, .int o2.2.2]), (a0_letters, aC E 110 va0_letters), (a0_read, oB 0 [.ref a0_read_kind, .ref a0_read_weight, .ref a0_read_now, .int va0_read_cells, .int va0_read_people, .int o5.2.1, .int va0_read_frost]), (a0_read_now, oB 3 [.ref a0_read_now_ice, .ref a0_read_now_juice, .ref a0_read_now_fors, .int va0_read_now_boat, .int va0_read_now_minute, .int va0_read_now_draw]), (a0_read_now_juice, aI E 5 o5.2.2.1), (a0_read_now_fors, aI E 5 o14.2.2)]) dX6_readSayings_60 lkX6_75 rfl ⟨rfl, rfl⟩ ⟨by decide, by decide⟩ rfl rfl rfl rfl (Nat.le_of_ble_eq_true rfl) rfl rfl rfl ?_
              refine g_st (st' := [.int o18.1]) rfl ?_
              refine g_if_ne k (tgt := 69) dX6_readSayings_63 (by decide) (fun c20 => ?_) (fun c20 => ?_)
              · replace hf := ite_f c20 hf
                refine g_iinc k (lv' := [(1, .int (x1 + 1)), (0, .ref a0)]) 1 dX6_readSayings_69 rfl (ii_1 _) (by decide) rfl ?_
                refine g_goto k (tgt := 2) dX6_readSayings_72 (by decide) ?_
                refine g_lv [1, 0] rfl ?_
                exact ih (x1 + 1) o18.2 o2.2.2 o5.2.1 o5.2.2.1 o14.2.2 o hf hr hG
              · replace hf := ite_t c20 hf
                refine g_goto k (tgt := 75) dX6_readSayings_66 (by decide) ?_
                refine g_lv [0, 1] rfl ?_
                obtain rfl := Option.some.inj hf
                exact hG _ rfl
          · replace hf := ite_t c16 hf
            refine g_iconst k dX6_readSayings_48 ic_0 ?_
            obtain rfl := Option.some.inj hf
            obtain rfl := hr _ rfl
            exact g_zret k (rfl) r dX6_readSayings_49 ⟨rfl, rfl⟩
      · replace hf := ite_t c4 hf
        refine g_iconst k dX6_readSayings_16 ic_0 ?_
        obtain rfl := Option.some.inj hf
        obtain rfl := hr _ rfl
        exact g_zret k (rfl) r dX6_readSayings_17 ⟨rfl, rfl⟩
def fX6_readSayings (N : Nat) (va0_length : Int32) (va0_place : Int32) (va0_number : Int32) (va0_letters : Nat → Int32) (va0_read_people : Int32) (va0_read_sayings : Int32) (va0_read_now_juice : Nat → Int32) (va0_read_now_fors : Nat → Int32)  : Option (Int32 × Int32 × Int32 × Int32 × (Nat → Int32) × (Nat → Int32)) :=
  bnd (fX6_readSayings_L2 N va0_length va0_letters va0_read_people N 0 va0_place va0_number va0_read_sayings va0_read_now_juice va0_read_now_fors) fun o21 => lret o21 fun v23 =>
  some (1, v23.2.1, v23.2.2.1, v23.2.2.2.1, v23.2.2.2.2.1, v23.2.2.2.2.2)
set_option maxHeartbeats 4000000 in
set_option maxRecDepth 100000 in
theorem ctX6_readSayings (l : Launch) (E : Ev) (N : Nat) (a0 : Nat) (a0_letters : Nat) (a0_read : Nat) (a0_read_kind : Nat) (a0_read_weight : Nat) (a0_read_now : Nat) (a0_read_now_ice : Nat) (a0_read_now_juice : Nat) (a0_read_now_fors : Nat) (va0_length : Int32) (va0_place : Int32) (va0_number : Int32) (va0_letters : Nat → Int32) (va0_read_cells : Int32) (va0_read_people : Int32) (va0_read_sayings : Int32) (va0_read_frost : Int32) (va0_read_now_boat : Int32) (va0_read_now_minute : Int32) (va0_read_now_draw : Int32) (va0_read_now_juice : Nat → Int32) (va0_read_now_fors : Nat → Int32)  (out : Int32 × Int32 × Int32 × Int32 × (Nat → Int32) × (Nat → Int32)) (hf : fX6_readSayings N va0_length va0_place va0_number va0_letters va0_read_people va0_read_sayings va0_read_now_juice va0_read_now_fors  = some out) : Ct l E yX6_readSayings cX6_readSayings 2 (some .boolean) rmX6_readSayings [.ref a0] [(a0, oB 6 [.ref a0_letters, .ref a0_read, .int va0_length, .int va0_place, .int va0_number]), (a0_letters, aC E 110 va0_letters), (a0_read, oB 0 [.ref a0_read_kind, .ref a0_read_weight, .ref a0_read_now, .int va0_read_cells, .int va0_read_people, .int va0_read_sayings, .int va0_read_frost]), (a0_read_now, oB 3 [.ref a0_read_now_ice, .ref a0_read_now_juice, .ref a0_read_now_fors, .int va0_read_now_boat, .int va0_read_now_minute, .int va0_read_now_draw]), (a0_read_now_juice, aI E 5 va0_read_now_juice), (a0_read_now_fors, aI E 5 va0_read_now_fors)] (Pe (some (.int out.1)) [(a0, oB 6 [.ref a0_letters, .ref a0_read, .int va0_length, .int out.2.1, .int out.2.2.1]), (a0_letters, aC E 110 va0_letters), (a0_read, oB 0 [.ref a0_read_kind, .ref a0_read_weight, .ref a0_read_now, .int va0_read_cells, .int va0_read_people, .int out.2.2.2.1, .int va0_read_frost]), (a0_read_now, oB 3 [.ref a0_read_now_ice, .ref a0_read_now_juice, .ref a0_read_now_fors, .int va0_read_now_boat, .int va0_read_now_minute, .int va0_read_now_draw]), (a0_read_now_juice, aI E 5 out.2.2.2.2.1), (a0_read_now_fors, aI E 5 out.2.2.2.2.2)]) := by
  refine Ct.of rfl (Nat.le_of_ble_eq_true rfl) (fun K hL k r hin => ?_)
  subst hL
  unfold fX6_readSayings at hf
  show G E K 2 0 0 [(0, .ref a0)] [] [(a0, oB 6 [.ref a0_letters, .ref a0_read, .int va0_length, .int va0_place, .int va0_number]), (a0_letters, aC E 110 va0_letters), (a0_read, oB 0 [.ref a0_read_kind, .ref a0_read_weight, .ref a0_read_now, .int va0_read_cells, .int va0_read_people, .int va0_read_sayings, .int va0_read_frost]), (a0_read_now, oB 3 [.ref a0_read_now_ice, .ref a0_read_now_juice, .ref a0_read_now_fors, .int va0_read_now_boat, .int va0_read_now_minute, .int va0_read_now_draw]), (a0_read_now_juice, aI E 5 va0_read_now_juice), (a0_read_now_fors, aI E 5 va0_read_now_fors)] 0
  refine g_iconst k dX6_readSayings_0 ic_0 ?_
  refine g_istore_n k (lv' := [(1, .int 0), (0, .ref a0)]) dX6_readSayings_1 rfl (by decide) rfl ?_
  obtain ⟨o21, ho22, hf⟩ := bnd_some hf
  refine g_lv [1, 0] (lv' := [(0, .ref a0), (1, .int 0)]) rfl ?_
  refine wX6_readSayings_L2 k N a0 a0_letters a0_read a0_read_kind a0_read_weight a0_read_now a0_read_now_ice a0_read_now_juice a0_read_now_fors  va0_length va0_letters va0_read_people va0_read_cells va0_read_frost va0_read_now_boat va0_read_now_minute va0_read_now_draw r N 0 va0_place va0_number va0_read_sayings va0_read_now_juice va0_read_now_fors o21 ho22 (fun w e => by subst e; exact Option.some.inj hf) (fun v23 e => ?_)
  subst e
  replace hf := lret_r hf
  refine g_iconst k dX6_readSayings_75 ic_1 ?_
  obtain rfl := Option.some.inj hf
  exact g_zret k (rfl) r dX6_readSayings_76 ⟨rfl, rfl⟩
abbrev rmX6_readEnd : Room := { frames := 3, cells := 0, slots := 0, locals := 65 }
def fX6_readEnd (N : Nat) (va0_length : Int32) (va0_place : Int32) (va0_number : Int32) (va0_letters : Nat → Int32) (va0_read_people : Int32) (va0_read_sayings : Int32) (va0_read_now_juice : Nat → Int32) (va0_read_now_fors : Nat → Int32)  : Option (Int32 × Int32 × Int32 × Int32 × (Nat → Int32) × (Nat → Int32)) :=
  bnd (fX6_readLetter N va0_length va0_place va0_letters 59) fun o1 =>
  if o1.1 = 0 then
  bnd (fX6_skipBlanks N va0_length o1.2 va0_letters) fun o4 =>
  if o4 = va0_length then
  some (1, o4, va0_number, va0_read_sayings, va0_read_now_juice, va0_read_now_fors)
  else
  some (0, o4, va0_number, va0_read_sayings, va0_read_now_juice, va0_read_now_fors)
  else
  bnd (fX6_readSayings N va0_length o1.2 va0_number va0_letters va0_read_people va0_read_sayings va0_read_now_juice va0_read_now_fors) fun o7 =>
  if o7.1 = 0 then
  some (0, o7.2.1, o7.2.2.1, o7.2.2.2.1, o7.2.2.2.2.1, o7.2.2.2.2.2)
  else
  bnd (fX6_skipBlanks N va0_length o7.2.1 va0_letters) fun o10 =>
  if o10 = va0_length then
  some (1, o10, o7.2.2.1, o7.2.2.2.1, o7.2.2.2.2.1, o7.2.2.2.2.2)
  else
  some (0, o10, o7.2.2.1, o7.2.2.2.1, o7.2.2.2.2.1, o7.2.2.2.2.2)
set_option maxHeartbeats 4000000 in
set_option maxRecDepth 100000 in
theorem ctX6_readEnd (l : Launch) (E : Ev) (N : Nat) (a0 : Nat) (a0_letters : Nat) (a0_read : Nat) (a0_read_kind : Nat) (a0_read_weight : Nat) (a0_read_now : Nat) (a0_read_now_ice : Nat) (a0_read_now_juice : Nat) (a0_read_now_fors : Nat) (va0_length : Int32) (va0_place : Int32) (va0_number : Int32) (va0_letters : Nat → Int32) (va0_read_cells : Int32) (va0_read_people : Int32) (va0_read_sayings : Int32) (va0_read_frost : Int32) (va0_read_now_boat : Int32) (va0_read_now_minute : Int32) (va0_read_now_draw : Int32) (va0_read_now_juice : Nat → Int32) (va0_read_now_fors : Nat → Int32)  (out : Int32 × Int32 × Int32 × Int32 × (Nat → Int32) × (Nat → Int32)) (hf : fX6_readEnd N va0_length va0_place va0_number va0_letters va0_read_people va0_read_sayings va0_read_now_juice va0_read_now_fors  = some out) : Ct l E yX6_readEnd cX6_readEnd 1 (some .boolean) rmX6_readEnd [.ref a0] [(a0, oB 6 [.ref a0_letters, .ref a0_read, .int va0_length, .int va0_place, .int va0_number]), (a0_letters, aC E 110 va0_letters), (a0_read, oB 0 [.ref a0_read_kind, .ref a0_read_weight, .ref a0_read_now, .int va0_read_cells, .int va0_read_people, .int va0_read_sayings, .int va0_read_frost]), (a0_read_now, oB 3 [.ref a0_read_now_ice, .ref a0_read_now_juice, .ref a0_read_now_fors, .int va0_read_now_boat, .int va0_read_now_minute, .int va0_read_now_draw]), (a0_read_now_juice, aI E 5 va0_read_now_juice), (a0_read_now_fors, aI E 5 va0_read_now_fors)] (Pe (some (.int out.1)) [(a0, oB 6 [.ref a0_letters, .ref a0_read, .int va0_length, .int out.2.1, .int out.2.2.1]), (a0_letters, aC E 110 va0_letters), (a0_read, oB 0 [.ref a0_read_kind, .ref a0_read_weight, .ref a0_read_now, .int va0_read_cells, .int va0_read_people, .int out.2.2.2.1, .int va0_read_frost]), (a0_read_now, oB 3 [.ref a0_read_now_ice, .ref a0_read_now_juice, .ref a0_read_now_fors, .int va0_read_now_boat, .int va0_read_now_minute, .int va0_read_now_draw]), (a0_read_now_juice, aI E 5 out.2.2.2.2.1), (a0_read_now_fors, aI E 5 out.2.2.2.2.2)]) := by
  refine Ct.of rfl (Nat.le_of_ble_eq_true rfl) (fun K hL k r hin => ?_)
  subst hL
  unfold fX6_readEnd at hf
  show G E K 1 0 0 [(0, .ref a0)] [] [(a0, oB 6 [.ref a0_letters, .ref a0_read, .int va0_length, .int va0_place, .int va0_number]), (a0_letters, aC E 110 va0_letters), (a0_read, oB 0 [.ref a0_read_kind, .ref a0_read_weight, .ref a0_read_now, .int va0_read_cells, .int va0_read_people, .int va0_read_sayings, .int va0_read_frost]), (a0_read_now, oB 3 [.ref a0_read_now_ice, .ref a0_read_now_juice, .ref a0_read_now_fors, .int va0_read_now_boat, .int va0_read_now_minute, .int va0_read_now_draw]), (a0_read_now_juice, aI E 5 va0_read_now_juice), (a0_read_now_fors, aI E 5 va0_read_now_fors)] 0
  refine g_aload_n k 0 dX6_readEnd_0 rfl rfl ?_
  refine g_bipush k dX6_readEnd_1 bi_59 ?_
  obtain ⟨o1, ho2, hf⟩ := bnd_some hf
  refine g_cv k miX6_readLetter mvX6_readLetter (ctX6_readLetter (kL K) E N a0 a0_letters a0_read va0_length va0_place va0_number va0_letters 59 o1 ho2) [0, 1] 0 (ws' := [(a0, oB 6 [.ref a0_letters, .ref a0_read, .int va0_length, .int o1.2, .int va0_number]), (a0_letters, aC E 110 va0_letters), (a0_read, oB 0 [.ref a0_read_kind, .ref a0_read_weight, .ref a0_read_now, .int va0_read_cells, .int va0_read_people, .int va0_read_sayings, .int va0_read_frost]), (a0_read_now, oB 3 [.ref a0_read_now_ice, .ref a0_read_now_juice, .ref a0_read_now_fors, .int va0_read_now_boat, .int va0_read_now_minute, .int va0_read_now_draw]), (a0_read_now_juice, aI E 5 va0_read_now_juice), (a0_read_now_fors, aI E 5 va0_read_now_fors)]) dX6_readEnd_3 lkX6_75 rfl ⟨rfl, rfl⟩ ⟨by decide, by decide⟩ rfl rfl rfl rfl (Nat.le_of_ble_eq_true rfl) rfl rfl rfl ?_
  refine g_st (st' := [.int o1.1]) rfl ?_
  refine g_if_eq k (tgt := 18) dX6_readEnd_6 (by decide) (fun c3 => ?_) (fun c3 => ?_)
  · replace hf := ite_t c3 hf
    refine g_aload_n k 0 dX6_readEnd_18 rfl rfl ?_
    obtain ⟨o4, ho5, hf⟩ := bnd_some hf
    refine g_cv k miX6_skipBlanks mvX6_skipBlanks (ctX6_skipBlanks (kL K) E N a0 a0_letters a0_read va0_length o1.2 va0_number va0_letters  o4 ho5) [0, 1] 0 (ws' := [(a0, oB 6 [.ref a0_letters, .ref a0_read, .int va0_length, .int o4, .int va0_number]), (a0_letters, aC E 110 va0_letters), (a0_read, oB 0 [.ref a0_read_kind, .ref a0_read_weight, .ref a0_read_now, .int va0_read_cells, .int va0_read_people, .int va0_read_sayings, .int va0_read_frost]), (a0_read_now, oB 3 [.ref a0_read_now_ice, .ref a0_read_now_juice, .ref a0_read_now_fors, .int va0_read_now_boat, .int va0_read_now_minute, .int va0_read_now_draw]), (a0_read_now_juice, aI E 5 va0_read_now_juice), (a0_read_now_fors, aI E 5 va0_read_now_fors)]) dX6_readEnd_19 lkX6_82 rfl ⟨rfl, rfl⟩ ⟨by decide, by decide⟩ rfl rfl rfl rfl (Nat.le_of_ble_eq_true rfl) rfl rfl rfl ?_
    refine g_st (st' := []) rfl ?_
    refine g_aload_n k 0 dX6_readEnd_22 rfl rfl ?_
    refine g_get k cfX6 3 0 dX6_readEnd_23 lkX6_26 (by decide) rfl rfl ?_
    refine g_aload_n k 0 dX6_readEnd_26 rfl rfl ?_
    refine g_get k cfX6 2 0 dX6_readEnd_27 lkX6_22 (by decide) rfl rfl ?_
    refine g_icmp_ne k (tgt := 37) dX6_readEnd_30 (by decide) (fun c6 => ?_) (fun c6 => ?_)
    · replace hf := ite_f c6 hf
      refine g_iconst k dX6_readEnd_37 ic_0 ?_
      obtain rfl := Option.some.inj hf
      exact g_zret k (rfl) r dX6_readEnd_38 ⟨rfl, rfl⟩
    · replace hf := ite_t c6 hf
      refine g_iconst k dX6_readEnd_33 ic_1 ?_
      refine g_goto k (tgt := 38) dX6_readEnd_34 (by decide) ?_
      obtain rfl := Option.some.inj hf
      exact g_zret k (rfl) r dX6_readEnd_38 ⟨rfl, rfl⟩
  · replace hf := ite_f c3 hf
    refine g_aload_n k 0 dX6_readEnd_9 rfl rfl ?_
    obtain ⟨o7, ho8, hf⟩ := bnd_some hf
    refine g_cv k miX6_readSayings mvX6_readSayings (ctX6_readSayings (kL K) E N a0 a0_letters a0_read a0_read_kind a0_read_weight a0_read_now a0_read_now_ice a0_read_now_juice a0_read_now_fors va0_length o1.2 va0_number va0_letters va0_read_cells va0_read_people va0_read_sayings va0_read_frost va0_read_now_boat va0_read_now_minute va0_read_now_draw va0_read_now_juice va0_read_now_fors  o7 ho8) [0, 1, 2, 3, 4, 5] 0 (ws' := [(a0, oB 6 [.ref a0_letters, .ref a0_read, .int va0_length, .int o7.2.1, .int o7.2.2.1]), (a0_letters, aC E 110 va0_letters), (a0_read, oB 0 [.ref a0_read_kind, .ref a0_read_weight, .ref a0_read_now, .int va0_read_cells, .int va0_read_people, .int o7.2.2.2.1, .int va0_read_frost]), (a0_read_now, oB 3 [.ref a0_read_now_ice, .ref a0_read_now_juice, .ref a0_read_now_fors, .int va0_read_now_boat, .int va0_read_now_minute, .int va0_read_now_draw]), (a0_read_now_juice, aI E 5 o7.2.2.2.2.1), (a0_read_now_fors, aI E 5 o7.2.2.2.2.2)]) dX6_readEnd_10 lkX6_100 rfl ⟨rfl, rfl⟩ ⟨by decide, by decide⟩ rfl rfl rfl rfl (Nat.le_of_ble_eq_true rfl) rfl rfl rfl ?_
    refine g_st (st' := [.int o7.1]) rfl ?_
    refine g_if_ne k (tgt := 18) dX6_readEnd_13 (by decide) (fun c9 => ?_) (fun c9 => ?_)
    · replace hf := ite_f c9 hf
      refine g_aload_n k 0 dX6_readEnd_18 rfl rfl ?_
      obtain ⟨o10, ho11, hf⟩ := bnd_some hf
      refine g_cv k miX6_skipBlanks mvX6_skipBlanks (ctX6_skipBlanks (kL K) E N a0 a0_letters a0_read va0_length o7.2.1 o7.2.2.1 va0_letters  o10 ho11) [0, 1] 0 (ws' := [(a0, oB 6 [.ref a0_letters, .ref a0_read, .int va0_length, .int o10, .int o7.2.2.1]), (a0_letters, aC E 110 va0_letters), (a0_read, oB 0 [.ref a0_read_kind, .ref a0_read_weight, .ref a0_read_now, .int va0_read_cells, .int va0_read_people, .int o7.2.2.2.1, .int va0_read_frost]), (a0_read_now, oB 3 [.ref a0_read_now_ice, .ref a0_read_now_juice, .ref a0_read_now_fors, .int va0_read_now_boat, .int va0_read_now_minute, .int va0_read_now_draw]), (a0_read_now_juice, aI E 5 o7.2.2.2.2.1), (a0_read_now_fors, aI E 5 o7.2.2.2.2.2)]) dX6_readEnd_19 lkX6_82 rfl ⟨rfl, rfl⟩ ⟨by decide, by decide⟩ rfl rfl rfl rfl (Nat.le_of_ble_eq_true rfl) rfl rfl rfl ?_
      refine g_st (st' := []) rfl ?_
      refine g_aload_n k 0 dX6_readEnd_22 rfl rfl ?_
      refine g_get k cfX6 3 0 dX6_readEnd_23 lkX6_26 (by decide) rfl rfl ?_
      refine g_aload_n k 0 dX6_readEnd_26 rfl rfl ?_
      refine g_get k cfX6 2 0 dX6_readEnd_27 lkX6_22 (by decide) rfl rfl ?_
      refine g_icmp_ne k (tgt := 37) dX6_readEnd_30 (by decide) (fun c12 => ?_) (fun c12 => ?_)
      · replace hf := ite_f c12 hf
        refine g_iconst k dX6_readEnd_37 ic_0 ?_
        obtain rfl := Option.some.inj hf
        exact g_zret k (rfl) r dX6_readEnd_38 ⟨rfl, rfl⟩
      · replace hf := ite_t c12 hf
        refine g_iconst k dX6_readEnd_33 ic_1 ?_
        refine g_goto k (tgt := 38) dX6_readEnd_34 (by decide) ?_
        obtain rfl := Option.some.inj hf
        exact g_zret k (rfl) r dX6_readEnd_38 ⟨rfl, rfl⟩
    · replace hf := ite_t c9 hf
      refine g_iconst k dX6_readEnd_16 ic_0 ?_
      obtain rfl := Option.some.inj hf
      exact g_zret k (rfl) r dX6_readEnd_17 ⟨rfl, rfl⟩
abbrev rmX6_readInto : Room := { frames := 9, cells := 0, slots := 0, locals := 202 }
def fX6_readInto (N : Nat) (va0_length : Int32) (va0_place : Int32) (va0_number : Int32) (va0_letters : Nat → Int32) (va0_read_cells : Int32) (va0_read_people : Int32) (va0_read_sayings : Int32) (va0_read_frost : Int32) (va0_read_kind : Nat → Int32) (va0_read_weight : Nat → Int32) (va0_read_now_boat : Int32) (va0_read_now_minute : Int32) (va0_read_now_draw : Int32) (va0_read_now_ice : Nat → Int32) (va0_read_now_juice : Nat → Int32) (va0_read_now_fors : Nat → Int32) (va1_cells : Int32) (va1_people : Int32) (va1_sayings : Int32) (va1_frost : Int32) (va1_kind : Nat → Int32) (va1_weight : Nat → Int32) (va1_now_boat : Int32) (va1_now_minute : Int32) (va1_now_draw : Int32) (va1_now_ice : Nat → Int32) (va1_now_juice : Nat → Int32) (va1_now_fors : Nat → Int32)  : Option (Int32 × Int32 × Int32 × Int32 × Int32 × Int32 × Int32 × (Nat → Int32) × (Nat → Int32) × Int32 × (Nat → Int32) × (Nat → Int32) × (Nat → Int32) × Int32 × Int32 × Int32 × Int32 × (Nat → Int32) × (Nat → Int32) × Int32 × Int32 × Int32 × (Nat → Int32) × (Nat → Int32) × (Nat → Int32)) :=
  bnd (fX6_readCells N va0_length 0 va0_number va0_letters 0 va0_read_now_ice) fun o1 =>
  if o1.1 = 0 then
  some (((-20) - o1.2.1), o1.2.1, o1.2.2.1, o1.2.2.2.1, 0, 0, va0_read_frost, va0_read_kind, va0_read_weight, va0_read_now_draw, o1.2.2.2.2, va0_read_now_juice, va0_read_now_fors, va1_cells, va1_people, va1_sayings, va1_frost, va1_kind, va1_weight, va1_now_boat, va1_now_minute, va1_now_draw, va1_now_ice, va1_now_juice, va1_now_fors)
  else
  bnd (fX6_readPeople N va0_length o1.2.1 va0_letters 0 va0_read_kind va0_read_weight) fun o4 =>
  if o4.1 = 0 then
  some (((-20) - o4.2.1), o4.2.1, o1.2.2.1, o1.2.2.2.1, o4.2.2.1, 0, va0_read_frost, o4.2.2.2.1, o4.2.2.2.2, va0_read_now_draw, o1.2.2.2.2, va0_read_now_juice, va0_read_now_fors, va1_cells, va1_people, va1_sayings, va1_frost, va1_kind, va1_weight, va1_now_boat, va1_now_minute, va1_now_draw, va1_now_ice, va1_now_juice, va1_now_fors)
  else
  bnd (fX6_readEnd N va0_length o4.2.1 o1.2.2.1 va0_letters o4.2.2.1 0 va0_read_now_juice va0_read_now_fors) fun o7 =>
  if o7.1 = 0 then
  some (((-20) - o7.2.1), o7.2.1, o7.2.2.1, o1.2.2.2.1, o4.2.2.1, o7.2.2.2.1, va0_read_frost, o4.2.2.2.1, o4.2.2.2.2, va0_read_now_draw, o1.2.2.2.2, o7.2.2.2.2.1, o7.2.2.2.2.2, va1_cells, va1_people, va1_sayings, va1_frost, va1_kind, va1_weight, va1_now_boat, va1_now_minute, va1_now_draw, va1_now_ice, va1_now_juice, va1_now_fors)
  else
  bnd (fX0_take N va1_cells va1_people va1_sayings va1_frost va1_kind va1_weight va1_now_boat va1_now_minute va1_now_draw va1_now_ice va1_now_juice va1_now_fors o1.2.2.2.1 o4.2.2.1 o7.2.2.2.1 va1_frost o4.2.2.2.1 o4.2.2.2.2 va0_read_now_boat va0_read_now_minute va1_now_draw o1.2.2.2.2 o7.2.2.2.2.1 o7.2.2.2.2.2) fun o10 =>
  some (o10.1, o7.2.1, o7.2.2.1, o1.2.2.2.1, o4.2.2.1, o7.2.2.2.1, va1_frost, o4.2.2.2.1, o4.2.2.2.2, va1_now_draw, o1.2.2.2.2, o7.2.2.2.2.1, o7.2.2.2.2.2, o10.1, o10.2.1, o10.2.2.1, o10.2.2.2.1, o10.2.2.2.2.1, o10.2.2.2.2.2.1, o10.2.2.2.2.2.2.1, o10.2.2.2.2.2.2.2.1, o10.2.2.2.2.2.2.2.2.1, o10.2.2.2.2.2.2.2.2.2.1, o10.2.2.2.2.2.2.2.2.2.2.1, o10.2.2.2.2.2.2.2.2.2.2.2)
set_option maxHeartbeats 4000000 in
set_option maxRecDepth 100000 in
theorem ctX6_readInto (l : Launch) (E : Ev) (N : Nat) (a0 : Nat) (a0_letters : Nat) (a0_read : Nat) (a0_read_kind : Nat) (a0_read_weight : Nat) (a0_read_now : Nat) (a0_read_now_ice : Nat) (a0_read_now_juice : Nat) (a0_read_now_fors : Nat) (a1 : Nat) (a1_kind : Nat) (a1_weight : Nat) (a1_now : Nat) (a1_now_ice : Nat) (a1_now_juice : Nat) (a1_now_fors : Nat) (va0_length : Int32) (va0_place : Int32) (va0_number : Int32) (va0_letters : Nat → Int32) (va0_read_cells : Int32) (va0_read_people : Int32) (va0_read_sayings : Int32) (va0_read_frost : Int32) (va0_read_kind : Nat → Int32) (va0_read_weight : Nat → Int32) (va0_read_now_boat : Int32) (va0_read_now_minute : Int32) (va0_read_now_draw : Int32) (va0_read_now_ice : Nat → Int32) (va0_read_now_juice : Nat → Int32) (va0_read_now_fors : Nat → Int32) (va1_cells : Int32) (va1_people : Int32) (va1_sayings : Int32) (va1_frost : Int32) (va1_kind : Nat → Int32) (va1_weight : Nat → Int32) (va1_now_boat : Int32) (va1_now_minute : Int32) (va1_now_draw : Int32) (va1_now_ice : Nat → Int32) (va1_now_juice : Nat → Int32) (va1_now_fors : Nat → Int32)  (out : Int32 × Int32 × Int32 × Int32 × Int32 × Int32 × Int32 × (Nat → Int32) × (Nat → Int32) × Int32 × (Nat → Int32) × (Nat → Int32) × (Nat → Int32) × Int32 × Int32 × Int32 × Int32 × (Nat → Int32) × (Nat → Int32) × Int32 × Int32 × Int32 × (Nat → Int32) × (Nat → Int32) × (Nat → Int32)) (hf : fX6_readInto N va0_length va0_place va0_number va0_letters va0_read_cells va0_read_people va0_read_sayings va0_read_frost va0_read_kind va0_read_weight va0_read_now_boat va0_read_now_minute va0_read_now_draw va0_read_now_ice va0_read_now_juice va0_read_now_fors va1_cells va1_people va1_sayings va1_frost va1_kind va1_weight va1_now_boat va1_now_minute va1_now_draw va1_now_ice va1_now_juice va1_now_fors  = some out) : Ct l E yX6_readInto cX6_readInto 2 (some .int) rmX6_readInto [.ref a0, .ref a1] [(a0, oB 6 [.ref a0_letters, .ref a0_read, .int va0_length, .int va0_place, .int va0_number]), (a0_letters, aC E 110 va0_letters), (a0_read, oB 0 [.ref a0_read_kind, .ref a0_read_weight, .ref a0_read_now, .int va0_read_cells, .int va0_read_people, .int va0_read_sayings, .int va0_read_frost]), (a0_read_kind, aI E 6 va0_read_kind), (a0_read_weight, aI E 6 va0_read_weight), (a0_read_now, oB 3 [.ref a0_read_now_ice, .ref a0_read_now_juice, .ref a0_read_now_fors, .int va0_read_now_boat, .int va0_read_now_minute, .int va0_read_now_draw]), (a0_read_now_ice, aI E 12 va0_read_now_ice), (a0_read_now_juice, aI E 5 va0_read_now_juice), (a0_read_now_fors, aI E 5 va0_read_now_fors), (a1, oB 0 [.ref a1_kind, .ref a1_weight, .ref a1_now, .int va1_cells, .int va1_people, .int va1_sayings, .int va1_frost]), (a1_kind, aI E 6 va1_kind), (a1_weight, aI E 6 va1_weight), (a1_now, oB 3 [.ref a1_now_ice, .ref a1_now_juice, .ref a1_now_fors, .int va1_now_boat, .int va1_now_minute, .int va1_now_draw]), (a1_now_ice, aI E 12 va1_now_ice), (a1_now_juice, aI E 5 va1_now_juice), (a1_now_fors, aI E 5 va1_now_fors)] (Pe (some (.int out.1)) [(a0, oB 6 [.ref a0_letters, .ref a0_read, .int va0_length, .int out.2.1, .int out.2.2.1]), (a0_letters, aC E 110 va0_letters), (a0_read, oB 0 [.ref a0_read_kind, .ref a0_read_weight, .ref a0_read_now, .int out.2.2.2.1, .int out.2.2.2.2.1, .int out.2.2.2.2.2.1, .int out.2.2.2.2.2.2.1]), (a0_read_kind, aI E 6 out.2.2.2.2.2.2.2.1), (a0_read_weight, aI E 6 out.2.2.2.2.2.2.2.2.1), (a0_read_now, oB 3 [.ref a0_read_now_ice, .ref a0_read_now_juice, .ref a0_read_now_fors, .int va0_read_now_boat, .int va0_read_now_minute, .int out.2.2.2.2.2.2.2.2.2.1]), (a0_read_now_ice, aI E 12 out.2.2.2.2.2.2.2.2.2.2.1), (a0_read_now_juice, aI E 5 out.2.2.2.2.2.2.2.2.2.2.2.1), (a0_read_now_fors, aI E 5 out.2.2.2.2.2.2.2.2.2.2.2.2.1), (a1, oB 0 [.ref a1_kind, .ref a1_weight, .ref a1_now, .int out.2.2.2.2.2.2.2.2.2.2.2.2.2.1, .int out.2.2.2.2.2.2.2.2.2.2.2.2.2.2.1, .int out.2.2.2.2.2.2.2.2.2.2.2.2.2.2.2.1, .int out.2.2.2.2.2.2.2.2.2.2.2.2.2.2.2.2.1]), (a1_kind, aI E 6 out.2.2.2.2.2.2.2.2.2.2.2.2.2.2.2.2.2.1), (a1_weight, aI E 6 out.2.2.2.2.2.2.2.2.2.2.2.2.2.2.2.2.2.2.1), (a1_now, oB 3 [.ref a1_now_ice, .ref a1_now_juice, .ref a1_now_fors, .int out.2.2.2.2.2.2.2.2.2.2.2.2.2.2.2.2.2.2.2.1, .int out.2.2.2.2.2.2.2.2.2.2.2.2.2.2.2.2.2.2.2.2.1, .int out.2.2.2.2.2.2.2.2.2.2.2.2.2.2.2.2.2.2.2.2.2.1]), (a1_now_ice, aI E 12 out.2.2.2.2.2.2.2.2.2.2.2.2.2.2.2.2.2.2.2.2.2.2.1), (a1_now_juice, aI E 5 out.2.2.2.2.2.2.2.2.2.2.2.2.2.2.2.2.2.2.2.2.2.2.2.1), (a1_now_fors, aI E 5 out.2.2.2.2.2.2.2.2.2.2.2.2.2.2.2.2.2.2.2.2.2.2.2.2)]) := by
  refine Ct.of rfl (Nat.le_of_ble_eq_true rfl) (fun K hL k r hin => ?_)
  subst hL
  unfold fX6_readInto at hf
  show G E K 2 0 0 [(0, .ref a0), (1, .ref a1)] [] [(a0, oB 6 [.ref a0_letters, .ref a0_read, .int va0_length, .int va0_place, .int va0_number]), (a0_letters, aC E 110 va0_letters), (a0_read, oB 0 [.ref a0_read_kind, .ref a0_read_weight, .ref a0_read_now, .int va0_read_cells, .int va0_read_people, .int va0_read_sayings, .int va0_read_frost]), (a0_read_kind, aI E 6 va0_read_kind), (a0_read_weight, aI E 6 va0_read_weight), (a0_read_now, oB 3 [.ref a0_read_now_ice, .ref a0_read_now_juice, .ref a0_read_now_fors, .int va0_read_now_boat, .int va0_read_now_minute, .int va0_read_now_draw]), (a0_read_now_ice, aI E 12 va0_read_now_ice), (a0_read_now_juice, aI E 5 va0_read_now_juice), (a0_read_now_fors, aI E 5 va0_read_now_fors), (a1, oB 0 [.ref a1_kind, .ref a1_weight, .ref a1_now, .int va1_cells, .int va1_people, .int va1_sayings, .int va1_frost]), (a1_kind, aI E 6 va1_kind), (a1_weight, aI E 6 va1_weight), (a1_now, oB 3 [.ref a1_now_ice, .ref a1_now_juice, .ref a1_now_fors, .int va1_now_boat, .int va1_now_minute, .int va1_now_draw]), (a1_now_ice, aI E 12 va1_now_ice), (a1_now_juice, aI E 5 va1_now_juice), (a1_now_fors, aI E 5 va1_now_fors)] 0
  refine g_aload_n k 0 dX6_readInto_0 rfl rfl ?_
  refine g_iconst k dX6_readInto_1 ic_0 ?_
  refine g_put k cfX6 3 0 (ws' := [(a0, oB 6 [.ref a0_letters, .ref a0_read, .int va0_length, .int 0, .int va0_number]), (a0_letters, aC E 110 va0_letters), (a0_read, oB 0 [.ref a0_read_kind, .ref a0_read_weight, .ref a0_read_now, .int va0_read_cells, .int va0_read_people, .int va0_read_sayings, .int va0_read_frost]), (a0_read_kind, aI E 6 va0_read_kind), (a0_read_weight, aI E 6 va0_read_weight), (a0_read_now, oB 3 [.ref a0_read_now_ice, .ref a0_read_now_juice, .ref a0_read_now_fors, .int va0_read_now_boat, .int va0_read_now_minute, .int va0_read_now_draw]), (a0_read_now_ice, aI E 12 va0_read_now_ice), (a0_read_now_juice, aI E 5 va0_read_now_juice), (a0_read_now_fors, aI E 5 va0_read_now_fors), (a1, oB 0 [.ref a1_kind, .ref a1_weight, .ref a1_now, .int va1_cells, .int va1_people, .int va1_sayings, .int va1_frost]), (a1_kind, aI E 6 va1_kind), (a1_weight, aI E 6 va1_weight), (a1_now, oB 3 [.ref a1_now_ice, .ref a1_now_juice, .ref a1_now_fors, .int va1_now_boat, .int va1_now_minute, .int va1_now_draw]), (a1_now_ice, aI E 12 va1_now_ice), (a1_now_juice, aI E 5 va1_now_juice), (a1_now_fors, aI E 5 va1_now_fors)]) dX6_readInto_2 lkX6_26 (by decide) rfl rfl rfl rfl (Nat.le_of_ble_eq_true rfl) rfl ?_
  refine g_aload_n k 0 dX6_readInto_5 rfl rfl ?_
  refine g_get k cfX6 1 0 dX6_readInto_6 lkX6_18 (by decide) rfl rfl ?_
  refine g_iconst k dX6_readInto_9 ic_0 ?_
  refine g_put k cfX0 3 2 (ws' := [(a0, oB 6 [.ref a0_letters, .ref a0_read, .int va0_length, .int 0, .int va0_number]), (a0_letters, aC E 110 va0_letters), (a0_read, oB 0 [.ref a0_read_kind, .ref a0_read_weight, .ref a0_read_now, .int 0, .int va0_read_people, .int va0_read_sayings, .int va0_read_frost]), (a0_read_kind, aI E 6 va0_read_kind), (a0_read_weight, aI E 6 va0_read_weight), (a0_read_now, oB 3 [.ref a0_read_now_ice, .ref a0_read_now_juice, .ref a0_read_now_fors, .int va0_read_now_boat, .int va0_read_now_minute, .int va0_read_now_draw]), (a0_read_now_ice, aI E 12 va0_read_now_ice), (a0_read_now_juice, aI E 5 va0_read_now_juice), (a0_read_now_fors, aI E 5 va0_read_now_fors), (a1, oB 0 [.ref a1_kind, .ref a1_weight, .ref a1_now, .int va1_cells, .int va1_people, .int va1_sayings, .int va1_frost]), (a1_kind, aI E 6 va1_kind), (a1_weight, aI E 6 va1_weight), (a1_now, oB 3 [.ref a1_now_ice, .ref a1_now_juice, .ref a1_now_fors, .int va1_now_boat, .int va1_now_minute, .int va1_now_draw]), (a1_now_ice, aI E 12 va1_now_ice), (a1_now_juice, aI E 5 va1_now_juice), (a1_now_fors, aI E 5 va1_now_fors)]) dX6_readInto_10 lkX6_32 (by decide) rfl rfl rfl rfl (Nat.le_of_ble_eq_true rfl) rfl ?_
  refine g_aload_n k 0 dX6_readInto_13 rfl rfl ?_
  refine g_get k cfX6 1 0 dX6_readInto_14 lkX6_18 (by decide) rfl rfl ?_
  refine g_iconst k dX6_readInto_17 ic_0 ?_
  refine g_put k cfX0 4 2 (ws' := [(a0, oB 6 [.ref a0_letters, .ref a0_read, .int va0_length, .int 0, .int va0_number]), (a0_letters, aC E 110 va0_letters), (a0_read, oB 0 [.ref a0_read_kind, .ref a0_read_weight, .ref a0_read_now, .int 0, .int 0, .int va0_read_sayings, .int va0_read_frost]), (a0_read_kind, aI E 6 va0_read_kind), (a0_read_weight, aI E 6 va0_read_weight), (a0_read_now, oB 3 [.ref a0_read_now_ice, .ref a0_read_now_juice, .ref a0_read_now_fors, .int va0_read_now_boat, .int va0_read_now_minute, .int va0_read_now_draw]), (a0_read_now_ice, aI E 12 va0_read_now_ice), (a0_read_now_juice, aI E 5 va0_read_now_juice), (a0_read_now_fors, aI E 5 va0_read_now_fors), (a1, oB 0 [.ref a1_kind, .ref a1_weight, .ref a1_now, .int va1_cells, .int va1_people, .int va1_sayings, .int va1_frost]), (a1_kind, aI E 6 va1_kind), (a1_weight, aI E 6 va1_weight), (a1_now, oB 3 [.ref a1_now_ice, .ref a1_now_juice, .ref a1_now_fors, .int va1_now_boat, .int va1_now_minute, .int va1_now_draw]), (a1_now_ice, aI E 12 va1_now_ice), (a1_now_juice, aI E 5 va1_now_juice), (a1_now_fors, aI E 5 va1_now_fors)]) dX6_readInto_18 lkX6_35 (by decide) rfl rfl rfl rfl (Nat.le_of_ble_eq_true rfl) rfl ?_
  refine g_aload_n k 0 dX6_readInto_21 rfl rfl ?_
  refine g_get k cfX6 1 0 dX6_readInto_22 lkX6_18 (by decide) rfl rfl ?_
  refine g_iconst k dX6_readInto_25 ic_0 ?_
  refine g_put k cfX0 5 2 (ws' := [(a0, oB 6 [.ref a0_letters, .ref a0_read, .int va0_length, .int 0, .int va0_number]), (a0_letters, aC E 110 va0_letters), (a0_read, oB 0 [.ref a0_read_kind, .ref a0_read_weight, .ref a0_read_now, .int 0, .int 0, .int 0, .int va0_read_frost]), (a0_read_kind, aI E 6 va0_read_kind), (a0_read_weight, aI E 6 va0_read_weight), (a0_read_now, oB 3 [.ref a0_read_now_ice, .ref a0_read_now_juice, .ref a0_read_now_fors, .int va0_read_now_boat, .int va0_read_now_minute, .int va0_read_now_draw]), (a0_read_now_ice, aI E 12 va0_read_now_ice), (a0_read_now_juice, aI E 5 va0_read_now_juice), (a0_read_now_fors, aI E 5 va0_read_now_fors), (a1, oB 0 [.ref a1_kind, .ref a1_weight, .ref a1_now, .int va1_cells, .int va1_people, .int va1_sayings, .int va1_frost]), (a1_kind, aI E 6 va1_kind), (a1_weight, aI E 6 va1_weight), (a1_now, oB 3 [.ref a1_now_ice, .ref a1_now_juice, .ref a1_now_fors, .int va1_now_boat, .int va1_now_minute, .int va1_now_draw]), (a1_now_ice, aI E 12 va1_now_ice), (a1_now_juice, aI E 5 va1_now_juice), (a1_now_fors, aI E 5 va1_now_fors)]) dX6_readInto_26 lkX6_38 (by decide) rfl rfl rfl rfl (Nat.le_of_ble_eq_true rfl) rfl ?_
  refine g_aload_n k 0 dX6_readInto_29 rfl rfl ?_
  obtain ⟨o1, ho2, hf⟩ := bnd_some hf
  refine g_cv k miX6_readCells mvX6_readCells (ctX6_readCells (kL K) E N a0 a0_letters a0_read a0_read_kind a0_read_weight a0_read_now a0_read_now_ice a0_read_now_juice a0_read_now_fors va0_length 0 va0_number va0_letters 0 0 0 va0_read_frost va0_read_now_boat va0_read_now_minute va0_read_now_draw va0_read_now_ice  o1 ho2) [0, 1, 2, 5, 6] 0 (ws' := [(a0, oB 6 [.ref a0_letters, .ref a0_read, .int va0_length, .int o1.2.1, .int o1.2.2.1]), (a0_letters, aC E 110 va0_letters), (a0_read, oB 0 [.ref a0_read_kind, .ref a0_read_weight, .ref a0_read_now, .int o1.2.2.2.1, .int 0, .int 0, .int va0_read_frost]), (a0_read_kind, aI E 6 va0_read_kind), (a0_read_weight, aI E 6 va0_read_weight), (a0_read_now, oB 3 [.ref a0_read_now_ice, .ref a0_read_now_juice, .ref a0_read_now_fors, .int va0_read_now_boat, .int va0_read_now_minute, .int va0_read_now_draw]), (a0_read_now_ice, aI E 12 o1.2.2.2.2), (a0_read_now_juice, aI E 5 va0_read_now_juice), (a0_read_now_fors, aI E 5 va0_read_now_fors), (a1, oB 0 [.ref a1_kind, .ref a1_weight, .ref a1_now, .int va1_cells, .int va1_people, .int va1_sayings, .int va1_frost]), (a1_kind, aI E 6 va1_kind), (a1_weight, aI E 6 va1_weight), (a1_now, oB 3 [.ref a1_now_ice, .ref a1_now_juice, .ref a1_now_fors, .int va1_now_boat, .int va1_now_minute, .int va1_now_draw]), (a1_now_ice, aI E 12 va1_now_ice), (a1_now_juice, aI E 5 va1_now_juice), (a1_now_fors, aI E 5 va1_now_fors)]) dX6_readInto_30 lkX6_41 rfl ⟨rfl, rfl⟩ ⟨by decide, by decide⟩ rfl rfl rfl rfl (Nat.le_of_ble_eq_true rfl) rfl rfl rfl ?_
  refine g_st (st' := [.int o1.1]) rfl ?_
  refine g_if_eq k (tgt := 50) dX6_readInto_33 (by decide) (fun c3 => ?_) (fun c3 => ?_)
  · replace hf := ite_t c3 hf
    refine g_bipush k dX6_readInto_50 bi_m20 ?_
    refine g_aload_n k 0 dX6_readInto_52 rfl rfl ?_
    refine g_get k cfX6 3 0 dX6_readInto_53 lkX6_26 (by decide) rfl rfl ?_
    refine g_isub k dX6_readInto_56 ?_
    obtain rfl := Option.some.inj hf
    exact g_iret k r dX6_readInto_57 ⟨rfl, rfl⟩
  · replace hf := ite_f c3 hf
    refine g_aload_n k 0 dX6_readInto_36 rfl rfl ?_
    obtain ⟨o4, ho5, hf⟩ := bnd_some hf
    refine g_cv k miX6_readPeople mvX6_readPeople (ctX6_readPeople (kL K) E N a0 a0_letters a0_read a0_read_kind a0_read_weight a0_read_now va0_length o1.2.1 o1.2.2.1 va0_letters o1.2.2.2.1 0 0 va0_read_frost va0_read_kind va0_read_weight  o4 ho5) [0, 1, 2, 3, 4] 0 (ws' := [(a0, oB 6 [.ref a0_letters, .ref a0_read, .int va0_length, .int o4.2.1, .int o1.2.2.1]), (a0_letters, aC E 110 va0_letters), (a0_read, oB 0 [.ref a0_read_kind, .ref a0_read_weight, .ref a0_read_now, .int o1.2.2.2.1, .int o4.2.2.1, .int 0, .int va0_read_frost]), (a0_read_kind, aI E 6 o4.2.2.2.1), (a0_read_weight, aI E 6 o4.2.2.2.2), (a0_read_now, oB 3 [.ref a0_read_now_ice, .ref a0_read_now_juice, .ref a0_read_now_fors, .int va0_read_now_boat, .int va0_read_now_minute, .int va0_read_now_draw]), (a0_read_now_ice, aI E 12 o1.2.2.2.2), (a0_read_now_juice, aI E 5 va0_read_now_juice), (a0_read_now_fors, aI E 5 va0_read_now_fors), (a1, oB 0 [.ref a1_kind, .ref a1_weight, .ref a1_now, .int va1_cells, .int va1_people, .int va1_sayings, .int va1_frost]), (a1_kind, aI E 6 va1_kind), (a1_weight, aI E 6 va1_weight), (a1_now, oB 3 [.ref a1_now_ice, .ref a1_now_juice, .ref a1_now_fors, .int va1_now_boat, .int va1_now_minute, .int va1_now_draw]), (a1_now_ice, aI E 12 va1_now_ice), (a1_now_juice, aI E 5 va1_now_juice), (a1_now_fors, aI E 5 va1_now_fors)]) dX6_readInto_37 lkX6_45 rfl ⟨rfl, rfl⟩ ⟨by decide, by decide⟩ rfl rfl rfl rfl (Nat.le_of_ble_eq_true rfl) rfl rfl rfl ?_
    refine g_st (st' := [.int o4.1]) rfl ?_
    refine g_if_eq k (tgt := 50) dX6_readInto_40 (by decide) (fun c6 => ?_) (fun c6 => ?_)
    · replace hf := ite_t c6 hf
      refine g_bipush k dX6_readInto_50 bi_m20 ?_
      refine g_aload_n k 0 dX6_readInto_52 rfl rfl ?_
      refine g_get k cfX6 3 0 dX6_readInto_53 lkX6_26 (by decide) rfl rfl ?_
      refine g_isub k dX6_readInto_56 ?_
      obtain rfl := Option.some.inj hf
      exact g_iret k r dX6_readInto_57 ⟨rfl, rfl⟩
    · replace hf := ite_f c6 hf
      refine g_aload_n k 0 dX6_readInto_43 rfl rfl ?_
      obtain ⟨o7, ho8, hf⟩ := bnd_some hf
      refine g_cv k miX6_readEnd mvX6_readEnd (ctX6_readEnd (kL K) E N a0 a0_letters a0_read a0_read_kind a0_read_weight a0_read_now a0_read_now_ice a0_read_now_juice a0_read_now_fors va0_length o4.2.1 o1.2.2.1 va0_letters o1.2.2.2.1 o4.2.2.1 0 va0_read_frost va0_read_now_boat va0_read_now_minute va0_read_now_draw va0_read_now_juice va0_read_now_fors  o7 ho8) [0, 1, 2, 5, 7, 8] 0 (ws' := [(a0, oB 6 [.ref a0_letters, .ref a0_read, .int va0_length, .int o7.2.1, .int o7.2.2.1]), (a0_letters, aC E 110 va0_letters), (a0_read, oB 0 [.ref a0_read_kind, .ref a0_read_weight, .ref a0_read_now, .int o1.2.2.2.1, .int o4.2.2.1, .int o7.2.2.2.1, .int va0_read_frost]), (a0_read_kind, aI E 6 o4.2.2.2.1), (a0_read_weight, aI E 6 o4.2.2.2.2), (a0_read_now, oB 3 [.ref a0_read_now_ice, .ref a0_read_now_juice, .ref a0_read_now_fors, .int va0_read_now_boat, .int va0_read_now_minute, .int va0_read_now_draw]), (a0_read_now_ice, aI E 12 o1.2.2.2.2), (a0_read_now_juice, aI E 5 o7.2.2.2.2.1), (a0_read_now_fors, aI E 5 o7.2.2.2.2.2), (a1, oB 0 [.ref a1_kind, .ref a1_weight, .ref a1_now, .int va1_cells, .int va1_people, .int va1_sayings, .int va1_frost]), (a1_kind, aI E 6 va1_kind), (a1_weight, aI E 6 va1_weight), (a1_now, oB 3 [.ref a1_now_ice, .ref a1_now_juice, .ref a1_now_fors, .int va1_now_boat, .int va1_now_minute, .int va1_now_draw]), (a1_now_ice, aI E 12 va1_now_ice), (a1_now_juice, aI E 5 va1_now_juice), (a1_now_fors, aI E 5 va1_now_fors)]) dX6_readInto_44 lkX6_48 rfl ⟨rfl, rfl⟩ ⟨by decide, by decide⟩ rfl rfl rfl rfl (Nat.le_of_ble_eq_true rfl) rfl rfl rfl ?_
      refine g_st (st' := [.int o7.1]) rfl ?_
      refine g_if_ne k (tgt := 58) dX6_readInto_47 (by decide) (fun c9 => ?_) (fun c9 => ?_)
      · replace hf := ite_f c9 hf
        refine g_aload_n k 0 dX6_readInto_58 rfl rfl ?_
        refine g_get k cfX6 1 0 dX6_readInto_59 lkX6_18 (by decide) rfl rfl ?_
        refine g_aload_n k 1 dX6_readInto_62 rfl rfl ?_
        refine g_get k cfX0 6 9 dX6_readInto_63 lkX6_51 (by decide) rfl rfl ?_
        refine g_put k cfX0 6 2 (ws' := [(a0, oB 6 [.ref a0_letters, .ref a0_read, .int va0_length, .int o7.2.1, .int o7.2.2.1]), (a0_letters, aC E 110 va0_letters), (a0_read, oB 0 [.ref a0_read_kind, .ref a0_read_weight, .ref a0_read_now, .int o1.2.2.2.1, .int o4.2.2.1, .int o7.2.2.2.1, .int va1_frost]), (a0_read_kind, aI E 6 o4.2.2.2.1), (a0_read_weight, aI E 6 o4.2.2.2.2), (a0_read_now, oB 3 [.ref a0_read_now_ice, .ref a0_read_now_juice, .ref a0_read_now_fors, .int va0_read_now_boat, .int va0_read_now_minute, .int va0_read_now_draw]), (a0_read_now_ice, aI E 12 o1.2.2.2.2), (a0_read_now_juice, aI E 5 o7.2.2.2.2.1), (a0_read_now_fors, aI E 5 o7.2.2.2.2.2), (a1, oB 0 [.ref a1_kind, .ref a1_weight, .ref a1_now, .int va1_cells, .int va1_people, .int va1_sayings, .int va1_frost]), (a1_kind, aI E 6 va1_kind), (a1_weight, aI E 6 va1_weight), (a1_now, oB 3 [.ref a1_now_ice, .ref a1_now_juice, .ref a1_now_fors, .int va1_now_boat, .int va1_now_minute, .int va1_now_draw]), (a1_now_ice, aI E 12 va1_now_ice), (a1_now_juice, aI E 5 va1_now_juice), (a1_now_fors, aI E 5 va1_now_fors)]) dX6_readInto_66 lkX6_51 (by decide) rfl rfl rfl rfl (Nat.le_of_ble_eq_true rfl) rfl ?_
        refine g_aload_n k 0 dX6_readInto_69 rfl rfl ?_
        refine g_get k cfX6 1 0 dX6_readInto_70 lkX6_18 (by decide) rfl rfl ?_
        refine g_get k cfX0 2 2 dX6_readInto_73 lkX6_54 (by decide) rfl rfl ?_
        refine g_aload_n k 1 dX6_readInto_76 rfl rfl ?_
        refine g_get k cfX0 2 9 dX6_readInto_77 lkX6_54 (by decide) rfl rfl ?_
        refine g_get k cfX3 5 12 dX6_readInto_80 lkX6_58 (by decide) rfl rfl ?_
        refine g_put k cfX3 5 5 (ws' := [(a0, oB 6 [.ref a0_letters, .ref a0_read, .int va0_length, .int o7.2.1, .int o7.2.2.1]), (a0_letters, aC E 110 va0_letters), (a0_read, oB 0 [.ref a0_read_kind, .ref a0_read_weight, .ref a0_read_now, .int o1.2.2.2.1, .int o4.2.2.1, .int o7.2.2.2.1, .int va1_frost]), (a0_read_kind, aI E 6 o4.2.2.2.1), (a0_read_weight, aI E 6 o4.2.2.2.2), (a0_read_now, oB 3 [.ref a0_read_now_ice, .ref a0_read_now_juice, .ref a0_read_now_fors, .int va0_read_now_boat, .int va0_read_now_minute, .int va1_now_draw]), (a0_read_now_ice, aI E 12 o1.2.2.2.2), (a0_read_now_juice, aI E 5 o7.2.2.2.2.1), (a0_read_now_fors, aI E 5 o7.2.2.2.2.2), (a1, oB 0 [.ref a1_kind, .ref a1_weight, .ref a1_now, .int va1_cells, .int va1_people, .int va1_sayings, .int va1_frost]), (a1_kind, aI E 6 va1_kind), (a1_weight, aI E 6 va1_weight), (a1_now, oB 3 [.ref a1_now_ice, .ref a1_now_juice, .ref a1_now_fors, .int va1_now_boat, .int va1_now_minute, .int va1_now_draw]), (a1_now_ice, aI E 12 va1_now_ice), (a1_now_juice, aI E 5 va1_now_juice), (a1_now_fors, aI E 5 va1_now_fors)]) dX6_readInto_83 lkX6_58 (by decide) rfl rfl rfl rfl (Nat.le_of_ble_eq_true rfl) rfl ?_
        refine g_aload_n k 1 dX6_readInto_86 rfl rfl ?_
        refine g_aload_n k 0 dX6_readInto_87 rfl rfl ?_
        refine g_get k cfX6 1 0 dX6_readInto_88 lkX6_18 (by decide) rfl rfl ?_
        obtain ⟨o10, ho11, hf⟩ := bnd_some hf
        refine g_cv k miX0_take mvX0_take (ctX0_take (kL K) E N a1 a1_kind a1_weight a1_now a1_now_ice a1_now_juice a1_now_fors a0_read a0_read_kind a0_read_weight a0_read_now a0_read_now_ice a0_read_now_juice a0_read_now_fors va1_cells va1_people va1_sayings va1_frost va1_kind va1_weight va1_now_boat va1_now_minute va1_now_draw va1_now_ice va1_now_juice va1_now_fors o1.2.2.2.1 o4.2.2.1 o7.2.2.2.1 va1_frost o4.2.2.2.1 o4.2.2.2.2 va0_read_now_boat va0_read_now_minute va1_now_draw o1.2.2.2.2 o7.2.2.2.2.1 o7.2.2.2.2.2  o10 ho11) [9, 10, 11, 12, 13, 14, 15, 2, 3, 4, 5, 6, 7, 8] 0 (ws' := [(a0, oB 6 [.ref a0_letters, .ref a0_read, .int va0_length, .int o7.2.1, .int o7.2.2.1]), (a0_letters, aC E 110 va0_letters), (a0_read, oB 0 [.ref a0_read_kind, .ref a0_read_weight, .ref a0_read_now, .int o1.2.2.2.1, .int o4.2.2.1, .int o7.2.2.2.1, .int va1_frost]), (a0_read_kind, aI E 6 o4.2.2.2.1), (a0_read_weight, aI E 6 o4.2.2.2.2), (a0_read_now, oB 3 [.ref a0_read_now_ice, .ref a0_read_now_juice, .ref a0_read_now_fors, .int va0_read_now_boat, .int va0_read_now_minute, .int va1_now_draw]), (a0_read_now_ice, aI E 12 o1.2.2.2.2), (a0_read_now_juice, aI E 5 o7.2.2.2.2.1), (a0_read_now_fors, aI E 5 o7.2.2.2.2.2), (a1, oB 0 [.ref a1_kind, .ref a1_weight, .ref a1_now, .int o10.1, .int o10.2.1, .int o10.2.2.1, .int o10.2.2.2.1]), (a1_kind, aI E 6 o10.2.2.2.2.1), (a1_weight, aI E 6 o10.2.2.2.2.2.1), (a1_now, oB 3 [.ref a1_now_ice, .ref a1_now_juice, .ref a1_now_fors, .int o10.2.2.2.2.2.2.1, .int o10.2.2.2.2.2.2.2.1, .int o10.2.2.2.2.2.2.2.2.1]), (a1_now_ice, aI E 12 o10.2.2.2.2.2.2.2.2.2.1), (a1_now_juice, aI E 5 o10.2.2.2.2.2.2.2.2.2.2.1), (a1_now_fors, aI E 5 o10.2.2.2.2.2.2.2.2.2.2.2)]) dX6_readInto_91 lkX6_63 rfl ⟨rfl, rfl⟩ ⟨by decide, by decide⟩ rfl rfl rfl rfl (Nat.le_of_ble_eq_true rfl) rfl rfl rfl ?_
        refine g_st (st' := []) rfl ?_
        refine g_aload_n k 1 dX6_readInto_94 rfl rfl ?_
        refine g_get k cfX0 3 9 dX6_readInto_95 lkX6_32 (by decide) rfl rfl ?_
        obtain rfl := Option.some.inj hf
        exact g_iret k r dX6_readInto_98 ⟨rfl, rfl⟩
      · replace hf := ite_t c9 hf
        refine g_bipush k dX6_readInto_50 bi_m20 ?_
        refine g_aload_n k 0 dX6_readInto_52 rfl rfl ?_
        refine g_get k cfX6 3 0 dX6_readInto_53 lkX6_26 (by decide) rfl rfl ?_
        refine g_isub k dX6_readInto_56 ?_
        obtain rfl := Option.some.inj hf
        exact g_iret k r dX6_readInto_57 ⟨rfl, rfl⟩
