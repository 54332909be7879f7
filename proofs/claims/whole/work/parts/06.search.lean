abbrev rmX4_judge : Room := { frames := 2, cells := 0, slots := 0, locals := 48 }
def fX4_judge (N : Nat) (va0_length : Int32) (va0_farthest : Int32) (va0_leastIce : Int32) (va0_order : Nat → Int32) (va0_bestOrder : Nat → Int32) (va1_cells : Int32) (va2_boat : Int32) (va2_ice : Nat → Int32)  : Option (Int32 × Int32 × (Nat → Int32)) :=
  bnd (fX0_iceAhead N va1_cells va2_boat va2_ice) fun o1 =>
  if va0_farthest < va2_boat then
  cpb 0 0 va0_length 5 5 (some (va2_boat, o1, (va_cpy va0_order va0_bestOrder 0 0 va0_length.toNatClampNeg)))
  else
  if va2_boat = va0_farthest then
  if va0_leastIce ≤ o1 then
  some (va0_farthest, va0_leastIce, va0_bestOrder)
  else
  cpb 0 0 va0_length 5 5 (some (va2_boat, o1, (va_cpy va0_order va0_bestOrder 0 0 va0_length.toNatClampNeg)))
  else
  some (va0_farthest, va0_leastIce, va0_bestOrder)
set_option maxHeartbeats 4000000 in
set_option maxRecDepth 100000 in
theorem ctX4_judge (l : Launch) (E : Ev) (N : Nat) (a0 : Nat) (a0_steps : Nat) (a0_order : Nat) (a0_bestOrder : Nat) (a1 : Nat) (a1_kind : Nat) (a1_weight : Nat) (a1_now : Nat) (a2 : Nat) (a2_ice : Nat) (a2_juice : Nat) (a2_fors : Nat) (va0_length : Int32) (va0_eachOnce : Int32) (va0_farthest : Int32) (va0_leastIce : Int32) (va0_order : Nat → Int32) (va0_bestOrder : Nat → Int32) (va1_cells : Int32) (va1_people : Int32) (va1_sayings : Int32) (va1_frost : Int32) (va2_boat : Int32) (va2_minute : Int32) (va2_draw : Int32) (va2_ice : Nat → Int32)  (out : Int32 × Int32 × (Nat → Int32)) (hf : fX4_judge N va0_length va0_farthest va0_leastIce va0_order va0_bestOrder va1_cells va2_boat va2_ice  = some out) : Ct l E yX4_judge cX4_judge 4 none rmX4_judge [.ref a0, .ref a1, .ref a2] [(a0, oB 4 [.ref a0_steps, .ref a0_order, .ref a0_bestOrder, .int va0_length, .int va0_eachOnce, .int va0_farthest, .int va0_leastIce]), (a0_order, aI E 5 va0_order), (a0_bestOrder, aI E 5 va0_bestOrder), (a1, oB 0 [.ref a1_kind, .ref a1_weight, .ref a1_now, .int va1_cells, .int va1_people, .int va1_sayings, .int va1_frost]), (a2, oB 3 [.ref a2_ice, .ref a2_juice, .ref a2_fors, .int va2_boat, .int va2_minute, .int va2_draw]), (a2_ice, aI E 12 va2_ice)] (Pe none [(a0, oB 4 [.ref a0_steps, .ref a0_order, .ref a0_bestOrder, .int va0_length, .int va0_eachOnce, .int out.1, .int out.2.1]), (a0_order, aI E 5 va0_order), (a0_bestOrder, aI E 5 out.2.2), (a1, oB 0 [.ref a1_kind, .ref a1_weight, .ref a1_now, .int va1_cells, .int va1_people, .int va1_sayings, .int va1_frost]), (a2, oB 3 [.ref a2_ice, .ref a2_juice, .ref a2_fors, .int va2_boat, .int va2_minute, .int va2_draw]), (a2_ice, aI E 12 va2_ice)]) := by
  refine Ct.of rfl (Nat.le_of_ble_eq_true rfl) (fun K hL k r hin => ?_)
  subst hL
  unfold fX4_judge at hf
  show G E K 4 0 0 [(0, .ref a0), (1, .ref a1), (2, .ref a2)] [] [(a0, oB 4 [.ref a0_steps, .ref a0_order, .ref a0_bestOrder, .int va0_length, .int va0_eachOnce, .int va0_farthest, .int va0_leastIce]), (a0_order, aI E 5 va0_order), (a0_bestOrder, aI E 5 va0_bestOrder), (a1, oB 0 [.ref a1_kind, .ref a1_weight, .ref a1_now, .int va1_cells, .int va1_people, .int va1_sayings, .int va1_frost]), (a2, oB 3 [.ref a2_ice, .ref a2_juice, .ref a2_fors, .int va2_boat, .int va2_minute, .int va2_draw]), (a2_ice, aI E 12 va2_ice)] 0
  refine g_aload_n k 1 dX4_judge_0 rfl rfl ?_
  refine g_aload_n k 2 dX4_judge_1 rfl rfl ?_
  obtain ⟨o1, ho2, hf⟩ := bnd_some hf
  refine g_cv k miX0_iceAhead mvX0_iceAhead (ctX0_iceAhead (kL K) E N a1 a1_kind a1_weight a1_now a2 a2_ice a2_juice a2_fors va1_cells va1_people va1_sayings va1_frost va2_boat va2_minute va2_draw va2_ice  o1 ho2) [3, 4, 5] 0 (ws' := [(a0, oB 4 [.ref a0_steps, .ref a0_order, .ref a0_bestOrder, .int va0_length, .int va0_eachOnce, .int va0_farthest, .int va0_leastIce]), (a0_order, aI E 5 va0_order), (a0_bestOrder, aI E 5 va0_bestOrder), (a1, oB 0 [.ref a1_kind, .ref a1_weight, .ref a1_now, .int va1_cells, .int va1_people, .int va1_sayings, .int va1_frost]), (a2, oB 3 [.ref a2_ice, .ref a2_juice, .ref a2_fors, .int va2_boat, .int va2_minute, .int va2_draw]), (a2_ice, aI E 12 va2_ice)]) dX4_judge_2 lkX4_70 rfl ⟨rfl, rfl⟩ ⟨by decide, by decide⟩ rfl rfl rfl rfl (Nat.le_of_ble_eq_true rfl) rfl rfl rfl ?_
  refine g_st (st' := [.int o1]) rfl ?_
  refine g_istore_n k (lv' := [(3, .int o1), (0, .ref a0), (1, .ref a1), (2, .ref a2)]) dX4_judge_5 rfl (by decide) rfl ?_
  refine g_aload_n k 3 dX4_judge_6 rfl rfl ?_
  refine g_get k cfX3 3 4 dX4_judge_7 lkX4_74 (by decide) rfl rfl ?_
  refine g_aload_n k 1 dX4_judge_10 rfl rfl ?_
  refine g_get k cfX4 5 0 dX4_judge_11 lkX4_32 (by decide) rfl rfl ?_
  refine g_icmp_gt k (tgt := 36) dX4_judge_14 (by decide) (fun c3 => ?_) (fun c3 => ?_)
  · replace hf := ite_t c3 hf
    refine g_aload_n k 1 dX4_judge_36 rfl rfl ?_
    refine g_aload_n k 3 dX4_judge_37 rfl rfl ?_
    refine g_get k cfX3 3 4 dX4_judge_38 lkX4_74 (by decide) rfl rfl ?_
    refine g_put k cfX4 5 0 (ws' := [(a0, oB 4 [.ref a0_steps, .ref a0_order, .ref a0_bestOrder, .int va0_length, .int va0_eachOnce, .int va2_boat, .int va0_leastIce]), (a0_order, aI E 5 va0_order), (a0_bestOrder, aI E 5 va0_bestOrder), (a1, oB 0 [.ref a1_kind, .ref a1_weight, .ref a1_now, .int va1_cells, .int va1_people, .int va1_sayings, .int va1_frost]), (a2, oB 3 [.ref a2_ice, .ref a2_juice, .ref a2_fors, .int va2_boat, .int va2_minute, .int va2_draw]), (a2_ice, aI E 12 va2_ice)]) dX4_judge_41 lkX4_32 (by decide) rfl rfl rfl rfl (Nat.le_of_ble_eq_true rfl) rfl ?_
    refine g_aload_n k 1 dX4_judge_44 rfl rfl ?_
    refine g_iload_n k 0 dX4_judge_45 rfl rfl ?_
    refine g_put k cfX4 6 0 (ws' := [(a0, oB 4 [.ref a0_steps, .ref a0_order, .ref a0_bestOrder, .int va0_length, .int va0_eachOnce, .int va2_boat, .int o1]), (a0_order, aI E 5 va0_order), (a0_bestOrder, aI E 5 va0_bestOrder), (a1, oB 0 [.ref a1_kind, .ref a1_weight, .ref a1_now, .int va1_cells, .int va1_people, .int va1_sayings, .int va1_frost]), (a2, oB 3 [.ref a2_ice, .ref a2_juice, .ref a2_fors, .int va2_boat, .int va2_minute, .int va2_draw]), (a2_ice, aI E 12 va2_ice)]) dX4_judge_46 lkX4_35 (by decide) rfl rfl rfl rfl (Nat.le_of_ble_eq_true rfl) rfl ?_
    refine g_aload_n k 1 dX4_judge_49 rfl rfl ?_
    refine g_get k cfX4 1 0 dX4_judge_50 lkX4_17 (by decide) rfl rfl ?_
    refine g_iconst k dX4_judge_53 ic_0 ?_
    refine g_aload_n k 1 dX4_judge_54 rfl rfl ?_
    refine g_get k cfX4 2 0 dX4_judge_55 lkX4_21 (by decide) rfl rfl ?_
    refine g_iconst k dX4_judge_58 ic_0 ?_
    refine g_aload_n k 1 dX4_judge_59 rfl rfl ?_
    refine g_get k cfX4 3 0 dX4_judge_60 lkX4_24 (by decide) rfl rfl ?_
    obtain ⟨hc4, hf⟩ := cpb_some hf
    refine g_copyI k 1 2 (f := va0_order) (g := va0_bestOrder) (ws' := [(a0, oB 4 [.ref a0_steps, .ref a0_order, .ref a0_bestOrder, .int va0_length, .int va0_eachOnce, .int va2_boat, .int o1]), (a0_order, aI E 5 va0_order), (a0_bestOrder, aI E 5 (va_cpy va0_order va0_bestOrder 0 0 va0_length.toNatClampNeg)), (a1, oB 0 [.ref a1_kind, .ref a1_weight, .ref a1_now, .int va1_cells, .int va1_people, .int va1_sayings, .int va1_frost]), (a2, oB 3 [.ref a2_ice, .ref a2_juice, .ref a2_fors, .int va2_boat, .int va2_minute, .int va2_draw]), (a2_ice, aI E 12 va2_ice)]) dX4_judge_63 lkX4_77 rfl rfl hc4.1 hc4.2.1 hc4.2.2.1 hc4.2.2.2.1 hc4.2.2.2.2 (by decide) (Nat.le_of_ble_eq_true rfl) cl_0 cl_0 rfl rfl ?_
    obtain rfl := Option.some.inj hf
    exact g_vret k r dX4_judge_66 ⟨rfl, rfl⟩
  · replace hf := ite_f c3 hf
    refine g_aload_n k 3 dX4_judge_17 rfl rfl ?_
    refine g_get k cfX3 3 4 dX4_judge_18 lkX4_74 (by decide) rfl rfl ?_
    refine g_aload_n k 1 dX4_judge_21 rfl rfl ?_
    refine g_get k cfX4 5 0 dX4_judge_22 lkX4_32 (by decide) rfl rfl ?_
    refine g_icmp_ne k (tgt := 66) dX4_judge_25 (by decide) (fun c5 => ?_) (fun c5 => ?_)
    · replace hf := ite_f c5 hf
      obtain rfl := Option.some.inj hf
      exact g_vret k r dX4_judge_66 ⟨rfl, rfl⟩
    · replace hf := ite_t c5 hf
      refine g_iload_n k 0 dX4_judge_28 rfl rfl ?_
      refine g_aload_n k 1 dX4_judge_29 rfl rfl ?_
      refine g_get k cfX4 6 0 dX4_judge_30 lkX4_35 (by decide) rfl rfl ?_
      refine g_icmp_ge k (tgt := 66) dX4_judge_33 (by decide) (fun c6 => ?_) (fun c6 => ?_)
      · replace hf := ite_t c6 hf
        obtain rfl := Option.some.inj hf
        exact g_vret k r dX4_judge_66 ⟨rfl, rfl⟩
      · replace hf := ite_f c6 hf
        refine g_aload_n k 1 dX4_judge_36 rfl rfl ?_
        refine g_aload_n k 3 dX4_judge_37 rfl rfl ?_
        refine g_get k cfX3 3 4 dX4_judge_38 lkX4_74 (by decide) rfl rfl ?_
        refine g_put k cfX4 5 0 (ws' := [(a0, oB 4 [.ref a0_steps, .ref a0_order, .ref a0_bestOrder, .int va0_length, .int va0_eachOnce, .int va2_boat, .int va0_leastIce]), (a0_order, aI E 5 va0_order), (a0_bestOrder, aI E 5 va0_bestOrder), (a1, oB 0 [.ref a1_kind, .ref a1_weight, .ref a1_now, .int va1_cells, .int va1_people, .int va1_sayings, .int va1_frost]), (a2, oB 3 [.ref a2_ice, .ref a2_juice, .ref a2_fors, .int va2_boat, .int va2_minute, .int va2_draw]), (a2_ice, aI E 12 va2_ice)]) dX4_judge_41 lkX4_32 (by decide) rfl rfl rfl rfl (Nat.le_of_ble_eq_true rfl) rfl ?_
        refine g_aload_n k 1 dX4_judge_44 rfl rfl ?_
        refine g_iload_n k 0 dX4_judge_45 rfl rfl ?_
        refine g_put k cfX4 6 0 (ws' := [(a0, oB 4 [.ref a0_steps, .ref a0_order, .ref a0_bestOrder, .int va0_length, .int va0_eachOnce, .int va2_boat, .int o1]), (a0_order, aI E 5 va0_order), (a0_bestOrder, aI E 5 va0_bestOrder), (a1, oB 0 [.ref a1_kind, .ref a1_weight, .ref a1_now, .int va1_cells, .int va1_people, .int va1_sayings, .int va1_frost]), (a2, oB 3 [.ref a2_ice, .ref a2_juice, .ref a2_fors, .int va2_boat, .int va2_minute, .int va2_draw]), (a2_ice, aI E 12 va2_ice)]) dX4_judge_46 lkX4_35 (by decide) rfl rfl rfl rfl (Nat.le_of_ble_eq_true rfl) rfl ?_
        refine g_aload_n k 1 dX4_judge_49 rfl rfl ?_
        refine g_get k cfX4 1 0 dX4_judge_50 lkX4_17 (by decide) rfl rfl ?_
        refine g_iconst k dX4_judge_53 ic_0 ?_
        refine g_aload_n k 1 dX4_judge_54 rfl rfl ?_
        refine g_get k cfX4 2 0 dX4_judge_55 lkX4_21 (by decide) rfl rfl ?_
        refine g_iconst k dX4_judge_58 ic_0 ?_
        refine g_aload_n k 1 dX4_judge_59 rfl rfl ?_
        refine g_get k cfX4 3 0 dX4_judge_60 lkX4_24 (by decide) rfl rfl ?_
        obtain ⟨hc7, hf⟩ := cpb_some hf
        refine g_copyI k 1 2 (f := va0_order) (g := va0_bestOrder) (ws' := [(a0, oB 4 [.ref a0_steps, .ref a0_order, .ref a0_bestOrder, .int va0_length, .int va0_eachOnce, .int va2_boat, .int o1]), (a0_order, aI E 5 va0_order), (a0_bestOrder, aI E 5 (va_cpy va0_order va0_bestOrder 0 0 va0_length.toNatClampNeg)), (a1, oB 0 [.ref a1_kind, .ref a1_weight, .ref a1_now, .int va1_cells, .int va1_people, .int va1_sayings, .int va1_frost]), (a2, oB 3 [.ref a2_ice, .ref a2_juice, .ref a2_fors, .int va2_boat, .int va2_minute, .int va2_draw]), (a2_ice, aI E 12 va2_ice)]) dX4_judge_63 lkX4_77 rfl rfl hc7.1 hc7.2.1 hc7.2.2.1 hc7.2.2.2.1 hc7.2.2.2.2 (by decide) (Nat.le_of_ble_eq_true rfl) cl_0 cl_0 rfl rfl ?_
        obtain rfl := Option.some.inj hf
        exact g_vret k r dX4_judge_66 ⟨rfl, rfl⟩
