abbrev rmX3_take : Room := { frames := 1, cells := 0, slots := 0, locals := 48 }
def fX3_take (N : Nat) (va0_boat : Int32) (va0_minute : Int32) (va0_draw : Int32) (va0_ice : Nat → Int32) (va0_juice : Nat → Int32) (va0_fors : Nat → Int32) (va1_boat : Int32) (va1_minute : Int32) (va1_draw : Int32) (va1_ice : Nat → Int32) (va1_juice : Nat → Int32) (va1_fors : Nat → Int32)  : Option (Int32 × Int32 × Int32 × (Nat → Int32) × (Nat → Int32) × (Nat → Int32)) :=
  some (va1_boat, va1_minute, va1_draw, (va_cpy va1_ice va0_ice 0 0 12), (va_cpy va1_juice va0_juice 0 0 5), (va_cpy va1_fors va0_fors 0 0 5))
set_option maxHeartbeats 4000000 in
set_option maxRecDepth 100000 in
theorem ctX3_take (l : Launch) (E : Ev) (N : Nat) (a0 : Nat) (a0_ice : Nat) (a0_juice : Nat) (a0_fors : Nat) (a1 : Nat) (a1_ice : Nat) (a1_juice : Nat) (a1_fors : Nat) (va0_boat : Int32) (va0_minute : Int32) (va0_draw : Int32) (va0_ice : Nat → Int32) (va0_juice : Nat → Int32) (va0_fors : Nat → Int32) (va1_boat : Int32) (va1_minute : Int32) (va1_draw : Int32) (va1_ice : Nat → Int32) (va1_juice : Nat → Int32) (va1_fors : Nat → Int32)  (out : Int32 × Int32 × Int32 × (Nat → Int32) × (Nat → Int32) × (Nat → Int32)) (hf : fX3_take N va0_boat va0_minute va0_draw va0_ice va0_juice va0_fors va1_boat va1_minute va1_draw va1_ice va1_juice va1_fors  = some out) : Ct l E yX3_take cX3_take 2 none rmX3_take [.ref a0, .ref a1] [(a0, oB 3 [.ref a0_ice, .ref a0_juice, .ref a0_fors, .int va0_boat, .int va0_minute, .int va0_draw]), (a0_ice, aI E 12 va0_ice), (a0_juice, aI E 5 va0_juice), (a0_fors, aI E 5 va0_fors), (a1, oB 3 [.ref a1_ice, .ref a1_juice, .ref a1_fors, .int va1_boat, .int va1_minute, .int va1_draw]), (a1_ice, aI E 12 va1_ice), (a1_juice, aI E 5 va1_juice), (a1_fors, aI E 5 va1_fors)] (Pe none [(a0, oB 3 [.ref a0_ice, .ref a0_juice, .ref a0_fors, .int out.1, .int out.2.1, .int out.2.2.1]), (a0_ice, aI E 12 out.2.2.2.1), (a0_juice, aI E 5 out.2.2.2.2.1), (a0_fors, aI E 5 out.2.2.2.2.2), (a1, oB 3 [.ref a1_ice, .ref a1_juice, .ref a1_fors, .int va1_boat, .int va1_minute, .int va1_draw]), (a1_ice, aI E 12 va1_ice), (a1_juice, aI E 5 va1_juice), (a1_fors, aI E 5 va1_fors)]) := by
  refine Ct.of rfl (Nat.le_of_ble_eq_true rfl) (fun K hL k r hin => ?_)
  subst hL
  unfold fX3_take at hf
  show G E K 2 0 0 [(0, .ref a0), (1, .ref a1)] [] [(a0, oB 3 [.ref a0_ice, .ref a0_juice, .ref a0_fors, .int va0_boat, .int va0_minute, .int va0_draw]), (a0_ice, aI E 12 va0_ice), (a0_juice, aI E 5 va0_juice), (a0_fors, aI E 5 va0_fors), (a1, oB 3 [.ref a1_ice, .ref a1_juice, .ref a1_fors, .int va1_boat, .int va1_minute, .int va1_draw]), (a1_ice, aI E 12 va1_ice), (a1_juice, aI E 5 va1_juice), (a1_fors, aI E 5 va1_fors)] 0
  refine g_aload_n k 1 dX3_take_0 rfl rfl ?_
  refine g_get k cfX3 0 4 dX3_take_1 lkX3_9 (by decide) rfl rfl ?_
  refine g_iconst k dX3_take_4 ic_0 ?_
  refine g_aload_n k 0 dX3_take_5 rfl rfl ?_
  refine g_get k cfX3 0 0 dX3_take_6 lkX3_9 (by decide) rfl rfl ?_
  refine g_iconst k dX3_take_9 ic_0 ?_
  refine g_bipush k dX3_take_10 bi_12 ?_
  refine g_copyI k 5 1 (f := va1_ice) (g := va0_ice) (ws' := [(a0, oB 3 [.ref a0_ice, .ref a0_juice, .ref a0_fors, .int va0_boat, .int va0_minute, .int va0_draw]), (a0_ice, aI E 12 (va_cpy va1_ice va0_ice 0 0 12)), (a0_juice, aI E 5 va0_juice), (a0_fors, aI E 5 va0_fors), (a1, oB 3 [.ref a1_ice, .ref a1_juice, .ref a1_fors, .int va1_boat, .int va1_minute, .int va1_draw]), (a1_ice, aI E 12 va1_ice), (a1_juice, aI E 5 va1_juice), (a1_fors, aI E 5 va1_fors)]) dX3_take_12 lkX3_31 rfl rfl (by decide) (by decide) (by decide) (by decide) (by decide) (by decide) (Nat.le_of_ble_eq_true rfl) cl_0 cl_0 cl_12 rfl ?_
  refine g_aload_n k 1 dX3_take_15 rfl rfl ?_
  refine g_get k cfX3 1 4 dX3_take_16 lkX3_15 (by decide) rfl rfl ?_
  refine g_iconst k dX3_take_19 ic_0 ?_
  refine g_aload_n k 0 dX3_take_20 rfl rfl ?_
  refine g_get k cfX3 1 0 dX3_take_21 lkX3_15 (by decide) rfl rfl ?_
  refine g_iconst k dX3_take_24 ic_0 ?_
  refine g_iconst k dX3_take_25 ic_5 ?_
  refine g_copyI k 6 2 (f := va1_juice) (g := va0_juice) (ws' := [(a0, oB 3 [.ref a0_ice, .ref a0_juice, .ref a0_fors, .int va0_boat, .int va0_minute, .int va0_draw]), (a0_ice, aI E 12 (va_cpy va1_ice va0_ice 0 0 12)), (a0_juice, aI E 5 (va_cpy va1_juice va0_juice 0 0 5)), (a0_fors, aI E 5 va0_fors), (a1, oB 3 [.ref a1_ice, .ref a1_juice, .ref a1_fors, .int va1_boat, .int va1_minute, .int va1_draw]), (a1_ice, aI E 12 va1_ice), (a1_juice, aI E 5 va1_juice), (a1_fors, aI E 5 va1_fors)]) dX3_take_26 lkX3_31 rfl rfl (by decide) (by decide) (by decide) (by decide) (by decide) (by decide) (Nat.le_of_ble_eq_true rfl) cl_0 cl_0 cl_5 rfl ?_
  refine g_aload_n k 1 dX3_take_29 rfl rfl ?_
  refine g_get k cfX3 2 4 dX3_take_30 lkX3_18 (by decide) rfl rfl ?_
  refine g_iconst k dX3_take_33 ic_0 ?_
  refine g_aload_n k 0 dX3_take_34 rfl rfl ?_
  refine g_get k cfX3 2 0 dX3_take_35 lkX3_18 (by decide) rfl rfl ?_
  refine g_iconst k dX3_take_38 ic_0 ?_
  refine g_iconst k dX3_take_39 ic_5 ?_
  refine g_copyI k 7 3 (f := va1_fors) (g := va0_fors) (ws' := [(a0, oB 3 [.ref a0_ice, .ref a0_juice, .ref a0_fors, .int va0_boat, .int va0_minute, .int va0_draw]), (a0_ice, aI E 12 (va_cpy va1_ice va0_ice 0 0 12)), (a0_juice, aI E 5 (va_cpy va1_juice va0_juice 0 0 5)), (a0_fors, aI E 5 (va_cpy va1_fors va0_fors 0 0 5)), (a1, oB 3 [.ref a1_ice, .ref a1_juice, .ref a1_fors, .int va1_boat, .int va1_minute, .int va1_draw]), (a1_ice, aI E 12 va1_ice), (a1_juice, aI E 5 va1_juice), (a1_fors, aI E 5 va1_fors)]) dX3_take_40 lkX3_31 rfl rfl (by decide) (by decide) (by decide) (by decide) (by decide) (by decide) (Nat.le_of_ble_eq_true rfl) cl_0 cl_0 cl_5 rfl ?_
  refine g_aload_n k 0 dX3_take_43 rfl rfl ?_
  refine g_aload_n k 1 dX3_take_44 rfl rfl ?_
  refine g_get k cfX3 3 4 dX3_take_45 lkX3_21 (by decide) rfl rfl ?_
  refine g_put k cfX3 3 0 (ws' := [(a0, oB 3 [.ref a0_ice, .ref a0_juice, .ref a0_fors, .int va1_boat, .int va0_minute, .int va0_draw]), (a0_ice, aI E 12 (va_cpy va1_ice va0_ice 0 0 12)), (a0_juice, aI E 5 (va_cpy va1_juice va0_juice 0 0 5)), (a0_fors, aI E 5 (va_cpy va1_fors va0_fors 0 0 5)), (a1, oB 3 [.ref a1_ice, .ref a1_juice, .ref a1_fors, .int va1_boat, .int va1_minute, .int va1_draw]), (a1_ice, aI E 12 va1_ice), (a1_juice, aI E 5 va1_juice), (a1_fors, aI E 5 va1_fors)]) dX3_take_48 lkX3_21 (by decide) rfl rfl rfl rfl (Nat.le_of_ble_eq_true rfl) rfl ?_
  refine g_aload_n k 0 dX3_take_51 rfl rfl ?_
  refine g_aload_n k 1 dX3_take_52 rfl rfl ?_
  refine g_get k cfX3 4 4 dX3_take_53 lkX3_25 (by decide) rfl rfl ?_
  refine g_put k cfX3 4 0 (ws' := [(a0, oB 3 [.ref a0_ice, .ref a0_juice, .ref a0_fors, .int va1_boat, .int va1_minute, .int va0_draw]), (a0_ice, aI E 12 (va_cpy va1_ice va0_ice 0 0 12)), (a0_juice, aI E 5 (va_cpy va1_juice va0_juice 0 0 5)), (a0_fors, aI E 5 (va_cpy va1_fors va0_fors 0 0 5)), (a1, oB 3 [.ref a1_ice, .ref a1_juice, .ref a1_fors, .int va1_boat, .int va1_minute, .int va1_draw]), (a1_ice, aI E 12 va1_ice), (a1_juice, aI E 5 va1_juice), (a1_fors, aI E 5 va1_fors)]) dX3_take_56 lkX3_25 (by decide) rfl rfl rfl rfl (Nat.le_of_ble_eq_true rfl) rfl ?_
  refine g_aload_n k 0 dX3_take_59 rfl rfl ?_
  refine g_aload_n k 1 dX3_take_60 rfl rfl ?_
  refine g_get k cfX3 5 4 dX3_take_61 lkX3_28 (by decide) rfl rfl ?_
  refine g_put k cfX3 5 0 (ws' := [(a0, oB 3 [.ref a0_ice, .ref a0_juice, .ref a0_fors, .int va1_boat, .int va1_minute, .int va1_draw]), (a0_ice, aI E 12 (va_cpy va1_ice va0_ice 0 0 12)), (a0_juice, aI E 5 (va_cpy va1_juice va0_juice 0 0 5)), (a0_fors, aI E 5 (va_cpy va1_fors va0_fors 0 0 5)), (a1, oB 3 [.ref a1_ice, .ref a1_juice, .ref a1_fors, .int va1_boat, .int va1_minute, .int va1_draw]), (a1_ice, aI E 12 va1_ice), (a1_juice, aI E 5 va1_juice), (a1_fors, aI E 5 va1_fors)]) dX3_take_64 lkX3_28 (by decide) rfl rfl rfl rfl (Nat.le_of_ble_eq_true rfl) rfl ?_
  obtain rfl := Option.some.inj hf
  exact g_vret k r dX3_take_67 ⟨rfl, rfl⟩
abbrev rmX3_isEven : Room := { frames := 0, cells := 0, slots := 0, locals := 0 }
def fX3_isEven (N : Nat) (va0_minute : Int32)  : Option (Int32) :=
  if (irem va0_minute 2) = 0 then
  some (1)
  else
  some (0)
set_option maxHeartbeats 4000000 in
set_option maxRecDepth 100000 in
theorem ctX3_isEven (l : Launch) (E : Ev) (N : Nat) (a0 : Nat) (a0_ice : Nat) (a0_juice : Nat) (a0_fors : Nat) (va0_boat : Int32) (va0_minute : Int32) (va0_draw : Int32)  (out : Int32) (hf : fX3_isEven N va0_minute  = some out) : Ct l E yX3_isEven cX3_isEven 1 (some .boolean) rmX3_isEven [.ref a0] [(a0, oB 3 [.ref a0_ice, .ref a0_juice, .ref a0_fors, .int va0_boat, .int va0_minute, .int va0_draw])] (Pe (some (.int out)) [(a0, oB 3 [.ref a0_ice, .ref a0_juice, .ref a0_fors, .int va0_boat, .int va0_minute, .int va0_draw])]) := by
  refine Ct.of rfl (Nat.le_of_ble_eq_true rfl) (fun K hL k r hin => ?_)
  subst hL
  unfold fX3_isEven at hf
  show G E K 1 0 0 [(0, .ref a0)] [] [(a0, oB 3 [.ref a0_ice, .ref a0_juice, .ref a0_fors, .int va0_boat, .int va0_minute, .int va0_draw])] 0
  refine g_aload_n k 0 dX3_isEven_0 rfl rfl ?_
  refine g_get k cfX3 4 0 dX3_isEven_1 lkX3_25 (by decide) rfl rfl ?_
  refine g_iconst k dX3_isEven_4 ic_2 ?_
  refine g_irem k dX3_isEven_5 (by decide) ?_
  refine g_if_ne k (tgt := 13) dX3_isEven_6 (by decide) (fun c1 => ?_) (fun c1 => ?_)
  · replace hf := ite_f c1 hf
    refine g_iconst k dX3_isEven_13 ic_0 ?_
    obtain rfl := Option.some.inj hf
    exact g_zret k (rfl) r dX3_isEven_14 ⟨rfl, rfl⟩
  · replace hf := ite_t c1 hf
    refine g_iconst k dX3_isEven_9 ic_1 ?_
    refine g_goto k (tgt := 14) dX3_isEven_10 (by decide) ?_
    obtain rfl := Option.some.inj hf
    exact g_zret k (rfl) r dX3_isEven_14 ⟨rfl, rfl⟩
abbrev rmX0_take : Room := { frames := 2, cells := 0, slots := 0, locals := 69 }
def fX0_take (N : Nat) (va0_cells : Int32) (va0_people : Int32) (va0_sayings : Int32) (va0_frost : Int32) (va0_kind : Nat → Int32) (va0_weight : Nat → Int32) (va0_now_boat : Int32) (va0_now_minute : Int32) (va0_now_draw : Int32) (va0_now_ice : Nat → Int32) (va0_now_juice : Nat → Int32) (va0_now_fors : Nat → Int32) (va1_cells : Int32) (va1_people : Int32) (va1_sayings : Int32) (va1_frost : Int32) (va1_kind : Nat → Int32) (va1_weight : Nat → Int32) (va1_now_boat : Int32) (va1_now_minute : Int32) (va1_now_draw : Int32) (va1_now_ice : Nat → Int32) (va1_now_juice : Nat → Int32) (va1_now_fors : Nat → Int32)  : Option (Int32 × Int32 × Int32 × Int32 × (Nat → Int32) × (Nat → Int32) × Int32 × Int32 × Int32 × (Nat → Int32) × (Nat → Int32) × (Nat → Int32)) :=
  bnd (fX3_take N va0_now_boat va0_now_minute va0_now_draw va0_now_ice va0_now_juice va0_now_fors va1_now_boat va1_now_minute va1_now_draw va1_now_ice va1_now_juice va1_now_fors) fun o1 =>
  some (va1_cells, va1_people, va1_sayings, va1_frost, (va_cpy va1_kind va0_kind 0 0 6), (va_cpy va1_weight va0_weight 0 0 6), o1.1, o1.2.1, o1.2.2.1, o1.2.2.2.1, o1.2.2.2.2.1, o1.2.2.2.2.2)
set_option maxHeartbeats 4000000 in
set_option maxRecDepth 100000 in
theorem ctX0_take (l : Launch) (E : Ev) (N : Nat) (a0 : Nat) (a0_kind : Nat) (a0_weight : Nat) (a0_now : Nat) (a0_now_ice : Nat) (a0_now_juice : Nat) (a0_now_fors : Nat) (a1 : Nat) (a1_kind : Nat) (a1_weight : Nat) (a1_now : Nat) (a1_now_ice : Nat) (a1_now_juice : Nat) (a1_now_fors : Nat) (va0_cells : Int32) (va0_people : Int32) (va0_sayings : Int32) (va0_frost : Int32) (va0_kind : Nat → Int32) (va0_weight : Nat → Int32) (va0_now_boat : Int32) (va0_now_minute : Int32) (va0_now_draw : Int32) (va0_now_ice : Nat → Int32) (va0_now_juice : Nat → Int32) (va0_now_fors : Nat → Int32) (va1_cells : Int32) (va1_people : Int32) (va1_sayings : Int32) (va1_frost : Int32) (va1_kind : Nat → Int32) (va1_weight : Nat → Int32) (va1_now_boat : Int32) (va1_now_minute : Int32) (va1_now_draw : Int32) (va1_now_ice : Nat → Int32) (va1_now_juice : Nat → Int32) (va1_now_fors : Nat → Int32)  (out : Int32 × Int32 × Int32 × Int32 × (Nat → Int32) × (Nat → Int32) × Int32 × Int32 × Int32 × (Nat → Int32) × (Nat → Int32) × (Nat → Int32)) (hf : fX0_take N va0_cells va0_people va0_sayings va0_frost va0_kind va0_weight va0_now_boat va0_now_minute va0_now_draw va0_now_ice va0_now_juice va0_now_fors va1_cells va1_people va1_sayings va1_frost va1_kind va1_weight va1_now_boat va1_now_minute va1_now_draw va1_now_ice va1_now_juice va1_now_fors  = some out) : Ct l E yX0_take cX0_take 2 none rmX0_take [.ref a0, .ref a1] [(a0, oB 0 [.ref a0_kind, .ref a0_weight, .ref a0_now, .int va0_cells, .int va0_people, .int va0_sayings, .int va0_frost]), (a0_kind, aI E 6 va0_kind), (a0_weight, aI E 6 va0_weight), (a0_now, oB 3 [.ref a0_now_ice, .ref a0_now_juice, .ref a0_now_fors, .int va0_now_boat, .int va0_now_minute, .int va0_now_draw]), (a0_now_ice, aI E 12 va0_now_ice), (a0_now_juice, aI E 5 va0_now_juice), (a0_now_fors, aI E 5 va0_now_fors), (a1, oB 0 [.ref a1_kind, .ref a1_weight, .ref a1_now, .int va1_cells, .int va1_people, .int va1_sayings, .int va1_frost]), (a1_kind, aI E 6 va1_kind), (a1_weight, aI E 6 va1_weight), (a1_now, oB 3 [.ref a1_now_ice, .ref a1_now_juice, .ref a1_now_fors, .int va1_now_boat, .int va1_now_minute, .int va1_now_draw]), (a1_now_ice, aI E 12 va1_now_ice), (a1_now_juice, aI E 5 va1_now_juice), (a1_now_fors, aI E 5 va1_now_fors)] (Pe none [(a0, oB 0 [.ref a0_kind, .ref a0_weight, .ref a0_now, .int out.1, .int out.2.1, .int out.2.2.1, .int out.2.2.2.1]), (a0_kind, aI E 6 out.2.2.2.2.1), (a0_weight, aI E 6 out.2.2.2.2.2.1), (a0_now, oB 3 [.ref a0_now_ice, .ref a0_now_juice, .ref a0_now_fors, .int out.2.2.2.2.2.2.1, .int out.2.2.2.2.2.2.2.1, .int out.2.2.2.2.2.2.2.2.1]), (a0_now_ice, aI E 12 out.2.2.2.2.2.2.2.2.2.1), (a0_now_juice, aI E 5 out.2.2.2.2.2.2.2.2.2.2.1), (a0_now_fors, aI E 5 out.2.2.2.2.2.2.2.2.2.2.2), (a1, oB 0 [.ref a1_kind, .ref a1_weight, .ref a1_now, .int va1_cells, .int va1_people, .int va1_sayings, .int va1_frost]), (a1_kind, aI E 6 va1_kind), (a1_weight, aI E 6 va1_weight), (a1_now, oB 3 [.ref a1_now_ice, .ref a1_now_juice, .ref a1_now_fors, .int va1_now_boat, .int va1_now_minute, .int va1_now_draw]), (a1_now_ice, aI E 12 va1_now_ice), (a1_now_juice, aI E 5 va1_now_juice), (a1_now_fors, aI E 5 va1_now_fors)]) := by
  refine Ct.of rfl (Nat.le_of_ble_eq_true rfl) (fun K hL k r hin => ?_)
  subst hL
  unfold fX0_take at hf
  show G E K 2 0 0 [(0, .ref a0), (1, .ref a1)] [] [(a0, oB 0 [.ref a0_kind, .ref a0_weight, .ref a0_now, .int va0_cells, .int va0_people, .int va0_sayings, .int va0_frost]), (a0_kind, aI E 6 va0_kind), (a0_weight, aI E 6 va0_weight), (a0_now, oB 3 [.ref a0_now_ice, .ref a0_now_juice, .ref a0_now_fors, .int va0_now_boat, .int va0_now_minute, .int va0_now_draw]), (a0_now_ice, aI E 12 va0_now_ice), (a0_now_juice, aI E 5 va0_now_juice), (a0_now_fors, aI E 5 va0_now_fors), (a1, oB 0 [.ref a1_kind, .ref a1_weight, .ref a1_now, .int va1_cells, .int va1_people, .int va1_sayings, .int va1_frost]), (a1_kind, aI E 6 va1_kind), (a1_weight, aI E 6 va1_weight), (a1_now, oB 3 [.ref a1_now_ice, .ref a1_now_juice, .ref a1_now_fors, .int va1_now_boat, .int va1_now_minute, .int va1_now_draw]), (a1_now_ice, aI E 12 va1_now_ice), (a1_now_juice, aI E 5 va1_now_juice), (a1_now_fors, aI E 5 va1_now_fors)] 0
  refine g_aload_n k 1 dX0_take_0 rfl rfl ?_
  refine g_get k cfX0 0 7 dX0_take_1 lkX0_9 (by decide) rfl rfl ?_
  refine g_iconst k dX0_take_4 ic_0 ?_
  refine g_aload_n k 0 dX0_take_5 rfl rfl ?_
  refine g_get k cfX0 0 0 dX0_take_6 lkX0_9 (by decide) rfl rfl ?_
  refine g_iconst k dX0_take_9 ic_0 ?_
  refine g_bipush k dX0_take_10 bi_6 ?_
  refine g_copyI k 8 1 (f := va1_kind) (g := va0_kind) (ws' := [(a0, oB 0 [.ref a0_kind, .ref a0_weight, .ref a0_now, .int va0_cells, .int va0_people, .int va0_sayings, .int va0_frost]), (a0_kind, aI E 6 (va_cpy va1_kind va0_kind 0 0 6)), (a0_weight, aI E 6 va0_weight), (a0_now, oB 3 [.ref a0_now_ice, .ref a0_now_juice, .ref a0_now_fors, .int va0_now_boat, .int va0_now_minute, .int va0_now_draw]), (a0_now_ice, aI E 12 va0_now_ice), (a0_now_juice, aI E 5 va0_now_juice), (a0_now_fors, aI E 5 va0_now_fors), (a1, oB 0 [.ref a1_kind, .ref a1_weight, .ref a1_now, .int va1_cells, .int va1_people, .int va1_sayings, .int va1_frost]), (a1_kind, aI E 6 va1_kind), (a1_weight, aI E 6 va1_weight), (a1_now, oB 3 [.ref a1_now_ice, .ref a1_now_juice, .ref a1_now_fors, .int va1_now_boat, .int va1_now_minute, .int va1_now_draw]), (a1_now_ice, aI E 12 va1_now_ice), (a1_now_juice, aI E 5 va1_now_juice), (a1_now_fors, aI E 5 va1_now_fors)]) dX0_take_12 lkX0_38 rfl rfl (by decide) (by decide) (by decide) (by decide) (by decide) (by decide) (Nat.le_of_ble_eq_true rfl) cl_0 cl_0 cl_6 rfl ?_
  refine g_aload_n k 1 dX0_take_15 rfl rfl ?_
  refine g_get k cfX0 1 7 dX0_take_16 lkX0_15 (by decide) rfl rfl ?_
  refine g_iconst k dX0_take_19 ic_0 ?_
  refine g_aload_n k 0 dX0_take_20 rfl rfl ?_
  refine g_get k cfX0 1 0 dX0_take_21 lkX0_15 (by decide) rfl rfl ?_
  refine g_iconst k dX0_take_24 ic_0 ?_
  refine g_bipush k dX0_take_25 bi_6 ?_
  refine g_copyI k 9 2 (f := va1_weight) (g := va0_weight) (ws' := [(a0, oB 0 [.ref a0_kind, .ref a0_weight, .ref a0_now, .int va0_cells, .int va0_people, .int va0_sayings, .int va0_frost]), (a0_kind, aI E 6 (va_cpy va1_kind va0_kind 0 0 6)), (a0_weight, aI E 6 (va_cpy va1_weight va0_weight 0 0 6)), (a0_now, oB 3 [.ref a0_now_ice, .ref a0_now_juice, .ref a0_now_fors, .int va0_now_boat, .int va0_now_minute, .int va0_now_draw]), (a0_now_ice, aI E 12 va0_now_ice), (a0_now_juice, aI E 5 va0_now_juice), (a0_now_fors, aI E 5 va0_now_fors), (a1, oB 0 [.ref a1_kind, .ref a1_weight, .ref a1_now, .int va1_cells, .int va1_people, .int va1_sayings, .int va1_frost]), (a1_kind, aI E 6 va1_kind), (a1_weight, aI E 6 va1_weight), (a1_now, oB 3 [.ref a1_now_ice, .ref a1_now_juice, .ref a1_now_fors, .int va1_now_boat, .int va1_now_minute, .int va1_now_draw]), (a1_now_ice, aI E 12 va1_now_ice), (a1_now_juice, aI E 5 va1_now_juice), (a1_now_fors, aI E 5 va1_now_fors)]) dX0_take_27 lkX0_38 rfl rfl (by decide) (by decide) (by decide) (by decide) (by decide) (by decide) (Nat.le_of_ble_eq_true rfl) cl_0 cl_0 cl_6 rfl ?_
  refine g_aload_n k 0 dX0_take_30 rfl rfl ?_
  refine g_get k cfX0 2 0 dX0_take_31 lkX0_21 (by decide) rfl rfl ?_
  refine g_aload_n k 1 dX0_take_34 rfl rfl ?_
  refine g_get k cfX0 2 7 dX0_take_35 lkX0_21 (by decide) rfl rfl ?_
  obtain ⟨o1, ho2, hf⟩ := bnd_some hf
  refine g_cv k miX3_take mvX3_take (ctX3_take (kL K) E N a0_now a0_now_ice a0_now_juice a0_now_fors a1_now a1_now_ice a1_now_juice a1_now_fors va0_now_boat va0_now_minute va0_now_draw va0_now_ice va0_now_juice va0_now_fors va1_now_boat va1_now_minute va1_now_draw va1_now_ice va1_now_juice va1_now_fors  o1 ho2) [3, 4, 5, 6, 10, 11, 12, 13] 0 (ws' := [(a0, oB 0 [.ref a0_kind, .ref a0_weight, .ref a0_now, .int va0_cells, .int va0_people, .int va0_sayings, .int va0_frost]), (a0_kind, aI E 6 (va_cpy va1_kind va0_kind 0 0 6)), (a0_weight, aI E 6 (va_cpy va1_weight va0_weight 0 0 6)), (a0_now, oB 3 [.ref a0_now_ice, .ref a0_now_juice, .ref a0_now_fors, .int o1.1, .int o1.2.1, .int o1.2.2.1]), (a0_now_ice, aI E 12 o1.2.2.2.1), (a0_now_juice, aI E 5 o1.2.2.2.2.1), (a0_now_fors, aI E 5 o1.2.2.2.2.2), (a1, oB 0 [.ref a1_kind, .ref a1_weight, .ref a1_now, .int va1_cells, .int va1_people, .int va1_sayings, .int va1_frost]), (a1_kind, aI E 6 va1_kind), (a1_weight, aI E 6 va1_weight), (a1_now, oB 3 [.ref a1_now_ice, .ref a1_now_juice, .ref a1_now_fors, .int va1_now_boat, .int va1_now_minute, .int va1_now_draw]), (a1_now_ice, aI E 12 va1_now_ice), (a1_now_juice, aI E 5 va1_now_juice), (a1_now_fors, aI E 5 va1_now_fors)]) dX0_take_38 lkX0_44 rfl ⟨rfl, rfl⟩ ⟨by decide, by decide⟩ rfl rfl rfl rfl (Nat.le_of_ble_eq_true rfl) rfl rfl rfl ?_
  refine g_st (st' := []) rfl ?_
  refine g_aload_n k 0 dX0_take_41 rfl rfl ?_
  refine g_aload_n k 1 dX0_take_42 rfl rfl ?_
  refine g_get k cfX0 3 7 dX0_take_43 lkX0_25 (by decide) rfl rfl ?_
  refine g_put k cfX0 3 0 (ws' := [(a0, oB 0 [.ref a0_kind, .ref a0_weight, .ref a0_now, .int va1_cells, .int va0_people, .int va0_sayings, .int va0_frost]), (a0_kind, aI E 6 (va_cpy va1_kind va0_kind 0 0 6)), (a0_weight, aI E 6 (va_cpy va1_weight va0_weight 0 0 6)), (a0_now, oB 3 [.ref a0_now_ice, .ref a0_now_juice, .ref a0_now_fors, .int o1.1, .int o1.2.1, .int o1.2.2.1]), (a0_now_ice, aI E 12 o1.2.2.2.1), (a0_now_juice, aI E 5 o1.2.2.2.2.1), (a0_now_fors, aI E 5 o1.2.2.2.2.2), (a1, oB 0 [.ref a1_kind, .ref a1_weight, .ref a1_now, .int va1_cells, .int va1_people, .int va1_sayings, .int va1_frost]), (a1_kind, aI E 6 va1_kind), (a1_weight, aI E 6 va1_weight), (a1_now, oB 3 [.ref a1_now_ice, .ref a1_now_juice, .ref a1_now_fors, .int va1_now_boat, .int va1_now_minute, .int va1_now_draw]), (a1_now_ice, aI E 12 va1_now_ice), (a1_now_juice, aI E 5 va1_now_juice), (a1_now_fors, aI E 5 va1_now_fors)]) dX0_take_46 lkX0_25 (by decide) rfl rfl rfl rfl (Nat.le_of_ble_eq_true rfl) rfl ?_
  refine g_aload_n k 0 dX0_take_49 rfl rfl ?_
  refine g_aload_n k 1 dX0_take_50 rfl rfl ?_
  refine g_get k cfX0 4 7 dX0_take_51 lkX0_29 (by decide) rfl rfl ?_
  refine g_put k cfX0 4 0 (ws' := [(a0, oB 0 [.ref a0_kind, .ref a0_weight, .ref a0_now, .int va1_cells, .int va1_people, .int va0_sayings, .int va0_frost]), (a0_kind, aI E 6 (va_cpy va1_kind va0_kind 0 0 6)), (a0_weight, aI E 6 (va_cpy va1_weight va0_weight 0 0 6)), (a0_now, oB 3 [.ref a0_now_ice, .ref a0_now_juice, .ref a0_now_fors, .int o1.1, .int o1.2.1, .int o1.2.2.1]), (a0_now_ice, aI E 12 o1.2.2.2.1), (a0_now_juice, aI E 5 o1.2.2.2.2.1), (a0_now_fors, aI E 5 o1.2.2.2.2.2), (a1, oB 0 [.ref a1_kind, .ref a1_weight, .ref a1_now, .int va1_cells, .int va1_people, .int va1_sayings, .int va1_frost]), (a1_kind, aI E 6 va1_kind), (a1_weight, aI E 6 va1_weight), (a1_now, oB 3 [.ref a1_now_ice, .ref a1_now_juice, .ref a1_now_fors, .int va1_now_boat, .int va1_now_minute, .int va1_now_draw]), (a1_now_ice, aI E 12 va1_now_ice), (a1_now_juice, aI E 5 va1_now_juice), (a1_now_fors, aI E 5 va1_now_fors)]) dX0_take_54 lkX0_29 (by decide) rfl rfl rfl rfl (Nat.le_of_ble_eq_true rfl) rfl ?_
  refine g_aload_n k 0 dX0_take_57 rfl rfl ?_
  refine g_aload_n k 1 dX0_take_58 rfl rfl ?_
  refine g_get k cfX0 5 7 dX0_take_59 lkX0_32 (by decide) rfl rfl ?_
  refine g_put k cfX0 5 0 (ws' := [(a0, oB 0 [.ref a0_kind, .ref a0_weight, .ref a0_now, .int va1_cells, .int va1_people, .int va1_sayings, .int va0_frost]), (a0_kind, aI E 6 (va_cpy va1_kind va0_kind 0 0 6)), (a0_weight, aI E 6 (va_cpy va1_weight va0_weight 0 0 6)), (a0_now, oB 3 [.ref a0_now_ice, .ref a0_now_juice, .ref a0_now_fors, .int o1.1, .int o1.2.1, .int o1.2.2.1]), (a0_now_ice, aI E 12 o1.2.2.2.1), (a0_now_juice, aI E 5 o1.2.2.2.2.1), (a0_now_fors, aI E 5 o1.2.2.2.2.2), (a1, oB 0 [.ref a1_kind, .ref a1_weight, .ref a1_now, .int va1_cells, .int va1_people, .int va1_sayings, .int va1_frost]), (a1_kind, aI E 6 va1_kind), (a1_weight, aI E 6 va1_weight), (a1_now, oB 3 [.ref a1_now_ice, .ref a1_now_juice, .ref a1_now_fors, .int va1_now_boat, .int va1_now_minute, .int va1_now_draw]), (a1_now_ice, aI E 12 va1_now_ice), (a1_now_juice, aI E 5 va1_now_juice), (a1_now_fors, aI E 5 va1_now_fors)]) dX0_take_62 lkX0_32 (by decide) rfl rfl rfl rfl (Nat.le_of_ble_eq_true rfl) rfl ?_
  refine g_aload_n k 0 dX0_take_65 rfl rfl ?_
  refine g_aload_n k 1 dX0_take_66 rfl rfl ?_
  refine g_get k cfX0 6 7 dX0_take_67 lkX0_35 (by decide) rfl rfl ?_
  refine g_put k cfX0 6 0 (ws' := [(a0, oB 0 [.ref a0_kind, .ref a0_weight, .ref a0_now, .int va1_cells, .int va1_people, .int va1_sayings, .int va1_frost]), (a0_kind, aI E 6 (va_cpy va1_kind va0_kind 0 0 6)), (a0_weight, aI E 6 (va_cpy va1_weight va0_weight 0 0 6)), (a0_now, oB 3 [.ref a0_now_ice, .ref a0_now_juice, .ref a0_now_fors, .int o1.1, .int o1.2.1, .int o1.2.2.1]), (a0_now_ice, aI E 12 o1.2.2.2.1), (a0_now_juice, aI E 5 o1.2.2.2.2.1), (a0_now_fors, aI E 5 o1.2.2.2.2.2), (a1, oB 0 [.ref a1_kind, .ref a1_weight, .ref a1_now, .int va1_cells, .int va1_people, .int va1_sayings, .int va1_frost]), (a1_kind, aI E 6 va1_kind), (a1_weight, aI E 6 va1_weight), (a1_now, oB 3 [.ref a1_now_ice, .ref a1_now_juice, .ref a1_now_fors, .int va1_now_boat, .int va1_now_minute, .int va1_now_draw]), (a1_now_ice, aI E 12 va1_now_ice), (a1_now_juice, aI E 5 va1_now_juice), (a1_now_fors, aI E 5 va1_now_fors)]) dX0_take_70 lkX0_35 (by decide) rfl rfl rfl rfl (Nat.le_of_ble_eq_true rfl) rfl ?_
  obtain rfl := Option.some.inj hf
  exact g_vret k r dX0_take_73 ⟨rfl, rfl⟩
abbrev rmX0_hasCell : Room := { frames := 0, cells := 0, slots := 0, locals := 0 }
def fX0_hasCell (N : Nat) (va0_cells : Int32) (x1 : Int32) : Option (Int32) :=
  if x1 < 0 then
  some (0)
  else
  if va0_cells ≤ x1 then
  some (0)
  else
  some (1)
set_option maxHeartbeats 4000000 in
set_option maxRecDepth 100000 in
theorem ctX0_hasCell (l : Launch) (E : Ev) (N : Nat) (a0 : Nat) (a0_kind : Nat) (a0_weight : Nat) (a0_now : Nat) (va0_cells : Int32) (va0_people : Int32) (va0_sayings : Int32) (va0_frost : Int32) (x1 : Int32) (out : Int32) (hf : fX0_hasCell N va0_cells x1 = some out) : Ct l E yX0_hasCell cX0_hasCell 2 (some .boolean) rmX0_hasCell [.ref a0, .int x1] [(a0, oB 0 [.ref a0_kind, .ref a0_weight, .ref a0_now, .int va0_cells, .int va0_people, .int va0_sayings, .int va0_frost])] (Pe (some (.int out)) [(a0, oB 0 [.ref a0_kind, .ref a0_weight, .ref a0_now, .int va0_cells, .int va0_people, .int va0_sayings, .int va0_frost])]) := by
  refine Ct.of rfl (Nat.le_of_ble_eq_true rfl) (fun K hL k r hin => ?_)
  subst hL
  unfold fX0_hasCell at hf
  show G E K 2 0 0 [(0, .ref a0), (1, .int x1)] [] [(a0, oB 0 [.ref a0_kind, .ref a0_weight, .ref a0_now, .int va0_cells, .int va0_people, .int va0_sayings, .int va0_frost])] 0
  refine g_iload_n k 1 dX0_hasCell_0 rfl rfl ?_
  refine g_if_lt k (tgt := 16) dX0_hasCell_1 (by decide) (fun c1 => ?_) (fun c1 => ?_)
  · replace hf := ite_t c1 hf
    refine g_iconst k dX0_hasCell_16 ic_0 ?_
    obtain rfl := Option.some.inj hf
    exact g_zret k (rfl) r dX0_hasCell_17 ⟨rfl, rfl⟩
  · replace hf := ite_f c1 hf
    refine g_iload_n k 1 dX0_hasCell_4 rfl rfl ?_
    refine g_aload_n k 0 dX0_hasCell_5 rfl rfl ?_
    refine g_get k cfX0 3 0 dX0_hasCell_6 lkX0_25 (by decide) rfl rfl ?_
    refine g_icmp_ge k (tgt := 16) dX0_hasCell_9 (by decide) (fun c2 => ?_) (fun c2 => ?_)
    · replace hf := ite_t c2 hf
      refine g_iconst k dX0_hasCell_16 ic_0 ?_
      obtain rfl := Option.some.inj hf
      exact g_zret k (rfl) r dX0_hasCell_17 ⟨rfl, rfl⟩
    · replace hf := ite_f c2 hf
      refine g_iconst k dX0_hasCell_12 ic_1 ?_
      refine g_goto k (tgt := 17) dX0_hasCell_13 (by decide) ?_
      obtain rfl := Option.some.inj hf
      exact g_zret k (rfl) r dX0_hasCell_17 ⟨rfl, rfl⟩
abbrev rmX0_hasPerson : Room := { frames := 0, cells := 0, slots := 0, locals := 0 }
def fX0_hasPerson (N : Nat) (va0_people : Int32) (x1 : Int32) : Option (Int32) :=
  if x1 < 0 then
  some (0)
  else
  if va0_people ≤ x1 then
  some (0)
  else
  some (1)
set_option maxHeartbeats 4000000 in
set_option maxRecDepth 100000 in
theorem ctX0_hasPerson (l : Launch) (E : Ev) (N : Nat) (a0 : Nat) (a0_kind : Nat) (a0_weight : Nat) (a0_now : Nat) (va0_cells : Int32) (va0_people : Int32) (va0_sayings : Int32) (va0_frost : Int32) (x1 : Int32) (out : Int32) (hf : fX0_hasPerson N va0_people x1 = some out) : Ct l E yX0_hasPerson cX0_hasPerson 2 (some .boolean) rmX0_hasPerson [.ref a0, .int x1] [(a0, oB 0 [.ref a0_kind, .ref a0_weight, .ref a0_now, .int va0_cells, .int va0_people, .int va0_sayings, .int va0_frost])] (Pe (some (.int out)) [(a0, oB 0 [.ref a0_kind, .ref a0_weight, .ref a0_now, .int va0_cells, .int va0_people, .int va0_sayings, .int va0_frost])]) := by
  refine Ct.of rfl (Nat.le_of_ble_eq_true rfl) (fun K hL k r hin => ?_)
  subst hL
  unfold fX0_hasPerson at hf
  show G E K 2 0 0 [(0, .ref a0), (1, .int x1)] [] [(a0, oB 0 [.ref a0_kind, .ref a0_weight, .ref a0_now, .int va0_cells, .int va0_people, .int va0_sayings, .int va0_frost])] 0
  refine g_iload_n k 1 dX0_hasPerson_0 rfl rfl ?_
  refine g_if_lt k (tgt := 16) dX0_hasPerson_1 (by decide) (fun c1 => ?_) (fun c1 => ?_)
  · replace hf := ite_t c1 hf
    refine g_iconst k dX0_hasPerson_16 ic_0 ?_
    obtain rfl := Option.some.inj hf
    exact g_zret k (rfl) r dX0_hasPerson_17 ⟨rfl, rfl⟩
  · replace hf := ite_f c1 hf
    refine g_iload_n k 1 dX0_hasPerson_4 rfl rfl ?_
    refine g_aload_n k 0 dX0_hasPerson_5 rfl rfl ?_
    refine g_get k cfX0 4 0 dX0_hasPerson_6 lkX0_29 (by decide) rfl rfl ?_
    refine g_icmp_ge k (tgt := 16) dX0_hasPerson_9 (by decide) (fun c2 => ?_) (fun c2 => ?_)
    · replace hf := ite_t c2 hf
      refine g_iconst k dX0_hasPerson_16 ic_0 ?_
      obtain rfl := Option.some.inj hf
      exact g_zret k (rfl) r dX0_hasPerson_17 ⟨rfl, rfl⟩
    · replace hf := ite_f c2 hf
      refine g_iconst k dX0_hasPerson_12 ic_1 ?_
      refine g_goto k (tgt := 17) dX0_hasPerson_13 (by decide) ?_
      obtain rfl := Option.some.inj hf
      exact g_zret k (rfl) r dX0_hasPerson_17 ⟨rfl, rfl⟩
abbrev rmX0_hasSaying : Room := { frames := 0, cells := 0, slots := 0, locals := 0 }
def fX0_hasSaying (N : Nat) (va0_sayings : Int32) (x1 : Int32) : Option (Int32) :=
  if x1 < 0 then
  some (0)
  else
  if va0_sayings ≤ x1 then
  some (0)
  else
  some (1)
set_option maxHeartbeats 4000000 in
set_option maxRecDepth 100000 in
theorem ctX0_hasSaying (l : Launch) (E : Ev) (N : Nat) (a0 : Nat) (a0_kind : Nat) (a0_weight : Nat) (a0_now : Nat) (va0_cells : Int32) (va0_people : Int32) (va0_sayings : Int32) (va0_frost : Int32) (x1 : Int32) (out : Int32) (hf : fX0_hasSaying N va0_sayings x1 = some out) : Ct l E yX0_hasSaying cX0_hasSaying 2 (some .boolean) rmX0_hasSaying [.ref a0, .int x1] [(a0, oB 0 [.ref a0_kind, .ref a0_weight, .ref a0_now, .int va0_cells, .int va0_people, .int va0_sayings, .int va0_frost])] (Pe (some (.int out)) [(a0, oB 0 [.ref a0_kind, .ref a0_weight, .ref a0_now, .int va0_cells, .int va0_people, .int va0_sayings, .int va0_frost])]) := by
  refine Ct.of rfl (Nat.le_of_ble_eq_true rfl) (fun K hL k r hin => ?_)
  subst hL
  unfold fX0_hasSaying at hf
  show G E K 2 0 0 [(0, .ref a0), (1, .int x1)] [] [(a0, oB 0 [.ref a0_kind, .ref a0_weight, .ref a0_now, .int va0_cells, .int va0_people, .int va0_sayings, .int va0_frost])] 0
  refine g_iload_n k 1 dX0_hasSaying_0 rfl rfl ?_
  refine g_if_lt k (tgt := 16) dX0_hasSaying_1 (by decide) (fun c1 => ?_) (fun c1 => ?_)
  · replace hf := ite_t c1 hf
    refine g_iconst k dX0_hasSaying_16 ic_0 ?_
    obtain rfl := Option.some.inj hf
    exact g_zret k (rfl) r dX0_hasSaying_17 ⟨rfl, rfl⟩
  · replace hf := ite_f c1 hf
    refine g_iload_n k 1 dX0_hasSaying_4 rfl rfl ?_
    refine g_aload_n k 0 dX0_hasSaying_5 rfl rfl ?_
    refine g_get k cfX0 5 0 dX0_hasSaying_6 lkX0_32 (by decide) rfl rfl ?_
    refine g_icmp_ge k (tgt := 16) dX0_hasSaying_9 (by decide) (fun c2 => ?_) (fun c2 => ?_)
    · replace hf := ite_t c2 hf
      refine g_iconst k dX0_hasSaying_16 ic_0 ?_
      obtain rfl := Option.some.inj hf
      exact g_zret k (rfl) r dX0_hasSaying_17 ⟨rfl, rfl⟩
    · replace hf := ite_f c2 hf
      refine g_iconst k dX0_hasSaying_12 ic_1 ?_
      refine g_goto k (tgt := 17) dX0_hasSaying_13 (by decide) ?_
      obtain rfl := Option.some.inj hf
      exact g_zret k (rfl) r dX0_hasSaying_17 ⟨rfl, rfl⟩
abbrev rmX0_everybody : Room := { frames := 0, cells := 0, slots := 0, locals := 0 }
def fX0_everybody (N : Nat) (va0_people : Int32)  : Option (Int32) :=
  some (((1 <<< (va0_people &&& 31)) - 1))
set_option maxHeartbeats 4000000 in
set_option maxRecDepth 100000 in
theorem ctX0_everybody (l : Launch) (E : Ev) (N : Nat) (a0 : Nat) (a0_kind : Nat) (a0_weight : Nat) (a0_now : Nat) (va0_cells : Int32) (va0_people : Int32) (va0_sayings : Int32) (va0_frost : Int32)  (out : Int32) (hf : fX0_everybody N va0_people  = some out) : Ct l E yX0_everybody cX0_everybody 1 (some .int) rmX0_everybody [.ref a0] [(a0, oB 0 [.ref a0_kind, .ref a0_weight, .ref a0_now, .int va0_cells, .int va0_people, .int va0_sayings, .int va0_frost])] (Pe (some (.int out)) [(a0, oB 0 [.ref a0_kind, .ref a0_weight, .ref a0_now, .int va0_cells, .int va0_people, .int va0_sayings, .int va0_frost])]) := by
  refine Ct.of rfl (Nat.le_of_ble_eq_true rfl) (fun K hL k r hin => ?_)
  subst hL
  unfold fX0_everybody at hf
  show G E K 1 0 0 [(0, .ref a0)] [] [(a0, oB 0 [.ref a0_kind, .ref a0_weight, .ref a0_now, .int va0_cells, .int va0_people, .int va0_sayings, .int va0_frost])] 0
  refine g_iconst k dX0_everybody_0 ic_1 ?_
  refine g_aload_n k 0 dX0_everybody_1 rfl rfl ?_
  refine g_get k cfX0 4 0 dX0_everybody_2 lkX0_29 (by decide) rfl rfl ?_
  refine g_ishl k dX0_everybody_5 ?_
  refine g_iconst k dX0_everybody_6 ic_1 ?_
  refine g_isub k dX0_everybody_7 ?_
  obtain rfl := Option.some.inj hf
  exact g_iret k r dX0_everybody_8 ⟨rfl, rfl⟩
abbrev rmX0_addCell : Room := { frames := 0, cells := 0, slots := 0, locals := 0 }
def fX0_addCell (N : Nat) (va0_cells : Int32) (va0_now_ice : Nat → Int32) (x1 : Int32) : Option (Int32 × Int32 × (Nat → Int32)) :=
  ixb va0_cells 12 fun κ1 =>
  some (((va0_cells + 1) - 1), (va0_cells + 1), (upd va0_now_ice κ1 x1))
set_option maxHeartbeats 4000000 in
set_option maxRecDepth 100000 in
theorem ctX0_addCell (l : Launch) (E : Ev) (N : Nat) (a0 : Nat) (a0_kind : Nat) (a0_weight : Nat) (a0_now : Nat) (a0_now_ice : Nat) (a0_now_juice : Nat) (a0_now_fors : Nat) (va0_cells : Int32) (va0_people : Int32) (va0_sayings : Int32) (va0_frost : Int32) (va0_now_boat : Int32) (va0_now_minute : Int32) (va0_now_draw : Int32) (va0_now_ice : Nat → Int32) (x1 : Int32) (out : Int32 × Int32 × (Nat → Int32)) (hf : fX0_addCell N va0_cells va0_now_ice x1 = some out) : Ct l E yX0_addCell cX0_addCell 2 (some .int) rmX0_addCell [.ref a0, .int x1] [(a0, oB 0 [.ref a0_kind, .ref a0_weight, .ref a0_now, .int va0_cells, .int va0_people, .int va0_sayings, .int va0_frost]), (a0_now, oB 3 [.ref a0_now_ice, .ref a0_now_juice, .ref a0_now_fors, .int va0_now_boat, .int va0_now_minute, .int va0_now_draw]), (a0_now_ice, aI E 12 va0_now_ice)] (Pe (some (.int out.1)) [(a0, oB 0 [.ref a0_kind, .ref a0_weight, .ref a0_now, .int out.2.1, .int va0_people, .int va0_sayings, .int va0_frost]), (a0_now, oB 3 [.ref a0_now_ice, .ref a0_now_juice, .ref a0_now_fors, .int va0_now_boat, .int va0_now_minute, .int va0_now_draw]), (a0_now_ice, aI E 12 out.2.2)]) := by
  refine Ct.of rfl (Nat.le_of_ble_eq_true rfl) (fun K hL k r hin => ?_)
  subst hL
  unfold fX0_addCell at hf
  show G E K 2 0 0 [(0, .ref a0), (1, .int x1)] [] [(a0, oB 0 [.ref a0_kind, .ref a0_weight, .ref a0_now, .int va0_cells, .int va0_people, .int va0_sayings, .int va0_frost]), (a0_now, oB 3 [.ref a0_now_ice, .ref a0_now_juice, .ref a0_now_fors, .int va0_now_boat, .int va0_now_minute, .int va0_now_draw]), (a0_now_ice, aI E 12 va0_now_ice)] 0
  refine g_aload_n k 0 dX0_addCell_0 rfl rfl ?_
  refine g_get k cfX0 2 0 dX0_addCell_1 lkX0_21 (by decide) rfl rfl ?_
  refine g_get k cfX3 0 1 dX0_addCell_4 lkX0_48 (by decide) rfl rfl ?_
  refine g_aload_n k 0 dX0_addCell_7 rfl rfl ?_
  refine g_get k cfX0 3 0 dX0_addCell_8 lkX0_25 (by decide) rfl rfl ?_
  refine g_iload_n k 1 dX0_addCell_11 rfl rfl ?_
  obtain ⟨κ1, hκ1, hiκ1, heκ1, hf⟩ := ixb_some hf
  refine g_iastore k 2 (ws' := [(a0, oB 0 [.ref a0_kind, .ref a0_weight, .ref a0_now, .int va0_cells, .int va0_people, .int va0_sayings, .int va0_frost]), (a0_now, oB 3 [.ref a0_now_ice, .ref a0_now_juice, .ref a0_now_fors, .int va0_now_boat, .int va0_now_minute, .int va0_now_draw]), (a0_now_ice, aI E 12 (upd va0_now_ice κ1 x1))]) dX0_addCell_12 rfl hiκ1 heκ1 rfl ?_
  refine g_aload_n k 0 dX0_addCell_13 rfl rfl ?_
  refine g_dup k dX0_addCell_14 rfl ?_
  refine g_get k cfX0 3 0 dX0_addCell_15 lkX0_25 (by decide) rfl rfl ?_
  refine g_iconst k dX0_addCell_18 ic_1 ?_
  refine g_iadd k dX0_addCell_19 ?_
  refine g_put k cfX0 3 0 (ws' := [(a0, oB 0 [.ref a0_kind, .ref a0_weight, .ref a0_now, .int (va0_cells + 1), .int va0_people, .int va0_sayings, .int va0_frost]), (a0_now, oB 3 [.ref a0_now_ice, .ref a0_now_juice, .ref a0_now_fors, .int va0_now_boat, .int va0_now_minute, .int va0_now_draw]), (a0_now_ice, aI E 12 (upd va0_now_ice κ1 x1))]) dX0_addCell_20 lkX0_25 (by decide) rfl rfl rfl rfl (Nat.le_of_ble_eq_true rfl) rfl ?_
  refine g_aload_n k 0 dX0_addCell_23 rfl rfl ?_
  refine g_get k cfX0 3 0 dX0_addCell_24 lkX0_25 (by decide) rfl rfl ?_
  refine g_iconst k dX0_addCell_27 ic_1 ?_
  refine g_isub k dX0_addCell_28 ?_
  obtain rfl := Option.some.inj hf
  exact g_iret k r dX0_addCell_29 ⟨rfl, rfl⟩
abbrev rmX0_addPerson : Room := { frames := 0, cells := 0, slots := 0, locals := 0 }
def fX0_addPerson (N : Nat) (va0_people : Int32) (va0_kind : Nat → Int32) (va0_weight : Nat → Int32) (x1 : Int32) (x2 : Int32) : Option (Int32 × Int32 × (Nat → Int32) × (Nat → Int32)) :=
  ixb va0_people 6 fun κ1 =>
  ixb va0_people 6 fun κ2 =>
  some (((va0_people + 1) - 1), (va0_people + 1), (upd va0_kind κ1 x1), (upd va0_weight κ2 x2))
set_option maxHeartbeats 4000000 in
set_option maxRecDepth 100000 in
theorem ctX0_addPerson (l : Launch) (E : Ev) (N : Nat) (a0 : Nat) (a0_kind : Nat) (a0_weight : Nat) (a0_now : Nat) (va0_cells : Int32) (va0_people : Int32) (va0_sayings : Int32) (va0_frost : Int32) (va0_kind : Nat → Int32) (va0_weight : Nat → Int32) (x1 : Int32) (x2 : Int32) (out : Int32 × Int32 × (Nat → Int32) × (Nat → Int32)) (hf : fX0_addPerson N va0_people va0_kind va0_weight x1 x2 = some out) : Ct l E yX0_addPerson cX0_addPerson 3 (some .int) rmX0_addPerson [.ref a0, .int x1, .int x2] [(a0, oB 0 [.ref a0_kind, .ref a0_weight, .ref a0_now, .int va0_cells, .int va0_people, .int va0_sayings, .int va0_frost]), (a0_kind, aI E 6 va0_kind), (a0_weight, aI E 6 va0_weight)] (Pe (some (.int out.1)) [(a0, oB 0 [.ref a0_kind, .ref a0_weight, .ref a0_now, .int va0_cells, .int out.2.1, .int va0_sayings, .int va0_frost]), (a0_kind, aI E 6 out.2.2.1), (a0_weight, aI E 6 out.2.2.2)]) := by
  refine Ct.of rfl (Nat.le_of_ble_eq_true rfl) (fun K hL k r hin => ?_)
  subst hL
  unfold fX0_addPerson at hf
  show G E K 3 0 0 [(0, .ref a0), (1, .int x1), (2, .int x2)] [] [(a0, oB 0 [.ref a0_kind, .ref a0_weight, .ref a0_now, .int va0_cells, .int va0_people, .int va0_sayings, .int va0_frost]), (a0_kind, aI E 6 va0_kind), (a0_weight, aI E 6 va0_weight)] 0
  refine g_aload_n k 0 dX0_addPerson_0 rfl rfl ?_
  refine g_get k cfX0 0 0 dX0_addPerson_1 lkX0_9 (by decide) rfl rfl ?_
  refine g_aload_n k 0 dX0_addPerson_4 rfl rfl ?_
  refine g_get k cfX0 4 0 dX0_addPerson_5 lkX0_29 (by decide) rfl rfl ?_
  refine g_iload_n k 1 dX0_addPerson_8 rfl rfl ?_
  obtain ⟨κ1, hκ1, hiκ1, heκ1, hf⟩ := ixb_some hf
  refine g_iastore k 1 (ws' := [(a0, oB 0 [.ref a0_kind, .ref a0_weight, .ref a0_now, .int va0_cells, .int va0_people, .int va0_sayings, .int va0_frost]), (a0_kind, aI E 6 (upd va0_kind κ1 x1)), (a0_weight, aI E 6 va0_weight)]) dX0_addPerson_9 rfl hiκ1 heκ1 rfl ?_
  refine g_aload_n k 0 dX0_addPerson_10 rfl rfl ?_
  refine g_get k cfX0 1 0 dX0_addPerson_11 lkX0_15 (by decide) rfl rfl ?_
  refine g_aload_n k 0 dX0_addPerson_14 rfl rfl ?_
  refine g_get k cfX0 4 0 dX0_addPerson_15 lkX0_29 (by decide) rfl rfl ?_
  refine g_iload_n k 2 dX0_addPerson_18 rfl rfl ?_
  obtain ⟨κ2, hκ2, hiκ2, heκ2, hf⟩ := ixb_some hf
  refine g_iastore k 2 (ws' := [(a0, oB 0 [.ref a0_kind, .ref a0_weight, .ref a0_now, .int va0_cells, .int va0_people, .int va0_sayings, .int va0_frost]), (a0_kind, aI E 6 (upd va0_kind κ1 x1)), (a0_weight, aI E 6 (upd va0_weight κ2 x2))]) dX0_addPerson_19 rfl hiκ2 heκ2 rfl ?_
  refine g_aload_n k 0 dX0_addPerson_20 rfl rfl ?_
  refine g_dup k dX0_addPerson_21 rfl ?_
  refine g_get k cfX0 4 0 dX0_addPerson_22 lkX0_29 (by decide) rfl rfl ?_
  refine g_iconst k dX0_addPerson_25 ic_1 ?_
  refine g_iadd k dX0_addPerson_26 ?_
  refine g_put k cfX0 4 0 (ws' := [(a0, oB 0 [.ref a0_kind, .ref a0_weight, .ref a0_now, .int va0_cells, .int (va0_people + 1), .int va0_sayings, .int va0_frost]), (a0_kind, aI E 6 (upd va0_kind κ1 x1)), (a0_weight, aI E 6 (upd va0_weight κ2 x2))]) dX0_addPerson_27 lkX0_29 (by decide) rfl rfl rfl rfl (Nat.le_of_ble_eq_true rfl) rfl ?_
  refine g_aload_n k 0 dX0_addPerson_30 rfl rfl ?_
  refine g_get k cfX0 4 0 dX0_addPerson_31 lkX0_29 (by decide) rfl rfl ?_
  refine g_iconst k dX0_addPerson_34 ic_1 ?_
  refine g_isub k dX0_addPerson_35 ?_
  obtain rfl := Option.some.inj hf
  exact g_iret k r dX0_addPerson_36 ⟨rfl, rfl⟩
abbrev rmX0_addSaying : Room := { frames := 0, cells := 0, slots := 0, locals := 0 }
def fX0_addSaying (N : Nat) (va0_sayings : Int32) (va0_now_juice : Nat → Int32) (va0_now_fors : Nat → Int32) (x1 : Int32) (x2 : Int32) : Option (Int32 × Int32 × (Nat → Int32) × (Nat → Int32)) :=
  ixb va0_sayings 5 fun κ1 =>
  ixb va0_sayings 5 fun κ2 =>
  some (((va0_sayings + 1) - 1), (va0_sayings + 1), (upd va0_now_juice κ1 x1), (upd va0_now_fors κ2 x2))
set_option maxHeartbeats 4000000 in
set_option maxRecDepth 100000 in
theorem ctX0_addSaying (l : Launch) (E : Ev) (N : Nat) (a0 : Nat) (a0_kind : Nat) (a0_weight : Nat) (a0_now : Nat) (a0_now_ice : Nat) (a0_now_juice : Nat) (a0_now_fors : Nat) (va0_cells : Int32) (va0_people : Int32) (va0_sayings : Int32) (va0_frost : Int32) (va0_now_boat : Int32) (va0_now_minute : Int32) (va0_now_draw : Int32) (va0_now_juice : Nat → Int32) (va0_now_fors : Nat → Int32) (x1 : Int32) (x2 : Int32) (out : Int32 × Int32 × (Nat → Int32) × (Nat → Int32)) (hf : fX0_addSaying N va0_sayings va0_now_juice va0_now_fors x1 x2 = some out) : Ct l E yX0_addSaying cX0_addSaying 3 (some .int) rmX0_addSaying [.ref a0, .int x1, .int x2] [(a0, oB 0 [.ref a0_kind, .ref a0_weight, .ref a0_now, .int va0_cells, .int va0_people, .int va0_sayings, .int va0_frost]), (a0_now, oB 3 [.ref a0_now_ice, .ref a0_now_juice, .ref a0_now_fors, .int va0_now_boat, .int va0_now_minute, .int va0_now_draw]), (a0_now_juice, aI E 5 va0_now_juice), (a0_now_fors, aI E 5 va0_now_fors)] (Pe (some (.int out.1)) [(a0, oB 0 [.ref a0_kind, .ref a0_weight, .ref a0_now, .int va0_cells, .int va0_people, .int out.2.1, .int va0_frost]), (a0_now, oB 3 [.ref a0_now_ice, .ref a0_now_juice, .ref a0_now_fors, .int va0_now_boat, .int va0_now_minute, .int va0_now_draw]), (a0_now_juice, aI E 5 out.2.2.1), (a0_now_fors, aI E 5 out.2.2.2)]) := by
  refine Ct.of rfl (Nat.le_of_ble_eq_true rfl) (fun K hL k r hin => ?_)
  subst hL
  unfold fX0_addSaying at hf
  show G E K 3 0 0 [(0, .ref a0), (1, .int x1), (2, .int x2)] [] [(a0, oB 0 [.ref a0_kind, .ref a0_weight, .ref a0_now, .int va0_cells, .int va0_people, .int va0_sayings, .int va0_frost]), (a0_now, oB 3 [.ref a0_now_ice, .ref a0_now_juice, .ref a0_now_fors, .int va0_now_boat, .int va0_now_minute, .int va0_now_draw]), (a0_now_juice, aI E 5 va0_now_juice), (a0_now_fors, aI E 5 va0_now_fors)] 0
  refine g_aload_n k 0 dX0_addSaying_0 rfl rfl ?_
  refine g_get k cfX0 2 0 dX0_addSaying_1 lkX0_21 (by decide) rfl rfl ?_
  refine g_get k cfX3 1 1 dX0_addSaying_4 lkX0_51 (by decide) rfl rfl ?_
  refine g_aload_n k 0 dX0_addSaying_7 rfl rfl ?_
  refine g_get k cfX0 5 0 dX0_addSaying_8 lkX0_32 (by decide) rfl rfl ?_
  refine g_iload_n k 1 dX0_addSaying_11 rfl rfl ?_
  obtain ⟨κ1, hκ1, hiκ1, heκ1, hf⟩ := ixb_some hf
  refine g_iastore k 2 (ws' := [(a0, oB 0 [.ref a0_kind, .ref a0_weight, .ref a0_now, .int va0_cells, .int va0_people, .int va0_sayings, .int va0_frost]), (a0_now, oB 3 [.ref a0_now_ice, .ref a0_now_juice, .ref a0_now_fors, .int va0_now_boat, .int va0_now_minute, .int va0_now_draw]), (a0_now_juice, aI E 5 (upd va0_now_juice κ1 x1)), (a0_now_fors, aI E 5 va0_now_fors)]) dX0_addSaying_12 rfl hiκ1 heκ1 rfl ?_
  refine g_aload_n k 0 dX0_addSaying_13 rfl rfl ?_
  refine g_get k cfX0 2 0 dX0_addSaying_14 lkX0_21 (by decide) rfl rfl ?_
  refine g_get k cfX3 2 1 dX0_addSaying_17 lkX0_54 (by decide) rfl rfl ?_
  refine g_aload_n k 0 dX0_addSaying_20 rfl rfl ?_
  refine g_get k cfX0 5 0 dX0_addSaying_21 lkX0_32 (by decide) rfl rfl ?_
  refine g_iload_n k 2 dX0_addSaying_24 rfl rfl ?_
  obtain ⟨κ2, hκ2, hiκ2, heκ2, hf⟩ := ixb_some hf
  refine g_iastore k 3 (ws' := [(a0, oB 0 [.ref a0_kind, .ref a0_weight, .ref a0_now, .int va0_cells, .int va0_people, .int va0_sayings, .int va0_frost]), (a0_now, oB 3 [.ref a0_now_ice, .ref a0_now_juice, .ref a0_now_fors, .int va0_now_boat, .int va0_now_minute, .int va0_now_draw]), (a0_now_juice, aI E 5 (upd va0_now_juice κ1 x1)), (a0_now_fors, aI E 5 (upd va0_now_fors κ2 x2))]) dX0_addSaying_25 rfl hiκ2 heκ2 rfl ?_
  refine g_aload_n k 0 dX0_addSaying_26 rfl rfl ?_
  refine g_dup k dX0_addSaying_27 rfl ?_
  refine g_get k cfX0 5 0 dX0_addSaying_28 lkX0_32 (by decide) rfl rfl ?_
  refine g_iconst k dX0_addSaying_31 ic_1 ?_
  refine g_iadd k dX0_addSaying_32 ?_
  refine g_put k cfX0 5 0 (ws' := [(a0, oB 0 [.ref a0_kind, .ref a0_weight, .ref a0_now, .int va0_cells, .int va0_people, .int (va0_sayings + 1), .int va0_frost]), (a0_now, oB 3 [.ref a0_now_ice, .ref a0_now_juice, .ref a0_now_fors, .int va0_now_boat, .int va0_now_minute, .int va0_now_draw]), (a0_now_juice, aI E 5 (upd va0_now_juice κ1 x1)), (a0_now_fors, aI E 5 (upd va0_now_fors κ2 x2))]) dX0_addSaying_33 lkX0_32 (by decide) rfl rfl rfl rfl (Nat.le_of_ble_eq_true rfl) rfl ?_
  refine g_aload_n k 0 dX0_addSaying_36 rfl rfl ?_
  refine g_get k cfX0 5 0 dX0_addSaying_37 lkX0_32 (by decide) rfl rfl ?_
  refine g_iconst k dX0_addSaying_40 ic_1 ?_
  refine g_isub k dX0_addSaying_41 ?_
  obtain rfl := Option.some.inj hf
  exact g_iret k r dX0_addSaying_42 ⟨rfl, rfl⟩
abbrev rmX0_sayingsFor : Room := { frames := 0, cells := 0, slots := 0, locals := 0 }
def fX0_sayingsFor_L4 (N : Nat) (x1 : Int32) (va0_sayings : Int32) (va0_now_fors : Nat → Int32) : Nat → Int32 → Int32 → Option (Int32 × Int32)
  | 0, _, _ => none
  | n + 1, x2, x3 =>
    if va0_sayings ≤ x3 then
    some (x2, x3)
    else
    ixb x3 5 fun κ2 =>
    fX0_sayingsFor_L4 N x1 va0_sayings va0_now_fors n (x2 ||| ((((va0_now_fors κ2) >>> (x1 &&& 31)) &&& 1) <<< (x3 &&& 31))) (x3 + 1)
set_option maxHeartbeats 4000000 in
set_option maxRecDepth 100000 in
theorem wX0_sayingsFor_L4 {E : Ev} {K : KX} (k : OKX E K cX0_sayingsFor RX0 4 rmX0_sayingsFor) (N : Nat) (a0 : Nat) (a0_kind : Nat) (a0_weight : Nat) (a0_now : Nat) (a0_now_ice : Nat) (a0_now_juice : Nat) (a0_now_fors : Nat) (x1 : Int32) (va0_sayings : Int32) (va0_now_fors : Nat → Int32) (va0_cells : Int32) (va0_people : Int32) (va0_frost : Int32) (va0_now_boat : Int32) (va0_now_minute : Int32) (va0_now_draw : Int32) : ∀ (n : Nat) (x2 : Int32) (x3 : Int32) (o : Int32 × Int32), fX0_sayingsFor_L4 N x1 va0_sayings va0_now_fors n x2 x3 = some o → G E K 4 0 0 [(0, .ref a0), (1, .int x1), (2, .int o.1), (3, .int o.2)] [] [(a0, oB 0 [.ref a0_kind, .ref a0_weight, .ref a0_now, .int va0_cells, .int va0_people, .int va0_sayings, .int va0_frost]), (a0_now, oB 3 [.ref a0_now_ice, .ref a0_now_juice, .ref a0_now_fors, .int va0_now_boat, .int va0_now_minute, .int va0_now_draw]), (a0_now_fors, aI E 5 va0_now_fors)] 36 → G E K 4 0 0 [(0, .ref a0), (1, .int x1), (2, .int x2), (3, .int x3)] [] [(a0, oB 0 [.ref a0_kind, .ref a0_weight, .ref a0_now, .int va0_cells, .int va0_people, .int va0_sayings, .int va0_frost]), (a0_now, oB 3 [.ref a0_now_ice, .ref a0_now_juice, .ref a0_now_fors, .int va0_now_boat, .int va0_now_minute, .int va0_now_draw]), (a0_now_fors, aI E 5 va0_now_fors)] 4 := by
  intro n
  induction n with
  | zero => intro x2 x3 o hf; cases hf
  | succ n ih =>
    intro x2 x3 o hf hG
    rw [fX0_sayingsFor_L4] at hf
    refine g_iload_n k 3 dX0_sayingsFor_4 rfl rfl ?_
    refine g_aload_n k 0 dX0_sayingsFor_5 rfl rfl ?_
    refine g_get k cfX0 5 0 dX0_sayingsFor_6 lkX0_32 (by decide) rfl rfl ?_
    refine g_icmp_ge k (tgt := 36) dX0_sayingsFor_9 (by decide) (fun c1 => ?_) (fun c1 => ?_)
    · replace hf := ite_t c1 hf
      refine g_lv [0, 1, 2, 3] rfl ?_
      obtain rfl := Option.some.inj hf
      exact hG
    · replace hf := ite_f c1 hf
      refine g_iload_n k 2 dX0_sayingsFor_12 rfl rfl ?_
      refine g_aload_n k 0 dX0_sayingsFor_13 rfl rfl ?_
      refine g_get k cfX0 2 0 dX0_sayingsFor_14 lkX0_21 (by decide) rfl rfl ?_
      refine g_get k cfX3 2 1 dX0_sayingsFor_17 lkX0_54 (by decide) rfl rfl ?_
      refine g_iload_n k 3 dX0_sayingsFor_20 rfl rfl ?_
      obtain ⟨κ2, hκ2, hiκ2, heκ2, hf⟩ := ixb_some hf
      refine g_iaload k 2 dX0_sayingsFor_21 rfl hiκ2 heκ2 ?_
      refine g_iload_n k 1 dX0_sayingsFor_22 rfl rfl ?_
      refine g_ishr k dX0_sayingsFor_23 ?_
      refine g_iconst k dX0_sayingsFor_24 ic_1 ?_
      refine g_iand k dX0_sayingsFor_25 ?_
      refine g_iload_n k 3 dX0_sayingsFor_26 rfl rfl ?_
      refine g_ishl k dX0_sayingsFor_27 ?_
      refine g_ior k dX0_sayingsFor_28 ?_
      refine g_istore_n k (lv' := [(2, .int (x2 ||| ((((va0_now_fors κ2) >>> (x1 &&& 31)) &&& 1) <<< (x3 &&& 31)))), (0, .ref a0), (1, .int x1), (3, .int x3)]) dX0_sayingsFor_29 rfl (by decide) rfl ?_
      refine g_iinc k (lv' := [(3, .int (x3 + 1)), (2, .int (x2 ||| ((((va0_now_fors κ2) >>> (x1 &&& 31)) &&& 1) <<< (x3 &&& 31)))), (0, .ref a0), (1, .int x1)]) 3 dX0_sayingsFor_30 rfl (ii_1 _) (by decide) rfl ?_
      refine g_goto k (tgt := 4) dX0_sayingsFor_33 (by decide) ?_
      refine g_lv [2, 3, 1, 0] rfl ?_
      exact ih (x2 ||| ((((va0_now_fors κ2) >>> (x1 &&& 31)) &&& 1) <<< (x3 &&& 31))) (x3 + 1) o hf hG
def fX0_sayingsFor (N : Nat) (va0_sayings : Int32) (va0_now_fors : Nat → Int32) (x1 : Int32) : Option (Int32) :=
  bnd (fX0_sayingsFor_L4 N x1 va0_sayings va0_now_fors N 0 0) fun o3 =>
  some (o3.1)
set_option maxHeartbeats 4000000 in
set_option maxRecDepth 100000 in
theorem ctX0_sayingsFor (l : Launch) (E : Ev) (N : Nat) (a0 : Nat) (a0_kind : Nat) (a0_weight : Nat) (a0_now : Nat) (a0_now_ice : Nat) (a0_now_juice : Nat) (a0_now_fors : Nat) (va0_cells : Int32) (va0_people : Int32) (va0_sayings : Int32) (va0_frost : Int32) (va0_now_boat : Int32) (va0_now_minute : Int32) (va0_now_draw : Int32) (va0_now_fors : Nat → Int32) (x1 : Int32) (out : Int32) (hf : fX0_sayingsFor N va0_sayings va0_now_fors x1 = some out) : Ct l E yX0_sayingsFor cX0_sayingsFor 4 (some .int) rmX0_sayingsFor [.ref a0, .int x1] [(a0, oB 0 [.ref a0_kind, .ref a0_weight, .ref a0_now, .int va0_cells, .int va0_people, .int va0_sayings, .int va0_frost]), (a0_now, oB 3 [.ref a0_now_ice, .ref a0_now_juice, .ref a0_now_fors, .int va0_now_boat, .int va0_now_minute, .int va0_now_draw]), (a0_now_fors, aI E 5 va0_now_fors)] (Pe (some (.int out)) [(a0, oB 0 [.ref a0_kind, .ref a0_weight, .ref a0_now, .int va0_cells, .int va0_people, .int va0_sayings, .int va0_frost]), (a0_now, oB 3 [.ref a0_now_ice, .ref a0_now_juice, .ref a0_now_fors, .int va0_now_boat, .int va0_now_minute, .int va0_now_draw]), (a0_now_fors, aI E 5 va0_now_fors)]) := by
  refine Ct.of rfl (Nat.le_of_ble_eq_true rfl) (fun K hL k r hin => ?_)
  subst hL
  unfold fX0_sayingsFor at hf
  show G E K 4 0 0 [(0, .ref a0), (1, .int x1)] [] [(a0, oB 0 [.ref a0_kind, .ref a0_weight, .ref a0_now, .int va0_cells, .int va0_people, .int va0_sayings, .int va0_frost]), (a0_now, oB 3 [.ref a0_now_ice, .ref a0_now_juice, .ref a0_now_fors, .int va0_now_boat, .int va0_now_minute, .int va0_now_draw]), (a0_now_fors, aI E 5 va0_now_fors)] 0
  refine g_iconst k dX0_sayingsFor_0 ic_0 ?_
  refine g_istore_n k (lv' := [(2, .int 0), (0, .ref a0), (1, .int x1)]) dX0_sayingsFor_1 rfl (by decide) rfl ?_
  refine g_iconst k dX0_sayingsFor_2 ic_0 ?_
  refine g_istore_n k (lv' := [(3, .int 0), (2, .int 0), (0, .ref a0), (1, .int x1)]) dX0_sayingsFor_3 rfl (by decide) rfl ?_
  obtain ⟨o3, ho4, hf⟩ := bnd_some hf
  refine g_lv [2, 3, 1, 0] (lv' := [(0, .ref a0), (1, .int x1), (2, .int 0), (3, .int 0)]) rfl ?_
  refine wX0_sayingsFor_L4 k N a0 a0_kind a0_weight a0_now a0_now_ice a0_now_juice a0_now_fors  x1 va0_sayings va0_now_fors va0_cells va0_people va0_frost va0_now_boat va0_now_minute va0_now_draw N 0 0 o3 ho4 ?_
  refine g_iload_n k 2 dX0_sayingsFor_36 rfl rfl ?_
  obtain rfl := Option.some.inj hf
  exact g_iret k r dX0_sayingsFor_37 ⟨rfl, rfl⟩
abbrev rmX0_sideOf : Room := { frames := 1, cells := 0, slots := 0, locals := 20 }
def fX0_sideOf (N : Nat) (va0_people : Int32) (va0_now_fors : Nat → Int32) (x1 : Int32) (x2 : Int32) : Option (Int32) :=
  ixb x2 5 fun κ1 =>
  if (((va0_now_fors κ1) >>> (x1 &&& 31)) &&& 1) = 0 then
  bnd (fX0_everybody N va0_people) fun o3 =>
  ixb x2 5 fun κ6 =>
  some ((o3 &&& ((va0_now_fors κ6) ^^^ (-1))))
  else
  bnd (fX0_everybody N va0_people) fun o7 =>
  ixb x2 5 fun κ10 =>
  some ((o7 &&& (va0_now_fors κ10)))
set_option maxHeartbeats 4000000 in
set_option maxRecDepth 100000 in
theorem ctX0_sideOf (l : Launch) (E : Ev) (N : Nat) (a0 : Nat) (a0_kind : Nat) (a0_weight : Nat) (a0_now : Nat) (a0_now_ice : Nat) (a0_now_juice : Nat) (a0_now_fors : Nat) (va0_cells : Int32) (va0_people : Int32) (va0_sayings : Int32) (va0_frost : Int32) (va0_now_boat : Int32) (va0_now_minute : Int32) (va0_now_draw : Int32) (va0_now_fors : Nat → Int32) (x1 : Int32) (x2 : Int32) (out : Int32) (hf : fX0_sideOf N va0_people va0_now_fors x1 x2 = some out) : Ct l E yX0_sideOf cX0_sideOf 4 (some .int) rmX0_sideOf [.ref a0, .int x1, .int x2] [(a0, oB 0 [.ref a0_kind, .ref a0_weight, .ref a0_now, .int va0_cells, .int va0_people, .int va0_sayings, .int va0_frost]), (a0_now, oB 3 [.ref a0_now_ice, .ref a0_now_juice, .ref a0_now_fors, .int va0_now_boat, .int va0_now_minute, .int va0_now_draw]), (a0_now_fors, aI E 5 va0_now_fors)] (Pe (some (.int out)) [(a0, oB 0 [.ref a0_kind, .ref a0_weight, .ref a0_now, .int va0_cells, .int va0_people, .int va0_sayings, .int va0_frost]), (a0_now, oB 3 [.ref a0_now_ice, .ref a0_now_juice, .ref a0_now_fors, .int va0_now_boat, .int va0_now_minute, .int va0_now_draw]), (a0_now_fors, aI E 5 va0_now_fors)]) := by
  refine Ct.of rfl (Nat.le_of_ble_eq_true rfl) (fun K hL k r hin => ?_)
  subst hL
  unfold fX0_sideOf at hf
  show G E K 4 0 0 [(0, .ref a0), (1, .int x1), (2, .int x2)] [] [(a0, oB 0 [.ref a0_kind, .ref a0_weight, .ref a0_now, .int va0_cells, .int va0_people, .int va0_sayings, .int va0_frost]), (a0_now, oB 3 [.ref a0_now_ice, .ref a0_now_juice, .ref a0_now_fors, .int va0_now_boat, .int va0_now_minute, .int va0_now_draw]), (a0_now_fors, aI E 5 va0_now_fors)] 0
  refine g_aload_n k 0 dX0_sideOf_0 rfl rfl ?_
  refine g_get k cfX0 2 0 dX0_sideOf_1 lkX0_21 (by decide) rfl rfl ?_
  refine g_get k cfX3 2 1 dX0_sideOf_4 lkX0_54 (by decide) rfl rfl ?_
  refine g_iload_n k 2 dX0_sideOf_7 rfl rfl ?_
  obtain ⟨κ1, hκ1, hiκ1, heκ1, hf⟩ := ixb_some hf
  refine g_iaload k 2 dX0_sideOf_8 rfl hiκ1 heκ1 ?_
  refine g_iload_n k 1 dX0_sideOf_9 rfl rfl ?_
  refine g_ishr k dX0_sideOf_10 ?_
  refine g_iconst k dX0_sideOf_11 ic_1 ?_
  refine g_iand k dX0_sideOf_12 ?_
  refine g_if_eq k (tgt := 20) dX0_sideOf_13 (by decide) (fun c2 => ?_) (fun c2 => ?_)
  · replace hf := ite_t c2 hf
    refine g_iconst k dX0_sideOf_20 ic_0 ?_
    refine g_istore_n k (lv' := [(3, .int 0), (0, .ref a0), (1, .int x1), (2, .int x2)]) dX0_sideOf_21 rfl (by decide) rfl ?_
    refine g_aload_n k 1 dX0_sideOf_22 rfl rfl ?_
    obtain ⟨o3, ho4, hf⟩ := bnd_some hf
    refine g_cv k miX0_everybody mvX0_everybody (ctX0_everybody (kL K) E N a0 a0_kind a0_weight a0_now va0_cells va0_people va0_sayings va0_frost  o3 ho4) [0] 0 (ws' := [(a0, oB 0 [.ref a0_kind, .ref a0_weight, .ref a0_now, .int va0_cells, .int va0_people, .int va0_sayings, .int va0_frost]), (a0_now, oB 3 [.ref a0_now_ice, .ref a0_now_juice, .ref a0_now_fors, .int va0_now_boat, .int va0_now_minute, .int va0_now_draw]), (a0_now_fors, aI E 5 va0_now_fors)]) dX0_sideOf_23 lkX0_57 rfl ⟨rfl, rfl⟩ ⟨by decide, by decide⟩ rfl rfl rfl rfl (Nat.le_of_ble_eq_true rfl) rfl rfl rfl ?_
    refine g_st (st' := [.int o3]) rfl ?_
    refine g_iload_n k 0 dX0_sideOf_26 rfl rfl ?_
    refine g_if_eq k (tgt := 42) dX0_sideOf_27 (by decide) (fun _ => ?_) (fun c5 => absurd c5 (by decide))
    refine g_aload_n k 1 dX0_sideOf_42 rfl rfl ?_
    refine g_get k cfX0 2 0 dX0_sideOf_43 lkX0_21 (by decide) rfl rfl ?_
    refine g_get k cfX3 2 1 dX0_sideOf_46 lkX0_54 (by decide) rfl rfl ?_
    refine g_iload_n k 3 dX0_sideOf_49 rfl rfl ?_
    obtain ⟨κ6, hκ6, hiκ6, heκ6, hf⟩ := ixb_some hf
    refine g_iaload k 2 dX0_sideOf_50 rfl hiκ6 heκ6 ?_
    refine g_iconst k dX0_sideOf_51 ic_m1 ?_
    refine g_ixor k dX0_sideOf_52 ?_
    refine g_iand k dX0_sideOf_53 ?_
    obtain rfl := Option.some.inj hf
    exact g_iret k r dX0_sideOf_54 ⟨rfl, rfl⟩
  · replace hf := ite_f c2 hf
    refine g_iconst k dX0_sideOf_16 ic_1 ?_
    refine g_goto k (tgt := 21) dX0_sideOf_17 (by decide) ?_
    refine g_istore_n k (lv' := [(3, .int 1), (0, .ref a0), (1, .int x1), (2, .int x2)]) dX0_sideOf_21 rfl (by decide) rfl ?_
    refine g_aload_n k 1 dX0_sideOf_22 rfl rfl ?_
    obtain ⟨o7, ho8, hf⟩ := bnd_some hf
    refine g_cv k miX0_everybody mvX0_everybody (ctX0_everybody (kL K) E N a0 a0_kind a0_weight a0_now va0_cells va0_people va0_sayings va0_frost  o7 ho8) [0] 0 (ws' := [(a0, oB 0 [.ref a0_kind, .ref a0_weight, .ref a0_now, .int va0_cells, .int va0_people, .int va0_sayings, .int va0_frost]), (a0_now, oB 3 [.ref a0_now_ice, .ref a0_now_juice, .ref a0_now_fors, .int va0_now_boat, .int va0_now_minute, .int va0_now_draw]), (a0_now_fors, aI E 5 va0_now_fors)]) dX0_sideOf_23 lkX0_57 rfl ⟨rfl, rfl⟩ ⟨by decide, by decide⟩ rfl rfl rfl rfl (Nat.le_of_ble_eq_true rfl) rfl rfl rfl ?_
    refine g_st (st' := [.int o7]) rfl ?_
    refine g_iload_n k 0 dX0_sideOf_26 rfl rfl ?_
    refine g_if_eq k (tgt := 42) dX0_sideOf_27 (by decide) (fun c9 => absurd c9 (by decide)) (fun _ => ?_)
    refine g_aload_n k 1 dX0_sideOf_30 rfl rfl ?_
    refine g_get k cfX0 2 0 dX0_sideOf_31 lkX0_21 (by decide) rfl rfl ?_
    refine g_get k cfX3 2 1 dX0_sideOf_34 lkX0_54 (by decide) rfl rfl ?_
    refine g_iload_n k 3 dX0_sideOf_37 rfl rfl ?_
    obtain ⟨κ10, hκ10, hiκ10, heκ10, hf⟩ := ixb_some hf
    refine g_iaload k 2 dX0_sideOf_38 rfl hiκ10 heκ10 ?_
    refine g_goto k (tgt := 53) dX0_sideOf_39 (by decide) ?_
    refine g_iand k dX0_sideOf_53 ?_
    obtain rfl := Option.some.inj hf
    exact g_iret k r dX0_sideOf_54 ⟨rfl, rfl⟩
abbrev rmX0_iceFromHereOn : Room := { frames := 0, cells := 0, slots := 0, locals := 0 }
def fX0_iceFromHereOn_L10 (N : Nat) (va0_cells : Int32) (va0_now_ice : Nat → Int32) : Nat → Int32 → Int32 → Option (Int32 × Int32)
  | 0, _, _ => none
  | n + 1, x1, x2 =>
    if va0_cells ≤ x2 then
    some (x1, x2)
    else
    ixb x2 12 fun κ2 =>
    fX0_iceFromHereOn_L10 N va0_cells va0_now_ice n (x1 + (va0_now_ice κ2)) (x2 + 1)
set_option maxHeartbeats 4000000 in
set_option maxRecDepth 100000 in
theorem wX0_iceFromHereOn_L10 {E : Ev} {K : KX} (k : OKX E K cX0_iceFromHereOn RX0 3 rmX0_iceFromHereOn) (N : Nat) (a0 : Nat) (a0_kind : Nat) (a0_weight : Nat) (a0_now : Nat) (a0_now_ice : Nat) (a0_now_juice : Nat) (a0_now_fors : Nat) (va0_cells : Int32) (va0_now_ice : Nat → Int32) (va0_people : Int32) (va0_sayings : Int32) (va0_frost : Int32) (va0_now_boat : Int32) (va0_now_minute : Int32) (va0_now_draw : Int32) : ∀ (n : Nat) (x1 : Int32) (x2 : Int32) (o : Int32 × Int32), fX0_iceFromHereOn_L10 N va0_cells va0_now_ice n x1 x2 = some o → G E K 3 0 0 [(0, .ref a0), (1, .int o.1), (2, .int o.2)] [] [(a0, oB 0 [.ref a0_kind, .ref a0_weight, .ref a0_now, .int va0_cells, .int va0_people, .int va0_sayings, .int va0_frost]), (a0_now, oB 3 [.ref a0_now_ice, .ref a0_now_juice, .ref a0_now_fors, .int va0_now_boat, .int va0_now_minute, .int va0_now_draw]), (a0_now_ice, aI E 12 va0_now_ice)] 36 → G E K 3 0 0 [(0, .ref a0), (1, .int x1), (2, .int x2)] [] [(a0, oB 0 [.ref a0_kind, .ref a0_weight, .ref a0_now, .int va0_cells, .int va0_people, .int va0_sayings, .int va0_frost]), (a0_now, oB 3 [.ref a0_now_ice, .ref a0_now_juice, .ref a0_now_fors, .int va0_now_boat, .int va0_now_minute, .int va0_now_draw]), (a0_now_ice, aI E 12 va0_now_ice)] 10 := by
  intro n
  induction n with
  | zero => intro x1 x2 o hf; cases hf
  | succ n ih =>
    intro x1 x2 o hf hG
    rw [fX0_iceFromHereOn_L10] at hf
    refine g_iload_n k 2 dX0_iceFromHereOn_10 rfl rfl ?_
    refine g_aload_n k 0 dX0_iceFromHereOn_11 rfl rfl ?_
    refine g_get k cfX0 3 0 dX0_iceFromHereOn_12 lkX0_25 (by decide) rfl rfl ?_
    refine g_icmp_ge k (tgt := 36) dX0_iceFromHereOn_15 (by decide) (fun c1 => ?_) (fun c1 => ?_)
    · replace hf := ite_t c1 hf
      refine g_lv [0, 1, 2] rfl ?_
      obtain rfl := Option.some.inj hf
      exact hG
    · replace hf := ite_f c1 hf
      refine g_iload_n k 1 dX0_iceFromHereOn_18 rfl rfl ?_
      refine g_aload_n k 0 dX0_iceFromHereOn_19 rfl rfl ?_
      refine g_get k cfX0 2 0 dX0_iceFromHereOn_20 lkX0_21 (by decide) rfl rfl ?_
      refine g_get k cfX3 0 1 dX0_iceFromHereOn_23 lkX0_48 (by decide) rfl rfl ?_
      refine g_iload_n k 2 dX0_iceFromHereOn_26 rfl rfl ?_
      obtain ⟨κ2, hκ2, hiκ2, heκ2, hf⟩ := ixb_some hf
      refine g_iaload k 2 dX0_iceFromHereOn_27 rfl hiκ2 heκ2 ?_
      refine g_iadd k dX0_iceFromHereOn_28 ?_
      refine g_istore_n k (lv' := [(1, .int (x1 + (va0_now_ice κ2))), (0, .ref a0), (2, .int x2)]) dX0_iceFromHereOn_29 rfl (by decide) rfl ?_
      refine g_iinc k (lv' := [(2, .int (x2 + 1)), (1, .int (x1 + (va0_now_ice κ2))), (0, .ref a0)]) 2 dX0_iceFromHereOn_30 rfl (ii_1 _) (by decide) rfl ?_
      refine g_goto k (tgt := 10) dX0_iceFromHereOn_33 (by decide) ?_
      refine g_lv [2, 1, 0] rfl ?_
      exact ih (x1 + (va0_now_ice κ2)) (x2 + 1) o hf hG
def fX0_iceFromHereOn (N : Nat) (va0_cells : Int32) (va0_now_boat : Int32) (va0_now_ice : Nat → Int32)  : Option (Int32) :=
  bnd (fX0_iceFromHereOn_L10 N va0_cells va0_now_ice N 0 va0_now_boat) fun o3 =>
  some (o3.1)
set_option maxHeartbeats 4000000 in
set_option maxRecDepth 100000 in
theorem ctX0_iceFromHereOn (l : Launch) (E : Ev) (N : Nat) (a0 : Nat) (a0_kind : Nat) (a0_weight : Nat) (a0_now : Nat) (a0_now_ice : Nat) (a0_now_juice : Nat) (a0_now_fors : Nat) (va0_cells : Int32) (va0_people : Int32) (va0_sayings : Int32) (va0_frost : Int32) (va0_now_boat : Int32) (va0_now_minute : Int32) (va0_now_draw : Int32) (va0_now_ice : Nat → Int32)  (out : Int32) (hf : fX0_iceFromHereOn N va0_cells va0_now_boat va0_now_ice  = some out) : Ct l E yX0_iceFromHereOn cX0_iceFromHereOn 3 (some .int) rmX0_iceFromHereOn [.ref a0] [(a0, oB 0 [.ref a0_kind, .ref a0_weight, .ref a0_now, .int va0_cells, .int va0_people, .int va0_sayings, .int va0_frost]), (a0_now, oB 3 [.ref a0_now_ice, .ref a0_now_juice, .ref a0_now_fors, .int va0_now_boat, .int va0_now_minute, .int va0_now_draw]), (a0_now_ice, aI E 12 va0_now_ice)] (Pe (some (.int out)) [(a0, oB 0 [.ref a0_kind, .ref a0_weight, .ref a0_now, .int va0_cells, .int va0_people, .int va0_sayings, .int va0_frost]), (a0_now, oB 3 [.ref a0_now_ice, .ref a0_now_juice, .ref a0_now_fors, .int va0_now_boat, .int va0_now_minute, .int va0_now_draw]), (a0_now_ice, aI E 12 va0_now_ice)]) := by
  refine Ct.of rfl (Nat.le_of_ble_eq_true rfl) (fun K hL k r hin => ?_)
  subst hL
  unfold fX0_iceFromHereOn at hf
  show G E K 3 0 0 [(0, .ref a0)] [] [(a0, oB 0 [.ref a0_kind, .ref a0_weight, .ref a0_now, .int va0_cells, .int va0_people, .int va0_sayings, .int va0_frost]), (a0_now, oB 3 [.ref a0_now_ice, .ref a0_now_juice, .ref a0_now_fors, .int va0_now_boat, .int va0_now_minute, .int va0_now_draw]), (a0_now_ice, aI E 12 va0_now_ice)] 0
  refine g_iconst k dX0_iceFromHereOn_0 ic_0 ?_
  refine g_istore_n k (lv' := [(1, .int 0), (0, .ref a0)]) dX0_iceFromHereOn_1 rfl (by decide) rfl ?_
  refine g_aload_n k 1 dX0_iceFromHereOn_2 rfl rfl ?_
  refine g_get k cfX0 2 0 dX0_iceFromHereOn_3 lkX0_21 (by decide) rfl rfl ?_
  refine g_get k cfX3 3 1 dX0_iceFromHereOn_6 lkX0_61 (by decide) rfl rfl ?_
  refine g_istore_n k (lv' := [(2, .int va0_now_boat), (1, .int 0), (0, .ref a0)]) dX0_iceFromHereOn_9 rfl (by decide) rfl ?_
  obtain ⟨o3, ho4, hf⟩ := bnd_some hf
  refine g_lv [2, 1, 0] (lv' := [(0, .ref a0), (1, .int 0), (2, .int va0_now_boat)]) rfl ?_
  refine wX0_iceFromHereOn_L10 k N a0 a0_kind a0_weight a0_now a0_now_ice a0_now_juice a0_now_fors  va0_cells va0_now_ice va0_people va0_sayings va0_frost va0_now_boat va0_now_minute va0_now_draw N 0 va0_now_boat o3 ho4 ?_
  refine g_iload_n k 1 dX0_iceFromHereOn_36 rfl rfl ?_
  obtain rfl := Option.some.inj hf
  exact g_iret k r dX0_iceFromHereOn_37 ⟨rfl, rfl⟩
abbrev rmX0_juiceOfAll : Room := { frames := 0, cells := 0, slots := 0, locals := 0 }
def fX0_juiceOfAll_L4 (N : Nat) (va0_sayings : Int32) (va0_now_juice : Nat → Int32) : Nat → Int32 → Int32 → Option (Int32 × Int32)
  | 0, _, _ => none
  | n + 1, x1, x2 =>
    if va0_sayings ≤ x2 then
    some (x1, x2)
    else
    ixb x2 5 fun κ2 =>
    fX0_juiceOfAll_L4 N va0_sayings va0_now_juice n (x1 + (va0_now_juice κ2)) (x2 + 1)
set_option maxHeartbeats 4000000 in
set_option maxRecDepth 100000 in
theorem wX0_juiceOfAll_L4 {E : Ev} {K : KX} (k : OKX E K cX0_juiceOfAll RX0 3 rmX0_juiceOfAll) (N : Nat) (a0 : Nat) (a0_kind : Nat) (a0_weight : Nat) (a0_now : Nat) (a0_now_ice : Nat) (a0_now_juice : Nat) (a0_now_fors : Nat) (va0_sayings : Int32) (va0_now_juice : Nat → Int32) (va0_cells : Int32) (va0_people : Int32) (va0_frost : Int32) (va0_now_boat : Int32) (va0_now_minute : Int32) (va0_now_draw : Int32) : ∀ (n : Nat) (x1 : Int32) (x2 : Int32) (o : Int32 × Int32), fX0_juiceOfAll_L4 N va0_sayings va0_now_juice n x1 x2 = some o → G E K 3 0 0 [(0, .ref a0), (1, .int o.1), (2, .int o.2)] [] [(a0, oB 0 [.ref a0_kind, .ref a0_weight, .ref a0_now, .int va0_cells, .int va0_people, .int va0_sayings, .int va0_frost]), (a0_now, oB 3 [.ref a0_now_ice, .ref a0_now_juice, .ref a0_now_fors, .int va0_now_boat, .int va0_now_minute, .int va0_now_draw]), (a0_now_juice, aI E 5 va0_now_juice)] 30 → G E K 3 0 0 [(0, .ref a0), (1, .int x1), (2, .int x2)] [] [(a0, oB 0 [.ref a0_kind, .ref a0_weight, .ref a0_now, .int va0_cells, .int va0_people, .int va0_sayings, .int va0_frost]), (a0_now, oB 3 [.ref a0_now_ice, .ref a0_now_juice, .ref a0_now_fors, .int va0_now_boat, .int va0_now_minute, .int va0_now_draw]), (a0_now_juice, aI E 5 va0_now_juice)] 4 := by
  intro n
  induction n with
  | zero => intro x1 x2 o hf; cases hf
  | succ n ih =>
    intro x1 x2 o hf hG
    rw [fX0_juiceOfAll_L4] at hf
    refine g_iload_n k 2 dX0_juiceOfAll_4 rfl rfl ?_
    refine g_aload_n k 0 dX0_juiceOfAll_5 rfl rfl ?_
    refine g_get k cfX0 5 0 dX0_juiceOfAll_6 lkX0_32 (by decide) rfl rfl ?_
    refine g_icmp_ge k (tgt := 30) dX0_juiceOfAll_9 (by decide) (fun c1 => ?_) (fun c1 => ?_)
    · replace hf := ite_t c1 hf
      refine g_lv [0, 1, 2] rfl ?_
      obtain rfl := Option.some.inj hf
      exact hG
    · replace hf := ite_f c1 hf
      refine g_iload_n k 1 dX0_juiceOfAll_12 rfl rfl ?_
      refine g_aload_n k 0 dX0_juiceOfAll_13 rfl rfl ?_
      refine g_get k cfX0 2 0 dX0_juiceOfAll_14 lkX0_21 (by decide) rfl rfl ?_
      refine g_get k cfX3 1 1 dX0_juiceOfAll_17 lkX0_51 (by decide) rfl rfl ?_
      refine g_iload_n k 2 dX0_juiceOfAll_20 rfl rfl ?_
      obtain ⟨κ2, hκ2, hiκ2, heκ2, hf⟩ := ixb_some hf
      refine g_iaload k 2 dX0_juiceOfAll_21 rfl hiκ2 heκ2 ?_
      refine g_iadd k dX0_juiceOfAll_22 ?_
      refine g_istore_n k (lv' := [(1, .int (x1 + (va0_now_juice κ2))), (0, .ref a0), (2, .int x2)]) dX0_juiceOfAll_23 rfl (by decide) rfl ?_
      refine g_iinc k (lv' := [(2, .int (x2 + 1)), (1, .int (x1 + (va0_now_juice κ2))), (0, .ref a0)]) 2 dX0_juiceOfAll_24 rfl (ii_1 _) (by decide) rfl ?_
      refine g_goto k (tgt := 4) dX0_juiceOfAll_27 (by decide) ?_
      refine g_lv [2, 1, 0] rfl ?_
      exact ih (x1 + (va0_now_juice κ2)) (x2 + 1) o hf hG
def fX0_juiceOfAll (N : Nat) (va0_sayings : Int32) (va0_now_juice : Nat → Int32)  : Option (Int32) :=
  bnd (fX0_juiceOfAll_L4 N va0_sayings va0_now_juice N 0 0) fun o3 =>
  some (o3.1)
set_option maxHeartbeats 4000000 in
set_option maxRecDepth 100000 in
theorem ctX0_juiceOfAll (l : Launch) (E : Ev) (N : Nat) (a0 : Nat) (a0_kind : Nat) (a0_weight : Nat) (a0_now : Nat) (a0_now_ice : Nat) (a0_now_juice : Nat) (a0_now_fors : Nat) (va0_cells : Int32) (va0_people : Int32) (va0_sayings : Int32) (va0_frost : Int32) (va0_now_boat : Int32) (va0_now_minute : Int32) (va0_now_draw : Int32) (va0_now_juice : Nat → Int32)  (out : Int32) (hf : fX0_juiceOfAll N va0_sayings va0_now_juice  = some out) : Ct l E yX0_juiceOfAll cX0_juiceOfAll 3 (some .int) rmX0_juiceOfAll [.ref a0] [(a0, oB 0 [.ref a0_kind, .ref a0_weight, .ref a0_now, .int va0_cells, .int va0_people, .int va0_sayings, .int va0_frost]), (a0_now, oB 3 [.ref a0_now_ice, .ref a0_now_juice, .ref a0_now_fors, .int va0_now_boat, .int va0_now_minute, .int va0_now_draw]), (a0_now_juice, aI E 5 va0_now_juice)] (Pe (some (.int out)) [(a0, oB 0 [.ref a0_kind, .ref a0_weight, .ref a0_now, .int va0_cells, .int va0_people, .int va0_sayings, .int va0_frost]), (a0_now, oB 3 [.ref a0_now_ice, .ref a0_now_juice, .ref a0_now_fors, .int va0_now_boat, .int va0_now_minute, .int va0_now_draw]), (a0_now_juice, aI E 5 va0_now_juice)]) := by
  refine Ct.of rfl (Nat.le_of_ble_eq_true rfl) (fun K hL k r hin => ?_)
  subst hL
  unfold fX0_juiceOfAll at hf
  show G E K 3 0 0 [(0, .ref a0)] [] [(a0, oB 0 [.ref a0_kind, .ref a0_weight, .ref a0_now, .int va0_cells, .int va0_people, .int va0_sayings, .int va0_frost]), (a0_now, oB 3 [.ref a0_now_ice, .ref a0_now_juice, .ref a0_now_fors, .int va0_now_boat, .int va0_now_minute, .int va0_now_draw]), (a0_now_juice, aI E 5 va0_now_juice)] 0
  refine g_iconst k dX0_juiceOfAll_0 ic_0 ?_
  refine g_istore_n k (lv' := [(1, .int 0), (0, .ref a0)]) dX0_juiceOfAll_1 rfl (by decide) rfl ?_
  refine g_iconst k dX0_juiceOfAll_2 ic_0 ?_
  refine g_istore_n k (lv' := [(2, .int 0), (1, .int 0), (0, .ref a0)]) dX0_juiceOfAll_3 rfl (by decide) rfl ?_
  obtain ⟨o3, ho4, hf⟩ := bnd_some hf
  refine g_lv [2, 1, 0] (lv' := [(0, .ref a0), (1, .int 0), (2, .int 0)]) rfl ?_
  refine wX0_juiceOfAll_L4 k N a0 a0_kind a0_weight a0_now a0_now_ice a0_now_juice a0_now_fors  va0_sayings va0_now_juice va0_cells va0_people va0_frost va0_now_boat va0_now_minute va0_now_draw N 0 0 o3 ho4 ?_
  refine g_iload_n k 1 dX0_juiceOfAll_30 rfl rfl ?_
  obtain rfl := Option.some.inj hf
  exact g_iret k r dX0_juiceOfAll_31 ⟨rfl, rfl⟩
abbrev rmX0_isThrough : Room := { frames := 0, cells := 0, slots := 0, locals := 0 }
def fX0_isThrough (N : Nat) (va0_cells : Int32) (va1_boat : Int32)  : Option (Int32) :=
  if va1_boat < va0_cells then
  some (0)
  else
  some (1)
set_option maxHeartbeats 4000000 in
set_option maxRecDepth 100000 in
theorem ctX0_isThrough (l : Launch) (E : Ev) (N : Nat) (a0 : Nat) (a0_kind : Nat) (a0_weight : Nat) (a0_now : Nat) (a1 : Nat) (a1_ice : Nat) (a1_juice : Nat) (a1_fors : Nat) (va0_cells : Int32) (va0_people : Int32) (va0_sayings : Int32) (va0_frost : Int32) (va1_boat : Int32) (va1_minute : Int32) (va1_draw : Int32)  (out : Int32) (hf : fX0_isThrough N va0_cells va1_boat  = some out) : Ct l E yX0_isThrough cX0_isThrough 2 (some .boolean) rmX0_isThrough [.ref a0, .ref a1] [(a0, oB 0 [.ref a0_kind, .ref a0_weight, .ref a0_now, .int va0_cells, .int va0_people, .int va0_sayings, .int va0_frost]), (a1, oB 3 [.ref a1_ice, .ref a1_juice, .ref a1_fors, .int va1_boat, .int va1_minute, .int va1_draw])] (Pe (some (.int out)) [(a0, oB 0 [.ref a0_kind, .ref a0_weight, .ref a0_now, .int va0_cells, .int va0_people, .int va0_sayings, .int va0_frost]), (a1, oB 3 [.ref a1_ice, .ref a1_juice, .ref a1_fors, .int va1_boat, .int va1_minute, .int va1_draw])]) := by
  refine Ct.of rfl (Nat.le_of_ble_eq_true rfl) (fun K hL k r hin => ?_)
  subst hL
  unfold fX0_isThrough at hf
  show G E K 2 0 0 [(0, .ref a0), (1, .ref a1)] [] [(a0, oB 0 [.ref a0_kind, .ref a0_weight, .ref a0_now, .int va0_cells, .int va0_people, .int va0_sayings, .int va0_frost]), (a1, oB 3 [.ref a1_ice, .ref a1_juice, .ref a1_fors, .int va1_boat, .int va1_minute, .int va1_draw])] 0
  refine g_aload_n k 1 dX0_isThrough_0 rfl rfl ?_
  refine g_get k cfX3 3 1 dX0_isThrough_1 lkX0_61 (by decide) rfl rfl ?_
  refine g_aload_n k 0 dX0_isThrough_4 rfl rfl ?_
  refine g_get k cfX0 3 0 dX0_isThrough_5 lkX0_25 (by decide) rfl rfl ?_
  refine g_icmp_lt k (tgt := 15) dX0_isThrough_8 (by decide) (fun c1 => ?_) (fun c1 => ?_)
  · replace hf := ite_t c1 hf
    refine g_iconst k dX0_isThrough_15 ic_0 ?_
    obtain rfl := Option.some.inj hf
    exact g_zret k (rfl) r dX0_isThrough_16 ⟨rfl, rfl⟩
  · replace hf := ite_f c1 hf
    refine g_iconst k dX0_isThrough_11 ic_1 ?_
    refine g_goto k (tgt := 16) dX0_isThrough_12 (by decide) ?_
    obtain rfl := Option.some.inj hf
    exact g_zret k (rfl) r dX0_isThrough_16 ⟨rfl, rfl⟩
abbrev rmX0_iceAhead : Room := { frames := 1, cells := 0, slots := 0, locals := 21 }
def fX0_iceAhead (N : Nat) (va0_cells : Int32) (va1_boat : Int32) (va1_ice : Nat → Int32)  : Option (Int32) :=
  bnd (fX0_isThrough N va0_cells va1_boat) fun o1 =>
  if o1 = 0 then
  ixb va1_boat 12 fun κ4 =>
  some ((va1_ice κ4))
  else
  some (0)
set_option maxHeartbeats 4000000 in
set_option maxRecDepth 100000 in
theorem ctX0_iceAhead (l : Launch) (E : Ev) (N : Nat) (a0 : Nat) (a0_kind : Nat) (a0_weight : Nat) (a0_now : Nat) (a1 : Nat) (a1_ice : Nat) (a1_juice : Nat) (a1_fors : Nat) (va0_cells : Int32) (va0_people : Int32) (va0_sayings : Int32) (va0_frost : Int32) (va1_boat : Int32) (va1_minute : Int32) (va1_draw : Int32) (va1_ice : Nat → Int32)  (out : Int32) (hf : fX0_iceAhead N va0_cells va1_boat va1_ice  = some out) : Ct l E yX0_iceAhead cX0_iceAhead 2 (some .int) rmX0_iceAhead [.ref a0, .ref a1] [(a0, oB 0 [.ref a0_kind, .ref a0_weight, .ref a0_now, .int va0_cells, .int va0_people, .int va0_sayings, .int va0_frost]), (a1, oB 3 [.ref a1_ice, .ref a1_juice, .ref a1_fors, .int va1_boat, .int va1_minute, .int va1_draw]), (a1_ice, aI E 12 va1_ice)] (Pe (some (.int out)) [(a0, oB 0 [.ref a0_kind, .ref a0_weight, .ref a0_now, .int va0_cells, .int va0_people, .int va0_sayings, .int va0_frost]), (a1, oB 3 [.ref a1_ice, .ref a1_juice, .ref a1_fors, .int va1_boat, .int va1_minute, .int va1_draw]), (a1_ice, aI E 12 va1_ice)]) := by
  refine Ct.of rfl (Nat.le_of_ble_eq_true rfl) (fun K hL k r hin => ?_)
  subst hL
  unfold fX0_iceAhead at hf
  show G E K 2 0 0 [(0, .ref a0), (1, .ref a1)] [] [(a0, oB 0 [.ref a0_kind, .ref a0_weight, .ref a0_now, .int va0_cells, .int va0_people, .int va0_sayings, .int va0_frost]), (a1, oB 3 [.ref a1_ice, .ref a1_juice, .ref a1_fors, .int va1_boat, .int va1_minute, .int va1_draw]), (a1_ice, aI E 12 va1_ice)] 0
  refine g_aload_n k 0 dX0_iceAhead_0 rfl rfl ?_
  refine g_aload_n k 1 dX0_iceAhead_1 rfl rfl ?_
  obtain ⟨o1, ho2, hf⟩ := bnd_some hf
  refine g_cv k miX0_isThrough mvX0_isThrough (ctX0_isThrough (kL K) E N a0 a0_kind a0_weight a0_now a1 a1_ice a1_juice a1_fors va0_cells va0_people va0_sayings va0_frost va1_boat va1_minute va1_draw  o1 ho2) [0, 1] 0 (ws' := [(a0, oB 0 [.ref a0_kind, .ref a0_weight, .ref a0_now, .int va0_cells, .int va0_people, .int va0_sayings, .int va0_frost]), (a1, oB 3 [.ref a1_ice, .ref a1_juice, .ref a1_fors, .int va1_boat, .int va1_minute, .int va1_draw]), (a1_ice, aI E 12 va1_ice)]) dX0_iceAhead_2 lkX0_64 rfl ⟨rfl, rfl⟩ ⟨by decide, by decide⟩ rfl rfl rfl rfl (Nat.le_of_ble_eq_true rfl) rfl rfl rfl ?_
  refine g_st (st' := [.int o1]) rfl ?_
  refine g_if_eq k (tgt := 12) dX0_iceAhead_5 (by decide) (fun c3 => ?_) (fun c3 => ?_)
  · replace hf := ite_t c3 hf
    refine g_aload_n k 1 dX0_iceAhead_12 rfl rfl ?_
    refine g_get k cfX3 0 1 dX0_iceAhead_13 lkX0_48 (by decide) rfl rfl ?_
    refine g_aload_n k 1 dX0_iceAhead_16 rfl rfl ?_
    refine g_get k cfX3 3 1 dX0_iceAhead_17 lkX0_61 (by decide) rfl rfl ?_
    obtain ⟨κ4, hκ4, hiκ4, heκ4, hf⟩ := ixb_some hf
    refine g_iaload k 2 dX0_iceAhead_20 rfl hiκ4 heκ4 ?_
    obtain rfl := Option.some.inj hf
    exact g_iret k r dX0_iceAhead_21 ⟨rfl, rfl⟩
  · replace hf := ite_f c3 hf
    refine g_iconst k dX0_iceAhead_8 ic_0 ?_
    refine g_goto k (tgt := 21) dX0_iceAhead_9 (by decide) ?_
    obtain rfl := Option.some.inj hf
    exact g_iret k r dX0_iceAhead_21 ⟨rfl, rfl⟩
abbrev rmX0_personRocks : Room := { frames := 0, cells := 0, slots := 0, locals := 0 }
def fX0_personRocks (N : Nat) (va0_kind : Nat → Int32) (va0_weight : Nat → Int32) (x1 : Int32) (x2 : Int32) (x3 : Int32) (x4 : Int32) : Option (Int32) :=
  ixb x1 6 fun κ1 =>
  if 6 ≤ x2 then
  ixb x1 6 fun κ3 =>
  if (va0_kind κ3) = 1 then
  some (((va0_weight κ1) + (x2 / 4)))
  else
  if (va0_kind κ3) = 2 then
  some ((va0_weight κ1))
  else
  if (va0_kind κ3) = 3 then
  if x3 = 0 then
  some (((va0_weight κ1) + (x2 / 4)))
  else
  some ((2 * ((va0_weight κ1) + (x2 / 4))))
  else
  if (va0_kind κ3) = 4 then
  if x4 = 0 then
  some ((va0_weight κ1))
  else
  some (((va0_weight κ1) + 3))
  else
  some ((va0_weight κ1))
  else
  ixb x1 6 fun κ10 =>
  if (va0_kind κ10) = 1 then
  some (((va0_weight κ1) + (x2 / 4)))
  else
  if (va0_kind κ10) = 2 then
  some (0)
  else
  if (va0_kind κ10) = 3 then
  if x3 = 0 then
  some (((va0_weight κ1) + (x2 / 4)))
  else
  some ((2 * ((va0_weight κ1) + (x2 / 4))))
  else
  if (va0_kind κ10) = 4 then
  if x4 = 0 then
  some (0)
  else
  some ((0 + 3))
  else
  some ((va0_weight κ1))
set_option maxHeartbeats 4000000 in
set_option maxRecDepth 100000 in
theorem ctX0_personRocks (l : Launch) (E : Ev) (N : Nat) (a0 : Nat) (a0_kind : Nat) (a0_weight : Nat) (a0_now : Nat) (va0_cells : Int32) (va0_people : Int32) (va0_sayings : Int32) (va0_frost : Int32) (va0_kind : Nat → Int32) (va0_weight : Nat → Int32) (x1 : Int32) (x2 : Int32) (x3 : Int32) (x4 : Int32) (out : Int32) (hf : fX0_personRocks N va0_kind va0_weight x1 x2 x3 x4 = some out) : Ct l E yX0_personRocks cX0_personRocks 8 (some .int) rmX0_personRocks [.ref a0, .int x1, .int x2, .int x3, .int x4] [(a0, oB 0 [.ref a0_kind, .ref a0_weight, .ref a0_now, .int va0_cells, .int va0_people, .int va0_sayings, .int va0_frost]), (a0_kind, aI E 6 va0_kind), (a0_weight, aI E 6 va0_weight)] (Pe (some (.int out)) [(a0, oB 0 [.ref a0_kind, .ref a0_weight, .ref a0_now, .int va0_cells, .int va0_people, .int va0_sayings, .int va0_frost]), (a0_kind, aI E 6 va0_kind), (a0_weight, aI E 6 va0_weight)]) := by
  refine Ct.of rfl (Nat.le_of_ble_eq_true rfl) (fun K hL k r hin => ?_)
  subst hL
  unfold fX0_personRocks at hf
  show G E K 8 0 0 [(0, .ref a0), (1, .int x1), (2, .int x2), (3, .int x3), (4, .int x4)] [] [(a0, oB 0 [.ref a0_kind, .ref a0_weight, .ref a0_now, .int va0_cells, .int va0_people, .int va0_sayings, .int va0_frost]), (a0_kind, aI E 6 va0_kind), (a0_weight, aI E 6 va0_weight)] 0
  refine g_aload_n k 0 dX0_personRocks_0 rfl rfl ?_
  refine g_get k cfX0 1 0 dX0_personRocks_1 lkX0_15 (by decide) rfl rfl ?_
  refine g_iload_n k 1 dX0_personRocks_4 rfl rfl ?_
  obtain ⟨κ1, hκ1, hiκ1, heκ1, hf⟩ := ixb_some hf
  refine g_iaload k 2 dX0_personRocks_5 rfl hiκ1 heκ1 ?_
  refine g_istore k (lv' := [(5, .int (va0_weight κ1)), (0, .ref a0), (1, .int x1), (2, .int x2), (3, .int x3), (4, .int x4)]) dX0_personRocks_6 (by decide) rfl ?_
  refine g_iload k 0 dX0_personRocks_8 rfl ?_
  refine g_iload_n k 3 dX0_personRocks_10 rfl rfl ?_
  refine g_iconst k dX0_personRocks_11 ic_4 ?_
  refine g_idiv k dX0_personRocks_12 (by decide) ?_
  refine g_iadd k dX0_personRocks_13 ?_
  refine g_istore k (lv' := [(6, .int ((va0_weight κ1) + (x2 / 4))), (5, .int (va0_weight κ1)), (0, .ref a0), (1, .int x1), (2, .int x2), (3, .int x3), (4, .int x4)]) dX0_personRocks_14 (by decide) rfl ?_
  refine g_iload_n k 4 dX0_personRocks_16 rfl rfl ?_
  refine g_bipush k dX0_personRocks_17 bi_6 ?_
  refine g_icmp_ge k (tgt := 26) dX0_personRocks_19 (by decide) (fun c2 => ?_) (fun c2 => ?_)
  · replace hf := ite_t c2 hf
    refine g_iload k 1 dX0_personRocks_26 rfl ?_
    refine g_istore k (lv' := [(7, .int (va0_weight κ1)), (6, .int ((va0_weight κ1) + (x2 / 4))), (5, .int (va0_weight κ1)), (0, .ref a0), (1, .int x1), (2, .int x2), (3, .int x3), (4, .int x4)]) dX0_personRocks_28 (by decide) rfl ?_
    refine g_aload_n k 3 dX0_personRocks_30 rfl rfl ?_
    refine g_get k cfX0 0 0 dX0_personRocks_31 lkX0_9 (by decide) rfl rfl ?_
    refine g_iload_n k 4 dX0_personRocks_34 rfl rfl ?_
    obtain ⟨κ3, hκ3, hiκ3, heκ3, hf⟩ := ixb_some hf
    refine g_iaload k 1 dX0_personRocks_35 rfl hiκ3 heκ3 ?_
    by_cases c4 : (va0_kind κ3) = 1
    · replace hf := ite_t c4 hf
      refine g_tabIn k (tgt := 68) dX0_personRocks_36 (by rw [c4]; decide) (by rw [c4]; decide) (off := 32) (by rw [c4]; rfl) (by decide) ?_
      refine g_iload k 1 dX0_personRocks_68 rfl ?_
      obtain rfl := Option.some.inj hf
      exact g_iret k r dX0_personRocks_70 ⟨rfl, rfl⟩
    replace hf := ite_f c4 hf
    by_cases c5 : (va0_kind κ3) = 2
    · replace hf := ite_t c5 hf
      refine g_tabIn k (tgt := 71) dX0_personRocks_36 (by rw [c5]; decide) (by rw [c5]; decide) (off := 35) (by rw [c5]; rfl) (by decide) ?_
      refine g_iload k 0 dX0_personRocks_71 rfl ?_
      obtain rfl := Option.some.inj hf
      exact g_iret k r dX0_personRocks_73 ⟨rfl, rfl⟩
    replace hf := ite_f c5 hf
    by_cases c6 : (va0_kind κ3) = 3
    · replace hf := ite_t c6 hf
      refine g_tabIn k (tgt := 74) dX0_personRocks_36 (by rw [c6]; decide) (by rw [c6]; decide) (off := 38) (by rw [c6]; rfl) (by decide) ?_
      refine g_iload_n k 6 dX0_personRocks_74 rfl rfl ?_
      refine g_if_eq k (tgt := 85) dX0_personRocks_75 (by decide) (fun c7 => ?_) (fun c7 => ?_)
      · replace hf := ite_t c7 hf
        refine g_iload k 1 dX0_personRocks_85 rfl ?_
        obtain rfl := Option.some.inj hf
        exact g_iret k r dX0_personRocks_87 ⟨rfl, rfl⟩
      · replace hf := ite_f c7 hf
        refine g_iconst k dX0_personRocks_78 ic_2 ?_
        refine g_iload k 1 dX0_personRocks_79 rfl ?_
        refine g_imul k dX0_personRocks_81 ?_
        refine g_goto k (tgt := 87) dX0_personRocks_82 (by decide) ?_
        obtain rfl := Option.some.inj hf
        exact g_iret k r dX0_personRocks_87 ⟨rfl, rfl⟩
    replace hf := ite_f c6 hf
    by_cases c8 : (va0_kind κ3) = 4
    · replace hf := ite_t c8 hf
      refine g_tabIn k (tgt := 88) dX0_personRocks_36 (by rw [c8]; decide) (by rw [c8]; decide) (off := 52) (by rw [c8]; rfl) (by decide) ?_
      refine g_iload k 7 dX0_personRocks_88 rfl ?_
      refine g_if_eq k (tgt := 100) dX0_personRocks_90 (by decide) (fun c9 => ?_) (fun c9 => ?_)
      · replace hf := ite_t c9 hf
        refine g_iload k 0 dX0_personRocks_100 rfl ?_
        obtain rfl := Option.some.inj hf
        exact g_iret k r dX0_personRocks_102 ⟨rfl, rfl⟩
      · replace hf := ite_f c9 hf
        refine g_iload k 0 dX0_personRocks_93 rfl ?_
        refine g_iconst k dX0_personRocks_95 ic_3 ?_
        refine g_iadd k dX0_personRocks_96 ?_
        refine g_goto k (tgt := 102) dX0_personRocks_97 (by decide) ?_
        obtain rfl := Option.some.inj hf
        exact g_iret k r dX0_personRocks_102 ⟨rfl, rfl⟩
    replace hf := ite_f c8 hf
    refine g_tabOut k (tgt := 103) dX0_personRocks_36 (by have := lv_neT (k := 1) c4 (a := 1) (by decide); have := lv_neT (k := 2) c5 (a := 2) (by decide); have := lv_neT (k := 3) c6 (a := 3) (by decide); have := lv_neT (k := 4) c8 (a := 4) (by decide); omega) (by decide) ?_
    refine g_iload k 2 dX0_personRocks_103 rfl ?_
    obtain rfl := Option.some.inj hf
    exact g_iret k r dX0_personRocks_105 ⟨rfl, rfl⟩
  · replace hf := ite_f c2 hf
    refine g_iconst k dX0_personRocks_22 ic_0 ?_
    refine g_goto k (tgt := 28) dX0_personRocks_23 (by decide) ?_
    refine g_istore k (lv' := [(7, .int 0), (6, .int ((va0_weight κ1) + (x2 / 4))), (5, .int (va0_weight κ1)), (0, .ref a0), (1, .int x1), (2, .int x2), (3, .int x3), (4, .int x4)]) dX0_personRocks_28 (by decide) rfl ?_
    refine g_aload_n k 3 dX0_personRocks_30 rfl rfl ?_
    refine g_get k cfX0 0 0 dX0_personRocks_31 lkX0_9 (by decide) rfl rfl ?_
    refine g_iload_n k 4 dX0_personRocks_34 rfl rfl ?_
    obtain ⟨κ10, hκ10, hiκ10, heκ10, hf⟩ := ixb_some hf
    refine g_iaload k 1 dX0_personRocks_35 rfl hiκ10 heκ10 ?_
    by_cases c11 : (va0_kind κ10) = 1
    · replace hf := ite_t c11 hf
      refine g_tabIn k (tgt := 68) dX0_personRocks_36 (by rw [c11]; decide) (by rw [c11]; decide) (off := 32) (by rw [c11]; rfl) (by decide) ?_
      refine g_iload k 1 dX0_personRocks_68 rfl ?_
      obtain rfl := Option.some.inj hf
      exact g_iret k r dX0_personRocks_70 ⟨rfl, rfl⟩
    replace hf := ite_f c11 hf
    by_cases c12 : (va0_kind κ10) = 2
    · replace hf := ite_t c12 hf
      refine g_tabIn k (tgt := 71) dX0_personRocks_36 (by rw [c12]; decide) (by rw [c12]; decide) (off := 35) (by rw [c12]; rfl) (by decide) ?_
      refine g_iload k 0 dX0_personRocks_71 rfl ?_
      obtain rfl := Option.some.inj hf
      exact g_iret k r dX0_personRocks_73 ⟨rfl, rfl⟩
    replace hf := ite_f c12 hf
    by_cases c13 : (va0_kind κ10) = 3
    · replace hf := ite_t c13 hf
      refine g_tabIn k (tgt := 74) dX0_personRocks_36 (by rw [c13]; decide) (by rw [c13]; decide) (off := 38) (by rw [c13]; rfl) (by decide) ?_
      refine g_iload_n k 6 dX0_personRocks_74 rfl rfl ?_
      refine g_if_eq k (tgt := 85) dX0_personRocks_75 (by decide) (fun c14 => ?_) (fun c14 => ?_)
      · replace hf := ite_t c14 hf
        refine g_iload k 1 dX0_personRocks_85 rfl ?_
        obtain rfl := Option.some.inj hf
        exact g_iret k r dX0_personRocks_87 ⟨rfl, rfl⟩
      · replace hf := ite_f c14 hf
        refine g_iconst k dX0_personRocks_78 ic_2 ?_
        refine g_iload k 1 dX0_personRocks_79 rfl ?_
        refine g_imul k dX0_personRocks_81 ?_
        refine g_goto k (tgt := 87) dX0_personRocks_82 (by decide) ?_
        obtain rfl := Option.some.inj hf
        exact g_iret k r dX0_personRocks_87 ⟨rfl, rfl⟩
    replace hf := ite_f c13 hf
    by_cases c15 : (va0_kind κ10) = 4
    · replace hf := ite_t c15 hf
      refine g_tabIn k (tgt := 88) dX0_personRocks_36 (by rw [c15]; decide) (by rw [c15]; decide) (off := 52) (by rw [c15]; rfl) (by decide) ?_
      refine g_iload k 7 dX0_personRocks_88 rfl ?_
      refine g_if_eq k (tgt := 100) dX0_personRocks_90 (by decide) (fun c16 => ?_) (fun c16 => ?_)
      · replace hf := ite_t c16 hf
        refine g_iload k 0 dX0_personRocks_100 rfl ?_
        obtain rfl := Option.some.inj hf
        exact g_iret k r dX0_personRocks_102 ⟨rfl, rfl⟩
      · replace hf := ite_f c16 hf
        refine g_iload k 0 dX0_personRocks_93 rfl ?_
        refine g_iconst k dX0_personRocks_95 ic_3 ?_
        refine g_iadd k dX0_personRocks_96 ?_
        refine g_goto k (tgt := 102) dX0_personRocks_97 (by decide) ?_
        obtain rfl := Option.some.inj hf
        exact g_iret k r dX0_personRocks_102 ⟨rfl, rfl⟩
    replace hf := ite_f c15 hf
    refine g_tabOut k (tgt := 103) dX0_personRocks_36 (by have := lv_neT (k := 1) c11 (a := 1) (by decide); have := lv_neT (k := 2) c12 (a := 2) (by decide); have := lv_neT (k := 3) c13 (a := 3) (by decide); have := lv_neT (k := 4) c15 (a := 4) (by decide); omega) (by decide) ?_
    refine g_iload k 2 dX0_personRocks_103 rfl ?_
    obtain rfl := Option.some.inj hf
    exact g_iret k r dX0_personRocks_105 ⟨rfl, rfl⟩
abbrev rmJ6_bitCount_0f7a4 : Room := { frames := 0, cells := 0, slots := 0, locals := 0 }
def fJ6_bitCount_0f7a4 (N : Nat)  (x0 : Int32) : Option (Int32) :=
  some (((((((((x0 - ((iushr x0 1) &&& 1431655765)) &&& 858993459) + ((iushr (x0 - ((iushr x0 1) &&& 1431655765)) 2) &&& 858993459)) + (iushr (((x0 - ((iushr x0 1) &&& 1431655765)) &&& 858993459) + ((iushr (x0 - ((iushr x0 1) &&& 1431655765)) 2) &&& 858993459)) 4)) &&& 252645135) + (iushr (((((x0 - ((iushr x0 1) &&& 1431655765)) &&& 858993459) + ((iushr (x0 - ((iushr x0 1) &&& 1431655765)) 2) &&& 858993459)) + (iushr (((x0 - ((iushr x0 1) &&& 1431655765)) &&& 858993459) + ((iushr (x0 - ((iushr x0 1) &&& 1431655765)) 2) &&& 858993459)) 4)) &&& 252645135) 8)) + (iushr ((((((x0 - ((iushr x0 1) &&& 1431655765)) &&& 858993459) + ((iushr (x0 - ((iushr x0 1) &&& 1431655765)) 2) &&& 858993459)) + (iushr (((x0 - ((iushr x0 1) &&& 1431655765)) &&& 858993459) + ((iushr (x0 - ((iushr x0 1) &&& 1431655765)) 2) &&& 858993459)) 4)) &&& 252645135) + (iushr (((((x0 - ((iushr x0 1) &&& 1431655765)) &&& 858993459) + ((iushr (x0 - ((iushr x0 1) &&& 1431655765)) 2) &&& 858993459)) + (iushr (((x0 - ((iushr x0 1) &&& 1431655765)) &&& 858993459) + ((iushr (x0 - ((iushr x0 1) &&& 1431655765)) 2) &&& 858993459)) 4)) &&& 252645135) 8)) 16)) &&& 63))
set_option maxHeartbeats 4000000 in
set_option maxRecDepth 100000 in
theorem ctJ6_bitCount_0f7a4 (l : Launch) (E : Ev) (N : Nat)   (x0 : Int32) (out : Int32) (hf : fJ6_bitCount_0f7a4 N  x0 = some out) : Ct l E yJ6_bitCount_0f7a4 cJ6_bitCount_0f7a4 1 (some .int) rmJ6_bitCount_0f7a4 [.int x0] [] (Pe (some (.int out)) []) := by
  refine Ct.of rfl (Nat.le_of_ble_eq_true rfl) (fun K hL k r hin => ?_)
  subst hL
  unfold fJ6_bitCount_0f7a4 at hf
  show G E K 1 0 0 [(0, .int x0)] [] [] 0
  refine g_iload_n k 0 dJ6_bitCount_0f7a4_0 rfl rfl ?_
  refine g_iload_n k 0 dJ6_bitCount_0f7a4_1 rfl rfl ?_
  refine g_iconst k dJ6_bitCount_0f7a4_2 ic_1 ?_
  refine g_iushr k dJ6_bitCount_0f7a4_3 ?_
  refine g_ldcw k dJ6_bitCount_0f7a4_4 lkJ6_265 ?_
  refine g_iand k dJ6_bitCount_0f7a4_7 ?_
  refine g_isub k dJ6_bitCount_0f7a4_8 ?_
  refine g_istore_n k (lv' := [(0, .int (x0 - ((iushr x0 1) &&& 1431655765)))]) dJ6_bitCount_0f7a4_9 rfl (by decide) rfl ?_
  refine g_iload_n k 0 dJ6_bitCount_0f7a4_10 rfl rfl ?_
  refine g_ldcw k dJ6_bitCount_0f7a4_11 lkJ6_266 ?_
  refine g_iand k dJ6_bitCount_0f7a4_14 ?_
  refine g_iload_n k 0 dJ6_bitCount_0f7a4_15 rfl rfl ?_
  refine g_iconst k dJ6_bitCount_0f7a4_16 ic_2 ?_
  refine g_iushr k dJ6_bitCount_0f7a4_17 ?_
  refine g_ldcw k dJ6_bitCount_0f7a4_18 lkJ6_266 ?_
  refine g_iand k dJ6_bitCount_0f7a4_21 ?_
  refine g_iadd k dJ6_bitCount_0f7a4_22 ?_
  refine g_istore_n k (lv' := [(0, .int (((x0 - ((iushr x0 1) &&& 1431655765)) &&& 858993459) + ((iushr (x0 - ((iushr x0 1) &&& 1431655765)) 2) &&& 858993459)))]) dJ6_bitCount_0f7a4_23 rfl (by decide) rfl ?_
  refine g_iload_n k 0 dJ6_bitCount_0f7a4_24 rfl rfl ?_
  refine g_iload_n k 0 dJ6_bitCount_0f7a4_25 rfl rfl ?_
  refine g_iconst k dJ6_bitCount_0f7a4_26 ic_4 ?_
  refine g_iushr k dJ6_bitCount_0f7a4_27 ?_
  refine g_iadd k dJ6_bitCount_0f7a4_28 ?_
  refine g_ldcw k dJ6_bitCount_0f7a4_29 lkJ6_267 ?_
  refine g_iand k dJ6_bitCount_0f7a4_32 ?_
  refine g_istore_n k (lv' := [(0, .int (((((x0 - ((iushr x0 1) &&& 1431655765)) &&& 858993459) + ((iushr (x0 - ((iushr x0 1) &&& 1431655765)) 2) &&& 858993459)) + (iushr (((x0 - ((iushr x0 1) &&& 1431655765)) &&& 858993459) + ((iushr (x0 - ((iushr x0 1) &&& 1431655765)) 2) &&& 858993459)) 4)) &&& 252645135))]) dJ6_bitCount_0f7a4_33 rfl (by decide) rfl ?_
  refine g_iload_n k 0 dJ6_bitCount_0f7a4_34 rfl rfl ?_
  refine g_iload_n k 0 dJ6_bitCount_0f7a4_35 rfl rfl ?_
  refine g_bipush k dJ6_bitCount_0f7a4_36 bi_8 ?_
  refine g_iushr k dJ6_bitCount_0f7a4_38 ?_
  refine g_iadd k dJ6_bitCount_0f7a4_39 ?_
  refine g_istore_n k (lv' := [(0, .int ((((((x0 - ((iushr x0 1) &&& 1431655765)) &&& 858993459) + ((iushr (x0 - ((iushr x0 1) &&& 1431655765)) 2) &&& 858993459)) + (iushr (((x0 - ((iushr x0 1) &&& 1431655765)) &&& 858993459) + ((iushr (x0 - ((iushr x0 1) &&& 1431655765)) 2) &&& 858993459)) 4)) &&& 252645135) + (iushr (((((x0 - ((iushr x0 1) &&& 1431655765)) &&& 858993459) + ((iushr (x0 - ((iushr x0 1) &&& 1431655765)) 2) &&& 858993459)) + (iushr (((x0 - ((iushr x0 1) &&& 1431655765)) &&& 858993459) + ((iushr (x0 - ((iushr x0 1) &&& 1431655765)) 2) &&& 858993459)) 4)) &&& 252645135) 8)))]) dJ6_bitCount_0f7a4_40 rfl (by decide) rfl ?_
  refine g_iload_n k 0 dJ6_bitCount_0f7a4_41 rfl rfl ?_
  refine g_iload_n k 0 dJ6_bitCount_0f7a4_42 rfl rfl ?_
  refine g_bipush k dJ6_bitCount_0f7a4_43 bi_16 ?_
  refine g_iushr k dJ6_bitCount_0f7a4_45 ?_
  refine g_iadd k dJ6_bitCount_0f7a4_46 ?_
  refine g_istore_n k (lv' := [(0, .int (((((((x0 - ((iushr x0 1) &&& 1431655765)) &&& 858993459) + ((iushr (x0 - ((iushr x0 1) &&& 1431655765)) 2) &&& 858993459)) + (iushr (((x0 - ((iushr x0 1) &&& 1431655765)) &&& 858993459) + ((iushr (x0 - ((iushr x0 1) &&& 1431655765)) 2) &&& 858993459)) 4)) &&& 252645135) + (iushr (((((x0 - ((iushr x0 1) &&& 1431655765)) &&& 858993459) + ((iushr (x0 - ((iushr x0 1) &&& 1431655765)) 2) &&& 858993459)) + (iushr (((x0 - ((iushr x0 1) &&& 1431655765)) &&& 858993459) + ((iushr (x0 - ((iushr x0 1) &&& 1431655765)) 2) &&& 858993459)) 4)) &&& 252645135) 8)) + (iushr ((((((x0 - ((iushr x0 1) &&& 1431655765)) &&& 858993459) + ((iushr (x0 - ((iushr x0 1) &&& 1431655765)) 2) &&& 858993459)) + (iushr (((x0 - ((iushr x0 1) &&& 1431655765)) &&& 858993459) + ((iushr (x0 - ((iushr x0 1) &&& 1431655765)) 2) &&& 858993459)) 4)) &&& 252645135) + (iushr (((((x0 - ((iushr x0 1) &&& 1431655765)) &&& 858993459) + ((iushr (x0 - ((iushr x0 1) &&& 1431655765)) 2) &&& 858993459)) + (iushr (((x0 - ((iushr x0 1) &&& 1431655765)) &&& 858993459) + ((iushr (x0 - ((iushr x0 1) &&& 1431655765)) 2) &&& 858993459)) 4)) &&& 252645135) 8)) 16)))]) dJ6_bitCount_0f7a4_47 rfl (by decide) rfl ?_
  refine g_iload_n k 0 dJ6_bitCount_0f7a4_48 rfl rfl ?_
  refine g_bipush k dJ6_bitCount_0f7a4_49 bi_63 ?_
  refine g_iand k dJ6_bitCount_0f7a4_51 ?_
  obtain rfl := Option.some.inj hf
  exact g_iret k r dJ6_bitCount_0f7a4_52 ⟨rfl, rfl⟩
abbrev rmX0_sideRocks : Room := { frames := 1, cells := 0, slots := 0, locals := 27 }
def fX0_sideRocks_L21 (N : Nat) (x1 : Int32) (x2 : Int32) (x3 : Int32) (x4 : Int32) (va0_people : Int32) (va0_kind : Nat → Int32) (va0_weight : Nat → Int32) : Nat → Int32 → Int32 → Option (Int32 × Int32)
  | 0, _, _ => none
  | n + 1, x5, x6 =>
    if va0_people ≤ x6 then
    some (x5, x6)
    else
    if ((x1 >>> (x6 &&& 31)) &&& 1) = 0 then
    fX0_sideRocks_L21 N x1 x2 x3 x4 va0_people va0_kind va0_weight n x5 (x6 + 1)
    else
    bnd (fX0_personRocks N va0_kind va0_weight x6 x2 x4 x3) fun o6 =>
    fX0_sideRocks_L21 N x1 x2 x3 x4 va0_people va0_kind va0_weight n (x5 + o6) (x6 + 1)
set_option maxHeartbeats 4000000 in
set_option maxRecDepth 100000 in
theorem wX0_sideRocks_L21 {E : Ev} {K : KX} (k : OKX E K cX0_sideRocks RX0 7 rmX0_sideRocks) (N : Nat) (a0 : Nat) (a0_kind : Nat) (a0_weight : Nat) (a0_now : Nat) (x1 : Int32) (x2 : Int32) (x3 : Int32) (x4 : Int32) (va0_people : Int32) (va0_kind : Nat → Int32) (va0_weight : Nat → Int32) (va0_cells : Int32) (va0_sayings : Int32) (va0_frost : Int32) : ∀ (n : Nat) (x5 : Int32) (x6 : Int32) (o : Int32 × Int32), fX0_sideRocks_L21 N x1 x2 x3 x4 va0_people va0_kind va0_weight n x5 x6 = some o → G E K 7 0 0 [(0, .ref a0), (1, .int x1), (2, .int x2), (3, .int x3), (4, .int x4), (5, .int o.1), (6, .int o.2)] [] [(a0, oB 0 [.ref a0_kind, .ref a0_weight, .ref a0_now, .int va0_cells, .int va0_people, .int va0_sayings, .int va0_frost]), (a0_kind, aI E 6 va0_kind), (a0_weight, aI E 6 va0_weight)] 60 → G E K 7 0 0 [(0, .ref a0), (1, .int x1), (2, .int x2), (3, .int x3), (4, .int x4), (5, .int x5), (6, .int x6)] [] [(a0, oB 0 [.ref a0_kind, .ref a0_weight, .ref a0_now, .int va0_cells, .int va0_people, .int va0_sayings, .int va0_frost]), (a0_kind, aI E 6 va0_kind), (a0_weight, aI E 6 va0_weight)] 21 := by
  intro n
  induction n with
  | zero => intro x5 x6 o hf; cases hf
  | succ n ih =>
    intro x5 x6 o hf hG
    rw [fX0_sideRocks_L21] at hf
    refine g_iload k 6 dX0_sideRocks_21 rfl ?_
    refine g_aload_n k 0 dX0_sideRocks_23 rfl rfl ?_
    refine g_get k cfX0 4 0 dX0_sideRocks_24 lkX0_29 (by decide) rfl rfl ?_
    refine g_icmp_ge k (tgt := 60) dX0_sideRocks_27 (by decide) (fun c4 => ?_) (fun c4 => ?_)
    · replace hf := ite_t c4 hf
      refine g_lv [0, 1, 2, 3, 4, 5, 6] rfl ?_
      obtain rfl := Option.some.inj hf
      exact hG
    · replace hf := ite_f c4 hf
      refine g_iload_n k 1 dX0_sideRocks_30 rfl rfl ?_
      refine g_iload k 6 dX0_sideRocks_31 rfl ?_
      refine g_ishr k dX0_sideRocks_33 ?_
      refine g_iconst k dX0_sideRocks_34 ic_1 ?_
      refine g_iand k dX0_sideRocks_35 ?_
      refine g_if_eq k (tgt := 54) dX0_sideRocks_36 (by decide) (fun c5 => ?_) (fun c5 => ?_)
      · replace hf := ite_t c5 hf
        refine g_iinc k (lv' := [(6, .int (x6 + 1)), (0, .ref a0), (1, .int x1), (2, .int x2), (3, .int x3), (4, .int x4), (5, .int x5)]) 6 dX0_sideRocks_54 rfl (ii_1 _) (by decide) rfl ?_
        refine g_goto k (tgt := 21) dX0_sideRocks_57 (by decide) ?_
        refine g_lv [1, 2, 3, 4, 5, 6, 0] rfl ?_
        exact ih x5 (x6 + 1) o hf hG
      · replace hf := ite_f c5 hf
        refine g_iload k 5 dX0_sideRocks_39 rfl ?_
        refine g_aload_n k 0 dX0_sideRocks_41 rfl rfl ?_
        refine g_iload k 6 dX0_sideRocks_42 rfl ?_
        refine g_iload_n k 2 dX0_sideRocks_44 rfl rfl ?_
        refine g_iload k 4 dX0_sideRocks_45 rfl ?_
        refine g_iload_n k 3 dX0_sideRocks_47 rfl rfl ?_
        obtain ⟨o6, ho7, hf⟩ := bnd_some hf
        refine g_cv k miX0_personRocks mvX0_personRocks (ctX0_personRocks (kL K) E N a0 a0_kind a0_weight a0_now va0_cells va0_people va0_sayings va0_frost va0_kind va0_weight x6 x2 x4 x3 o6 ho7) [0, 1, 2] 0 (ws' := [(a0, oB 0 [.ref a0_kind, .ref a0_weight, .ref a0_now, .int va0_cells, .int va0_people, .int va0_sayings, .int va0_frost]), (a0_kind, aI E 6 va0_kind), (a0_weight, aI E 6 va0_weight)]) dX0_sideRocks_48 lkX0_74 rfl ⟨rfl, rfl⟩ ⟨by decide, by decide⟩ rfl rfl rfl rfl (Nat.le_of_ble_eq_true rfl) rfl rfl rfl ?_
        refine g_st (st' := [.int o6, .int x5]) rfl ?_
        refine g_iadd k dX0_sideRocks_51 ?_
        refine g_istore k (lv' := [(5, .int (x5 + o6)), (0, .ref a0), (1, .int x1), (2, .int x2), (3, .int x3), (4, .int x4), (6, .int x6)]) dX0_sideRocks_52 (by decide) rfl ?_
        refine g_iinc k (lv' := [(6, .int (x6 + 1)), (5, .int (x5 + o6)), (0, .ref a0), (1, .int x1), (2, .int x2), (3, .int x3), (4, .int x4)]) 6 dX0_sideRocks_54 rfl (ii_1 _) (by decide) rfl ?_
        refine g_goto k (tgt := 21) dX0_sideRocks_57 (by decide) ?_
        refine g_lv [2, 3, 4, 5, 6, 1, 0] rfl ?_
        exact ih (x5 + o6) (x6 + 1) o hf hG
def fX0_sideRocks (N : Nat) (va0_people : Int32) (va0_kind : Nat → Int32) (va0_weight : Nat → Int32) (x1 : Int32) (x2 : Int32) (x3 : Int32) : Option (Int32) :=
  bnd (fJ6_bitCount_0f7a4 N x1) fun o1 =>
  if o1 = 1 then
  bnd (fX0_sideRocks_L21 N x1 x2 x3 1 va0_people va0_kind va0_weight N 0 0) fun o10 =>
  some (o10.1)
  else
  bnd (fX0_sideRocks_L21 N x1 x2 x3 0 va0_people va0_kind va0_weight N 0 0) fun o8 =>
  some (o8.1)
set_option maxHeartbeats 4000000 in
set_option maxRecDepth 100000 in
theorem ctX0_sideRocks (l : Launch) (E : Ev) (N : Nat) (a0 : Nat) (a0_kind : Nat) (a0_weight : Nat) (a0_now : Nat) (va0_cells : Int32) (va0_people : Int32) (va0_sayings : Int32) (va0_frost : Int32) (va0_kind : Nat → Int32) (va0_weight : Nat → Int32) (x1 : Int32) (x2 : Int32) (x3 : Int32) (out : Int32) (hf : fX0_sideRocks N va0_people va0_kind va0_weight x1 x2 x3 = some out) : Ct l E yX0_sideRocks cX0_sideRocks 7 (some .int) rmX0_sideRocks [.ref a0, .int x1, .int x2, .int x3] [(a0, oB 0 [.ref a0_kind, .ref a0_weight, .ref a0_now, .int va0_cells, .int va0_people, .int va0_sayings, .int va0_frost]), (a0_kind, aI E 6 va0_kind), (a0_weight, aI E 6 va0_weight)] (Pe (some (.int out)) [(a0, oB 0 [.ref a0_kind, .ref a0_weight, .ref a0_now, .int va0_cells, .int va0_people, .int va0_sayings, .int va0_frost]), (a0_kind, aI E 6 va0_kind), (a0_weight, aI E 6 va0_weight)]) := by
  refine Ct.of rfl (Nat.le_of_ble_eq_true rfl) (fun K hL k r hin => ?_)
  subst hL
  unfold fX0_sideRocks at hf
  show G E K 7 0 0 [(0, .ref a0), (1, .int x1), (2, .int x2), (3, .int x3)] [] [(a0, oB 0 [.ref a0_kind, .ref a0_weight, .ref a0_now, .int va0_cells, .int va0_people, .int va0_sayings, .int va0_frost]), (a0_kind, aI E 6 va0_kind), (a0_weight, aI E 6 va0_weight)] 0
  refine g_iload_n k 1 dX0_sideRocks_0 rfl rfl ?_
  obtain ⟨o1, ho2, hf⟩ := bnd_some hf
  refine g_cs k miJ6_bitCount_0f7a4 msJ6_bitCount_0f7a4 (ctJ6_bitCount_0f7a4 (kL K) E N   x1 o1 ho2) [] (ws' := [(a0, oB 0 [.ref a0_kind, .ref a0_weight, .ref a0_now, .int va0_cells, .int va0_people, .int va0_sayings, .int va0_frost]), (a0_kind, aI E 6 va0_kind), (a0_weight, aI E 6 va0_weight)]) dX0_sideRocks_1 lkX0_68 rfl ⟨rfl, rfl⟩ ⟨by decide, by decide⟩ rfl rfl rfl (Nat.le_of_ble_eq_true rfl) rfl rfl rfl ?_
  refine g_st (st' := [.int o1]) rfl ?_
  refine g_iconst k dX0_sideRocks_4 ic_1 ?_
  refine g_icmp_ne k (tgt := 12) dX0_sideRocks_5 (by decide) (fun c3 => ?_) (fun c3 => ?_)
  · replace hf := ite_f c3 hf
    refine g_iconst k dX0_sideRocks_12 ic_0 ?_
    refine g_istore k (lv' := [(4, .int 0), (0, .ref a0), (1, .int x1), (2, .int x2), (3, .int x3)]) dX0_sideRocks_13 (by decide) rfl ?_
    refine g_iconst k dX0_sideRocks_15 ic_0 ?_
    refine g_istore k (lv' := [(5, .int 0), (4, .int 0), (0, .ref a0), (1, .int x1), (2, .int x2), (3, .int x3)]) dX0_sideRocks_16 (by decide) rfl ?_
    refine g_iconst k dX0_sideRocks_18 ic_0 ?_
    refine g_istore k (lv' := [(6, .int 0), (5, .int 0), (4, .int 0), (0, .ref a0), (1, .int x1), (2, .int x2), (3, .int x3)]) dX0_sideRocks_19 (by decide) rfl ?_
    obtain ⟨o8, ho9, hf⟩ := bnd_some hf
    refine g_lv [3, 4, 5, 6, 2, 1, 0] (lv' := [(0, .ref a0), (1, .int x1), (2, .int x2), (3, .int x3), (4, .int 0), (5, .int 0), (6, .int 0)]) rfl ?_
    refine wX0_sideRocks_L21 k N a0 a0_kind a0_weight a0_now  x1 x2 x3 0 va0_people va0_kind va0_weight va0_cells va0_sayings va0_frost N 0 0 o8 ho9 ?_
    refine g_iload k 5 dX0_sideRocks_60 rfl ?_
    obtain rfl := Option.some.inj hf
    exact g_iret k r dX0_sideRocks_62 ⟨rfl, rfl⟩
  · replace hf := ite_t c3 hf
    refine g_iconst k dX0_sideRocks_8 ic_1 ?_
    refine g_goto k (tgt := 13) dX0_sideRocks_9 (by decide) ?_
    refine g_istore k (lv' := [(4, .int 1), (0, .ref a0), (1, .int x1), (2, .int x2), (3, .int x3)]) dX0_sideRocks_13 (by decide) rfl ?_
    refine g_iconst k dX0_sideRocks_15 ic_0 ?_
    refine g_istore k (lv' := [(5, .int 0), (4, .int 1), (0, .ref a0), (1, .int x1), (2, .int x2), (3, .int x3)]) dX0_sideRocks_16 (by decide) rfl ?_
    refine g_iconst k dX0_sideRocks_18 ic_0 ?_
    refine g_istore k (lv' := [(6, .int 0), (5, .int 0), (4, .int 1), (0, .ref a0), (1, .int x1), (2, .int x2), (3, .int x3)]) dX0_sideRocks_19 (by decide) rfl ?_
    obtain ⟨o10, ho11, hf⟩ := bnd_some hf
    refine g_lv [3, 4, 5, 6, 2, 1, 0] (lv' := [(0, .ref a0), (1, .int x1), (2, .int x2), (3, .int x3), (4, .int 1), (5, .int 0), (6, .int 0)]) rfl ?_
    refine wX0_sideRocks_L21 k N a0 a0_kind a0_weight a0_now  x1 x2 x3 1 va0_people va0_kind va0_weight va0_cells va0_sayings va0_frost N 0 0 o10 ho11 ?_
    refine g_iload k 5 dX0_sideRocks_60 rfl ?_
    obtain rfl := Option.some.inj hf
    exact g_iret k r dX0_sideRocks_62 ⟨rfl, rfl⟩
abbrev rmX0_boatRocks : Room := { frames := 2, cells := 0, slots := 0, locals := 53 }
def fX0_boatRocks (N : Nat) (va0_people : Int32) (va0_kind : Nat → Int32) (va0_weight : Nat → Int32) (x1 : Int32) (x2 : Int32) (x3 : Int32) (x4 : Int32) : Option (Int32) :=
  if x1 = 0 then
  some (0)
  else
  bnd (fX0_sideRocks N va0_people va0_kind va0_weight (x3 &&& x2) x1 x4) fun o2 =>
  bnd (fX0_sideRocks N va0_people va0_kind va0_weight (x3 &&& (x2 ^^^ (-1))) x1 x4) fun o4 =>
  some ((2 * (imin o2 o4)))
set_option maxHeartbeats 4000000 in
set_option maxRecDepth 100000 in
theorem ctX0_boatRocks (l : Launch) (E : Ev) (N : Nat) (a0 : Nat) (a0_kind : Nat) (a0_weight : Nat) (a0_now : Nat) (va0_cells : Int32) (va0_people : Int32) (va0_sayings : Int32) (va0_frost : Int32) (va0_kind : Nat → Int32) (va0_weight : Nat → Int32) (x1 : Int32) (x2 : Int32) (x3 : Int32) (x4 : Int32) (out : Int32) (hf : fX0_boatRocks N va0_people va0_kind va0_weight x1 x2 x3 x4 = some out) : Ct l E yX0_boatRocks cX0_boatRocks 5 (some .int) rmX0_boatRocks [.ref a0, .int x1, .int x2, .int x3, .int x4] [(a0, oB 0 [.ref a0_kind, .ref a0_weight, .ref a0_now, .int va0_cells, .int va0_people, .int va0_sayings, .int va0_frost]), (a0_kind, aI E 6 va0_kind), (a0_weight, aI E 6 va0_weight)] (Pe (some (.int out)) [(a0, oB 0 [.ref a0_kind, .ref a0_weight, .ref a0_now, .int va0_cells, .int va0_people, .int va0_sayings, .int va0_frost]), (a0_kind, aI E 6 va0_kind), (a0_weight, aI E 6 va0_weight)]) := by
  refine Ct.of rfl (Nat.le_of_ble_eq_true rfl) (fun K hL k r hin => ?_)
  subst hL
  unfold fX0_boatRocks at hf
  show G E K 5 0 0 [(0, .ref a0), (1, .int x1), (2, .int x2), (3, .int x3), (4, .int x4)] [] [(a0, oB 0 [.ref a0_kind, .ref a0_weight, .ref a0_now, .int va0_cells, .int va0_people, .int va0_sayings, .int va0_frost]), (a0_kind, aI E 6 va0_kind), (a0_weight, aI E 6 va0_weight)] 0
  refine g_iload_n k 1 dX0_boatRocks_0 rfl rfl ?_
  refine g_if_ne k (tgt := 6) dX0_boatRocks_1 (by decide) (fun c1 => ?_) (fun c1 => ?_)
  · replace hf := ite_f c1 hf
    refine g_iconst k dX0_boatRocks_6 ic_2 ?_
    refine g_aload_n k 0 dX0_boatRocks_7 rfl rfl ?_
    refine g_iload_n k 3 dX0_boatRocks_8 rfl rfl ?_
    refine g_iload_n k 2 dX0_boatRocks_9 rfl rfl ?_
    refine g_iand k dX0_boatRocks_10 ?_
    refine g_iload_n k 1 dX0_boatRocks_11 rfl rfl ?_
    refine g_iload k 4 dX0_boatRocks_12 rfl ?_
    obtain ⟨o2, ho3, hf⟩ := bnd_some hf
    refine g_cv k miX0_sideRocks mvX0_sideRocks (ctX0_sideRocks (kL K) E N a0 a0_kind a0_weight a0_now va0_cells va0_people va0_sayings va0_frost va0_kind va0_weight (x3 &&& x2) x1 x4 o2 ho3) [0, 1, 2] 0 (ws' := [(a0, oB 0 [.ref a0_kind, .ref a0_weight, .ref a0_now, .int va0_cells, .int va0_people, .int va0_sayings, .int va0_frost]), (a0_kind, aI E 6 va0_kind), (a0_weight, aI E 6 va0_weight)]) dX0_boatRocks_14 lkX0_78 rfl ⟨rfl, rfl⟩ ⟨by decide, by decide⟩ rfl rfl rfl rfl (Nat.le_of_ble_eq_true rfl) rfl rfl rfl ?_
    refine g_st (st' := [.int o2, .int 2]) rfl ?_
    refine g_aload_n k 0 dX0_boatRocks_17 rfl rfl ?_
    refine g_iload_n k 3 dX0_boatRocks_18 rfl rfl ?_
    refine g_iload_n k 2 dX0_boatRocks_19 rfl rfl ?_
    refine g_iconst k dX0_boatRocks_20 ic_m1 ?_
    refine g_ixor k dX0_boatRocks_21 ?_
    refine g_iand k dX0_boatRocks_22 ?_
    refine g_iload_n k 1 dX0_boatRocks_23 rfl rfl ?_
    refine g_iload k 4 dX0_boatRocks_24 rfl ?_
    obtain ⟨o4, ho5, hf⟩ := bnd_some hf
    refine g_cv k miX0_sideRocks mvX0_sideRocks (ctX0_sideRocks (kL K) E N a0 a0_kind a0_weight a0_now va0_cells va0_people va0_sayings va0_frost va0_kind va0_weight (x3 &&& (x2 ^^^ (-1))) x1 x4 o4 ho5) [0, 1, 2] 0 (ws' := [(a0, oB 0 [.ref a0_kind, .ref a0_weight, .ref a0_now, .int va0_cells, .int va0_people, .int va0_sayings, .int va0_frost]), (a0_kind, aI E 6 va0_kind), (a0_weight, aI E 6 va0_weight)]) dX0_boatRocks_26 lkX0_78 rfl ⟨rfl, rfl⟩ ⟨by decide, by decide⟩ rfl rfl rfl rfl (Nat.le_of_ble_eq_true rfl) rfl rfl rfl ?_
    refine g_st (st' := [.int o4, .int o2, .int 2]) rfl ?_
    refine g_mmin k dX0_boatRocks_29 lkX0_82 (by decide) (Nat.le_of_ble_eq_true rfl) (by decide) ?_
    refine g_imul k dX0_boatRocks_32 ?_
    obtain rfl := Option.some.inj hf
    exact g_iret k r dX0_boatRocks_33 ⟨rfl, rfl⟩
  · replace hf := ite_t c1 hf
    refine g_iconst k dX0_boatRocks_4 ic_0 ?_
    obtain rfl := Option.some.inj hf
    exact g_iret k r dX0_boatRocks_5 ⟨rfl, rfl⟩
abbrev rmX0_sayingRocks : Room := { frames := 3, cells := 0, slots := 0, locals := 77 }
def fX0_sayingRocks (N : Nat) (va0_people : Int32) (va0_kind : Nat → Int32) (va0_weight : Nat → Int32) (va1_minute : Int32) (va1_juice : Nat → Int32) (va1_fors : Nat → Int32) (x2 : Int32) : Option (Int32) :=
  ixb x2 5 fun κ1 =>
  ixb x2 5 fun κ2 =>
  bnd (fX0_everybody N va0_people) fun o3 =>
  bnd (fX3_isEven N va1_minute) fun o5 =>
  bnd (fX0_boatRocks N va0_people va0_kind va0_weight (va1_juice κ1) (va1_fors κ2) o3 o5) fun o7 =>
  some (o7)
set_option maxHeartbeats 4000000 in
set_option maxRecDepth 100000 in
theorem ctX0_sayingRocks (l : Launch) (E : Ev) (N : Nat) (a0 : Nat) (a0_kind : Nat) (a0_weight : Nat) (a0_now : Nat) (a1 : Nat) (a1_ice : Nat) (a1_juice : Nat) (a1_fors : Nat) (va0_cells : Int32) (va0_people : Int32) (va0_sayings : Int32) (va0_frost : Int32) (va0_kind : Nat → Int32) (va0_weight : Nat → Int32) (va1_boat : Int32) (va1_minute : Int32) (va1_draw : Int32) (va1_juice : Nat → Int32) (va1_fors : Nat → Int32) (x2 : Int32) (out : Int32) (hf : fX0_sayingRocks N va0_people va0_kind va0_weight va1_minute va1_juice va1_fors x2 = some out) : Ct l E yX0_sayingRocks cX0_sayingRocks 3 (some .int) rmX0_sayingRocks [.ref a0, .ref a1, .int x2] [(a0, oB 0 [.ref a0_kind, .ref a0_weight, .ref a0_now, .int va0_cells, .int va0_people, .int va0_sayings, .int va0_frost]), (a0_kind, aI E 6 va0_kind), (a0_weight, aI E 6 va0_weight), (a1, oB 3 [.ref a1_ice, .ref a1_juice, .ref a1_fors, .int va1_boat, .int va1_minute, .int va1_draw]), (a1_juice, aI E 5 va1_juice), (a1_fors, aI E 5 va1_fors)] (Pe (some (.int out)) [(a0, oB 0 [.ref a0_kind, .ref a0_weight, .ref a0_now, .int va0_cells, .int va0_people, .int va0_sayings, .int va0_frost]), (a0_kind, aI E 6 va0_kind), (a0_weight, aI E 6 va0_weight), (a1, oB 3 [.ref a1_ice, .ref a1_juice, .ref a1_fors, .int va1_boat, .int va1_minute, .int va1_draw]), (a1_juice, aI E 5 va1_juice), (a1_fors, aI E 5 va1_fors)]) := by
  refine Ct.of rfl (Nat.le_of_ble_eq_true rfl) (fun K hL k r hin => ?_)
  subst hL
  unfold fX0_sayingRocks at hf
  show G E K 3 0 0 [(0, .ref a0), (1, .ref a1), (2, .int x2)] [] [(a0, oB 0 [.ref a0_kind, .ref a0_weight, .ref a0_now, .int va0_cells, .int va0_people, .int va0_sayings, .int va0_frost]), (a0_kind, aI E 6 va0_kind), (a0_weight, aI E 6 va0_weight), (a1, oB 3 [.ref a1_ice, .ref a1_juice, .ref a1_fors, .int va1_boat, .int va1_minute, .int va1_draw]), (a1_juice, aI E 5 va1_juice), (a1_fors, aI E 5 va1_fors)] 0
  refine g_aload_n k 0 dX0_sayingRocks_0 rfl rfl ?_
  refine g_aload_n k 1 dX0_sayingRocks_1 rfl rfl ?_
  refine g_get k cfX3 1 3 dX0_sayingRocks_2 lkX0_51 (by decide) rfl rfl ?_
  refine g_iload_n k 2 dX0_sayingRocks_5 rfl rfl ?_
  obtain ⟨κ1, hκ1, hiκ1, heκ1, hf⟩ := ixb_some hf
  refine g_iaload k 4 dX0_sayingRocks_6 rfl hiκ1 heκ1 ?_
  refine g_aload_n k 1 dX0_sayingRocks_7 rfl rfl ?_
  refine g_get k cfX3 2 3 dX0_sayingRocks_8 lkX0_54 (by decide) rfl rfl ?_
  refine g_iload_n k 2 dX0_sayingRocks_11 rfl rfl ?_
  obtain ⟨κ2, hκ2, hiκ2, heκ2, hf⟩ := ixb_some hf
  refine g_iaload k 5 dX0_sayingRocks_12 rfl hiκ2 heκ2 ?_
  refine g_aload_n k 0 dX0_sayingRocks_13 rfl rfl ?_
  obtain ⟨o3, ho4, hf⟩ := bnd_some hf
  refine g_cv k miX0_everybody mvX0_everybody (ctX0_everybody (kL K) E N a0 a0_kind a0_weight a0_now va0_cells va0_people va0_sayings va0_frost  o3 ho4) [0] 0 (ws' := [(a0, oB 0 [.ref a0_kind, .ref a0_weight, .ref a0_now, .int va0_cells, .int va0_people, .int va0_sayings, .int va0_frost]), (a0_kind, aI E 6 va0_kind), (a0_weight, aI E 6 va0_weight), (a1, oB 3 [.ref a1_ice, .ref a1_juice, .ref a1_fors, .int va1_boat, .int va1_minute, .int va1_draw]), (a1_juice, aI E 5 va1_juice), (a1_fors, aI E 5 va1_fors)]) dX0_sayingRocks_14 lkX0_57 rfl ⟨rfl, rfl⟩ ⟨by decide, by decide⟩ rfl rfl rfl rfl (Nat.le_of_ble_eq_true rfl) rfl rfl rfl ?_
  refine g_st (st' := [.int o3, .int (va1_fors κ2), .int (va1_juice κ1), .ref a0]) rfl ?_
  refine g_aload_n k 1 dX0_sayingRocks_17 rfl rfl ?_
  obtain ⟨o5, ho6, hf⟩ := bnd_some hf
  refine g_cv k miX3_isEven mvX3_isEven (ctX3_isEven (kL K) E N a1 a1_ice a1_juice a1_fors va1_boat va1_minute va1_draw  o5 ho6) [3] 0 (ws' := [(a0, oB 0 [.ref a0_kind, .ref a0_weight, .ref a0_now, .int va0_cells, .int va0_people, .int va0_sayings, .int va0_frost]), (a0_kind, aI E 6 va0_kind), (a0_weight, aI E 6 va0_weight), (a1, oB 3 [.ref a1_ice, .ref a1_juice, .ref a1_fors, .int va1_boat, .int va1_minute, .int va1_draw]), (a1_juice, aI E 5 va1_juice), (a1_fors, aI E 5 va1_fors)]) dX0_sayingRocks_18 lkX0_88 rfl ⟨rfl, rfl⟩ ⟨by decide, by decide⟩ rfl rfl rfl rfl (Nat.le_of_ble_eq_true rfl) rfl rfl rfl ?_
  refine g_st (st' := [.int o5, .int o3, .int (va1_fors κ2), .int (va1_juice κ1), .ref a0]) rfl ?_
  obtain ⟨o7, ho8, hf⟩ := bnd_some hf
  refine g_cv k miX0_boatRocks mvX0_boatRocks (ctX0_boatRocks (kL K) E N a0 a0_kind a0_weight a0_now va0_cells va0_people va0_sayings va0_frost va0_kind va0_weight (va1_juice κ1) (va1_fors κ2) o3 o5 o7 ho8) [0, 1, 2] 0 (ws' := [(a0, oB 0 [.ref a0_kind, .ref a0_weight, .ref a0_now, .int va0_cells, .int va0_people, .int va0_sayings, .int va0_frost]), (a0_kind, aI E 6 va0_kind), (a0_weight, aI E 6 va0_weight), (a1, oB 3 [.ref a1_ice, .ref a1_juice, .ref a1_fors, .int va1_boat, .int va1_minute, .int va1_draw]), (a1_juice, aI E 5 va1_juice), (a1_fors, aI E 5 va1_fors)]) dX0_sayingRocks_21 lkX0_92 rfl ⟨rfl, rfl⟩ ⟨by decide, by decide⟩ rfl rfl rfl rfl (Nat.le_of_ble_eq_true rfl) rfl rfl rfl ?_
  refine g_st (st' := [.int o7]) rfl ?_
  obtain rfl := Option.some.inj hf
  exact g_iret k r dX0_sayingRocks_24 ⟨rfl, rfl⟩
abbrev rmX0_crewRocks : Room := { frames := 3, cells := 0, slots := 0, locals := 77 }
def fX0_crewRocks (N : Nat) (va0_people : Int32) (va0_kind : Nat → Int32) (va0_weight : Nat → Int32) (va0_now_minute : Int32) (va0_now_juice : Nat → Int32) (va0_now_fors : Nat → Int32) (x1 : Int32) (x2 : Int32) : Option (Int32) :=
  ixb x1 5 fun κ1 =>
  ixb x1 5 fun κ2 =>
  bnd (fX3_isEven N va0_now_minute) fun o3 =>
  bnd (fX0_boatRocks N va0_people va0_kind va0_weight (va0_now_juice κ1) (va0_now_fors κ2) x2 o3) fun o5 =>
  some (o5)
set_option maxHeartbeats 4000000 in
set_option maxRecDepth 100000 in
theorem ctX0_crewRocks (l : Launch) (E : Ev) (N : Nat) (a0 : Nat) (a0_kind : Nat) (a0_weight : Nat) (a0_now : Nat) (a0_now_ice : Nat) (a0_now_juice : Nat) (a0_now_fors : Nat) (va0_cells : Int32) (va0_people : Int32) (va0_sayings : Int32) (va0_frost : Int32) (va0_kind : Nat → Int32) (va0_weight : Nat → Int32) (va0_now_boat : Int32) (va0_now_minute : Int32) (va0_now_draw : Int32) (va0_now_juice : Nat → Int32) (va0_now_fors : Nat → Int32) (x1 : Int32) (x2 : Int32) (out : Int32) (hf : fX0_crewRocks N va0_people va0_kind va0_weight va0_now_minute va0_now_juice va0_now_fors x1 x2 = some out) : Ct l E yX0_crewRocks cX0_crewRocks 3 (some .int) rmX0_crewRocks [.ref a0, .int x1, .int x2] [(a0, oB 0 [.ref a0_kind, .ref a0_weight, .ref a0_now, .int va0_cells, .int va0_people, .int va0_sayings, .int va0_frost]), (a0_kind, aI E 6 va0_kind), (a0_weight, aI E 6 va0_weight), (a0_now, oB 3 [.ref a0_now_ice, .ref a0_now_juice, .ref a0_now_fors, .int va0_now_boat, .int va0_now_minute, .int va0_now_draw]), (a0_now_juice, aI E 5 va0_now_juice), (a0_now_fors, aI E 5 va0_now_fors)] (Pe (some (.int out)) [(a0, oB 0 [.ref a0_kind, .ref a0_weight, .ref a0_now, .int va0_cells, .int va0_people, .int va0_sayings, .int va0_frost]), (a0_kind, aI E 6 va0_kind), (a0_weight, aI E 6 va0_weight), (a0_now, oB 3 [.ref a0_now_ice, .ref a0_now_juice, .ref a0_now_fors, .int va0_now_boat, .int va0_now_minute, .int va0_now_draw]), (a0_now_juice, aI E 5 va0_now_juice), (a0_now_fors, aI E 5 va0_now_fors)]) := by
  refine Ct.of rfl (Nat.le_of_ble_eq_true rfl) (fun K hL k r hin => ?_)
  subst hL
  unfold fX0_crewRocks at hf
  show G E K 3 0 0 [(0, .ref a0), (1, .int x1), (2, .int x2)] [] [(a0, oB 0 [.ref a0_kind, .ref a0_weight, .ref a0_now, .int va0_cells, .int va0_people, .int va0_sayings, .int va0_frost]), (a0_kind, aI E 6 va0_kind), (a0_weight, aI E 6 va0_weight), (a0_now, oB 3 [.ref a0_now_ice, .ref a0_now_juice, .ref a0_now_fors, .int va0_now_boat, .int va0_now_minute, .int va0_now_draw]), (a0_now_juice, aI E 5 va0_now_juice), (a0_now_fors, aI E 5 va0_now_fors)] 0
  refine g_aload_n k 0 dX0_crewRocks_0 rfl rfl ?_
  refine g_aload_n k 0 dX0_crewRocks_1 rfl rfl ?_
  refine g_get k cfX0 2 0 dX0_crewRocks_2 lkX0_21 (by decide) rfl rfl ?_
  refine g_get k cfX3 1 3 dX0_crewRocks_5 lkX0_51 (by decide) rfl rfl ?_
  refine g_iload_n k 1 dX0_crewRocks_8 rfl rfl ?_
  obtain ⟨κ1, hκ1, hiκ1, heκ1, hf⟩ := ixb_some hf
  refine g_iaload k 4 dX0_crewRocks_9 rfl hiκ1 heκ1 ?_
  refine g_aload_n k 0 dX0_crewRocks_10 rfl rfl ?_
  refine g_get k cfX0 2 0 dX0_crewRocks_11 lkX0_21 (by decide) rfl rfl ?_
  refine g_get k cfX3 2 3 dX0_crewRocks_14 lkX0_54 (by decide) rfl rfl ?_
  refine g_iload_n k 1 dX0_crewRocks_17 rfl rfl ?_
  obtain ⟨κ2, hκ2, hiκ2, heκ2, hf⟩ := ixb_some hf
  refine g_iaload k 5 dX0_crewRocks_18 rfl hiκ2 heκ2 ?_
  refine g_iload_n k 2 dX0_crewRocks_19 rfl rfl ?_
  refine g_aload_n k 0 dX0_crewRocks_20 rfl rfl ?_
  refine g_get k cfX0 2 0 dX0_crewRocks_21 lkX0_21 (by decide) rfl rfl ?_
  obtain ⟨o3, ho4, hf⟩ := bnd_some hf
  refine g_cv k miX3_isEven mvX3_isEven (ctX3_isEven (kL K) E N a0_now a0_now_ice a0_now_juice a0_now_fors va0_now_boat va0_now_minute va0_now_draw  o3 ho4) [3] 0 (ws' := [(a0, oB 0 [.ref a0_kind, .ref a0_weight, .ref a0_now, .int va0_cells, .int va0_people, .int va0_sayings, .int va0_frost]), (a0_kind, aI E 6 va0_kind), (a0_weight, aI E 6 va0_weight), (a0_now, oB 3 [.ref a0_now_ice, .ref a0_now_juice, .ref a0_now_fors, .int va0_now_boat, .int va0_now_minute, .int va0_now_draw]), (a0_now_juice, aI E 5 va0_now_juice), (a0_now_fors, aI E 5 va0_now_fors)]) dX0_crewRocks_24 lkX0_88 rfl ⟨rfl, rfl⟩ ⟨by decide, by decide⟩ rfl rfl rfl rfl (Nat.le_of_ble_eq_true rfl) rfl rfl rfl ?_
  refine g_st (st' := [.int o3, .int x2, .int (va0_now_fors κ2), .int (va0_now_juice κ1), .ref a0]) rfl ?_
  obtain ⟨o5, ho6, hf⟩ := bnd_some hf
  refine g_cv k miX0_boatRocks mvX0_boatRocks (ctX0_boatRocks (kL K) E N a0 a0_kind a0_weight a0_now va0_cells va0_people va0_sayings va0_frost va0_kind va0_weight (va0_now_juice κ1) (va0_now_fors κ2) x2 o3 o5 ho6) [0, 1, 2] 0 (ws' := [(a0, oB 0 [.ref a0_kind, .ref a0_weight, .ref a0_now, .int va0_cells, .int va0_people, .int va0_sayings, .int va0_frost]), (a0_kind, aI E 6 va0_kind), (a0_weight, aI E 6 va0_weight), (a0_now, oB 3 [.ref a0_now_ice, .ref a0_now_juice, .ref a0_now_fors, .int va0_now_boat, .int va0_now_minute, .int va0_now_draw]), (a0_now_juice, aI E 5 va0_now_juice), (a0_now_fors, aI E 5 va0_now_fors)]) dX0_crewRocks_27 lkX0_92 rfl ⟨rfl, rfl⟩ ⟨by decide, by decide⟩ rfl rfl rfl rfl (Nat.le_of_ble_eq_true rfl) rfl rfl rfl ?_
  refine g_st (st' := [.int o5]) rfl ?_
  obtain rfl := Option.some.inj hf
  exact g_iret k r dX0_crewRocks_30 ⟨rfl, rfl⟩
abbrev rmX0_swayedRocks : Room := { frames := 3, cells := 0, slots := 0, locals := 77 }
def fX0_swayedRocks (N : Nat) (va0_people : Int32) (va0_kind : Nat → Int32) (va0_weight : Nat → Int32) (va0_now_minute : Int32) (va0_now_juice : Nat → Int32) (va0_now_fors : Nat → Int32) (x1 : Int32) (x2 : Int32) : Option (Int32) :=
  ixb x1 5 fun κ1 =>
  ixb x1 5 fun κ2 =>
  bnd (fX0_everybody N va0_people) fun o3 =>
  bnd (fX3_isEven N va0_now_minute) fun o5 =>
  bnd (fX0_boatRocks N va0_people va0_kind va0_weight (va0_now_juice κ1) ((va0_now_fors κ2) ^^^ x2) o3 o5) fun o7 =>
  some (o7)
set_option maxHeartbeats 4000000 in
set_option maxRecDepth 100000 in
theorem ctX0_swayedRocks (l : Launch) (E : Ev) (N : Nat) (a0 : Nat) (a0_kind : Nat) (a0_weight : Nat) (a0_now : Nat) (a0_now_ice : Nat) (a0_now_juice : Nat) (a0_now_fors : Nat) (va0_cells : Int32) (va0_people : Int32) (va0_sayings : Int32) (va0_frost : Int32) (va0_kind : Nat → Int32) (va0_weight : Nat → Int32) (va0_now_boat : Int32) (va0_now_minute : Int32) (va0_now_draw : Int32) (va0_now_juice : Nat → Int32) (va0_now_fors : Nat → Int32) (x1 : Int32) (x2 : Int32) (out : Int32) (hf : fX0_swayedRocks N va0_people va0_kind va0_weight va0_now_minute va0_now_juice va0_now_fors x1 x2 = some out) : Ct l E yX0_swayedRocks cX0_swayedRocks 3 (some .int) rmX0_swayedRocks [.ref a0, .int x1, .int x2] [(a0, oB 0 [.ref a0_kind, .ref a0_weight, .ref a0_now, .int va0_cells, .int va0_people, .int va0_sayings, .int va0_frost]), (a0_kind, aI E 6 va0_kind), (a0_weight, aI E 6 va0_weight), (a0_now, oB 3 [.ref a0_now_ice, .ref a0_now_juice, .ref a0_now_fors, .int va0_now_boat, .int va0_now_minute, .int va0_now_draw]), (a0_now_juice, aI E 5 va0_now_juice), (a0_now_fors, aI E 5 va0_now_fors)] (Pe (some (.int out)) [(a0, oB 0 [.ref a0_kind, .ref a0_weight, .ref a0_now, .int va0_cells, .int va0_people, .int va0_sayings, .int va0_frost]), (a0_kind, aI E 6 va0_kind), (a0_weight, aI E 6 va0_weight), (a0_now, oB 3 [.ref a0_now_ice, .ref a0_now_juice, .ref a0_now_fors, .int va0_now_boat, .int va0_now_minute, .int va0_now_draw]), (a0_now_juice, aI E 5 va0_now_juice), (a0_now_fors, aI E 5 va0_now_fors)]) := by
  refine Ct.of rfl (Nat.le_of_ble_eq_true rfl) (fun K hL k r hin => ?_)
  subst hL
  unfold fX0_swayedRocks at hf
  show G E K 3 0 0 [(0, .ref a0), (1, .int x1), (2, .int x2)] [] [(a0, oB 0 [.ref a0_kind, .ref a0_weight, .ref a0_now, .int va0_cells, .int va0_people, .int va0_sayings, .int va0_frost]), (a0_kind, aI E 6 va0_kind), (a0_weight, aI E 6 va0_weight), (a0_now, oB 3 [.ref a0_now_ice, .ref a0_now_juice, .ref a0_now_fors, .int va0_now_boat, .int va0_now_minute, .int va0_now_draw]), (a0_now_juice, aI E 5 va0_now_juice), (a0_now_fors, aI E 5 va0_now_fors)] 0
  refine g_aload_n k 0 dX0_swayedRocks_0 rfl rfl ?_
  refine g_aload_n k 0 dX0_swayedRocks_1 rfl rfl ?_
  refine g_get k cfX0 2 0 dX0_swayedRocks_2 lkX0_21 (by decide) rfl rfl ?_
  refine g_get k cfX3 1 3 dX0_swayedRocks_5 lkX0_51 (by decide) rfl rfl ?_
  refine g_iload_n k 1 dX0_swayedRocks_8 rfl rfl ?_
  obtain ⟨κ1, hκ1, hiκ1, heκ1, hf⟩ := ixb_some hf
  refine g_iaload k 4 dX0_swayedRocks_9 rfl hiκ1 heκ1 ?_
  refine g_aload_n k 0 dX0_swayedRocks_10 rfl rfl ?_
  refine g_get k cfX0 2 0 dX0_swayedRocks_11 lkX0_21 (by decide) rfl rfl ?_
  refine g_get k cfX3 2 3 dX0_swayedRocks_14 lkX0_54 (by decide) rfl rfl ?_
  refine g_iload_n k 1 dX0_swayedRocks_17 rfl rfl ?_
  obtain ⟨κ2, hκ2, hiκ2, heκ2, hf⟩ := ixb_some hf
  refine g_iaload k 5 dX0_swayedRocks_18 rfl hiκ2 heκ2 ?_
  refine g_iload_n k 2 dX0_swayedRocks_19 rfl rfl ?_
  refine g_ixor k dX0_swayedRocks_20 ?_
  refine g_aload_n k 0 dX0_swayedRocks_21 rfl rfl ?_
  obtain ⟨o3, ho4, hf⟩ := bnd_some hf
  refine g_cv k miX0_everybody mvX0_everybody (ctX0_everybody (kL K) E N a0 a0_kind a0_weight a0_now va0_cells va0_people va0_sayings va0_frost  o3 ho4) [0] 0 (ws' := [(a0, oB 0 [.ref a0_kind, .ref a0_weight, .ref a0_now, .int va0_cells, .int va0_people, .int va0_sayings, .int va0_frost]), (a0_kind, aI E 6 va0_kind), (a0_weight, aI E 6 va0_weight), (a0_now, oB 3 [.ref a0_now_ice, .ref a0_now_juice, .ref a0_now_fors, .int va0_now_boat, .int va0_now_minute, .int va0_now_draw]), (a0_now_juice, aI E 5 va0_now_juice), (a0_now_fors, aI E 5 va0_now_fors)]) dX0_swayedRocks_22 lkX0_57 rfl ⟨rfl, rfl⟩ ⟨by decide, by decide⟩ rfl rfl rfl rfl (Nat.le_of_ble_eq_true rfl) rfl rfl rfl ?_
  refine g_st (st' := [.int o3, .int ((va0_now_fors κ2) ^^^ x2), .int (va0_now_juice κ1), .ref a0]) rfl ?_
  refine g_aload_n k 0 dX0_swayedRocks_25 rfl rfl ?_
  refine g_get k cfX0 2 0 dX0_swayedRocks_26 lkX0_21 (by decide) rfl rfl ?_
  obtain ⟨o5, ho6, hf⟩ := bnd_some hf
  refine g_cv k miX3_isEven mvX3_isEven (ctX3_isEven (kL K) E N a0_now a0_now_ice a0_now_juice a0_now_fors va0_now_boat va0_now_minute va0_now_draw  o5 ho6) [3] 0 (ws' := [(a0, oB 0 [.ref a0_kind, .ref a0_weight, .ref a0_now, .int va0_cells, .int va0_people, .int va0_sayings, .int va0_frost]), (a0_kind, aI E 6 va0_kind), (a0_weight, aI E 6 va0_weight), (a0_now, oB 3 [.ref a0_now_ice, .ref a0_now_juice, .ref a0_now_fors, .int va0_now_boat, .int va0_now_minute, .int va0_now_draw]), (a0_now_juice, aI E 5 va0_now_juice), (a0_now_fors, aI E 5 va0_now_fors)]) dX0_swayedRocks_29 lkX0_88 rfl ⟨rfl, rfl⟩ ⟨by decide, by decide⟩ rfl rfl rfl rfl (Nat.le_of_ble_eq_true rfl) rfl rfl rfl ?_
  refine g_st (st' := [.int o5, .int o3, .int ((va0_now_fors κ2) ^^^ x2), .int (va0_now_juice κ1), .ref a0]) rfl ?_
  obtain ⟨o7, ho8, hf⟩ := bnd_some hf
  refine g_cv k miX0_boatRocks mvX0_boatRocks (ctX0_boatRocks (kL K) E N a0 a0_kind a0_weight a0_now va0_cells va0_people va0_sayings va0_frost va0_kind va0_weight (va0_now_juice κ1) ((va0_now_fors κ2) ^^^ x2) o3 o5 o7 ho8) [0, 1, 2] 0 (ws' := [(a0, oB 0 [.ref a0_kind, .ref a0_weight, .ref a0_now, .int va0_cells, .int va0_people, .int va0_sayings, .int va0_frost]), (a0_kind, aI E 6 va0_kind), (a0_weight, aI E 6 va0_weight), (a0_now, oB 3 [.ref a0_now_ice, .ref a0_now_juice, .ref a0_now_fors, .int va0_now_boat, .int va0_now_minute, .int va0_now_draw]), (a0_now_juice, aI E 5 va0_now_juice), (a0_now_fors, aI E 5 va0_now_fors)]) dX0_swayedRocks_32 lkX0_92 rfl ⟨rfl, rfl⟩ ⟨by decide, by decide⟩ rfl rfl rfl rfl (Nat.le_of_ble_eq_true rfl) rfl rfl rfl ?_
  refine g_st (st' := [.int o7]) rfl ?_
  obtain rfl := Option.some.inj hf
  exact g_iret k r dX0_swayedRocks_35 ⟨rfl, rfl⟩
abbrev rmX0_partingRocks : Room := { frames := 4, cells := 0, slots := 0, locals := 99 }
def fX0_partingRocks_L7 (N : Nat) (x1 : Int32) (va0_people : Int32) (va0_sayings : Int32) (va0_kind : Nat → Int32) (va0_weight : Nat → Int32) (va0_now_minute : Int32) (va0_now_juice : Nat → Int32) (va0_now_fors : Nat → Int32) : Nat → Int32 → Int32 → Int32 → Option (Int32 × Int32 × Int32)
  | 0, _, _, _ => none
  | n + 1, x2, x3, x4 =>
    if va0_sayings ≤ x4 then
    some (x2, x3, x4)
    else
    bnd (fX0_crewRocks N va0_people va0_kind va0_weight va0_now_minute va0_now_juice va0_now_fors x4 x1) fun o2 =>
    bnd (fX0_everybody N va0_people) fun o4 =>
    bnd (fX0_crewRocks N va0_people va0_kind va0_weight va0_now_minute va0_now_juice va0_now_fors x4 (o4 &&& (x1 ^^^ (-1)))) fun o6 =>
    fX0_partingRocks_L7 N x1 va0_people va0_sayings va0_kind va0_weight va0_now_minute va0_now_juice va0_now_fors n (imax x2 o2) (imax x3 o6) (x4 + 1)
set_option maxHeartbeats 4000000 in
set_option maxRecDepth 100000 in
theorem wX0_partingRocks_L7 {E : Ev} {K : KX} (k : OKX E K cX0_partingRocks RX0 5 rmX0_partingRocks) (N : Nat) (a0 : Nat) (a0_kind : Nat) (a0_weight : Nat) (a0_now : Nat) (a0_now_ice : Nat) (a0_now_juice : Nat) (a0_now_fors : Nat) (x1 : Int32) (va0_people : Int32) (va0_sayings : Int32) (va0_kind : Nat → Int32) (va0_weight : Nat → Int32) (va0_now_minute : Int32) (va0_now_juice : Nat → Int32) (va0_now_fors : Nat → Int32) (va0_cells : Int32) (va0_frost : Int32) (va0_now_boat : Int32) (va0_now_draw : Int32) : ∀ (n : Nat) (x2 : Int32) (x3 : Int32) (x4 : Int32) (o : Int32 × Int32 × Int32), fX0_partingRocks_L7 N x1 va0_people va0_sayings va0_kind va0_weight va0_now_minute va0_now_juice va0_now_fors n x2 x3 x4 = some o → G E K 5 0 0 [(0, .ref a0), (1, .int x1), (2, .int o.1), (3, .int o.2.1), (4, .int o.2.2)] [] [(a0, oB 0 [.ref a0_kind, .ref a0_weight, .ref a0_now, .int va0_cells, .int va0_people, .int va0_sayings, .int va0_frost]), (a0_kind, aI E 6 va0_kind), (a0_weight, aI E 6 va0_weight), (a0_now, oB 3 [.ref a0_now_ice, .ref a0_now_juice, .ref a0_now_fors, .int va0_now_boat, .int va0_now_minute, .int va0_now_draw]), (a0_now_juice, aI E 5 va0_now_juice), (a0_now_fors, aI E 5 va0_now_fors)] 53 → G E K 5 0 0 [(0, .ref a0), (1, .int x1), (2, .int x2), (3, .int x3), (4, .int x4)] [] [(a0, oB 0 [.ref a0_kind, .ref a0_weight, .ref a0_now, .int va0_cells, .int va0_people, .int va0_sayings, .int va0_frost]), (a0_kind, aI E 6 va0_kind), (a0_weight, aI E 6 va0_weight), (a0_now, oB 3 [.ref a0_now_ice, .ref a0_now_juice, .ref a0_now_fors, .int va0_now_boat, .int va0_now_minute, .int va0_now_draw]), (a0_now_juice, aI E 5 va0_now_juice), (a0_now_fors, aI E 5 va0_now_fors)] 7 := by
  intro n
  induction n with
  | zero => intro x2 x3 x4 o hf; cases hf
  | succ n ih =>
    intro x2 x3 x4 o hf hG
    rw [fX0_partingRocks_L7] at hf
    refine g_iload k 4 dX0_partingRocks_7 rfl ?_
    refine g_aload_n k 0 dX0_partingRocks_9 rfl rfl ?_
    refine g_get k cfX0 5 0 dX0_partingRocks_10 lkX0_32 (by decide) rfl rfl ?_
    refine g_icmp_ge k (tgt := 53) dX0_partingRocks_13 (by decide) (fun c1 => ?_) (fun c1 => ?_)
    · replace hf := ite_t c1 hf
      refine g_lv [0, 1, 2, 3, 4] rfl ?_
      obtain rfl := Option.some.inj hf
      exact hG
    · replace hf := ite_f c1 hf
      refine g_iload_n k 2 dX0_partingRocks_16 rfl rfl ?_
      refine g_aload_n k 0 dX0_partingRocks_17 rfl rfl ?_
      refine g_iload k 4 dX0_partingRocks_18 rfl ?_
      refine g_iload_n k 1 dX0_partingRocks_20 rfl rfl ?_
      obtain ⟨o2, ho3, hf⟩ := bnd_some hf
      refine g_cv k miX0_crewRocks mvX0_crewRocks (ctX0_crewRocks (kL K) E N a0 a0_kind a0_weight a0_now a0_now_ice a0_now_juice a0_now_fors va0_cells va0_people va0_sayings va0_frost va0_kind va0_weight va0_now_boat va0_now_minute va0_now_draw va0_now_juice va0_now_fors x4 x1 o2 ho3) [0, 1, 2, 3, 4, 5] 0 (ws' := [(a0, oB 0 [.ref a0_kind, .ref a0_weight, .ref a0_now, .int va0_cells, .int va0_people, .int va0_sayings, .int va0_frost]), (a0_kind, aI E 6 va0_kind), (a0_weight, aI E 6 va0_weight), (a0_now, oB 3 [.ref a0_now_ice, .ref a0_now_juice, .ref a0_now_fors, .int va0_now_boat, .int va0_now_minute, .int va0_now_draw]), (a0_now_juice, aI E 5 va0_now_juice), (a0_now_fors, aI E 5 va0_now_fors)]) dX0_partingRocks_21 lkX0_96 rfl ⟨rfl, rfl⟩ ⟨by decide, by decide⟩ rfl rfl rfl rfl (Nat.le_of_ble_eq_true rfl) rfl rfl rfl ?_
      refine g_st (st' := [.int o2, .int x2]) rfl ?_
      refine g_mmax k dX0_partingRocks_24 lkX0_99 (by decide) (Nat.le_of_ble_eq_true rfl) (by decide) ?_
      refine g_istore_n k (lv' := [(2, .int (imax x2 o2)), (0, .ref a0), (1, .int x1), (3, .int x3), (4, .int x4)]) dX0_partingRocks_27 rfl (by decide) rfl ?_
      refine g_iload_n k 3 dX0_partingRocks_28 rfl rfl ?_
      refine g_aload_n k 1 dX0_partingRocks_29 rfl rfl ?_
      refine g_iload k 4 dX0_partingRocks_30 rfl ?_
      refine g_aload_n k 1 dX0_partingRocks_32 rfl rfl ?_
      obtain ⟨o4, ho5, hf⟩ := bnd_some hf
      refine g_cv k miX0_everybody mvX0_everybody (ctX0_everybody (kL K) E N a0 a0_kind a0_weight a0_now va0_cells va0_people va0_sayings va0_frost  o4 ho5) [0] 0 (ws' := [(a0, oB 0 [.ref a0_kind, .ref a0_weight, .ref a0_now, .int va0_cells, .int va0_people, .int va0_sayings, .int va0_frost]), (a0_kind, aI E 6 va0_kind), (a0_weight, aI E 6 va0_weight), (a0_now, oB 3 [.ref a0_now_ice, .ref a0_now_juice, .ref a0_now_fors, .int va0_now_boat, .int va0_now_minute, .int va0_now_draw]), (a0_now_juice, aI E 5 va0_now_juice), (a0_now_fors, aI E 5 va0_now_fors)]) dX0_partingRocks_33 lkX0_57 rfl ⟨rfl, rfl⟩ ⟨by decide, by decide⟩ rfl rfl rfl rfl (Nat.le_of_ble_eq_true rfl) rfl rfl rfl ?_
      refine g_st (st' := [.int o4, .int x4, .ref a0, .int x3]) rfl ?_
      refine g_iload_n k 2 dX0_partingRocks_36 rfl rfl ?_
      refine g_iconst k dX0_partingRocks_37 ic_m1 ?_
      refine g_ixor k dX0_partingRocks_38 ?_
      refine g_iand k dX0_partingRocks_39 ?_
      obtain ⟨o6, ho7, hf⟩ := bnd_some hf
      refine g_cv k miX0_crewRocks mvX0_crewRocks (ctX0_crewRocks (kL K) E N a0 a0_kind a0_weight a0_now a0_now_ice a0_now_juice a0_now_fors va0_cells va0_people va0_sayings va0_frost va0_kind va0_weight va0_now_boat va0_now_minute va0_now_draw va0_now_juice va0_now_fors x4 (o4 &&& (x1 ^^^ (-1))) o6 ho7) [0, 1, 2, 3, 4, 5] 0 (ws' := [(a0, oB 0 [.ref a0_kind, .ref a0_weight, .ref a0_now, .int va0_cells, .int va0_people, .int va0_sayings, .int va0_frost]), (a0_kind, aI E 6 va0_kind), (a0_weight, aI E 6 va0_weight), (a0_now, oB 3 [.ref a0_now_ice, .ref a0_now_juice, .ref a0_now_fors, .int va0_now_boat, .int va0_now_minute, .int va0_now_draw]), (a0_now_juice, aI E 5 va0_now_juice), (a0_now_fors, aI E 5 va0_now_fors)]) dX0_partingRocks_40 lkX0_96 rfl ⟨rfl, rfl⟩ ⟨by decide, by decide⟩ rfl rfl rfl rfl (Nat.le_of_ble_eq_true rfl) rfl rfl rfl ?_
      refine g_st (st' := [.int o6, .int x3]) rfl ?_
      refine g_mmax k dX0_partingRocks_43 lkX0_99 (by decide) (Nat.le_of_ble_eq_true rfl) (by decide) ?_
      refine g_istore_n k (lv' := [(3, .int (imax x3 o6)), (2, .int (imax x2 o2)), (0, .ref a0), (1, .int x1), (4, .int x4)]) dX0_partingRocks_46 rfl (by decide) rfl ?_
      refine g_iinc k (lv' := [(4, .int (x4 + 1)), (3, .int (imax x3 o6)), (2, .int (imax x2 o2)), (0, .ref a0), (1, .int x1)]) 4 dX0_partingRocks_47 rfl (ii_1 _) (by decide) rfl ?_
      refine g_goto k (tgt := 7) dX0_partingRocks_50 (by decide) ?_
      refine g_lv [3, 4, 2, 1, 0] rfl ?_
      exact ih (imax x2 o2) (imax x3 o6) (x4 + 1) o hf hG
def fX0_partingRocks (N : Nat) (va0_people : Int32) (va0_sayings : Int32) (va0_kind : Nat → Int32) (va0_weight : Nat → Int32) (va0_now_minute : Int32) (va0_now_juice : Nat → Int32) (va0_now_fors : Nat → Int32) (x1 : Int32) : Option (Int32) :=
  bnd (fX0_partingRocks_L7 N x1 va0_people va0_sayings va0_kind va0_weight va0_now_minute va0_now_juice va0_now_fors N 0 0 0) fun o8 =>
  some ((imin o8.1 o8.2.1))
set_option maxHeartbeats 4000000 in
set_option maxRecDepth 100000 in
theorem ctX0_partingRocks (l : Launch) (E : Ev) (N : Nat) (a0 : Nat) (a0_kind : Nat) (a0_weight : Nat) (a0_now : Nat) (a0_now_ice : Nat) (a0_now_juice : Nat) (a0_now_fors : Nat) (va0_cells : Int32) (va0_people : Int32) (va0_sayings : Int32) (va0_frost : Int32) (va0_kind : Nat → Int32) (va0_weight : Nat → Int32) (va0_now_boat : Int32) (va0_now_minute : Int32) (va0_now_draw : Int32) (va0_now_juice : Nat → Int32) (va0_now_fors : Nat → Int32) (x1 : Int32) (out : Int32) (hf : fX0_partingRocks N va0_people va0_sayings va0_kind va0_weight va0_now_minute va0_now_juice va0_now_fors x1 = some out) : Ct l E yX0_partingRocks cX0_partingRocks 5 (some .int) rmX0_partingRocks [.ref a0, .int x1] [(a0, oB 0 [.ref a0_kind, .ref a0_weight, .ref a0_now, .int va0_cells, .int va0_people, .int va0_sayings, .int va0_frost]), (a0_kind, aI E 6 va0_kind), (a0_weight, aI E 6 va0_weight), (a0_now, oB 3 [.ref a0_now_ice, .ref a0_now_juice, .ref a0_now_fors, .int va0_now_boat, .int va0_now_minute, .int va0_now_draw]), (a0_now_juice, aI E 5 va0_now_juice), (a0_now_fors, aI E 5 va0_now_fors)] (Pe (some (.int out)) [(a0, oB 0 [.ref a0_kind, .ref a0_weight, .ref a0_now, .int va0_cells, .int va0_people, .int va0_sayings, .int va0_frost]), (a0_kind, aI E 6 va0_kind), (a0_weight, aI E 6 va0_weight), (a0_now, oB 3 [.ref a0_now_ice, .ref a0_now_juice, .ref a0_now_fors, .int va0_now_boat, .int va0_now_minute, .int va0_now_draw]), (a0_now_juice, aI E 5 va0_now_juice), (a0_now_fors, aI E 5 va0_now_fors)]) := by
  refine Ct.of rfl (Nat.le_of_ble_eq_true rfl) (fun K hL k r hin => ?_)
  subst hL
  unfold fX0_partingRocks at hf
  show G E K 5 0 0 [(0, .ref a0), (1, .int x1)] [] [(a0, oB 0 [.ref a0_kind, .ref a0_weight, .ref a0_now, .int va0_cells, .int va0_people, .int va0_sayings, .int va0_frost]), (a0_kind, aI E 6 va0_kind), (a0_weight, aI E 6 va0_weight), (a0_now, oB 3 [.ref a0_now_ice, .ref a0_now_juice, .ref a0_now_fors, .int va0_now_boat, .int va0_now_minute, .int va0_now_draw]), (a0_now_juice, aI E 5 va0_now_juice), (a0_now_fors, aI E 5 va0_now_fors)] 0
  refine g_iconst k dX0_partingRocks_0 ic_0 ?_
  refine g_istore_n k (lv' := [(2, .int 0), (0, .ref a0), (1, .int x1)]) dX0_partingRocks_1 rfl (by decide) rfl ?_
  refine g_iconst k dX0_partingRocks_2 ic_0 ?_
  refine g_istore_n k (lv' := [(3, .int 0), (2, .int 0), (0, .ref a0), (1, .int x1)]) dX0_partingRocks_3 rfl (by decide) rfl ?_
  refine g_iconst k dX0_partingRocks_4 ic_0 ?_
  refine g_istore k (lv' := [(4, .int 0), (3, .int 0), (2, .int 0), (0, .ref a0), (1, .int x1)]) dX0_partingRocks_5 (by decide) rfl ?_
  obtain ⟨o8, ho9, hf⟩ := bnd_some hf
  refine g_lv [3, 4, 2, 1, 0] (lv' := [(0, .ref a0), (1, .int x1), (2, .int 0), (3, .int 0), (4, .int 0)]) rfl ?_
  refine wX0_partingRocks_L7 k N a0 a0_kind a0_weight a0_now a0_now_ice a0_now_juice a0_now_fors  x1 va0_people va0_sayings va0_kind va0_weight va0_now_minute va0_now_juice va0_now_fors va0_cells va0_frost va0_now_boat va0_now_draw N 0 0 0 o8 ho9 ?_
  refine g_iload_n k 2 dX0_partingRocks_53 rfl rfl ?_
  refine g_iload_n k 3 dX0_partingRocks_54 rfl rfl ?_
  refine g_mmin k dX0_partingRocks_55 lkX0_82 (by decide) (Nat.le_of_ble_eq_true rfl) (by decide) ?_
  obtain rfl := Option.some.inj hf
  exact g_iret k r dX0_partingRocks_58 ⟨rfl, rfl⟩
abbrev rmX0_mostRocking : Room := { frames := 4, cells := 0, slots := 0, locals := 99 }
def fX0_mostRocking_L8 (N : Nat) (va0_people : Int32) (va0_sayings : Int32) (va0_kind : Nat → Int32) (va0_weight : Nat → Int32) (va1_minute : Int32) (va1_juice : Nat → Int32) (va1_fors : Nat → Int32) : Nat → Int32 → Int32 → Int32 → Option (Int32 × Int32 × Int32)
  | 0, _, _, _ => none
  | n + 1, x2, x3, x4 =>
    if va0_sayings ≤ x4 then
    some (x2, x3, x4)
    else
    bnd (fX0_sayingRocks N va0_people va0_kind va0_weight va1_minute va1_juice va1_fors x4) fun o2 =>
    if o2 ≤ x3 then
    fX0_mostRocking_L8 N va0_people va0_sayings va0_kind va0_weight va1_minute va1_juice va1_fors n x2 x3 (x4 + 1)
    else
    fX0_mostRocking_L8 N va0_people va0_sayings va0_kind va0_weight va1_minute va1_juice va1_fors n x4 o2 (x4 + 1)
set_option maxHeartbeats 4000000 in
set_option maxRecDepth 100000 in
theorem wX0_mostRocking_L8 {E : Ev} {K : KX} (k : OKX E K cX0_mostRocking RX0 6 rmX0_mostRocking) (N : Nat) (a0 : Nat) (a0_kind : Nat) (a0_weight : Nat) (a0_now : Nat) (a1 : Nat) (a1_ice : Nat) (a1_juice : Nat) (a1_fors : Nat) (va0_people : Int32) (va0_sayings : Int32) (va0_kind : Nat → Int32) (va0_weight : Nat → Int32) (va1_minute : Int32) (va1_juice : Nat → Int32) (va1_fors : Nat → Int32) (va0_cells : Int32) (va0_frost : Int32) (va1_boat : Int32) (va1_draw : Int32) : ∀ (n : Nat) (x2 : Int32) (x3 : Int32) (x4 : Int32) (o : Int32 × Int32 × Int32), fX0_mostRocking_L8 N va0_people va0_sayings va0_kind va0_weight va1_minute va1_juice va1_fors n x2 x3 x4 = some o → G E K 6 0 0 [(0, .ref a0), (1, .ref a1), (2, .int o.1), (3, .int o.2.1), (4, .int o.2.2)] [] [(a0, oB 0 [.ref a0_kind, .ref a0_weight, .ref a0_now, .int va0_cells, .int va0_people, .int va0_sayings, .int va0_frost]), (a0_kind, aI E 6 va0_kind), (a0_weight, aI E 6 va0_weight), (a1, oB 3 [.ref a1_ice, .ref a1_juice, .ref a1_fors, .int va1_boat, .int va1_minute, .int va1_draw]), (a1_juice, aI E 5 va1_juice), (a1_fors, aI E 5 va1_fors)] 44 → G E K 6 0 0 [(0, .ref a0), (1, .ref a1), (2, .int x2), (3, .int x3), (4, .int x4)] [] [(a0, oB 0 [.ref a0_kind, .ref a0_weight, .ref a0_now, .int va0_cells, .int va0_people, .int va0_sayings, .int va0_frost]), (a0_kind, aI E 6 va0_kind), (a0_weight, aI E 6 va0_weight), (a1, oB 3 [.ref a1_ice, .ref a1_juice, .ref a1_fors, .int va1_boat, .int va1_minute, .int va1_draw]), (a1_juice, aI E 5 va1_juice), (a1_fors, aI E 5 va1_fors)] 8 := by
  intro n
  induction n with
  | zero => intro x2 x3 x4 o hf; cases hf
  | succ n ih =>
    intro x2 x3 x4 o hf hG
    rw [fX0_mostRocking_L8] at hf
    refine g_iload k 4 dX0_mostRocking_8 rfl ?_
    refine g_aload_n k 0 dX0_mostRocking_10 rfl rfl ?_
    refine g_get k cfX0 5 0 dX0_mostRocking_11 lkX0_32 (by decide) rfl rfl ?_
    refine g_icmp_ge k (tgt := 44) dX0_mostRocking_14 (by decide) (fun c1 => ?_) (fun c1 => ?_)
    · replace hf := ite_t c1 hf
      refine g_lv [0, 1, 2, 3, 4] rfl ?_
      obtain rfl := Option.some.inj hf
      exact hG
    · replace hf := ite_f c1 hf
      refine g_aload_n k 0 dX0_mostRocking_17 rfl rfl ?_
      refine g_aload_n k 1 dX0_mostRocking_18 rfl rfl ?_
      refine g_iload k 4 dX0_mostRocking_19 rfl ?_
      obtain ⟨o2, ho3, hf⟩ := bnd_some hf
      refine g_cv k miX0_sayingRocks mvX0_sayingRocks (ctX0_sayingRocks (kL K) E N a0 a0_kind a0_weight a0_now a1 a1_ice a1_juice a1_fors va0_cells va0_people va0_sayings va0_frost va0_kind va0_weight va1_boat va1_minute va1_draw va1_juice va1_fors x4 o2 ho3) [0, 1, 2, 3, 4, 5] 0 (ws' := [(a0, oB 0 [.ref a0_kind, .ref a0_weight, .ref a0_now, .int va0_cells, .int va0_people, .int va0_sayings, .int va0_frost]), (a0_kind, aI E 6 va0_kind), (a0_weight, aI E 6 va0_weight), (a1, oB 3 [.ref a1_ice, .ref a1_juice, .ref a1_fors, .int va1_boat, .int va1_minute, .int va1_draw]), (a1_juice, aI E 5 va1_juice), (a1_fors, aI E 5 va1_fors)]) dX0_mostRocking_21 lkX0_102 rfl ⟨rfl, rfl⟩ ⟨by decide, by decide⟩ rfl rfl rfl rfl (Nat.le_of_ble_eq_true rfl) rfl rfl rfl ?_
      refine g_st (st' := [.int o2]) rfl ?_
      refine g_istore k (lv' := [(5, .int o2), (0, .ref a0), (1, .ref a1), (2, .int x2), (3, .int x3), (4, .int x4)]) dX0_mostRocking_24 (by decide) rfl ?_
      refine g_iload k 0 dX0_mostRocking_26 rfl ?_
      refine g_iload_n k 4 dX0_mostRocking_28 rfl rfl ?_
      refine g_icmp_le k (tgt := 38) dX0_mostRocking_29 (by decide) (fun c4 => ?_) (fun c4 => ?_)
      · replace hf := ite_t c4 hf
        refine g_iinc k (lv' := [(4, .int (x4 + 1)), (5, .int o2), (0, .ref a0), (1, .ref a1), (2, .int x2), (3, .int x3)]) 5 dX0_mostRocking_38 rfl (ii_1 _) (by decide) rfl ?_
        refine g_goto k (tgt := 8) dX0_mostRocking_41 (by decide) ?_
        refine g_lv [2, 3, 4, 5, 0] rfl ?_
        exact ih x2 x3 (x4 + 1) o hf hG
      · replace hf := ite_f c4 hf
        refine g_iload k 5 dX0_mostRocking_32 rfl ?_
        refine g_istore_n k (lv' := [(2, .int x4), (5, .int o2), (0, .ref a0), (1, .ref a1), (3, .int x3), (4, .int x4)]) dX0_mostRocking_34 rfl (by decide) rfl ?_
        refine g_iload k 1 dX0_mostRocking_35 rfl ?_
        refine g_istore_n k (lv' := [(3, .int o2), (2, .int x4), (5, .int o2), (0, .ref a0), (1, .ref a1), (4, .int x4)]) dX0_mostRocking_37 rfl (by decide) rfl ?_
        refine g_iinc k (lv' := [(4, .int (x4 + 1)), (3, .int o2), (2, .int x4), (5, .int o2), (0, .ref a0), (1, .ref a1)]) 5 dX0_mostRocking_38 rfl (ii_1 _) (by decide) rfl ?_
        refine g_goto k (tgt := 8) dX0_mostRocking_41 (by decide) ?_
        refine g_lv [4, 5, 2, 1, 0] rfl ?_
        exact ih x4 o2 (x4 + 1) o hf hG
def fX0_mostRocking (N : Nat) (va0_people : Int32) (va0_sayings : Int32) (va0_kind : Nat → Int32) (va0_weight : Nat → Int32) (va1_minute : Int32) (va1_juice : Nat → Int32) (va1_fors : Nat → Int32)  : Option (Int32) :=
  bnd (fX0_mostRocking_L8 N va0_people va0_sayings va0_kind va0_weight va1_minute va1_juice va1_fors N (-4) (-1) 0) fun o5 =>
  some (o5.1)
set_option maxHeartbeats 4000000 in
set_option maxRecDepth 100000 in
theorem ctX0_mostRocking (l : Launch) (E : Ev) (N : Nat) (a0 : Nat) (a0_kind : Nat) (a0_weight : Nat) (a0_now : Nat) (a1 : Nat) (a1_ice : Nat) (a1_juice : Nat) (a1_fors : Nat) (va0_cells : Int32) (va0_people : Int32) (va0_sayings : Int32) (va0_frost : Int32) (va0_kind : Nat → Int32) (va0_weight : Nat → Int32) (va1_boat : Int32) (va1_minute : Int32) (va1_draw : Int32) (va1_juice : Nat → Int32) (va1_fors : Nat → Int32)  (out : Int32) (hf : fX0_mostRocking N va0_people va0_sayings va0_kind va0_weight va1_minute va1_juice va1_fors  = some out) : Ct l E yX0_mostRocking cX0_mostRocking 6 (some .int) rmX0_mostRocking [.ref a0, .ref a1] [(a0, oB 0 [.ref a0_kind, .ref a0_weight, .ref a0_now, .int va0_cells, .int va0_people, .int va0_sayings, .int va0_frost]), (a0_kind, aI E 6 va0_kind), (a0_weight, aI E 6 va0_weight), (a1, oB 3 [.ref a1_ice, .ref a1_juice, .ref a1_fors, .int va1_boat, .int va1_minute, .int va1_draw]), (a1_juice, aI E 5 va1_juice), (a1_fors, aI E 5 va1_fors)] (Pe (some (.int out)) [(a0, oB 0 [.ref a0_kind, .ref a0_weight, .ref a0_now, .int va0_cells, .int va0_people, .int va0_sayings, .int va0_frost]), (a0_kind, aI E 6 va0_kind), (a0_weight, aI E 6 va0_weight), (a1, oB 3 [.ref a1_ice, .ref a1_juice, .ref a1_fors, .int va1_boat, .int va1_minute, .int va1_draw]), (a1_juice, aI E 5 va1_juice), (a1_fors, aI E 5 va1_fors)]) := by
  refine Ct.of rfl (Nat.le_of_ble_eq_true rfl) (fun K hL k r hin => ?_)
  subst hL
  unfold fX0_mostRocking at hf
  show G E K 6 0 0 [(0, .ref a0), (1, .ref a1)] [] [(a0, oB 0 [.ref a0_kind, .ref a0_weight, .ref a0_now, .int va0_cells, .int va0_people, .int va0_sayings, .int va0_frost]), (a0_kind, aI E 6 va0_kind), (a0_weight, aI E 6 va0_weight), (a1, oB 3 [.ref a1_ice, .ref a1_juice, .ref a1_fors, .int va1_boat, .int va1_minute, .int va1_draw]), (a1_juice, aI E 5 va1_juice), (a1_fors, aI E 5 va1_fors)] 0
  refine g_bipush k dX0_mostRocking_0 bi_m4 ?_
  refine g_istore_n k (lv' := [(2, .int (-4)), (0, .ref a0), (1, .ref a1)]) dX0_mostRocking_2 rfl (by decide) rfl ?_
  refine g_iconst k dX0_mostRocking_3 ic_m1 ?_
  refine g_istore_n k (lv' := [(3, .int (-1)), (2, .int (-4)), (0, .ref a0), (1, .ref a1)]) dX0_mostRocking_4 rfl (by decide) rfl ?_
  refine g_iconst k dX0_mostRocking_5 ic_0 ?_
  refine g_istore k (lv' := [(4, .int 0), (3, .int (-1)), (2, .int (-4)), (0, .ref a0), (1, .ref a1)]) dX0_mostRocking_6 (by decide) rfl ?_
  obtain ⟨o5, ho6, hf⟩ := bnd_some hf
  refine g_lv [3, 4, 2, 1, 0] (lv' := [(0, .ref a0), (1, .ref a1), (2, .int (-4)), (3, .int (-1)), (4, .int 0)]) rfl ?_
  refine wX0_mostRocking_L8 k N a0 a0_kind a0_weight a0_now a1 a1_ice a1_juice a1_fors  va0_people va0_sayings va0_kind va0_weight va1_minute va1_juice va1_fors va0_cells va0_frost va1_boat va1_draw N (-4) (-1) 0 o5 ho6 ?_
  refine g_iload_n k 2 dX0_mostRocking_44 rfl rfl ?_
  obtain rfl := Option.some.inj hf
  exact g_iret k r dX0_mostRocking_45 ⟨rfl, rfl⟩
abbrev rmX0_breakIce : Room := { frames := 1, cells := 0, slots := 0, locals := 21 }
def fX0_breakIce (N : Nat) (va0_frost : Int32) (va1_boat : Int32) (va1_ice : Nat → Int32) (x2 : Int32) : Option (Int32 × (Nat → Int32)) :=
  ixb va1_boat 12 fun κ1 =>
  if 0 < ((va1_ice κ1) - x2) then
  ixb va1_boat 12 fun κ3 =>
  some (va1_boat, (upd va1_ice κ3 (imin 60 (((va1_ice κ1) - x2) + va0_frost))))
  else
  ixb va1_boat 12 fun κ4 =>
  some ((va1_boat + 1), (upd va1_ice κ4 0))
set_option maxHeartbeats 4000000 in
set_option maxRecDepth 100000 in
theorem ctX0_breakIce (l : Launch) (E : Ev) (N : Nat) (a0 : Nat) (a0_kind : Nat) (a0_weight : Nat) (a0_now : Nat) (a1 : Nat) (a1_ice : Nat) (a1_juice : Nat) (a1_fors : Nat) (va0_cells : Int32) (va0_people : Int32) (va0_sayings : Int32) (va0_frost : Int32) (va1_boat : Int32) (va1_minute : Int32) (va1_draw : Int32) (va1_ice : Nat → Int32) (x2 : Int32) (out : Int32 × (Nat → Int32)) (hf : fX0_breakIce N va0_frost va1_boat va1_ice x2 = some out) : Ct l E yX0_breakIce cX0_breakIce 4 none rmX0_breakIce [.ref a0, .ref a1, .int x2] [(a0, oB 0 [.ref a0_kind, .ref a0_weight, .ref a0_now, .int va0_cells, .int va0_people, .int va0_sayings, .int va0_frost]), (a1, oB 3 [.ref a1_ice, .ref a1_juice, .ref a1_fors, .int va1_boat, .int va1_minute, .int va1_draw]), (a1_ice, aI E 12 va1_ice)] (Pe none [(a0, oB 0 [.ref a0_kind, .ref a0_weight, .ref a0_now, .int va0_cells, .int va0_people, .int va0_sayings, .int va0_frost]), (a1, oB 3 [.ref a1_ice, .ref a1_juice, .ref a1_fors, .int out.1, .int va1_minute, .int va1_draw]), (a1_ice, aI E 12 out.2)]) := by
  refine Ct.of rfl (Nat.le_of_ble_eq_true rfl) (fun K hL k r hin => ?_)
  subst hL
  unfold fX0_breakIce at hf
  show G E K 4 0 0 [(0, .ref a0), (1, .ref a1), (2, .int x2)] [] [(a0, oB 0 [.ref a0_kind, .ref a0_weight, .ref a0_now, .int va0_cells, .int va0_people, .int va0_sayings, .int va0_frost]), (a1, oB 3 [.ref a1_ice, .ref a1_juice, .ref a1_fors, .int va1_boat, .int va1_minute, .int va1_draw]), (a1_ice, aI E 12 va1_ice)] 0
  refine g_aload_n k 1 dX0_breakIce_0 rfl rfl ?_
  refine g_get k cfX3 0 1 dX0_breakIce_1 lkX0_48 (by decide) rfl rfl ?_
  refine g_aload_n k 1 dX0_breakIce_4 rfl rfl ?_
  refine g_get k cfX3 3 1 dX0_breakIce_5 lkX0_61 (by decide) rfl rfl ?_
  obtain ⟨κ1, hκ1, hiκ1, heκ1, hf⟩ := ixb_some hf
  refine g_iaload k 2 dX0_breakIce_8 rfl hiκ1 heκ1 ?_
  refine g_iload_n k 2 dX0_breakIce_9 rfl rfl ?_
  refine g_isub k dX0_breakIce_10 ?_
  refine g_istore_n k (lv' := [(3, .int ((va1_ice κ1) - x2)), (0, .ref a0), (1, .ref a1), (2, .int x2)]) dX0_breakIce_11 rfl (by decide) rfl ?_
  refine g_iload_n k 0 dX0_breakIce_12 rfl rfl ?_
  refine g_if_gt k (tgt := 39) dX0_breakIce_13 (by decide) (fun c2 => ?_) (fun c2 => ?_)
  · replace hf := ite_t c2 hf
    refine g_aload_n k 2 dX0_breakIce_39 rfl rfl ?_
    refine g_get k cfX3 0 1 dX0_breakIce_40 lkX0_48 (by decide) rfl rfl ?_
    refine g_aload_n k 2 dX0_breakIce_43 rfl rfl ?_
    refine g_get k cfX3 3 1 dX0_breakIce_44 lkX0_61 (by decide) rfl rfl ?_
    refine g_bipush k dX0_breakIce_47 bi_60 ?_
    refine g_iload_n k 0 dX0_breakIce_49 rfl rfl ?_
    refine g_aload_n k 1 dX0_breakIce_50 rfl rfl ?_
    refine g_get k cfX0 6 0 dX0_breakIce_51 lkX0_35 (by decide) rfl rfl ?_
    refine g_iadd k dX0_breakIce_54 ?_
    refine g_mmin k dX0_breakIce_55 lkX0_82 (by decide) (Nat.le_of_ble_eq_true rfl) (by decide) ?_
    obtain ⟨κ3, hκ3, hiκ3, heκ3, hf⟩ := ixb_some hf
    refine g_iastore k 2 (ws' := [(a0, oB 0 [.ref a0_kind, .ref a0_weight, .ref a0_now, .int va0_cells, .int va0_people, .int va0_sayings, .int va0_frost]), (a1, oB 3 [.ref a1_ice, .ref a1_juice, .ref a1_fors, .int va1_boat, .int va1_minute, .int va1_draw]), (a1_ice, aI E 12 (upd va1_ice κ3 (imin 60 (((va1_ice κ1) - x2) + va0_frost))))]) dX0_breakIce_58 rfl hiκ3 heκ3 rfl ?_
    obtain rfl := Option.some.inj hf
    exact g_vret k r dX0_breakIce_59 ⟨rfl, rfl⟩
  · replace hf := ite_f c2 hf
    refine g_aload_n k 2 dX0_breakIce_16 rfl rfl ?_
    refine g_get k cfX3 0 1 dX0_breakIce_17 lkX0_48 (by decide) rfl rfl ?_
    refine g_aload_n k 2 dX0_breakIce_20 rfl rfl ?_
    refine g_get k cfX3 3 1 dX0_breakIce_21 lkX0_61 (by decide) rfl rfl ?_
    refine g_iconst k dX0_breakIce_24 ic_0 ?_
    obtain ⟨κ4, hκ4, hiκ4, heκ4, hf⟩ := ixb_some hf
    refine g_iastore k 2 (ws' := [(a0, oB 0 [.ref a0_kind, .ref a0_weight, .ref a0_now, .int va0_cells, .int va0_people, .int va0_sayings, .int va0_frost]), (a1, oB 3 [.ref a1_ice, .ref a1_juice, .ref a1_fors, .int va1_boat, .int va1_minute, .int va1_draw]), (a1_ice, aI E 12 (upd va1_ice κ4 0))]) dX0_breakIce_25 rfl hiκ4 heκ4 rfl ?_
    refine g_aload_n k 2 dX0_breakIce_26 rfl rfl ?_
    refine g_dup k dX0_breakIce_27 rfl ?_
    refine g_get k cfX3 3 1 dX0_breakIce_28 lkX0_61 (by decide) rfl rfl ?_
    refine g_iconst k dX0_breakIce_31 ic_1 ?_
    refine g_iadd k dX0_breakIce_32 ?_
    refine g_put k cfX3 3 1 (ws' := [(a0, oB 0 [.ref a0_kind, .ref a0_weight, .ref a0_now, .int va0_cells, .int va0_people, .int va0_sayings, .int va0_frost]), (a1, oB 3 [.ref a1_ice, .ref a1_juice, .ref a1_fors, .int (va1_boat + 1), .int va1_minute, .int va1_draw]), (a1_ice, aI E 12 (upd va1_ice κ4 0))]) dX0_breakIce_33 lkX0_61 (by decide) rfl rfl rfl rfl (Nat.le_of_ble_eq_true rfl) rfl ?_
    refine g_goto k (tgt := 59) dX0_breakIce_36 (by decide) ?_
    obtain rfl := Option.some.inj hf
    exact g_vret k r dX0_breakIce_59 ⟨rfl, rfl⟩
abbrev rmX0_pass : Room := { frames := 4, cells := 0, slots := 0, locals := 99 }
def fX0_pass_L33 (N : Nat) (x2 : Int32) (va0_sayings : Int32) : Nat → Int32 → (Nat → Int32) → Option (Int32 × (Nat → Int32))
  | 0, _, _ => none
  | n + 1, x3, va1_juice =>
    if va0_sayings ≤ x3 then
    some (x3, va1_juice)
    else
    if x3 = x2 then
    ixb x3 5 fun κ10 =>
    ixb x3 5 fun κ11 =>
    fX0_pass_L33 N x2 va0_sayings n (x3 + 1) (upd va1_juice κ11 (imax 0 ((va1_juice κ10) - 2)))
    else
    ixb x3 5 fun κ6 =>
    if (va1_juice κ6) ≤ 0 then
    fX0_pass_L33 N x2 va0_sayings n (x3 + 1) va1_juice
    else
    ixb x3 5 fun κ8 =>
    ixb x3 5 fun κ9 =>
    fX0_pass_L33 N x2 va0_sayings n (x3 + 1) (upd va1_juice κ9 (imin 20 ((va1_juice κ8) + 1)))
set_option maxHeartbeats 4000000 in
set_option maxRecDepth 100000 in
theorem wX0_pass_L33 {E : Ev} {K : KX} (k : OKX E K cX0_pass RX0 4 rmX0_pass) (N : Nat) (a0 : Nat) (a0_kind : Nat) (a0_weight : Nat) (a0_now : Nat) (a1 : Nat) (a1_ice : Nat) (a1_juice : Nat) (a1_fors : Nat) (x2 : Int32) (va0_sayings : Int32) (va0_cells : Int32) (va0_people : Int32) (va0_frost : Int32) (va0_kind : Nat → Int32) (va0_weight : Nat → Int32) (va1_boat : Int32) (va1_minute : Int32) (va1_draw : Int32) (va1_ice : Nat → Int32) (va1_fors : Nat → Int32) : ∀ (n : Nat) (x3 : Int32) (va1_juice : Nat → Int32) (o : Int32 × (Nat → Int32)), fX0_pass_L33 N x2 va0_sayings n x3 va1_juice = some o → G E K 4 0 0 [(0, .ref a0), (1, .ref a1), (2, .int x2), (3, .int o.1)] [] [(a0, oB 0 [.ref a0_kind, .ref a0_weight, .ref a0_now, .int va0_cells, .int va0_people, .int va0_sayings, .int va0_frost]), (a0_kind, aI E 6 va0_kind), (a0_weight, aI E 6 va0_weight), (a1, oB 3 [.ref a1_ice, .ref a1_juice, .ref a1_fors, .int va1_boat, .int va1_minute, .int va1_draw]), (a1_ice, aI E 12 va1_ice), (a1_juice, aI E 5 o.2), (a1_fors, aI E 5 va1_fors)] 101 → G E K 4 0 0 [(0, .ref a0), (1, .ref a1), (2, .int x2), (3, .int x3)] [] [(a0, oB 0 [.ref a0_kind, .ref a0_weight, .ref a0_now, .int va0_cells, .int va0_people, .int va0_sayings, .int va0_frost]), (a0_kind, aI E 6 va0_kind), (a0_weight, aI E 6 va0_weight), (a1, oB 3 [.ref a1_ice, .ref a1_juice, .ref a1_fors, .int va1_boat, .int va1_minute, .int va1_draw]), (a1_ice, aI E 12 va1_ice), (a1_juice, aI E 5 va1_juice), (a1_fors, aI E 5 va1_fors)] 33 := by
  intro n
  induction n with
  | zero => intro x3 va1_juice o hf; cases hf
  | succ n ih =>
    intro x3 va1_juice o hf hG
    rw [fX0_pass_L33] at hf
    refine g_iload_n k 3 dX0_pass_33 rfl rfl ?_
    refine g_aload_n k 0 dX0_pass_34 rfl rfl ?_
    refine g_get k cfX0 5 0 dX0_pass_35 lkX0_32 (by decide) rfl rfl ?_
    refine g_icmp_ge k (tgt := 101) dX0_pass_38 (by decide) (fun c4 => ?_) (fun c4 => ?_)
    · replace hf := ite_t c4 hf
      refine g_lv [0, 1, 2, 3] rfl ?_
      obtain rfl := Option.some.inj hf
      exact hG
    · replace hf := ite_f c4 hf
      refine g_iload_n k 3 dX0_pass_41 rfl rfl ?_
      refine g_iload_n k 2 dX0_pass_42 rfl rfl ?_
      refine g_icmp_ne k (tgt := 67) dX0_pass_43 (by decide) (fun c5 => ?_) (fun c5 => ?_)
      · replace hf := ite_f c5 hf
        refine g_aload_n k 1 dX0_pass_67 rfl rfl ?_
        refine g_get k cfX3 1 3 dX0_pass_68 lkX0_51 (by decide) rfl rfl ?_
        refine g_iload_n k 3 dX0_pass_71 rfl rfl ?_
        obtain ⟨κ6, hκ6, hiκ6, heκ6, hf⟩ := ixb_some hf
        refine g_iaload k 5 dX0_pass_72 rfl hiκ6 heκ6 ?_
        refine g_if_le k (tgt := 95) dX0_pass_73 (by decide) (fun c7 => ?_) (fun c7 => ?_)
        · replace hf := ite_t c7 hf
          refine g_iinc k (lv' := [(3, .int (x3 + 1)), (0, .ref a0), (1, .ref a1), (2, .int x2)]) 3 dX0_pass_95 rfl (ii_1 _) (by decide) rfl ?_
          refine g_goto k (tgt := 33) dX0_pass_98 (by decide) ?_
          refine g_lv [1, 2, 3, 0] rfl ?_
          exact ih (x3 + 1) va1_juice o hf hG
        · replace hf := ite_f c7 hf
          refine g_aload_n k 1 dX0_pass_76 rfl rfl ?_
          refine g_get k cfX3 1 3 dX0_pass_77 lkX0_51 (by decide) rfl rfl ?_
          refine g_iload_n k 3 dX0_pass_80 rfl rfl ?_
          refine g_bipush k dX0_pass_81 bi_20 ?_
          refine g_aload_n k 1 dX0_pass_83 rfl rfl ?_
          refine g_get k cfX3 1 3 dX0_pass_84 lkX0_51 (by decide) rfl rfl ?_
          refine g_iload_n k 3 dX0_pass_87 rfl rfl ?_
          obtain ⟨κ8, hκ8, hiκ8, heκ8, hf⟩ := ixb_some hf
          refine g_iaload k 5 dX0_pass_88 rfl hiκ8 heκ8 ?_
          refine g_iconst k dX0_pass_89 ic_1 ?_
          refine g_iadd k dX0_pass_90 ?_
          refine g_mmin k dX0_pass_91 lkX0_82 (by decide) (Nat.le_of_ble_eq_true rfl) (by decide) ?_
          obtain ⟨κ9, hκ9, hiκ9, heκ9, hf⟩ := ixb_some hf
          refine g_iastore k 5 (ws' := [(a0, oB 0 [.ref a0_kind, .ref a0_weight, .ref a0_now, .int va0_cells, .int va0_people, .int va0_sayings, .int va0_frost]), (a0_kind, aI E 6 va0_kind), (a0_weight, aI E 6 va0_weight), (a1, oB 3 [.ref a1_ice, .ref a1_juice, .ref a1_fors, .int va1_boat, .int va1_minute, .int va1_draw]), (a1_ice, aI E 12 va1_ice), (a1_juice, aI E 5 (upd va1_juice κ9 (imin 20 ((va1_juice κ8) + 1)))), (a1_fors, aI E 5 va1_fors)]) dX0_pass_94 rfl hiκ9 heκ9 rfl ?_
          refine g_iinc k (lv' := [(3, .int (x3 + 1)), (0, .ref a0), (1, .ref a1), (2, .int x2)]) 3 dX0_pass_95 rfl (ii_1 _) (by decide) rfl ?_
          refine g_goto k (tgt := 33) dX0_pass_98 (by decide) ?_
          refine g_lv [1, 2, 3, 0] rfl ?_
          exact ih (x3 + 1) (upd va1_juice κ9 (imin 20 ((va1_juice κ8) + 1))) o hf hG
      · replace hf := ite_t c5 hf
        refine g_aload_n k 1 dX0_pass_46 rfl rfl ?_
        refine g_get k cfX3 1 3 dX0_pass_47 lkX0_51 (by decide) rfl rfl ?_
        refine g_iload_n k 3 dX0_pass_50 rfl rfl ?_
        refine g_iconst k dX0_pass_51 ic_0 ?_
        refine g_aload_n k 1 dX0_pass_52 rfl rfl ?_
        refine g_get k cfX3 1 3 dX0_pass_53 lkX0_51 (by decide) rfl rfl ?_
        refine g_iload_n k 3 dX0_pass_56 rfl rfl ?_
        obtain ⟨κ10, hκ10, hiκ10, heκ10, hf⟩ := ixb_some hf
        refine g_iaload k 5 dX0_pass_57 rfl hiκ10 heκ10 ?_
        refine g_iconst k dX0_pass_58 ic_2 ?_
        refine g_isub k dX0_pass_59 ?_
        refine g_mmax k dX0_pass_60 lkX0_99 (by decide) (Nat.le_of_ble_eq_true rfl) (by decide) ?_
        obtain ⟨κ11, hκ11, hiκ11, heκ11, hf⟩ := ixb_some hf
        refine g_iastore k 5 (ws' := [(a0, oB 0 [.ref a0_kind, .ref a0_weight, .ref a0_now, .int va0_cells, .int va0_people, .int va0_sayings, .int va0_frost]), (a0_kind, aI E 6 va0_kind), (a0_weight, aI E 6 va0_weight), (a1, oB 3 [.ref a1_ice, .ref a1_juice, .ref a1_fors, .int va1_boat, .int va1_minute, .int va1_draw]), (a1_ice, aI E 12 va1_ice), (a1_juice, aI E 5 (upd va1_juice κ11 (imax 0 ((va1_juice κ10) - 2)))), (a1_fors, aI E 5 va1_fors)]) dX0_pass_63 rfl hiκ11 heκ11 rfl ?_
        refine g_goto k (tgt := 95) dX0_pass_64 (by decide) ?_
        refine g_iinc k (lv' := [(3, .int (x3 + 1)), (0, .ref a0), (1, .ref a1), (2, .int x2)]) 3 dX0_pass_95 rfl (ii_1 _) (by decide) rfl ?_
        refine g_goto k (tgt := 33) dX0_pass_98 (by decide) ?_
        refine g_lv [1, 2, 3, 0] rfl ?_
        exact ih (x3 + 1) (upd va1_juice κ11 (imax 0 ((va1_juice κ10) - 2))) o hf hG
def fX0_pass (N : Nat) (va0_cells : Int32) (va0_people : Int32) (va0_sayings : Int32) (va0_frost : Int32) (va0_kind : Nat → Int32) (va0_weight : Nat → Int32) (va1_boat : Int32) (va1_minute : Int32) (va1_ice : Nat → Int32) (va1_juice : Nat → Int32) (va1_fors : Nat → Int32) (x2 : Int32) : Option (Int32 × Int32 × (Nat → Int32) × (Nat → Int32)) :=
  bnd (fX0_isThrough N va0_cells va1_boat) fun o1 =>
  if o1 = 0 then
  bnd (fX0_hasSaying N va0_sayings x2) fun o14 =>
  if o14 = 0 then
  bnd (fX0_breakIce N va0_frost va1_boat va1_ice 0) fun o17 =>
  bnd (fX0_pass_L33 N x2 va0_sayings N 0 va1_juice) fun o19 =>
  some (o17.1, (va1_minute + 1), o17.2, o19.2)
  else
  bnd (fX0_sayingRocks N va0_people va0_kind va0_weight va1_minute va1_juice va1_fors x2) fun o21 =>
  bnd (fX0_breakIce N va0_frost va1_boat va1_ice o21) fun o23 =>
  bnd (fX0_pass_L33 N x2 va0_sayings N 0 va1_juice) fun o25 =>
  some (o23.1, (va1_minute + 1), o23.2, o25.2)
  else
  bnd (fX0_pass_L33 N x2 va0_sayings N 0 va1_juice) fun o12 =>
  some (va1_boat, (va1_minute + 1), va1_ice, o12.2)
set_option maxHeartbeats 4000000 in
set_option maxRecDepth 100000 in
theorem ctX0_pass (l : Launch) (E : Ev) (N : Nat) (a0 : Nat) (a0_kind : Nat) (a0_weight : Nat) (a0_now : Nat) (a1 : Nat) (a1_ice : Nat) (a1_juice : Nat) (a1_fors : Nat) (va0_cells : Int32) (va0_people : Int32) (va0_sayings : Int32) (va0_frost : Int32) (va0_kind : Nat → Int32) (va0_weight : Nat → Int32) (va1_boat : Int32) (va1_minute : Int32) (va1_draw : Int32) (va1_ice : Nat → Int32) (va1_juice : Nat → Int32) (va1_fors : Nat → Int32) (x2 : Int32) (out : Int32 × Int32 × (Nat → Int32) × (Nat → Int32)) (hf : fX0_pass N va0_cells va0_people va0_sayings va0_frost va0_kind va0_weight va1_boat va1_minute va1_ice va1_juice va1_fors x2 = some out) : Ct l E yX0_pass cX0_pass 4 none rmX0_pass [.ref a0, .ref a1, .int x2] [(a0, oB 0 [.ref a0_kind, .ref a0_weight, .ref a0_now, .int va0_cells, .int va0_people, .int va0_sayings, .int va0_frost]), (a0_kind, aI E 6 va0_kind), (a0_weight, aI E 6 va0_weight), (a1, oB 3 [.ref a1_ice, .ref a1_juice, .ref a1_fors, .int va1_boat, .int va1_minute, .int va1_draw]), (a1_ice, aI E 12 va1_ice), (a1_juice, aI E 5 va1_juice), (a1_fors, aI E 5 va1_fors)] (Pe none [(a0, oB 0 [.ref a0_kind, .ref a0_weight, .ref a0_now, .int va0_cells, .int va0_people, .int va0_sayings, .int va0_frost]), (a0_kind, aI E 6 va0_kind), (a0_weight, aI E 6 va0_weight), (a1, oB 3 [.ref a1_ice, .ref a1_juice, .ref a1_fors, .int out.1, .int out.2.1, .int va1_draw]), (a1_ice, aI E 12 out.2.2.1), (a1_juice, aI E 5 out.2.2.2), (a1_fors, aI E 5 va1_fors)]) := by
  refine Ct.of rfl (Nat.le_of_ble_eq_true rfl) (fun K hL k r hin => ?_)
  subst hL
  unfold fX0_pass at hf
  show G E K 4 0 0 [(0, .ref a0), (1, .ref a1), (2, .int x2)] [] [(a0, oB 0 [.ref a0_kind, .ref a0_weight, .ref a0_now, .int va0_cells, .int va0_people, .int va0_sayings, .int va0_frost]), (a0_kind, aI E 6 va0_kind), (a0_weight, aI E 6 va0_weight), (a1, oB 3 [.ref a1_ice, .ref a1_juice, .ref a1_fors, .int va1_boat, .int va1_minute, .int va1_draw]), (a1_ice, aI E 12 va1_ice), (a1_juice, aI E 5 va1_juice), (a1_fors, aI E 5 va1_fors)] 0
  refine g_aload_n k 0 dX0_pass_0 rfl rfl ?_
  refine g_aload_n k 1 dX0_pass_1 rfl rfl ?_
  obtain ⟨o1, ho2, hf⟩ := bnd_some hf
  refine g_cv k miX0_isThrough mvX0_isThrough (ctX0_isThrough (kL K) E N a0 a0_kind a0_weight a0_now a1 a1_ice a1_juice a1_fors va0_cells va0_people va0_sayings va0_frost va1_boat va1_minute va1_draw  o1 ho2) [0, 3] 0 (ws' := [(a0, oB 0 [.ref a0_kind, .ref a0_weight, .ref a0_now, .int va0_cells, .int va0_people, .int va0_sayings, .int va0_frost]), (a0_kind, aI E 6 va0_kind), (a0_weight, aI E 6 va0_weight), (a1, oB 3 [.ref a1_ice, .ref a1_juice, .ref a1_fors, .int va1_boat, .int va1_minute, .int va1_draw]), (a1_ice, aI E 12 va1_ice), (a1_juice, aI E 5 va1_juice), (a1_fors, aI E 5 va1_fors)]) dX0_pass_2 lkX0_64 rfl ⟨rfl, rfl⟩ ⟨by decide, by decide⟩ rfl rfl rfl rfl (Nat.le_of_ble_eq_true rfl) rfl rfl rfl ?_
  refine g_st (st' := [.int o1]) rfl ?_
  refine g_if_ne k (tgt := 31) dX0_pass_5 (by decide) (fun c3 => ?_) (fun c3 => ?_)
  · replace hf := ite_f c3 hf
    refine g_iconst k dX0_pass_31 ic_0 ?_
    refine g_istore_n k (lv' := [(3, .int 0), (0, .ref a0), (1, .ref a1), (2, .int x2)]) dX0_pass_32 rfl (by decide) rfl ?_
    obtain ⟨o12, ho13, hf⟩ := bnd_some hf
    refine g_lv [1, 2, 3, 0] (lv' := [(0, .ref a0), (1, .ref a1), (2, .int x2), (3, .int 0)]) rfl ?_
    refine wX0_pass_L33 k N a0 a0_kind a0_weight a0_now a1 a1_ice a1_juice a1_fors  x2 va0_sayings va0_cells va0_people va0_frost va0_kind va0_weight va1_boat va1_minute va1_draw va1_ice va1_fors N 0 va1_juice o12 ho13 ?_
    refine g_aload_n k 1 dX0_pass_101 rfl rfl ?_
    refine g_dup k dX0_pass_102 rfl ?_
    refine g_get k cfX3 4 3 dX0_pass_103 lkX0_114 (by decide) rfl rfl ?_
    refine g_iconst k dX0_pass_106 ic_1 ?_
    refine g_iadd k dX0_pass_107 ?_
    refine g_put k cfX3 4 3 (ws' := [(a0, oB 0 [.ref a0_kind, .ref a0_weight, .ref a0_now, .int va0_cells, .int va0_people, .int va0_sayings, .int va0_frost]), (a0_kind, aI E 6 va0_kind), (a0_weight, aI E 6 va0_weight), (a1, oB 3 [.ref a1_ice, .ref a1_juice, .ref a1_fors, .int va1_boat, .int (va1_minute + 1), .int va1_draw]), (a1_ice, aI E 12 va1_ice), (a1_juice, aI E 5 o12.2), (a1_fors, aI E 5 va1_fors)]) dX0_pass_108 lkX0_114 (by decide) rfl rfl rfl rfl (Nat.le_of_ble_eq_true rfl) rfl ?_
    obtain rfl := Option.some.inj hf
    exact g_vret k r dX0_pass_111 ⟨rfl, rfl⟩
  · replace hf := ite_t c3 hf
    refine g_aload_n k 0 dX0_pass_8 rfl rfl ?_
    refine g_aload_n k 1 dX0_pass_9 rfl rfl ?_
    refine g_aload_n k 0 dX0_pass_10 rfl rfl ?_
    refine g_iload_n k 2 dX0_pass_11 rfl rfl ?_
    obtain ⟨o14, ho15, hf⟩ := bnd_some hf
    refine g_cv k miX0_hasSaying mvX0_hasSaying (ctX0_hasSaying (kL K) E N a0 a0_kind a0_weight a0_now va0_cells va0_people va0_sayings va0_frost x2 o14 ho15) [0] 0 (ws' := [(a0, oB 0 [.ref a0_kind, .ref a0_weight, .ref a0_now, .int va0_cells, .int va0_people, .int va0_sayings, .int va0_frost]), (a0_kind, aI E 6 va0_kind), (a0_weight, aI E 6 va0_weight), (a1, oB 3 [.ref a1_ice, .ref a1_juice, .ref a1_fors, .int va1_boat, .int va1_minute, .int va1_draw]), (a1_ice, aI E 12 va1_ice), (a1_juice, aI E 5 va1_juice), (a1_fors, aI E 5 va1_fors)]) dX0_pass_12 lkX0_106 rfl ⟨rfl, rfl⟩ ⟨by decide, by decide⟩ rfl rfl rfl rfl (Nat.le_of_ble_eq_true rfl) rfl rfl rfl ?_
    refine g_st (st' := [.int o14, .ref a1, .ref a0]) rfl ?_
    refine g_if_eq k (tgt := 27) dX0_pass_15 (by decide) (fun c16 => ?_) (fun c16 => ?_)
    · replace hf := ite_t c16 hf
      refine g_iconst k dX0_pass_27 ic_0 ?_
      obtain ⟨o17, ho18, hf⟩ := bnd_some hf
      refine g_cv k miX0_breakIce mvX0_breakIce (ctX0_breakIce (kL K) E N a0 a0_kind a0_weight a0_now a1 a1_ice a1_juice a1_fors va0_cells va0_people va0_sayings va0_frost va1_boat va1_minute va1_draw va1_ice 0 o17 ho18) [0, 3, 4] 0 (ws' := [(a0, oB 0 [.ref a0_kind, .ref a0_weight, .ref a0_now, .int va0_cells, .int va0_people, .int va0_sayings, .int va0_frost]), (a0_kind, aI E 6 va0_kind), (a0_weight, aI E 6 va0_weight), (a1, oB 3 [.ref a1_ice, .ref a1_juice, .ref a1_fors, .int o17.1, .int va1_minute, .int va1_draw]), (a1_ice, aI E 12 o17.2), (a1_juice, aI E 5 va1_juice), (a1_fors, aI E 5 va1_fors)]) dX0_pass_28 lkX0_110 rfl ⟨rfl, rfl⟩ ⟨by decide, by decide⟩ rfl rfl rfl rfl (Nat.le_of_ble_eq_true rfl) rfl rfl rfl ?_
      refine g_st (st' := []) rfl ?_
      refine g_iconst k dX0_pass_31 ic_0 ?_
      refine g_istore_n k (lv' := [(3, .int 0), (0, .ref a0), (1, .ref a1), (2, .int x2)]) dX0_pass_32 rfl (by decide) rfl ?_
      obtain ⟨o19, ho20, hf⟩ := bnd_some hf
      refine g_lv [1, 2, 3, 0] (lv' := [(0, .ref a0), (1, .ref a1), (2, .int x2), (3, .int 0)]) rfl ?_
      refine wX0_pass_L33 k N a0 a0_kind a0_weight a0_now a1 a1_ice a1_juice a1_fors  x2 va0_sayings va0_cells va0_people va0_frost va0_kind va0_weight o17.1 va1_minute va1_draw o17.2 va1_fors N 0 va1_juice o19 ho20 ?_
      refine g_aload_n k 1 dX0_pass_101 rfl rfl ?_
      refine g_dup k dX0_pass_102 rfl ?_
      refine g_get k cfX3 4 3 dX0_pass_103 lkX0_114 (by decide) rfl rfl ?_
      refine g_iconst k dX0_pass_106 ic_1 ?_
      refine g_iadd k dX0_pass_107 ?_
      refine g_put k cfX3 4 3 (ws' := [(a0, oB 0 [.ref a0_kind, .ref a0_weight, .ref a0_now, .int va0_cells, .int va0_people, .int va0_sayings, .int va0_frost]), (a0_kind, aI E 6 va0_kind), (a0_weight, aI E 6 va0_weight), (a1, oB 3 [.ref a1_ice, .ref a1_juice, .ref a1_fors, .int o17.1, .int (va1_minute + 1), .int va1_draw]), (a1_ice, aI E 12 o17.2), (a1_juice, aI E 5 o19.2), (a1_fors, aI E 5 va1_fors)]) dX0_pass_108 lkX0_114 (by decide) rfl rfl rfl rfl (Nat.le_of_ble_eq_true rfl) rfl ?_
      obtain rfl := Option.some.inj hf
      exact g_vret k r dX0_pass_111 ⟨rfl, rfl⟩
    · replace hf := ite_f c16 hf
      refine g_aload_n k 0 dX0_pass_18 rfl rfl ?_
      refine g_aload_n k 1 dX0_pass_19 rfl rfl ?_
      refine g_iload_n k 2 dX0_pass_20 rfl rfl ?_
      obtain ⟨o21, ho22, hf⟩ := bnd_some hf
      refine g_cv k miX0_sayingRocks mvX0_sayingRocks (ctX0_sayingRocks (kL K) E N a0 a0_kind a0_weight a0_now a1 a1_ice a1_juice a1_fors va0_cells va0_people va0_sayings va0_frost va0_kind va0_weight va1_boat va1_minute va1_draw va1_juice va1_fors x2 o21 ho22) [0, 1, 2, 3, 5, 6] 0 (ws' := [(a0, oB 0 [.ref a0_kind, .ref a0_weight, .ref a0_now, .int va0_cells, .int va0_people, .int va0_sayings, .int va0_frost]), (a0_kind, aI E 6 va0_kind), (a0_weight, aI E 6 va0_weight), (a1, oB 3 [.ref a1_ice, .ref a1_juice, .ref a1_fors, .int va1_boat, .int va1_minute, .int va1_draw]), (a1_ice, aI E 12 va1_ice), (a1_juice, aI E 5 va1_juice), (a1_fors, aI E 5 va1_fors)]) dX0_pass_21 lkX0_102 rfl ⟨rfl, rfl⟩ ⟨by decide, by decide⟩ rfl rfl rfl rfl (Nat.le_of_ble_eq_true rfl) rfl rfl rfl ?_
      refine g_st (st' := [.int o21, .ref a1, .ref a0]) rfl ?_
      refine g_goto k (tgt := 28) dX0_pass_24 (by decide) ?_
      obtain ⟨o23, ho24, hf⟩ := bnd_some hf
      refine g_cv k miX0_breakIce mvX0_breakIce (ctX0_breakIce (kL K) E N a0 a0_kind a0_weight a0_now a1 a1_ice a1_juice a1_fors va0_cells va0_people va0_sayings va0_frost va1_boat va1_minute va1_draw va1_ice o21 o23 ho24) [0, 3, 4] 0 (ws' := [(a0, oB 0 [.ref a0_kind, .ref a0_weight, .ref a0_now, .int va0_cells, .int va0_people, .int va0_sayings, .int va0_frost]), (a0_kind, aI E 6 va0_kind), (a0_weight, aI E 6 va0_weight), (a1, oB 3 [.ref a1_ice, .ref a1_juice, .ref a1_fors, .int o23.1, .int va1_minute, .int va1_draw]), (a1_ice, aI E 12 o23.2), (a1_juice, aI E 5 va1_juice), (a1_fors, aI E 5 va1_fors)]) dX0_pass_28 lkX0_110 rfl ⟨rfl, rfl⟩ ⟨by decide, by decide⟩ rfl rfl rfl rfl (Nat.le_of_ble_eq_true rfl) rfl rfl rfl ?_
      refine g_st (st' := []) rfl ?_
      refine g_iconst k dX0_pass_31 ic_0 ?_
      refine g_istore_n k (lv' := [(3, .int 0), (0, .ref a0), (1, .ref a1), (2, .int x2)]) dX0_pass_32 rfl (by decide) rfl ?_
      obtain ⟨o25, ho26, hf⟩ := bnd_some hf
      refine g_lv [1, 2, 3, 0] (lv' := [(0, .ref a0), (1, .ref a1), (2, .int x2), (3, .int 0)]) rfl ?_
      refine wX0_pass_L33 k N a0 a0_kind a0_weight a0_now a1 a1_ice a1_juice a1_fors  x2 va0_sayings va0_cells va0_people va0_frost va0_kind va0_weight o23.1 va1_minute va1_draw o23.2 va1_fors N 0 va1_juice o25 ho26 ?_
      refine g_aload_n k 1 dX0_pass_101 rfl rfl ?_
      refine g_dup k dX0_pass_102 rfl ?_
      refine g_get k cfX3 4 3 dX0_pass_103 lkX0_114 (by decide) rfl rfl ?_
      refine g_iconst k dX0_pass_106 ic_1 ?_
      refine g_iadd k dX0_pass_107 ?_
      refine g_put k cfX3 4 3 (ws' := [(a0, oB 0 [.ref a0_kind, .ref a0_weight, .ref a0_now, .int va0_cells, .int va0_people, .int va0_sayings, .int va0_frost]), (a0_kind, aI E 6 va0_kind), (a0_weight, aI E 6 va0_weight), (a1, oB 3 [.ref a1_ice, .ref a1_juice, .ref a1_fors, .int o23.1, .int (va1_minute + 1), .int va1_draw]), (a1_ice, aI E 12 o23.2), (a1_juice, aI E 5 o25.2), (a1_fors, aI E 5 va1_fors)]) dX0_pass_108 lkX0_114 (by decide) rfl rfl rfl rfl (Nat.le_of_ble_eq_true rfl) rfl ?_
      obtain rfl := Option.some.inj hf
      exact g_vret k r dX0_pass_111 ⟨rfl, rfl⟩
abbrev rmX0_drawSaying : Room := { frames := 0, cells := 0, slots := 0, locals := 0 }
def fX0_drawSaying (N : Nat) (va0_sayings : Int32) (va0_now_draw : Int32)  : Option (Int32 × Int32) :=
  dvb (va0_sayings + 1) (if va0_sayings ≤ (irem ((((va0_now_draw * 1103515245) + 12345) &&& 2147483647) / 65536) (va0_sayings + 1)) then
  some ((-4), (((va0_now_draw * 1103515245) + 12345) &&& 2147483647))
  else
  some ((irem ((((va0_now_draw * 1103515245) + 12345) &&& 2147483647) / 65536) (va0_sayings + 1)), (((va0_now_draw * 1103515245) + 12345) &&& 2147483647)))
set_option maxHeartbeats 4000000 in
set_option maxRecDepth 100000 in
theorem ctX0_drawSaying (l : Launch) (E : Ev) (N : Nat) (a0 : Nat) (a0_kind : Nat) (a0_weight : Nat) (a0_now : Nat) (a0_now_ice : Nat) (a0_now_juice : Nat) (a0_now_fors : Nat) (va0_cells : Int32) (va0_people : Int32) (va0_sayings : Int32) (va0_frost : Int32) (va0_now_boat : Int32) (va0_now_minute : Int32) (va0_now_draw : Int32)  (out : Int32 × Int32) (hf : fX0_drawSaying N va0_sayings va0_now_draw  = some out) : Ct l E yX0_drawSaying cX0_drawSaying 2 (some .int) rmX0_drawSaying [.ref a0] [(a0, oB 0 [.ref a0_kind, .ref a0_weight, .ref a0_now, .int va0_cells, .int va0_people, .int va0_sayings, .int va0_frost]), (a0_now, oB 3 [.ref a0_now_ice, .ref a0_now_juice, .ref a0_now_fors, .int va0_now_boat, .int va0_now_minute, .int va0_now_draw])] (Pe (some (.int out.1)) [(a0, oB 0 [.ref a0_kind, .ref a0_weight, .ref a0_now, .int va0_cells, .int va0_people, .int va0_sayings, .int va0_frost]), (a0_now, oB 3 [.ref a0_now_ice, .ref a0_now_juice, .ref a0_now_fors, .int va0_now_boat, .int va0_now_minute, .int out.2])]) := by
  refine Ct.of rfl (Nat.le_of_ble_eq_true rfl) (fun K hL k r hin => ?_)
  subst hL
  unfold fX0_drawSaying at hf
  show G E K 2 0 0 [(0, .ref a0)] [] [(a0, oB 0 [.ref a0_kind, .ref a0_weight, .ref a0_now, .int va0_cells, .int va0_people, .int va0_sayings, .int va0_frost]), (a0_now, oB 3 [.ref a0_now_ice, .ref a0_now_juice, .ref a0_now_fors, .int va0_now_boat, .int va0_now_minute, .int va0_now_draw])] 0
  refine g_aload_n k 0 dX0_drawSaying_0 rfl rfl ?_
  refine g_get k cfX0 2 0 dX0_drawSaying_1 lkX0_21 (by decide) rfl rfl ?_
  refine g_aload_n k 0 dX0_drawSaying_4 rfl rfl ?_
  refine g_get k cfX0 2 0 dX0_drawSaying_5 lkX0_21 (by decide) rfl rfl ?_
  refine g_get k cfX3 5 1 dX0_drawSaying_8 lkX0_117 (by decide) rfl rfl ?_
  refine g_ldc k dX0_drawSaying_11 lkX0_120 ?_
  refine g_imul k dX0_drawSaying_13 ?_
  refine g_sipush k dX0_drawSaying_14 si_12345 ?_
  refine g_iadd k dX0_drawSaying_17 ?_
  refine g_ldc k dX0_drawSaying_18 lkX0_121 ?_
  refine g_iand k dX0_drawSaying_20 ?_
  refine g_put k cfX3 5 1 (ws' := [(a0, oB 0 [.ref a0_kind, .ref a0_weight, .ref a0_now, .int va0_cells, .int va0_people, .int va0_sayings, .int va0_frost]), (a0_now, oB 3 [.ref a0_now_ice, .ref a0_now_juice, .ref a0_now_fors, .int va0_now_boat, .int va0_now_minute, .int (((va0_now_draw * 1103515245) + 12345) &&& 2147483647)])]) dX0_drawSaying_21 lkX0_117 (by decide) rfl rfl rfl rfl (Nat.le_of_ble_eq_true rfl) rfl ?_
  refine g_aload_n k 0 dX0_drawSaying_24 rfl rfl ?_
  refine g_get k cfX0 2 0 dX0_drawSaying_25 lkX0_21 (by decide) rfl rfl ?_
  refine g_get k cfX3 5 1 dX0_drawSaying_28 lkX0_117 (by decide) rfl rfl ?_
  refine g_ldc k dX0_drawSaying_31 lkX0_122 ?_
  refine g_idiv k dX0_drawSaying_33 (by decide) ?_
  refine g_aload_n k 0 dX0_drawSaying_34 rfl rfl ?_
  refine g_get k cfX0 5 0 dX0_drawSaying_35 lkX0_32 (by decide) rfl rfl ?_
  refine g_iconst k dX0_drawSaying_38 ic_1 ?_
  refine g_iadd k dX0_drawSaying_39 ?_
  obtain ⟨hz1, hf⟩ := dvb_some hf
  refine g_irem k dX0_drawSaying_40 hz1 ?_
  refine g_istore_n k (lv' := [(1, .int (irem ((((va0_now_draw * 1103515245) + 12345) &&& 2147483647) / 65536) (va0_sayings + 1))), (0, .ref a0)]) dX0_drawSaying_41 rfl (by decide) rfl ?_
  refine g_iload_n k 0 dX0_drawSaying_42 rfl rfl ?_
  refine g_aload_n k 1 dX0_drawSaying_43 rfl rfl ?_
  refine g_get k cfX0 5 0 dX0_drawSaying_44 lkX0_32 (by decide) rfl rfl ?_
  refine g_icmp_ge k (tgt := 54) dX0_drawSaying_47 (by decide) (fun c2 => ?_) (fun c2 => ?_)
  · replace hf := ite_t c2 hf
    refine g_bipush k dX0_drawSaying_54 bi_m4 ?_
    obtain rfl := Option.some.inj hf
    exact g_iret k r dX0_drawSaying_56 ⟨rfl, rfl⟩
  · replace hf := ite_f c2 hf
    refine g_iload_n k 0 dX0_drawSaying_50 rfl rfl ?_
    refine g_goto k (tgt := 56) dX0_drawSaying_51 (by decide) ?_
    obtain rfl := Option.some.inj hf
    exact g_iret k r dX0_drawSaying_56 ⟨rfl, rfl⟩
abbrev rmJ0_isLatin1_aae02 : Room := { frames := 0, cells := 0, slots := 0, locals := 0 }
def fJ0_isLatin1_aae02 (N : Nat)   : Option (Int32) :=
  some (1)
set_option maxHeartbeats 4000000 in
set_option maxRecDepth 100000 in
theorem ctJ0_isLatin1_aae02 (l : Launch) (E : Ev) (N : Nat)    (out : Int32) (hf : fJ0_isLatin1_aae02 N   = some out) : Ct l E yJ0_isLatin1_aae02 cJ0_isLatin1_aae02 1 (some .boolean) rmJ0_isLatin1_aae02 [.ref E.2.2.1] [] (Pe (some (.int out)) []) := by
  refine Ct.of rfl (Nat.le_of_ble_eq_true rfl) (fun K hL k r hin => ?_)
  subst hL
  unfold fJ0_isLatin1_aae02 at hf
  show G E K 1 0 0 [(0, .ref E.2.2.1)] [] [] 0
  refine g_strZ k dJ0_isLatin1_aae02_0 lkJ0_38 ?_
  refine g_if_eq k (tgt := 17) dJ0_isLatin1_aae02_3 (by decide) (fun c1 => absurd c1 (by decide)) (fun _ => ?_)
  refine g_aload_n k 0 dJ0_isLatin1_aae02_6 rfl rfl ?_
  refine g_strC k dJ0_isLatin1_aae02_7 lkJ0_15 ?_
  refine g_if_ne k (tgt := 17) dJ0_isLatin1_aae02_10 (by decide) (fun c2 => absurd c2 (by decide)) (fun _ => ?_)
  refine g_iconst k dJ0_isLatin1_aae02_13 ic_1 ?_
  refine g_goto k (tgt := 18) dJ0_isLatin1_aae02_14 (by decide) ?_
  obtain rfl := Option.some.inj hf
  exact g_zret k (rfl) r dJ0_isLatin1_aae02_18 ⟨rfl, rfl⟩
abbrev rmJ0_coder_7d493 : Room := { frames := 0, cells := 0, slots := 0, locals := 0 }
def fJ0_coder_7d493 (N : Nat)   : Option (Int32) :=
  some (0)
set_option maxHeartbeats 4000000 in
set_option maxRecDepth 100000 in
theorem ctJ0_coder_7d493 (l : Launch) (E : Ev) (N : Nat)    (out : Int32) (hf : fJ0_coder_7d493 N   = some out) : Ct l E yJ0_coder_7d493 cJ0_coder_7d493 1 (some .byte) rmJ0_coder_7d493 [.ref E.2.2.1] [] (Pe (some (.int out)) []) := by
  refine Ct.of rfl (Nat.le_of_ble_eq_true rfl) (fun K hL k r hin => ?_)
  subst hL
  unfold fJ0_coder_7d493 at hf
  show G E K 1 0 0 [(0, .ref E.2.2.1)] [] [] 0
  refine g_strZ k dJ0_coder_7d493_0 lkJ0_38 ?_
  refine g_if_eq k (tgt := 13) dJ0_coder_7d493_3 (by decide) (fun c1 => absurd c1 (by decide)) (fun _ => ?_)
  refine g_aload_n k 0 dJ0_coder_7d493_6 rfl rfl ?_
  refine g_strC k dJ0_coder_7d493_7 lkJ0_15 ?_
  refine g_goto k (tgt := 14) dJ0_coder_7d493_10 (by decide) ?_
  obtain rfl := Option.some.inj hf
  exact g_zretB k (rfl) r dJ0_coder_7d493_14 ⟨rfl, rfl⟩
abbrev rmJ0_length_8abf5 : Room := { frames := 1, cells := 0, slots := 0, locals := 20 }
def fJ0_length_8abf5 (N : Nat)   : Option (Int32) :=
  bnd (fJ0_coder_7d493 N ) fun o1 =>
  some ((5 >>> (o1 &&& 31)))
set_option maxHeartbeats 4000000 in
set_option maxRecDepth 100000 in
theorem ctJ0_length_8abf5 (l : Launch) (E : Ev) (N : Nat)    (out : Int32) (hf : fJ0_length_8abf5 N   = some out) : Ct l E yJ0_length_8abf5 cJ0_length_8abf5 1 (some .int) rmJ0_length_8abf5 [.ref E.2.2.1] [] (Pe (some (.int out)) []) := by
  refine Ct.of rfl (Nat.le_of_ble_eq_true rfl) (fun K hL k r hin => ?_)
  subst hL
  unfold fJ0_length_8abf5 at hf
  show G E K 1 0 0 [(0, .ref E.2.2.1)] [] [] 0
  refine g_aload_n k 0 dJ0_length_8abf5_0 rfl rfl ?_
  refine g_strV k dJ0_length_8abf5_1 lkJ0_9 ?_
  refine g_strL k dJ0_length_8abf5_4 ?_
  refine g_aload_n k 0 dJ0_length_8abf5_5 rfl rfl ?_
  obtain ⟨o1, ho2, hf⟩ := bnd_some hf
  refine g_cvs k miJ0_coder_7d493 mwJ0_coder_7d493 (ctJ0_coder_7d493 (kL K) E N    o1 ho2) dJ0_length_8abf5_6 lkJ0_335 rfl ⟨rfl, rfl⟩ ⟨by decide, by decide⟩ rfl rfl (Nat.le_of_ble_eq_true rfl) ?_
  refine g_st (st' := [.int o1, .int 5]) rfl ?_
  refine g_ishr k dJ0_length_8abf5_9 ?_
  obtain rfl := Option.some.inj hf
  exact g_iret k r dJ0_length_8abf5_10 ⟨rfl, rfl⟩
abbrev rmJ1_canEncode_9a6ad : Room := { frames := 0, cells := 0, slots := 0, locals := 0 }
def fJ1_canEncode_9a6ad (N : Nat)  (x0 : Int32) : Option (Int32) :=
  if x0 < 0 then
  some (0)
  else
  if 255 < x0 then
  some (0)
  else
  some (1)
set_option maxHeartbeats 4000000 in
set_option maxRecDepth 100000 in
theorem ctJ1_canEncode_9a6ad (l : Launch) (E : Ev) (N : Nat)   (x0 : Int32) (out : Int32) (hf : fJ1_canEncode_9a6ad N  x0 = some out) : Ct l E yJ1_canEncode_9a6ad cJ1_canEncode_9a6ad 1 (some .boolean) rmJ1_canEncode_9a6ad [.int x0] [] (Pe (some (.int out)) []) := by
  refine Ct.of rfl (Nat.le_of_ble_eq_true rfl) (fun K hL k r hin => ?_)
  subst hL
  unfold fJ1_canEncode_9a6ad at hf
  show G E K 1 0 0 [(0, .int x0)] [] [] 0
  refine g_iload_n k 0 dJ1_canEncode_9a6ad_0 rfl rfl ?_
  refine g_if_lt k (tgt := 15) dJ1_canEncode_9a6ad_1 (by decide) (fun c1 => ?_) (fun c1 => ?_)
  · replace hf := ite_t c1 hf
    refine g_iconst k dJ1_canEncode_9a6ad_15 ic_0 ?_
    obtain rfl := Option.some.inj hf
    exact g_zret k (rfl) r dJ1_canEncode_9a6ad_16 ⟨rfl, rfl⟩
  · replace hf := ite_f c1 hf
    refine g_iload_n k 0 dJ1_canEncode_9a6ad_4 rfl rfl ?_
    refine g_sipush k dJ1_canEncode_9a6ad_5 si_255 ?_
    refine g_icmp_gt k (tgt := 15) dJ1_canEncode_9a6ad_8 (by decide) (fun c2 => ?_) (fun c2 => ?_)
    · replace hf := ite_t c2 hf
      refine g_iconst k dJ1_canEncode_9a6ad_15 ic_0 ?_
      obtain rfl := Option.some.inj hf
      exact g_zret k (rfl) r dJ1_canEncode_9a6ad_16 ⟨rfl, rfl⟩
    · replace hf := ite_f c2 hf
      refine g_iconst k dJ1_canEncode_9a6ad_11 ic_1 ?_
      refine g_goto k (tgt := 16) dJ1_canEncode_9a6ad_12 (by decide) ?_
      obtain rfl := Option.some.inj hf
      exact g_zret k (rfl) r dJ1_canEncode_9a6ad_16 ⟨rfl, rfl⟩
abbrev rmJ1_indexOfChar_4cfef : Room := { frames := 0, cells := 0, slots := 0, locals := 0 }
def fJ1_indexOfChar_4cfef_L7 (N : Nat) (x1 : Int32) (x2 : Int32) (x3 : Int32) (x4 : Int32) : Nat → Int32 → Option ((Int32) ⊕ (Int32))
  | 0, _ => none
  | n + 1, x5 =>
    if x3 ≤ x5 then
    some (.inr (x5))
    else
    ixb x5 5 fun κ2 =>
    if (sby κ2) = x4 then
    some (.inl (x5))
    else
    fJ1_indexOfChar_4cfef_L7 N x1 x2 x3 x4 n (x5 + 1)
set_option maxHeartbeats 4000000 in
set_option maxRecDepth 100000 in
theorem wJ1_indexOfChar_4cfef_L7 {E : Ev} {K : KX} (k : OKX E K cJ1_indexOfChar_4cfef RJ1 6 rmJ1_indexOfChar_4cfef) (N : Nat)  (x1 : Int32) (x2 : Int32) (x3 : Int32) (x4 : Int32) {out : Int32} (r : RTX E K 0 0 (some .int) (Pe (some (.int out)) [])) : ∀ (n : Nat) (x5 : Int32) (o : (Int32) ⊕ (Int32)), fJ1_indexOfChar_4cfef_L7 N x1 x2 x3 x4 n x5 = some o → (∀ w, o = .inl w → w = out) → (∀ v, o = .inr v → G E K 6 0 0 [(0, .ref E.2.2.2), (1, .int x1), (2, .int x2), (3, .int x3), (4, .int x4), (5, .int v)] [] [] 31) → G E K 6 0 0 [(0, .ref E.2.2.2), (1, .int x1), (2, .int x2), (3, .int x3), (4, .int x4), (5, .int x5)] [] [] 7 := by
  intro n
  induction n with
  | zero => intro x5 o hf; cases hf
  | succ n ih =>
    intro x5 o hf hr hG
    rw [fJ1_indexOfChar_4cfef_L7] at hf
    refine g_iload k 5 dJ1_indexOfChar_4cfef_7 rfl ?_
    refine g_iload_n k 3 dJ1_indexOfChar_4cfef_9 rfl rfl ?_
    refine g_icmp_ge k (tgt := 31) dJ1_indexOfChar_4cfef_10 (by decide) (fun c1 => ?_) (fun c1 => ?_)
    · replace hf := ite_t c1 hf
      refine g_lv [0, 1, 2, 3, 4, 5] rfl ?_
      obtain rfl := Option.some.inj hf
      exact hG _ rfl
    · replace hf := ite_f c1 hf
      refine g_aload_n k 0 dJ1_indexOfChar_4cfef_13 rfl rfl ?_
      refine g_iload k 5 dJ1_indexOfChar_4cfef_14 rfl ?_
      obtain ⟨κ2, hκ2, hiκ2, heκ2, hf⟩ := ixb_some hf
      refine g_strB k dJ1_indexOfChar_4cfef_16 hiκ2 heκ2 ?_
      refine g_iload k 4 dJ1_indexOfChar_4cfef_17 rfl ?_
      refine g_icmp_ne k (tgt := 25) dJ1_indexOfChar_4cfef_19 (by decide) (fun c3 => ?_) (fun c3 => ?_)
      · replace hf := ite_f c3 hf
        refine g_iinc k (lv' := [(5, .int (x5 + 1)), (0, .ref E.2.2.2), (1, .int x1), (2, .int x2), (3, .int x3), (4, .int x4)]) 5 dJ1_indexOfChar_4cfef_25 rfl (ii_1 _) (by decide) rfl ?_
        refine g_goto k (tgt := 7) dJ1_indexOfChar_4cfef_28 (by decide) ?_
        refine g_lv [1, 2, 3, 4, 5, 0] rfl ?_
        exact ih (x5 + 1) o hf hr hG
      · replace hf := ite_t c3 hf
        refine g_iload k 5 dJ1_indexOfChar_4cfef_22 rfl ?_
        obtain rfl := Option.some.inj hf
        obtain rfl := hr _ rfl
        exact g_iret k r dJ1_indexOfChar_4cfef_24 ⟨rfl, rfl⟩
def fJ1_indexOfChar_4cfef (N : Nat)  (x1 : Int32) (x2 : Int32) (x3 : Int32) : Option (Int32) :=
  bnd (fJ1_indexOfChar_4cfef_L7 N x1 x2 x3 x1.toInt8.toInt32 N x2) fun o4 => lret o4 fun v6 =>
  some ((-1))
set_option maxHeartbeats 4000000 in
set_option maxRecDepth 100000 in
theorem ctJ1_indexOfChar_4cfef (l : Launch) (E : Ev) (N : Nat)   (x1 : Int32) (x2 : Int32) (x3 : Int32) (out : Int32) (hf : fJ1_indexOfChar_4cfef N  x1 x2 x3 = some out) : Ct l E yJ1_indexOfChar_4cfef cJ1_indexOfChar_4cfef 6 (some .int) rmJ1_indexOfChar_4cfef [.ref E.2.2.2, .int x1, .int x2, .int x3] [] (Pe (some (.int out)) []) := by
  refine Ct.of rfl (Nat.le_of_ble_eq_true rfl) (fun K hL k r hin => ?_)
  subst hL
  unfold fJ1_indexOfChar_4cfef at hf
  show G E K 6 0 0 [(0, .ref E.2.2.2), (1, .int x1), (2, .int x2), (3, .int x3)] [] [] 0
  refine g_iload_n k 1 dJ1_indexOfChar_4cfef_0 rfl rfl ?_
  refine g_i2b k dJ1_indexOfChar_4cfef_1 ?_
  refine g_istore k (lv' := [(4, .int x1.toInt8.toInt32), (0, .ref E.2.2.2), (1, .int x1), (2, .int x2), (3, .int x3)]) dJ1_indexOfChar_4cfef_2 (by decide) rfl ?_
  refine g_iload_n k 3 dJ1_indexOfChar_4cfef_4 rfl rfl ?_
  refine g_istore k (lv' := [(5, .int x2), (4, .int x1.toInt8.toInt32), (0, .ref E.2.2.2), (1, .int x1), (2, .int x2), (3, .int x3)]) dJ1_indexOfChar_4cfef_5 (by decide) rfl ?_
  obtain ⟨o4, ho5, hf⟩ := bnd_some hf
  refine g_lv [2, 3, 4, 5, 1, 0] (lv' := [(0, .ref E.2.2.2), (1, .int x1), (2, .int x2), (3, .int x3), (4, .int x1.toInt8.toInt32), (5, .int x2)]) rfl ?_
  refine wJ1_indexOfChar_4cfef_L7 k N   x1 x2 x3 x1.toInt8.toInt32  r N x2 o4 ho5 (fun w e => by subst e; exact Option.some.inj hf) (fun v6 e => ?_)
  subst e
  replace hf := lret_r hf
  refine g_iconst k dJ1_indexOfChar_4cfef_31 ic_m1 ?_
  obtain rfl := Option.some.inj hf
  exact g_iret k r dJ1_indexOfChar_4cfef_32 ⟨rfl, rfl⟩
abbrev rmJ1_indexOf_4cfef : Room := { frames := 1, cells := 0, slots := 0, locals := 25 }
def fJ1_indexOf_4cfef (N : Nat)  (x1 : Int32) (x2 : Int32) (x3 : Int32) : Option (Int32) :=
  bnd (fJ1_canEncode_9a6ad N x1) fun o1 =>
  if o1 = 0 then
  some ((-1))
  else
  if (imax x2 0) < (imin x3 5) then
  bnd (fJ1_indexOfChar_4cfef N x1 (imax x2 0) (imin x3 5)) fun o5 =>
  some (o5)
  else
  some ((-1))
set_option maxHeartbeats 4000000 in
set_option maxRecDepth 100000 in
theorem ctJ1_indexOf_4cfef (l : Launch) (E : Ev) (N : Nat)   (x1 : Int32) (x2 : Int32) (x3 : Int32) (out : Int32) (hf : fJ1_indexOf_4cfef N  x1 x2 x3 = some out) : Ct l E yJ1_indexOf_4cfef cJ1_indexOf_4cfef 4 (some .int) rmJ1_indexOf_4cfef [.ref E.2.2.2, .int x1, .int x2, .int x3] [] (Pe (some (.int out)) []) := by
  refine Ct.of rfl (Nat.le_of_ble_eq_true rfl) (fun K hL k r hin => ?_)
  subst hL
  unfold fJ1_indexOf_4cfef at hf
  show G E K 4 0 0 [(0, .ref E.2.2.2), (1, .int x1), (2, .int x2), (3, .int x3)] [] [] 0
  refine g_iload_n k 1 dJ1_indexOf_4cfef_0 rfl rfl ?_
  obtain ⟨o1, ho2, hf⟩ := bnd_some hf
  refine g_cs k miJ1_canEncode_9a6ad msJ1_canEncode_9a6ad (ctJ1_canEncode_9a6ad (kL K) E N   x1 o1 ho2) [] (ws' := []) dJ1_indexOf_4cfef_1 lkJ1_88 rfl ⟨rfl, rfl⟩ ⟨by decide, by decide⟩ rfl rfl rfl (Nat.le_of_ble_eq_true rfl) rfl rfl rfl ?_
  refine g_st (st' := [.int o1]) rfl ?_
  refine g_if_ne k (tgt := 9) dJ1_indexOf_4cfef_4 (by decide) (fun c3 => ?_) (fun c3 => ?_)
  · replace hf := ite_f c3 hf
    refine g_iload_n k 2 dJ1_indexOf_4cfef_9 rfl rfl ?_
    refine g_iconst k dJ1_indexOf_4cfef_10 ic_0 ?_
    refine g_mmax k dJ1_indexOf_4cfef_11 lkJ1_92 (by decide) (Nat.le_of_ble_eq_true rfl) (by decide) ?_
    refine g_istore_n k (lv' := [(2, .int (imax x2 0)), (0, .ref E.2.2.2), (1, .int x1), (3, .int x3)]) dJ1_indexOf_4cfef_14 rfl (by decide) rfl ?_
    refine g_iload_n k 3 dJ1_indexOf_4cfef_15 rfl rfl ?_
    refine g_aload_n k 1 dJ1_indexOf_4cfef_16 rfl rfl ?_
    refine g_strL k dJ1_indexOf_4cfef_17 ?_
    refine g_mmin k dJ1_indexOf_4cfef_18 lkJ1_38 (by decide) (Nat.le_of_ble_eq_true rfl) (by decide) ?_
    refine g_istore_n k (lv' := [(3, .int (imin x3 5)), (2, .int (imax x2 0)), (0, .ref E.2.2.2), (1, .int x1)]) dJ1_indexOf_4cfef_21 rfl (by decide) rfl ?_
    refine g_iload_n k 1 dJ1_indexOf_4cfef_22 rfl rfl ?_
    refine g_iload_n k 0 dJ1_indexOf_4cfef_23 rfl rfl ?_
    refine g_icmp_lt k (tgt := 29) dJ1_indexOf_4cfef_24 (by decide) (fun c4 => ?_) (fun c4 => ?_)
    · replace hf := ite_t c4 hf
      refine g_aload_n k 2 dJ1_indexOf_4cfef_29 rfl rfl ?_
      refine g_iload_n k 3 dJ1_indexOf_4cfef_30 rfl rfl ?_
      refine g_iload_n k 1 dJ1_indexOf_4cfef_31 rfl rfl ?_
      refine g_iload_n k 0 dJ1_indexOf_4cfef_32 rfl rfl ?_
      obtain ⟨o5, ho6, hf⟩ := bnd_some hf
      refine g_cs k miJ1_indexOfChar_4cfef msJ1_indexOfChar_4cfef (ctJ1_indexOfChar_4cfef (kL K) E N   x1 (imax x2 0) (imin x3 5) o5 ho6) [] (ws' := []) dJ1_indexOf_4cfef_33 lkJ1_95 rfl ⟨rfl, rfl⟩ ⟨by decide, by decide⟩ rfl rfl rfl (Nat.le_of_ble_eq_true rfl) rfl rfl rfl ?_
      refine g_st (st' := [.int o5]) rfl ?_
      obtain rfl := Option.some.inj hf
      exact g_iret k r dJ1_indexOf_4cfef_36 ⟨rfl, rfl⟩
    · replace hf := ite_f c4 hf
      refine g_iconst k dJ1_indexOf_4cfef_27 ic_m1 ?_
      obtain rfl := Option.some.inj hf
      exact g_iret k r dJ1_indexOf_4cfef_28 ⟨rfl, rfl⟩
  · replace hf := ite_t c3 hf
    refine g_iconst k dJ1_indexOf_4cfef_7 ic_m1 ?_
    obtain rfl := Option.some.inj hf
    exact g_iret k r dJ1_indexOf_4cfef_8 ⟨rfl, rfl⟩
abbrev rmJ0_indexOf_7cf53 : Room := { frames := 5, cells := 0, slots := 0, locals := 116 }
def fJ0_indexOf_7cf53 (N : Nat)  (x1 : Int32) (x2 : Int32) : Option (Int32) :=
  bnd (fJ0_isLatin1_aae02 N ) fun o1 =>
  if o1 = 0 then
  none
  else
  bnd (fJ0_length_8abf5 N ) fun o4 =>
  bnd (fJ1_indexOf_4cfef N x1 x2 o4) fun o6 =>
  some (o6)
set_option maxHeartbeats 4000000 in
set_option maxRecDepth 100000 in
theorem ctJ0_indexOf_7cf53 (l : Launch) (E : Ev) (N : Nat)   (x1 : Int32) (x2 : Int32) (out : Int32) (hf : fJ0_indexOf_7cf53 N  x1 x2 = some out) : Ct l E yJ0_indexOf_7cf53 cJ0_indexOf_7cf53 3 (some .int) rmJ0_indexOf_7cf53 [.ref E.2.2.1, .int x1, .int x2] [] (Pe (some (.int out)) []) := by
  refine Ct.of rfl (Nat.le_of_ble_eq_true rfl) (fun K hL k r hin => ?_)
  subst hL
  unfold fJ0_indexOf_7cf53 at hf
  show G E K 3 0 0 [(0, .ref E.2.2.1), (1, .int x1), (2, .int x2)] [] [] 0
  refine g_aload_n k 0 dJ0_indexOf_7cf53_0 rfl rfl ?_
  obtain ⟨o1, ho2, hf⟩ := bnd_some hf
  refine g_cvs k miJ0_isLatin1_aae02 mwJ0_isLatin1_aae02 (ctJ0_isLatin1_aae02 (kL K) E N    o1 ho2) dJ0_indexOf_7cf53_1 lkJ0_492 rfl ⟨rfl, rfl⟩ ⟨by decide, by decide⟩ rfl rfl (Nat.le_of_ble_eq_true rfl) ?_
  refine g_st (st' := [.int o1]) rfl ?_
  refine g_if_eq k (tgt := 23) dJ0_indexOf_7cf53_4 (by decide) (fun c3 => ?_) (fun c3 => ?_)
  · replace hf := ite_t c3 hf
    cases hf
  · replace hf := ite_f c3 hf
    refine g_aload_n k 0 dJ0_indexOf_7cf53_7 rfl rfl ?_
    refine g_strV k dJ0_indexOf_7cf53_8 lkJ0_9 ?_
    refine g_iload_n k 1 dJ0_indexOf_7cf53_11 rfl rfl ?_
    refine g_iload_n k 2 dJ0_indexOf_7cf53_12 rfl rfl ?_
    refine g_aload_n k 0 dJ0_indexOf_7cf53_13 rfl rfl ?_
    obtain ⟨o4, ho5, hf⟩ := bnd_some hf
    refine g_cvs k miJ0_length_8abf5 mwJ0_length_8abf5 (ctJ0_length_8abf5 (kL K) E N    o4 ho5) dJ0_indexOf_7cf53_14 lkJ0_505 rfl ⟨rfl, rfl⟩ ⟨by decide, by decide⟩ rfl rfl (Nat.le_of_ble_eq_true rfl) ?_
    refine g_st (st' := [.int o4, .int x2, .int x1, .ref E.2.2.2]) rfl ?_
    obtain ⟨o6, ho7, hf⟩ := bnd_some hf
    refine g_cs k miJ1_indexOf_4cfef msJ1_indexOf_4cfef (ctJ1_indexOf_4cfef (kL K) E N   x1 x2 o4 o6 ho7) [] (ws' := []) dJ0_indexOf_7cf53_17 lkJ0_637 rfl ⟨rfl, rfl⟩ ⟨by decide, by decide⟩ rfl rfl rfl (Nat.le_of_ble_eq_true rfl) rfl rfl rfl ?_
    refine g_st (st' := [.int o6]) rfl ?_
    refine g_goto k (tgt := 36) dJ0_indexOf_7cf53_20 (by decide) ?_
    obtain rfl := Option.some.inj hf
    exact g_iret k r dJ0_indexOf_7cf53_36 ⟨rfl, rfl⟩
abbrev rmJ0_indexOf_0f7a4 : Room := { frames := 6, cells := 0, slots := 0, locals := 138 }
def fJ0_indexOf_0f7a4 (N : Nat)  (x1 : Int32) : Option (Int32) :=
  bnd (fJ0_indexOf_7cf53 N x1 0) fun o1 =>
  some (o1)
set_option maxHeartbeats 4000000 in
set_option maxRecDepth 100000 in
theorem ctJ0_indexOf_0f7a4 (l : Launch) (E : Ev) (N : Nat)   (x1 : Int32) (out : Int32) (hf : fJ0_indexOf_0f7a4 N  x1 = some out) : Ct l E yJ0_indexOf_0f7a4 cJ0_indexOf_0f7a4 2 (some .int) rmJ0_indexOf_0f7a4 [.ref E.2.2.1, .int x1] [] (Pe (some (.int out)) []) := by
  refine Ct.of rfl (Nat.le_of_ble_eq_true rfl) (fun K hL k r hin => ?_)
  subst hL
  unfold fJ0_indexOf_0f7a4 at hf
  show G E K 2 0 0 [(0, .ref E.2.2.1), (1, .int x1)] [] [] 0
  refine g_aload_n k 0 dJ0_indexOf_0f7a4_0 rfl rfl ?_
  refine g_iload_n k 1 dJ0_indexOf_0f7a4_1 rfl rfl ?_
  refine g_iconst k dJ0_indexOf_0f7a4_2 ic_0 ?_
  obtain ⟨o1, ho2, hf⟩ := bnd_some hf
  refine g_cvs k miJ0_indexOf_7cf53 mwJ0_indexOf_7cf53 (ctJ0_indexOf_7cf53 (kL K) E N   x1 0 o1 ho2) dJ0_indexOf_0f7a4_3 lkJ0_633 rfl ⟨rfl, rfl⟩ ⟨by decide, by decide⟩ rfl rfl (Nat.le_of_ble_eq_true rfl) ?_
  refine g_st (st' := [.int o1]) rfl ?_
  obtain rfl := Option.some.inj hf
  exact g_iret k r dJ0_indexOf_0f7a4_6 ⟨rfl, rfl⟩
