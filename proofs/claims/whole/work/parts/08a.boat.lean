abbrev rmX7_within : Room := { frames := 0, cells := 0, slots := 0, locals := 0 }
def fX7_within (N : Nat)  (x0 : Int32) (x1 : Int32) (x2 : Int32) : Option (Int32) :=
  if x0 < x1 then
  some (0)
  else
  if x2 < x0 then
  some (0)
  else
  some (1)
set_option maxHeartbeats 4000000 in
set_option maxRecDepth 100000 in
theorem ctX7_within (l : Launch) (E : Ev) (N : Nat)   (x0 : Int32) (x1 : Int32) (x2 : Int32) (out : Int32) (hf : fX7_within N  x0 x1 x2 = some out) : Ct l E yX7_within cX7_within 3 (some .boolean) rmX7_within [.int x0, .int x1, .int x2] [] (Pe (some (.int out)) []) := by
  refine Ct.of rfl (Nat.le_of_ble_eq_true rfl) (fun K hL k r hin => ?_)
  subst hL
  unfold fX7_within at hf
  show G E K 3 0 0 [(0, .int x0), (1, .int x1), (2, .int x2)] [] [] 0
  refine g_iload_n k 0 dX7_within_0 rfl rfl ?_
  refine g_iload_n k 1 dX7_within_1 rfl rfl ?_
  refine g_icmp_lt k (tgt := 14) dX7_within_2 (by decide) (fun c1 => ?_) (fun c1 => ?_)
  · replace hf := ite_t c1 hf
    refine g_iconst k dX7_within_14 ic_0 ?_
    obtain rfl := Option.some.inj hf
    exact g_zret k (rfl) r dX7_within_15 ⟨rfl, rfl⟩
  · replace hf := ite_f c1 hf
    refine g_iload_n k 0 dX7_within_5 rfl rfl ?_
    refine g_iload_n k 2 dX7_within_6 rfl rfl ?_
    refine g_icmp_gt k (tgt := 14) dX7_within_7 (by decide) (fun c2 => ?_) (fun c2 => ?_)
    · replace hf := ite_t c2 hf
      refine g_iconst k dX7_within_14 ic_0 ?_
      obtain rfl := Option.some.inj hf
      exact g_zret k (rfl) r dX7_within_15 ⟨rfl, rfl⟩
    · replace hf := ite_f c2 hf
      refine g_iconst k dX7_within_10 ic_1 ?_
      refine g_goto k (tgt := 15) dX7_within_11 (by decide) ?_
      obtain rfl := Option.some.inj hf
      exact g_zret k (rfl) r dX7_within_15 ⟨rfl, rfl⟩
abbrev rmX7_cell : Room := { frames := 1, cells := 0, slots := 0, locals := 22 }
def fX7_cell (N : Nat) (va0_canal_cells : Int32) (va0_canal_now_ice : Nat → Int32) (va0_history_known : Int32) (x1 : Int32) : Option (Int32 × Int32 × (Nat → Int32) × Int32) :=
  bnd (fX7_within N x1 0 60) fun o1 =>
  if o1 = 0 then
  some ((-1), va0_canal_cells, va0_canal_now_ice, va0_history_known)
  else
  if va0_canal_cells < 12 then
  bnd (fX2_forget N va0_history_known) fun o5 =>
  bnd (fX0_addCell N va0_canal_cells va0_canal_now_ice x1) fun o7 =>
  some (o7.1, o7.2.1, o7.2.2, o5)
  else
  some ((-3), va0_canal_cells, va0_canal_now_ice, va0_history_known)
set_option maxHeartbeats 4000000 in
set_option maxRecDepth 100000 in
theorem ctX7_cell (l : Launch) (E : Ev) (N : Nat) (a0 : Nat) (a0_canal : Nat) (a0_history : Nat) (a0_imageCanal : Nat) (a0_imageHistory : Nat) (a0_tape : Nat) (a0_foreteller : Nat) (a0_search : Nat) (a0_sheets : Nat) (a0_canal_kind : Nat) (a0_canal_weight : Nat) (a0_canal_now : Nat) (a0_canal_now_ice : Nat) (a0_canal_now_juice : Nat) (a0_canal_now_fors : Nat) (a0_history_moments : Nat) (va0_hasImage : Int32) (va0_canal_cells : Int32) (va0_canal_people : Int32) (va0_canal_sayings : Int32) (va0_canal_frost : Int32) (va0_canal_now_boat : Int32) (va0_canal_now_minute : Int32) (va0_canal_now_draw : Int32) (va0_canal_now_ice : Nat → Int32) (va0_history_next : Int32) (va0_history_known : Int32) (x1 : Int32) (out : Int32 × Int32 × (Nat → Int32) × Int32) (hf : fX7_cell N va0_canal_cells va0_canal_now_ice va0_history_known x1 = some out) : Ct l E yX7_cell cX7_cell 2 (some .int) rmX7_cell [.ref a0, .int x1] [(a0, oB 7 [.ref a0_canal, .ref a0_history, .ref a0_imageCanal, .ref a0_imageHistory, .int va0_hasImage, .ref a0_tape, .ref a0_foreteller, .ref a0_search, .ref a0_sheets]), (a0_canal, oB 0 [.ref a0_canal_kind, .ref a0_canal_weight, .ref a0_canal_now, .int va0_canal_cells, .int va0_canal_people, .int va0_canal_sayings, .int va0_canal_frost]), (a0_canal_now, oB 3 [.ref a0_canal_now_ice, .ref a0_canal_now_juice, .ref a0_canal_now_fors, .int va0_canal_now_boat, .int va0_canal_now_minute, .int va0_canal_now_draw]), (a0_canal_now_ice, aI E 12 va0_canal_now_ice), (a0_history, oB 2 [.ref a0_history_moments, .int va0_history_next, .int va0_history_known])] (Pe (some (.int out.1)) [(a0, oB 7 [.ref a0_canal, .ref a0_history, .ref a0_imageCanal, .ref a0_imageHistory, .int va0_hasImage, .ref a0_tape, .ref a0_foreteller, .ref a0_search, .ref a0_sheets]), (a0_canal, oB 0 [.ref a0_canal_kind, .ref a0_canal_weight, .ref a0_canal_now, .int out.2.1, .int va0_canal_people, .int va0_canal_sayings, .int va0_canal_frost]), (a0_canal_now, oB 3 [.ref a0_canal_now_ice, .ref a0_canal_now_juice, .ref a0_canal_now_fors, .int va0_canal_now_boat, .int va0_canal_now_minute, .int va0_canal_now_draw]), (a0_canal_now_ice, aI E 12 out.2.2.1), (a0_history, oB 2 [.ref a0_history_moments, .int va0_history_next, .int out.2.2.2])]) := by
  refine Ct.of rfl (Nat.le_of_ble_eq_true rfl) (fun K hL k r hin => ?_)
  subst hL
  unfold fX7_cell at hf
  show G E K 2 0 0 [(0, .ref a0), (1, .int x1)] [] [(a0, oB 7 [.ref a0_canal, .ref a0_history, .ref a0_imageCanal, .ref a0_imageHistory, .int va0_hasImage, .ref a0_tape, .ref a0_foreteller, .ref a0_search, .ref a0_sheets]), (a0_canal, oB 0 [.ref a0_canal_kind, .ref a0_canal_weight, .ref a0_canal_now, .int va0_canal_cells, .int va0_canal_people, .int va0_canal_sayings, .int va0_canal_frost]), (a0_canal_now, oB 3 [.ref a0_canal_now_ice, .ref a0_canal_now_juice, .ref a0_canal_now_fors, .int va0_canal_now_boat, .int va0_canal_now_minute, .int va0_canal_now_draw]), (a0_canal_now_ice, aI E 12 va0_canal_now_ice), (a0_history, oB 2 [.ref a0_history_moments, .int va0_history_next, .int va0_history_known])] 0
  refine g_iload_n k 1 dX7_cell_0 rfl rfl ?_
  refine g_iconst k dX7_cell_1 ic_0 ?_
  refine g_bipush k dX7_cell_2 bi_60 ?_
  obtain ⟨o1, ho2, hf⟩ := bnd_some hf
  refine g_cs k miX7_within msX7_within (ctX7_within (kL K) E N   x1 0 60 o1 ho2) [] (ws' := [(a0, oB 7 [.ref a0_canal, .ref a0_history, .ref a0_imageCanal, .ref a0_imageHistory, .int va0_hasImage, .ref a0_tape, .ref a0_foreteller, .ref a0_search, .ref a0_sheets]), (a0_canal, oB 0 [.ref a0_canal_kind, .ref a0_canal_weight, .ref a0_canal_now, .int va0_canal_cells, .int va0_canal_people, .int va0_canal_sayings, .int va0_canal_frost]), (a0_canal_now, oB 3 [.ref a0_canal_now_ice, .ref a0_canal_now_juice, .ref a0_canal_now_fors, .int va0_canal_now_boat, .int va0_canal_now_minute, .int va0_canal_now_draw]), (a0_canal_now_ice, aI E 12 va0_canal_now_ice), (a0_history, oB 2 [.ref a0_history_moments, .int va0_history_next, .int va0_history_known])]) dX7_cell_4 lkX7_61 rfl ⟨rfl, rfl⟩ ⟨by decide, by decide⟩ rfl rfl rfl (Nat.le_of_ble_eq_true rfl) rfl rfl rfl ?_
  refine g_st (st' := [.int o1]) rfl ?_
  refine g_if_ne k (tgt := 12) dX7_cell_7 (by decide) (fun c3 => ?_) (fun c3 => ?_)
  · replace hf := ite_f c3 hf
    refine g_aload_n k 0 dX7_cell_12 rfl rfl ?_
    refine g_get k cfX7 0 0 dX7_cell_13 lkX7_10 (by decide) rfl rfl ?_
    refine g_get k cfX0 3 1 dX7_cell_16 lkX7_65 (by decide) rfl rfl ?_
    refine g_bipush k dX7_cell_19 bi_12 ?_
    refine g_icmp_lt k (tgt := 27) dX7_cell_21 (by decide) (fun c4 => ?_) (fun c4 => ?_)
    · replace hf := ite_t c4 hf
      refine g_aload_n k 0 dX7_cell_27 rfl rfl ?_
      refine g_get k cfX7 1 0 dX7_cell_28 lkX7_19 (by decide) rfl rfl ?_
      obtain ⟨o5, ho6, hf⟩ := bnd_some hf
      refine g_cv k miX2_forget mvX2_forget (ctX2_forget (kL K) E N a0_history a0_history_moments va0_history_next va0_history_known  o5 ho6) [4] 0 (ws' := [(a0, oB 7 [.ref a0_canal, .ref a0_history, .ref a0_imageCanal, .ref a0_imageHistory, .int va0_hasImage, .ref a0_tape, .ref a0_foreteller, .ref a0_search, .ref a0_sheets]), (a0_canal, oB 0 [.ref a0_canal_kind, .ref a0_canal_weight, .ref a0_canal_now, .int va0_canal_cells, .int va0_canal_people, .int va0_canal_sayings, .int va0_canal_frost]), (a0_canal_now, oB 3 [.ref a0_canal_now_ice, .ref a0_canal_now_juice, .ref a0_canal_now_fors, .int va0_canal_now_boat, .int va0_canal_now_minute, .int va0_canal_now_draw]), (a0_canal_now_ice, aI E 12 va0_canal_now_ice), (a0_history, oB 2 [.ref a0_history_moments, .int va0_history_next, .int o5])]) dX7_cell_31 lkX7_69 rfl ⟨rfl, rfl⟩ ⟨by decide, by decide⟩ rfl rfl rfl rfl (Nat.le_of_ble_eq_true rfl) rfl rfl rfl ?_
      refine g_st (st' := []) rfl ?_
      refine g_aload_n k 0 dX7_cell_34 rfl rfl ?_
      refine g_get k cfX7 0 0 dX7_cell_35 lkX7_10 (by decide) rfl rfl ?_
      refine g_iload_n k 1 dX7_cell_38 rfl rfl ?_
      obtain ⟨o7, ho8, hf⟩ := bnd_some hf
      refine g_cv k miX0_addCell mvX0_addCell (ctX0_addCell (kL K) E N a0_canal a0_canal_kind a0_canal_weight a0_canal_now a0_canal_now_ice a0_canal_now_juice a0_canal_now_fors va0_canal_cells va0_canal_people va0_canal_sayings va0_canal_frost va0_canal_now_boat va0_canal_now_minute va0_canal_now_draw va0_canal_now_ice x1 o7 ho8) [1, 2, 3] 0 (ws' := [(a0, oB 7 [.ref a0_canal, .ref a0_history, .ref a0_imageCanal, .ref a0_imageHistory, .int va0_hasImage, .ref a0_tape, .ref a0_foreteller, .ref a0_search, .ref a0_sheets]), (a0_canal, oB 0 [.ref a0_canal_kind, .ref a0_canal_weight, .ref a0_canal_now, .int o7.2.1, .int va0_canal_people, .int va0_canal_sayings, .int va0_canal_frost]), (a0_canal_now, oB 3 [.ref a0_canal_now_ice, .ref a0_canal_now_juice, .ref a0_canal_now_fors, .int va0_canal_now_boat, .int va0_canal_now_minute, .int va0_canal_now_draw]), (a0_canal_now_ice, aI E 12 o7.2.2), (a0_history, oB 2 [.ref a0_history_moments, .int va0_history_next, .int o5])]) dX7_cell_39 lkX7_72 rfl ⟨rfl, rfl⟩ ⟨by decide, by decide⟩ rfl rfl rfl rfl (Nat.le_of_ble_eq_true rfl) rfl rfl rfl ?_
      refine g_st (st' := [.int o7.1]) rfl ?_
      obtain rfl := Option.some.inj hf
      exact g_iret k r dX7_cell_42 ⟨rfl, rfl⟩
    · replace hf := ite_f c4 hf
      refine g_bipush k dX7_cell_24 bi_m3 ?_
      obtain rfl := Option.some.inj hf
      exact g_iret k r dX7_cell_26 ⟨rfl, rfl⟩
  · replace hf := ite_t c3 hf
    refine g_iconst k dX7_cell_10 ic_m1 ?_
    obtain rfl := Option.some.inj hf
    exact g_iret k r dX7_cell_11 ⟨rfl, rfl⟩
abbrev rmX7_person : Room := { frames := 1, cells := 0, slots := 0, locals := 22 }
def fX7_person (N : Nat) (va0_canal_people : Int32) (va0_canal_kind : Nat → Int32) (va0_canal_weight : Nat → Int32) (va0_history_known : Int32) (x1 : Int32) (x2 : Int32) : Option (Int32 × Int32 × (Nat → Int32) × (Nat → Int32) × Int32) :=
  bnd (fX7_within N x1 0 4) fun o1 =>
  if o1 = 0 then
  some ((-1), va0_canal_people, va0_canal_kind, va0_canal_weight, va0_history_known)
  else
  bnd (fX7_within N x2 1 9) fun o4 =>
  if o4 = 0 then
  some ((-1), va0_canal_people, va0_canal_kind, va0_canal_weight, va0_history_known)
  else
  if va0_canal_people < 6 then
  bnd (fX2_forget N va0_history_known) fun o8 =>
  bnd (fX0_addPerson N va0_canal_people va0_canal_kind va0_canal_weight x1 x2) fun o10 =>
  some (o10.1, o10.2.1, o10.2.2.1, o10.2.2.2, o8)
  else
  some ((-3), va0_canal_people, va0_canal_kind, va0_canal_weight, va0_history_known)
set_option maxHeartbeats 4000000 in
set_option maxRecDepth 100000 in
theorem ctX7_person (l : Launch) (E : Ev) (N : Nat) (a0 : Nat) (a0_canal : Nat) (a0_history : Nat) (a0_imageCanal : Nat) (a0_imageHistory : Nat) (a0_tape : Nat) (a0_foreteller : Nat) (a0_search : Nat) (a0_sheets : Nat) (a0_canal_kind : Nat) (a0_canal_weight : Nat) (a0_canal_now : Nat) (a0_history_moments : Nat) (va0_hasImage : Int32) (va0_canal_cells : Int32) (va0_canal_people : Int32) (va0_canal_sayings : Int32) (va0_canal_frost : Int32) (va0_canal_kind : Nat → Int32) (va0_canal_weight : Nat → Int32) (va0_history_next : Int32) (va0_history_known : Int32) (x1 : Int32) (x2 : Int32) (out : Int32 × Int32 × (Nat → Int32) × (Nat → Int32) × Int32) (hf : fX7_person N va0_canal_people va0_canal_kind va0_canal_weight va0_history_known x1 x2 = some out) : Ct l E yX7_person cX7_person 3 (some .int) rmX7_person [.ref a0, .int x1, .int x2] [(a0, oB 7 [.ref a0_canal, .ref a0_history, .ref a0_imageCanal, .ref a0_imageHistory, .int va0_hasImage, .ref a0_tape, .ref a0_foreteller, .ref a0_search, .ref a0_sheets]), (a0_canal, oB 0 [.ref a0_canal_kind, .ref a0_canal_weight, .ref a0_canal_now, .int va0_canal_cells, .int va0_canal_people, .int va0_canal_sayings, .int va0_canal_frost]), (a0_canal_kind, aI E 6 va0_canal_kind), (a0_canal_weight, aI E 6 va0_canal_weight), (a0_history, oB 2 [.ref a0_history_moments, .int va0_history_next, .int va0_history_known])] (Pe (some (.int out.1)) [(a0, oB 7 [.ref a0_canal, .ref a0_history, .ref a0_imageCanal, .ref a0_imageHistory, .int va0_hasImage, .ref a0_tape, .ref a0_foreteller, .ref a0_search, .ref a0_sheets]), (a0_canal, oB 0 [.ref a0_canal_kind, .ref a0_canal_weight, .ref a0_canal_now, .int va0_canal_cells, .int out.2.1, .int va0_canal_sayings, .int va0_canal_frost]), (a0_canal_kind, aI E 6 out.2.2.1), (a0_canal_weight, aI E 6 out.2.2.2.1), (a0_history, oB 2 [.ref a0_history_moments, .int va0_history_next, .int out.2.2.2.2])]) := by
  refine Ct.of rfl (Nat.le_of_ble_eq_true rfl) (fun K hL k r hin => ?_)
  subst hL
  unfold fX7_person at hf
  show G E K 3 0 0 [(0, .ref a0), (1, .int x1), (2, .int x2)] [] [(a0, oB 7 [.ref a0_canal, .ref a0_history, .ref a0_imageCanal, .ref a0_imageHistory, .int va0_hasImage, .ref a0_tape, .ref a0_foreteller, .ref a0_search, .ref a0_sheets]), (a0_canal, oB 0 [.ref a0_canal_kind, .ref a0_canal_weight, .ref a0_canal_now, .int va0_canal_cells, .int va0_canal_people, .int va0_canal_sayings, .int va0_canal_frost]), (a0_canal_kind, aI E 6 va0_canal_kind), (a0_canal_weight, aI E 6 va0_canal_weight), (a0_history, oB 2 [.ref a0_history_moments, .int va0_history_next, .int va0_history_known])] 0
  refine g_iload_n k 1 dX7_person_0 rfl rfl ?_
  refine g_iconst k dX7_person_1 ic_0 ?_
  refine g_iconst k dX7_person_2 ic_4 ?_
  obtain ⟨o1, ho2, hf⟩ := bnd_some hf
  refine g_cs k miX7_within msX7_within (ctX7_within (kL K) E N   x1 0 4 o1 ho2) [] (ws' := [(a0, oB 7 [.ref a0_canal, .ref a0_history, .ref a0_imageCanal, .ref a0_imageHistory, .int va0_hasImage, .ref a0_tape, .ref a0_foreteller, .ref a0_search, .ref a0_sheets]), (a0_canal, oB 0 [.ref a0_canal_kind, .ref a0_canal_weight, .ref a0_canal_now, .int va0_canal_cells, .int va0_canal_people, .int va0_canal_sayings, .int va0_canal_frost]), (a0_canal_kind, aI E 6 va0_canal_kind), (a0_canal_weight, aI E 6 va0_canal_weight), (a0_history, oB 2 [.ref a0_history_moments, .int va0_history_next, .int va0_history_known])]) dX7_person_3 lkX7_61 rfl ⟨rfl, rfl⟩ ⟨by decide, by decide⟩ rfl rfl rfl (Nat.le_of_ble_eq_true rfl) rfl rfl rfl ?_
  refine g_st (st' := [.int o1]) rfl ?_
  refine g_if_eq k (tgt := 19) dX7_person_6 (by decide) (fun c3 => ?_) (fun c3 => ?_)
  · replace hf := ite_t c3 hf
    refine g_iconst k dX7_person_19 ic_m1 ?_
    obtain rfl := Option.some.inj hf
    exact g_iret k r dX7_person_20 ⟨rfl, rfl⟩
  · replace hf := ite_f c3 hf
    refine g_iload_n k 2 dX7_person_9 rfl rfl ?_
    refine g_iconst k dX7_person_10 ic_1 ?_
    refine g_bipush k dX7_person_11 bi_9 ?_
    obtain ⟨o4, ho5, hf⟩ := bnd_some hf
    refine g_cs k miX7_within msX7_within (ctX7_within (kL K) E N   x2 1 9 o4 ho5) [] (ws' := [(a0, oB 7 [.ref a0_canal, .ref a0_history, .ref a0_imageCanal, .ref a0_imageHistory, .int va0_hasImage, .ref a0_tape, .ref a0_foreteller, .ref a0_search, .ref a0_sheets]), (a0_canal, oB 0 [.ref a0_canal_kind, .ref a0_canal_weight, .ref a0_canal_now, .int va0_canal_cells, .int va0_canal_people, .int va0_canal_sayings, .int va0_canal_frost]), (a0_canal_kind, aI E 6 va0_canal_kind), (a0_canal_weight, aI E 6 va0_canal_weight), (a0_history, oB 2 [.ref a0_history_moments, .int va0_history_next, .int va0_history_known])]) dX7_person_13 lkX7_61 rfl ⟨rfl, rfl⟩ ⟨by decide, by decide⟩ rfl rfl rfl (Nat.le_of_ble_eq_true rfl) rfl rfl rfl ?_
    refine g_st (st' := [.int o4]) rfl ?_
    refine g_if_ne k (tgt := 21) dX7_person_16 (by decide) (fun c6 => ?_) (fun c6 => ?_)
    · replace hf := ite_f c6 hf
      refine g_aload_n k 0 dX7_person_21 rfl rfl ?_
      refine g_get k cfX7 0 0 dX7_person_22 lkX7_10 (by decide) rfl rfl ?_
      refine g_get k cfX0 4 1 dX7_person_25 lkX7_76 (by decide) rfl rfl ?_
      refine g_bipush k dX7_person_28 bi_6 ?_
      refine g_icmp_lt k (tgt := 36) dX7_person_30 (by decide) (fun c7 => ?_) (fun c7 => ?_)
      · replace hf := ite_t c7 hf
        refine g_aload_n k 0 dX7_person_36 rfl rfl ?_
        refine g_get k cfX7 1 0 dX7_person_37 lkX7_19 (by decide) rfl rfl ?_
        obtain ⟨o8, ho9, hf⟩ := bnd_some hf
        refine g_cv k miX2_forget mvX2_forget (ctX2_forget (kL K) E N a0_history a0_history_moments va0_history_next va0_history_known  o8 ho9) [4] 0 (ws' := [(a0, oB 7 [.ref a0_canal, .ref a0_history, .ref a0_imageCanal, .ref a0_imageHistory, .int va0_hasImage, .ref a0_tape, .ref a0_foreteller, .ref a0_search, .ref a0_sheets]), (a0_canal, oB 0 [.ref a0_canal_kind, .ref a0_canal_weight, .ref a0_canal_now, .int va0_canal_cells, .int va0_canal_people, .int va0_canal_sayings, .int va0_canal_frost]), (a0_canal_kind, aI E 6 va0_canal_kind), (a0_canal_weight, aI E 6 va0_canal_weight), (a0_history, oB 2 [.ref a0_history_moments, .int va0_history_next, .int o8])]) dX7_person_40 lkX7_69 rfl ⟨rfl, rfl⟩ ⟨by decide, by decide⟩ rfl rfl rfl rfl (Nat.le_of_ble_eq_true rfl) rfl rfl rfl ?_
        refine g_st (st' := []) rfl ?_
        refine g_aload_n k 0 dX7_person_43 rfl rfl ?_
        refine g_get k cfX7 0 0 dX7_person_44 lkX7_10 (by decide) rfl rfl ?_
        refine g_iload_n k 1 dX7_person_47 rfl rfl ?_
        refine g_iload_n k 2 dX7_person_48 rfl rfl ?_
        obtain ⟨o10, ho11, hf⟩ := bnd_some hf
        refine g_cv k miX0_addPerson mvX0_addPerson (ctX0_addPerson (kL K) E N a0_canal a0_canal_kind a0_canal_weight a0_canal_now va0_canal_cells va0_canal_people va0_canal_sayings va0_canal_frost va0_canal_kind va0_canal_weight x1 x2 o10 ho11) [1, 2, 3] 0 (ws' := [(a0, oB 7 [.ref a0_canal, .ref a0_history, .ref a0_imageCanal, .ref a0_imageHistory, .int va0_hasImage, .ref a0_tape, .ref a0_foreteller, .ref a0_search, .ref a0_sheets]), (a0_canal, oB 0 [.ref a0_canal_kind, .ref a0_canal_weight, .ref a0_canal_now, .int va0_canal_cells, .int o10.2.1, .int va0_canal_sayings, .int va0_canal_frost]), (a0_canal_kind, aI E 6 o10.2.2.1), (a0_canal_weight, aI E 6 o10.2.2.2), (a0_history, oB 2 [.ref a0_history_moments, .int va0_history_next, .int o8])]) dX7_person_49 lkX7_79 rfl ⟨rfl, rfl⟩ ⟨by decide, by decide⟩ rfl rfl rfl rfl (Nat.le_of_ble_eq_true rfl) rfl rfl rfl ?_
        refine g_st (st' := [.int o10.1]) rfl ?_
        obtain rfl := Option.some.inj hf
        exact g_iret k r dX7_person_52 ⟨rfl, rfl⟩
      · replace hf := ite_f c7 hf
        refine g_bipush k dX7_person_33 bi_m3 ?_
        obtain rfl := Option.some.inj hf
        exact g_iret k r dX7_person_35 ⟨rfl, rfl⟩
    · replace hf := ite_t c6 hf
      refine g_iconst k dX7_person_19 ic_m1 ?_
      obtain rfl := Option.some.inj hf
      exact g_iret k r dX7_person_20 ⟨rfl, rfl⟩
abbrev rmX7_saying : Room := { frames := 1, cells := 0, slots := 0, locals := 22 }
def fX7_saying (N : Nat) (va0_canal_people : Int32) (va0_canal_sayings : Int32) (va0_canal_now_juice : Nat → Int32) (va0_canal_now_fors : Nat → Int32) (va0_history_known : Int32) (x1 : Int32) (x2 : Int32) : Option (Int32 × Int32 × (Nat → Int32) × (Nat → Int32) × Int32) :=
  bnd (fX7_within N x1 0 20) fun o1 =>
  if o1 = 0 then
  some ((-1), va0_canal_sayings, va0_canal_now_juice, va0_canal_now_fors, va0_history_known)
  else
  bnd (fX0_everybody N va0_canal_people) fun o4 =>
  bnd (fX7_within N x2 0 o4) fun o6 =>
  if o6 = 0 then
  some ((-1), va0_canal_sayings, va0_canal_now_juice, va0_canal_now_fors, va0_history_known)
  else
  if va0_canal_sayings < 5 then
  bnd (fX2_forget N va0_history_known) fun o10 =>
  bnd (fX0_addSaying N va0_canal_sayings va0_canal_now_juice va0_canal_now_fors x1 x2) fun o12 =>
  some (o12.1, o12.2.1, o12.2.2.1, o12.2.2.2, o10)
  else
  some ((-3), va0_canal_sayings, va0_canal_now_juice, va0_canal_now_fors, va0_history_known)
set_option maxHeartbeats 4000000 in
set_option maxRecDepth 100000 in
theorem ctX7_saying (l : Launch) (E : Ev) (N : Nat) (a0 : Nat) (a0_canal : Nat) (a0_history : Nat) (a0_imageCanal : Nat) (a0_imageHistory : Nat) (a0_tape : Nat) (a0_foreteller : Nat) (a0_search : Nat) (a0_sheets : Nat) (a0_canal_kind : Nat) (a0_canal_weight : Nat) (a0_canal_now : Nat) (a0_canal_now_ice : Nat) (a0_canal_now_juice : Nat) (a0_canal_now_fors : Nat) (a0_history_moments : Nat) (va0_hasImage : Int32) (va0_canal_cells : Int32) (va0_canal_people : Int32) (va0_canal_sayings : Int32) (va0_canal_frost : Int32) (va0_canal_now_boat : Int32) (va0_canal_now_minute : Int32) (va0_canal_now_draw : Int32) (va0_canal_now_juice : Nat → Int32) (va0_canal_now_fors : Nat → Int32) (va0_history_next : Int32) (va0_history_known : Int32) (x1 : Int32) (x2 : Int32) (out : Int32 × Int32 × (Nat → Int32) × (Nat → Int32) × Int32) (hf : fX7_saying N va0_canal_people va0_canal_sayings va0_canal_now_juice va0_canal_now_fors va0_history_known x1 x2 = some out) : Ct l E yX7_saying cX7_saying 3 (some .int) rmX7_saying [.ref a0, .int x1, .int x2] [(a0, oB 7 [.ref a0_canal, .ref a0_history, .ref a0_imageCanal, .ref a0_imageHistory, .int va0_hasImage, .ref a0_tape, .ref a0_foreteller, .ref a0_search, .ref a0_sheets]), (a0_canal, oB 0 [.ref a0_canal_kind, .ref a0_canal_weight, .ref a0_canal_now, .int va0_canal_cells, .int va0_canal_people, .int va0_canal_sayings, .int va0_canal_frost]), (a0_canal_now, oB 3 [.ref a0_canal_now_ice, .ref a0_canal_now_juice, .ref a0_canal_now_fors, .int va0_canal_now_boat, .int va0_canal_now_minute, .int va0_canal_now_draw]), (a0_canal_now_juice, aI E 5 va0_canal_now_juice), (a0_canal_now_fors, aI E 5 va0_canal_now_fors), (a0_history, oB 2 [.ref a0_history_moments, .int va0_history_next, .int va0_history_known])] (Pe (some (.int out.1)) [(a0, oB 7 [.ref a0_canal, .ref a0_history, .ref a0_imageCanal, .ref a0_imageHistory, .int va0_hasImage, .ref a0_tape, .ref a0_foreteller, .ref a0_search, .ref a0_sheets]), (a0_canal, oB 0 [.ref a0_canal_kind, .ref a0_canal_weight, .ref a0_canal_now, .int va0_canal_cells, .int va0_canal_people, .int out.2.1, .int va0_canal_frost]), (a0_canal_now, oB 3 [.ref a0_canal_now_ice, .ref a0_canal_now_juice, .ref a0_canal_now_fors, .int va0_canal_now_boat, .int va0_canal_now_minute, .int va0_canal_now_draw]), (a0_canal_now_juice, aI E 5 out.2.2.1), (a0_canal_now_fors, aI E 5 out.2.2.2.1), (a0_history, oB 2 [.ref a0_history_moments, .int va0_history_next, .int out.2.2.2.2])]) := by
  refine Ct.of rfl (Nat.le_of_ble_eq_true rfl) (fun K hL k r hin => ?_)
  subst hL
  unfold fX7_saying at hf
  show G E K 3 0 0 [(0, .ref a0), (1, .int x1), (2, .int x2)] [] [(a0, oB 7 [.ref a0_canal, .ref a0_history, .ref a0_imageCanal, .ref a0_imageHistory, .int va0_hasImage, .ref a0_tape, .ref a0_foreteller, .ref a0_search, .ref a0_sheets]), (a0_canal, oB 0 [.ref a0_canal_kind, .ref a0_canal_weight, .ref a0_canal_now, .int va0_canal_cells, .int va0_canal_people, .int va0_canal_sayings, .int va0_canal_frost]), (a0_canal_now, oB 3 [.ref a0_canal_now_ice, .ref a0_canal_now_juice, .ref a0_canal_now_fors, .int va0_canal_now_boat, .int va0_canal_now_minute, .int va0_canal_now_draw]), (a0_canal_now_juice, aI E 5 va0_canal_now_juice), (a0_canal_now_fors, aI E 5 va0_canal_now_fors), (a0_history, oB 2 [.ref a0_history_moments, .int va0_history_next, .int va0_history_known])] 0
  refine g_iload_n k 1 dX7_saying_0 rfl rfl ?_
  refine g_iconst k dX7_saying_1 ic_0 ?_
  refine g_bipush k dX7_saying_2 bi_20 ?_
  obtain ⟨o1, ho2, hf⟩ := bnd_some hf
  refine g_cs k miX7_within msX7_within (ctX7_within (kL K) E N   x1 0 20 o1 ho2) [] (ws' := [(a0, oB 7 [.ref a0_canal, .ref a0_history, .ref a0_imageCanal, .ref a0_imageHistory, .int va0_hasImage, .ref a0_tape, .ref a0_foreteller, .ref a0_search, .ref a0_sheets]), (a0_canal, oB 0 [.ref a0_canal_kind, .ref a0_canal_weight, .ref a0_canal_now, .int va0_canal_cells, .int va0_canal_people, .int va0_canal_sayings, .int va0_canal_frost]), (a0_canal_now, oB 3 [.ref a0_canal_now_ice, .ref a0_canal_now_juice, .ref a0_canal_now_fors, .int va0_canal_now_boat, .int va0_canal_now_minute, .int va0_canal_now_draw]), (a0_canal_now_juice, aI E 5 va0_canal_now_juice), (a0_canal_now_fors, aI E 5 va0_canal_now_fors), (a0_history, oB 2 [.ref a0_history_moments, .int va0_history_next, .int va0_history_known])]) dX7_saying_4 lkX7_61 rfl ⟨rfl, rfl⟩ ⟨by decide, by decide⟩ rfl rfl rfl (Nat.le_of_ble_eq_true rfl) rfl rfl rfl ?_
  refine g_st (st' := [.int o1]) rfl ?_
  refine g_if_eq k (tgt := 25) dX7_saying_7 (by decide) (fun c3 => ?_) (fun c3 => ?_)
  · replace hf := ite_t c3 hf
    refine g_iconst k dX7_saying_25 ic_m1 ?_
    obtain rfl := Option.some.inj hf
    exact g_iret k r dX7_saying_26 ⟨rfl, rfl⟩
  · replace hf := ite_f c3 hf
    refine g_iload_n k 2 dX7_saying_10 rfl rfl ?_
    refine g_iconst k dX7_saying_11 ic_0 ?_
    refine g_aload_n k 0 dX7_saying_12 rfl rfl ?_
    refine g_get k cfX7 0 0 dX7_saying_13 lkX7_10 (by decide) rfl rfl ?_
    obtain ⟨o4, ho5, hf⟩ := bnd_some hf
    refine g_cv k miX0_everybody mvX0_everybody (ctX0_everybody (kL K) E N a0_canal a0_canal_kind a0_canal_weight a0_canal_now va0_canal_cells va0_canal_people va0_canal_sayings va0_canal_frost  o4 ho5) [1] 0 (ws' := [(a0, oB 7 [.ref a0_canal, .ref a0_history, .ref a0_imageCanal, .ref a0_imageHistory, .int va0_hasImage, .ref a0_tape, .ref a0_foreteller, .ref a0_search, .ref a0_sheets]), (a0_canal, oB 0 [.ref a0_canal_kind, .ref a0_canal_weight, .ref a0_canal_now, .int va0_canal_cells, .int va0_canal_people, .int va0_canal_sayings, .int va0_canal_frost]), (a0_canal_now, oB 3 [.ref a0_canal_now_ice, .ref a0_canal_now_juice, .ref a0_canal_now_fors, .int va0_canal_now_boat, .int va0_canal_now_minute, .int va0_canal_now_draw]), (a0_canal_now_juice, aI E 5 va0_canal_now_juice), (a0_canal_now_fors, aI E 5 va0_canal_now_fors), (a0_history, oB 2 [.ref a0_history_moments, .int va0_history_next, .int va0_history_known])]) dX7_saying_16 lkX7_83 rfl ⟨rfl, rfl⟩ ⟨by decide, by decide⟩ rfl rfl rfl rfl (Nat.le_of_ble_eq_true rfl) rfl rfl rfl ?_
    refine g_st (st' := [.int o4, .int 0, .int x2]) rfl ?_
    obtain ⟨o6, ho7, hf⟩ := bnd_some hf
    refine g_cs k miX7_within msX7_within (ctX7_within (kL K) E N   x2 0 o4 o6 ho7) [] (ws' := [(a0, oB 7 [.ref a0_canal, .ref a0_history, .ref a0_imageCanal, .ref a0_imageHistory, .int va0_hasImage, .ref a0_tape, .ref a0_foreteller, .ref a0_search, .ref a0_sheets]), (a0_canal, oB 0 [.ref a0_canal_kind, .ref a0_canal_weight, .ref a0_canal_now, .int va0_canal_cells, .int va0_canal_people, .int va0_canal_sayings, .int va0_canal_frost]), (a0_canal_now, oB 3 [.ref a0_canal_now_ice, .ref a0_canal_now_juice, .ref a0_canal_now_fors, .int va0_canal_now_boat, .int va0_canal_now_minute, .int va0_canal_now_draw]), (a0_canal_now_juice, aI E 5 va0_canal_now_juice), (a0_canal_now_fors, aI E 5 va0_canal_now_fors), (a0_history, oB 2 [.ref a0_history_moments, .int va0_history_next, .int va0_history_known])]) dX7_saying_19 lkX7_61 rfl ⟨rfl, rfl⟩ ⟨by decide, by decide⟩ rfl rfl rfl (Nat.le_of_ble_eq_true rfl) rfl rfl rfl ?_
    refine g_st (st' := [.int o6]) rfl ?_
    refine g_if_ne k (tgt := 27) dX7_saying_22 (by decide) (fun c8 => ?_) (fun c8 => ?_)
    · replace hf := ite_f c8 hf
      refine g_aload_n k 0 dX7_saying_27 rfl rfl ?_
      refine g_get k cfX7 0 0 dX7_saying_28 lkX7_10 (by decide) rfl rfl ?_
      refine g_get k cfX0 5 1 dX7_saying_31 lkX7_87 (by decide) rfl rfl ?_
      refine g_iconst k dX7_saying_34 ic_5 ?_
      refine g_icmp_lt k (tgt := 41) dX7_saying_35 (by decide) (fun c9 => ?_) (fun c9 => ?_)
      · replace hf := ite_t c9 hf
        refine g_aload_n k 0 dX7_saying_41 rfl rfl ?_
        refine g_get k cfX7 1 0 dX7_saying_42 lkX7_19 (by decide) rfl rfl ?_
        obtain ⟨o10, ho11, hf⟩ := bnd_some hf
        refine g_cv k miX2_forget mvX2_forget (ctX2_forget (kL K) E N a0_history a0_history_moments va0_history_next va0_history_known  o10 ho11) [5] 0 (ws' := [(a0, oB 7 [.ref a0_canal, .ref a0_history, .ref a0_imageCanal, .ref a0_imageHistory, .int va0_hasImage, .ref a0_tape, .ref a0_foreteller, .ref a0_search, .ref a0_sheets]), (a0_canal, oB 0 [.ref a0_canal_kind, .ref a0_canal_weight, .ref a0_canal_now, .int va0_canal_cells, .int va0_canal_people, .int va0_canal_sayings, .int va0_canal_frost]), (a0_canal_now, oB 3 [.ref a0_canal_now_ice, .ref a0_canal_now_juice, .ref a0_canal_now_fors, .int va0_canal_now_boat, .int va0_canal_now_minute, .int va0_canal_now_draw]), (a0_canal_now_juice, aI E 5 va0_canal_now_juice), (a0_canal_now_fors, aI E 5 va0_canal_now_fors), (a0_history, oB 2 [.ref a0_history_moments, .int va0_history_next, .int o10])]) dX7_saying_45 lkX7_69 rfl ⟨rfl, rfl⟩ ⟨by decide, by decide⟩ rfl rfl rfl rfl (Nat.le_of_ble_eq_true rfl) rfl rfl rfl ?_
        refine g_st (st' := []) rfl ?_
        refine g_aload_n k 0 dX7_saying_48 rfl rfl ?_
        refine g_get k cfX7 0 0 dX7_saying_49 lkX7_10 (by decide) rfl rfl ?_
        refine g_iload_n k 1 dX7_saying_52 rfl rfl ?_
        refine g_iload_n k 2 dX7_saying_53 rfl rfl ?_
        obtain ⟨o12, ho13, hf⟩ := bnd_some hf
        refine g_cv k miX0_addSaying mvX0_addSaying (ctX0_addSaying (kL K) E N a0_canal a0_canal_kind a0_canal_weight a0_canal_now a0_canal_now_ice a0_canal_now_juice a0_canal_now_fors va0_canal_cells va0_canal_people va0_canal_sayings va0_canal_frost va0_canal_now_boat va0_canal_now_minute va0_canal_now_draw va0_canal_now_juice va0_canal_now_fors x1 x2 o12 ho13) [1, 2, 3, 4] 0 (ws' := [(a0, oB 7 [.ref a0_canal, .ref a0_history, .ref a0_imageCanal, .ref a0_imageHistory, .int va0_hasImage, .ref a0_tape, .ref a0_foreteller, .ref a0_search, .ref a0_sheets]), (a0_canal, oB 0 [.ref a0_canal_kind, .ref a0_canal_weight, .ref a0_canal_now, .int va0_canal_cells, .int va0_canal_people, .int o12.2.1, .int va0_canal_frost]), (a0_canal_now, oB 3 [.ref a0_canal_now_ice, .ref a0_canal_now_juice, .ref a0_canal_now_fors, .int va0_canal_now_boat, .int va0_canal_now_minute, .int va0_canal_now_draw]), (a0_canal_now_juice, aI E 5 o12.2.2.1), (a0_canal_now_fors, aI E 5 o12.2.2.2), (a0_history, oB 2 [.ref a0_history_moments, .int va0_history_next, .int o10])]) dX7_saying_54 lkX7_90 rfl ⟨rfl, rfl⟩ ⟨by decide, by decide⟩ rfl rfl rfl rfl (Nat.le_of_ble_eq_true rfl) rfl rfl rfl ?_
        refine g_st (st' := [.int o12.1]) rfl ?_
        obtain rfl := Option.some.inj hf
        exact g_iret k r dX7_saying_57 ⟨rfl, rfl⟩
      · replace hf := ite_f c9 hf
        refine g_bipush k dX7_saying_38 bi_m3 ?_
        obtain rfl := Option.some.inj hf
        exact g_iret k r dX7_saying_40 ⟨rfl, rfl⟩
    · replace hf := ite_t c8 hf
      refine g_iconst k dX7_saying_25 ic_m1 ?_
      obtain rfl := Option.some.inj hf
      exact g_iret k r dX7_saying_26 ⟨rfl, rfl⟩
abbrev rmX7_ice : Room := { frames := 1, cells := 0, slots := 0, locals := 21 }
def fX7_ice (N : Nat) (va0_canal_cells : Int32) (va0_canal_now_ice : Nat → Int32) (x1 : Int32) : Option (Int32) :=
  bnd (fX0_hasCell N va0_canal_cells x1) fun o1 =>
  if o1 = 0 then
  some ((-1))
  else
  ixb x1 12 fun κ4 =>
  some ((va0_canal_now_ice κ4))
set_option maxHeartbeats 4000000 in
set_option maxRecDepth 100000 in
theorem ctX7_ice (l : Launch) (E : Ev) (N : Nat) (a0 : Nat) (a0_canal : Nat) (a0_history : Nat) (a0_imageCanal : Nat) (a0_imageHistory : Nat) (a0_tape : Nat) (a0_foreteller : Nat) (a0_search : Nat) (a0_sheets : Nat) (a0_canal_kind : Nat) (a0_canal_weight : Nat) (a0_canal_now : Nat) (a0_canal_now_ice : Nat) (a0_canal_now_juice : Nat) (a0_canal_now_fors : Nat) (va0_hasImage : Int32) (va0_canal_cells : Int32) (va0_canal_people : Int32) (va0_canal_sayings : Int32) (va0_canal_frost : Int32) (va0_canal_now_boat : Int32) (va0_canal_now_minute : Int32) (va0_canal_now_draw : Int32) (va0_canal_now_ice : Nat → Int32) (x1 : Int32) (out : Int32) (hf : fX7_ice N va0_canal_cells va0_canal_now_ice x1 = some out) : Ct l E yX7_ice cX7_ice 2 (some .int) rmX7_ice [.ref a0, .int x1] [(a0, oB 7 [.ref a0_canal, .ref a0_history, .ref a0_imageCanal, .ref a0_imageHistory, .int va0_hasImage, .ref a0_tape, .ref a0_foreteller, .ref a0_search, .ref a0_sheets]), (a0_canal, oB 0 [.ref a0_canal_kind, .ref a0_canal_weight, .ref a0_canal_now, .int va0_canal_cells, .int va0_canal_people, .int va0_canal_sayings, .int va0_canal_frost]), (a0_canal_now, oB 3 [.ref a0_canal_now_ice, .ref a0_canal_now_juice, .ref a0_canal_now_fors, .int va0_canal_now_boat, .int va0_canal_now_minute, .int va0_canal_now_draw]), (a0_canal_now_ice, aI E 12 va0_canal_now_ice)] (Pe (some (.int out)) [(a0, oB 7 [.ref a0_canal, .ref a0_history, .ref a0_imageCanal, .ref a0_imageHistory, .int va0_hasImage, .ref a0_tape, .ref a0_foreteller, .ref a0_search, .ref a0_sheets]), (a0_canal, oB 0 [.ref a0_canal_kind, .ref a0_canal_weight, .ref a0_canal_now, .int va0_canal_cells, .int va0_canal_people, .int va0_canal_sayings, .int va0_canal_frost]), (a0_canal_now, oB 3 [.ref a0_canal_now_ice, .ref a0_canal_now_juice, .ref a0_canal_now_fors, .int va0_canal_now_boat, .int va0_canal_now_minute, .int va0_canal_now_draw]), (a0_canal_now_ice, aI E 12 va0_canal_now_ice)]) := by
  refine Ct.of rfl (Nat.le_of_ble_eq_true rfl) (fun K hL k r hin => ?_)
  subst hL
  unfold fX7_ice at hf
  show G E K 2 0 0 [(0, .ref a0), (1, .int x1)] [] [(a0, oB 7 [.ref a0_canal, .ref a0_history, .ref a0_imageCanal, .ref a0_imageHistory, .int va0_hasImage, .ref a0_tape, .ref a0_foreteller, .ref a0_search, .ref a0_sheets]), (a0_canal, oB 0 [.ref a0_canal_kind, .ref a0_canal_weight, .ref a0_canal_now, .int va0_canal_cells, .int va0_canal_people, .int va0_canal_sayings, .int va0_canal_frost]), (a0_canal_now, oB 3 [.ref a0_canal_now_ice, .ref a0_canal_now_juice, .ref a0_canal_now_fors, .int va0_canal_now_boat, .int va0_canal_now_minute, .int va0_canal_now_draw]), (a0_canal_now_ice, aI E 12 va0_canal_now_ice)] 0
  refine g_aload_n k 0 dX7_ice_0 rfl rfl ?_
  refine g_get k cfX7 0 0 dX7_ice_1 lkX7_10 (by decide) rfl rfl ?_
  refine g_iload_n k 1 dX7_ice_4 rfl rfl ?_
  obtain ⟨o1, ho2, hf⟩ := bnd_some hf
  refine g_cv k miX0_hasCell mvX0_hasCell (ctX0_hasCell (kL K) E N a0_canal a0_canal_kind a0_canal_weight a0_canal_now va0_canal_cells va0_canal_people va0_canal_sayings va0_canal_frost x1 o1 ho2) [1] 0 (ws' := [(a0, oB 7 [.ref a0_canal, .ref a0_history, .ref a0_imageCanal, .ref a0_imageHistory, .int va0_hasImage, .ref a0_tape, .ref a0_foreteller, .ref a0_search, .ref a0_sheets]), (a0_canal, oB 0 [.ref a0_canal_kind, .ref a0_canal_weight, .ref a0_canal_now, .int va0_canal_cells, .int va0_canal_people, .int va0_canal_sayings, .int va0_canal_frost]), (a0_canal_now, oB 3 [.ref a0_canal_now_ice, .ref a0_canal_now_juice, .ref a0_canal_now_fors, .int va0_canal_now_boat, .int va0_canal_now_minute, .int va0_canal_now_draw]), (a0_canal_now_ice, aI E 12 va0_canal_now_ice)]) dX7_ice_5 lkX7_93 rfl ⟨rfl, rfl⟩ ⟨by decide, by decide⟩ rfl rfl rfl rfl (Nat.le_of_ble_eq_true rfl) rfl rfl rfl ?_
  refine g_st (st' := [.int o1]) rfl ?_
  refine g_if_eq k (tgt := 26) dX7_ice_8 (by decide) (fun c3 => ?_) (fun c3 => ?_)
  · replace hf := ite_t c3 hf
    refine g_iconst k dX7_ice_26 ic_m1 ?_
    obtain rfl := Option.some.inj hf
    exact g_iret k r dX7_ice_27 ⟨rfl, rfl⟩
  · replace hf := ite_f c3 hf
    refine g_aload_n k 0 dX7_ice_11 rfl rfl ?_
    refine g_get k cfX7 0 0 dX7_ice_12 lkX7_10 (by decide) rfl rfl ?_
    refine g_get k cfX0 2 1 dX7_ice_15 lkX7_97 (by decide) rfl rfl ?_
    refine g_get k cfX3 0 2 dX7_ice_18 lkX7_101 (by decide) rfl rfl ?_
    refine g_iload_n k 1 dX7_ice_21 rfl rfl ?_
    obtain ⟨κ4, hκ4, hiκ4, heκ4, hf⟩ := ixb_some hf
    refine g_iaload k 3 dX7_ice_22 rfl hiκ4 heκ4 ?_
    refine g_goto k (tgt := 27) dX7_ice_23 (by decide) ?_
    obtain rfl := Option.some.inj hf
    exact g_iret k r dX7_ice_27 ⟨rfl, rfl⟩
abbrev rmX7_of : Room := { frames := 1, cells := 0, slots := 0, locals := 23 }
def fX7_of (N : Nat) (va0_canal_people : Int32) (va0_canal_sayings : Int32) (va0_canal_kind : Nat → Int32) (va0_canal_weight : Nat → Int32) (va0_canal_now_fors : Nat → Int32) (x1 : Int32) (x2 : Int32) : Option (Int32) :=
  bnd (fX0_hasPerson N va0_canal_people x1) fun o1 =>
  if o1 = 0 then
  some ((-1))
  else
  if x2 = 0 then
  ixb x1 6 fun κ5 =>
  some ((va0_canal_kind κ5))
  else
  if x2 = 1 then
  ixb x1 6 fun κ7 =>
  some ((va0_canal_weight κ7))
  else
  if x2 = 2 then
  bnd (fX0_sayingsFor N va0_canal_sayings va0_canal_now_fors x1) fun o9 =>
  some (o9)
  else
  some ((-1))
set_option maxHeartbeats 4000000 in
set_option maxRecDepth 100000 in
theorem ctX7_of (l : Launch) (E : Ev) (N : Nat) (a0 : Nat) (a0_canal : Nat) (a0_history : Nat) (a0_imageCanal : Nat) (a0_imageHistory : Nat) (a0_tape : Nat) (a0_foreteller : Nat) (a0_search : Nat) (a0_sheets : Nat) (a0_canal_kind : Nat) (a0_canal_weight : Nat) (a0_canal_now : Nat) (a0_canal_now_ice : Nat) (a0_canal_now_juice : Nat) (a0_canal_now_fors : Nat) (va0_hasImage : Int32) (va0_canal_cells : Int32) (va0_canal_people : Int32) (va0_canal_sayings : Int32) (va0_canal_frost : Int32) (va0_canal_kind : Nat → Int32) (va0_canal_weight : Nat → Int32) (va0_canal_now_boat : Int32) (va0_canal_now_minute : Int32) (va0_canal_now_draw : Int32) (va0_canal_now_fors : Nat → Int32) (x1 : Int32) (x2 : Int32) (out : Int32) (hf : fX7_of N va0_canal_people va0_canal_sayings va0_canal_kind va0_canal_weight va0_canal_now_fors x1 x2 = some out) : Ct l E yX7_of cX7_of 3 (some .int) rmX7_of [.ref a0, .int x1, .int x2] [(a0, oB 7 [.ref a0_canal, .ref a0_history, .ref a0_imageCanal, .ref a0_imageHistory, .int va0_hasImage, .ref a0_tape, .ref a0_foreteller, .ref a0_search, .ref a0_sheets]), (a0_canal, oB 0 [.ref a0_canal_kind, .ref a0_canal_weight, .ref a0_canal_now, .int va0_canal_cells, .int va0_canal_people, .int va0_canal_sayings, .int va0_canal_frost]), (a0_canal_kind, aI E 6 va0_canal_kind), (a0_canal_weight, aI E 6 va0_canal_weight), (a0_canal_now, oB 3 [.ref a0_canal_now_ice, .ref a0_canal_now_juice, .ref a0_canal_now_fors, .int va0_canal_now_boat, .int va0_canal_now_minute, .int va0_canal_now_draw]), (a0_canal_now_fors, aI E 5 va0_canal_now_fors)] (Pe (some (.int out)) [(a0, oB 7 [.ref a0_canal, .ref a0_history, .ref a0_imageCanal, .ref a0_imageHistory, .int va0_hasImage, .ref a0_tape, .ref a0_foreteller, .ref a0_search, .ref a0_sheets]), (a0_canal, oB 0 [.ref a0_canal_kind, .ref a0_canal_weight, .ref a0_canal_now, .int va0_canal_cells, .int va0_canal_people, .int va0_canal_sayings, .int va0_canal_frost]), (a0_canal_kind, aI E 6 va0_canal_kind), (a0_canal_weight, aI E 6 va0_canal_weight), (a0_canal_now, oB 3 [.ref a0_canal_now_ice, .ref a0_canal_now_juice, .ref a0_canal_now_fors, .int va0_canal_now_boat, .int va0_canal_now_minute, .int va0_canal_now_draw]), (a0_canal_now_fors, aI E 5 va0_canal_now_fors)]) := by
  refine Ct.of rfl (Nat.le_of_ble_eq_true rfl) (fun K hL k r hin => ?_)
  subst hL
  unfold fX7_of at hf
  show G E K 3 0 0 [(0, .ref a0), (1, .int x1), (2, .int x2)] [] [(a0, oB 7 [.ref a0_canal, .ref a0_history, .ref a0_imageCanal, .ref a0_imageHistory, .int va0_hasImage, .ref a0_tape, .ref a0_foreteller, .ref a0_search, .ref a0_sheets]), (a0_canal, oB 0 [.ref a0_canal_kind, .ref a0_canal_weight, .ref a0_canal_now, .int va0_canal_cells, .int va0_canal_people, .int va0_canal_sayings, .int va0_canal_frost]), (a0_canal_kind, aI E 6 va0_canal_kind), (a0_canal_weight, aI E 6 va0_canal_weight), (a0_canal_now, oB 3 [.ref a0_canal_now_ice, .ref a0_canal_now_juice, .ref a0_canal_now_fors, .int va0_canal_now_boat, .int va0_canal_now_minute, .int va0_canal_now_draw]), (a0_canal_now_fors, aI E 5 va0_canal_now_fors)] 0
  refine g_aload_n k 0 dX7_of_0 rfl rfl ?_
  refine g_get k cfX7 0 0 dX7_of_1 lkX7_10 (by decide) rfl rfl ?_
  refine g_iload_n k 1 dX7_of_4 rfl rfl ?_
  obtain ⟨o1, ho2, hf⟩ := bnd_some hf
  refine g_cv k miX0_hasPerson mvX0_hasPerson (ctX0_hasPerson (kL K) E N a0_canal a0_canal_kind a0_canal_weight a0_canal_now va0_canal_cells va0_canal_people va0_canal_sayings va0_canal_frost x1 o1 ho2) [1] 0 (ws' := [(a0, oB 7 [.ref a0_canal, .ref a0_history, .ref a0_imageCanal, .ref a0_imageHistory, .int va0_hasImage, .ref a0_tape, .ref a0_foreteller, .ref a0_search, .ref a0_sheets]), (a0_canal, oB 0 [.ref a0_canal_kind, .ref a0_canal_weight, .ref a0_canal_now, .int va0_canal_cells, .int va0_canal_people, .int va0_canal_sayings, .int va0_canal_frost]), (a0_canal_kind, aI E 6 va0_canal_kind), (a0_canal_weight, aI E 6 va0_canal_weight), (a0_canal_now, oB 3 [.ref a0_canal_now_ice, .ref a0_canal_now_juice, .ref a0_canal_now_fors, .int va0_canal_now_boat, .int va0_canal_now_minute, .int va0_canal_now_draw]), (a0_canal_now_fors, aI E 5 va0_canal_now_fors)]) dX7_of_5 lkX7_107 rfl ⟨rfl, rfl⟩ ⟨by decide, by decide⟩ rfl rfl rfl rfl (Nat.le_of_ble_eq_true rfl) rfl rfl rfl ?_
  refine g_st (st' := [.int o1]) rfl ?_
  refine g_if_ne k (tgt := 13) dX7_of_8 (by decide) (fun c3 => ?_) (fun c3 => ?_)
  · replace hf := ite_f c3 hf
    refine g_iload_n k 2 dX7_of_13 rfl rfl ?_
    by_cases c4 : x2 = 0
    · replace hf := ite_t c4 hf
      refine g_tabIn k (tgt := 40) dX7_of_14 (by rw [c4]; decide) (by rw [c4]; decide) (off := 26) (by rw [c4]; rfl) (by decide) ?_
      refine g_aload_n k 0 dX7_of_40 rfl rfl ?_
      refine g_get k cfX7 0 0 dX7_of_41 lkX7_10 (by decide) rfl rfl ?_
      refine g_get k cfX0 0 1 dX7_of_44 lkX7_110 (by decide) rfl rfl ?_
      refine g_iload_n k 1 dX7_of_47 rfl rfl ?_
      obtain ⟨κ5, hκ5, hiκ5, heκ5, hf⟩ := ixb_some hf
      refine g_iaload k 2 dX7_of_48 rfl hiκ5 heκ5 ?_
      obtain rfl := Option.some.inj hf
      exact g_iret k r dX7_of_49 ⟨rfl, rfl⟩
    replace hf := ite_f c4 hf
    by_cases c6 : x2 = 1
    · replace hf := ite_t c6 hf
      refine g_tabIn k (tgt := 50) dX7_of_14 (by rw [c6]; decide) (by rw [c6]; decide) (off := 36) (by rw [c6]; rfl) (by decide) ?_
      refine g_aload_n k 0 dX7_of_50 rfl rfl ?_
      refine g_get k cfX7 0 0 dX7_of_51 lkX7_10 (by decide) rfl rfl ?_
      refine g_get k cfX0 1 1 dX7_of_54 lkX7_113 (by decide) rfl rfl ?_
      refine g_iload_n k 1 dX7_of_57 rfl rfl ?_
      obtain ⟨κ7, hκ7, hiκ7, heκ7, hf⟩ := ixb_some hf
      refine g_iaload k 3 dX7_of_58 rfl hiκ7 heκ7 ?_
      obtain rfl := Option.some.inj hf
      exact g_iret k r dX7_of_59 ⟨rfl, rfl⟩
    replace hf := ite_f c6 hf
    by_cases c8 : x2 = 2
    · replace hf := ite_t c8 hf
      refine g_tabIn k (tgt := 60) dX7_of_14 (by rw [c8]; decide) (by rw [c8]; decide) (off := 46) (by rw [c8]; rfl) (by decide) ?_
      refine g_aload_n k 0 dX7_of_60 rfl rfl ?_
      refine g_get k cfX7 0 0 dX7_of_61 lkX7_10 (by decide) rfl rfl ?_
      refine g_iload_n k 1 dX7_of_64 rfl rfl ?_
      obtain ⟨o9, ho10, hf⟩ := bnd_some hf
      refine g_cv k miX0_sayingsFor mvX0_sayingsFor (ctX0_sayingsFor (kL K) E N a0_canal a0_canal_kind a0_canal_weight a0_canal_now a0_canal_now_ice a0_canal_now_juice a0_canal_now_fors va0_canal_cells va0_canal_people va0_canal_sayings va0_canal_frost va0_canal_now_boat va0_canal_now_minute va0_canal_now_draw va0_canal_now_fors x1 o9 ho10) [1, 4, 5] 0 (ws' := [(a0, oB 7 [.ref a0_canal, .ref a0_history, .ref a0_imageCanal, .ref a0_imageHistory, .int va0_hasImage, .ref a0_tape, .ref a0_foreteller, .ref a0_search, .ref a0_sheets]), (a0_canal, oB 0 [.ref a0_canal_kind, .ref a0_canal_weight, .ref a0_canal_now, .int va0_canal_cells, .int va0_canal_people, .int va0_canal_sayings, .int va0_canal_frost]), (a0_canal_kind, aI E 6 va0_canal_kind), (a0_canal_weight, aI E 6 va0_canal_weight), (a0_canal_now, oB 3 [.ref a0_canal_now_ice, .ref a0_canal_now_juice, .ref a0_canal_now_fors, .int va0_canal_now_boat, .int va0_canal_now_minute, .int va0_canal_now_draw]), (a0_canal_now_fors, aI E 5 va0_canal_now_fors)]) dX7_of_65 lkX7_116 rfl ⟨rfl, rfl⟩ ⟨by decide, by decide⟩ rfl rfl rfl rfl (Nat.le_of_ble_eq_true rfl) rfl rfl rfl ?_
      refine g_st (st' := [.int o9]) rfl ?_
      obtain rfl := Option.some.inj hf
      exact g_iret k r dX7_of_68 ⟨rfl, rfl⟩
    replace hf := ite_f c8 hf
    refine g_tabOut k (tgt := 69) dX7_of_14 (by have := lv_neT (k := 0) c4 (a := 0) (by decide); have := lv_neT (k := 1) c6 (a := 1) (by decide); have := lv_neT (k := 2) c8 (a := 2) (by decide); omega) (by decide) ?_
    refine g_iconst k dX7_of_69 ic_m1 ?_
    obtain rfl := Option.some.inj hf
    exact g_iret k r dX7_of_70 ⟨rfl, rfl⟩
  · replace hf := ite_t c3 hf
    refine g_iconst k dX7_of_11 ic_m1 ?_
    obtain rfl := Option.some.inj hf
    exact g_iret k r dX7_of_12 ⟨rfl, rfl⟩
abbrev rmX7_at : Room := { frames := 2, cells := 0, slots := 0, locals := 53 }
def fX7_at (N : Nat) (va0_canal_people : Int32) (va0_canal_sayings : Int32) (va0_canal_kind : Nat → Int32) (va0_canal_weight : Nat → Int32) (va0_canal_now_minute : Int32) (va0_canal_now_juice : Nat → Int32) (va0_canal_now_fors : Nat → Int32) (x1 : Int32) (x2 : Int32) : Option (Int32) :=
  bnd (fX0_hasSaying N va0_canal_sayings x1) fun o1 =>
  if o1 = 0 then
  some ((-1))
  else
  ixb x1 5 fun κ4 =>
  ixb x1 5 fun κ5 =>
  if x2 = 0 then
  some ((va0_canal_now_juice κ4))
  else
  if x2 = 1 then
  some ((va0_canal_now_fors κ5))
  else
  if x2 = 2 then
  bnd (fX3_isEven N va0_canal_now_minute) fun o9 =>
  bnd (fX0_sideRocks N va0_canal_people va0_canal_kind va0_canal_weight (va0_canal_now_fors κ5) (va0_canal_now_juice κ4) o9) fun o11 =>
  some (o11)
  else
  if x2 = 3 then
  bnd (fX0_everybody N va0_canal_people) fun o14 =>
  bnd (fX3_isEven N va0_canal_now_minute) fun o16 =>
  bnd (fX0_sideRocks N va0_canal_people va0_canal_kind va0_canal_weight (o14 &&& ((va0_canal_now_fors κ5) ^^^ (-1))) (va0_canal_now_juice κ4) o16) fun o18 =>
  some (o18)
  else
  some ((-1))
set_option maxHeartbeats 4000000 in
set_option maxRecDepth 100000 in
theorem ctX7_at (l : Launch) (E : Ev) (N : Nat) (a0 : Nat) (a0_canal : Nat) (a0_history : Nat) (a0_imageCanal : Nat) (a0_imageHistory : Nat) (a0_tape : Nat) (a0_foreteller : Nat) (a0_search : Nat) (a0_sheets : Nat) (a0_canal_kind : Nat) (a0_canal_weight : Nat) (a0_canal_now : Nat) (a0_canal_now_ice : Nat) (a0_canal_now_juice : Nat) (a0_canal_now_fors : Nat) (va0_hasImage : Int32) (va0_canal_cells : Int32) (va0_canal_people : Int32) (va0_canal_sayings : Int32) (va0_canal_frost : Int32) (va0_canal_kind : Nat → Int32) (va0_canal_weight : Nat → Int32) (va0_canal_now_boat : Int32) (va0_canal_now_minute : Int32) (va0_canal_now_draw : Int32) (va0_canal_now_juice : Nat → Int32) (va0_canal_now_fors : Nat → Int32) (x1 : Int32) (x2 : Int32) (out : Int32) (hf : fX7_at N va0_canal_people va0_canal_sayings va0_canal_kind va0_canal_weight va0_canal_now_minute va0_canal_now_juice va0_canal_now_fors x1 x2 = some out) : Ct l E yX7_at cX7_at 5 (some .int) rmX7_at [.ref a0, .int x1, .int x2] [(a0, oB 7 [.ref a0_canal, .ref a0_history, .ref a0_imageCanal, .ref a0_imageHistory, .int va0_hasImage, .ref a0_tape, .ref a0_foreteller, .ref a0_search, .ref a0_sheets]), (a0_canal, oB 0 [.ref a0_canal_kind, .ref a0_canal_weight, .ref a0_canal_now, .int va0_canal_cells, .int va0_canal_people, .int va0_canal_sayings, .int va0_canal_frost]), (a0_canal_kind, aI E 6 va0_canal_kind), (a0_canal_weight, aI E 6 va0_canal_weight), (a0_canal_now, oB 3 [.ref a0_canal_now_ice, .ref a0_canal_now_juice, .ref a0_canal_now_fors, .int va0_canal_now_boat, .int va0_canal_now_minute, .int va0_canal_now_draw]), (a0_canal_now_juice, aI E 5 va0_canal_now_juice), (a0_canal_now_fors, aI E 5 va0_canal_now_fors)] (Pe (some (.int out)) [(a0, oB 7 [.ref a0_canal, .ref a0_history, .ref a0_imageCanal, .ref a0_imageHistory, .int va0_hasImage, .ref a0_tape, .ref a0_foreteller, .ref a0_search, .ref a0_sheets]), (a0_canal, oB 0 [.ref a0_canal_kind, .ref a0_canal_weight, .ref a0_canal_now, .int va0_canal_cells, .int va0_canal_people, .int va0_canal_sayings, .int va0_canal_frost]), (a0_canal_kind, aI E 6 va0_canal_kind), (a0_canal_weight, aI E 6 va0_canal_weight), (a0_canal_now, oB 3 [.ref a0_canal_now_ice, .ref a0_canal_now_juice, .ref a0_canal_now_fors, .int va0_canal_now_boat, .int va0_canal_now_minute, .int va0_canal_now_draw]), (a0_canal_now_juice, aI E 5 va0_canal_now_juice), (a0_canal_now_fors, aI E 5 va0_canal_now_fors)]) := by
  refine Ct.of rfl (Nat.le_of_ble_eq_true rfl) (fun K hL k r hin => ?_)
  subst hL
  unfold fX7_at at hf
  show G E K 5 0 0 [(0, .ref a0), (1, .int x1), (2, .int x2)] [] [(a0, oB 7 [.ref a0_canal, .ref a0_history, .ref a0_imageCanal, .ref a0_imageHistory, .int va0_hasImage, .ref a0_tape, .ref a0_foreteller, .ref a0_search, .ref a0_sheets]), (a0_canal, oB 0 [.ref a0_canal_kind, .ref a0_canal_weight, .ref a0_canal_now, .int va0_canal_cells, .int va0_canal_people, .int va0_canal_sayings, .int va0_canal_frost]), (a0_canal_kind, aI E 6 va0_canal_kind), (a0_canal_weight, aI E 6 va0_canal_weight), (a0_canal_now, oB 3 [.ref a0_canal_now_ice, .ref a0_canal_now_juice, .ref a0_canal_now_fors, .int va0_canal_now_boat, .int va0_canal_now_minute, .int va0_canal_now_draw]), (a0_canal_now_juice, aI E 5 va0_canal_now_juice), (a0_canal_now_fors, aI E 5 va0_canal_now_fors)] 0
  refine g_aload_n k 0 dX7_at_0 rfl rfl ?_
  refine g_get k cfX7 0 0 dX7_at_1 lkX7_10 (by decide) rfl rfl ?_
  refine g_iload_n k 1 dX7_at_4 rfl rfl ?_
  obtain ⟨o1, ho2, hf⟩ := bnd_some hf
  refine g_cv k miX0_hasSaying mvX0_hasSaying (ctX0_hasSaying (kL K) E N a0_canal a0_canal_kind a0_canal_weight a0_canal_now va0_canal_cells va0_canal_people va0_canal_sayings va0_canal_frost x1 o1 ho2) [1] 0 (ws' := [(a0, oB 7 [.ref a0_canal, .ref a0_history, .ref a0_imageCanal, .ref a0_imageHistory, .int va0_hasImage, .ref a0_tape, .ref a0_foreteller, .ref a0_search, .ref a0_sheets]), (a0_canal, oB 0 [.ref a0_canal_kind, .ref a0_canal_weight, .ref a0_canal_now, .int va0_canal_cells, .int va0_canal_people, .int va0_canal_sayings, .int va0_canal_frost]), (a0_canal_kind, aI E 6 va0_canal_kind), (a0_canal_weight, aI E 6 va0_canal_weight), (a0_canal_now, oB 3 [.ref a0_canal_now_ice, .ref a0_canal_now_juice, .ref a0_canal_now_fors, .int va0_canal_now_boat, .int va0_canal_now_minute, .int va0_canal_now_draw]), (a0_canal_now_juice, aI E 5 va0_canal_now_juice), (a0_canal_now_fors, aI E 5 va0_canal_now_fors)]) dX7_at_5 lkX7_119 rfl ⟨rfl, rfl⟩ ⟨by decide, by decide⟩ rfl rfl rfl rfl (Nat.le_of_ble_eq_true rfl) rfl rfl rfl ?_
  refine g_st (st' := [.int o1]) rfl ?_
  refine g_if_ne k (tgt := 13) dX7_at_8 (by decide) (fun c3 => ?_) (fun c3 => ?_)
  · replace hf := ite_f c3 hf
    refine g_aload_n k 0 dX7_at_13 rfl rfl ?_
    refine g_get k cfX7 0 0 dX7_at_14 lkX7_10 (by decide) rfl rfl ?_
    refine g_get k cfX0 2 1 dX7_at_17 lkX7_97 (by decide) rfl rfl ?_
    refine g_get k cfX3 1 4 dX7_at_20 lkX7_122 (by decide) rfl rfl ?_
    refine g_iload_n k 1 dX7_at_23 rfl rfl ?_
    obtain ⟨κ4, hκ4, hiκ4, heκ4, hf⟩ := ixb_some hf
    refine g_iaload k 5 dX7_at_24 rfl hiκ4 heκ4 ?_
    refine g_istore_n k (lv' := [(3, .int (va0_canal_now_juice κ4)), (0, .ref a0), (1, .int x1), (2, .int x2)]) dX7_at_25 rfl (by decide) rfl ?_
    refine g_aload_n k 1 dX7_at_26 rfl rfl ?_
    refine g_get k cfX7 0 0 dX7_at_27 lkX7_10 (by decide) rfl rfl ?_
    refine g_get k cfX0 2 1 dX7_at_30 lkX7_97 (by decide) rfl rfl ?_
    refine g_get k cfX3 2 4 dX7_at_33 lkX7_125 (by decide) rfl rfl ?_
    refine g_iload_n k 2 dX7_at_36 rfl rfl ?_
    obtain ⟨κ5, hκ5, hiκ5, heκ5, hf⟩ := ixb_some hf
    refine g_iaload k 6 dX7_at_37 rfl hiκ5 heκ5 ?_
    refine g_istore k (lv' := [(4, .int (va0_canal_now_fors κ5)), (3, .int (va0_canal_now_juice κ4)), (0, .ref a0), (1, .int x1), (2, .int x2)]) dX7_at_38 (by decide) rfl ?_
    refine g_iload_n k 4 dX7_at_40 rfl rfl ?_
    by_cases c6 : x2 = 0
    · replace hf := ite_t c6 hf
      refine g_tabIn k (tgt := 72) dX7_at_41 (by rw [c6]; decide) (by rw [c6]; decide) (off := 31) (by rw [c6]; rfl) (by decide) ?_
      refine g_iload_n k 1 dX7_at_72 rfl rfl ?_
      obtain rfl := Option.some.inj hf
      exact g_iret k r dX7_at_73 ⟨rfl, rfl⟩
    replace hf := ite_f c6 hf
    by_cases c7 : x2 = 1
    · replace hf := ite_t c7 hf
      refine g_tabIn k (tgt := 74) dX7_at_41 (by rw [c7]; decide) (by rw [c7]; decide) (off := 33) (by rw [c7]; rfl) (by decide) ?_
      refine g_iload k 0 dX7_at_74 rfl ?_
      obtain rfl := Option.some.inj hf
      exact g_iret k r dX7_at_76 ⟨rfl, rfl⟩
    replace hf := ite_f c7 hf
    by_cases c8 : x2 = 2
    · replace hf := ite_t c8 hf
      refine g_tabIn k (tgt := 77) dX7_at_41 (by rw [c8]; decide) (by rw [c8]; decide) (off := 36) (by rw [c8]; rfl) (by decide) ?_
      refine g_aload_n k 2 dX7_at_77 rfl rfl ?_
      refine g_get k cfX7 0 0 dX7_at_78 lkX7_10 (by decide) rfl rfl ?_
      refine g_iload k 0 dX7_at_81 rfl ?_
      refine g_iload_n k 1 dX7_at_83 rfl rfl ?_
      refine g_aload_n k 2 dX7_at_84 rfl rfl ?_
      refine g_get k cfX7 0 0 dX7_at_85 lkX7_10 (by decide) rfl rfl ?_
      refine g_get k cfX0 2 1 dX7_at_88 lkX7_97 (by decide) rfl rfl ?_
      obtain ⟨o9, ho10, hf⟩ := bnd_some hf
      refine g_cv k miX3_isEven mvX3_isEven (ctX3_isEven (kL K) E N a0_canal_now a0_canal_now_ice a0_canal_now_juice a0_canal_now_fors va0_canal_now_boat va0_canal_now_minute va0_canal_now_draw  o9 ho10) [4] 0 (ws' := [(a0, oB 7 [.ref a0_canal, .ref a0_history, .ref a0_imageCanal, .ref a0_imageHistory, .int va0_hasImage, .ref a0_tape, .ref a0_foreteller, .ref a0_search, .ref a0_sheets]), (a0_canal, oB 0 [.ref a0_canal_kind, .ref a0_canal_weight, .ref a0_canal_now, .int va0_canal_cells, .int va0_canal_people, .int va0_canal_sayings, .int va0_canal_frost]), (a0_canal_kind, aI E 6 va0_canal_kind), (a0_canal_weight, aI E 6 va0_canal_weight), (a0_canal_now, oB 3 [.ref a0_canal_now_ice, .ref a0_canal_now_juice, .ref a0_canal_now_fors, .int va0_canal_now_boat, .int va0_canal_now_minute, .int va0_canal_now_draw]), (a0_canal_now_juice, aI E 5 va0_canal_now_juice), (a0_canal_now_fors, aI E 5 va0_canal_now_fors)]) dX7_at_91 lkX7_128 rfl ⟨rfl, rfl⟩ ⟨by decide, by decide⟩ rfl rfl rfl rfl (Nat.le_of_ble_eq_true rfl) rfl rfl rfl ?_
      refine g_st (st' := [.int o9, .int (va0_canal_now_juice κ4), .int (va0_canal_now_fors κ5), .ref a0_canal]) rfl ?_
      obtain ⟨o11, ho12, hf⟩ := bnd_some hf
      refine g_cv k miX0_sideRocks mvX0_sideRocks (ctX0_sideRocks (kL K) E N a0_canal a0_canal_kind a0_canal_weight a0_canal_now va0_canal_cells va0_canal_people va0_canal_sayings va0_canal_frost va0_canal_kind va0_canal_weight (va0_canal_now_fors κ5) (va0_canal_now_juice κ4) o9 o11 ho12) [1, 2, 3] 0 (ws' := [(a0, oB 7 [.ref a0_canal, .ref a0_history, .ref a0_imageCanal, .ref a0_imageHistory, .int va0_hasImage, .ref a0_tape, .ref a0_foreteller, .ref a0_search, .ref a0_sheets]), (a0_canal, oB 0 [.ref a0_canal_kind, .ref a0_canal_weight, .ref a0_canal_now, .int va0_canal_cells, .int va0_canal_people, .int va0_canal_sayings, .int va0_canal_frost]), (a0_canal_kind, aI E 6 va0_canal_kind), (a0_canal_weight, aI E 6 va0_canal_weight), (a0_canal_now, oB 3 [.ref a0_canal_now_ice, .ref a0_canal_now_juice, .ref a0_canal_now_fors, .int va0_canal_now_boat, .int va0_canal_now_minute, .int va0_canal_now_draw]), (a0_canal_now_juice, aI E 5 va0_canal_now_juice), (a0_canal_now_fors, aI E 5 va0_canal_now_fors)]) dX7_at_94 lkX7_132 rfl ⟨rfl, rfl⟩ ⟨by decide, by decide⟩ rfl rfl rfl rfl (Nat.le_of_ble_eq_true rfl) rfl rfl rfl ?_
      refine g_st (st' := [.int o11]) rfl ?_
      obtain rfl := Option.some.inj hf
      exact g_iret k r dX7_at_97 ⟨rfl, rfl⟩
    replace hf := ite_f c8 hf
    by_cases c13 : x2 = 3
    · replace hf := ite_t c13 hf
      refine g_tabIn k (tgt := 98) dX7_at_41 (by rw [c13]; decide) (by rw [c13]; decide) (off := 57) (by rw [c13]; rfl) (by decide) ?_
      refine g_aload_n k 2 dX7_at_98 rfl rfl ?_
      refine g_get k cfX7 0 0 dX7_at_99 lkX7_10 (by decide) rfl rfl ?_
      refine g_aload_n k 2 dX7_at_102 rfl rfl ?_
      refine g_get k cfX7 0 0 dX7_at_103 lkX7_10 (by decide) rfl rfl ?_
      obtain ⟨o14, ho15, hf⟩ := bnd_some hf
      refine g_cv k miX0_everybody mvX0_everybody (ctX0_everybody (kL K) E N a0_canal a0_canal_kind a0_canal_weight a0_canal_now va0_canal_cells va0_canal_people va0_canal_sayings va0_canal_frost  o14 ho15) [1] 0 (ws' := [(a0, oB 7 [.ref a0_canal, .ref a0_history, .ref a0_imageCanal, .ref a0_imageHistory, .int va0_hasImage, .ref a0_tape, .ref a0_foreteller, .ref a0_search, .ref a0_sheets]), (a0_canal, oB 0 [.ref a0_canal_kind, .ref a0_canal_weight, .ref a0_canal_now, .int va0_canal_cells, .int va0_canal_people, .int va0_canal_sayings, .int va0_canal_frost]), (a0_canal_kind, aI E 6 va0_canal_kind), (a0_canal_weight, aI E 6 va0_canal_weight), (a0_canal_now, oB 3 [.ref a0_canal_now_ice, .ref a0_canal_now_juice, .ref a0_canal_now_fors, .int va0_canal_now_boat, .int va0_canal_now_minute, .int va0_canal_now_draw]), (a0_canal_now_juice, aI E 5 va0_canal_now_juice), (a0_canal_now_fors, aI E 5 va0_canal_now_fors)]) dX7_at_106 lkX7_83 rfl ⟨rfl, rfl⟩ ⟨by decide, by decide⟩ rfl rfl rfl rfl (Nat.le_of_ble_eq_true rfl) rfl rfl rfl ?_
      refine g_st (st' := [.int o14, .ref a0_canal]) rfl ?_
      refine g_iload k 0 dX7_at_109 rfl ?_
      refine g_iconst k dX7_at_111 ic_m1 ?_
      refine g_ixor k dX7_at_112 ?_
      refine g_iand k dX7_at_113 ?_
      refine g_iload_n k 1 dX7_at_114 rfl rfl ?_
      refine g_aload_n k 2 dX7_at_115 rfl rfl ?_
      refine g_get k cfX7 0 0 dX7_at_116 lkX7_10 (by decide) rfl rfl ?_
      refine g_get k cfX0 2 1 dX7_at_119 lkX7_97 (by decide) rfl rfl ?_
      obtain ⟨o16, ho17, hf⟩ := bnd_some hf
      refine g_cv k miX3_isEven mvX3_isEven (ctX3_isEven (kL K) E N a0_canal_now a0_canal_now_ice a0_canal_now_juice a0_canal_now_fors va0_canal_now_boat va0_canal_now_minute va0_canal_now_draw  o16 ho17) [4] 0 (ws' := [(a0, oB 7 [.ref a0_canal, .ref a0_history, .ref a0_imageCanal, .ref a0_imageHistory, .int va0_hasImage, .ref a0_tape, .ref a0_foreteller, .ref a0_search, .ref a0_sheets]), (a0_canal, oB 0 [.ref a0_canal_kind, .ref a0_canal_weight, .ref a0_canal_now, .int va0_canal_cells, .int va0_canal_people, .int va0_canal_sayings, .int va0_canal_frost]), (a0_canal_kind, aI E 6 va0_canal_kind), (a0_canal_weight, aI E 6 va0_canal_weight), (a0_canal_now, oB 3 [.ref a0_canal_now_ice, .ref a0_canal_now_juice, .ref a0_canal_now_fors, .int va0_canal_now_boat, .int va0_canal_now_minute, .int va0_canal_now_draw]), (a0_canal_now_juice, aI E 5 va0_canal_now_juice), (a0_canal_now_fors, aI E 5 va0_canal_now_fors)]) dX7_at_122 lkX7_128 rfl ⟨rfl, rfl⟩ ⟨by decide, by decide⟩ rfl rfl rfl rfl (Nat.le_of_ble_eq_true rfl) rfl rfl rfl ?_
      refine g_st (st' := [.int o16, .int (va0_canal_now_juice κ4), .int (o14 &&& ((va0_canal_now_fors κ5) ^^^ (-1))), .ref a0_canal]) rfl ?_
      obtain ⟨o18, ho19, hf⟩ := bnd_some hf
      refine g_cv k miX0_sideRocks mvX0_sideRocks (ctX0_sideRocks (kL K) E N a0_canal a0_canal_kind a0_canal_weight a0_canal_now va0_canal_cells va0_canal_people va0_canal_sayings va0_canal_frost va0_canal_kind va0_canal_weight (o14 &&& ((va0_canal_now_fors κ5) ^^^ (-1))) (va0_canal_now_juice κ4) o16 o18 ho19) [1, 2, 3] 0 (ws' := [(a0, oB 7 [.ref a0_canal, .ref a0_history, .ref a0_imageCanal, .ref a0_imageHistory, .int va0_hasImage, .ref a0_tape, .ref a0_foreteller, .ref a0_search, .ref a0_sheets]), (a0_canal, oB 0 [.ref a0_canal_kind, .ref a0_canal_weight, .ref a0_canal_now, .int va0_canal_cells, .int va0_canal_people, .int va0_canal_sayings, .int va0_canal_frost]), (a0_canal_kind, aI E 6 va0_canal_kind), (a0_canal_weight, aI E 6 va0_canal_weight), (a0_canal_now, oB 3 [.ref a0_canal_now_ice, .ref a0_canal_now_juice, .ref a0_canal_now_fors, .int va0_canal_now_boat, .int va0_canal_now_minute, .int va0_canal_now_draw]), (a0_canal_now_juice, aI E 5 va0_canal_now_juice), (a0_canal_now_fors, aI E 5 va0_canal_now_fors)]) dX7_at_125 lkX7_132 rfl ⟨rfl, rfl⟩ ⟨by decide, by decide⟩ rfl rfl rfl rfl (Nat.le_of_ble_eq_true rfl) rfl rfl rfl ?_
      refine g_st (st' := [.int o18]) rfl ?_
      obtain rfl := Option.some.inj hf
      exact g_iret k r dX7_at_128 ⟨rfl, rfl⟩
    replace hf := ite_f c13 hf
    refine g_tabOut k (tgt := 129) dX7_at_41 (by have := lv_neT (k := 0) c6 (a := 0) (by decide); have := lv_neT (k := 1) c7 (a := 1) (by decide); have := lv_neT (k := 2) c8 (a := 2) (by decide); have := lv_neT (k := 3) c13 (a := 3) (by decide); omega) (by decide) ?_
    refine g_iconst k dX7_at_129 ic_m1 ?_
    obtain rfl := Option.some.inj hf
    exact g_iret k r dX7_at_130 ⟨rfl, rfl⟩
  · replace hf := ite_t c3 hf
    refine g_iconst k dX7_at_11 ic_m1 ?_
    obtain rfl := Option.some.inj hf
    exact g_iret k r dX7_at_12 ⟨rfl, rfl⟩
abbrev rmX7_rocks : Room := { frames := 2, cells := 0, slots := 0, locals := 43 }
def fX7_rocks (N : Nat) (va0_canal_people : Int32) (va0_canal_sayings : Int32) (va0_canal_kind : Nat → Int32) (va0_canal_weight : Nat → Int32) (va0_canal_now_minute : Int32) (va0_canal_now_juice : Nat → Int32) (va0_canal_now_fors : Nat → Int32) (x1 : Int32) (x2 : Int32) : Option (Int32) :=
  bnd (fX0_hasPerson N va0_canal_people x1) fun o1 =>
  if o1 = 0 then
  some ((-1))
  else
  bnd (fX0_hasSaying N va0_canal_sayings x2) fun o4 =>
  if o4 = 0 then
  some ((-1))
  else
  bnd (fX0_sideOf N va0_canal_people va0_canal_now_fors x1 x2) fun o7 =>
  if o7 = (1 <<< (x1 &&& 31)) then
  ixb x2 5 fun κ15 =>
  bnd (fX3_isEven N va0_canal_now_minute) fun o16 =>
  bnd (fX0_personRocks N va0_canal_kind va0_canal_weight x1 (va0_canal_now_juice κ15) 1 o16) fun o18 =>
  some (o18)
  else
  ixb x2 5 fun κ10 =>
  bnd (fX3_isEven N va0_canal_now_minute) fun o11 =>
  bnd (fX0_personRocks N va0_canal_kind va0_canal_weight x1 (va0_canal_now_juice κ10) 0 o11) fun o13 =>
  some (o13)
set_option maxHeartbeats 4000000 in
set_option maxRecDepth 100000 in
theorem ctX7_rocks (l : Launch) (E : Ev) (N : Nat) (a0 : Nat) (a0_canal : Nat) (a0_history : Nat) (a0_imageCanal : Nat) (a0_imageHistory : Nat) (a0_tape : Nat) (a0_foreteller : Nat) (a0_search : Nat) (a0_sheets : Nat) (a0_canal_kind : Nat) (a0_canal_weight : Nat) (a0_canal_now : Nat) (a0_canal_now_ice : Nat) (a0_canal_now_juice : Nat) (a0_canal_now_fors : Nat) (va0_hasImage : Int32) (va0_canal_cells : Int32) (va0_canal_people : Int32) (va0_canal_sayings : Int32) (va0_canal_frost : Int32) (va0_canal_kind : Nat → Int32) (va0_canal_weight : Nat → Int32) (va0_canal_now_boat : Int32) (va0_canal_now_minute : Int32) (va0_canal_now_draw : Int32) (va0_canal_now_juice : Nat → Int32) (va0_canal_now_fors : Nat → Int32) (x1 : Int32) (x2 : Int32) (out : Int32) (hf : fX7_rocks N va0_canal_people va0_canal_sayings va0_canal_kind va0_canal_weight va0_canal_now_minute va0_canal_now_juice va0_canal_now_fors x1 x2 = some out) : Ct l E yX7_rocks cX7_rocks 4 (some .int) rmX7_rocks [.ref a0, .int x1, .int x2] [(a0, oB 7 [.ref a0_canal, .ref a0_history, .ref a0_imageCanal, .ref a0_imageHistory, .int va0_hasImage, .ref a0_tape, .ref a0_foreteller, .ref a0_search, .ref a0_sheets]), (a0_canal, oB 0 [.ref a0_canal_kind, .ref a0_canal_weight, .ref a0_canal_now, .int va0_canal_cells, .int va0_canal_people, .int va0_canal_sayings, .int va0_canal_frost]), (a0_canal_kind, aI E 6 va0_canal_kind), (a0_canal_weight, aI E 6 va0_canal_weight), (a0_canal_now, oB 3 [.ref a0_canal_now_ice, .ref a0_canal_now_juice, .ref a0_canal_now_fors, .int va0_canal_now_boat, .int va0_canal_now_minute, .int va0_canal_now_draw]), (a0_canal_now_juice, aI E 5 va0_canal_now_juice), (a0_canal_now_fors, aI E 5 va0_canal_now_fors)] (Pe (some (.int out)) [(a0, oB 7 [.ref a0_canal, .ref a0_history, .ref a0_imageCanal, .ref a0_imageHistory, .int va0_hasImage, .ref a0_tape, .ref a0_foreteller, .ref a0_search, .ref a0_sheets]), (a0_canal, oB 0 [.ref a0_canal_kind, .ref a0_canal_weight, .ref a0_canal_now, .int va0_canal_cells, .int va0_canal_people, .int va0_canal_sayings, .int va0_canal_frost]), (a0_canal_kind, aI E 6 va0_canal_kind), (a0_canal_weight, aI E 6 va0_canal_weight), (a0_canal_now, oB 3 [.ref a0_canal_now_ice, .ref a0_canal_now_juice, .ref a0_canal_now_fors, .int va0_canal_now_boat, .int va0_canal_now_minute, .int va0_canal_now_draw]), (a0_canal_now_juice, aI E 5 va0_canal_now_juice), (a0_canal_now_fors, aI E 5 va0_canal_now_fors)]) := by
  refine Ct.of rfl (Nat.le_of_ble_eq_true rfl) (fun K hL k r hin => ?_)
  subst hL
  unfold fX7_rocks at hf
  show G E K 4 0 0 [(0, .ref a0), (1, .int x1), (2, .int x2)] [] [(a0, oB 7 [.ref a0_canal, .ref a0_history, .ref a0_imageCanal, .ref a0_imageHistory, .int va0_hasImage, .ref a0_tape, .ref a0_foreteller, .ref a0_search, .ref a0_sheets]), (a0_canal, oB 0 [.ref a0_canal_kind, .ref a0_canal_weight, .ref a0_canal_now, .int va0_canal_cells, .int va0_canal_people, .int va0_canal_sayings, .int va0_canal_frost]), (a0_canal_kind, aI E 6 va0_canal_kind), (a0_canal_weight, aI E 6 va0_canal_weight), (a0_canal_now, oB 3 [.ref a0_canal_now_ice, .ref a0_canal_now_juice, .ref a0_canal_now_fors, .int va0_canal_now_boat, .int va0_canal_now_minute, .int va0_canal_now_draw]), (a0_canal_now_juice, aI E 5 va0_canal_now_juice), (a0_canal_now_fors, aI E 5 va0_canal_now_fors)] 0
  refine g_aload_n k 0 dX7_rocks_0 rfl rfl ?_
  refine g_get k cfX7 0 0 dX7_rocks_1 lkX7_10 (by decide) rfl rfl ?_
  refine g_iload_n k 1 dX7_rocks_4 rfl rfl ?_
  obtain ⟨o1, ho2, hf⟩ := bnd_some hf
  refine g_cv k miX0_hasPerson mvX0_hasPerson (ctX0_hasPerson (kL K) E N a0_canal a0_canal_kind a0_canal_weight a0_canal_now va0_canal_cells va0_canal_people va0_canal_sayings va0_canal_frost x1 o1 ho2) [1] 0 (ws' := [(a0, oB 7 [.ref a0_canal, .ref a0_history, .ref a0_imageCanal, .ref a0_imageHistory, .int va0_hasImage, .ref a0_tape, .ref a0_foreteller, .ref a0_search, .ref a0_sheets]), (a0_canal, oB 0 [.ref a0_canal_kind, .ref a0_canal_weight, .ref a0_canal_now, .int va0_canal_cells, .int va0_canal_people, .int va0_canal_sayings, .int va0_canal_frost]), (a0_canal_kind, aI E 6 va0_canal_kind), (a0_canal_weight, aI E 6 va0_canal_weight), (a0_canal_now, oB 3 [.ref a0_canal_now_ice, .ref a0_canal_now_juice, .ref a0_canal_now_fors, .int va0_canal_now_boat, .int va0_canal_now_minute, .int va0_canal_now_draw]), (a0_canal_now_juice, aI E 5 va0_canal_now_juice), (a0_canal_now_fors, aI E 5 va0_canal_now_fors)]) dX7_rocks_5 lkX7_107 rfl ⟨rfl, rfl⟩ ⟨by decide, by decide⟩ rfl rfl rfl rfl (Nat.le_of_ble_eq_true rfl) rfl rfl rfl ?_
  refine g_st (st' := [.int o1]) rfl ?_
  refine g_if_eq k (tgt := 22) dX7_rocks_8 (by decide) (fun c3 => ?_) (fun c3 => ?_)
  · replace hf := ite_t c3 hf
    refine g_iconst k dX7_rocks_22 ic_m1 ?_
    obtain rfl := Option.some.inj hf
    exact g_iret k r dX7_rocks_23 ⟨rfl, rfl⟩
  · replace hf := ite_f c3 hf
    refine g_aload_n k 0 dX7_rocks_11 rfl rfl ?_
    refine g_get k cfX7 0 0 dX7_rocks_12 lkX7_10 (by decide) rfl rfl ?_
    refine g_iload_n k 2 dX7_rocks_15 rfl rfl ?_
    obtain ⟨o4, ho5, hf⟩ := bnd_some hf
    refine g_cv k miX0_hasSaying mvX0_hasSaying (ctX0_hasSaying (kL K) E N a0_canal a0_canal_kind a0_canal_weight a0_canal_now va0_canal_cells va0_canal_people va0_canal_sayings va0_canal_frost x2 o4 ho5) [1] 0 (ws' := [(a0, oB 7 [.ref a0_canal, .ref a0_history, .ref a0_imageCanal, .ref a0_imageHistory, .int va0_hasImage, .ref a0_tape, .ref a0_foreteller, .ref a0_search, .ref a0_sheets]), (a0_canal, oB 0 [.ref a0_canal_kind, .ref a0_canal_weight, .ref a0_canal_now, .int va0_canal_cells, .int va0_canal_people, .int va0_canal_sayings, .int va0_canal_frost]), (a0_canal_kind, aI E 6 va0_canal_kind), (a0_canal_weight, aI E 6 va0_canal_weight), (a0_canal_now, oB 3 [.ref a0_canal_now_ice, .ref a0_canal_now_juice, .ref a0_canal_now_fors, .int va0_canal_now_boat, .int va0_canal_now_minute, .int va0_canal_now_draw]), (a0_canal_now_juice, aI E 5 va0_canal_now_juice), (a0_canal_now_fors, aI E 5 va0_canal_now_fors)]) dX7_rocks_16 lkX7_119 rfl ⟨rfl, rfl⟩ ⟨by decide, by decide⟩ rfl rfl rfl rfl (Nat.le_of_ble_eq_true rfl) rfl rfl rfl ?_
    refine g_st (st' := [.int o4]) rfl ?_
    refine g_if_ne k (tgt := 24) dX7_rocks_19 (by decide) (fun c6 => ?_) (fun c6 => ?_)
    · replace hf := ite_f c6 hf
      refine g_aload_n k 0 dX7_rocks_24 rfl rfl ?_
      refine g_get k cfX7 0 0 dX7_rocks_25 lkX7_10 (by decide) rfl rfl ?_
      refine g_iload_n k 1 dX7_rocks_28 rfl rfl ?_
      refine g_iload_n k 2 dX7_rocks_29 rfl rfl ?_
      obtain ⟨o7, ho8, hf⟩ := bnd_some hf
      refine g_cv k miX0_sideOf mvX0_sideOf (ctX0_sideOf (kL K) E N a0_canal a0_canal_kind a0_canal_weight a0_canal_now a0_canal_now_ice a0_canal_now_juice a0_canal_now_fors va0_canal_cells va0_canal_people va0_canal_sayings va0_canal_frost va0_canal_now_boat va0_canal_now_minute va0_canal_now_draw va0_canal_now_fors x1 x2 o7 ho8) [1, 4, 6] 0 (ws' := [(a0, oB 7 [.ref a0_canal, .ref a0_history, .ref a0_imageCanal, .ref a0_imageHistory, .int va0_hasImage, .ref a0_tape, .ref a0_foreteller, .ref a0_search, .ref a0_sheets]), (a0_canal, oB 0 [.ref a0_canal_kind, .ref a0_canal_weight, .ref a0_canal_now, .int va0_canal_cells, .int va0_canal_people, .int va0_canal_sayings, .int va0_canal_frost]), (a0_canal_kind, aI E 6 va0_canal_kind), (a0_canal_weight, aI E 6 va0_canal_weight), (a0_canal_now, oB 3 [.ref a0_canal_now_ice, .ref a0_canal_now_juice, .ref a0_canal_now_fors, .int va0_canal_now_boat, .int va0_canal_now_minute, .int va0_canal_now_draw]), (a0_canal_now_juice, aI E 5 va0_canal_now_juice), (a0_canal_now_fors, aI E 5 va0_canal_now_fors)]) dX7_rocks_30 lkX7_136 rfl ⟨rfl, rfl⟩ ⟨by decide, by decide⟩ rfl rfl rfl rfl (Nat.le_of_ble_eq_true rfl) rfl rfl rfl ?_
      refine g_st (st' := [.int o7]) rfl ?_
      refine g_iconst k dX7_rocks_33 ic_1 ?_
      refine g_iload_n k 1 dX7_rocks_34 rfl rfl ?_
      refine g_ishl k dX7_rocks_35 ?_
      refine g_icmp_ne k (tgt := 43) dX7_rocks_36 (by decide) (fun c9 => ?_) (fun c9 => ?_)
      · replace hf := ite_f c9 hf
        refine g_iconst k dX7_rocks_43 ic_0 ?_
        refine g_istore_n k (lv' := [(3, .int 0), (0, .ref a0), (1, .int x1), (2, .int x2)]) dX7_rocks_44 rfl (by decide) rfl ?_
        refine g_aload_n k 1 dX7_rocks_45 rfl rfl ?_
        refine g_get k cfX7 0 0 dX7_rocks_46 lkX7_10 (by decide) rfl rfl ?_
        refine g_iload_n k 2 dX7_rocks_49 rfl rfl ?_
        refine g_aload_n k 1 dX7_rocks_50 rfl rfl ?_
        refine g_get k cfX7 0 0 dX7_rocks_51 lkX7_10 (by decide) rfl rfl ?_
        refine g_get k cfX0 2 1 dX7_rocks_54 lkX7_97 (by decide) rfl rfl ?_
        refine g_get k cfX3 1 4 dX7_rocks_57 lkX7_122 (by decide) rfl rfl ?_
        refine g_iload_n k 3 dX7_rocks_60 rfl rfl ?_
        obtain ⟨κ10, hκ10, hiκ10, heκ10, hf⟩ := ixb_some hf
        refine g_iaload k 5 dX7_rocks_61 rfl hiκ10 heκ10 ?_
        refine g_iload_n k 0 dX7_rocks_62 rfl rfl ?_
        refine g_aload_n k 1 dX7_rocks_63 rfl rfl ?_
        refine g_get k cfX7 0 0 dX7_rocks_64 lkX7_10 (by decide) rfl rfl ?_
        refine g_get k cfX0 2 1 dX7_rocks_67 lkX7_97 (by decide) rfl rfl ?_
        obtain ⟨o11, ho12, hf⟩ := bnd_some hf
        refine g_cv k miX3_isEven mvX3_isEven (ctX3_isEven (kL K) E N a0_canal_now a0_canal_now_ice a0_canal_now_juice a0_canal_now_fors va0_canal_now_boat va0_canal_now_minute va0_canal_now_draw  o11 ho12) [4] 0 (ws' := [(a0, oB 7 [.ref a0_canal, .ref a0_history, .ref a0_imageCanal, .ref a0_imageHistory, .int va0_hasImage, .ref a0_tape, .ref a0_foreteller, .ref a0_search, .ref a0_sheets]), (a0_canal, oB 0 [.ref a0_canal_kind, .ref a0_canal_weight, .ref a0_canal_now, .int va0_canal_cells, .int va0_canal_people, .int va0_canal_sayings, .int va0_canal_frost]), (a0_canal_kind, aI E 6 va0_canal_kind), (a0_canal_weight, aI E 6 va0_canal_weight), (a0_canal_now, oB 3 [.ref a0_canal_now_ice, .ref a0_canal_now_juice, .ref a0_canal_now_fors, .int va0_canal_now_boat, .int va0_canal_now_minute, .int va0_canal_now_draw]), (a0_canal_now_juice, aI E 5 va0_canal_now_juice), (a0_canal_now_fors, aI E 5 va0_canal_now_fors)]) dX7_rocks_70 lkX7_128 rfl ⟨rfl, rfl⟩ ⟨by decide, by decide⟩ rfl rfl rfl rfl (Nat.le_of_ble_eq_true rfl) rfl rfl rfl ?_
        refine g_st (st' := [.int o11, .int 0, .int (va0_canal_now_juice κ10), .int x1, .ref a0_canal]) rfl ?_
        obtain ⟨o13, ho14, hf⟩ := bnd_some hf
        refine g_cv k miX0_personRocks mvX0_personRocks (ctX0_personRocks (kL K) E N a0_canal a0_canal_kind a0_canal_weight a0_canal_now va0_canal_cells va0_canal_people va0_canal_sayings va0_canal_frost va0_canal_kind va0_canal_weight x1 (va0_canal_now_juice κ10) 0 o11 o13 ho14) [1, 2, 3] 0 (ws' := [(a0, oB 7 [.ref a0_canal, .ref a0_history, .ref a0_imageCanal, .ref a0_imageHistory, .int va0_hasImage, .ref a0_tape, .ref a0_foreteller, .ref a0_search, .ref a0_sheets]), (a0_canal, oB 0 [.ref a0_canal_kind, .ref a0_canal_weight, .ref a0_canal_now, .int va0_canal_cells, .int va0_canal_people, .int va0_canal_sayings, .int va0_canal_frost]), (a0_canal_kind, aI E 6 va0_canal_kind), (a0_canal_weight, aI E 6 va0_canal_weight), (a0_canal_now, oB 3 [.ref a0_canal_now_ice, .ref a0_canal_now_juice, .ref a0_canal_now_fors, .int va0_canal_now_boat, .int va0_canal_now_minute, .int va0_canal_now_draw]), (a0_canal_now_juice, aI E 5 va0_canal_now_juice), (a0_canal_now_fors, aI E 5 va0_canal_now_fors)]) dX7_rocks_73 lkX7_139 rfl ⟨rfl, rfl⟩ ⟨by decide, by decide⟩ rfl rfl rfl rfl (Nat.le_of_ble_eq_true rfl) rfl rfl rfl ?_
        refine g_st (st' := [.int o13]) rfl ?_
        obtain rfl := Option.some.inj hf
        exact g_iret k r dX7_rocks_76 ⟨rfl, rfl⟩
      · replace hf := ite_t c9 hf
        refine g_iconst k dX7_rocks_39 ic_1 ?_
        refine g_goto k (tgt := 44) dX7_rocks_40 (by decide) ?_
        refine g_istore_n k (lv' := [(3, .int 1), (0, .ref a0), (1, .int x1), (2, .int x2)]) dX7_rocks_44 rfl (by decide) rfl ?_
        refine g_aload_n k 1 dX7_rocks_45 rfl rfl ?_
        refine g_get k cfX7 0 0 dX7_rocks_46 lkX7_10 (by decide) rfl rfl ?_
        refine g_iload_n k 2 dX7_rocks_49 rfl rfl ?_
        refine g_aload_n k 1 dX7_rocks_50 rfl rfl ?_
        refine g_get k cfX7 0 0 dX7_rocks_51 lkX7_10 (by decide) rfl rfl ?_
        refine g_get k cfX0 2 1 dX7_rocks_54 lkX7_97 (by decide) rfl rfl ?_
        refine g_get k cfX3 1 4 dX7_rocks_57 lkX7_122 (by decide) rfl rfl ?_
        refine g_iload_n k 3 dX7_rocks_60 rfl rfl ?_
        obtain ⟨κ15, hκ15, hiκ15, heκ15, hf⟩ := ixb_some hf
        refine g_iaload k 5 dX7_rocks_61 rfl hiκ15 heκ15 ?_
        refine g_iload_n k 0 dX7_rocks_62 rfl rfl ?_
        refine g_aload_n k 1 dX7_rocks_63 rfl rfl ?_
        refine g_get k cfX7 0 0 dX7_rocks_64 lkX7_10 (by decide) rfl rfl ?_
        refine g_get k cfX0 2 1 dX7_rocks_67 lkX7_97 (by decide) rfl rfl ?_
        obtain ⟨o16, ho17, hf⟩ := bnd_some hf
        refine g_cv k miX3_isEven mvX3_isEven (ctX3_isEven (kL K) E N a0_canal_now a0_canal_now_ice a0_canal_now_juice a0_canal_now_fors va0_canal_now_boat va0_canal_now_minute va0_canal_now_draw  o16 ho17) [4] 0 (ws' := [(a0, oB 7 [.ref a0_canal, .ref a0_history, .ref a0_imageCanal, .ref a0_imageHistory, .int va0_hasImage, .ref a0_tape, .ref a0_foreteller, .ref a0_search, .ref a0_sheets]), (a0_canal, oB 0 [.ref a0_canal_kind, .ref a0_canal_weight, .ref a0_canal_now, .int va0_canal_cells, .int va0_canal_people, .int va0_canal_sayings, .int va0_canal_frost]), (a0_canal_kind, aI E 6 va0_canal_kind), (a0_canal_weight, aI E 6 va0_canal_weight), (a0_canal_now, oB 3 [.ref a0_canal_now_ice, .ref a0_canal_now_juice, .ref a0_canal_now_fors, .int va0_canal_now_boat, .int va0_canal_now_minute, .int va0_canal_now_draw]), (a0_canal_now_juice, aI E 5 va0_canal_now_juice), (a0_canal_now_fors, aI E 5 va0_canal_now_fors)]) dX7_rocks_70 lkX7_128 rfl ⟨rfl, rfl⟩ ⟨by decide, by decide⟩ rfl rfl rfl rfl (Nat.le_of_ble_eq_true rfl) rfl rfl rfl ?_
        refine g_st (st' := [.int o16, .int 1, .int (va0_canal_now_juice κ15), .int x1, .ref a0_canal]) rfl ?_
        obtain ⟨o18, ho19, hf⟩ := bnd_some hf
        refine g_cv k miX0_personRocks mvX0_personRocks (ctX0_personRocks (kL K) E N a0_canal a0_canal_kind a0_canal_weight a0_canal_now va0_canal_cells va0_canal_people va0_canal_sayings va0_canal_frost va0_canal_kind va0_canal_weight x1 (va0_canal_now_juice κ15) 1 o16 o18 ho19) [1, 2, 3] 0 (ws' := [(a0, oB 7 [.ref a0_canal, .ref a0_history, .ref a0_imageCanal, .ref a0_imageHistory, .int va0_hasImage, .ref a0_tape, .ref a0_foreteller, .ref a0_search, .ref a0_sheets]), (a0_canal, oB 0 [.ref a0_canal_kind, .ref a0_canal_weight, .ref a0_canal_now, .int va0_canal_cells, .int va0_canal_people, .int va0_canal_sayings, .int va0_canal_frost]), (a0_canal_kind, aI E 6 va0_canal_kind), (a0_canal_weight, aI E 6 va0_canal_weight), (a0_canal_now, oB 3 [.ref a0_canal_now_ice, .ref a0_canal_now_juice, .ref a0_canal_now_fors, .int va0_canal_now_boat, .int va0_canal_now_minute, .int va0_canal_now_draw]), (a0_canal_now_juice, aI E 5 va0_canal_now_juice), (a0_canal_now_fors, aI E 5 va0_canal_now_fors)]) dX7_rocks_73 lkX7_139 rfl ⟨rfl, rfl⟩ ⟨by decide, by decide⟩ rfl rfl rfl rfl (Nat.le_of_ble_eq_true rfl) rfl rfl rfl ?_
        refine g_st (st' := [.int o18]) rfl ?_
        obtain rfl := Option.some.inj hf
        exact g_iret k r dX7_rocks_76 ⟨rfl, rfl⟩
    · replace hf := ite_t c6 hf
      refine g_iconst k dX7_rocks_22 ic_m1 ?_
      obtain rfl := Option.some.inj hf
      exact g_iret k r dX7_rocks_23 ⟨rfl, rfl⟩
abbrev rmX7_frost : Room := { frames := 1, cells := 0, slots := 0, locals := 22 }
def fX7_frost (N : Nat) (va0_canal_frost : Int32) (x1 : Int32) : Option (Int32 × Int32) :=
  bnd (fX7_within N x1 0 9) fun o1 =>
  if o1 = 0 then
  some ((-1), va0_canal_frost)
  else
  some (va0_canal_frost, x1)
set_option maxHeartbeats 4000000 in
set_option maxRecDepth 100000 in
theorem ctX7_frost (l : Launch) (E : Ev) (N : Nat) (a0 : Nat) (a0_canal : Nat) (a0_history : Nat) (a0_imageCanal : Nat) (a0_imageHistory : Nat) (a0_tape : Nat) (a0_foreteller : Nat) (a0_search : Nat) (a0_sheets : Nat) (a0_canal_kind : Nat) (a0_canal_weight : Nat) (a0_canal_now : Nat) (va0_hasImage : Int32) (va0_canal_cells : Int32) (va0_canal_people : Int32) (va0_canal_sayings : Int32) (va0_canal_frost : Int32) (x1 : Int32) (out : Int32 × Int32) (hf : fX7_frost N va0_canal_frost x1 = some out) : Ct l E yX7_frost cX7_frost 3 (some .int) rmX7_frost [.ref a0, .int x1] [(a0, oB 7 [.ref a0_canal, .ref a0_history, .ref a0_imageCanal, .ref a0_imageHistory, .int va0_hasImage, .ref a0_tape, .ref a0_foreteller, .ref a0_search, .ref a0_sheets]), (a0_canal, oB 0 [.ref a0_canal_kind, .ref a0_canal_weight, .ref a0_canal_now, .int va0_canal_cells, .int va0_canal_people, .int va0_canal_sayings, .int va0_canal_frost])] (Pe (some (.int out.1)) [(a0, oB 7 [.ref a0_canal, .ref a0_history, .ref a0_imageCanal, .ref a0_imageHistory, .int va0_hasImage, .ref a0_tape, .ref a0_foreteller, .ref a0_search, .ref a0_sheets]), (a0_canal, oB 0 [.ref a0_canal_kind, .ref a0_canal_weight, .ref a0_canal_now, .int va0_canal_cells, .int va0_canal_people, .int va0_canal_sayings, .int out.2])]) := by
  refine Ct.of rfl (Nat.le_of_ble_eq_true rfl) (fun K hL k r hin => ?_)
  subst hL
  unfold fX7_frost at hf
  show G E K 3 0 0 [(0, .ref a0), (1, .int x1)] [] [(a0, oB 7 [.ref a0_canal, .ref a0_history, .ref a0_imageCanal, .ref a0_imageHistory, .int va0_hasImage, .ref a0_tape, .ref a0_foreteller, .ref a0_search, .ref a0_sheets]), (a0_canal, oB 0 [.ref a0_canal_kind, .ref a0_canal_weight, .ref a0_canal_now, .int va0_canal_cells, .int va0_canal_people, .int va0_canal_sayings, .int va0_canal_frost])] 0
  refine g_iload_n k 1 dX7_frost_0 rfl rfl ?_
  refine g_iconst k dX7_frost_1 ic_0 ?_
  refine g_bipush k dX7_frost_2 bi_9 ?_
  obtain ⟨o1, ho2, hf⟩ := bnd_some hf
  refine g_cs k miX7_within msX7_within (ctX7_within (kL K) E N   x1 0 9 o1 ho2) [] (ws' := [(a0, oB 7 [.ref a0_canal, .ref a0_history, .ref a0_imageCanal, .ref a0_imageHistory, .int va0_hasImage, .ref a0_tape, .ref a0_foreteller, .ref a0_search, .ref a0_sheets]), (a0_canal, oB 0 [.ref a0_canal_kind, .ref a0_canal_weight, .ref a0_canal_now, .int va0_canal_cells, .int va0_canal_people, .int va0_canal_sayings, .int va0_canal_frost])]) dX7_frost_4 lkX7_61 rfl ⟨rfl, rfl⟩ ⟨by decide, by decide⟩ rfl rfl rfl (Nat.le_of_ble_eq_true rfl) rfl rfl rfl ?_
  refine g_st (st' := [.int o1]) rfl ?_
  refine g_if_ne k (tgt := 12) dX7_frost_7 (by decide) (fun c3 => ?_) (fun c3 => ?_)
  · replace hf := ite_f c3 hf
    refine g_aload_n k 0 dX7_frost_12 rfl rfl ?_
    refine g_get k cfX7 0 0 dX7_frost_13 lkX7_10 (by decide) rfl rfl ?_
    refine g_get k cfX0 6 1 dX7_frost_16 lkX7_143 (by decide) rfl rfl ?_
    refine g_istore_n k (lv' := [(2, .int va0_canal_frost), (0, .ref a0), (1, .int x1)]) dX7_frost_19 rfl (by decide) rfl ?_
    refine g_aload_n k 1 dX7_frost_20 rfl rfl ?_
    refine g_get k cfX7 0 0 dX7_frost_21 lkX7_10 (by decide) rfl rfl ?_
    refine g_iload_n k 2 dX7_frost_24 rfl rfl ?_
    refine g_put k cfX0 6 1 (ws' := [(a0, oB 7 [.ref a0_canal, .ref a0_history, .ref a0_imageCanal, .ref a0_imageHistory, .int va0_hasImage, .ref a0_tape, .ref a0_foreteller, .ref a0_search, .ref a0_sheets]), (a0_canal, oB 0 [.ref a0_canal_kind, .ref a0_canal_weight, .ref a0_canal_now, .int va0_canal_cells, .int va0_canal_people, .int va0_canal_sayings, .int x1])]) dX7_frost_25 lkX7_143 (by decide) rfl rfl rfl rfl (Nat.le_of_ble_eq_true rfl) rfl ?_
    refine g_iload_n k 0 dX7_frost_28 rfl rfl ?_
    obtain rfl := Option.some.inj hf
    exact g_iret k r dX7_frost_29 ⟨rfl, rfl⟩
  · replace hf := ite_t c3 hf
    refine g_iconst k dX7_frost_10 ic_m1 ?_
    obtain rfl := Option.some.inj hf
    exact g_iret k r dX7_frost_11 ⟨rfl, rfl⟩
abbrev rmX7_type : Room := { frames := 1, cells := 0, slots := 0, locals := 22 }
def fX7_type (N : Nat) (va0_tape_length : Int32) (va0_tape_letters : Nat → Int32) (x1 : Int32) : Option (Int32 × Int32 × (Nat → Int32)) :=
  bnd (fX7_within N x1 32 126) fun o1 =>
  if o1 = 0 then
  some ((-1), va0_tape_length, va0_tape_letters)
  else
  bnd (fX6_isFull N va0_tape_length) fun o4 =>
  if o4 = 0 then
  bnd (fX6_add N va0_tape_length va0_tape_letters x1) fun o7 =>
  some (o7.1, o7.2.1, o7.2.2)
  else
  some ((-3), va0_tape_length, va0_tape_letters)
set_option maxHeartbeats 4000000 in
set_option maxRecDepth 100000 in
theorem ctX7_type (l : Launch) (E : Ev) (N : Nat) (a0 : Nat) (a0_canal : Nat) (a0_history : Nat) (a0_imageCanal : Nat) (a0_imageHistory : Nat) (a0_tape : Nat) (a0_foreteller : Nat) (a0_search : Nat) (a0_sheets : Nat) (a0_tape_letters : Nat) (a0_tape_read : Nat) (va0_hasImage : Int32) (va0_tape_length : Int32) (va0_tape_place : Int32) (va0_tape_number : Int32) (va0_tape_letters : Nat → Int32) (x1 : Int32) (out : Int32 × Int32 × (Nat → Int32)) (hf : fX7_type N va0_tape_length va0_tape_letters x1 = some out) : Ct l E yX7_type cX7_type 2 (some .int) rmX7_type [.ref a0, .int x1] [(a0, oB 7 [.ref a0_canal, .ref a0_history, .ref a0_imageCanal, .ref a0_imageHistory, .int va0_hasImage, .ref a0_tape, .ref a0_foreteller, .ref a0_search, .ref a0_sheets]), (a0_tape, oB 6 [.ref a0_tape_letters, .ref a0_tape_read, .int va0_tape_length, .int va0_tape_place, .int va0_tape_number]), (a0_tape_letters, aC E 110 va0_tape_letters)] (Pe (some (.int out.1)) [(a0, oB 7 [.ref a0_canal, .ref a0_history, .ref a0_imageCanal, .ref a0_imageHistory, .int va0_hasImage, .ref a0_tape, .ref a0_foreteller, .ref a0_search, .ref a0_sheets]), (a0_tape, oB 6 [.ref a0_tape_letters, .ref a0_tape_read, .int out.2.1, .int va0_tape_place, .int va0_tape_number]), (a0_tape_letters, aC E 110 out.2.2)]) := by
  refine Ct.of rfl (Nat.le_of_ble_eq_true rfl) (fun K hL k r hin => ?_)
  subst hL
  unfold fX7_type at hf
  show G E K 2 0 0 [(0, .ref a0), (1, .int x1)] [] [(a0, oB 7 [.ref a0_canal, .ref a0_history, .ref a0_imageCanal, .ref a0_imageHistory, .int va0_hasImage, .ref a0_tape, .ref a0_foreteller, .ref a0_search, .ref a0_sheets]), (a0_tape, oB 6 [.ref a0_tape_letters, .ref a0_tape_read, .int va0_tape_length, .int va0_tape_place, .int va0_tape_number]), (a0_tape_letters, aC E 110 va0_tape_letters)] 0
  refine g_iload_n k 1 dX7_type_0 rfl rfl ?_
  refine g_bipush k dX7_type_1 bi_32 ?_
  refine g_bipush k dX7_type_3 bi_126 ?_
  obtain ⟨o1, ho2, hf⟩ := bnd_some hf
  refine g_cs k miX7_within msX7_within (ctX7_within (kL K) E N   x1 32 126 o1 ho2) [] (ws' := [(a0, oB 7 [.ref a0_canal, .ref a0_history, .ref a0_imageCanal, .ref a0_imageHistory, .int va0_hasImage, .ref a0_tape, .ref a0_foreteller, .ref a0_search, .ref a0_sheets]), (a0_tape, oB 6 [.ref a0_tape_letters, .ref a0_tape_read, .int va0_tape_length, .int va0_tape_place, .int va0_tape_number]), (a0_tape_letters, aC E 110 va0_tape_letters)]) dX7_type_5 lkX7_61 rfl ⟨rfl, rfl⟩ ⟨by decide, by decide⟩ rfl rfl rfl (Nat.le_of_ble_eq_true rfl) rfl rfl rfl ?_
  refine g_st (st' := [.int o1]) rfl ?_
  refine g_if_ne k (tgt := 13) dX7_type_8 (by decide) (fun c3 => ?_) (fun c3 => ?_)
  · replace hf := ite_f c3 hf
    refine g_aload_n k 0 dX7_type_13 rfl rfl ?_
    refine g_get k cfX7 5 0 dX7_type_14 lkX7_36 (by decide) rfl rfl ?_
    obtain ⟨o4, ho5, hf⟩ := bnd_some hf
    refine g_cv k miX6_isFull mvX6_isFull (ctX6_isFull (kL K) E N a0_tape a0_tape_letters a0_tape_read va0_tape_length va0_tape_place va0_tape_number  o4 ho5) [1] 0 (ws' := [(a0, oB 7 [.ref a0_canal, .ref a0_history, .ref a0_imageCanal, .ref a0_imageHistory, .int va0_hasImage, .ref a0_tape, .ref a0_foreteller, .ref a0_search, .ref a0_sheets]), (a0_tape, oB 6 [.ref a0_tape_letters, .ref a0_tape_read, .int va0_tape_length, .int va0_tape_place, .int va0_tape_number]), (a0_tape_letters, aC E 110 va0_tape_letters)]) dX7_type_17 lkX7_146 rfl ⟨rfl, rfl⟩ ⟨by decide, by decide⟩ rfl rfl rfl rfl (Nat.le_of_ble_eq_true rfl) rfl rfl rfl ?_
    refine g_st (st' := [.int o4]) rfl ?_
    refine g_if_eq k (tgt := 28) dX7_type_20 (by decide) (fun c6 => ?_) (fun c6 => ?_)
    · replace hf := ite_t c6 hf
      refine g_aload_n k 0 dX7_type_28 rfl rfl ?_
      refine g_get k cfX7 5 0 dX7_type_29 lkX7_36 (by decide) rfl rfl ?_
      refine g_iload_n k 1 dX7_type_32 rfl rfl ?_
      obtain ⟨o7, ho8, hf⟩ := bnd_some hf
      refine g_cv k miX6_add mvX6_add (ctX6_add (kL K) E N a0_tape a0_tape_letters a0_tape_read va0_tape_length va0_tape_place va0_tape_number va0_tape_letters x1 o7 ho8) [1, 2] 0 (ws' := [(a0, oB 7 [.ref a0_canal, .ref a0_history, .ref a0_imageCanal, .ref a0_imageHistory, .int va0_hasImage, .ref a0_tape, .ref a0_foreteller, .ref a0_search, .ref a0_sheets]), (a0_tape, oB 6 [.ref a0_tape_letters, .ref a0_tape_read, .int o7.2.1, .int va0_tape_place, .int va0_tape_number]), (a0_tape_letters, aC E 110 o7.2.2)]) dX7_type_33 lkX7_149 rfl ⟨rfl, rfl⟩ ⟨by decide, by decide⟩ rfl rfl rfl rfl (Nat.le_of_ble_eq_true rfl) rfl rfl rfl ?_
      refine g_st (st' := [.int o7.1]) rfl ?_
      obtain rfl := Option.some.inj hf
      exact g_iret k r dX7_type_36 ⟨rfl, rfl⟩
    · replace hf := ite_f c6 hf
      refine g_bipush k dX7_type_23 bi_m3 ?_
      refine g_goto k (tgt := 36) dX7_type_25 (by decide) ?_
      obtain rfl := Option.some.inj hf
      exact g_iret k r dX7_type_36 ⟨rfl, rfl⟩
  · replace hf := ite_t c3 hf
    refine g_iconst k dX7_type_11 ic_m1 ?_
    obtain rfl := Option.some.inj hf
    exact g_iret k r dX7_type_12 ⟨rfl, rfl⟩
abbrev rmX7_canal : Room := { frames := 10, cells := 0, slots := 0, locals := 223 }
def fX7_canal (N : Nat) (va0_canal_cells : Int32) (va0_canal_people : Int32) (va0_canal_sayings : Int32) (va0_canal_frost : Int32) (va0_canal_kind : Nat → Int32) (va0_canal_weight : Nat → Int32) (va0_canal_now_boat : Int32) (va0_canal_now_minute : Int32) (va0_canal_now_draw : Int32) (va0_canal_now_ice : Nat → Int32) (va0_canal_now_juice : Nat → Int32) (va0_canal_now_fors : Nat → Int32) (va0_history_known : Int32) (va0_tape_length : Int32) (va0_tape_place : Int32) (va0_tape_number : Int32) (va0_tape_letters : Nat → Int32) (va0_tape_read_cells : Int32) (va0_tape_read_people : Int32) (va0_tape_read_sayings : Int32) (va0_tape_read_frost : Int32) (va0_tape_read_kind : Nat → Int32) (va0_tape_read_weight : Nat → Int32) (va0_tape_read_now_boat : Int32) (va0_tape_read_now_minute : Int32) (va0_tape_read_now_draw : Int32) (va0_tape_read_now_ice : Nat → Int32) (va0_tape_read_now_juice : Nat → Int32) (va0_tape_read_now_fors : Nat → Int32)  : Option (Int32 × Int32 × Int32 × Int32 × Int32 × (Nat → Int32) × (Nat → Int32) × Int32 × Int32 × Int32 × (Nat → Int32) × (Nat → Int32) × (Nat → Int32) × Int32 × Int32 × Int32 × Int32 × Int32 × Int32 × Int32 × Int32 × (Nat → Int32) × (Nat → Int32) × Int32 × (Nat → Int32) × (Nat → Int32) × (Nat → Int32)) :=
  bnd (fX6_readInto N va0_tape_length va0_tape_place va0_tape_number va0_tape_letters va0_tape_read_cells va0_tape_read_people va0_tape_read_sayings va0_tape_read_frost va0_tape_read_kind va0_tape_read_weight va0_tape_read_now_boat va0_tape_read_now_minute va0_tape_read_now_draw va0_tape_read_now_ice va0_tape_read_now_juice va0_tape_read_now_fors va0_canal_cells va0_canal_people va0_canal_sayings va0_canal_frost va0_canal_kind va0_canal_weight va0_canal_now_boat va0_canal_now_minute va0_canal_now_draw va0_canal_now_ice va0_canal_now_juice va0_canal_now_fors) fun o1 =>
  if o1.1 ≤ 0 then
  some (o1.1, o1.2.2.2.2.2.2.2.2.2.2.2.2.2.1, o1.2.2.2.2.2.2.2.2.2.2.2.2.2.2.1, o1.2.2.2.2.2.2.2.2.2.2.2.2.2.2.2.1, o1.2.2.2.2.2.2.2.2.2.2.2.2.2.2.2.2.1, o1.2.2.2.2.2.2.2.2.2.2.2.2.2.2.2.2.2.1, o1.2.2.2.2.2.2.2.2.2.2.2.2.2.2.2.2.2.2.1, o1.2.2.2.2.2.2.2.2.2.2.2.2.2.2.2.2.2.2.2.1, o1.2.2.2.2.2.2.2.2.2.2.2.2.2.2.2.2.2.2.2.2.1, o1.2.2.2.2.2.2.2.2.2.2.2.2.2.2.2.2.2.2.2.2.2.1, o1.2.2.2.2.2.2.2.2.2.2.2.2.2.2.2.2.2.2.2.2.2.2.1, o1.2.2.2.2.2.2.2.2.2.2.2.2.2.2.2.2.2.2.2.2.2.2.2.1, o1.2.2.2.2.2.2.2.2.2.2.2.2.2.2.2.2.2.2.2.2.2.2.2.2, va0_history_known, 0, o1.2.1, o1.2.2.1, o1.2.2.2.1, o1.2.2.2.2.1, o1.2.2.2.2.2.1, o1.2.2.2.2.2.2.1, o1.2.2.2.2.2.2.2.1, o1.2.2.2.2.2.2.2.2.1, o1.2.2.2.2.2.2.2.2.2.1, o1.2.2.2.2.2.2.2.2.2.2.1, o1.2.2.2.2.2.2.2.2.2.2.2.1, o1.2.2.2.2.2.2.2.2.2.2.2.2.1)
  else
  bnd (fX2_forget N va0_history_known) fun o4 =>
  some (o1.1, o1.2.2.2.2.2.2.2.2.2.2.2.2.2.1, o1.2.2.2.2.2.2.2.2.2.2.2.2.2.2.1, o1.2.2.2.2.2.2.2.2.2.2.2.2.2.2.2.1, o1.2.2.2.2.2.2.2.2.2.2.2.2.2.2.2.2.1, o1.2.2.2.2.2.2.2.2.2.2.2.2.2.2.2.2.2.1, o1.2.2.2.2.2.2.2.2.2.2.2.2.2.2.2.2.2.2.1, o1.2.2.2.2.2.2.2.2.2.2.2.2.2.2.2.2.2.2.2.1, o1.2.2.2.2.2.2.2.2.2.2.2.2.2.2.2.2.2.2.2.2.1, o1.2.2.2.2.2.2.2.2.2.2.2.2.2.2.2.2.2.2.2.2.2.1, o1.2.2.2.2.2.2.2.2.2.2.2.2.2.2.2.2.2.2.2.2.2.2.1, o1.2.2.2.2.2.2.2.2.2.2.2.2.2.2.2.2.2.2.2.2.2.2.2.1, o1.2.2.2.2.2.2.2.2.2.2.2.2.2.2.2.2.2.2.2.2.2.2.2.2, o4, 0, o1.2.1, o1.2.2.1, o1.2.2.2.1, o1.2.2.2.2.1, o1.2.2.2.2.2.1, o1.2.2.2.2.2.2.1, o1.2.2.2.2.2.2.2.1, o1.2.2.2.2.2.2.2.2.1, o1.2.2.2.2.2.2.2.2.2.1, o1.2.2.2.2.2.2.2.2.2.2.1, o1.2.2.2.2.2.2.2.2.2.2.2.1, o1.2.2.2.2.2.2.2.2.2.2.2.2.1)
set_option maxHeartbeats 4000000 in
set_option maxRecDepth 100000 in
theorem ctX7_canal (l : Launch) (E : Ev) (N : Nat) (a0 : Nat) (a0_canal : Nat) (a0_history : Nat) (a0_imageCanal : Nat) (a0_imageHistory : Nat) (a0_tape : Nat) (a0_foreteller : Nat) (a0_search : Nat) (a0_sheets : Nat) (a0_canal_kind : Nat) (a0_canal_weight : Nat) (a0_canal_now : Nat) (a0_canal_now_ice : Nat) (a0_canal_now_juice : Nat) (a0_canal_now_fors : Nat) (a0_history_moments : Nat) (a0_tape_letters : Nat) (a0_tape_read : Nat) (a0_tape_read_kind : Nat) (a0_tape_read_weight : Nat) (a0_tape_read_now : Nat) (a0_tape_read_now_ice : Nat) (a0_tape_read_now_juice : Nat) (a0_tape_read_now_fors : Nat) (va0_hasImage : Int32) (va0_canal_cells : Int32) (va0_canal_people : Int32) (va0_canal_sayings : Int32) (va0_canal_frost : Int32) (va0_canal_kind : Nat → Int32) (va0_canal_weight : Nat → Int32) (va0_canal_now_boat : Int32) (va0_canal_now_minute : Int32) (va0_canal_now_draw : Int32) (va0_canal_now_ice : Nat → Int32) (va0_canal_now_juice : Nat → Int32) (va0_canal_now_fors : Nat → Int32) (va0_history_next : Int32) (va0_history_known : Int32) (va0_tape_length : Int32) (va0_tape_place : Int32) (va0_tape_number : Int32) (va0_tape_letters : Nat → Int32) (va0_tape_read_cells : Int32) (va0_tape_read_people : Int32) (va0_tape_read_sayings : Int32) (va0_tape_read_frost : Int32) (va0_tape_read_kind : Nat → Int32) (va0_tape_read_weight : Nat → Int32) (va0_tape_read_now_boat : Int32) (va0_tape_read_now_minute : Int32) (va0_tape_read_now_draw : Int32) (va0_tape_read_now_ice : Nat → Int32) (va0_tape_read_now_juice : Nat → Int32) (va0_tape_read_now_fors : Nat → Int32)  (out : Int32 × Int32 × Int32 × Int32 × Int32 × (Nat → Int32) × (Nat → Int32) × Int32 × Int32 × Int32 × (Nat → Int32) × (Nat → Int32) × (Nat → Int32) × Int32 × Int32 × Int32 × Int32 × Int32 × Int32 × Int32 × Int32 × (Nat → Int32) × (Nat → Int32) × Int32 × (Nat → Int32) × (Nat → Int32) × (Nat → Int32)) (hf : fX7_canal N va0_canal_cells va0_canal_people va0_canal_sayings va0_canal_frost va0_canal_kind va0_canal_weight va0_canal_now_boat va0_canal_now_minute va0_canal_now_draw va0_canal_now_ice va0_canal_now_juice va0_canal_now_fors va0_history_known va0_tape_length va0_tape_place va0_tape_number va0_tape_letters va0_tape_read_cells va0_tape_read_people va0_tape_read_sayings va0_tape_read_frost va0_tape_read_kind va0_tape_read_weight va0_tape_read_now_boat va0_tape_read_now_minute va0_tape_read_now_draw va0_tape_read_now_ice va0_tape_read_now_juice va0_tape_read_now_fors  = some out) : Ct l E yX7_canal cX7_canal 2 (some .int) rmX7_canal [.ref a0] [(a0, oB 7 [.ref a0_canal, .ref a0_history, .ref a0_imageCanal, .ref a0_imageHistory, .int va0_hasImage, .ref a0_tape, .ref a0_foreteller, .ref a0_search, .ref a0_sheets]), (a0_canal, oB 0 [.ref a0_canal_kind, .ref a0_canal_weight, .ref a0_canal_now, .int va0_canal_cells, .int va0_canal_people, .int va0_canal_sayings, .int va0_canal_frost]), (a0_canal_kind, aI E 6 va0_canal_kind), (a0_canal_weight, aI E 6 va0_canal_weight), (a0_canal_now, oB 3 [.ref a0_canal_now_ice, .ref a0_canal_now_juice, .ref a0_canal_now_fors, .int va0_canal_now_boat, .int va0_canal_now_minute, .int va0_canal_now_draw]), (a0_canal_now_ice, aI E 12 va0_canal_now_ice), (a0_canal_now_juice, aI E 5 va0_canal_now_juice), (a0_canal_now_fors, aI E 5 va0_canal_now_fors), (a0_history, oB 2 [.ref a0_history_moments, .int va0_history_next, .int va0_history_known]), (a0_tape, oB 6 [.ref a0_tape_letters, .ref a0_tape_read, .int va0_tape_length, .int va0_tape_place, .int va0_tape_number]), (a0_tape_letters, aC E 110 va0_tape_letters), (a0_tape_read, oB 0 [.ref a0_tape_read_kind, .ref a0_tape_read_weight, .ref a0_tape_read_now, .int va0_tape_read_cells, .int va0_tape_read_people, .int va0_tape_read_sayings, .int va0_tape_read_frost]), (a0_tape_read_kind, aI E 6 va0_tape_read_kind), (a0_tape_read_weight, aI E 6 va0_tape_read_weight), (a0_tape_read_now, oB 3 [.ref a0_tape_read_now_ice, .ref a0_tape_read_now_juice, .ref a0_tape_read_now_fors, .int va0_tape_read_now_boat, .int va0_tape_read_now_minute, .int va0_tape_read_now_draw]), (a0_tape_read_now_ice, aI E 12 va0_tape_read_now_ice), (a0_tape_read_now_juice, aI E 5 va0_tape_read_now_juice), (a0_tape_read_now_fors, aI E 5 va0_tape_read_now_fors)] (Pe (some (.int out.1)) [(a0, oB 7 [.ref a0_canal, .ref a0_history, .ref a0_imageCanal, .ref a0_imageHistory, .int va0_hasImage, .ref a0_tape, .ref a0_foreteller, .ref a0_search, .ref a0_sheets]), (a0_canal, oB 0 [.ref a0_canal_kind, .ref a0_canal_weight, .ref a0_canal_now, .int out.2.1, .int out.2.2.1, .int out.2.2.2.1, .int out.2.2.2.2.1]), (a0_canal_kind, aI E 6 out.2.2.2.2.2.1), (a0_canal_weight, aI E 6 out.2.2.2.2.2.2.1), (a0_canal_now, oB 3 [.ref a0_canal_now_ice, .ref a0_canal_now_juice, .ref a0_canal_now_fors, .int out.2.2.2.2.2.2.2.1, .int out.2.2.2.2.2.2.2.2.1, .int out.2.2.2.2.2.2.2.2.2.1]), (a0_canal_now_ice, aI E 12 out.2.2.2.2.2.2.2.2.2.2.1), (a0_canal_now_juice, aI E 5 out.2.2.2.2.2.2.2.2.2.2.2.1), (a0_canal_now_fors, aI E 5 out.2.2.2.2.2.2.2.2.2.2.2.2.1), (a0_history, oB 2 [.ref a0_history_moments, .int va0_history_next, .int out.2.2.2.2.2.2.2.2.2.2.2.2.2.1]), (a0_tape, oB 6 [.ref a0_tape_letters, .ref a0_tape_read, .int out.2.2.2.2.2.2.2.2.2.2.2.2.2.2.1, .int out.2.2.2.2.2.2.2.2.2.2.2.2.2.2.2.1, .int out.2.2.2.2.2.2.2.2.2.2.2.2.2.2.2.2.1]), (a0_tape_letters, aC E 110 va0_tape_letters), (a0_tape_read, oB 0 [.ref a0_tape_read_kind, .ref a0_tape_read_weight, .ref a0_tape_read_now, .int out.2.2.2.2.2.2.2.2.2.2.2.2.2.2.2.2.2.1, .int out.2.2.2.2.2.2.2.2.2.2.2.2.2.2.2.2.2.2.1, .int out.2.2.2.2.2.2.2.2.2.2.2.2.2.2.2.2.2.2.2.1, .int out.2.2.2.2.2.2.2.2.2.2.2.2.2.2.2.2.2.2.2.2.1]), (a0_tape_read_kind, aI E 6 out.2.2.2.2.2.2.2.2.2.2.2.2.2.2.2.2.2.2.2.2.2.1), (a0_tape_read_weight, aI E 6 out.2.2.2.2.2.2.2.2.2.2.2.2.2.2.2.2.2.2.2.2.2.2.1), (a0_tape_read_now, oB 3 [.ref a0_tape_read_now_ice, .ref a0_tape_read_now_juice, .ref a0_tape_read_now_fors, .int va0_tape_read_now_boat, .int va0_tape_read_now_minute, .int out.2.2.2.2.2.2.2.2.2.2.2.2.2.2.2.2.2.2.2.2.2.2.2.1]), (a0_tape_read_now_ice, aI E 12 out.2.2.2.2.2.2.2.2.2.2.2.2.2.2.2.2.2.2.2.2.2.2.2.2.1), (a0_tape_read_now_juice, aI E 5 out.2.2.2.2.2.2.2.2.2.2.2.2.2.2.2.2.2.2.2.2.2.2.2.2.2.1), (a0_tape_read_now_fors, aI E 5 out.2.2.2.2.2.2.2.2.2.2.2.2.2.2.2.2.2.2.2.2.2.2.2.2.2.2)]) := by
  refine Ct.of rfl (Nat.le_of_ble_eq_true rfl) (fun K hL k r hin => ?_)
  subst hL
  unfold fX7_canal at hf
  show G E K 2 0 0 [(0, .ref a0)] [] [(a0, oB 7 [.ref a0_canal, .ref a0_history, .ref a0_imageCanal, .ref a0_imageHistory, .int va0_hasImage, .ref a0_tape, .ref a0_foreteller, .ref a0_search, .ref a0_sheets]), (a0_canal, oB 0 [.ref a0_canal_kind, .ref a0_canal_weight, .ref a0_canal_now, .int va0_canal_cells, .int va0_canal_people, .int va0_canal_sayings, .int va0_canal_frost]), (a0_canal_kind, aI E 6 va0_canal_kind), (a0_canal_weight, aI E 6 va0_canal_weight), (a0_canal_now, oB 3 [.ref a0_canal_now_ice, .ref a0_canal_now_juice, .ref a0_canal_now_fors, .int va0_canal_now_boat, .int va0_canal_now_minute, .int va0_canal_now_draw]), (a0_canal_now_ice, aI E 12 va0_canal_now_ice), (a0_canal_now_juice, aI E 5 va0_canal_now_juice), (a0_canal_now_fors, aI E 5 va0_canal_now_fors), (a0_history, oB 2 [.ref a0_history_moments, .int va0_history_next, .int va0_history_known]), (a0_tape, oB 6 [.ref a0_tape_letters, .ref a0_tape_read, .int va0_tape_length, .int va0_tape_place, .int va0_tape_number]), (a0_tape_letters, aC E 110 va0_tape_letters), (a0_tape_read, oB 0 [.ref a0_tape_read_kind, .ref a0_tape_read_weight, .ref a0_tape_read_now, .int va0_tape_read_cells, .int va0_tape_read_people, .int va0_tape_read_sayings, .int va0_tape_read_frost]), (a0_tape_read_kind, aI E 6 va0_tape_read_kind), (a0_tape_read_weight, aI E 6 va0_tape_read_weight), (a0_tape_read_now, oB 3 [.ref a0_tape_read_now_ice, .ref a0_tape_read_now_juice, .ref a0_tape_read_now_fors, .int va0_tape_read_now_boat, .int va0_tape_read_now_minute, .int va0_tape_read_now_draw]), (a0_tape_read_now_ice, aI E 12 va0_tape_read_now_ice), (a0_tape_read_now_juice, aI E 5 va0_tape_read_now_juice), (a0_tape_read_now_fors, aI E 5 va0_tape_read_now_fors)] 0
  refine g_aload_n k 0 dX7_canal_0 rfl rfl ?_
  refine g_get k cfX7 5 0 dX7_canal_1 lkX7_36 (by decide) rfl rfl ?_
  refine g_aload_n k 0 dX7_canal_4 rfl rfl ?_
  refine g_get k cfX7 0 0 dX7_canal_5 lkX7_10 (by decide) rfl rfl ?_
  obtain ⟨o1, ho2, hf⟩ := bnd_some hf
  refine g_cv k miX6_readInto mvX6_readInto (ctX6_readInto (kL K) E N a0_tape a0_tape_letters a0_tape_read a0_tape_read_kind a0_tape_read_weight a0_tape_read_now a0_tape_read_now_ice a0_tape_read_now_juice a0_tape_read_now_fors a0_canal a0_canal_kind a0_canal_weight a0_canal_now a0_canal_now_ice a0_canal_now_juice a0_canal_now_fors va0_tape_length va0_tape_place va0_tape_number va0_tape_letters va0_tape_read_cells va0_tape_read_people va0_tape_read_sayings va0_tape_read_frost va0_tape_read_kind va0_tape_read_weight va0_tape_read_now_boat va0_tape_read_now_minute va0_tape_read_now_draw va0_tape_read_now_ice va0_tape_read_now_juice va0_tape_read_now_fors va0_canal_cells va0_canal_people va0_canal_sayings va0_canal_frost va0_canal_kind va0_canal_weight va0_canal_now_boat va0_canal_now_minute va0_canal_now_draw va0_canal_now_ice va0_canal_now_juice va0_canal_now_fors  o1 ho2) [9, 10, 11, 12, 13, 14, 15, 16, 17, 1, 2, 3, 4, 5, 6, 7] 0 (ws' := [(a0, oB 7 [.ref a0_canal, .ref a0_history, .ref a0_imageCanal, .ref a0_imageHistory, .int va0_hasImage, .ref a0_tape, .ref a0_foreteller, .ref a0_search, .ref a0_sheets]), (a0_canal, oB 0 [.ref a0_canal_kind, .ref a0_canal_weight, .ref a0_canal_now, .int o1.2.2.2.2.2.2.2.2.2.2.2.2.2.1, .int o1.2.2.2.2.2.2.2.2.2.2.2.2.2.2.1, .int o1.2.2.2.2.2.2.2.2.2.2.2.2.2.2.2.1, .int o1.2.2.2.2.2.2.2.2.2.2.2.2.2.2.2.2.1]), (a0_canal_kind, aI E 6 o1.2.2.2.2.2.2.2.2.2.2.2.2.2.2.2.2.2.1), (a0_canal_weight, aI E 6 o1.2.2.2.2.2.2.2.2.2.2.2.2.2.2.2.2.2.2.1), (a0_canal_now, oB 3 [.ref a0_canal_now_ice, .ref a0_canal_now_juice, .ref a0_canal_now_fors, .int o1.2.2.2.2.2.2.2.2.2.2.2.2.2.2.2.2.2.2.2.1, .int o1.2.2.2.2.2.2.2.2.2.2.2.2.2.2.2.2.2.2.2.2.1, .int o1.2.2.2.2.2.2.2.2.2.2.2.2.2.2.2.2.2.2.2.2.2.1]), (a0_canal_now_ice, aI E 12 o1.2.2.2.2.2.2.2.2.2.2.2.2.2.2.2.2.2.2.2.2.2.2.1), (a0_canal_now_juice, aI E 5 o1.2.2.2.2.2.2.2.2.2.2.2.2.2.2.2.2.2.2.2.2.2.2.2.1), (a0_canal_now_fors, aI E 5 o1.2.2.2.2.2.2.2.2.2.2.2.2.2.2.2.2.2.2.2.2.2.2.2.2), (a0_history, oB 2 [.ref a0_history_moments, .int va0_history_next, .int va0_history_known]), (a0_tape, oB 6 [.ref a0_tape_letters, .ref a0_tape_read, .int va0_tape_length, .int o1.2.1, .int o1.2.2.1]), (a0_tape_letters, aC E 110 va0_tape_letters), (a0_tape_read, oB 0 [.ref a0_tape_read_kind, .ref a0_tape_read_weight, .ref a0_tape_read_now, .int o1.2.2.2.1, .int o1.2.2.2.2.1, .int o1.2.2.2.2.2.1, .int o1.2.2.2.2.2.2.1]), (a0_tape_read_kind, aI E 6 o1.2.2.2.2.2.2.2.1), (a0_tape_read_weight, aI E 6 o1.2.2.2.2.2.2.2.2.1), (a0_tape_read_now, oB 3 [.ref a0_tape_read_now_ice, .ref a0_tape_read_now_juice, .ref a0_tape_read_now_fors, .int va0_tape_read_now_boat, .int va0_tape_read_now_minute, .int o1.2.2.2.2.2.2.2.2.2.1]), (a0_tape_read_now_ice, aI E 12 o1.2.2.2.2.2.2.2.2.2.2.1), (a0_tape_read_now_juice, aI E 5 o1.2.2.2.2.2.2.2.2.2.2.2.1), (a0_tape_read_now_fors, aI E 5 o1.2.2.2.2.2.2.2.2.2.2.2.2.1)]) dX7_canal_8 lkX7_152 rfl ⟨rfl, rfl⟩ ⟨by decide, by decide⟩ rfl rfl rfl rfl (Nat.le_of_ble_eq_true rfl) rfl rfl rfl ?_
  refine g_st (st' := [.int o1.1]) rfl ?_
  refine g_istore_n k (lv' := [(1, .int o1.1), (0, .ref a0)]) dX7_canal_11 rfl (by decide) rfl ?_
  refine g_aload_n k 1 dX7_canal_12 rfl rfl ?_
  refine g_get k cfX7 5 0 dX7_canal_13 lkX7_36 (by decide) rfl rfl ?_
  refine g_iconst k dX7_canal_16 ic_0 ?_
  refine g_put k cfX6 2 9 (ws' := [(a0, oB 7 [.ref a0_canal, .ref a0_history, .ref a0_imageCanal, .ref a0_imageHistory, .int va0_hasImage, .ref a0_tape, .ref a0_foreteller, .ref a0_search, .ref a0_sheets]), (a0_canal, oB 0 [.ref a0_canal_kind, .ref a0_canal_weight, .ref a0_canal_now, .int o1.2.2.2.2.2.2.2.2.2.2.2.2.2.1, .int o1.2.2.2.2.2.2.2.2.2.2.2.2.2.2.1, .int o1.2.2.2.2.2.2.2.2.2.2.2.2.2.2.2.1, .int o1.2.2.2.2.2.2.2.2.2.2.2.2.2.2.2.2.1]), (a0_canal_kind, aI E 6 o1.2.2.2.2.2.2.2.2.2.2.2.2.2.2.2.2.2.1), (a0_canal_weight, aI E 6 o1.2.2.2.2.2.2.2.2.2.2.2.2.2.2.2.2.2.2.1), (a0_canal_now, oB 3 [.ref a0_canal_now_ice, .ref a0_canal_now_juice, .ref a0_canal_now_fors, .int o1.2.2.2.2.2.2.2.2.2.2.2.2.2.2.2.2.2.2.2.1, .int o1.2.2.2.2.2.2.2.2.2.2.2.2.2.2.2.2.2.2.2.2.1, .int o1.2.2.2.2.2.2.2.2.2.2.2.2.2.2.2.2.2.2.2.2.2.1]), (a0_canal_now_ice, aI E 12 o1.2.2.2.2.2.2.2.2.2.2.2.2.2.2.2.2.2.2.2.2.2.2.1), (a0_canal_now_juice, aI E 5 o1.2.2.2.2.2.2.2.2.2.2.2.2.2.2.2.2.2.2.2.2.2.2.2.1), (a0_canal_now_fors, aI E 5 o1.2.2.2.2.2.2.2.2.2.2.2.2.2.2.2.2.2.2.2.2.2.2.2.2), (a0_history, oB 2 [.ref a0_history_moments, .int va0_history_next, .int va0_history_known]), (a0_tape, oB 6 [.ref a0_tape_letters, .ref a0_tape_read, .int 0, .int o1.2.1, .int o1.2.2.1]), (a0_tape_letters, aC E 110 va0_tape_letters), (a0_tape_read, oB 0 [.ref a0_tape_read_kind, .ref a0_tape_read_weight, .ref a0_tape_read_now, .int o1.2.2.2.1, .int o1.2.2.2.2.1, .int o1.2.2.2.2.2.1, .int o1.2.2.2.2.2.2.1]), (a0_tape_read_kind, aI E 6 o1.2.2.2.2.2.2.2.1), (a0_tape_read_weight, aI E 6 o1.2.2.2.2.2.2.2.2.1), (a0_tape_read_now, oB 3 [.ref a0_tape_read_now_ice, .ref a0_tape_read_now_juice, .ref a0_tape_read_now_fors, .int va0_tape_read_now_boat, .int va0_tape_read_now_minute, .int o1.2.2.2.2.2.2.2.2.2.1]), (a0_tape_read_now_ice, aI E 12 o1.2.2.2.2.2.2.2.2.2.2.1), (a0_tape_read_now_juice, aI E 5 o1.2.2.2.2.2.2.2.2.2.2.2.1), (a0_tape_read_now_fors, aI E 5 o1.2.2.2.2.2.2.2.2.2.2.2.2.1)]) dX7_canal_17 lkX7_156 (by decide) rfl rfl rfl rfl (Nat.le_of_ble_eq_true rfl) rfl ?_
  refine g_iload_n k 0 dX7_canal_20 rfl rfl ?_
  refine g_if_le k (tgt := 31) dX7_canal_21 (by decide) (fun c3 => ?_) (fun c3 => ?_)
  · replace hf := ite_t c3 hf
    refine g_iload_n k 0 dX7_canal_31 rfl rfl ?_
    obtain rfl := Option.some.inj hf
    exact g_iret k r dX7_canal_32 ⟨rfl, rfl⟩
  · replace hf := ite_f c3 hf
    refine g_aload_n k 1 dX7_canal_24 rfl rfl ?_
    refine g_get k cfX7 1 0 dX7_canal_25 lkX7_19 (by decide) rfl rfl ?_
    obtain ⟨o4, ho5, hf⟩ := bnd_some hf
    refine g_cv k miX2_forget mvX2_forget (ctX2_forget (kL K) E N a0_history a0_history_moments va0_history_next va0_history_known  o4 ho5) [8] 0 (ws' := [(a0, oB 7 [.ref a0_canal, .ref a0_history, .ref a0_imageCanal, .ref a0_imageHistory, .int va0_hasImage, .ref a0_tape, .ref a0_foreteller, .ref a0_search, .ref a0_sheets]), (a0_canal, oB 0 [.ref a0_canal_kind, .ref a0_canal_weight, .ref a0_canal_now, .int o1.2.2.2.2.2.2.2.2.2.2.2.2.2.1, .int o1.2.2.2.2.2.2.2.2.2.2.2.2.2.2.1, .int o1.2.2.2.2.2.2.2.2.2.2.2.2.2.2.2.1, .int o1.2.2.2.2.2.2.2.2.2.2.2.2.2.2.2.2.1]), (a0_canal_kind, aI E 6 o1.2.2.2.2.2.2.2.2.2.2.2.2.2.2.2.2.2.1), (a0_canal_weight, aI E 6 o1.2.2.2.2.2.2.2.2.2.2.2.2.2.2.2.2.2.2.1), (a0_canal_now, oB 3 [.ref a0_canal_now_ice, .ref a0_canal_now_juice, .ref a0_canal_now_fors, .int o1.2.2.2.2.2.2.2.2.2.2.2.2.2.2.2.2.2.2.2.1, .int o1.2.2.2.2.2.2.2.2.2.2.2.2.2.2.2.2.2.2.2.2.1, .int o1.2.2.2.2.2.2.2.2.2.2.2.2.2.2.2.2.2.2.2.2.2.1]), (a0_canal_now_ice, aI E 12 o1.2.2.2.2.2.2.2.2.2.2.2.2.2.2.2.2.2.2.2.2.2.2.1), (a0_canal_now_juice, aI E 5 o1.2.2.2.2.2.2.2.2.2.2.2.2.2.2.2.2.2.2.2.2.2.2.2.1), (a0_canal_now_fors, aI E 5 o1.2.2.2.2.2.2.2.2.2.2.2.2.2.2.2.2.2.2.2.2.2.2.2.2), (a0_history, oB 2 [.ref a0_history_moments, .int va0_history_next, .int o4]), (a0_tape, oB 6 [.ref a0_tape_letters, .ref a0_tape_read, .int 0, .int o1.2.1, .int o1.2.2.1]), (a0_tape_letters, aC E 110 va0_tape_letters), (a0_tape_read, oB 0 [.ref a0_tape_read_kind, .ref a0_tape_read_weight, .ref a0_tape_read_now, .int o1.2.2.2.1, .int o1.2.2.2.2.1, .int o1.2.2.2.2.2.1, .int o1.2.2.2.2.2.2.1]), (a0_tape_read_kind, aI E 6 o1.2.2.2.2.2.2.2.1), (a0_tape_read_weight, aI E 6 o1.2.2.2.2.2.2.2.2.1), (a0_tape_read_now, oB 3 [.ref a0_tape_read_now_ice, .ref a0_tape_read_now_juice, .ref a0_tape_read_now_fors, .int va0_tape_read_now_boat, .int va0_tape_read_now_minute, .int o1.2.2.2.2.2.2.2.2.2.1]), (a0_tape_read_now_ice, aI E 12 o1.2.2.2.2.2.2.2.2.2.2.1), (a0_tape_read_now_juice, aI E 5 o1.2.2.2.2.2.2.2.2.2.2.2.1), (a0_tape_read_now_fors, aI E 5 o1.2.2.2.2.2.2.2.2.2.2.2.2.1)]) dX7_canal_28 lkX7_69 rfl ⟨rfl, rfl⟩ ⟨by decide, by decide⟩ rfl rfl rfl rfl (Nat.le_of_ble_eq_true rfl) rfl rfl rfl ?_
    refine g_st (st' := []) rfl ?_
    refine g_iload_n k 0 dX7_canal_31 rfl rfl ?_
    obtain rfl := Option.some.inj hf
    exact g_iret k r dX7_canal_32 ⟨rfl, rfl⟩
abbrev rmX7_count : Room := { frames := 1, cells := 0, slots := 0, locals := 22 }
def fX7_count (N : Nat) (va0_canal_cells : Int32) (va0_canal_people : Int32) (va0_canal_sayings : Int32) (va0_canal_frost : Int32) (va0_canal_now_boat : Int32) (va0_canal_now_minute : Int32) (va0_canal_now_ice : Nat → Int32) (va0_canal_now_juice : Nat → Int32) (va0_history_known : Int32) (x1 : Int32) : Option (Int32) :=
  if x1 = 0 then
  some (va0_canal_cells)
  else
  if x1 = 1 then
  some (va0_canal_people)
  else
  if x1 = 2 then
  some (va0_canal_sayings)
  else
  if x1 = 3 then
  some (va0_canal_now_boat)
  else
  if x1 = 4 then
  some (va0_canal_now_minute)
  else
  if x1 = 5 then
  some (va0_canal_frost)
  else
  if x1 = 6 then
  bnd (fX0_iceFromHereOn N va0_canal_cells va0_canal_now_boat va0_canal_now_ice) fun o8 =>
  some (o8)
  else
  if x1 = 7 then
  bnd (fX0_juiceOfAll N va0_canal_sayings va0_canal_now_juice) fun o11 =>
  some (o11)
  else
  if x1 = 8 then
  some (va0_history_known)
  else
  some ((-1))
set_option maxHeartbeats 4000000 in
set_option maxRecDepth 100000 in
theorem ctX7_count (l : Launch) (E : Ev) (N : Nat) (a0 : Nat) (a0_canal : Nat) (a0_history : Nat) (a0_imageCanal : Nat) (a0_imageHistory : Nat) (a0_tape : Nat) (a0_foreteller : Nat) (a0_search : Nat) (a0_sheets : Nat) (a0_canal_kind : Nat) (a0_canal_weight : Nat) (a0_canal_now : Nat) (a0_canal_now_ice : Nat) (a0_canal_now_juice : Nat) (a0_canal_now_fors : Nat) (a0_history_moments : Nat) (va0_hasImage : Int32) (va0_canal_cells : Int32) (va0_canal_people : Int32) (va0_canal_sayings : Int32) (va0_canal_frost : Int32) (va0_canal_now_boat : Int32) (va0_canal_now_minute : Int32) (va0_canal_now_draw : Int32) (va0_canal_now_ice : Nat → Int32) (va0_canal_now_juice : Nat → Int32) (va0_history_next : Int32) (va0_history_known : Int32) (x1 : Int32) (out : Int32) (hf : fX7_count N va0_canal_cells va0_canal_people va0_canal_sayings va0_canal_frost va0_canal_now_boat va0_canal_now_minute va0_canal_now_ice va0_canal_now_juice va0_history_known x1 = some out) : Ct l E yX7_count cX7_count 2 (some .int) rmX7_count [.ref a0, .int x1] [(a0, oB 7 [.ref a0_canal, .ref a0_history, .ref a0_imageCanal, .ref a0_imageHistory, .int va0_hasImage, .ref a0_tape, .ref a0_foreteller, .ref a0_search, .ref a0_sheets]), (a0_canal, oB 0 [.ref a0_canal_kind, .ref a0_canal_weight, .ref a0_canal_now, .int va0_canal_cells, .int va0_canal_people, .int va0_canal_sayings, .int va0_canal_frost]), (a0_canal_now, oB 3 [.ref a0_canal_now_ice, .ref a0_canal_now_juice, .ref a0_canal_now_fors, .int va0_canal_now_boat, .int va0_canal_now_minute, .int va0_canal_now_draw]), (a0_canal_now_ice, aI E 12 va0_canal_now_ice), (a0_canal_now_juice, aI E 5 va0_canal_now_juice), (a0_history, oB 2 [.ref a0_history_moments, .int va0_history_next, .int va0_history_known])] (Pe (some (.int out)) [(a0, oB 7 [.ref a0_canal, .ref a0_history, .ref a0_imageCanal, .ref a0_imageHistory, .int va0_hasImage, .ref a0_tape, .ref a0_foreteller, .ref a0_search, .ref a0_sheets]), (a0_canal, oB 0 [.ref a0_canal_kind, .ref a0_canal_weight, .ref a0_canal_now, .int va0_canal_cells, .int va0_canal_people, .int va0_canal_sayings, .int va0_canal_frost]), (a0_canal_now, oB 3 [.ref a0_canal_now_ice, .ref a0_canal_now_juice, .ref a0_canal_now_fors, .int va0_canal_now_boat, .int va0_canal_now_minute, .int va0_canal_now_draw]), (a0_canal_now_ice, aI E 12 va0_canal_now_ice), (a0_canal_now_juice, aI E 5 va0_canal_now_juice), (a0_history, oB 2 [.ref a0_history_moments, .int va0_history_next, .int va0_history_known])]) := by
  refine Ct.of rfl (Nat.le_of_ble_eq_true rfl) (fun K hL k r hin => ?_)
  subst hL
  unfold fX7_count at hf
  show G E K 2 0 0 [(0, .ref a0), (1, .int x1)] [] [(a0, oB 7 [.ref a0_canal, .ref a0_history, .ref a0_imageCanal, .ref a0_imageHistory, .int va0_hasImage, .ref a0_tape, .ref a0_foreteller, .ref a0_search, .ref a0_sheets]), (a0_canal, oB 0 [.ref a0_canal_kind, .ref a0_canal_weight, .ref a0_canal_now, .int va0_canal_cells, .int va0_canal_people, .int va0_canal_sayings, .int va0_canal_frost]), (a0_canal_now, oB 3 [.ref a0_canal_now_ice, .ref a0_canal_now_juice, .ref a0_canal_now_fors, .int va0_canal_now_boat, .int va0_canal_now_minute, .int va0_canal_now_draw]), (a0_canal_now_ice, aI E 12 va0_canal_now_ice), (a0_canal_now_juice, aI E 5 va0_canal_now_juice), (a0_history, oB 2 [.ref a0_history_moments, .int va0_history_next, .int va0_history_known])] 0
  refine g_iload_n k 1 dX7_count_0 rfl rfl ?_
  by_cases c1 : x1 = 0
  · replace hf := ite_t c1 hf
    refine g_tabIn k (tgt := 52) dX7_count_1 (by rw [c1]; decide) (by rw [c1]; decide) (off := 51) (by rw [c1]; rfl) (by decide) ?_
    refine g_aload_n k 0 dX7_count_52 rfl rfl ?_
    refine g_get k cfX7 0 0 dX7_count_53 lkX7_10 (by decide) rfl rfl ?_
    refine g_get k cfX0 3 1 dX7_count_56 lkX7_65 (by decide) rfl rfl ?_
    obtain rfl := Option.some.inj hf
    exact g_iret k r dX7_count_59 ⟨rfl, rfl⟩
  replace hf := ite_f c1 hf
  by_cases c2 : x1 = 1
  · replace hf := ite_t c2 hf
    refine g_tabIn k (tgt := 60) dX7_count_1 (by rw [c2]; decide) (by rw [c2]; decide) (off := 59) (by rw [c2]; rfl) (by decide) ?_
    refine g_aload_n k 0 dX7_count_60 rfl rfl ?_
    refine g_get k cfX7 0 0 dX7_count_61 lkX7_10 (by decide) rfl rfl ?_
    refine g_get k cfX0 4 1 dX7_count_64 lkX7_76 (by decide) rfl rfl ?_
    obtain rfl := Option.some.inj hf
    exact g_iret k r dX7_count_67 ⟨rfl, rfl⟩
  replace hf := ite_f c2 hf
  by_cases c3 : x1 = 2
  · replace hf := ite_t c3 hf
    refine g_tabIn k (tgt := 68) dX7_count_1 (by rw [c3]; decide) (by rw [c3]; decide) (off := 67) (by rw [c3]; rfl) (by decide) ?_
    refine g_aload_n k 0 dX7_count_68 rfl rfl ?_
    refine g_get k cfX7 0 0 dX7_count_69 lkX7_10 (by decide) rfl rfl ?_
    refine g_get k cfX0 5 1 dX7_count_72 lkX7_87 (by decide) rfl rfl ?_
    obtain rfl := Option.some.inj hf
    exact g_iret k r dX7_count_75 ⟨rfl, rfl⟩
  replace hf := ite_f c3 hf
  by_cases c4 : x1 = 3
  · replace hf := ite_t c4 hf
    refine g_tabIn k (tgt := 76) dX7_count_1 (by rw [c4]; decide) (by rw [c4]; decide) (off := 75) (by rw [c4]; rfl) (by decide) ?_
    refine g_aload_n k 0 dX7_count_76 rfl rfl ?_
    refine g_get k cfX7 0 0 dX7_count_77 lkX7_10 (by decide) rfl rfl ?_
    refine g_get k cfX0 2 1 dX7_count_80 lkX7_97 (by decide) rfl rfl ?_
    refine g_get k cfX3 3 2 dX7_count_83 lkX7_159 (by decide) rfl rfl ?_
    obtain rfl := Option.some.inj hf
    exact g_iret k r dX7_count_86 ⟨rfl, rfl⟩
  replace hf := ite_f c4 hf
  by_cases c5 : x1 = 4
  · replace hf := ite_t c5 hf
    refine g_tabIn k (tgt := 87) dX7_count_1 (by rw [c5]; decide) (by rw [c5]; decide) (off := 86) (by rw [c5]; rfl) (by decide) ?_
    refine g_aload_n k 0 dX7_count_87 rfl rfl ?_
    refine g_get k cfX7 0 0 dX7_count_88 lkX7_10 (by decide) rfl rfl ?_
    refine g_get k cfX0 2 1 dX7_count_91 lkX7_97 (by decide) rfl rfl ?_
    refine g_get k cfX3 4 2 dX7_count_94 lkX7_162 (by decide) rfl rfl ?_
    obtain rfl := Option.some.inj hf
    exact g_iret k r dX7_count_97 ⟨rfl, rfl⟩
  replace hf := ite_f c5 hf
  by_cases c6 : x1 = 5
  · replace hf := ite_t c6 hf
    refine g_tabIn k (tgt := 98) dX7_count_1 (by rw [c6]; decide) (by rw [c6]; decide) (off := 97) (by rw [c6]; rfl) (by decide) ?_
    refine g_aload_n k 0 dX7_count_98 rfl rfl ?_
    refine g_get k cfX7 0 0 dX7_count_99 lkX7_10 (by decide) rfl rfl ?_
    refine g_get k cfX0 6 1 dX7_count_102 lkX7_143 (by decide) rfl rfl ?_
    obtain rfl := Option.some.inj hf
    exact g_iret k r dX7_count_105 ⟨rfl, rfl⟩
  replace hf := ite_f c6 hf
  by_cases c7 : x1 = 6
  · replace hf := ite_t c7 hf
    refine g_tabIn k (tgt := 106) dX7_count_1 (by rw [c7]; decide) (by rw [c7]; decide) (off := 105) (by rw [c7]; rfl) (by decide) ?_
    refine g_aload_n k 0 dX7_count_106 rfl rfl ?_
    refine g_get k cfX7 0 0 dX7_count_107 lkX7_10 (by decide) rfl rfl ?_
    obtain ⟨o8, ho9, hf⟩ := bnd_some hf
    refine g_cv k miX0_iceFromHereOn mvX0_iceFromHereOn (ctX0_iceFromHereOn (kL K) E N a0_canal a0_canal_kind a0_canal_weight a0_canal_now a0_canal_now_ice a0_canal_now_juice a0_canal_now_fors va0_canal_cells va0_canal_people va0_canal_sayings va0_canal_frost va0_canal_now_boat va0_canal_now_minute va0_canal_now_draw va0_canal_now_ice  o8 ho9) [1, 2, 3] 0 (ws' := [(a0, oB 7 [.ref a0_canal, .ref a0_history, .ref a0_imageCanal, .ref a0_imageHistory, .int va0_hasImage, .ref a0_tape, .ref a0_foreteller, .ref a0_search, .ref a0_sheets]), (a0_canal, oB 0 [.ref a0_canal_kind, .ref a0_canal_weight, .ref a0_canal_now, .int va0_canal_cells, .int va0_canal_people, .int va0_canal_sayings, .int va0_canal_frost]), (a0_canal_now, oB 3 [.ref a0_canal_now_ice, .ref a0_canal_now_juice, .ref a0_canal_now_fors, .int va0_canal_now_boat, .int va0_canal_now_minute, .int va0_canal_now_draw]), (a0_canal_now_ice, aI E 12 va0_canal_now_ice), (a0_canal_now_juice, aI E 5 va0_canal_now_juice), (a0_history, oB 2 [.ref a0_history_moments, .int va0_history_next, .int va0_history_known])]) dX7_count_110 lkX7_165 rfl ⟨rfl, rfl⟩ ⟨by decide, by decide⟩ rfl rfl rfl rfl (Nat.le_of_ble_eq_true rfl) rfl rfl rfl ?_
    refine g_st (st' := [.int o8]) rfl ?_
    obtain rfl := Option.some.inj hf
    exact g_iret k r dX7_count_113 ⟨rfl, rfl⟩
  replace hf := ite_f c7 hf
  by_cases c10 : x1 = 7
  · replace hf := ite_t c10 hf
    refine g_tabIn k (tgt := 114) dX7_count_1 (by rw [c10]; decide) (by rw [c10]; decide) (off := 113) (by rw [c10]; rfl) (by decide) ?_
    refine g_aload_n k 0 dX7_count_114 rfl rfl ?_
    refine g_get k cfX7 0 0 dX7_count_115 lkX7_10 (by decide) rfl rfl ?_
    obtain ⟨o11, ho12, hf⟩ := bnd_some hf
    refine g_cv k miX0_juiceOfAll mvX0_juiceOfAll (ctX0_juiceOfAll (kL K) E N a0_canal a0_canal_kind a0_canal_weight a0_canal_now a0_canal_now_ice a0_canal_now_juice a0_canal_now_fors va0_canal_cells va0_canal_people va0_canal_sayings va0_canal_frost va0_canal_now_boat va0_canal_now_minute va0_canal_now_draw va0_canal_now_juice  o11 ho12) [1, 2, 4] 0 (ws' := [(a0, oB 7 [.ref a0_canal, .ref a0_history, .ref a0_imageCanal, .ref a0_imageHistory, .int va0_hasImage, .ref a0_tape, .ref a0_foreteller, .ref a0_search, .ref a0_sheets]), (a0_canal, oB 0 [.ref a0_canal_kind, .ref a0_canal_weight, .ref a0_canal_now, .int va0_canal_cells, .int va0_canal_people, .int va0_canal_sayings, .int va0_canal_frost]), (a0_canal_now, oB 3 [.ref a0_canal_now_ice, .ref a0_canal_now_juice, .ref a0_canal_now_fors, .int va0_canal_now_boat, .int va0_canal_now_minute, .int va0_canal_now_draw]), (a0_canal_now_ice, aI E 12 va0_canal_now_ice), (a0_canal_now_juice, aI E 5 va0_canal_now_juice), (a0_history, oB 2 [.ref a0_history_moments, .int va0_history_next, .int va0_history_known])]) dX7_count_118 lkX7_168 rfl ⟨rfl, rfl⟩ ⟨by decide, by decide⟩ rfl rfl rfl rfl (Nat.le_of_ble_eq_true rfl) rfl rfl rfl ?_
    refine g_st (st' := [.int o11]) rfl ?_
    obtain rfl := Option.some.inj hf
    exact g_iret k r dX7_count_121 ⟨rfl, rfl⟩
  replace hf := ite_f c10 hf
  by_cases c13 : x1 = 8
  · replace hf := ite_t c13 hf
    refine g_tabIn k (tgt := 122) dX7_count_1 (by rw [c13]; decide) (by rw [c13]; decide) (off := 121) (by rw [c13]; rfl) (by decide) ?_
    refine g_aload_n k 0 dX7_count_122 rfl rfl ?_
    refine g_get k cfX7 1 0 dX7_count_123 lkX7_19 (by decide) rfl rfl ?_
    refine g_get k cfX2 2 5 dX7_count_126 lkX7_171 (by decide) rfl rfl ?_
    obtain rfl := Option.some.inj hf
    exact g_iret k r dX7_count_129 ⟨rfl, rfl⟩
  replace hf := ite_f c13 hf
  refine g_tabOut k (tgt := 130) dX7_count_1 (by have := lv_neT (k := 0) c1 (a := 0) (by decide); have := lv_neT (k := 1) c2 (a := 1) (by decide); have := lv_neT (k := 2) c3 (a := 2) (by decide); have := lv_neT (k := 3) c4 (a := 3) (by decide); have := lv_neT (k := 4) c5 (a := 4) (by decide); have := lv_neT (k := 5) c6 (a := 5) (by decide); have := lv_neT (k := 6) c7 (a := 6) (by decide); have := lv_neT (k := 7) c10 (a := 7) (by decide); have := lv_neT (k := 8) c13 (a := 8) (by decide); omega) (by decide) ?_
  refine g_iconst k dX7_count_130 ic_m1 ?_
  obtain rfl := Option.some.inj hf
  exact g_iret k r dX7_count_131 ⟨rfl, rfl⟩
abbrev rmX7_seed : Room := { frames := 0, cells := 0, slots := 0, locals := 0 }
def fX7_seed (N : Nat) (va0_canal_now_draw : Int32) (x1 : Int32) : Option (Int32 × Int32) :=
  if 0 ≤ x1 then
  some (va0_canal_now_draw, x1)
  else
  some ((-1), va0_canal_now_draw)
set_option maxHeartbeats 4000000 in
set_option maxRecDepth 100000 in
theorem ctX7_seed (l : Launch) (E : Ev) (N : Nat) (a0 : Nat) (a0_canal : Nat) (a0_history : Nat) (a0_imageCanal : Nat) (a0_imageHistory : Nat) (a0_tape : Nat) (a0_foreteller : Nat) (a0_search : Nat) (a0_sheets : Nat) (a0_canal_kind : Nat) (a0_canal_weight : Nat) (a0_canal_now : Nat) (a0_canal_now_ice : Nat) (a0_canal_now_juice : Nat) (a0_canal_now_fors : Nat) (va0_hasImage : Int32) (va0_canal_cells : Int32) (va0_canal_people : Int32) (va0_canal_sayings : Int32) (va0_canal_frost : Int32) (va0_canal_now_boat : Int32) (va0_canal_now_minute : Int32) (va0_canal_now_draw : Int32) (x1 : Int32) (out : Int32 × Int32) (hf : fX7_seed N va0_canal_now_draw x1 = some out) : Ct l E yX7_seed cX7_seed 3 (some .int) rmX7_seed [.ref a0, .int x1] [(a0, oB 7 [.ref a0_canal, .ref a0_history, .ref a0_imageCanal, .ref a0_imageHistory, .int va0_hasImage, .ref a0_tape, .ref a0_foreteller, .ref a0_search, .ref a0_sheets]), (a0_canal, oB 0 [.ref a0_canal_kind, .ref a0_canal_weight, .ref a0_canal_now, .int va0_canal_cells, .int va0_canal_people, .int va0_canal_sayings, .int va0_canal_frost]), (a0_canal_now, oB 3 [.ref a0_canal_now_ice, .ref a0_canal_now_juice, .ref a0_canal_now_fors, .int va0_canal_now_boat, .int va0_canal_now_minute, .int va0_canal_now_draw])] (Pe (some (.int out.1)) [(a0, oB 7 [.ref a0_canal, .ref a0_history, .ref a0_imageCanal, .ref a0_imageHistory, .int va0_hasImage, .ref a0_tape, .ref a0_foreteller, .ref a0_search, .ref a0_sheets]), (a0_canal, oB 0 [.ref a0_canal_kind, .ref a0_canal_weight, .ref a0_canal_now, .int va0_canal_cells, .int va0_canal_people, .int va0_canal_sayings, .int va0_canal_frost]), (a0_canal_now, oB 3 [.ref a0_canal_now_ice, .ref a0_canal_now_juice, .ref a0_canal_now_fors, .int va0_canal_now_boat, .int va0_canal_now_minute, .int out.2])]) := by
  refine Ct.of rfl (Nat.le_of_ble_eq_true rfl) (fun K hL k r hin => ?_)
  subst hL
  unfold fX7_seed at hf
  show G E K 3 0 0 [(0, .ref a0), (1, .int x1)] [] [(a0, oB 7 [.ref a0_canal, .ref a0_history, .ref a0_imageCanal, .ref a0_imageHistory, .int va0_hasImage, .ref a0_tape, .ref a0_foreteller, .ref a0_search, .ref a0_sheets]), (a0_canal, oB 0 [.ref a0_canal_kind, .ref a0_canal_weight, .ref a0_canal_now, .int va0_canal_cells, .int va0_canal_people, .int va0_canal_sayings, .int va0_canal_frost]), (a0_canal_now, oB 3 [.ref a0_canal_now_ice, .ref a0_canal_now_juice, .ref a0_canal_now_fors, .int va0_canal_now_boat, .int va0_canal_now_minute, .int va0_canal_now_draw])] 0
  refine g_iload_n k 1 dX7_seed_0 rfl rfl ?_
  refine g_if_ge k (tgt := 6) dX7_seed_1 (by decide) (fun c1 => ?_) (fun c1 => ?_)
  · replace hf := ite_t c1 hf
    refine g_aload_n k 0 dX7_seed_6 rfl rfl ?_
    refine g_get k cfX7 0 0 dX7_seed_7 lkX7_10 (by decide) rfl rfl ?_
    refine g_get k cfX0 2 1 dX7_seed_10 lkX7_97 (by decide) rfl rfl ?_
    refine g_get k cfX3 5 2 dX7_seed_13 lkX7_193 (by decide) rfl rfl ?_
    refine g_istore_n k (lv' := [(2, .int va0_canal_now_draw), (0, .ref a0), (1, .int x1)]) dX7_seed_16 rfl (by decide) rfl ?_
    refine g_aload_n k 1 dX7_seed_17 rfl rfl ?_
    refine g_get k cfX7 0 0 dX7_seed_18 lkX7_10 (by decide) rfl rfl ?_
    refine g_get k cfX0 2 1 dX7_seed_21 lkX7_97 (by decide) rfl rfl ?_
    refine g_iload_n k 2 dX7_seed_24 rfl rfl ?_
    refine g_put k cfX3 5 2 (ws' := [(a0, oB 7 [.ref a0_canal, .ref a0_history, .ref a0_imageCanal, .ref a0_imageHistory, .int va0_hasImage, .ref a0_tape, .ref a0_foreteller, .ref a0_search, .ref a0_sheets]), (a0_canal, oB 0 [.ref a0_canal_kind, .ref a0_canal_weight, .ref a0_canal_now, .int va0_canal_cells, .int va0_canal_people, .int va0_canal_sayings, .int va0_canal_frost]), (a0_canal_now, oB 3 [.ref a0_canal_now_ice, .ref a0_canal_now_juice, .ref a0_canal_now_fors, .int va0_canal_now_boat, .int va0_canal_now_minute, .int x1])]) dX7_seed_25 lkX7_193 (by decide) rfl rfl rfl rfl (Nat.le_of_ble_eq_true rfl) rfl ?_
    refine g_iload_n k 0 dX7_seed_28 rfl rfl ?_
    obtain rfl := Option.some.inj hf
    exact g_iret k r dX7_seed_29 ⟨rfl, rfl⟩
  · replace hf := ite_f c1 hf
    refine g_iconst k dX7_seed_4 ic_m1 ?_
    obtain rfl := Option.some.inj hf
    exact g_iret k r dX7_seed_5 ⟨rfl, rfl⟩
abbrev rmX7_rock : Room := { frames := 4, cells := 0, slots := 0, locals := 99 }
def fX7_rock (N : Nat) (va0_canal_people : Int32) (va0_canal_sayings : Int32) (va0_canal_kind : Nat → Int32) (va0_canal_weight : Nat → Int32) (va0_canal_now_minute : Int32) (va0_canal_now_juice : Nat → Int32) (va0_canal_now_fors : Nat → Int32) (x1 : Int32) : Option (Int32) :=
  bnd (fX0_hasSaying N va0_canal_sayings x1) fun o1 =>
  if o1 = 0 then
  some ((-1))
  else
  bnd (fX0_sayingRocks N va0_canal_people va0_canal_kind va0_canal_weight va0_canal_now_minute va0_canal_now_juice va0_canal_now_fors x1) fun o4 =>
  some (o4)
set_option maxHeartbeats 4000000 in
set_option maxRecDepth 100000 in
theorem ctX7_rock (l : Launch) (E : Ev) (N : Nat) (a0 : Nat) (a0_canal : Nat) (a0_history : Nat) (a0_imageCanal : Nat) (a0_imageHistory : Nat) (a0_tape : Nat) (a0_foreteller : Nat) (a0_search : Nat) (a0_sheets : Nat) (a0_canal_kind : Nat) (a0_canal_weight : Nat) (a0_canal_now : Nat) (a0_canal_now_ice : Nat) (a0_canal_now_juice : Nat) (a0_canal_now_fors : Nat) (va0_hasImage : Int32) (va0_canal_cells : Int32) (va0_canal_people : Int32) (va0_canal_sayings : Int32) (va0_canal_frost : Int32) (va0_canal_kind : Nat → Int32) (va0_canal_weight : Nat → Int32) (va0_canal_now_boat : Int32) (va0_canal_now_minute : Int32) (va0_canal_now_draw : Int32) (va0_canal_now_juice : Nat → Int32) (va0_canal_now_fors : Nat → Int32) (x1 : Int32) (out : Int32) (hf : fX7_rock N va0_canal_people va0_canal_sayings va0_canal_kind va0_canal_weight va0_canal_now_minute va0_canal_now_juice va0_canal_now_fors x1 = some out) : Ct l E yX7_rock cX7_rock 2 (some .int) rmX7_rock [.ref a0, .int x1] [(a0, oB 7 [.ref a0_canal, .ref a0_history, .ref a0_imageCanal, .ref a0_imageHistory, .int va0_hasImage, .ref a0_tape, .ref a0_foreteller, .ref a0_search, .ref a0_sheets]), (a0_canal, oB 0 [.ref a0_canal_kind, .ref a0_canal_weight, .ref a0_canal_now, .int va0_canal_cells, .int va0_canal_people, .int va0_canal_sayings, .int va0_canal_frost]), (a0_canal_kind, aI E 6 va0_canal_kind), (a0_canal_weight, aI E 6 va0_canal_weight), (a0_canal_now, oB 3 [.ref a0_canal_now_ice, .ref a0_canal_now_juice, .ref a0_canal_now_fors, .int va0_canal_now_boat, .int va0_canal_now_minute, .int va0_canal_now_draw]), (a0_canal_now_juice, aI E 5 va0_canal_now_juice), (a0_canal_now_fors, aI E 5 va0_canal_now_fors)] (Pe (some (.int out)) [(a0, oB 7 [.ref a0_canal, .ref a0_history, .ref a0_imageCanal, .ref a0_imageHistory, .int va0_hasImage, .ref a0_tape, .ref a0_foreteller, .ref a0_search, .ref a0_sheets]), (a0_canal, oB 0 [.ref a0_canal_kind, .ref a0_canal_weight, .ref a0_canal_now, .int va0_canal_cells, .int va0_canal_people, .int va0_canal_sayings, .int va0_canal_frost]), (a0_canal_kind, aI E 6 va0_canal_kind), (a0_canal_weight, aI E 6 va0_canal_weight), (a0_canal_now, oB 3 [.ref a0_canal_now_ice, .ref a0_canal_now_juice, .ref a0_canal_now_fors, .int va0_canal_now_boat, .int va0_canal_now_minute, .int va0_canal_now_draw]), (a0_canal_now_juice, aI E 5 va0_canal_now_juice), (a0_canal_now_fors, aI E 5 va0_canal_now_fors)]) := by
  refine Ct.of rfl (Nat.le_of_ble_eq_true rfl) (fun K hL k r hin => ?_)
  subst hL
  unfold fX7_rock at hf
  show G E K 2 0 0 [(0, .ref a0), (1, .int x1)] [] [(a0, oB 7 [.ref a0_canal, .ref a0_history, .ref a0_imageCanal, .ref a0_imageHistory, .int va0_hasImage, .ref a0_tape, .ref a0_foreteller, .ref a0_search, .ref a0_sheets]), (a0_canal, oB 0 [.ref a0_canal_kind, .ref a0_canal_weight, .ref a0_canal_now, .int va0_canal_cells, .int va0_canal_people, .int va0_canal_sayings, .int va0_canal_frost]), (a0_canal_kind, aI E 6 va0_canal_kind), (a0_canal_weight, aI E 6 va0_canal_weight), (a0_canal_now, oB 3 [.ref a0_canal_now_ice, .ref a0_canal_now_juice, .ref a0_canal_now_fors, .int va0_canal_now_boat, .int va0_canal_now_minute, .int va0_canal_now_draw]), (a0_canal_now_juice, aI E 5 va0_canal_now_juice), (a0_canal_now_fors, aI E 5 va0_canal_now_fors)] 0
  refine g_aload_n k 0 dX7_rock_0 rfl rfl ?_
  refine g_get k cfX7 0 0 dX7_rock_1 lkX7_10 (by decide) rfl rfl ?_
  refine g_iload_n k 1 dX7_rock_4 rfl rfl ?_
  obtain ⟨o1, ho2, hf⟩ := bnd_some hf
  refine g_cv k miX0_hasSaying mvX0_hasSaying (ctX0_hasSaying (kL K) E N a0_canal a0_canal_kind a0_canal_weight a0_canal_now va0_canal_cells va0_canal_people va0_canal_sayings va0_canal_frost x1 o1 ho2) [1] 0 (ws' := [(a0, oB 7 [.ref a0_canal, .ref a0_history, .ref a0_imageCanal, .ref a0_imageHistory, .int va0_hasImage, .ref a0_tape, .ref a0_foreteller, .ref a0_search, .ref a0_sheets]), (a0_canal, oB 0 [.ref a0_canal_kind, .ref a0_canal_weight, .ref a0_canal_now, .int va0_canal_cells, .int va0_canal_people, .int va0_canal_sayings, .int va0_canal_frost]), (a0_canal_kind, aI E 6 va0_canal_kind), (a0_canal_weight, aI E 6 va0_canal_weight), (a0_canal_now, oB 3 [.ref a0_canal_now_ice, .ref a0_canal_now_juice, .ref a0_canal_now_fors, .int va0_canal_now_boat, .int va0_canal_now_minute, .int va0_canal_now_draw]), (a0_canal_now_juice, aI E 5 va0_canal_now_juice), (a0_canal_now_fors, aI E 5 va0_canal_now_fors)]) dX7_rock_5 lkX7_119 rfl ⟨rfl, rfl⟩ ⟨by decide, by decide⟩ rfl rfl rfl rfl (Nat.le_of_ble_eq_true rfl) rfl rfl rfl ?_
  refine g_st (st' := [.int o1]) rfl ?_
  refine g_if_eq k (tgt := 29) dX7_rock_8 (by decide) (fun c3 => ?_) (fun c3 => ?_)
  · replace hf := ite_t c3 hf
    refine g_iconst k dX7_rock_29 ic_m1 ?_
    obtain rfl := Option.some.inj hf
    exact g_iret k r dX7_rock_30 ⟨rfl, rfl⟩
  · replace hf := ite_f c3 hf
    refine g_aload_n k 0 dX7_rock_11 rfl rfl ?_
    refine g_get k cfX7 0 0 dX7_rock_12 lkX7_10 (by decide) rfl rfl ?_
    refine g_aload_n k 0 dX7_rock_15 rfl rfl ?_
    refine g_get k cfX7 0 0 dX7_rock_16 lkX7_10 (by decide) rfl rfl ?_
    refine g_get k cfX0 2 1 dX7_rock_19 lkX7_97 (by decide) rfl rfl ?_
    refine g_iload_n k 1 dX7_rock_22 rfl rfl ?_
    obtain ⟨o4, ho5, hf⟩ := bnd_some hf
    refine g_cv k miX0_sayingRocks mvX0_sayingRocks (ctX0_sayingRocks (kL K) E N a0_canal a0_canal_kind a0_canal_weight a0_canal_now a0_canal_now a0_canal_now_ice a0_canal_now_juice a0_canal_now_fors va0_canal_cells va0_canal_people va0_canal_sayings va0_canal_frost va0_canal_kind va0_canal_weight va0_canal_now_boat va0_canal_now_minute va0_canal_now_draw va0_canal_now_juice va0_canal_now_fors x1 o4 ho5) [1, 2, 3, 4, 5, 6] 0 (ws' := [(a0, oB 7 [.ref a0_canal, .ref a0_history, .ref a0_imageCanal, .ref a0_imageHistory, .int va0_hasImage, .ref a0_tape, .ref a0_foreteller, .ref a0_search, .ref a0_sheets]), (a0_canal, oB 0 [.ref a0_canal_kind, .ref a0_canal_weight, .ref a0_canal_now, .int va0_canal_cells, .int va0_canal_people, .int va0_canal_sayings, .int va0_canal_frost]), (a0_canal_kind, aI E 6 va0_canal_kind), (a0_canal_weight, aI E 6 va0_canal_weight), (a0_canal_now, oB 3 [.ref a0_canal_now_ice, .ref a0_canal_now_juice, .ref a0_canal_now_fors, .int va0_canal_now_boat, .int va0_canal_now_minute, .int va0_canal_now_draw]), (a0_canal_now_juice, aI E 5 va0_canal_now_juice), (a0_canal_now_fors, aI E 5 va0_canal_now_fors)]) dX7_rock_23 lkX7_196 rfl ⟨rfl, rfl⟩ ⟨by decide, by decide⟩ rfl rfl rfl rfl (Nat.le_of_ble_eq_true rfl) rfl rfl rfl ?_
    refine g_st (st' := [.int o4]) rfl ?_
    refine g_goto k (tgt := 30) dX7_rock_26 (by decide) ?_
    obtain rfl := Option.some.inj hf
    exact g_iret k r dX7_rock_30 ⟨rfl, rfl⟩
abbrev rmX7_next : Room := { frames := 5, cells := 0, slots := 0, locals := 124 }
def fX7_next (N : Nat) (va0_canal_people : Int32) (va0_canal_sayings : Int32) (va0_canal_kind : Nat → Int32) (va0_canal_weight : Nat → Int32) (va0_canal_now_minute : Int32) (va0_canal_now_juice : Nat → Int32) (va0_canal_now_fors : Nat → Int32) (x1 : Int32) : Option (Int32) :=
  bnd (fX7_within N x1 0 1) fun o1 =>
  if o1 = 0 then
  some ((-1))
  else
  bnd (fX0_mostRocking N va0_canal_people va0_canal_sayings va0_canal_kind va0_canal_weight va0_canal_now_minute va0_canal_now_juice va0_canal_now_fors) fun o4 =>
  bnd (fX0_hasSaying N va0_canal_sayings o4) fun o6 =>
  if o6 = 0 then
  some ((-4))
  else
  if x1 = 0 then
  some (o4)
  else
  bnd (fX0_sayingRocks N va0_canal_people va0_canal_kind va0_canal_weight va0_canal_now_minute va0_canal_now_juice va0_canal_now_fors o4) fun o10 =>
  some (o10)
set_option maxHeartbeats 4000000 in
set_option maxRecDepth 100000 in
theorem ctX7_next (l : Launch) (E : Ev) (N : Nat) (a0 : Nat) (a0_canal : Nat) (a0_history : Nat) (a0_imageCanal : Nat) (a0_imageHistory : Nat) (a0_tape : Nat) (a0_foreteller : Nat) (a0_search : Nat) (a0_sheets : Nat) (a0_canal_kind : Nat) (a0_canal_weight : Nat) (a0_canal_now : Nat) (a0_canal_now_ice : Nat) (a0_canal_now_juice : Nat) (a0_canal_now_fors : Nat) (va0_hasImage : Int32) (va0_canal_cells : Int32) (va0_canal_people : Int32) (va0_canal_sayings : Int32) (va0_canal_frost : Int32) (va0_canal_kind : Nat → Int32) (va0_canal_weight : Nat → Int32) (va0_canal_now_boat : Int32) (va0_canal_now_minute : Int32) (va0_canal_now_draw : Int32) (va0_canal_now_juice : Nat → Int32) (va0_canal_now_fors : Nat → Int32) (x1 : Int32) (out : Int32) (hf : fX7_next N va0_canal_people va0_canal_sayings va0_canal_kind va0_canal_weight va0_canal_now_minute va0_canal_now_juice va0_canal_now_fors x1 = some out) : Ct l E yX7_next cX7_next 3 (some .int) rmX7_next [.ref a0, .int x1] [(a0, oB 7 [.ref a0_canal, .ref a0_history, .ref a0_imageCanal, .ref a0_imageHistory, .int va0_hasImage, .ref a0_tape, .ref a0_foreteller, .ref a0_search, .ref a0_sheets]), (a0_canal, oB 0 [.ref a0_canal_kind, .ref a0_canal_weight, .ref a0_canal_now, .int va0_canal_cells, .int va0_canal_people, .int va0_canal_sayings, .int va0_canal_frost]), (a0_canal_kind, aI E 6 va0_canal_kind), (a0_canal_weight, aI E 6 va0_canal_weight), (a0_canal_now, oB 3 [.ref a0_canal_now_ice, .ref a0_canal_now_juice, .ref a0_canal_now_fors, .int va0_canal_now_boat, .int va0_canal_now_minute, .int va0_canal_now_draw]), (a0_canal_now_juice, aI E 5 va0_canal_now_juice), (a0_canal_now_fors, aI E 5 va0_canal_now_fors)] (Pe (some (.int out)) [(a0, oB 7 [.ref a0_canal, .ref a0_history, .ref a0_imageCanal, .ref a0_imageHistory, .int va0_hasImage, .ref a0_tape, .ref a0_foreteller, .ref a0_search, .ref a0_sheets]), (a0_canal, oB 0 [.ref a0_canal_kind, .ref a0_canal_weight, .ref a0_canal_now, .int va0_canal_cells, .int va0_canal_people, .int va0_canal_sayings, .int va0_canal_frost]), (a0_canal_kind, aI E 6 va0_canal_kind), (a0_canal_weight, aI E 6 va0_canal_weight), (a0_canal_now, oB 3 [.ref a0_canal_now_ice, .ref a0_canal_now_juice, .ref a0_canal_now_fors, .int va0_canal_now_boat, .int va0_canal_now_minute, .int va0_canal_now_draw]), (a0_canal_now_juice, aI E 5 va0_canal_now_juice), (a0_canal_now_fors, aI E 5 va0_canal_now_fors)]) := by
  refine Ct.of rfl (Nat.le_of_ble_eq_true rfl) (fun K hL k r hin => ?_)
  subst hL
  unfold fX7_next at hf
  show G E K 3 0 0 [(0, .ref a0), (1, .int x1)] [] [(a0, oB 7 [.ref a0_canal, .ref a0_history, .ref a0_imageCanal, .ref a0_imageHistory, .int va0_hasImage, .ref a0_tape, .ref a0_foreteller, .ref a0_search, .ref a0_sheets]), (a0_canal, oB 0 [.ref a0_canal_kind, .ref a0_canal_weight, .ref a0_canal_now, .int va0_canal_cells, .int va0_canal_people, .int va0_canal_sayings, .int va0_canal_frost]), (a0_canal_kind, aI E 6 va0_canal_kind), (a0_canal_weight, aI E 6 va0_canal_weight), (a0_canal_now, oB 3 [.ref a0_canal_now_ice, .ref a0_canal_now_juice, .ref a0_canal_now_fors, .int va0_canal_now_boat, .int va0_canal_now_minute, .int va0_canal_now_draw]), (a0_canal_now_juice, aI E 5 va0_canal_now_juice), (a0_canal_now_fors, aI E 5 va0_canal_now_fors)] 0
  refine g_iload_n k 1 dX7_next_0 rfl rfl ?_
  refine g_iconst k dX7_next_1 ic_0 ?_
  refine g_iconst k dX7_next_2 ic_1 ?_
  obtain ⟨o1, ho2, hf⟩ := bnd_some hf
  refine g_cs k miX7_within msX7_within (ctX7_within (kL K) E N   x1 0 1 o1 ho2) [] (ws' := [(a0, oB 7 [.ref a0_canal, .ref a0_history, .ref a0_imageCanal, .ref a0_imageHistory, .int va0_hasImage, .ref a0_tape, .ref a0_foreteller, .ref a0_search, .ref a0_sheets]), (a0_canal, oB 0 [.ref a0_canal_kind, .ref a0_canal_weight, .ref a0_canal_now, .int va0_canal_cells, .int va0_canal_people, .int va0_canal_sayings, .int va0_canal_frost]), (a0_canal_kind, aI E 6 va0_canal_kind), (a0_canal_weight, aI E 6 va0_canal_weight), (a0_canal_now, oB 3 [.ref a0_canal_now_ice, .ref a0_canal_now_juice, .ref a0_canal_now_fors, .int va0_canal_now_boat, .int va0_canal_now_minute, .int va0_canal_now_draw]), (a0_canal_now_juice, aI E 5 va0_canal_now_juice), (a0_canal_now_fors, aI E 5 va0_canal_now_fors)]) dX7_next_3 lkX7_61 rfl ⟨rfl, rfl⟩ ⟨by decide, by decide⟩ rfl rfl rfl (Nat.le_of_ble_eq_true rfl) rfl rfl rfl ?_
  refine g_st (st' := [.int o1]) rfl ?_
  refine g_if_ne k (tgt := 11) dX7_next_6 (by decide) (fun c3 => ?_) (fun c3 => ?_)
  · replace hf := ite_f c3 hf
    refine g_aload_n k 0 dX7_next_11 rfl rfl ?_
    refine g_get k cfX7 0 0 dX7_next_12 lkX7_10 (by decide) rfl rfl ?_
    refine g_aload_n k 0 dX7_next_15 rfl rfl ?_
    refine g_get k cfX7 0 0 dX7_next_16 lkX7_10 (by decide) rfl rfl ?_
    refine g_get k cfX0 2 1 dX7_next_19 lkX7_97 (by decide) rfl rfl ?_
    obtain ⟨o4, ho5, hf⟩ := bnd_some hf
    refine g_cv k miX0_mostRocking mvX0_mostRocking (ctX0_mostRocking (kL K) E N a0_canal a0_canal_kind a0_canal_weight a0_canal_now a0_canal_now a0_canal_now_ice a0_canal_now_juice a0_canal_now_fors va0_canal_cells va0_canal_people va0_canal_sayings va0_canal_frost va0_canal_kind va0_canal_weight va0_canal_now_boat va0_canal_now_minute va0_canal_now_draw va0_canal_now_juice va0_canal_now_fors  o4 ho5) [1, 2, 3, 4, 5, 6] 0 (ws' := [(a0, oB 7 [.ref a0_canal, .ref a0_history, .ref a0_imageCanal, .ref a0_imageHistory, .int va0_hasImage, .ref a0_tape, .ref a0_foreteller, .ref a0_search, .ref a0_sheets]), (a0_canal, oB 0 [.ref a0_canal_kind, .ref a0_canal_weight, .ref a0_canal_now, .int va0_canal_cells, .int va0_canal_people, .int va0_canal_sayings, .int va0_canal_frost]), (a0_canal_kind, aI E 6 va0_canal_kind), (a0_canal_weight, aI E 6 va0_canal_weight), (a0_canal_now, oB 3 [.ref a0_canal_now_ice, .ref a0_canal_now_juice, .ref a0_canal_now_fors, .int va0_canal_now_boat, .int va0_canal_now_minute, .int va0_canal_now_draw]), (a0_canal_now_juice, aI E 5 va0_canal_now_juice), (a0_canal_now_fors, aI E 5 va0_canal_now_fors)]) dX7_next_22 lkX7_200 rfl ⟨rfl, rfl⟩ ⟨by decide, by decide⟩ rfl rfl rfl rfl (Nat.le_of_ble_eq_true rfl) rfl rfl rfl ?_
    refine g_st (st' := [.int o4]) rfl ?_
    refine g_istore_n k (lv' := [(2, .int o4), (0, .ref a0), (1, .int x1)]) dX7_next_25 rfl (by decide) rfl ?_
    refine g_aload_n k 1 dX7_next_26 rfl rfl ?_
    refine g_get k cfX7 0 0 dX7_next_27 lkX7_10 (by decide) rfl rfl ?_
    refine g_iload_n k 0 dX7_next_30 rfl rfl ?_
    obtain ⟨o6, ho7, hf⟩ := bnd_some hf
    refine g_cv k miX0_hasSaying mvX0_hasSaying (ctX0_hasSaying (kL K) E N a0_canal a0_canal_kind a0_canal_weight a0_canal_now va0_canal_cells va0_canal_people va0_canal_sayings va0_canal_frost o4 o6 ho7) [1] 0 (ws' := [(a0, oB 7 [.ref a0_canal, .ref a0_history, .ref a0_imageCanal, .ref a0_imageHistory, .int va0_hasImage, .ref a0_tape, .ref a0_foreteller, .ref a0_search, .ref a0_sheets]), (a0_canal, oB 0 [.ref a0_canal_kind, .ref a0_canal_weight, .ref a0_canal_now, .int va0_canal_cells, .int va0_canal_people, .int va0_canal_sayings, .int va0_canal_frost]), (a0_canal_kind, aI E 6 va0_canal_kind), (a0_canal_weight, aI E 6 va0_canal_weight), (a0_canal_now, oB 3 [.ref a0_canal_now_ice, .ref a0_canal_now_juice, .ref a0_canal_now_fors, .int va0_canal_now_boat, .int va0_canal_now_minute, .int va0_canal_now_draw]), (a0_canal_now_juice, aI E 5 va0_canal_now_juice), (a0_canal_now_fors, aI E 5 va0_canal_now_fors)]) dX7_next_31 lkX7_119 rfl ⟨rfl, rfl⟩ ⟨by decide, by decide⟩ rfl rfl rfl rfl (Nat.le_of_ble_eq_true rfl) rfl rfl rfl ?_
    refine g_st (st' := [.int o6]) rfl ?_
    refine g_if_ne k (tgt := 40) dX7_next_34 (by decide) (fun c8 => ?_) (fun c8 => ?_)
    · replace hf := ite_f c8 hf
      refine g_iload_n k 2 dX7_next_40 rfl rfl ?_
      refine g_if_ne k (tgt := 48) dX7_next_41 (by decide) (fun c9 => ?_) (fun c9 => ?_)
      · replace hf := ite_f c9 hf
        refine g_aload_n k 1 dX7_next_48 rfl rfl ?_
        refine g_get k cfX7 0 0 dX7_next_49 lkX7_10 (by decide) rfl rfl ?_
        refine g_aload_n k 1 dX7_next_52 rfl rfl ?_
        refine g_get k cfX7 0 0 dX7_next_53 lkX7_10 (by decide) rfl rfl ?_
        refine g_get k cfX0 2 1 dX7_next_56 lkX7_97 (by decide) rfl rfl ?_
        refine g_iload_n k 0 dX7_next_59 rfl rfl ?_
        obtain ⟨o10, ho11, hf⟩ := bnd_some hf
        refine g_cv k miX0_sayingRocks mvX0_sayingRocks (ctX0_sayingRocks (kL K) E N a0_canal a0_canal_kind a0_canal_weight a0_canal_now a0_canal_now a0_canal_now_ice a0_canal_now_juice a0_canal_now_fors va0_canal_cells va0_canal_people va0_canal_sayings va0_canal_frost va0_canal_kind va0_canal_weight va0_canal_now_boat va0_canal_now_minute va0_canal_now_draw va0_canal_now_juice va0_canal_now_fors o4 o10 ho11) [1, 2, 3, 4, 5, 6] 0 (ws' := [(a0, oB 7 [.ref a0_canal, .ref a0_history, .ref a0_imageCanal, .ref a0_imageHistory, .int va0_hasImage, .ref a0_tape, .ref a0_foreteller, .ref a0_search, .ref a0_sheets]), (a0_canal, oB 0 [.ref a0_canal_kind, .ref a0_canal_weight, .ref a0_canal_now, .int va0_canal_cells, .int va0_canal_people, .int va0_canal_sayings, .int va0_canal_frost]), (a0_canal_kind, aI E 6 va0_canal_kind), (a0_canal_weight, aI E 6 va0_canal_weight), (a0_canal_now, oB 3 [.ref a0_canal_now_ice, .ref a0_canal_now_juice, .ref a0_canal_now_fors, .int va0_canal_now_boat, .int va0_canal_now_minute, .int va0_canal_now_draw]), (a0_canal_now_juice, aI E 5 va0_canal_now_juice), (a0_canal_now_fors, aI E 5 va0_canal_now_fors)]) dX7_next_60 lkX7_196 rfl ⟨rfl, rfl⟩ ⟨by decide, by decide⟩ rfl rfl rfl rfl (Nat.le_of_ble_eq_true rfl) rfl rfl rfl ?_
        refine g_st (st' := [.int o10]) rfl ?_
        obtain rfl := Option.some.inj hf
        exact g_iret k r dX7_next_63 ⟨rfl, rfl⟩
      · replace hf := ite_t c9 hf
        refine g_iload_n k 0 dX7_next_44 rfl rfl ?_
        refine g_goto k (tgt := 63) dX7_next_45 (by decide) ?_
        obtain rfl := Option.some.inj hf
        exact g_iret k r dX7_next_63 ⟨rfl, rfl⟩
    · replace hf := ite_t c8 hf
      refine g_bipush k dX7_next_37 bi_m4 ?_
      obtain rfl := Option.some.inj hf
      exact g_iret k r dX7_next_39 ⟨rfl, rfl⟩
  · replace hf := ite_t c3 hf
    refine g_iconst k dX7_next_9 ic_m1 ?_
    obtain rfl := Option.some.inj hf
    exact g_iret k r dX7_next_10 ⟨rfl, rfl⟩
abbrev rmX7_greedy : Room := { frames := 6, cells := 0, slots := 0, locals := 147 }
def fX7_greedy (N : Nat) (va0_canal_cells : Int32) (va0_canal_people : Int32) (va0_canal_sayings : Int32) (va0_canal_frost : Int32) (va0_canal_kind : Nat → Int32) (va0_canal_weight : Nat → Int32) (va0_canal_now_boat : Int32) (va0_canal_now_minute : Int32) (va0_canal_now_draw : Int32) (va0_canal_now_ice : Nat → Int32) (va0_canal_now_juice : Nat → Int32) (va0_canal_now_fors : Nat → Int32) (va0_foreteller_then_boat : Int32) (va0_foreteller_then_minute : Int32) (va0_foreteller_then_draw : Int32) (va0_foreteller_then_ice : Nat → Int32) (va0_foreteller_then_juice : Nat → Int32) (va0_foreteller_then_fors : Nat → Int32) (x1 : Int32) (x2 : Int32) : Option (Int32 × Int32 × Int32 × Int32 × (Nat → Int32) × (Nat → Int32) × (Nat → Int32)) :=
  bnd (fX7_within N x1 0 99) fun o1 =>
  if o1 = 0 then
  some ((-1), va0_foreteller_then_boat, va0_foreteller_then_minute, va0_foreteller_then_draw, va0_foreteller_then_ice, va0_foreteller_then_juice, va0_foreteller_then_fors)
  else
  bnd (fX7_within N x2 0 1) fun o4 =>
  if o4 = 0 then
  some ((-1), va0_foreteller_then_boat, va0_foreteller_then_minute, va0_foreteller_then_draw, va0_foreteller_then_ice, va0_foreteller_then_juice, va0_foreteller_then_fors)
  else
  bnd (fX1_greedyFor N va0_foreteller_then_boat va0_foreteller_then_minute va0_foreteller_then_draw va0_foreteller_then_ice va0_foreteller_then_juice va0_foreteller_then_fors va0_canal_cells va0_canal_people va0_canal_sayings va0_canal_frost va0_canal_kind va0_canal_weight va0_canal_now_boat va0_canal_now_minute va0_canal_now_draw va0_canal_now_ice va0_canal_now_juice va0_canal_now_fors x1) fun o7 =>
  if x2 = 0 then
  some (o7.1, o7.1, o7.2.1, o7.2.2.1, o7.2.2.2.1, o7.2.2.2.2.1, o7.2.2.2.2.2)
  else
  bnd (fX0_iceAhead N va0_canal_cells o7.1 o7.2.2.2.1) fun o10 =>
  some (o10, o7.1, o7.2.1, o7.2.2.1, o7.2.2.2.1, o7.2.2.2.2.1, o7.2.2.2.2.2)
set_option maxHeartbeats 4000000 in
set_option maxRecDepth 100000 in
theorem ctX7_greedy (l : Launch) (E : Ev) (N : Nat) (a0 : Nat) (a0_canal : Nat) (a0_history : Nat) (a0_imageCanal : Nat) (a0_imageHistory : Nat) (a0_tape : Nat) (a0_foreteller : Nat) (a0_search : Nat) (a0_sheets : Nat) (a0_canal_kind : Nat) (a0_canal_weight : Nat) (a0_canal_now : Nat) (a0_canal_now_ice : Nat) (a0_canal_now_juice : Nat) (a0_canal_now_fors : Nat) (a0_foreteller_then : Nat) (a0_foreteller_marks : Nat) (a0_foreteller_then_ice : Nat) (a0_foreteller_then_juice : Nat) (a0_foreteller_then_fors : Nat) (va0_hasImage : Int32) (va0_canal_cells : Int32) (va0_canal_people : Int32) (va0_canal_sayings : Int32) (va0_canal_frost : Int32) (va0_canal_kind : Nat → Int32) (va0_canal_weight : Nat → Int32) (va0_canal_now_boat : Int32) (va0_canal_now_minute : Int32) (va0_canal_now_draw : Int32) (va0_canal_now_ice : Nat → Int32) (va0_canal_now_juice : Nat → Int32) (va0_canal_now_fors : Nat → Int32) (va0_foreteller_then_boat : Int32) (va0_foreteller_then_minute : Int32) (va0_foreteller_then_draw : Int32) (va0_foreteller_then_ice : Nat → Int32) (va0_foreteller_then_juice : Nat → Int32) (va0_foreteller_then_fors : Nat → Int32) (x1 : Int32) (x2 : Int32) (out : Int32 × Int32 × Int32 × Int32 × (Nat → Int32) × (Nat → Int32) × (Nat → Int32)) (hf : fX7_greedy N va0_canal_cells va0_canal_people va0_canal_sayings va0_canal_frost va0_canal_kind va0_canal_weight va0_canal_now_boat va0_canal_now_minute va0_canal_now_draw va0_canal_now_ice va0_canal_now_juice va0_canal_now_fors va0_foreteller_then_boat va0_foreteller_then_minute va0_foreteller_then_draw va0_foreteller_then_ice va0_foreteller_then_juice va0_foreteller_then_fors x1 x2 = some out) : Ct l E yX7_greedy cX7_greedy 4 (some .int) rmX7_greedy [.ref a0, .int x1, .int x2] [(a0, oB 7 [.ref a0_canal, .ref a0_history, .ref a0_imageCanal, .ref a0_imageHistory, .int va0_hasImage, .ref a0_tape, .ref a0_foreteller, .ref a0_search, .ref a0_sheets]), (a0_canal, oB 0 [.ref a0_canal_kind, .ref a0_canal_weight, .ref a0_canal_now, .int va0_canal_cells, .int va0_canal_people, .int va0_canal_sayings, .int va0_canal_frost]), (a0_canal_kind, aI E 6 va0_canal_kind), (a0_canal_weight, aI E 6 va0_canal_weight), (a0_canal_now, oB 3 [.ref a0_canal_now_ice, .ref a0_canal_now_juice, .ref a0_canal_now_fors, .int va0_canal_now_boat, .int va0_canal_now_minute, .int va0_canal_now_draw]), (a0_canal_now_ice, aI E 12 va0_canal_now_ice), (a0_canal_now_juice, aI E 5 va0_canal_now_juice), (a0_canal_now_fors, aI E 5 va0_canal_now_fors), (a0_foreteller, oB 1 [.ref a0_foreteller_then, .ref a0_foreteller_marks]), (a0_foreteller_then, oB 3 [.ref a0_foreteller_then_ice, .ref a0_foreteller_then_juice, .ref a0_foreteller_then_fors, .int va0_foreteller_then_boat, .int va0_foreteller_then_minute, .int va0_foreteller_then_draw]), (a0_foreteller_then_ice, aI E 12 va0_foreteller_then_ice), (a0_foreteller_then_juice, aI E 5 va0_foreteller_then_juice), (a0_foreteller_then_fors, aI E 5 va0_foreteller_then_fors)] (Pe (some (.int out.1)) [(a0, oB 7 [.ref a0_canal, .ref a0_history, .ref a0_imageCanal, .ref a0_imageHistory, .int va0_hasImage, .ref a0_tape, .ref a0_foreteller, .ref a0_search, .ref a0_sheets]), (a0_canal, oB 0 [.ref a0_canal_kind, .ref a0_canal_weight, .ref a0_canal_now, .int va0_canal_cells, .int va0_canal_people, .int va0_canal_sayings, .int va0_canal_frost]), (a0_canal_kind, aI E 6 va0_canal_kind), (a0_canal_weight, aI E 6 va0_canal_weight), (a0_canal_now, oB 3 [.ref a0_canal_now_ice, .ref a0_canal_now_juice, .ref a0_canal_now_fors, .int va0_canal_now_boat, .int va0_canal_now_minute, .int va0_canal_now_draw]), (a0_canal_now_ice, aI E 12 va0_canal_now_ice), (a0_canal_now_juice, aI E 5 va0_canal_now_juice), (a0_canal_now_fors, aI E 5 va0_canal_now_fors), (a0_foreteller, oB 1 [.ref a0_foreteller_then, .ref a0_foreteller_marks]), (a0_foreteller_then, oB 3 [.ref a0_foreteller_then_ice, .ref a0_foreteller_then_juice, .ref a0_foreteller_then_fors, .int out.2.1, .int out.2.2.1, .int out.2.2.2.1]), (a0_foreteller_then_ice, aI E 12 out.2.2.2.2.1), (a0_foreteller_then_juice, aI E 5 out.2.2.2.2.2.1), (a0_foreteller_then_fors, aI E 5 out.2.2.2.2.2.2)]) := by
  refine Ct.of rfl (Nat.le_of_ble_eq_true rfl) (fun K hL k r hin => ?_)
  subst hL
  unfold fX7_greedy at hf
  show G E K 4 0 0 [(0, .ref a0), (1, .int x1), (2, .int x2)] [] [(a0, oB 7 [.ref a0_canal, .ref a0_history, .ref a0_imageCanal, .ref a0_imageHistory, .int va0_hasImage, .ref a0_tape, .ref a0_foreteller, .ref a0_search, .ref a0_sheets]), (a0_canal, oB 0 [.ref a0_canal_kind, .ref a0_canal_weight, .ref a0_canal_now, .int va0_canal_cells, .int va0_canal_people, .int va0_canal_sayings, .int va0_canal_frost]), (a0_canal_kind, aI E 6 va0_canal_kind), (a0_canal_weight, aI E 6 va0_canal_weight), (a0_canal_now, oB 3 [.ref a0_canal_now_ice, .ref a0_canal_now_juice, .ref a0_canal_now_fors, .int va0_canal_now_boat, .int va0_canal_now_minute, .int va0_canal_now_draw]), (a0_canal_now_ice, aI E 12 va0_canal_now_ice), (a0_canal_now_juice, aI E 5 va0_canal_now_juice), (a0_canal_now_fors, aI E 5 va0_canal_now_fors), (a0_foreteller, oB 1 [.ref a0_foreteller_then, .ref a0_foreteller_marks]), (a0_foreteller_then, oB 3 [.ref a0_foreteller_then_ice, .ref a0_foreteller_then_juice, .ref a0_foreteller_then_fors, .int va0_foreteller_then_boat, .int va0_foreteller_then_minute, .int va0_foreteller_then_draw]), (a0_foreteller_then_ice, aI E 12 va0_foreteller_then_ice), (a0_foreteller_then_juice, aI E 5 va0_foreteller_then_juice), (a0_foreteller_then_fors, aI E 5 va0_foreteller_then_fors)] 0
  refine g_iload_n k 1 dX7_greedy_0 rfl rfl ?_
  refine g_iconst k dX7_greedy_1 ic_0 ?_
  refine g_bipush k dX7_greedy_2 bi_99 ?_
  obtain ⟨o1, ho2, hf⟩ := bnd_some hf
  refine g_cs k miX7_within msX7_within (ctX7_within (kL K) E N   x1 0 99 o1 ho2) [] (ws' := [(a0, oB 7 [.ref a0_canal, .ref a0_history, .ref a0_imageCanal, .ref a0_imageHistory, .int va0_hasImage, .ref a0_tape, .ref a0_foreteller, .ref a0_search, .ref a0_sheets]), (a0_canal, oB 0 [.ref a0_canal_kind, .ref a0_canal_weight, .ref a0_canal_now, .int va0_canal_cells, .int va0_canal_people, .int va0_canal_sayings, .int va0_canal_frost]), (a0_canal_kind, aI E 6 va0_canal_kind), (a0_canal_weight, aI E 6 va0_canal_weight), (a0_canal_now, oB 3 [.ref a0_canal_now_ice, .ref a0_canal_now_juice, .ref a0_canal_now_fors, .int va0_canal_now_boat, .int va0_canal_now_minute, .int va0_canal_now_draw]), (a0_canal_now_ice, aI E 12 va0_canal_now_ice), (a0_canal_now_juice, aI E 5 va0_canal_now_juice), (a0_canal_now_fors, aI E 5 va0_canal_now_fors), (a0_foreteller, oB 1 [.ref a0_foreteller_then, .ref a0_foreteller_marks]), (a0_foreteller_then, oB 3 [.ref a0_foreteller_then_ice, .ref a0_foreteller_then_juice, .ref a0_foreteller_then_fors, .int va0_foreteller_then_boat, .int va0_foreteller_then_minute, .int va0_foreteller_then_draw]), (a0_foreteller_then_ice, aI E 12 va0_foreteller_then_ice), (a0_foreteller_then_juice, aI E 5 va0_foreteller_then_juice), (a0_foreteller_then_fors, aI E 5 va0_foreteller_then_fors)]) dX7_greedy_4 lkX7_61 rfl ⟨rfl, rfl⟩ ⟨by decide, by decide⟩ rfl rfl rfl (Nat.le_of_ble_eq_true rfl) rfl rfl rfl ?_
  refine g_st (st' := [.int o1]) rfl ?_
  refine g_if_eq k (tgt := 19) dX7_greedy_7 (by decide) (fun c3 => ?_) (fun c3 => ?_)
  · replace hf := ite_t c3 hf
    refine g_iconst k dX7_greedy_19 ic_m1 ?_
    obtain rfl := Option.some.inj hf
    exact g_iret k r dX7_greedy_20 ⟨rfl, rfl⟩
  · replace hf := ite_f c3 hf
    refine g_iload_n k 2 dX7_greedy_10 rfl rfl ?_
    refine g_iconst k dX7_greedy_11 ic_0 ?_
    refine g_iconst k dX7_greedy_12 ic_1 ?_
    obtain ⟨o4, ho5, hf⟩ := bnd_some hf
    refine g_cs k miX7_within msX7_within (ctX7_within (kL K) E N   x2 0 1 o4 ho5) [] (ws' := [(a0, oB 7 [.ref a0_canal, .ref a0_history, .ref a0_imageCanal, .ref a0_imageHistory, .int va0_hasImage, .ref a0_tape, .ref a0_foreteller, .ref a0_search, .ref a0_sheets]), (a0_canal, oB 0 [.ref a0_canal_kind, .ref a0_canal_weight, .ref a0_canal_now, .int va0_canal_cells, .int va0_canal_people, .int va0_canal_sayings, .int va0_canal_frost]), (a0_canal_kind, aI E 6 va0_canal_kind), (a0_canal_weight, aI E 6 va0_canal_weight), (a0_canal_now, oB 3 [.ref a0_canal_now_ice, .ref a0_canal_now_juice, .ref a0_canal_now_fors, .int va0_canal_now_boat, .int va0_canal_now_minute, .int va0_canal_now_draw]), (a0_canal_now_ice, aI E 12 va0_canal_now_ice), (a0_canal_now_juice, aI E 5 va0_canal_now_juice), (a0_canal_now_fors, aI E 5 va0_canal_now_fors), (a0_foreteller, oB 1 [.ref a0_foreteller_then, .ref a0_foreteller_marks]), (a0_foreteller_then, oB 3 [.ref a0_foreteller_then_ice, .ref a0_foreteller_then_juice, .ref a0_foreteller_then_fors, .int va0_foreteller_then_boat, .int va0_foreteller_then_minute, .int va0_foreteller_then_draw]), (a0_foreteller_then_ice, aI E 12 va0_foreteller_then_ice), (a0_foreteller_then_juice, aI E 5 va0_foreteller_then_juice), (a0_foreteller_then_fors, aI E 5 va0_foreteller_then_fors)]) dX7_greedy_13 lkX7_61 rfl ⟨rfl, rfl⟩ ⟨by decide, by decide⟩ rfl rfl rfl (Nat.le_of_ble_eq_true rfl) rfl rfl rfl ?_
    refine g_st (st' := [.int o4]) rfl ?_
    refine g_if_ne k (tgt := 21) dX7_greedy_16 (by decide) (fun c6 => ?_) (fun c6 => ?_)
    · replace hf := ite_f c6 hf
      refine g_aload_n k 0 dX7_greedy_21 rfl rfl ?_
      refine g_get k cfX7 6 0 dX7_greedy_22 lkX7_43 (by decide) rfl rfl ?_
      refine g_aload_n k 0 dX7_greedy_25 rfl rfl ?_
      refine g_get k cfX7 0 0 dX7_greedy_26 lkX7_10 (by decide) rfl rfl ?_
      refine g_iload_n k 1 dX7_greedy_29 rfl rfl ?_
      obtain ⟨o7, ho8, hf⟩ := bnd_some hf
      refine g_cv k miX1_greedyFor mvX1_greedyFor (ctX1_greedyFor (kL K) E N a0_foreteller a0_foreteller_then a0_foreteller_marks a0_foreteller_then_ice a0_foreteller_then_juice a0_foreteller_then_fors a0_canal a0_canal_kind a0_canal_weight a0_canal_now a0_canal_now_ice a0_canal_now_juice a0_canal_now_fors va0_foreteller_then_boat va0_foreteller_then_minute va0_foreteller_then_draw va0_foreteller_then_ice va0_foreteller_then_juice va0_foreteller_then_fors va0_canal_cells va0_canal_people va0_canal_sayings va0_canal_frost va0_canal_kind va0_canal_weight va0_canal_now_boat va0_canal_now_minute va0_canal_now_draw va0_canal_now_ice va0_canal_now_juice va0_canal_now_fors x1 o7 ho8) [8, 9, 10, 11, 12, 1, 2, 3, 4, 5, 6, 7] 0 (ws' := [(a0, oB 7 [.ref a0_canal, .ref a0_history, .ref a0_imageCanal, .ref a0_imageHistory, .int va0_hasImage, .ref a0_tape, .ref a0_foreteller, .ref a0_search, .ref a0_sheets]), (a0_canal, oB 0 [.ref a0_canal_kind, .ref a0_canal_weight, .ref a0_canal_now, .int va0_canal_cells, .int va0_canal_people, .int va0_canal_sayings, .int va0_canal_frost]), (a0_canal_kind, aI E 6 va0_canal_kind), (a0_canal_weight, aI E 6 va0_canal_weight), (a0_canal_now, oB 3 [.ref a0_canal_now_ice, .ref a0_canal_now_juice, .ref a0_canal_now_fors, .int va0_canal_now_boat, .int va0_canal_now_minute, .int va0_canal_now_draw]), (a0_canal_now_ice, aI E 12 va0_canal_now_ice), (a0_canal_now_juice, aI E 5 va0_canal_now_juice), (a0_canal_now_fors, aI E 5 va0_canal_now_fors), (a0_foreteller, oB 1 [.ref a0_foreteller_then, .ref a0_foreteller_marks]), (a0_foreteller_then, oB 3 [.ref a0_foreteller_then_ice, .ref a0_foreteller_then_juice, .ref a0_foreteller_then_fors, .int o7.1, .int o7.2.1, .int o7.2.2.1]), (a0_foreteller_then_ice, aI E 12 o7.2.2.2.1), (a0_foreteller_then_juice, aI E 5 o7.2.2.2.2.1), (a0_foreteller_then_fors, aI E 5 o7.2.2.2.2.2)]) dX7_greedy_30 lkX7_204 rfl ⟨rfl, rfl⟩ ⟨by decide, by decide⟩ rfl rfl rfl rfl (Nat.le_of_ble_eq_true rfl) rfl rfl rfl ?_
      refine g_st (st' := [.ref a0_foreteller_then]) rfl ?_
      refine g_astore_n k (lv' := [(3, .ref a0_foreteller_then), (0, .ref a0), (1, .int x1), (2, .int x2)]) dX7_greedy_33 rfl (by decide) rfl ?_
      refine g_iload_n k 3 dX7_greedy_34 rfl rfl ?_
      refine g_if_ne k (tgt := 45) dX7_greedy_35 (by decide) (fun c9 => ?_) (fun c9 => ?_)
      · replace hf := ite_f c9 hf
        refine g_aload_n k 1 dX7_greedy_45 rfl rfl ?_
        refine g_get k cfX7 0 0 dX7_greedy_46 lkX7_10 (by decide) rfl rfl ?_
        refine g_aload_n k 0 dX7_greedy_49 rfl rfl ?_
        obtain ⟨o10, ho11, hf⟩ := bnd_some hf
        refine g_cv k miX0_iceAhead mvX0_iceAhead (ctX0_iceAhead (kL K) E N a0_canal a0_canal_kind a0_canal_weight a0_canal_now a0_foreteller_then a0_foreteller_then_ice a0_foreteller_then_juice a0_foreteller_then_fors va0_canal_cells va0_canal_people va0_canal_sayings va0_canal_frost o7.1 o7.2.1 o7.2.2.1 o7.2.2.2.1  o10 ho11) [1, 9, 10] 0 (ws' := [(a0, oB 7 [.ref a0_canal, .ref a0_history, .ref a0_imageCanal, .ref a0_imageHistory, .int va0_hasImage, .ref a0_tape, .ref a0_foreteller, .ref a0_search, .ref a0_sheets]), (a0_canal, oB 0 [.ref a0_canal_kind, .ref a0_canal_weight, .ref a0_canal_now, .int va0_canal_cells, .int va0_canal_people, .int va0_canal_sayings, .int va0_canal_frost]), (a0_canal_kind, aI E 6 va0_canal_kind), (a0_canal_weight, aI E 6 va0_canal_weight), (a0_canal_now, oB 3 [.ref a0_canal_now_ice, .ref a0_canal_now_juice, .ref a0_canal_now_fors, .int va0_canal_now_boat, .int va0_canal_now_minute, .int va0_canal_now_draw]), (a0_canal_now_ice, aI E 12 va0_canal_now_ice), (a0_canal_now_juice, aI E 5 va0_canal_now_juice), (a0_canal_now_fors, aI E 5 va0_canal_now_fors), (a0_foreteller, oB 1 [.ref a0_foreteller_then, .ref a0_foreteller_marks]), (a0_foreteller_then, oB 3 [.ref a0_foreteller_then_ice, .ref a0_foreteller_then_juice, .ref a0_foreteller_then_fors, .int o7.1, .int o7.2.1, .int o7.2.2.1]), (a0_foreteller_then_ice, aI E 12 o7.2.2.2.1), (a0_foreteller_then_juice, aI E 5 o7.2.2.2.2.1), (a0_foreteller_then_fors, aI E 5 o7.2.2.2.2.2)]) dX7_greedy_50 lkX7_208 rfl ⟨rfl, rfl⟩ ⟨by decide, by decide⟩ rfl rfl rfl rfl (Nat.le_of_ble_eq_true rfl) rfl rfl rfl ?_
        refine g_st (st' := [.int o10]) rfl ?_
        obtain rfl := Option.some.inj hf
        exact g_iret k r dX7_greedy_53 ⟨rfl, rfl⟩
      · replace hf := ite_t c9 hf
        refine g_aload_n k 0 dX7_greedy_38 rfl rfl ?_
        refine g_get k cfX3 3 9 dX7_greedy_39 lkX7_159 (by decide) rfl rfl ?_
        refine g_goto k (tgt := 53) dX7_greedy_42 (by decide) ?_
        obtain rfl := Option.some.inj hf
        exact g_iret k r dX7_greedy_53 ⟨rfl, rfl⟩
    · replace hf := ite_t c6 hf
      refine g_iconst k dX7_greedy_19 ic_m1 ?_
      obtain rfl := Option.some.inj hf
      exact g_iret k r dX7_greedy_20 ⟨rfl, rfl⟩
abbrev rmX7_through : Room := { frames := 6, cells := 0, slots := 0, locals := 146 }
def fX7_through (N : Nat) (va0_canal_cells : Int32) (va0_canal_people : Int32) (va0_canal_sayings : Int32) (va0_canal_frost : Int32) (va0_canal_kind : Nat → Int32) (va0_canal_weight : Nat → Int32) (va0_canal_now_boat : Int32) (va0_canal_now_minute : Int32) (va0_canal_now_draw : Int32) (va0_canal_now_ice : Nat → Int32) (va0_canal_now_juice : Nat → Int32) (va0_canal_now_fors : Nat → Int32) (va0_foreteller_then_boat : Int32) (va0_foreteller_then_minute : Int32) (va0_foreteller_then_draw : Int32) (va0_foreteller_then_ice : Nat → Int32) (va0_foreteller_then_juice : Nat → Int32) (va0_foreteller_then_fors : Nat → Int32)  : Option (Int32 × Int32 × Int32 × Int32 × (Nat → Int32) × (Nat → Int32) × (Nat → Int32)) :=
  bnd (fX1_minutesUntilThrough N va0_foreteller_then_boat va0_foreteller_then_minute va0_foreteller_then_draw va0_foreteller_then_ice va0_foreteller_then_juice va0_foreteller_then_fors va0_canal_cells va0_canal_people va0_canal_sayings va0_canal_frost va0_canal_kind va0_canal_weight va0_canal_now_boat va0_canal_now_minute va0_canal_now_draw va0_canal_now_ice va0_canal_now_juice va0_canal_now_fors) fun o1 =>
  some (o1.1, o1.2.1, o1.2.2.1, o1.2.2.2.1, o1.2.2.2.2.1, o1.2.2.2.2.2.1, o1.2.2.2.2.2.2)
set_option maxHeartbeats 4000000 in
set_option maxRecDepth 100000 in
theorem ctX7_through (l : Launch) (E : Ev) (N : Nat) (a0 : Nat) (a0_canal : Nat) (a0_history : Nat) (a0_imageCanal : Nat) (a0_imageHistory : Nat) (a0_tape : Nat) (a0_foreteller : Nat) (a0_search : Nat) (a0_sheets : Nat) (a0_canal_kind : Nat) (a0_canal_weight : Nat) (a0_canal_now : Nat) (a0_canal_now_ice : Nat) (a0_canal_now_juice : Nat) (a0_canal_now_fors : Nat) (a0_foreteller_then : Nat) (a0_foreteller_marks : Nat) (a0_foreteller_then_ice : Nat) (a0_foreteller_then_juice : Nat) (a0_foreteller_then_fors : Nat) (va0_hasImage : Int32) (va0_canal_cells : Int32) (va0_canal_people : Int32) (va0_canal_sayings : Int32) (va0_canal_frost : Int32) (va0_canal_kind : Nat → Int32) (va0_canal_weight : Nat → Int32) (va0_canal_now_boat : Int32) (va0_canal_now_minute : Int32) (va0_canal_now_draw : Int32) (va0_canal_now_ice : Nat → Int32) (va0_canal_now_juice : Nat → Int32) (va0_canal_now_fors : Nat → Int32) (va0_foreteller_then_boat : Int32) (va0_foreteller_then_minute : Int32) (va0_foreteller_then_draw : Int32) (va0_foreteller_then_ice : Nat → Int32) (va0_foreteller_then_juice : Nat → Int32) (va0_foreteller_then_fors : Nat → Int32)  (out : Int32 × Int32 × Int32 × Int32 × (Nat → Int32) × (Nat → Int32) × (Nat → Int32)) (hf : fX7_through N va0_canal_cells va0_canal_people va0_canal_sayings va0_canal_frost va0_canal_kind va0_canal_weight va0_canal_now_boat va0_canal_now_minute va0_canal_now_draw va0_canal_now_ice va0_canal_now_juice va0_canal_now_fors va0_foreteller_then_boat va0_foreteller_then_minute va0_foreteller_then_draw va0_foreteller_then_ice va0_foreteller_then_juice va0_foreteller_then_fors  = some out) : Ct l E yX7_through cX7_through 1 (some .int) rmX7_through [.ref a0] [(a0, oB 7 [.ref a0_canal, .ref a0_history, .ref a0_imageCanal, .ref a0_imageHistory, .int va0_hasImage, .ref a0_tape, .ref a0_foreteller, .ref a0_search, .ref a0_sheets]), (a0_canal, oB 0 [.ref a0_canal_kind, .ref a0_canal_weight, .ref a0_canal_now, .int va0_canal_cells, .int va0_canal_people, .int va0_canal_sayings, .int va0_canal_frost]), (a0_canal_kind, aI E 6 va0_canal_kind), (a0_canal_weight, aI E 6 va0_canal_weight), (a0_canal_now, oB 3 [.ref a0_canal_now_ice, .ref a0_canal_now_juice, .ref a0_canal_now_fors, .int va0_canal_now_boat, .int va0_canal_now_minute, .int va0_canal_now_draw]), (a0_canal_now_ice, aI E 12 va0_canal_now_ice), (a0_canal_now_juice, aI E 5 va0_canal_now_juice), (a0_canal_now_fors, aI E 5 va0_canal_now_fors), (a0_foreteller, oB 1 [.ref a0_foreteller_then, .ref a0_foreteller_marks]), (a0_foreteller_then, oB 3 [.ref a0_foreteller_then_ice, .ref a0_foreteller_then_juice, .ref a0_foreteller_then_fors, .int va0_foreteller_then_boat, .int va0_foreteller_then_minute, .int va0_foreteller_then_draw]), (a0_foreteller_then_ice, aI E 12 va0_foreteller_then_ice), (a0_foreteller_then_juice, aI E 5 va0_foreteller_then_juice), (a0_foreteller_then_fors, aI E 5 va0_foreteller_then_fors)] (Pe (some (.int out.1)) [(a0, oB 7 [.ref a0_canal, .ref a0_history, .ref a0_imageCanal, .ref a0_imageHistory, .int va0_hasImage, .ref a0_tape, .ref a0_foreteller, .ref a0_search, .ref a0_sheets]), (a0_canal, oB 0 [.ref a0_canal_kind, .ref a0_canal_weight, .ref a0_canal_now, .int va0_canal_cells, .int va0_canal_people, .int va0_canal_sayings, .int va0_canal_frost]), (a0_canal_kind, aI E 6 va0_canal_kind), (a0_canal_weight, aI E 6 va0_canal_weight), (a0_canal_now, oB 3 [.ref a0_canal_now_ice, .ref a0_canal_now_juice, .ref a0_canal_now_fors, .int va0_canal_now_boat, .int va0_canal_now_minute, .int va0_canal_now_draw]), (a0_canal_now_ice, aI E 12 va0_canal_now_ice), (a0_canal_now_juice, aI E 5 va0_canal_now_juice), (a0_canal_now_fors, aI E 5 va0_canal_now_fors), (a0_foreteller, oB 1 [.ref a0_foreteller_then, .ref a0_foreteller_marks]), (a0_foreteller_then, oB 3 [.ref a0_foreteller_then_ice, .ref a0_foreteller_then_juice, .ref a0_foreteller_then_fors, .int out.2.1, .int out.2.2.1, .int out.2.2.2.1]), (a0_foreteller_then_ice, aI E 12 out.2.2.2.2.1), (a0_foreteller_then_juice, aI E 5 out.2.2.2.2.2.1), (a0_foreteller_then_fors, aI E 5 out.2.2.2.2.2.2)]) := by
  refine Ct.of rfl (Nat.le_of_ble_eq_true rfl) (fun K hL k r hin => ?_)
  subst hL
  unfold fX7_through at hf
  show G E K 1 0 0 [(0, .ref a0)] [] [(a0, oB 7 [.ref a0_canal, .ref a0_history, .ref a0_imageCanal, .ref a0_imageHistory, .int va0_hasImage, .ref a0_tape, .ref a0_foreteller, .ref a0_search, .ref a0_sheets]), (a0_canal, oB 0 [.ref a0_canal_kind, .ref a0_canal_weight, .ref a0_canal_now, .int va0_canal_cells, .int va0_canal_people, .int va0_canal_sayings, .int va0_canal_frost]), (a0_canal_kind, aI E 6 va0_canal_kind), (a0_canal_weight, aI E 6 va0_canal_weight), (a0_canal_now, oB 3 [.ref a0_canal_now_ice, .ref a0_canal_now_juice, .ref a0_canal_now_fors, .int va0_canal_now_boat, .int va0_canal_now_minute, .int va0_canal_now_draw]), (a0_canal_now_ice, aI E 12 va0_canal_now_ice), (a0_canal_now_juice, aI E 5 va0_canal_now_juice), (a0_canal_now_fors, aI E 5 va0_canal_now_fors), (a0_foreteller, oB 1 [.ref a0_foreteller_then, .ref a0_foreteller_marks]), (a0_foreteller_then, oB 3 [.ref a0_foreteller_then_ice, .ref a0_foreteller_then_juice, .ref a0_foreteller_then_fors, .int va0_foreteller_then_boat, .int va0_foreteller_then_minute, .int va0_foreteller_then_draw]), (a0_foreteller_then_ice, aI E 12 va0_foreteller_then_ice), (a0_foreteller_then_juice, aI E 5 va0_foreteller_then_juice), (a0_foreteller_then_fors, aI E 5 va0_foreteller_then_fors)] 0
  refine g_aload_n k 0 dX7_through_0 rfl rfl ?_
  refine g_get k cfX7 6 0 dX7_through_1 lkX7_43 (by decide) rfl rfl ?_
  refine g_aload_n k 0 dX7_through_4 rfl rfl ?_
  refine g_get k cfX7 0 0 dX7_through_5 lkX7_10 (by decide) rfl rfl ?_
  obtain ⟨o1, ho2, hf⟩ := bnd_some hf
  refine g_cv k miX1_minutesUntilThrough mvX1_minutesUntilThrough (ctX1_minutesUntilThrough (kL K) E N a0_foreteller a0_foreteller_then a0_foreteller_marks a0_foreteller_then_ice a0_foreteller_then_juice a0_foreteller_then_fors a0_canal a0_canal_kind a0_canal_weight a0_canal_now a0_canal_now_ice a0_canal_now_juice a0_canal_now_fors va0_foreteller_then_boat va0_foreteller_then_minute va0_foreteller_then_draw va0_foreteller_then_ice va0_foreteller_then_juice va0_foreteller_then_fors va0_canal_cells va0_canal_people va0_canal_sayings va0_canal_frost va0_canal_kind va0_canal_weight va0_canal_now_boat va0_canal_now_minute va0_canal_now_draw va0_canal_now_ice va0_canal_now_juice va0_canal_now_fors  o1 ho2) [8, 9, 10, 11, 12, 1, 2, 3, 4, 5, 6, 7] 0 (ws' := [(a0, oB 7 [.ref a0_canal, .ref a0_history, .ref a0_imageCanal, .ref a0_imageHistory, .int va0_hasImage, .ref a0_tape, .ref a0_foreteller, .ref a0_search, .ref a0_sheets]), (a0_canal, oB 0 [.ref a0_canal_kind, .ref a0_canal_weight, .ref a0_canal_now, .int va0_canal_cells, .int va0_canal_people, .int va0_canal_sayings, .int va0_canal_frost]), (a0_canal_kind, aI E 6 va0_canal_kind), (a0_canal_weight, aI E 6 va0_canal_weight), (a0_canal_now, oB 3 [.ref a0_canal_now_ice, .ref a0_canal_now_juice, .ref a0_canal_now_fors, .int va0_canal_now_boat, .int va0_canal_now_minute, .int va0_canal_now_draw]), (a0_canal_now_ice, aI E 12 va0_canal_now_ice), (a0_canal_now_juice, aI E 5 va0_canal_now_juice), (a0_canal_now_fors, aI E 5 va0_canal_now_fors), (a0_foreteller, oB 1 [.ref a0_foreteller_then, .ref a0_foreteller_marks]), (a0_foreteller_then, oB 3 [.ref a0_foreteller_then_ice, .ref a0_foreteller_then_juice, .ref a0_foreteller_then_fors, .int o1.2.1, .int o1.2.2.1, .int o1.2.2.2.1]), (a0_foreteller_then_ice, aI E 12 o1.2.2.2.2.1), (a0_foreteller_then_juice, aI E 5 o1.2.2.2.2.2.1), (a0_foreteller_then_fors, aI E 5 o1.2.2.2.2.2.2)]) dX7_through_8 lkX7_211 rfl ⟨rfl, rfl⟩ ⟨by decide, by decide⟩ rfl rfl rfl rfl (Nat.le_of_ble_eq_true rfl) rfl rfl rfl ?_
  refine g_st (st' := [.int o1.1]) rfl ?_
  obtain rfl := Option.some.inj hf
  exact g_iret k r dX7_through_11 ⟨rfl, rfl⟩
abbrev rmX7_crew : Room := { frames := 5, cells := 0, slots := 0, locals := 126 }
def fX7_crew (N : Nat) (va0_canal_people : Int32) (va0_canal_sayings : Int32) (va0_canal_kind : Nat → Int32) (va0_canal_weight : Nat → Int32) (va0_canal_now_minute : Int32) (va0_canal_now_juice : Nat → Int32) (va0_canal_now_fors : Nat → Int32) (x1 : Int32) (x2 : Int32) (x3 : Int32) : Option (Int32) :=
  bnd (fX0_hasSaying N va0_canal_sayings x1) fun o1 =>
  if o1 = 0 then
  some ((-1))
  else
  bnd (fX7_within N x2 1 6) fun o4 =>
  if o4 = 0 then
  some ((-1))
  else
  bnd (fX7_within N x3 0 1) fun o7 =>
  if o7 = 0 then
  some ((-1))
  else
  if x2 ≤ va0_canal_people then
  bnd (fX1_bestCrew N va0_canal_people va0_canal_kind va0_canal_weight va0_canal_now_minute va0_canal_now_juice va0_canal_now_fors x1 x2) fun o11 =>
  if x3 = 0 then
  bnd (fX0_crewRocks N va0_canal_people va0_canal_kind va0_canal_weight va0_canal_now_minute va0_canal_now_juice va0_canal_now_fors x1 o11) fun o14 =>
  some (o14)
  else
  some (o11)
  else
  some ((-4))
set_option maxHeartbeats 4000000 in
set_option maxRecDepth 100000 in
theorem ctX7_crew (l : Launch) (E : Ev) (N : Nat) (a0 : Nat) (a0_canal : Nat) (a0_history : Nat) (a0_imageCanal : Nat) (a0_imageHistory : Nat) (a0_tape : Nat) (a0_foreteller : Nat) (a0_search : Nat) (a0_sheets : Nat) (a0_canal_kind : Nat) (a0_canal_weight : Nat) (a0_canal_now : Nat) (a0_canal_now_ice : Nat) (a0_canal_now_juice : Nat) (a0_canal_now_fors : Nat) (a0_foreteller_then : Nat) (a0_foreteller_marks : Nat) (va0_hasImage : Int32) (va0_canal_cells : Int32) (va0_canal_people : Int32) (va0_canal_sayings : Int32) (va0_canal_frost : Int32) (va0_canal_kind : Nat → Int32) (va0_canal_weight : Nat → Int32) (va0_canal_now_boat : Int32) (va0_canal_now_minute : Int32) (va0_canal_now_draw : Int32) (va0_canal_now_juice : Nat → Int32) (va0_canal_now_fors : Nat → Int32) (x1 : Int32) (x2 : Int32) (x3 : Int32) (out : Int32) (hf : fX7_crew N va0_canal_people va0_canal_sayings va0_canal_kind va0_canal_weight va0_canal_now_minute va0_canal_now_juice va0_canal_now_fors x1 x2 x3 = some out) : Ct l E yX7_crew cX7_crew 5 (some .int) rmX7_crew [.ref a0, .int x1, .int x2, .int x3] [(a0, oB 7 [.ref a0_canal, .ref a0_history, .ref a0_imageCanal, .ref a0_imageHistory, .int va0_hasImage, .ref a0_tape, .ref a0_foreteller, .ref a0_search, .ref a0_sheets]), (a0_canal, oB 0 [.ref a0_canal_kind, .ref a0_canal_weight, .ref a0_canal_now, .int va0_canal_cells, .int va0_canal_people, .int va0_canal_sayings, .int va0_canal_frost]), (a0_canal_kind, aI E 6 va0_canal_kind), (a0_canal_weight, aI E 6 va0_canal_weight), (a0_canal_now, oB 3 [.ref a0_canal_now_ice, .ref a0_canal_now_juice, .ref a0_canal_now_fors, .int va0_canal_now_boat, .int va0_canal_now_minute, .int va0_canal_now_draw]), (a0_canal_now_juice, aI E 5 va0_canal_now_juice), (a0_canal_now_fors, aI E 5 va0_canal_now_fors), (a0_foreteller, oB 1 [.ref a0_foreteller_then, .ref a0_foreteller_marks])] (Pe (some (.int out)) [(a0, oB 7 [.ref a0_canal, .ref a0_history, .ref a0_imageCanal, .ref a0_imageHistory, .int va0_hasImage, .ref a0_tape, .ref a0_foreteller, .ref a0_search, .ref a0_sheets]), (a0_canal, oB 0 [.ref a0_canal_kind, .ref a0_canal_weight, .ref a0_canal_now, .int va0_canal_cells, .int va0_canal_people, .int va0_canal_sayings, .int va0_canal_frost]), (a0_canal_kind, aI E 6 va0_canal_kind), (a0_canal_weight, aI E 6 va0_canal_weight), (a0_canal_now, oB 3 [.ref a0_canal_now_ice, .ref a0_canal_now_juice, .ref a0_canal_now_fors, .int va0_canal_now_boat, .int va0_canal_now_minute, .int va0_canal_now_draw]), (a0_canal_now_juice, aI E 5 va0_canal_now_juice), (a0_canal_now_fors, aI E 5 va0_canal_now_fors), (a0_foreteller, oB 1 [.ref a0_foreteller_then, .ref a0_foreteller_marks])]) := by
  refine Ct.of rfl (Nat.le_of_ble_eq_true rfl) (fun K hL k r hin => ?_)
  subst hL
  unfold fX7_crew at hf
  show G E K 5 0 0 [(0, .ref a0), (1, .int x1), (2, .int x2), (3, .int x3)] [] [(a0, oB 7 [.ref a0_canal, .ref a0_history, .ref a0_imageCanal, .ref a0_imageHistory, .int va0_hasImage, .ref a0_tape, .ref a0_foreteller, .ref a0_search, .ref a0_sheets]), (a0_canal, oB 0 [.ref a0_canal_kind, .ref a0_canal_weight, .ref a0_canal_now, .int va0_canal_cells, .int va0_canal_people, .int va0_canal_sayings, .int va0_canal_frost]), (a0_canal_kind, aI E 6 va0_canal_kind), (a0_canal_weight, aI E 6 va0_canal_weight), (a0_canal_now, oB 3 [.ref a0_canal_now_ice, .ref a0_canal_now_juice, .ref a0_canal_now_fors, .int va0_canal_now_boat, .int va0_canal_now_minute, .int va0_canal_now_draw]), (a0_canal_now_juice, aI E 5 va0_canal_now_juice), (a0_canal_now_fors, aI E 5 va0_canal_now_fors), (a0_foreteller, oB 1 [.ref a0_foreteller_then, .ref a0_foreteller_marks])] 0
  refine g_aload_n k 0 dX7_crew_0 rfl rfl ?_
  refine g_get k cfX7 0 0 dX7_crew_1 lkX7_10 (by decide) rfl rfl ?_
  refine g_iload_n k 1 dX7_crew_4 rfl rfl ?_
  obtain ⟨o1, ho2, hf⟩ := bnd_some hf
  refine g_cv k miX0_hasSaying mvX0_hasSaying (ctX0_hasSaying (kL K) E N a0_canal a0_canal_kind a0_canal_weight a0_canal_now va0_canal_cells va0_canal_people va0_canal_sayings va0_canal_frost x1 o1 ho2) [1] 0 (ws' := [(a0, oB 7 [.ref a0_canal, .ref a0_history, .ref a0_imageCanal, .ref a0_imageHistory, .int va0_hasImage, .ref a0_tape, .ref a0_foreteller, .ref a0_search, .ref a0_sheets]), (a0_canal, oB 0 [.ref a0_canal_kind, .ref a0_canal_weight, .ref a0_canal_now, .int va0_canal_cells, .int va0_canal_people, .int va0_canal_sayings, .int va0_canal_frost]), (a0_canal_kind, aI E 6 va0_canal_kind), (a0_canal_weight, aI E 6 va0_canal_weight), (a0_canal_now, oB 3 [.ref a0_canal_now_ice, .ref a0_canal_now_juice, .ref a0_canal_now_fors, .int va0_canal_now_boat, .int va0_canal_now_minute, .int va0_canal_now_draw]), (a0_canal_now_juice, aI E 5 va0_canal_now_juice), (a0_canal_now_fors, aI E 5 va0_canal_now_fors), (a0_foreteller, oB 1 [.ref a0_foreteller_then, .ref a0_foreteller_marks])]) dX7_crew_5 lkX7_119 rfl ⟨rfl, rfl⟩ ⟨by decide, by decide⟩ rfl rfl rfl rfl (Nat.le_of_ble_eq_true rfl) rfl rfl rfl ?_
  refine g_st (st' := [.int o1]) rfl ?_
  refine g_if_eq k (tgt := 30) dX7_crew_8 (by decide) (fun c3 => ?_) (fun c3 => ?_)
  · replace hf := ite_t c3 hf
    refine g_iconst k dX7_crew_30 ic_m1 ?_
    obtain rfl := Option.some.inj hf
    exact g_iret k r dX7_crew_31 ⟨rfl, rfl⟩
  · replace hf := ite_f c3 hf
    refine g_iload_n k 2 dX7_crew_11 rfl rfl ?_
    refine g_iconst k dX7_crew_12 ic_1 ?_
    refine g_bipush k dX7_crew_13 bi_6 ?_
    obtain ⟨o4, ho5, hf⟩ := bnd_some hf
    refine g_cs k miX7_within msX7_within (ctX7_within (kL K) E N   x2 1 6 o4 ho5) [] (ws' := [(a0, oB 7 [.ref a0_canal, .ref a0_history, .ref a0_imageCanal, .ref a0_imageHistory, .int va0_hasImage, .ref a0_tape, .ref a0_foreteller, .ref a0_search, .ref a0_sheets]), (a0_canal, oB 0 [.ref a0_canal_kind, .ref a0_canal_weight, .ref a0_canal_now, .int va0_canal_cells, .int va0_canal_people, .int va0_canal_sayings, .int va0_canal_frost]), (a0_canal_kind, aI E 6 va0_canal_kind), (a0_canal_weight, aI E 6 va0_canal_weight), (a0_canal_now, oB 3 [.ref a0_canal_now_ice, .ref a0_canal_now_juice, .ref a0_canal_now_fors, .int va0_canal_now_boat, .int va0_canal_now_minute, .int va0_canal_now_draw]), (a0_canal_now_juice, aI E 5 va0_canal_now_juice), (a0_canal_now_fors, aI E 5 va0_canal_now_fors), (a0_foreteller, oB 1 [.ref a0_foreteller_then, .ref a0_foreteller_marks])]) dX7_crew_15 lkX7_61 rfl ⟨rfl, rfl⟩ ⟨by decide, by decide⟩ rfl rfl rfl (Nat.le_of_ble_eq_true rfl) rfl rfl rfl ?_
    refine g_st (st' := [.int o4]) rfl ?_
    refine g_if_eq k (tgt := 30) dX7_crew_18 (by decide) (fun c6 => ?_) (fun c6 => ?_)
    · replace hf := ite_t c6 hf
      refine g_iconst k dX7_crew_30 ic_m1 ?_
      obtain rfl := Option.some.inj hf
      exact g_iret k r dX7_crew_31 ⟨rfl, rfl⟩
    · replace hf := ite_f c6 hf
      refine g_iload_n k 3 dX7_crew_21 rfl rfl ?_
      refine g_iconst k dX7_crew_22 ic_0 ?_
      refine g_iconst k dX7_crew_23 ic_1 ?_
      obtain ⟨o7, ho8, hf⟩ := bnd_some hf
      refine g_cs k miX7_within msX7_within (ctX7_within (kL K) E N   x3 0 1 o7 ho8) [] (ws' := [(a0, oB 7 [.ref a0_canal, .ref a0_history, .ref a0_imageCanal, .ref a0_imageHistory, .int va0_hasImage, .ref a0_tape, .ref a0_foreteller, .ref a0_search, .ref a0_sheets]), (a0_canal, oB 0 [.ref a0_canal_kind, .ref a0_canal_weight, .ref a0_canal_now, .int va0_canal_cells, .int va0_canal_people, .int va0_canal_sayings, .int va0_canal_frost]), (a0_canal_kind, aI E 6 va0_canal_kind), (a0_canal_weight, aI E 6 va0_canal_weight), (a0_canal_now, oB 3 [.ref a0_canal_now_ice, .ref a0_canal_now_juice, .ref a0_canal_now_fors, .int va0_canal_now_boat, .int va0_canal_now_minute, .int va0_canal_now_draw]), (a0_canal_now_juice, aI E 5 va0_canal_now_juice), (a0_canal_now_fors, aI E 5 va0_canal_now_fors), (a0_foreteller, oB 1 [.ref a0_foreteller_then, .ref a0_foreteller_marks])]) dX7_crew_24 lkX7_61 rfl ⟨rfl, rfl⟩ ⟨by decide, by decide⟩ rfl rfl rfl (Nat.le_of_ble_eq_true rfl) rfl rfl rfl ?_
      refine g_st (st' := [.int o7]) rfl ?_
      refine g_if_ne k (tgt := 32) dX7_crew_27 (by decide) (fun c9 => ?_) (fun c9 => ?_)
      · replace hf := ite_f c9 hf
        refine g_aload_n k 0 dX7_crew_32 rfl rfl ?_
        refine g_get k cfX7 0 0 dX7_crew_33 lkX7_10 (by decide) rfl rfl ?_
        refine g_get k cfX0 4 1 dX7_crew_36 lkX7_76 (by decide) rfl rfl ?_
        refine g_iload_n k 2 dX7_crew_39 rfl rfl ?_
        refine g_icmp_ge k (tgt := 46) dX7_crew_40 (by decide) (fun c10 => ?_) (fun c10 => ?_)
        · replace hf := ite_t c10 hf
          refine g_aload_n k 0 dX7_crew_46 rfl rfl ?_
          refine g_get k cfX7 6 0 dX7_crew_47 lkX7_43 (by decide) rfl rfl ?_
          refine g_aload_n k 0 dX7_crew_50 rfl rfl ?_
          refine g_get k cfX7 0 0 dX7_crew_51 lkX7_10 (by decide) rfl rfl ?_
          refine g_iload_n k 1 dX7_crew_54 rfl rfl ?_
          refine g_iload_n k 2 dX7_crew_55 rfl rfl ?_
          obtain ⟨o11, ho12, hf⟩ := bnd_some hf
          refine g_cv k miX1_bestCrew mvX1_bestCrew (ctX1_bestCrew (kL K) E N a0_foreteller a0_foreteller_then a0_foreteller_marks a0_canal a0_canal_kind a0_canal_weight a0_canal_now a0_canal_now_ice a0_canal_now_juice a0_canal_now_fors va0_canal_cells va0_canal_people va0_canal_sayings va0_canal_frost va0_canal_kind va0_canal_weight va0_canal_now_boat va0_canal_now_minute va0_canal_now_draw va0_canal_now_juice va0_canal_now_fors x1 x2 o11 ho12) [7, 1, 2, 3, 4, 5, 6] 0 (ws' := [(a0, oB 7 [.ref a0_canal, .ref a0_history, .ref a0_imageCanal, .ref a0_imageHistory, .int va0_hasImage, .ref a0_tape, .ref a0_foreteller, .ref a0_search, .ref a0_sheets]), (a0_canal, oB 0 [.ref a0_canal_kind, .ref a0_canal_weight, .ref a0_canal_now, .int va0_canal_cells, .int va0_canal_people, .int va0_canal_sayings, .int va0_canal_frost]), (a0_canal_kind, aI E 6 va0_canal_kind), (a0_canal_weight, aI E 6 va0_canal_weight), (a0_canal_now, oB 3 [.ref a0_canal_now_ice, .ref a0_canal_now_juice, .ref a0_canal_now_fors, .int va0_canal_now_boat, .int va0_canal_now_minute, .int va0_canal_now_draw]), (a0_canal_now_juice, aI E 5 va0_canal_now_juice), (a0_canal_now_fors, aI E 5 va0_canal_now_fors), (a0_foreteller, oB 1 [.ref a0_foreteller_then, .ref a0_foreteller_marks])]) dX7_crew_56 lkX7_218 rfl ⟨rfl, rfl⟩ ⟨by decide, by decide⟩ rfl rfl rfl rfl (Nat.le_of_ble_eq_true rfl) rfl rfl rfl ?_
          refine g_st (st' := [.int o11]) rfl ?_
          refine g_istore k (lv' := [(4, .int o11), (0, .ref a0), (1, .int x1), (2, .int x2), (3, .int x3)]) dX7_crew_59 (by decide) rfl ?_
          refine g_iload_n k 4 dX7_crew_61 rfl rfl ?_
          refine g_if_ne k (tgt := 78) dX7_crew_62 (by decide) (fun c13 => ?_) (fun c13 => ?_)
          · replace hf := ite_f c13 hf
            refine g_iload k 0 dX7_crew_78 rfl ?_
            obtain rfl := Option.some.inj hf
            exact g_iret k r dX7_crew_80 ⟨rfl, rfl⟩
          · replace hf := ite_t c13 hf
            refine g_aload_n k 1 dX7_crew_65 rfl rfl ?_
            refine g_get k cfX7 0 0 dX7_crew_66 lkX7_10 (by decide) rfl rfl ?_
            refine g_iload_n k 2 dX7_crew_69 rfl rfl ?_
            refine g_iload k 0 dX7_crew_70 rfl ?_
            obtain ⟨o14, ho15, hf⟩ := bnd_some hf
            refine g_cv k miX0_crewRocks mvX0_crewRocks (ctX0_crewRocks (kL K) E N a0_canal a0_canal_kind a0_canal_weight a0_canal_now a0_canal_now_ice a0_canal_now_juice a0_canal_now_fors va0_canal_cells va0_canal_people va0_canal_sayings va0_canal_frost va0_canal_kind va0_canal_weight va0_canal_now_boat va0_canal_now_minute va0_canal_now_draw va0_canal_now_juice va0_canal_now_fors x1 o11 o14 ho15) [1, 2, 3, 4, 5, 6] 0 (ws' := [(a0, oB 7 [.ref a0_canal, .ref a0_history, .ref a0_imageCanal, .ref a0_imageHistory, .int va0_hasImage, .ref a0_tape, .ref a0_foreteller, .ref a0_search, .ref a0_sheets]), (a0_canal, oB 0 [.ref a0_canal_kind, .ref a0_canal_weight, .ref a0_canal_now, .int va0_canal_cells, .int va0_canal_people, .int va0_canal_sayings, .int va0_canal_frost]), (a0_canal_kind, aI E 6 va0_canal_kind), (a0_canal_weight, aI E 6 va0_canal_weight), (a0_canal_now, oB 3 [.ref a0_canal_now_ice, .ref a0_canal_now_juice, .ref a0_canal_now_fors, .int va0_canal_now_boat, .int va0_canal_now_minute, .int va0_canal_now_draw]), (a0_canal_now_juice, aI E 5 va0_canal_now_juice), (a0_canal_now_fors, aI E 5 va0_canal_now_fors), (a0_foreteller, oB 1 [.ref a0_foreteller_then, .ref a0_foreteller_marks])]) dX7_crew_72 lkX7_222 rfl ⟨rfl, rfl⟩ ⟨by decide, by decide⟩ rfl rfl rfl rfl (Nat.le_of_ble_eq_true rfl) rfl rfl rfl ?_
            refine g_st (st' := [.int o14]) rfl ?_
            refine g_goto k (tgt := 80) dX7_crew_75 (by decide) ?_
            obtain rfl := Option.some.inj hf
            exact g_iret k r dX7_crew_80 ⟨rfl, rfl⟩
        · replace hf := ite_f c10 hf
          refine g_bipush k dX7_crew_43 bi_m4 ?_
          obtain rfl := Option.some.inj hf
          exact g_iret k r dX7_crew_45 ⟨rfl, rfl⟩
      · replace hf := ite_t c9 hf
        refine g_iconst k dX7_crew_30 ic_m1 ?_
        obtain rfl := Option.some.inj hf
        exact g_iret k r dX7_crew_31 ⟨rfl, rfl⟩
abbrev rmX7_minds : Room := { frames := 5, cells := 0, slots := 0, locals := 125 }
def fX7_minds (N : Nat) (va0_canal_people : Int32) (va0_canal_sayings : Int32) (va0_canal_kind : Nat → Int32) (va0_canal_weight : Nat → Int32) (va0_canal_now_minute : Int32) (va0_canal_now_juice : Nat → Int32) (va0_canal_now_fors : Nat → Int32) (x1 : Int32) (x2 : Int32) : Option (Int32) :=
  bnd (fX0_hasSaying N va0_canal_sayings x1) fun o1 =>
  if o1 = 0 then
  some ((-1))
  else
  bnd (fX7_within N x2 0 1) fun o4 =>
  if o4 = 0 then
  some ((-1))
  else
  bnd (fX1_bestMind N va0_canal_people va0_canal_kind va0_canal_weight va0_canal_now_minute va0_canal_now_juice va0_canal_now_fors x1) fun o7 =>
  if o7 = (-4) then
  some ((-4))
  else
  if x2 = 0 then
  some (o7)
  else
  bnd (fX0_swayedRocks N va0_canal_people va0_canal_kind va0_canal_weight va0_canal_now_minute va0_canal_now_juice va0_canal_now_fors x1 (1 <<< (o7 &&& 31))) fun o11 =>
  some (o11)
set_option maxHeartbeats 4000000 in
set_option maxRecDepth 100000 in
theorem ctX7_minds (l : Launch) (E : Ev) (N : Nat) (a0 : Nat) (a0_canal : Nat) (a0_history : Nat) (a0_imageCanal : Nat) (a0_imageHistory : Nat) (a0_tape : Nat) (a0_foreteller : Nat) (a0_search : Nat) (a0_sheets : Nat) (a0_canal_kind : Nat) (a0_canal_weight : Nat) (a0_canal_now : Nat) (a0_canal_now_ice : Nat) (a0_canal_now_juice : Nat) (a0_canal_now_fors : Nat) (a0_foreteller_then : Nat) (a0_foreteller_marks : Nat) (va0_hasImage : Int32) (va0_canal_cells : Int32) (va0_canal_people : Int32) (va0_canal_sayings : Int32) (va0_canal_frost : Int32) (va0_canal_kind : Nat → Int32) (va0_canal_weight : Nat → Int32) (va0_canal_now_boat : Int32) (va0_canal_now_minute : Int32) (va0_canal_now_draw : Int32) (va0_canal_now_juice : Nat → Int32) (va0_canal_now_fors : Nat → Int32) (x1 : Int32) (x2 : Int32) (out : Int32) (hf : fX7_minds N va0_canal_people va0_canal_sayings va0_canal_kind va0_canal_weight va0_canal_now_minute va0_canal_now_juice va0_canal_now_fors x1 x2 = some out) : Ct l E yX7_minds cX7_minds 4 (some .int) rmX7_minds [.ref a0, .int x1, .int x2] [(a0, oB 7 [.ref a0_canal, .ref a0_history, .ref a0_imageCanal, .ref a0_imageHistory, .int va0_hasImage, .ref a0_tape, .ref a0_foreteller, .ref a0_search, .ref a0_sheets]), (a0_canal, oB 0 [.ref a0_canal_kind, .ref a0_canal_weight, .ref a0_canal_now, .int va0_canal_cells, .int va0_canal_people, .int va0_canal_sayings, .int va0_canal_frost]), (a0_canal_kind, aI E 6 va0_canal_kind), (a0_canal_weight, aI E 6 va0_canal_weight), (a0_canal_now, oB 3 [.ref a0_canal_now_ice, .ref a0_canal_now_juice, .ref a0_canal_now_fors, .int va0_canal_now_boat, .int va0_canal_now_minute, .int va0_canal_now_draw]), (a0_canal_now_juice, aI E 5 va0_canal_now_juice), (a0_canal_now_fors, aI E 5 va0_canal_now_fors), (a0_foreteller, oB 1 [.ref a0_foreteller_then, .ref a0_foreteller_marks])] (Pe (some (.int out)) [(a0, oB 7 [.ref a0_canal, .ref a0_history, .ref a0_imageCanal, .ref a0_imageHistory, .int va0_hasImage, .ref a0_tape, .ref a0_foreteller, .ref a0_search, .ref a0_sheets]), (a0_canal, oB 0 [.ref a0_canal_kind, .ref a0_canal_weight, .ref a0_canal_now, .int va0_canal_cells, .int va0_canal_people, .int va0_canal_sayings, .int va0_canal_frost]), (a0_canal_kind, aI E 6 va0_canal_kind), (a0_canal_weight, aI E 6 va0_canal_weight), (a0_canal_now, oB 3 [.ref a0_canal_now_ice, .ref a0_canal_now_juice, .ref a0_canal_now_fors, .int va0_canal_now_boat, .int va0_canal_now_minute, .int va0_canal_now_draw]), (a0_canal_now_juice, aI E 5 va0_canal_now_juice), (a0_canal_now_fors, aI E 5 va0_canal_now_fors), (a0_foreteller, oB 1 [.ref a0_foreteller_then, .ref a0_foreteller_marks])]) := by
  refine Ct.of rfl (Nat.le_of_ble_eq_true rfl) (fun K hL k r hin => ?_)
  subst hL
  unfold fX7_minds at hf
  show G E K 4 0 0 [(0, .ref a0), (1, .int x1), (2, .int x2)] [] [(a0, oB 7 [.ref a0_canal, .ref a0_history, .ref a0_imageCanal, .ref a0_imageHistory, .int va0_hasImage, .ref a0_tape, .ref a0_foreteller, .ref a0_search, .ref a0_sheets]), (a0_canal, oB 0 [.ref a0_canal_kind, .ref a0_canal_weight, .ref a0_canal_now, .int va0_canal_cells, .int va0_canal_people, .int va0_canal_sayings, .int va0_canal_frost]), (a0_canal_kind, aI E 6 va0_canal_kind), (a0_canal_weight, aI E 6 va0_canal_weight), (a0_canal_now, oB 3 [.ref a0_canal_now_ice, .ref a0_canal_now_juice, .ref a0_canal_now_fors, .int va0_canal_now_boat, .int va0_canal_now_minute, .int va0_canal_now_draw]), (a0_canal_now_juice, aI E 5 va0_canal_now_juice), (a0_canal_now_fors, aI E 5 va0_canal_now_fors), (a0_foreteller, oB 1 [.ref a0_foreteller_then, .ref a0_foreteller_marks])] 0
  refine g_aload_n k 0 dX7_minds_0 rfl rfl ?_
  refine g_get k cfX7 0 0 dX7_minds_1 lkX7_10 (by decide) rfl rfl ?_
  refine g_iload_n k 1 dX7_minds_4 rfl rfl ?_
  obtain ⟨o1, ho2, hf⟩ := bnd_some hf
  refine g_cv k miX0_hasSaying mvX0_hasSaying (ctX0_hasSaying (kL K) E N a0_canal a0_canal_kind a0_canal_weight a0_canal_now va0_canal_cells va0_canal_people va0_canal_sayings va0_canal_frost x1 o1 ho2) [1] 0 (ws' := [(a0, oB 7 [.ref a0_canal, .ref a0_history, .ref a0_imageCanal, .ref a0_imageHistory, .int va0_hasImage, .ref a0_tape, .ref a0_foreteller, .ref a0_search, .ref a0_sheets]), (a0_canal, oB 0 [.ref a0_canal_kind, .ref a0_canal_weight, .ref a0_canal_now, .int va0_canal_cells, .int va0_canal_people, .int va0_canal_sayings, .int va0_canal_frost]), (a0_canal_kind, aI E 6 va0_canal_kind), (a0_canal_weight, aI E 6 va0_canal_weight), (a0_canal_now, oB 3 [.ref a0_canal_now_ice, .ref a0_canal_now_juice, .ref a0_canal_now_fors, .int va0_canal_now_boat, .int va0_canal_now_minute, .int va0_canal_now_draw]), (a0_canal_now_juice, aI E 5 va0_canal_now_juice), (a0_canal_now_fors, aI E 5 va0_canal_now_fors), (a0_foreteller, oB 1 [.ref a0_foreteller_then, .ref a0_foreteller_marks])]) dX7_minds_5 lkX7_119 rfl ⟨rfl, rfl⟩ ⟨by decide, by decide⟩ rfl rfl rfl rfl (Nat.le_of_ble_eq_true rfl) rfl rfl rfl ?_
  refine g_st (st' := [.int o1]) rfl ?_
  refine g_if_eq k (tgt := 20) dX7_minds_8 (by decide) (fun c3 => ?_) (fun c3 => ?_)
  · replace hf := ite_t c3 hf
    refine g_iconst k dX7_minds_20 ic_m1 ?_
    obtain rfl := Option.some.inj hf
    exact g_iret k r dX7_minds_21 ⟨rfl, rfl⟩
  · replace hf := ite_f c3 hf
    refine g_iload_n k 2 dX7_minds_11 rfl rfl ?_
    refine g_iconst k dX7_minds_12 ic_0 ?_
    refine g_iconst k dX7_minds_13 ic_1 ?_
    obtain ⟨o4, ho5, hf⟩ := bnd_some hf
    refine g_cs k miX7_within msX7_within (ctX7_within (kL K) E N   x2 0 1 o4 ho5) [] (ws' := [(a0, oB 7 [.ref a0_canal, .ref a0_history, .ref a0_imageCanal, .ref a0_imageHistory, .int va0_hasImage, .ref a0_tape, .ref a0_foreteller, .ref a0_search, .ref a0_sheets]), (a0_canal, oB 0 [.ref a0_canal_kind, .ref a0_canal_weight, .ref a0_canal_now, .int va0_canal_cells, .int va0_canal_people, .int va0_canal_sayings, .int va0_canal_frost]), (a0_canal_kind, aI E 6 va0_canal_kind), (a0_canal_weight, aI E 6 va0_canal_weight), (a0_canal_now, oB 3 [.ref a0_canal_now_ice, .ref a0_canal_now_juice, .ref a0_canal_now_fors, .int va0_canal_now_boat, .int va0_canal_now_minute, .int va0_canal_now_draw]), (a0_canal_now_juice, aI E 5 va0_canal_now_juice), (a0_canal_now_fors, aI E 5 va0_canal_now_fors), (a0_foreteller, oB 1 [.ref a0_foreteller_then, .ref a0_foreteller_marks])]) dX7_minds_14 lkX7_61 rfl ⟨rfl, rfl⟩ ⟨by decide, by decide⟩ rfl rfl rfl (Nat.le_of_ble_eq_true rfl) rfl rfl rfl ?_
    refine g_st (st' := [.int o4]) rfl ?_
    refine g_if_ne k (tgt := 22) dX7_minds_17 (by decide) (fun c6 => ?_) (fun c6 => ?_)
    · replace hf := ite_f c6 hf
      refine g_aload_n k 0 dX7_minds_22 rfl rfl ?_
      refine g_get k cfX7 6 0 dX7_minds_23 lkX7_43 (by decide) rfl rfl ?_
      refine g_aload_n k 0 dX7_minds_26 rfl rfl ?_
      refine g_get k cfX7 0 0 dX7_minds_27 lkX7_10 (by decide) rfl rfl ?_
      refine g_iload_n k 1 dX7_minds_30 rfl rfl ?_
      obtain ⟨o7, ho8, hf⟩ := bnd_some hf
      refine g_cv k miX1_bestMind mvX1_bestMind (ctX1_bestMind (kL K) E N a0_foreteller a0_foreteller_then a0_foreteller_marks a0_canal a0_canal_kind a0_canal_weight a0_canal_now a0_canal_now_ice a0_canal_now_juice a0_canal_now_fors va0_canal_cells va0_canal_people va0_canal_sayings va0_canal_frost va0_canal_kind va0_canal_weight va0_canal_now_boat va0_canal_now_minute va0_canal_now_draw va0_canal_now_juice va0_canal_now_fors x1 o7 ho8) [7, 1, 2, 3, 4, 5, 6] 0 (ws' := [(a0, oB 7 [.ref a0_canal, .ref a0_history, .ref a0_imageCanal, .ref a0_imageHistory, .int va0_hasImage, .ref a0_tape, .ref a0_foreteller, .ref a0_search, .ref a0_sheets]), (a0_canal, oB 0 [.ref a0_canal_kind, .ref a0_canal_weight, .ref a0_canal_now, .int va0_canal_cells, .int va0_canal_people, .int va0_canal_sayings, .int va0_canal_frost]), (a0_canal_kind, aI E 6 va0_canal_kind), (a0_canal_weight, aI E 6 va0_canal_weight), (a0_canal_now, oB 3 [.ref a0_canal_now_ice, .ref a0_canal_now_juice, .ref a0_canal_now_fors, .int va0_canal_now_boat, .int va0_canal_now_minute, .int va0_canal_now_draw]), (a0_canal_now_juice, aI E 5 va0_canal_now_juice), (a0_canal_now_fors, aI E 5 va0_canal_now_fors), (a0_foreteller, oB 1 [.ref a0_foreteller_then, .ref a0_foreteller_marks])]) dX7_minds_31 lkX7_225 rfl ⟨rfl, rfl⟩ ⟨by decide, by decide⟩ rfl rfl rfl rfl (Nat.le_of_ble_eq_true rfl) rfl rfl rfl ?_
      refine g_st (st' := [.int o7]) rfl ?_
      refine g_istore_n k (lv' := [(3, .int o7), (0, .ref a0), (1, .int x1), (2, .int x2)]) dX7_minds_34 rfl (by decide) rfl ?_
      refine g_iload_n k 0 dX7_minds_35 rfl rfl ?_
      refine g_bipush k dX7_minds_36 bi_m4 ?_
      refine g_icmp_ne k (tgt := 44) dX7_minds_38 (by decide) (fun c9 => ?_) (fun c9 => ?_)
      · replace hf := ite_f c9 hf
        refine g_iload_n k 3 dX7_minds_44 rfl rfl ?_
        refine g_if_ne k (tgt := 52) dX7_minds_45 (by decide) (fun c10 => ?_) (fun c10 => ?_)
        · replace hf := ite_f c10 hf
          refine g_aload_n k 1 dX7_minds_52 rfl rfl ?_
          refine g_get k cfX7 0 0 dX7_minds_53 lkX7_10 (by decide) rfl rfl ?_
          refine g_iload_n k 2 dX7_minds_56 rfl rfl ?_
          refine g_iconst k dX7_minds_57 ic_1 ?_
          refine g_iload_n k 0 dX7_minds_58 rfl rfl ?_
          refine g_ishl k dX7_minds_59 ?_
          obtain ⟨o11, ho12, hf⟩ := bnd_some hf
          refine g_cv k miX0_swayedRocks mvX0_swayedRocks (ctX0_swayedRocks (kL K) E N a0_canal a0_canal_kind a0_canal_weight a0_canal_now a0_canal_now_ice a0_canal_now_juice a0_canal_now_fors va0_canal_cells va0_canal_people va0_canal_sayings va0_canal_frost va0_canal_kind va0_canal_weight va0_canal_now_boat va0_canal_now_minute va0_canal_now_draw va0_canal_now_juice va0_canal_now_fors x1 (1 <<< (o7 &&& 31)) o11 ho12) [1, 2, 3, 4, 5, 6] 0 (ws' := [(a0, oB 7 [.ref a0_canal, .ref a0_history, .ref a0_imageCanal, .ref a0_imageHistory, .int va0_hasImage, .ref a0_tape, .ref a0_foreteller, .ref a0_search, .ref a0_sheets]), (a0_canal, oB 0 [.ref a0_canal_kind, .ref a0_canal_weight, .ref a0_canal_now, .int va0_canal_cells, .int va0_canal_people, .int va0_canal_sayings, .int va0_canal_frost]), (a0_canal_kind, aI E 6 va0_canal_kind), (a0_canal_weight, aI E 6 va0_canal_weight), (a0_canal_now, oB 3 [.ref a0_canal_now_ice, .ref a0_canal_now_juice, .ref a0_canal_now_fors, .int va0_canal_now_boat, .int va0_canal_now_minute, .int va0_canal_now_draw]), (a0_canal_now_juice, aI E 5 va0_canal_now_juice), (a0_canal_now_fors, aI E 5 va0_canal_now_fors), (a0_foreteller, oB 1 [.ref a0_foreteller_then, .ref a0_foreteller_marks])]) dX7_minds_60 lkX7_229 rfl ⟨rfl, rfl⟩ ⟨by decide, by decide⟩ rfl rfl rfl rfl (Nat.le_of_ble_eq_true rfl) rfl rfl rfl ?_
          refine g_st (st' := [.int o11]) rfl ?_
          obtain rfl := Option.some.inj hf
          exact g_iret k r dX7_minds_63 ⟨rfl, rfl⟩
        · replace hf := ite_t c10 hf
          refine g_iload_n k 0 dX7_minds_48 rfl rfl ?_
          refine g_goto k (tgt := 63) dX7_minds_49 (by decide) ?_
          obtain rfl := Option.some.inj hf
          exact g_iret k r dX7_minds_63 ⟨rfl, rfl⟩
      · replace hf := ite_t c9 hf
        refine g_bipush k dX7_minds_41 bi_m4 ?_
        obtain rfl := Option.some.inj hf
        exact g_iret k r dX7_minds_43 ⟨rfl, rfl⟩
    · replace hf := ite_t c6 hf
      refine g_iconst k dX7_minds_20 ic_m1 ?_
      obtain rfl := Option.some.inj hf
      exact g_iret k r dX7_minds_21 ⟨rfl, rfl⟩
abbrev rmX7_sway : Room := { frames := 5, cells := 0, slots := 0, locals := 126 }
def fX7_sway (N : Nat) (va0_canal_people : Int32) (va0_canal_sayings : Int32) (va0_canal_kind : Nat → Int32) (va0_canal_weight : Nat → Int32) (va0_canal_now_minute : Int32) (va0_canal_now_juice : Nat → Int32) (va0_canal_now_fors : Nat → Int32) (x1 : Int32) (x2 : Int32) (x3 : Int32) : Option (Int32) :=
  bnd (fX0_hasSaying N va0_canal_sayings x1) fun o1 =>
  if o1 = 0 then
  some ((-1))
  else
  bnd (fX7_within N x2 1 200) fun o4 =>
  if o4 = 0 then
  some ((-1))
  else
  bnd (fX7_within N x3 0 1) fun o7 =>
  if o7 = 0 then
  some ((-1))
  else
  bnd (fX1_fewestMinds N va0_canal_people va0_canal_kind va0_canal_weight va0_canal_now_minute va0_canal_now_juice va0_canal_now_fors x1 x2) fun o10 =>
  if o10 = (-4) then
  some ((-4))
  else
  if x3 = 0 then
  bnd (fJ6_bitCount_0f7a4 N o10) fun o14 =>
  some (o14)
  else
  some (o10)
set_option maxHeartbeats 4000000 in
set_option maxRecDepth 100000 in
theorem ctX7_sway (l : Launch) (E : Ev) (N : Nat) (a0 : Nat) (a0_canal : Nat) (a0_history : Nat) (a0_imageCanal : Nat) (a0_imageHistory : Nat) (a0_tape : Nat) (a0_foreteller : Nat) (a0_search : Nat) (a0_sheets : Nat) (a0_canal_kind : Nat) (a0_canal_weight : Nat) (a0_canal_now : Nat) (a0_canal_now_ice : Nat) (a0_canal_now_juice : Nat) (a0_canal_now_fors : Nat) (a0_foreteller_then : Nat) (a0_foreteller_marks : Nat) (va0_hasImage : Int32) (va0_canal_cells : Int32) (va0_canal_people : Int32) (va0_canal_sayings : Int32) (va0_canal_frost : Int32) (va0_canal_kind : Nat → Int32) (va0_canal_weight : Nat → Int32) (va0_canal_now_boat : Int32) (va0_canal_now_minute : Int32) (va0_canal_now_draw : Int32) (va0_canal_now_juice : Nat → Int32) (va0_canal_now_fors : Nat → Int32) (x1 : Int32) (x2 : Int32) (x3 : Int32) (out : Int32) (hf : fX7_sway N va0_canal_people va0_canal_sayings va0_canal_kind va0_canal_weight va0_canal_now_minute va0_canal_now_juice va0_canal_now_fors x1 x2 x3 = some out) : Ct l E yX7_sway cX7_sway 5 (some .int) rmX7_sway [.ref a0, .int x1, .int x2, .int x3] [(a0, oB 7 [.ref a0_canal, .ref a0_history, .ref a0_imageCanal, .ref a0_imageHistory, .int va0_hasImage, .ref a0_tape, .ref a0_foreteller, .ref a0_search, .ref a0_sheets]), (a0_canal, oB 0 [.ref a0_canal_kind, .ref a0_canal_weight, .ref a0_canal_now, .int va0_canal_cells, .int va0_canal_people, .int va0_canal_sayings, .int va0_canal_frost]), (a0_canal_kind, aI E 6 va0_canal_kind), (a0_canal_weight, aI E 6 va0_canal_weight), (a0_canal_now, oB 3 [.ref a0_canal_now_ice, .ref a0_canal_now_juice, .ref a0_canal_now_fors, .int va0_canal_now_boat, .int va0_canal_now_minute, .int va0_canal_now_draw]), (a0_canal_now_juice, aI E 5 va0_canal_now_juice), (a0_canal_now_fors, aI E 5 va0_canal_now_fors), (a0_foreteller, oB 1 [.ref a0_foreteller_then, .ref a0_foreteller_marks])] (Pe (some (.int out)) [(a0, oB 7 [.ref a0_canal, .ref a0_history, .ref a0_imageCanal, .ref a0_imageHistory, .int va0_hasImage, .ref a0_tape, .ref a0_foreteller, .ref a0_search, .ref a0_sheets]), (a0_canal, oB 0 [.ref a0_canal_kind, .ref a0_canal_weight, .ref a0_canal_now, .int va0_canal_cells, .int va0_canal_people, .int va0_canal_sayings, .int va0_canal_frost]), (a0_canal_kind, aI E 6 va0_canal_kind), (a0_canal_weight, aI E 6 va0_canal_weight), (a0_canal_now, oB 3 [.ref a0_canal_now_ice, .ref a0_canal_now_juice, .ref a0_canal_now_fors, .int va0_canal_now_boat, .int va0_canal_now_minute, .int va0_canal_now_draw]), (a0_canal_now_juice, aI E 5 va0_canal_now_juice), (a0_canal_now_fors, aI E 5 va0_canal_now_fors), (a0_foreteller, oB 1 [.ref a0_foreteller_then, .ref a0_foreteller_marks])]) := by
  refine Ct.of rfl (Nat.le_of_ble_eq_true rfl) (fun K hL k r hin => ?_)
  subst hL
  unfold fX7_sway at hf
  show G E K 5 0 0 [(0, .ref a0), (1, .int x1), (2, .int x2), (3, .int x3)] [] [(a0, oB 7 [.ref a0_canal, .ref a0_history, .ref a0_imageCanal, .ref a0_imageHistory, .int va0_hasImage, .ref a0_tape, .ref a0_foreteller, .ref a0_search, .ref a0_sheets]), (a0_canal, oB 0 [.ref a0_canal_kind, .ref a0_canal_weight, .ref a0_canal_now, .int va0_canal_cells, .int va0_canal_people, .int va0_canal_sayings, .int va0_canal_frost]), (a0_canal_kind, aI E 6 va0_canal_kind), (a0_canal_weight, aI E 6 va0_canal_weight), (a0_canal_now, oB 3 [.ref a0_canal_now_ice, .ref a0_canal_now_juice, .ref a0_canal_now_fors, .int va0_canal_now_boat, .int va0_canal_now_minute, .int va0_canal_now_draw]), (a0_canal_now_juice, aI E 5 va0_canal_now_juice), (a0_canal_now_fors, aI E 5 va0_canal_now_fors), (a0_foreteller, oB 1 [.ref a0_foreteller_then, .ref a0_foreteller_marks])] 0
  refine g_aload_n k 0 dX7_sway_0 rfl rfl ?_
  refine g_get k cfX7 0 0 dX7_sway_1 lkX7_10 (by decide) rfl rfl ?_
  refine g_iload_n k 1 dX7_sway_4 rfl rfl ?_
  obtain ⟨o1, ho2, hf⟩ := bnd_some hf
  refine g_cv k miX0_hasSaying mvX0_hasSaying (ctX0_hasSaying (kL K) E N a0_canal a0_canal_kind a0_canal_weight a0_canal_now va0_canal_cells va0_canal_people va0_canal_sayings va0_canal_frost x1 o1 ho2) [1] 0 (ws' := [(a0, oB 7 [.ref a0_canal, .ref a0_history, .ref a0_imageCanal, .ref a0_imageHistory, .int va0_hasImage, .ref a0_tape, .ref a0_foreteller, .ref a0_search, .ref a0_sheets]), (a0_canal, oB 0 [.ref a0_canal_kind, .ref a0_canal_weight, .ref a0_canal_now, .int va0_canal_cells, .int va0_canal_people, .int va0_canal_sayings, .int va0_canal_frost]), (a0_canal_kind, aI E 6 va0_canal_kind), (a0_canal_weight, aI E 6 va0_canal_weight), (a0_canal_now, oB 3 [.ref a0_canal_now_ice, .ref a0_canal_now_juice, .ref a0_canal_now_fors, .int va0_canal_now_boat, .int va0_canal_now_minute, .int va0_canal_now_draw]), (a0_canal_now_juice, aI E 5 va0_canal_now_juice), (a0_canal_now_fors, aI E 5 va0_canal_now_fors), (a0_foreteller, oB 1 [.ref a0_foreteller_then, .ref a0_foreteller_marks])]) dX7_sway_5 lkX7_119 rfl ⟨rfl, rfl⟩ ⟨by decide, by decide⟩ rfl rfl rfl rfl (Nat.le_of_ble_eq_true rfl) rfl rfl rfl ?_
  refine g_st (st' := [.int o1]) rfl ?_
  refine g_if_eq k (tgt := 31) dX7_sway_8 (by decide) (fun c3 => ?_) (fun c3 => ?_)
  · replace hf := ite_t c3 hf
    refine g_iconst k dX7_sway_31 ic_m1 ?_
    obtain rfl := Option.some.inj hf
    exact g_iret k r dX7_sway_32 ⟨rfl, rfl⟩
  · replace hf := ite_f c3 hf
    refine g_iload_n k 2 dX7_sway_11 rfl rfl ?_
    refine g_iconst k dX7_sway_12 ic_1 ?_
    refine g_sipush k dX7_sway_13 si_200 ?_
    obtain ⟨o4, ho5, hf⟩ := bnd_some hf
    refine g_cs k miX7_within msX7_within (ctX7_within (kL K) E N   x2 1 200 o4 ho5) [] (ws' := [(a0, oB 7 [.ref a0_canal, .ref a0_history, .ref a0_imageCanal, .ref a0_imageHistory, .int va0_hasImage, .ref a0_tape, .ref a0_foreteller, .ref a0_search, .ref a0_sheets]), (a0_canal, oB 0 [.ref a0_canal_kind, .ref a0_canal_weight, .ref a0_canal_now, .int va0_canal_cells, .int va0_canal_people, .int va0_canal_sayings, .int va0_canal_frost]), (a0_canal_kind, aI E 6 va0_canal_kind), (a0_canal_weight, aI E 6 va0_canal_weight), (a0_canal_now, oB 3 [.ref a0_canal_now_ice, .ref a0_canal_now_juice, .ref a0_canal_now_fors, .int va0_canal_now_boat, .int va0_canal_now_minute, .int va0_canal_now_draw]), (a0_canal_now_juice, aI E 5 va0_canal_now_juice), (a0_canal_now_fors, aI E 5 va0_canal_now_fors), (a0_foreteller, oB 1 [.ref a0_foreteller_then, .ref a0_foreteller_marks])]) dX7_sway_16 lkX7_61 rfl ⟨rfl, rfl⟩ ⟨by decide, by decide⟩ rfl rfl rfl (Nat.le_of_ble_eq_true rfl) rfl rfl rfl ?_
    refine g_st (st' := [.int o4]) rfl ?_
    refine g_if_eq k (tgt := 31) dX7_sway_19 (by decide) (fun c6 => ?_) (fun c6 => ?_)
    · replace hf := ite_t c6 hf
      refine g_iconst k dX7_sway_31 ic_m1 ?_
      obtain rfl := Option.some.inj hf
      exact g_iret k r dX7_sway_32 ⟨rfl, rfl⟩
    · replace hf := ite_f c6 hf
      refine g_iload_n k 3 dX7_sway_22 rfl rfl ?_
      refine g_iconst k dX7_sway_23 ic_0 ?_
      refine g_iconst k dX7_sway_24 ic_1 ?_
      obtain ⟨o7, ho8, hf⟩ := bnd_some hf
      refine g_cs k miX7_within msX7_within (ctX7_within (kL K) E N   x3 0 1 o7 ho8) [] (ws' := [(a0, oB 7 [.ref a0_canal, .ref a0_history, .ref a0_imageCanal, .ref a0_imageHistory, .int va0_hasImage, .ref a0_tape, .ref a0_foreteller, .ref a0_search, .ref a0_sheets]), (a0_canal, oB 0 [.ref a0_canal_kind, .ref a0_canal_weight, .ref a0_canal_now, .int va0_canal_cells, .int va0_canal_people, .int va0_canal_sayings, .int va0_canal_frost]), (a0_canal_kind, aI E 6 va0_canal_kind), (a0_canal_weight, aI E 6 va0_canal_weight), (a0_canal_now, oB 3 [.ref a0_canal_now_ice, .ref a0_canal_now_juice, .ref a0_canal_now_fors, .int va0_canal_now_boat, .int va0_canal_now_minute, .int va0_canal_now_draw]), (a0_canal_now_juice, aI E 5 va0_canal_now_juice), (a0_canal_now_fors, aI E 5 va0_canal_now_fors), (a0_foreteller, oB 1 [.ref a0_foreteller_then, .ref a0_foreteller_marks])]) dX7_sway_25 lkX7_61 rfl ⟨rfl, rfl⟩ ⟨by decide, by decide⟩ rfl rfl rfl (Nat.le_of_ble_eq_true rfl) rfl rfl rfl ?_
      refine g_st (st' := [.int o7]) rfl ?_
      refine g_if_ne k (tgt := 33) dX7_sway_28 (by decide) (fun c9 => ?_) (fun c9 => ?_)
      · replace hf := ite_f c9 hf
        refine g_aload_n k 0 dX7_sway_33 rfl rfl ?_
        refine g_get k cfX7 6 0 dX7_sway_34 lkX7_43 (by decide) rfl rfl ?_
        refine g_aload_n k 0 dX7_sway_37 rfl rfl ?_
        refine g_get k cfX7 0 0 dX7_sway_38 lkX7_10 (by decide) rfl rfl ?_
        refine g_iload_n k 1 dX7_sway_41 rfl rfl ?_
        refine g_iload_n k 2 dX7_sway_42 rfl rfl ?_
        obtain ⟨o10, ho11, hf⟩ := bnd_some hf
        refine g_cv k miX1_fewestMinds mvX1_fewestMinds (ctX1_fewestMinds (kL K) E N a0_foreteller a0_foreteller_then a0_foreteller_marks a0_canal a0_canal_kind a0_canal_weight a0_canal_now a0_canal_now_ice a0_canal_now_juice a0_canal_now_fors va0_canal_cells va0_canal_people va0_canal_sayings va0_canal_frost va0_canal_kind va0_canal_weight va0_canal_now_boat va0_canal_now_minute va0_canal_now_draw va0_canal_now_juice va0_canal_now_fors x1 x2 o10 ho11) [7, 1, 2, 3, 4, 5, 6] 0 (ws' := [(a0, oB 7 [.ref a0_canal, .ref a0_history, .ref a0_imageCanal, .ref a0_imageHistory, .int va0_hasImage, .ref a0_tape, .ref a0_foreteller, .ref a0_search, .ref a0_sheets]), (a0_canal, oB 0 [.ref a0_canal_kind, .ref a0_canal_weight, .ref a0_canal_now, .int va0_canal_cells, .int va0_canal_people, .int va0_canal_sayings, .int va0_canal_frost]), (a0_canal_kind, aI E 6 va0_canal_kind), (a0_canal_weight, aI E 6 va0_canal_weight), (a0_canal_now, oB 3 [.ref a0_canal_now_ice, .ref a0_canal_now_juice, .ref a0_canal_now_fors, .int va0_canal_now_boat, .int va0_canal_now_minute, .int va0_canal_now_draw]), (a0_canal_now_juice, aI E 5 va0_canal_now_juice), (a0_canal_now_fors, aI E 5 va0_canal_now_fors), (a0_foreteller, oB 1 [.ref a0_foreteller_then, .ref a0_foreteller_marks])]) dX7_sway_43 lkX7_232 rfl ⟨rfl, rfl⟩ ⟨by decide, by decide⟩ rfl rfl rfl rfl (Nat.le_of_ble_eq_true rfl) rfl rfl rfl ?_
        refine g_st (st' := [.int o10]) rfl ?_
        refine g_istore k (lv' := [(4, .int o10), (0, .ref a0), (1, .int x1), (2, .int x2), (3, .int x3)]) dX7_sway_46 (by decide) rfl ?_
        refine g_iload k 0 dX7_sway_48 rfl ?_
        refine g_bipush k dX7_sway_50 bi_m4 ?_
        refine g_icmp_ne k (tgt := 58) dX7_sway_52 (by decide) (fun c12 => ?_) (fun c12 => ?_)
        · replace hf := ite_f c12 hf
          refine g_iload_n k 4 dX7_sway_58 rfl rfl ?_
          refine g_if_ne k (tgt := 70) dX7_sway_59 (by decide) (fun c13 => ?_) (fun c13 => ?_)
          · replace hf := ite_f c13 hf
            refine g_iload k 0 dX7_sway_70 rfl ?_
            obtain rfl := Option.some.inj hf
            exact g_iret k r dX7_sway_72 ⟨rfl, rfl⟩
          · replace hf := ite_t c13 hf
            refine g_iload k 0 dX7_sway_62 rfl ?_
            obtain ⟨o14, ho15, hf⟩ := bnd_some hf
            refine g_cs k miJ6_bitCount_0f7a4 msJ6_bitCount_0f7a4 (ctJ6_bitCount_0f7a4 (kL K) E N   o10 o14 ho15) [] (ws' := [(a0, oB 7 [.ref a0_canal, .ref a0_history, .ref a0_imageCanal, .ref a0_imageHistory, .int va0_hasImage, .ref a0_tape, .ref a0_foreteller, .ref a0_search, .ref a0_sheets]), (a0_canal, oB 0 [.ref a0_canal_kind, .ref a0_canal_weight, .ref a0_canal_now, .int va0_canal_cells, .int va0_canal_people, .int va0_canal_sayings, .int va0_canal_frost]), (a0_canal_kind, aI E 6 va0_canal_kind), (a0_canal_weight, aI E 6 va0_canal_weight), (a0_canal_now, oB 3 [.ref a0_canal_now_ice, .ref a0_canal_now_juice, .ref a0_canal_now_fors, .int va0_canal_now_boat, .int va0_canal_now_minute, .int va0_canal_now_draw]), (a0_canal_now_juice, aI E 5 va0_canal_now_juice), (a0_canal_now_fors, aI E 5 va0_canal_now_fors), (a0_foreteller, oB 1 [.ref a0_foreteller_then, .ref a0_foreteller_marks])]) dX7_sway_64 lkX7_235 rfl ⟨rfl, rfl⟩ ⟨by decide, by decide⟩ rfl rfl rfl (Nat.le_of_ble_eq_true rfl) rfl rfl rfl ?_
            refine g_st (st' := [.int o14]) rfl ?_
            refine g_goto k (tgt := 72) dX7_sway_67 (by decide) ?_
            obtain rfl := Option.some.inj hf
            exact g_iret k r dX7_sway_72 ⟨rfl, rfl⟩
        · replace hf := ite_t c12 hf
          refine g_bipush k dX7_sway_55 bi_m4 ?_
          obtain rfl := Option.some.inj hf
          exact g_iret k r dX7_sway_57 ⟨rfl, rfl⟩
      · replace hf := ite_t c9 hf
        refine g_iconst k dX7_sway_31 ic_m1 ?_
        obtain rfl := Option.some.inj hf
        exact g_iret k r dX7_sway_32 ⟨rfl, rfl⟩
abbrev rmX7_boats : Room := { frames := 6, cells := 0, slots := 0, locals := 148 }
def fX7_boats (N : Nat) (va0_canal_people : Int32) (va0_canal_sayings : Int32) (va0_canal_kind : Nat → Int32) (va0_canal_weight : Nat → Int32) (va0_canal_now_minute : Int32) (va0_canal_now_juice : Nat → Int32) (va0_canal_now_fors : Nat → Int32) (x1 : Int32) : Option (Int32) :=
  bnd (fX7_within N x1 0 1) fun o1 =>
  if o1 = 0 then
  some ((-1))
  else
  bnd (fX1_bestParting N va0_canal_people va0_canal_sayings va0_canal_kind va0_canal_weight va0_canal_now_minute va0_canal_now_juice va0_canal_now_fors) fun o4 =>
  if x1 = 0 then
  some (o4)
  else
  bnd (fX0_partingRocks N va0_canal_people va0_canal_sayings va0_canal_kind va0_canal_weight va0_canal_now_minute va0_canal_now_juice va0_canal_now_fors o4) fun o7 =>
  some (o7)
set_option maxHeartbeats 4000000 in
set_option maxRecDepth 100000 in
theorem ctX7_boats (l : Launch) (E : Ev) (N : Nat) (a0 : Nat) (a0_canal : Nat) (a0_history : Nat) (a0_imageCanal : Nat) (a0_imageHistory : Nat) (a0_tape : Nat) (a0_foreteller : Nat) (a0_search : Nat) (a0_sheets : Nat) (a0_canal_kind : Nat) (a0_canal_weight : Nat) (a0_canal_now : Nat) (a0_canal_now_ice : Nat) (a0_canal_now_juice : Nat) (a0_canal_now_fors : Nat) (a0_foreteller_then : Nat) (a0_foreteller_marks : Nat) (va0_hasImage : Int32) (va0_canal_cells : Int32) (va0_canal_people : Int32) (va0_canal_sayings : Int32) (va0_canal_frost : Int32) (va0_canal_kind : Nat → Int32) (va0_canal_weight : Nat → Int32) (va0_canal_now_boat : Int32) (va0_canal_now_minute : Int32) (va0_canal_now_draw : Int32) (va0_canal_now_juice : Nat → Int32) (va0_canal_now_fors : Nat → Int32) (x1 : Int32) (out : Int32) (hf : fX7_boats N va0_canal_people va0_canal_sayings va0_canal_kind va0_canal_weight va0_canal_now_minute va0_canal_now_juice va0_canal_now_fors x1 = some out) : Ct l E yX7_boats cX7_boats 3 (some .int) rmX7_boats [.ref a0, .int x1] [(a0, oB 7 [.ref a0_canal, .ref a0_history, .ref a0_imageCanal, .ref a0_imageHistory, .int va0_hasImage, .ref a0_tape, .ref a0_foreteller, .ref a0_search, .ref a0_sheets]), (a0_canal, oB 0 [.ref a0_canal_kind, .ref a0_canal_weight, .ref a0_canal_now, .int va0_canal_cells, .int va0_canal_people, .int va0_canal_sayings, .int va0_canal_frost]), (a0_canal_kind, aI E 6 va0_canal_kind), (a0_canal_weight, aI E 6 va0_canal_weight), (a0_canal_now, oB 3 [.ref a0_canal_now_ice, .ref a0_canal_now_juice, .ref a0_canal_now_fors, .int va0_canal_now_boat, .int va0_canal_now_minute, .int va0_canal_now_draw]), (a0_canal_now_juice, aI E 5 va0_canal_now_juice), (a0_canal_now_fors, aI E 5 va0_canal_now_fors), (a0_foreteller, oB 1 [.ref a0_foreteller_then, .ref a0_foreteller_marks])] (Pe (some (.int out)) [(a0, oB 7 [.ref a0_canal, .ref a0_history, .ref a0_imageCanal, .ref a0_imageHistory, .int va0_hasImage, .ref a0_tape, .ref a0_foreteller, .ref a0_search, .ref a0_sheets]), (a0_canal, oB 0 [.ref a0_canal_kind, .ref a0_canal_weight, .ref a0_canal_now, .int va0_canal_cells, .int va0_canal_people, .int va0_canal_sayings, .int va0_canal_frost]), (a0_canal_kind, aI E 6 va0_canal_kind), (a0_canal_weight, aI E 6 va0_canal_weight), (a0_canal_now, oB 3 [.ref a0_canal_now_ice, .ref a0_canal_now_juice, .ref a0_canal_now_fors, .int va0_canal_now_boat, .int va0_canal_now_minute, .int va0_canal_now_draw]), (a0_canal_now_juice, aI E 5 va0_canal_now_juice), (a0_canal_now_fors, aI E 5 va0_canal_now_fors), (a0_foreteller, oB 1 [.ref a0_foreteller_then, .ref a0_foreteller_marks])]) := by
  refine Ct.of rfl (Nat.le_of_ble_eq_true rfl) (fun K hL k r hin => ?_)
  subst hL
  unfold fX7_boats at hf
  show G E K 3 0 0 [(0, .ref a0), (1, .int x1)] [] [(a0, oB 7 [.ref a0_canal, .ref a0_history, .ref a0_imageCanal, .ref a0_imageHistory, .int va0_hasImage, .ref a0_tape, .ref a0_foreteller, .ref a0_search, .ref a0_sheets]), (a0_canal, oB 0 [.ref a0_canal_kind, .ref a0_canal_weight, .ref a0_canal_now, .int va0_canal_cells, .int va0_canal_people, .int va0_canal_sayings, .int va0_canal_frost]), (a0_canal_kind, aI E 6 va0_canal_kind), (a0_canal_weight, aI E 6 va0_canal_weight), (a0_canal_now, oB 3 [.ref a0_canal_now_ice, .ref a0_canal_now_juice, .ref a0_canal_now_fors, .int va0_canal_now_boat, .int va0_canal_now_minute, .int va0_canal_now_draw]), (a0_canal_now_juice, aI E 5 va0_canal_now_juice), (a0_canal_now_fors, aI E 5 va0_canal_now_fors), (a0_foreteller, oB 1 [.ref a0_foreteller_then, .ref a0_foreteller_marks])] 0
  refine g_iload_n k 1 dX7_boats_0 rfl rfl ?_
  refine g_iconst k dX7_boats_1 ic_0 ?_
  refine g_iconst k dX7_boats_2 ic_1 ?_
  obtain ⟨o1, ho2, hf⟩ := bnd_some hf
  refine g_cs k miX7_within msX7_within (ctX7_within (kL K) E N   x1 0 1 o1 ho2) [] (ws' := [(a0, oB 7 [.ref a0_canal, .ref a0_history, .ref a0_imageCanal, .ref a0_imageHistory, .int va0_hasImage, .ref a0_tape, .ref a0_foreteller, .ref a0_search, .ref a0_sheets]), (a0_canal, oB 0 [.ref a0_canal_kind, .ref a0_canal_weight, .ref a0_canal_now, .int va0_canal_cells, .int va0_canal_people, .int va0_canal_sayings, .int va0_canal_frost]), (a0_canal_kind, aI E 6 va0_canal_kind), (a0_canal_weight, aI E 6 va0_canal_weight), (a0_canal_now, oB 3 [.ref a0_canal_now_ice, .ref a0_canal_now_juice, .ref a0_canal_now_fors, .int va0_canal_now_boat, .int va0_canal_now_minute, .int va0_canal_now_draw]), (a0_canal_now_juice, aI E 5 va0_canal_now_juice), (a0_canal_now_fors, aI E 5 va0_canal_now_fors), (a0_foreteller, oB 1 [.ref a0_foreteller_then, .ref a0_foreteller_marks])]) dX7_boats_3 lkX7_61 rfl ⟨rfl, rfl⟩ ⟨by decide, by decide⟩ rfl rfl rfl (Nat.le_of_ble_eq_true rfl) rfl rfl rfl ?_
  refine g_st (st' := [.int o1]) rfl ?_
  refine g_if_ne k (tgt := 11) dX7_boats_6 (by decide) (fun c3 => ?_) (fun c3 => ?_)
  · replace hf := ite_f c3 hf
    refine g_aload_n k 0 dX7_boats_11 rfl rfl ?_
    refine g_get k cfX7 6 0 dX7_boats_12 lkX7_43 (by decide) rfl rfl ?_
    refine g_aload_n k 0 dX7_boats_15 rfl rfl ?_
    refine g_get k cfX7 0 0 dX7_boats_16 lkX7_10 (by decide) rfl rfl ?_
    obtain ⟨o4, ho5, hf⟩ := bnd_some hf
    refine g_cv k miX1_bestParting mvX1_bestParting (ctX1_bestParting (kL K) E N a0_foreteller a0_foreteller_then a0_foreteller_marks a0_canal a0_canal_kind a0_canal_weight a0_canal_now a0_canal_now_ice a0_canal_now_juice a0_canal_now_fors va0_canal_cells va0_canal_people va0_canal_sayings va0_canal_frost va0_canal_kind va0_canal_weight va0_canal_now_boat va0_canal_now_minute va0_canal_now_draw va0_canal_now_juice va0_canal_now_fors  o4 ho5) [7, 1, 2, 3, 4, 5, 6] 0 (ws' := [(a0, oB 7 [.ref a0_canal, .ref a0_history, .ref a0_imageCanal, .ref a0_imageHistory, .int va0_hasImage, .ref a0_tape, .ref a0_foreteller, .ref a0_search, .ref a0_sheets]), (a0_canal, oB 0 [.ref a0_canal_kind, .ref a0_canal_weight, .ref a0_canal_now, .int va0_canal_cells, .int va0_canal_people, .int va0_canal_sayings, .int va0_canal_frost]), (a0_canal_kind, aI E 6 va0_canal_kind), (a0_canal_weight, aI E 6 va0_canal_weight), (a0_canal_now, oB 3 [.ref a0_canal_now_ice, .ref a0_canal_now_juice, .ref a0_canal_now_fors, .int va0_canal_now_boat, .int va0_canal_now_minute, .int va0_canal_now_draw]), (a0_canal_now_juice, aI E 5 va0_canal_now_juice), (a0_canal_now_fors, aI E 5 va0_canal_now_fors), (a0_foreteller, oB 1 [.ref a0_foreteller_then, .ref a0_foreteller_marks])]) dX7_boats_19 lkX7_240 rfl ⟨rfl, rfl⟩ ⟨by decide, by decide⟩ rfl rfl rfl rfl (Nat.le_of_ble_eq_true rfl) rfl rfl rfl ?_
    refine g_st (st' := [.int o4]) rfl ?_
    refine g_istore_n k (lv' := [(2, .int o4), (0, .ref a0), (1, .int x1)]) dX7_boats_22 rfl (by decide) rfl ?_
    refine g_iload_n k 2 dX7_boats_23 rfl rfl ?_
    refine g_if_ne k (tgt := 31) dX7_boats_24 (by decide) (fun c6 => ?_) (fun c6 => ?_)
    · replace hf := ite_f c6 hf
      refine g_aload_n k 1 dX7_boats_31 rfl rfl ?_
      refine g_get k cfX7 0 0 dX7_boats_32 lkX7_10 (by decide) rfl rfl ?_
      refine g_iload_n k 0 dX7_boats_35 rfl rfl ?_
      obtain ⟨o7, ho8, hf⟩ := bnd_some hf
      refine g_cv k miX0_partingRocks mvX0_partingRocks (ctX0_partingRocks (kL K) E N a0_canal a0_canal_kind a0_canal_weight a0_canal_now a0_canal_now_ice a0_canal_now_juice a0_canal_now_fors va0_canal_cells va0_canal_people va0_canal_sayings va0_canal_frost va0_canal_kind va0_canal_weight va0_canal_now_boat va0_canal_now_minute va0_canal_now_draw va0_canal_now_juice va0_canal_now_fors o4 o7 ho8) [1, 2, 3, 4, 5, 6] 0 (ws' := [(a0, oB 7 [.ref a0_canal, .ref a0_history, .ref a0_imageCanal, .ref a0_imageHistory, .int va0_hasImage, .ref a0_tape, .ref a0_foreteller, .ref a0_search, .ref a0_sheets]), (a0_canal, oB 0 [.ref a0_canal_kind, .ref a0_canal_weight, .ref a0_canal_now, .int va0_canal_cells, .int va0_canal_people, .int va0_canal_sayings, .int va0_canal_frost]), (a0_canal_kind, aI E 6 va0_canal_kind), (a0_canal_weight, aI E 6 va0_canal_weight), (a0_canal_now, oB 3 [.ref a0_canal_now_ice, .ref a0_canal_now_juice, .ref a0_canal_now_fors, .int va0_canal_now_boat, .int va0_canal_now_minute, .int va0_canal_now_draw]), (a0_canal_now_juice, aI E 5 va0_canal_now_juice), (a0_canal_now_fors, aI E 5 va0_canal_now_fors), (a0_foreteller, oB 1 [.ref a0_foreteller_then, .ref a0_foreteller_marks])]) dX7_boats_36 lkX7_243 rfl ⟨rfl, rfl⟩ ⟨by decide, by decide⟩ rfl rfl rfl rfl (Nat.le_of_ble_eq_true rfl) rfl rfl rfl ?_
      refine g_st (st' := [.int o7]) rfl ?_
      obtain rfl := Option.some.inj hf
      exact g_iret k r dX7_boats_39 ⟨rfl, rfl⟩
    · replace hf := ite_t c6 hf
      refine g_iload_n k 0 dX7_boats_27 rfl rfl ?_
      refine g_goto k (tgt := 39) dX7_boats_28 (by decide) ?_
      obtain rfl := Option.some.inj hf
      exact g_iret k r dX7_boats_39 ⟨rfl, rfl⟩
  · replace hf := ite_t c3 hf
    refine g_iconst k dX7_boats_9 ic_m1 ?_
    obtain rfl := Option.some.inj hf
    exact g_iret k r dX7_boats_10 ⟨rfl, rfl⟩
abbrev rmX7_ring : Room := { frames := 6, cells := 0, slots := 0, locals := 146 }
def fX7_ring (N : Nat) (va0_canal_cells : Int32) (va0_canal_people : Int32) (va0_canal_sayings : Int32) (va0_canal_frost : Int32) (va0_canal_kind : Nat → Int32) (va0_canal_weight : Nat → Int32) (va0_canal_now_boat : Int32) (va0_canal_now_minute : Int32) (va0_canal_now_draw : Int32) (va0_canal_now_ice : Nat → Int32) (va0_canal_now_juice : Nat → Int32) (va0_canal_now_fors : Nat → Int32) (va0_foreteller_then_boat : Int32) (va0_foreteller_then_minute : Int32) (va0_foreteller_then_draw : Int32) (va0_foreteller_then_ice : Nat → Int32) (va0_foreteller_then_juice : Nat → Int32) (va0_foreteller_then_fors : Nat → Int32) (va0_foreteller_marks : Nat → Int64) (x1 : Int32) : Option (Int32 × Int32 × Int32 × Int32 × (Nat → Int32) × (Nat → Int32) × (Nat → Int32) × (Nat → Int64)) :=
  bnd (fX7_within N x1 0 1) fun o1 =>
  if o1 = 0 then
  some ((-1), va0_foreteller_then_boat, va0_foreteller_then_minute, va0_foreteller_then_draw, va0_foreteller_then_ice, va0_foreteller_then_juice, va0_foreteller_then_fors, va0_foreteller_marks)
  else
  bnd (fX1_ringEnd N va0_foreteller_then_boat va0_foreteller_then_minute va0_foreteller_then_draw va0_foreteller_then_ice va0_foreteller_then_juice va0_foreteller_then_fors va0_foreteller_marks va0_canal_cells va0_canal_people va0_canal_sayings va0_canal_frost va0_canal_kind va0_canal_weight va0_canal_now_boat va0_canal_now_minute va0_canal_now_draw va0_canal_now_ice va0_canal_now_juice va0_canal_now_fors) fun o4 =>
  if o4.1 = (-4) then
  some (o4.1, o4.2.1, o4.2.2.1, o4.2.2.2.1, o4.2.2.2.2.1, o4.2.2.2.2.2.1, o4.2.2.2.2.2.2.1, o4.2.2.2.2.2.2.2)
  else
  if x1 = 0 then
  some (o4.1, o4.2.1, o4.2.2.1, o4.2.2.2.1, o4.2.2.2.2.1, o4.2.2.2.2.2.1, o4.2.2.2.2.2.2.1, o4.2.2.2.2.2.2.2)
  else
  bnd (fX1_firstLike N o4.2.2.2.2.2.2.2 o4.1) fun o8 =>
  some ((o4.1 - o8), o4.2.1, o4.2.2.1, o4.2.2.2.1, o4.2.2.2.2.1, o4.2.2.2.2.2.1, o4.2.2.2.2.2.2.1, o4.2.2.2.2.2.2.2)
set_option maxHeartbeats 4000000 in
set_option maxRecDepth 100000 in
theorem ctX7_ring (l : Launch) (E : Ev) (N : Nat) (a0 : Nat) (a0_canal : Nat) (a0_history : Nat) (a0_imageCanal : Nat) (a0_imageHistory : Nat) (a0_tape : Nat) (a0_foreteller : Nat) (a0_search : Nat) (a0_sheets : Nat) (a0_canal_kind : Nat) (a0_canal_weight : Nat) (a0_canal_now : Nat) (a0_canal_now_ice : Nat) (a0_canal_now_juice : Nat) (a0_canal_now_fors : Nat) (a0_foreteller_then : Nat) (a0_foreteller_marks : Nat) (a0_foreteller_then_ice : Nat) (a0_foreteller_then_juice : Nat) (a0_foreteller_then_fors : Nat) (va0_hasImage : Int32) (va0_canal_cells : Int32) (va0_canal_people : Int32) (va0_canal_sayings : Int32) (va0_canal_frost : Int32) (va0_canal_kind : Nat → Int32) (va0_canal_weight : Nat → Int32) (va0_canal_now_boat : Int32) (va0_canal_now_minute : Int32) (va0_canal_now_draw : Int32) (va0_canal_now_ice : Nat → Int32) (va0_canal_now_juice : Nat → Int32) (va0_canal_now_fors : Nat → Int32) (va0_foreteller_then_boat : Int32) (va0_foreteller_then_minute : Int32) (va0_foreteller_then_draw : Int32) (va0_foreteller_then_ice : Nat → Int32) (va0_foreteller_then_juice : Nat → Int32) (va0_foreteller_then_fors : Nat → Int32) (va0_foreteller_marks : Nat → Int64) (x1 : Int32) (out : Int32 × Int32 × Int32 × Int32 × (Nat → Int32) × (Nat → Int32) × (Nat → Int32) × (Nat → Int64)) (hf : fX7_ring N va0_canal_cells va0_canal_people va0_canal_sayings va0_canal_frost va0_canal_kind va0_canal_weight va0_canal_now_boat va0_canal_now_minute va0_canal_now_draw va0_canal_now_ice va0_canal_now_juice va0_canal_now_fors va0_foreteller_then_boat va0_foreteller_then_minute va0_foreteller_then_draw va0_foreteller_then_ice va0_foreteller_then_juice va0_foreteller_then_fors va0_foreteller_marks x1 = some out) : Ct l E yX7_ring cX7_ring 3 (some .int) rmX7_ring [.ref a0, .int x1] [(a0, oB 7 [.ref a0_canal, .ref a0_history, .ref a0_imageCanal, .ref a0_imageHistory, .int va0_hasImage, .ref a0_tape, .ref a0_foreteller, .ref a0_search, .ref a0_sheets]), (a0_canal, oB 0 [.ref a0_canal_kind, .ref a0_canal_weight, .ref a0_canal_now, .int va0_canal_cells, .int va0_canal_people, .int va0_canal_sayings, .int va0_canal_frost]), (a0_canal_kind, aI E 6 va0_canal_kind), (a0_canal_weight, aI E 6 va0_canal_weight), (a0_canal_now, oB 3 [.ref a0_canal_now_ice, .ref a0_canal_now_juice, .ref a0_canal_now_fors, .int va0_canal_now_boat, .int va0_canal_now_minute, .int va0_canal_now_draw]), (a0_canal_now_ice, aI E 12 va0_canal_now_ice), (a0_canal_now_juice, aI E 5 va0_canal_now_juice), (a0_canal_now_fors, aI E 5 va0_canal_now_fors), (a0_foreteller, oB 1 [.ref a0_foreteller_then, .ref a0_foreteller_marks]), (a0_foreteller_then, oB 3 [.ref a0_foreteller_then_ice, .ref a0_foreteller_then_juice, .ref a0_foreteller_then_fors, .int va0_foreteller_then_boat, .int va0_foreteller_then_minute, .int va0_foreteller_then_draw]), (a0_foreteller_then_ice, aI E 12 va0_foreteller_then_ice), (a0_foreteller_then_juice, aI E 5 va0_foreteller_then_juice), (a0_foreteller_then_fors, aI E 5 va0_foreteller_then_fors), (a0_foreteller_marks, aJ E 201 va0_foreteller_marks)] (Pe (some (.int out.1)) [(a0, oB 7 [.ref a0_canal, .ref a0_history, .ref a0_imageCanal, .ref a0_imageHistory, .int va0_hasImage, .ref a0_tape, .ref a0_foreteller, .ref a0_search, .ref a0_sheets]), (a0_canal, oB 0 [.ref a0_canal_kind, .ref a0_canal_weight, .ref a0_canal_now, .int va0_canal_cells, .int va0_canal_people, .int va0_canal_sayings, .int va0_canal_frost]), (a0_canal_kind, aI E 6 va0_canal_kind), (a0_canal_weight, aI E 6 va0_canal_weight), (a0_canal_now, oB 3 [.ref a0_canal_now_ice, .ref a0_canal_now_juice, .ref a0_canal_now_fors, .int va0_canal_now_boat, .int va0_canal_now_minute, .int va0_canal_now_draw]), (a0_canal_now_ice, aI E 12 va0_canal_now_ice), (a0_canal_now_juice, aI E 5 va0_canal_now_juice), (a0_canal_now_fors, aI E 5 va0_canal_now_fors), (a0_foreteller, oB 1 [.ref a0_foreteller_then, .ref a0_foreteller_marks]), (a0_foreteller_then, oB 3 [.ref a0_foreteller_then_ice, .ref a0_foreteller_then_juice, .ref a0_foreteller_then_fors, .int out.2.1, .int out.2.2.1, .int out.2.2.2.1]), (a0_foreteller_then_ice, aI E 12 out.2.2.2.2.1), (a0_foreteller_then_juice, aI E 5 out.2.2.2.2.2.1), (a0_foreteller_then_fors, aI E 5 out.2.2.2.2.2.2.1), (a0_foreteller_marks, aJ E 201 out.2.2.2.2.2.2.2)]) := by
  refine Ct.of rfl (Nat.le_of_ble_eq_true rfl) (fun K hL k r hin => ?_)
  subst hL
  unfold fX7_ring at hf
  show G E K 3 0 0 [(0, .ref a0), (1, .int x1)] [] [(a0, oB 7 [.ref a0_canal, .ref a0_history, .ref a0_imageCanal, .ref a0_imageHistory, .int va0_hasImage, .ref a0_tape, .ref a0_foreteller, .ref a0_search, .ref a0_sheets]), (a0_canal, oB 0 [.ref a0_canal_kind, .ref a0_canal_weight, .ref a0_canal_now, .int va0_canal_cells, .int va0_canal_people, .int va0_canal_sayings, .int va0_canal_frost]), (a0_canal_kind, aI E 6 va0_canal_kind), (a0_canal_weight, aI E 6 va0_canal_weight), (a0_canal_now, oB 3 [.ref a0_canal_now_ice, .ref a0_canal_now_juice, .ref a0_canal_now_fors, .int va0_canal_now_boat, .int va0_canal_now_minute, .int va0_canal_now_draw]), (a0_canal_now_ice, aI E 12 va0_canal_now_ice), (a0_canal_now_juice, aI E 5 va0_canal_now_juice), (a0_canal_now_fors, aI E 5 va0_canal_now_fors), (a0_foreteller, oB 1 [.ref a0_foreteller_then, .ref a0_foreteller_marks]), (a0_foreteller_then, oB 3 [.ref a0_foreteller_then_ice, .ref a0_foreteller_then_juice, .ref a0_foreteller_then_fors, .int va0_foreteller_then_boat, .int va0_foreteller_then_minute, .int va0_foreteller_then_draw]), (a0_foreteller_then_ice, aI E 12 va0_foreteller_then_ice), (a0_foreteller_then_juice, aI E 5 va0_foreteller_then_juice), (a0_foreteller_then_fors, aI E 5 va0_foreteller_then_fors), (a0_foreteller_marks, aJ E 201 va0_foreteller_marks)] 0
  refine g_iload_n k 1 dX7_ring_0 rfl rfl ?_
  refine g_iconst k dX7_ring_1 ic_0 ?_
  refine g_iconst k dX7_ring_2 ic_1 ?_
  obtain ⟨o1, ho2, hf⟩ := bnd_some hf
  refine g_cs k miX7_within msX7_within (ctX7_within (kL K) E N   x1 0 1 o1 ho2) [] (ws' := [(a0, oB 7 [.ref a0_canal, .ref a0_history, .ref a0_imageCanal, .ref a0_imageHistory, .int va0_hasImage, .ref a0_tape, .ref a0_foreteller, .ref a0_search, .ref a0_sheets]), (a0_canal, oB 0 [.ref a0_canal_kind, .ref a0_canal_weight, .ref a0_canal_now, .int va0_canal_cells, .int va0_canal_people, .int va0_canal_sayings, .int va0_canal_frost]), (a0_canal_kind, aI E 6 va0_canal_kind), (a0_canal_weight, aI E 6 va0_canal_weight), (a0_canal_now, oB 3 [.ref a0_canal_now_ice, .ref a0_canal_now_juice, .ref a0_canal_now_fors, .int va0_canal_now_boat, .int va0_canal_now_minute, .int va0_canal_now_draw]), (a0_canal_now_ice, aI E 12 va0_canal_now_ice), (a0_canal_now_juice, aI E 5 va0_canal_now_juice), (a0_canal_now_fors, aI E 5 va0_canal_now_fors), (a0_foreteller, oB 1 [.ref a0_foreteller_then, .ref a0_foreteller_marks]), (a0_foreteller_then, oB 3 [.ref a0_foreteller_then_ice, .ref a0_foreteller_then_juice, .ref a0_foreteller_then_fors, .int va0_foreteller_then_boat, .int va0_foreteller_then_minute, .int va0_foreteller_then_draw]), (a0_foreteller_then_ice, aI E 12 va0_foreteller_then_ice), (a0_foreteller_then_juice, aI E 5 va0_foreteller_then_juice), (a0_foreteller_then_fors, aI E 5 va0_foreteller_then_fors), (a0_foreteller_marks, aJ E 201 va0_foreteller_marks)]) dX7_ring_3 lkX7_61 rfl ⟨rfl, rfl⟩ ⟨by decide, by decide⟩ rfl rfl rfl (Nat.le_of_ble_eq_true rfl) rfl rfl rfl ?_
  refine g_st (st' := [.int o1]) rfl ?_
  refine g_if_ne k (tgt := 11) dX7_ring_6 (by decide) (fun c3 => ?_) (fun c3 => ?_)
  · replace hf := ite_f c3 hf
    refine g_aload_n k 0 dX7_ring_11 rfl rfl ?_
    refine g_get k cfX7 6 0 dX7_ring_12 lkX7_43 (by decide) rfl rfl ?_
    refine g_aload_n k 0 dX7_ring_15 rfl rfl ?_
    refine g_get k cfX7 0 0 dX7_ring_16 lkX7_10 (by decide) rfl rfl ?_
    obtain ⟨o4, ho5, hf⟩ := bnd_some hf
    refine g_cv k miX1_ringEnd mvX1_ringEnd (ctX1_ringEnd (kL K) E N a0_foreteller a0_foreteller_then a0_foreteller_marks a0_foreteller_then_ice a0_foreteller_then_juice a0_foreteller_then_fors a0_canal a0_canal_kind a0_canal_weight a0_canal_now a0_canal_now_ice a0_canal_now_juice a0_canal_now_fors va0_foreteller_then_boat va0_foreteller_then_minute va0_foreteller_then_draw va0_foreteller_then_ice va0_foreteller_then_juice va0_foreteller_then_fors va0_foreteller_marks va0_canal_cells va0_canal_people va0_canal_sayings va0_canal_frost va0_canal_kind va0_canal_weight va0_canal_now_boat va0_canal_now_minute va0_canal_now_draw va0_canal_now_ice va0_canal_now_juice va0_canal_now_fors  o4 ho5) [8, 9, 10, 11, 12, 13, 1, 2, 3, 4, 5, 6, 7] 0 (ws' := [(a0, oB 7 [.ref a0_canal, .ref a0_history, .ref a0_imageCanal, .ref a0_imageHistory, .int va0_hasImage, .ref a0_tape, .ref a0_foreteller, .ref a0_search, .ref a0_sheets]), (a0_canal, oB 0 [.ref a0_canal_kind, .ref a0_canal_weight, .ref a0_canal_now, .int va0_canal_cells, .int va0_canal_people, .int va0_canal_sayings, .int va0_canal_frost]), (a0_canal_kind, aI E 6 va0_canal_kind), (a0_canal_weight, aI E 6 va0_canal_weight), (a0_canal_now, oB 3 [.ref a0_canal_now_ice, .ref a0_canal_now_juice, .ref a0_canal_now_fors, .int va0_canal_now_boat, .int va0_canal_now_minute, .int va0_canal_now_draw]), (a0_canal_now_ice, aI E 12 va0_canal_now_ice), (a0_canal_now_juice, aI E 5 va0_canal_now_juice), (a0_canal_now_fors, aI E 5 va0_canal_now_fors), (a0_foreteller, oB 1 [.ref a0_foreteller_then, .ref a0_foreteller_marks]), (a0_foreteller_then, oB 3 [.ref a0_foreteller_then_ice, .ref a0_foreteller_then_juice, .ref a0_foreteller_then_fors, .int o4.2.1, .int o4.2.2.1, .int o4.2.2.2.1]), (a0_foreteller_then_ice, aI E 12 o4.2.2.2.2.1), (a0_foreteller_then_juice, aI E 5 o4.2.2.2.2.2.1), (a0_foreteller_then_fors, aI E 5 o4.2.2.2.2.2.2.1), (a0_foreteller_marks, aJ E 201 o4.2.2.2.2.2.2.2)]) dX7_ring_19 lkX7_246 rfl ⟨rfl, rfl⟩ ⟨by decide, by decide⟩ rfl rfl rfl rfl (Nat.le_of_ble_eq_true rfl) rfl rfl rfl ?_
    refine g_st (st' := [.int o4.1]) rfl ?_
    refine g_istore_n k (lv' := [(2, .int o4.1), (0, .ref a0), (1, .int x1)]) dX7_ring_22 rfl (by decide) rfl ?_
    refine g_iload_n k 0 dX7_ring_23 rfl rfl ?_
    refine g_bipush k dX7_ring_24 bi_m4 ?_
    refine g_icmp_eq k (tgt := 33) dX7_ring_26 (by decide) (fun c6 => ?_) (fun c6 => ?_)
    · replace hf := ite_t c6 hf
      refine g_iload_n k 0 dX7_ring_33 rfl rfl ?_
      obtain rfl := Option.some.inj hf
      exact g_iret k r dX7_ring_34 ⟨rfl, rfl⟩
    · replace hf := ite_f c6 hf
      refine g_iload_n k 2 dX7_ring_29 rfl rfl ?_
      refine g_if_ne k (tgt := 35) dX7_ring_30 (by decide) (fun c7 => ?_) (fun c7 => ?_)
      · replace hf := ite_f c7 hf
        refine g_iload_n k 0 dX7_ring_35 rfl rfl ?_
        refine g_aload_n k 1 dX7_ring_36 rfl rfl ?_
        refine g_get k cfX7 6 0 dX7_ring_37 lkX7_43 (by decide) rfl rfl ?_
        refine g_iload_n k 0 dX7_ring_40 rfl rfl ?_
        obtain ⟨o8, ho9, hf⟩ := bnd_some hf
        refine g_cv k miX1_firstLike mvX1_firstLike (ctX1_firstLike (kL K) E N a0_foreteller a0_foreteller_then a0_foreteller_marks o4.2.2.2.2.2.2.2 o4.1 o8 ho9) [8, 13] 0 (ws' := [(a0, oB 7 [.ref a0_canal, .ref a0_history, .ref a0_imageCanal, .ref a0_imageHistory, .int va0_hasImage, .ref a0_tape, .ref a0_foreteller, .ref a0_search, .ref a0_sheets]), (a0_canal, oB 0 [.ref a0_canal_kind, .ref a0_canal_weight, .ref a0_canal_now, .int va0_canal_cells, .int va0_canal_people, .int va0_canal_sayings, .int va0_canal_frost]), (a0_canal_kind, aI E 6 va0_canal_kind), (a0_canal_weight, aI E 6 va0_canal_weight), (a0_canal_now, oB 3 [.ref a0_canal_now_ice, .ref a0_canal_now_juice, .ref a0_canal_now_fors, .int va0_canal_now_boat, .int va0_canal_now_minute, .int va0_canal_now_draw]), (a0_canal_now_ice, aI E 12 va0_canal_now_ice), (a0_canal_now_juice, aI E 5 va0_canal_now_juice), (a0_canal_now_fors, aI E 5 va0_canal_now_fors), (a0_foreteller, oB 1 [.ref a0_foreteller_then, .ref a0_foreteller_marks]), (a0_foreteller_then, oB 3 [.ref a0_foreteller_then_ice, .ref a0_foreteller_then_juice, .ref a0_foreteller_then_fors, .int o4.2.1, .int o4.2.2.1, .int o4.2.2.2.1]), (a0_foreteller_then_ice, aI E 12 o4.2.2.2.2.1), (a0_foreteller_then_juice, aI E 5 o4.2.2.2.2.2.1), (a0_foreteller_then_fors, aI E 5 o4.2.2.2.2.2.2.1), (a0_foreteller_marks, aJ E 201 o4.2.2.2.2.2.2.2)]) dX7_ring_41 lkX7_249 rfl ⟨rfl, rfl⟩ ⟨by decide, by decide⟩ rfl rfl rfl rfl (Nat.le_of_ble_eq_true rfl) rfl rfl rfl ?_
        refine g_st (st' := [.int o8, .int o4.1]) rfl ?_
        refine g_isub k dX7_ring_44 ?_
        obtain rfl := Option.some.inj hf
        exact g_iret k r dX7_ring_45 ⟨rfl, rfl⟩
      · replace hf := ite_t c7 hf
        refine g_iload_n k 0 dX7_ring_33 rfl rfl ?_
        obtain rfl := Option.some.inj hf
        exact g_iret k r dX7_ring_34 ⟨rfl, rfl⟩
  · replace hf := ite_t c3 hf
    refine g_iconst k dX7_ring_9 ic_m1 ?_
    obtain rfl := Option.some.inj hf
    exact g_iret k r dX7_ring_10 ⟨rfl, rfl⟩
abbrev rmX7_enough : Room := { frames := 4, cells := 0, slots := 0, locals := 102 }
def fX7_enough (N : Nat) (va0_canal_cells : Int32) (va0_canal_people : Int32) (va0_canal_sayings : Int32) (va0_canal_kind : Nat → Int32) (va0_canal_weight : Nat → Int32) (va0_canal_now_boat : Int32) (va0_canal_now_minute : Int32) (va0_canal_now_ice : Nat → Int32) (va0_canal_now_fors : Nat → Int32) (x1 : Int32) : Option (Int32) :=
  bnd (fX0_hasSaying N va0_canal_sayings x1) fun o1 =>
  if o1 = 0 then
  some ((-1))
  else
  bnd (fX1_leastJuice N va0_canal_cells va0_canal_people va0_canal_kind va0_canal_weight va0_canal_now_boat va0_canal_now_minute va0_canal_now_ice va0_canal_now_fors x1) fun o4 =>
  some (o4)
set_option maxHeartbeats 4000000 in
set_option maxRecDepth 100000 in
theorem ctX7_enough (l : Launch) (E : Ev) (N : Nat) (a0 : Nat) (a0_canal : Nat) (a0_history : Nat) (a0_imageCanal : Nat) (a0_imageHistory : Nat) (a0_tape : Nat) (a0_foreteller : Nat) (a0_search : Nat) (a0_sheets : Nat) (a0_canal_kind : Nat) (a0_canal_weight : Nat) (a0_canal_now : Nat) (a0_canal_now_ice : Nat) (a0_canal_now_juice : Nat) (a0_canal_now_fors : Nat) (a0_foreteller_then : Nat) (a0_foreteller_marks : Nat) (va0_hasImage : Int32) (va0_canal_cells : Int32) (va0_canal_people : Int32) (va0_canal_sayings : Int32) (va0_canal_frost : Int32) (va0_canal_kind : Nat → Int32) (va0_canal_weight : Nat → Int32) (va0_canal_now_boat : Int32) (va0_canal_now_minute : Int32) (va0_canal_now_draw : Int32) (va0_canal_now_ice : Nat → Int32) (va0_canal_now_fors : Nat → Int32) (x1 : Int32) (out : Int32) (hf : fX7_enough N va0_canal_cells va0_canal_people va0_canal_sayings va0_canal_kind va0_canal_weight va0_canal_now_boat va0_canal_now_minute va0_canal_now_ice va0_canal_now_fors x1 = some out) : Ct l E yX7_enough cX7_enough 2 (some .int) rmX7_enough [.ref a0, .int x1] [(a0, oB 7 [.ref a0_canal, .ref a0_history, .ref a0_imageCanal, .ref a0_imageHistory, .int va0_hasImage, .ref a0_tape, .ref a0_foreteller, .ref a0_search, .ref a0_sheets]), (a0_canal, oB 0 [.ref a0_canal_kind, .ref a0_canal_weight, .ref a0_canal_now, .int va0_canal_cells, .int va0_canal_people, .int va0_canal_sayings, .int va0_canal_frost]), (a0_canal_kind, aI E 6 va0_canal_kind), (a0_canal_weight, aI E 6 va0_canal_weight), (a0_canal_now, oB 3 [.ref a0_canal_now_ice, .ref a0_canal_now_juice, .ref a0_canal_now_fors, .int va0_canal_now_boat, .int va0_canal_now_minute, .int va0_canal_now_draw]), (a0_canal_now_ice, aI E 12 va0_canal_now_ice), (a0_canal_now_fors, aI E 5 va0_canal_now_fors), (a0_foreteller, oB 1 [.ref a0_foreteller_then, .ref a0_foreteller_marks])] (Pe (some (.int out)) [(a0, oB 7 [.ref a0_canal, .ref a0_history, .ref a0_imageCanal, .ref a0_imageHistory, .int va0_hasImage, .ref a0_tape, .ref a0_foreteller, .ref a0_search, .ref a0_sheets]), (a0_canal, oB 0 [.ref a0_canal_kind, .ref a0_canal_weight, .ref a0_canal_now, .int va0_canal_cells, .int va0_canal_people, .int va0_canal_sayings, .int va0_canal_frost]), (a0_canal_kind, aI E 6 va0_canal_kind), (a0_canal_weight, aI E 6 va0_canal_weight), (a0_canal_now, oB 3 [.ref a0_canal_now_ice, .ref a0_canal_now_juice, .ref a0_canal_now_fors, .int va0_canal_now_boat, .int va0_canal_now_minute, .int va0_canal_now_draw]), (a0_canal_now_ice, aI E 12 va0_canal_now_ice), (a0_canal_now_fors, aI E 5 va0_canal_now_fors), (a0_foreteller, oB 1 [.ref a0_foreteller_then, .ref a0_foreteller_marks])]) := by
  refine Ct.of rfl (Nat.le_of_ble_eq_true rfl) (fun K hL k r hin => ?_)
  subst hL
  unfold fX7_enough at hf
  show G E K 2 0 0 [(0, .ref a0), (1, .int x1)] [] [(a0, oB 7 [.ref a0_canal, .ref a0_history, .ref a0_imageCanal, .ref a0_imageHistory, .int va0_hasImage, .ref a0_tape, .ref a0_foreteller, .ref a0_search, .ref a0_sheets]), (a0_canal, oB 0 [.ref a0_canal_kind, .ref a0_canal_weight, .ref a0_canal_now, .int va0_canal_cells, .int va0_canal_people, .int va0_canal_sayings, .int va0_canal_frost]), (a0_canal_kind, aI E 6 va0_canal_kind), (a0_canal_weight, aI E 6 va0_canal_weight), (a0_canal_now, oB 3 [.ref a0_canal_now_ice, .ref a0_canal_now_juice, .ref a0_canal_now_fors, .int va0_canal_now_boat, .int va0_canal_now_minute, .int va0_canal_now_draw]), (a0_canal_now_ice, aI E 12 va0_canal_now_ice), (a0_canal_now_fors, aI E 5 va0_canal_now_fors), (a0_foreteller, oB 1 [.ref a0_foreteller_then, .ref a0_foreteller_marks])] 0
  refine g_aload_n k 0 dX7_enough_0 rfl rfl ?_
  refine g_get k cfX7 0 0 dX7_enough_1 lkX7_10 (by decide) rfl rfl ?_
  refine g_iload_n k 1 dX7_enough_4 rfl rfl ?_
  obtain ⟨o1, ho2, hf⟩ := bnd_some hf
  refine g_cv k miX0_hasSaying mvX0_hasSaying (ctX0_hasSaying (kL K) E N a0_canal a0_canal_kind a0_canal_weight a0_canal_now va0_canal_cells va0_canal_people va0_canal_sayings va0_canal_frost x1 o1 ho2) [1] 0 (ws' := [(a0, oB 7 [.ref a0_canal, .ref a0_history, .ref a0_imageCanal, .ref a0_imageHistory, .int va0_hasImage, .ref a0_tape, .ref a0_foreteller, .ref a0_search, .ref a0_sheets]), (a0_canal, oB 0 [.ref a0_canal_kind, .ref a0_canal_weight, .ref a0_canal_now, .int va0_canal_cells, .int va0_canal_people, .int va0_canal_sayings, .int va0_canal_frost]), (a0_canal_kind, aI E 6 va0_canal_kind), (a0_canal_weight, aI E 6 va0_canal_weight), (a0_canal_now, oB 3 [.ref a0_canal_now_ice, .ref a0_canal_now_juice, .ref a0_canal_now_fors, .int va0_canal_now_boat, .int va0_canal_now_minute, .int va0_canal_now_draw]), (a0_canal_now_ice, aI E 12 va0_canal_now_ice), (a0_canal_now_fors, aI E 5 va0_canal_now_fors), (a0_foreteller, oB 1 [.ref a0_foreteller_then, .ref a0_foreteller_marks])]) dX7_enough_5 lkX7_119 rfl ⟨rfl, rfl⟩ ⟨by decide, by decide⟩ rfl rfl rfl rfl (Nat.le_of_ble_eq_true rfl) rfl rfl rfl ?_
  refine g_st (st' := [.int o1]) rfl ?_
  refine g_if_eq k (tgt := 26) dX7_enough_8 (by decide) (fun c3 => ?_) (fun c3 => ?_)
  · replace hf := ite_t c3 hf
    refine g_iconst k dX7_enough_26 ic_m1 ?_
    obtain rfl := Option.some.inj hf
    exact g_iret k r dX7_enough_27 ⟨rfl, rfl⟩
  · replace hf := ite_f c3 hf
    refine g_aload_n k 0 dX7_enough_11 rfl rfl ?_
    refine g_get k cfX7 6 0 dX7_enough_12 lkX7_43 (by decide) rfl rfl ?_
    refine g_aload_n k 0 dX7_enough_15 rfl rfl ?_
    refine g_get k cfX7 0 0 dX7_enough_16 lkX7_10 (by decide) rfl rfl ?_
    refine g_iload_n k 1 dX7_enough_19 rfl rfl ?_
    obtain ⟨o4, ho5, hf⟩ := bnd_some hf
    refine g_cv k miX1_leastJuice mvX1_leastJuice (ctX1_leastJuice (kL K) E N a0_foreteller a0_foreteller_then a0_foreteller_marks a0_canal a0_canal_kind a0_canal_weight a0_canal_now a0_canal_now_ice a0_canal_now_juice a0_canal_now_fors va0_canal_cells va0_canal_people va0_canal_sayings va0_canal_frost va0_canal_kind va0_canal_weight va0_canal_now_boat va0_canal_now_minute va0_canal_now_draw va0_canal_now_ice va0_canal_now_fors x1 o4 ho5) [7, 1, 2, 3, 4, 5, 6] 0 (ws' := [(a0, oB 7 [.ref a0_canal, .ref a0_history, .ref a0_imageCanal, .ref a0_imageHistory, .int va0_hasImage, .ref a0_tape, .ref a0_foreteller, .ref a0_search, .ref a0_sheets]), (a0_canal, oB 0 [.ref a0_canal_kind, .ref a0_canal_weight, .ref a0_canal_now, .int va0_canal_cells, .int va0_canal_people, .int va0_canal_sayings, .int va0_canal_frost]), (a0_canal_kind, aI E 6 va0_canal_kind), (a0_canal_weight, aI E 6 va0_canal_weight), (a0_canal_now, oB 3 [.ref a0_canal_now_ice, .ref a0_canal_now_juice, .ref a0_canal_now_fors, .int va0_canal_now_boat, .int va0_canal_now_minute, .int va0_canal_now_draw]), (a0_canal_now_ice, aI E 12 va0_canal_now_ice), (a0_canal_now_fors, aI E 5 va0_canal_now_fors), (a0_foreteller, oB 1 [.ref a0_foreteller_then, .ref a0_foreteller_marks])]) dX7_enough_20 lkX7_252 rfl ⟨rfl, rfl⟩ ⟨by decide, by decide⟩ rfl rfl rfl rfl (Nat.le_of_ble_eq_true rfl) rfl rfl rfl ?_
    refine g_st (st' := [.int o4]) rfl ?_
    refine g_goto k (tgt := 27) dX7_enough_23 (by decide) ?_
    obtain rfl := Option.some.inj hf
    exact g_iret k r dX7_enough_27 ⟨rfl, rfl⟩
abbrev rmX7_sick : Room := { frames := 6, cells := 0, slots := 0, locals := 151 }
def fX7_sick (N : Nat) (va0_canal_cells : Int32) (va0_canal_people : Int32) (va0_canal_sayings : Int32) (va0_canal_kind : Nat → Int32) (va0_canal_weight : Nat → Int32) (va0_canal_now_boat : Int32) (va0_canal_now_minute : Int32) (va0_canal_now_ice : Nat → Int32) (va0_canal_now_juice : Nat → Int32) (va0_canal_now_fors : Nat → Int32) (x1 : Int32) (x2 : Int32) (x3 : Int32) : Option (Int32) :=
  bnd (fX0_hasSaying N va0_canal_sayings x1) fun o1 =>
  if o1 = 0 then
  some ((-1))
  else
  bnd (fX7_within N x2 0 10) fun o4 =>
  if o4 = 0 then
  some ((-1))
  else
  bnd (fX7_within N x3 0 1) fun o7 =>
  if o7 = 0 then
  some ((-1))
  else
  if x3 = 0 then
  bnd (fX1_likelihood N va0_canal_cells va0_canal_people va0_canal_kind va0_canal_weight va0_canal_now_boat va0_canal_now_minute va0_canal_now_ice va0_canal_now_juice va0_canal_now_fors x1 x2 1) fun o13 =>
  some (o13)
  else
  bnd (fX1_likelihood N va0_canal_cells va0_canal_people va0_canal_kind va0_canal_weight va0_canal_now_boat va0_canal_now_minute va0_canal_now_ice va0_canal_now_juice va0_canal_now_fors x1 x2 0) fun o11 =>
  some (o11)
set_option maxHeartbeats 4000000 in
set_option maxRecDepth 100000 in
theorem ctX7_sick (l : Launch) (E : Ev) (N : Nat) (a0 : Nat) (a0_canal : Nat) (a0_history : Nat) (a0_imageCanal : Nat) (a0_imageHistory : Nat) (a0_tape : Nat) (a0_foreteller : Nat) (a0_search : Nat) (a0_sheets : Nat) (a0_canal_kind : Nat) (a0_canal_weight : Nat) (a0_canal_now : Nat) (a0_canal_now_ice : Nat) (a0_canal_now_juice : Nat) (a0_canal_now_fors : Nat) (a0_foreteller_then : Nat) (a0_foreteller_marks : Nat) (va0_hasImage : Int32) (va0_canal_cells : Int32) (va0_canal_people : Int32) (va0_canal_sayings : Int32) (va0_canal_frost : Int32) (va0_canal_kind : Nat → Int32) (va0_canal_weight : Nat → Int32) (va0_canal_now_boat : Int32) (va0_canal_now_minute : Int32) (va0_canal_now_draw : Int32) (va0_canal_now_ice : Nat → Int32) (va0_canal_now_juice : Nat → Int32) (va0_canal_now_fors : Nat → Int32) (x1 : Int32) (x2 : Int32) (x3 : Int32) (out : Int32) (hf : fX7_sick N va0_canal_cells va0_canal_people va0_canal_sayings va0_canal_kind va0_canal_weight va0_canal_now_boat va0_canal_now_minute va0_canal_now_ice va0_canal_now_juice va0_canal_now_fors x1 x2 x3 = some out) : Ct l E yX7_sick cX7_sick 4 (some .int) rmX7_sick [.ref a0, .int x1, .int x2, .int x3] [(a0, oB 7 [.ref a0_canal, .ref a0_history, .ref a0_imageCanal, .ref a0_imageHistory, .int va0_hasImage, .ref a0_tape, .ref a0_foreteller, .ref a0_search, .ref a0_sheets]), (a0_canal, oB 0 [.ref a0_canal_kind, .ref a0_canal_weight, .ref a0_canal_now, .int va0_canal_cells, .int va0_canal_people, .int va0_canal_sayings, .int va0_canal_frost]), (a0_canal_kind, aI E 6 va0_canal_kind), (a0_canal_weight, aI E 6 va0_canal_weight), (a0_canal_now, oB 3 [.ref a0_canal_now_ice, .ref a0_canal_now_juice, .ref a0_canal_now_fors, .int va0_canal_now_boat, .int va0_canal_now_minute, .int va0_canal_now_draw]), (a0_canal_now_ice, aI E 12 va0_canal_now_ice), (a0_canal_now_juice, aI E 5 va0_canal_now_juice), (a0_canal_now_fors, aI E 5 va0_canal_now_fors), (a0_foreteller, oB 1 [.ref a0_foreteller_then, .ref a0_foreteller_marks])] (Pe (some (.int out)) [(a0, oB 7 [.ref a0_canal, .ref a0_history, .ref a0_imageCanal, .ref a0_imageHistory, .int va0_hasImage, .ref a0_tape, .ref a0_foreteller, .ref a0_search, .ref a0_sheets]), (a0_canal, oB 0 [.ref a0_canal_kind, .ref a0_canal_weight, .ref a0_canal_now, .int va0_canal_cells, .int va0_canal_people, .int va0_canal_sayings, .int va0_canal_frost]), (a0_canal_kind, aI E 6 va0_canal_kind), (a0_canal_weight, aI E 6 va0_canal_weight), (a0_canal_now, oB 3 [.ref a0_canal_now_ice, .ref a0_canal_now_juice, .ref a0_canal_now_fors, .int va0_canal_now_boat, .int va0_canal_now_minute, .int va0_canal_now_draw]), (a0_canal_now_ice, aI E 12 va0_canal_now_ice), (a0_canal_now_juice, aI E 5 va0_canal_now_juice), (a0_canal_now_fors, aI E 5 va0_canal_now_fors), (a0_foreteller, oB 1 [.ref a0_foreteller_then, .ref a0_foreteller_marks])]) := by
  refine Ct.of rfl (Nat.le_of_ble_eq_true rfl) (fun K hL k r hin => ?_)
  subst hL
  unfold fX7_sick at hf
  show G E K 4 0 0 [(0, .ref a0), (1, .int x1), (2, .int x2), (3, .int x3)] [] [(a0, oB 7 [.ref a0_canal, .ref a0_history, .ref a0_imageCanal, .ref a0_imageHistory, .int va0_hasImage, .ref a0_tape, .ref a0_foreteller, .ref a0_search, .ref a0_sheets]), (a0_canal, oB 0 [.ref a0_canal_kind, .ref a0_canal_weight, .ref a0_canal_now, .int va0_canal_cells, .int va0_canal_people, .int va0_canal_sayings, .int va0_canal_frost]), (a0_canal_kind, aI E 6 va0_canal_kind), (a0_canal_weight, aI E 6 va0_canal_weight), (a0_canal_now, oB 3 [.ref a0_canal_now_ice, .ref a0_canal_now_juice, .ref a0_canal_now_fors, .int va0_canal_now_boat, .int va0_canal_now_minute, .int va0_canal_now_draw]), (a0_canal_now_ice, aI E 12 va0_canal_now_ice), (a0_canal_now_juice, aI E 5 va0_canal_now_juice), (a0_canal_now_fors, aI E 5 va0_canal_now_fors), (a0_foreteller, oB 1 [.ref a0_foreteller_then, .ref a0_foreteller_marks])] 0
  refine g_aload_n k 0 dX7_sick_0 rfl rfl ?_
  refine g_get k cfX7 0 0 dX7_sick_1 lkX7_10 (by decide) rfl rfl ?_
  refine g_iload_n k 1 dX7_sick_4 rfl rfl ?_
  obtain ⟨o1, ho2, hf⟩ := bnd_some hf
  refine g_cv k miX0_hasSaying mvX0_hasSaying (ctX0_hasSaying (kL K) E N a0_canal a0_canal_kind a0_canal_weight a0_canal_now va0_canal_cells va0_canal_people va0_canal_sayings va0_canal_frost x1 o1 ho2) [1] 0 (ws' := [(a0, oB 7 [.ref a0_canal, .ref a0_history, .ref a0_imageCanal, .ref a0_imageHistory, .int va0_hasImage, .ref a0_tape, .ref a0_foreteller, .ref a0_search, .ref a0_sheets]), (a0_canal, oB 0 [.ref a0_canal_kind, .ref a0_canal_weight, .ref a0_canal_now, .int va0_canal_cells, .int va0_canal_people, .int va0_canal_sayings, .int va0_canal_frost]), (a0_canal_kind, aI E 6 va0_canal_kind), (a0_canal_weight, aI E 6 va0_canal_weight), (a0_canal_now, oB 3 [.ref a0_canal_now_ice, .ref a0_canal_now_juice, .ref a0_canal_now_fors, .int va0_canal_now_boat, .int va0_canal_now_minute, .int va0_canal_now_draw]), (a0_canal_now_ice, aI E 12 va0_canal_now_ice), (a0_canal_now_juice, aI E 5 va0_canal_now_juice), (a0_canal_now_fors, aI E 5 va0_canal_now_fors), (a0_foreteller, oB 1 [.ref a0_foreteller_then, .ref a0_foreteller_marks])]) dX7_sick_5 lkX7_119 rfl ⟨rfl, rfl⟩ ⟨by decide, by decide⟩ rfl rfl rfl rfl (Nat.le_of_ble_eq_true rfl) rfl rfl rfl ?_
  refine g_st (st' := [.int o1]) rfl ?_
  refine g_if_eq k (tgt := 30) dX7_sick_8 (by decide) (fun c3 => ?_) (fun c3 => ?_)
  · replace hf := ite_t c3 hf
    refine g_iconst k dX7_sick_30 ic_m1 ?_
    obtain rfl := Option.some.inj hf
    exact g_iret k r dX7_sick_31 ⟨rfl, rfl⟩
  · replace hf := ite_f c3 hf
    refine g_iload_n k 2 dX7_sick_11 rfl rfl ?_
    refine g_iconst k dX7_sick_12 ic_0 ?_
    refine g_bipush k dX7_sick_13 bi_10 ?_
    obtain ⟨o4, ho5, hf⟩ := bnd_some hf
    refine g_cs k miX7_within msX7_within (ctX7_within (kL K) E N   x2 0 10 o4 ho5) [] (ws' := [(a0, oB 7 [.ref a0_canal, .ref a0_history, .ref a0_imageCanal, .ref a0_imageHistory, .int va0_hasImage, .ref a0_tape, .ref a0_foreteller, .ref a0_search, .ref a0_sheets]), (a0_canal, oB 0 [.ref a0_canal_kind, .ref a0_canal_weight, .ref a0_canal_now, .int va0_canal_cells, .int va0_canal_people, .int va0_canal_sayings, .int va0_canal_frost]), (a0_canal_kind, aI E 6 va0_canal_kind), (a0_canal_weight, aI E 6 va0_canal_weight), (a0_canal_now, oB 3 [.ref a0_canal_now_ice, .ref a0_canal_now_juice, .ref a0_canal_now_fors, .int va0_canal_now_boat, .int va0_canal_now_minute, .int va0_canal_now_draw]), (a0_canal_now_ice, aI E 12 va0_canal_now_ice), (a0_canal_now_juice, aI E 5 va0_canal_now_juice), (a0_canal_now_fors, aI E 5 va0_canal_now_fors), (a0_foreteller, oB 1 [.ref a0_foreteller_then, .ref a0_foreteller_marks])]) dX7_sick_15 lkX7_61 rfl ⟨rfl, rfl⟩ ⟨by decide, by decide⟩ rfl rfl rfl (Nat.le_of_ble_eq_true rfl) rfl rfl rfl ?_
    refine g_st (st' := [.int o4]) rfl ?_
    refine g_if_eq k (tgt := 30) dX7_sick_18 (by decide) (fun c6 => ?_) (fun c6 => ?_)
    · replace hf := ite_t c6 hf
      refine g_iconst k dX7_sick_30 ic_m1 ?_
      obtain rfl := Option.some.inj hf
      exact g_iret k r dX7_sick_31 ⟨rfl, rfl⟩
    · replace hf := ite_f c6 hf
      refine g_iload_n k 3 dX7_sick_21 rfl rfl ?_
      refine g_iconst k dX7_sick_22 ic_0 ?_
      refine g_iconst k dX7_sick_23 ic_1 ?_
      obtain ⟨o7, ho8, hf⟩ := bnd_some hf
      refine g_cs k miX7_within msX7_within (ctX7_within (kL K) E N   x3 0 1 o7 ho8) [] (ws' := [(a0, oB 7 [.ref a0_canal, .ref a0_history, .ref a0_imageCanal, .ref a0_imageHistory, .int va0_hasImage, .ref a0_tape, .ref a0_foreteller, .ref a0_search, .ref a0_sheets]), (a0_canal, oB 0 [.ref a0_canal_kind, .ref a0_canal_weight, .ref a0_canal_now, .int va0_canal_cells, .int va0_canal_people, .int va0_canal_sayings, .int va0_canal_frost]), (a0_canal_kind, aI E 6 va0_canal_kind), (a0_canal_weight, aI E 6 va0_canal_weight), (a0_canal_now, oB 3 [.ref a0_canal_now_ice, .ref a0_canal_now_juice, .ref a0_canal_now_fors, .int va0_canal_now_boat, .int va0_canal_now_minute, .int va0_canal_now_draw]), (a0_canal_now_ice, aI E 12 va0_canal_now_ice), (a0_canal_now_juice, aI E 5 va0_canal_now_juice), (a0_canal_now_fors, aI E 5 va0_canal_now_fors), (a0_foreteller, oB 1 [.ref a0_foreteller_then, .ref a0_foreteller_marks])]) dX7_sick_24 lkX7_61 rfl ⟨rfl, rfl⟩ ⟨by decide, by decide⟩ rfl rfl rfl (Nat.le_of_ble_eq_true rfl) rfl rfl rfl ?_
      refine g_st (st' := [.int o7]) rfl ?_
      refine g_if_ne k (tgt := 32) dX7_sick_27 (by decide) (fun c9 => ?_) (fun c9 => ?_)
      · replace hf := ite_f c9 hf
        refine g_aload_n k 0 dX7_sick_32 rfl rfl ?_
        refine g_get k cfX7 6 0 dX7_sick_33 lkX7_43 (by decide) rfl rfl ?_
        refine g_aload_n k 0 dX7_sick_36 rfl rfl ?_
        refine g_get k cfX7 0 0 dX7_sick_37 lkX7_10 (by decide) rfl rfl ?_
        refine g_iload_n k 1 dX7_sick_40 rfl rfl ?_
        refine g_iload_n k 2 dX7_sick_41 rfl rfl ?_
        refine g_iload_n k 3 dX7_sick_42 rfl rfl ?_
        refine g_if_ne k (tgt := 50) dX7_sick_43 (by decide) (fun c10 => ?_) (fun c10 => ?_)
        · replace hf := ite_f c10 hf
          refine g_iconst k dX7_sick_50 ic_0 ?_
          obtain ⟨o11, ho12, hf⟩ := bnd_some hf
          refine g_cv k miX1_likelihood mvX1_likelihood (ctX1_likelihood (kL K) E N a0_foreteller a0_foreteller_then a0_foreteller_marks a0_canal a0_canal_kind a0_canal_weight a0_canal_now a0_canal_now_ice a0_canal_now_juice a0_canal_now_fors va0_canal_cells va0_canal_people va0_canal_sayings va0_canal_frost va0_canal_kind va0_canal_weight va0_canal_now_boat va0_canal_now_minute va0_canal_now_draw va0_canal_now_ice va0_canal_now_juice va0_canal_now_fors x1 x2 0 o11 ho12) [8, 1, 2, 3, 4, 5, 6, 7] 0 (ws' := [(a0, oB 7 [.ref a0_canal, .ref a0_history, .ref a0_imageCanal, .ref a0_imageHistory, .int va0_hasImage, .ref a0_tape, .ref a0_foreteller, .ref a0_search, .ref a0_sheets]), (a0_canal, oB 0 [.ref a0_canal_kind, .ref a0_canal_weight, .ref a0_canal_now, .int va0_canal_cells, .int va0_canal_people, .int va0_canal_sayings, .int va0_canal_frost]), (a0_canal_kind, aI E 6 va0_canal_kind), (a0_canal_weight, aI E 6 va0_canal_weight), (a0_canal_now, oB 3 [.ref a0_canal_now_ice, .ref a0_canal_now_juice, .ref a0_canal_now_fors, .int va0_canal_now_boat, .int va0_canal_now_minute, .int va0_canal_now_draw]), (a0_canal_now_ice, aI E 12 va0_canal_now_ice), (a0_canal_now_juice, aI E 5 va0_canal_now_juice), (a0_canal_now_fors, aI E 5 va0_canal_now_fors), (a0_foreteller, oB 1 [.ref a0_foreteller_then, .ref a0_foreteller_marks])]) dX7_sick_51 lkX7_255 rfl ⟨rfl, rfl⟩ ⟨by decide, by decide⟩ rfl rfl rfl rfl (Nat.le_of_ble_eq_true rfl) rfl rfl rfl ?_
          refine g_st (st' := [.int o11]) rfl ?_
          obtain rfl := Option.some.inj hf
          exact g_iret k r dX7_sick_54 ⟨rfl, rfl⟩
        · replace hf := ite_t c10 hf
          refine g_iconst k dX7_sick_46 ic_1 ?_
          refine g_goto k (tgt := 51) dX7_sick_47 (by decide) ?_
          obtain ⟨o13, ho14, hf⟩ := bnd_some hf
          refine g_cv k miX1_likelihood mvX1_likelihood (ctX1_likelihood (kL K) E N a0_foreteller a0_foreteller_then a0_foreteller_marks a0_canal a0_canal_kind a0_canal_weight a0_canal_now a0_canal_now_ice a0_canal_now_juice a0_canal_now_fors va0_canal_cells va0_canal_people va0_canal_sayings va0_canal_frost va0_canal_kind va0_canal_weight va0_canal_now_boat va0_canal_now_minute va0_canal_now_draw va0_canal_now_ice va0_canal_now_juice va0_canal_now_fors x1 x2 1 o13 ho14) [8, 1, 2, 3, 4, 5, 6, 7] 0 (ws' := [(a0, oB 7 [.ref a0_canal, .ref a0_history, .ref a0_imageCanal, .ref a0_imageHistory, .int va0_hasImage, .ref a0_tape, .ref a0_foreteller, .ref a0_search, .ref a0_sheets]), (a0_canal, oB 0 [.ref a0_canal_kind, .ref a0_canal_weight, .ref a0_canal_now, .int va0_canal_cells, .int va0_canal_people, .int va0_canal_sayings, .int va0_canal_frost]), (a0_canal_kind, aI E 6 va0_canal_kind), (a0_canal_weight, aI E 6 va0_canal_weight), (a0_canal_now, oB 3 [.ref a0_canal_now_ice, .ref a0_canal_now_juice, .ref a0_canal_now_fors, .int va0_canal_now_boat, .int va0_canal_now_minute, .int va0_canal_now_draw]), (a0_canal_now_ice, aI E 12 va0_canal_now_ice), (a0_canal_now_juice, aI E 5 va0_canal_now_juice), (a0_canal_now_fors, aI E 5 va0_canal_now_fors), (a0_foreteller, oB 1 [.ref a0_foreteller_then, .ref a0_foreteller_marks])]) dX7_sick_51 lkX7_255 rfl ⟨rfl, rfl⟩ ⟨by decide, by decide⟩ rfl rfl rfl rfl (Nat.le_of_ble_eq_true rfl) rfl rfl rfl ?_
          refine g_st (st' := [.int o13]) rfl ?_
          obtain rfl := Option.some.inj hf
          exact g_iret k r dX7_sick_54 ⟨rfl, rfl⟩
      · replace hf := ite_t c9 hf
        refine g_iconst k dX7_sick_30 ic_m1 ?_
        obtain rfl := Option.some.inj hf
        exact g_iret k r dX7_sick_31 ⟨rfl, rfl⟩
abbrev rmX7_isSheet : Room := { frames := 1, cells := 0, slots := 0, locals := 22 }
def fX7_isSheet (N : Nat)  (x0 : Int32) : Option (Int32) :=
  bnd (fX7_within N x0 0 3) fun o1 =>
  zb o1 (some (o1))
set_option maxHeartbeats 4000000 in
set_option maxRecDepth 100000 in
theorem ctX7_isSheet (l : Launch) (E : Ev) (N : Nat)   (x0 : Int32) (out : Int32) (hf : fX7_isSheet N  x0 = some out) : Ct l E yX7_isSheet cX7_isSheet 1 (some .boolean) rmX7_isSheet [.int x0] [] (Pe (some (.int out)) []) := by
  refine Ct.of rfl (Nat.le_of_ble_eq_true rfl) (fun K hL k r hin => ?_)
  subst hL
  unfold fX7_isSheet at hf
  show G E K 1 0 0 [(0, .int x0)] [] [] 0
  refine g_iload_n k 0 dX7_isSheet_0 rfl rfl ?_
  refine g_iconst k dX7_isSheet_1 ic_0 ?_
  refine g_iconst k dX7_isSheet_2 ic_3 ?_
  obtain ⟨o1, ho2, hf⟩ := bnd_some hf
  refine g_cs k miX7_within msX7_within (ctX7_within (kL K) E N   x0 0 3 o1 ho2) [] (ws' := []) dX7_isSheet_3 lkX7_61 rfl ⟨rfl, rfl⟩ ⟨by decide, by decide⟩ rfl rfl rfl (Nat.le_of_ble_eq_true rfl) rfl rfl rfl ?_
  refine g_st (st' := [.int o1]) rfl ?_
  obtain ⟨hz3, hf⟩ := zb_some hf
  obtain rfl := Option.some.inj hf
  exact g_zret k (zb_nar hz3) r dX7_isSheet_6 ⟨rfl, rfl⟩
abbrev rmX7_isLane : Room := { frames := 1, cells := 0, slots := 0, locals := 22 }
def fX7_isLane (N : Nat)  (x0 : Int32) : Option (Int32) :=
  bnd (fX7_within N x0 0 3) fun o1 =>
  zb o1 (some (o1))
set_option maxHeartbeats 4000000 in
set_option maxRecDepth 100000 in
theorem ctX7_isLane (l : Launch) (E : Ev) (N : Nat)   (x0 : Int32) (out : Int32) (hf : fX7_isLane N  x0 = some out) : Ct l E yX7_isLane cX7_isLane 1 (some .boolean) rmX7_isLane [.int x0] [] (Pe (some (.int out)) []) := by
  refine Ct.of rfl (Nat.le_of_ble_eq_true rfl) (fun K hL k r hin => ?_)
  subst hL
  unfold fX7_isLane at hf
  show G E K 1 0 0 [(0, .int x0)] [] [] 0
  refine g_iload_n k 0 dX7_isLane_0 rfl rfl ?_
  refine g_iconst k dX7_isLane_1 ic_0 ?_
  refine g_iconst k dX7_isLane_2 ic_3 ?_
  obtain ⟨o1, ho2, hf⟩ := bnd_some hf
  refine g_cs k miX7_within msX7_within (ctX7_within (kL K) E N   x0 0 3 o1 ho2) [] (ws' := []) dX7_isLane_3 lkX7_61 rfl ⟨rfl, rfl⟩ ⟨by decide, by decide⟩ rfl rfl rfl (Nat.le_of_ble_eq_true rfl) rfl rfl rfl ?_
  refine g_st (st' := [.int o1]) rfl ?_
  obtain ⟨hz3, hf⟩ := zb_some hf
  obtain rfl := Option.some.inj hf
  exact g_zret k (zb_nar hz3) r dX7_isLane_6 ⟨rfl, rfl⟩
abbrev rmX7_isSaying : Room := { frames := 0, cells := 0, slots := 0, locals := 0 }
def fX7_isSaying (N : Nat) (va0_canal_sayings : Int32) (x1 : Int64) : Option (Int32) :=
  if (lg_cmp x1 0) < 0 then
  some (0)
  else
  if 0 ≤ (lg_cmp x1 va0_canal_sayings.toInt64) then
  some (0)
  else
  some (1)
set_option maxHeartbeats 4000000 in
set_option maxRecDepth 100000 in
theorem ctX7_isSaying (l : Launch) (E : Ev) (N : Nat) (a0 : Nat) (a0_canal : Nat) (a0_history : Nat) (a0_imageCanal : Nat) (a0_imageHistory : Nat) (a0_tape : Nat) (a0_foreteller : Nat) (a0_search : Nat) (a0_sheets : Nat) (a0_canal_kind : Nat) (a0_canal_weight : Nat) (a0_canal_now : Nat) (va0_hasImage : Int32) (va0_canal_cells : Int32) (va0_canal_people : Int32) (va0_canal_sayings : Int32) (va0_canal_frost : Int32) (x1 : Int64) (out : Int32) (hf : fX7_isSaying N va0_canal_sayings x1 = some out) : Ct l E yX7_isSaying cX7_isSaying 3 (some .boolean) rmX7_isSaying [.ref a0, .long x1] [(a0, oB 7 [.ref a0_canal, .ref a0_history, .ref a0_imageCanal, .ref a0_imageHistory, .int va0_hasImage, .ref a0_tape, .ref a0_foreteller, .ref a0_search, .ref a0_sheets]), (a0_canal, oB 0 [.ref a0_canal_kind, .ref a0_canal_weight, .ref a0_canal_now, .int va0_canal_cells, .int va0_canal_people, .int va0_canal_sayings, .int va0_canal_frost])] (Pe (some (.int out)) [(a0, oB 7 [.ref a0_canal, .ref a0_history, .ref a0_imageCanal, .ref a0_imageHistory, .int va0_hasImage, .ref a0_tape, .ref a0_foreteller, .ref a0_search, .ref a0_sheets]), (a0_canal, oB 0 [.ref a0_canal_kind, .ref a0_canal_weight, .ref a0_canal_now, .int va0_canal_cells, .int va0_canal_people, .int va0_canal_sayings, .int va0_canal_frost])]) := by
  refine Ct.of rfl (Nat.le_of_ble_eq_true rfl) (fun K hL k r hin => ?_)
  subst hL
  unfold fX7_isSaying at hf
  show G E K 3 0 0 [(0, .ref a0), (1, .long x1)] [] [(a0, oB 7 [.ref a0_canal, .ref a0_history, .ref a0_imageCanal, .ref a0_imageHistory, .int va0_hasImage, .ref a0_tape, .ref a0_foreteller, .ref a0_search, .ref a0_sheets]), (a0_canal, oB 0 [.ref a0_canal_kind, .ref a0_canal_weight, .ref a0_canal_now, .int va0_canal_cells, .int va0_canal_people, .int va0_canal_sayings, .int va0_canal_frost])] 0
  refine g_lload_n k 1 dX7_isSaying_0 rfl rfl ?_
  refine g_lconst k dX7_isSaying_1 lc_0 ?_
  refine g_lcmp k dX7_isSaying_2 ?_
  refine g_if_lt k (tgt := 23) dX7_isSaying_3 (by decide) (fun c1 => ?_) (fun c1 => ?_)
  · replace hf := ite_t c1 hf
    refine g_iconst k dX7_isSaying_23 ic_0 ?_
    obtain rfl := Option.some.inj hf
    exact g_zret k (rfl) r dX7_isSaying_24 ⟨rfl, rfl⟩
  · replace hf := ite_f c1 hf
    refine g_lload_n k 1 dX7_isSaying_6 rfl rfl ?_
    refine g_aload_n k 0 dX7_isSaying_7 rfl rfl ?_
    refine g_get k cfX7 0 0 dX7_isSaying_8 lkX7_10 (by decide) rfl rfl ?_
    refine g_get k cfX0 5 1 dX7_isSaying_11 lkX7_87 (by decide) rfl rfl ?_
    refine g_i2l k dX7_isSaying_14 ?_
    refine g_lcmp k dX7_isSaying_15 ?_
    refine g_if_ge k (tgt := 23) dX7_isSaying_16 (by decide) (fun c2 => ?_) (fun c2 => ?_)
    · replace hf := ite_t c2 hf
      refine g_iconst k dX7_isSaying_23 ic_0 ?_
      obtain rfl := Option.some.inj hf
      exact g_zret k (rfl) r dX7_isSaying_24 ⟨rfl, rfl⟩
    · replace hf := ite_f c2 hf
      refine g_iconst k dX7_isSaying_19 ic_1 ?_
      refine g_goto k (tgt := 24) dX7_isSaying_20 (by decide) ?_
      obtain rfl := Option.some.inj hf
      exact g_zret k (rfl) r dX7_isSaying_24 ⟨rfl, rfl⟩
abbrev rmX7_isFeltBy : Room := { frames := 3, cells := 0, slots := 0, locals := 77 }
def fX7_isFeltBy_L3 (N : Nat) (x1 : Int32) (x3 : Int32) (x4 : Int32) (va0_canal_people : Int32) (va0_canal_kind : Nat → Int32) (va0_canal_weight : Nat → Int32) (va0_canal_now_minute : Int32) (va0_canal_now_juice : Nat → Int32) (va2_items : Nat → Int64) : Nat → Int32 → Option ((Int32) ⊕ (Int32))
  | 0, _ => none
  | n + 1, x5 =>
    if x4 ≤ x5 then
    some (.inr (x5))
    else
    ixb (x3 + (2 * x5)) 24 fun κ2 =>
    ixb ((va2_items κ2).toInt32) 5 fun κ3 =>
    bnd (fX0_everybody N va0_canal_people) fun o4 =>
    bnd (fX3_isEven N va0_canal_now_minute) fun o6 =>
    bnd (fX0_boatRocks N va0_canal_people va0_canal_kind va0_canal_weight (va0_canal_now_juice κ3) x1 o4 o6) fun o8 =>
    ixb ((x3 + (2 * x5)) + 1) 24 fun κ10 =>
    if (lg_cmp (va2_items κ10) o8.toInt64) = 0 then
    fX7_isFeltBy_L3 N x1 x3 x4 va0_canal_people va0_canal_kind va0_canal_weight va0_canal_now_minute va0_canal_now_juice va2_items n (x5 + 1)
    else
    some (.inl (0))
set_option maxHeartbeats 4000000 in
set_option maxRecDepth 100000 in
theorem wX7_isFeltBy_L3 {E : Ev} {K : KX} (k : OKX E K cX7_isFeltBy RX7 9 rmX7_isFeltBy) (N : Nat) (a0 : Nat) (a0_canal : Nat) (a0_history : Nat) (a0_imageCanal : Nat) (a0_imageHistory : Nat) (a0_tape : Nat) (a0_foreteller : Nat) (a0_search : Nat) (a0_sheets : Nat) (a0_canal_kind : Nat) (a0_canal_weight : Nat) (a0_canal_now : Nat) (a0_canal_now_ice : Nat) (a0_canal_now_juice : Nat) (a0_canal_now_fors : Nat) (a2 : Nat) (a2_items : Nat) (x1 : Int32) (x3 : Int32) (x4 : Int32) (va0_canal_people : Int32) (va0_canal_kind : Nat → Int32) (va0_canal_weight : Nat → Int32) (va0_canal_now_minute : Int32) (va0_canal_now_juice : Nat → Int32) (va2_items : Nat → Int64) (va0_hasImage : Int32) (va0_canal_cells : Int32) (va0_canal_sayings : Int32) (va0_canal_frost : Int32) (va0_canal_now_boat : Int32) (va0_canal_now_draw : Int32) (va2_lane : Int32) (va2_length : Int32) {out : Int32} (r : RTX E K 0 0 (some .boolean) (Pe (some (.int out)) [(a0, oB 7 [.ref a0_canal, .ref a0_history, .ref a0_imageCanal, .ref a0_imageHistory, .int va0_hasImage, .ref a0_tape, .ref a0_foreteller, .ref a0_search, .ref a0_sheets]), (a0_canal, oB 0 [.ref a0_canal_kind, .ref a0_canal_weight, .ref a0_canal_now, .int va0_canal_cells, .int va0_canal_people, .int va0_canal_sayings, .int va0_canal_frost]), (a0_canal_kind, aI E 6 va0_canal_kind), (a0_canal_weight, aI E 6 va0_canal_weight), (a0_canal_now, oB 3 [.ref a0_canal_now_ice, .ref a0_canal_now_juice, .ref a0_canal_now_fors, .int va0_canal_now_boat, .int va0_canal_now_minute, .int va0_canal_now_draw]), (a0_canal_now_juice, aI E 5 va0_canal_now_juice), (a2, oB 5 [.ref a2_items, .int va2_lane, .int va2_length]), (a2_items, aJ E 24 va2_items)])) : ∀ (n : Nat) (x5 : Int32) (o : (Int32) ⊕ (Int32)), fX7_isFeltBy_L3 N x1 x3 x4 va0_canal_people va0_canal_kind va0_canal_weight va0_canal_now_minute va0_canal_now_juice va2_items n x5 = some o → (∀ w, o = .inl w → w = out) → (∀ v, o = .inr v → G E K 9 0 0 [(0, .ref a0), (1, .int x1), (2, .ref a2), (3, .int x3), (4, .int x4), (5, .int v)] [] [(a0, oB 7 [.ref a0_canal, .ref a0_history, .ref a0_imageCanal, .ref a0_imageHistory, .int va0_hasImage, .ref a0_tape, .ref a0_foreteller, .ref a0_search, .ref a0_sheets]), (a0_canal, oB 0 [.ref a0_canal_kind, .ref a0_canal_weight, .ref a0_canal_now, .int va0_canal_cells, .int va0_canal_people, .int va0_canal_sayings, .int va0_canal_frost]), (a0_canal_kind, aI E 6 va0_canal_kind), (a0_canal_weight, aI E 6 va0_canal_weight), (a0_canal_now, oB 3 [.ref a0_canal_now_ice, .ref a0_canal_now_juice, .ref a0_canal_now_fors, .int va0_canal_now_boat, .int va0_canal_now_minute, .int va0_canal_now_draw]), (a0_canal_now_juice, aI E 5 va0_canal_now_juice), (a2, oB 5 [.ref a2_items, .int va2_lane, .int va2_length]), (a2_items, aJ E 24 va2_items)] 96) → G E K 9 0 0 [(0, .ref a0), (1, .int x1), (2, .ref a2), (3, .int x3), (4, .int x4), (5, .int x5)] [] [(a0, oB 7 [.ref a0_canal, .ref a0_history, .ref a0_imageCanal, .ref a0_imageHistory, .int va0_hasImage, .ref a0_tape, .ref a0_foreteller, .ref a0_search, .ref a0_sheets]), (a0_canal, oB 0 [.ref a0_canal_kind, .ref a0_canal_weight, .ref a0_canal_now, .int va0_canal_cells, .int va0_canal_people, .int va0_canal_sayings, .int va0_canal_frost]), (a0_canal_kind, aI E 6 va0_canal_kind), (a0_canal_weight, aI E 6 va0_canal_weight), (a0_canal_now, oB 3 [.ref a0_canal_now_ice, .ref a0_canal_now_juice, .ref a0_canal_now_fors, .int va0_canal_now_boat, .int va0_canal_now_minute, .int va0_canal_now_draw]), (a0_canal_now_juice, aI E 5 va0_canal_now_juice), (a2, oB 5 [.ref a2_items, .int va2_lane, .int va2_length]), (a2_items, aJ E 24 va2_items)] 3 := by
  intro n
  induction n with
  | zero => intro x5 o hf; cases hf
  | succ n ih =>
    intro x5 o hf hr hG
    rw [fX7_isFeltBy_L3] at hf
    refine g_iload k 5 dX7_isFeltBy_3 rfl ?_
    refine g_iload k 4 dX7_isFeltBy_5 rfl ?_
    refine g_icmp_ge k (tgt := 96) dX7_isFeltBy_7 (by decide) (fun c1 => ?_) (fun c1 => ?_)
    · replace hf := ite_t c1 hf
      refine g_lv [0, 1, 2, 3, 4, 5] rfl ?_
      obtain rfl := Option.some.inj hf
      exact hG _ rfl
    · replace hf := ite_f c1 hf
      refine g_aload_n k 2 dX7_isFeltBy_10 rfl rfl ?_
      refine g_get k cfX5 0 6 dX7_isFeltBy_11 lkX7_276 (by decide) rfl rfl ?_
      refine g_iload_n k 3 dX7_isFeltBy_14 rfl rfl ?_
      refine g_iconst k dX7_isFeltBy_15 ic_2 ?_
      refine g_iload k 5 dX7_isFeltBy_16 rfl ?_
      refine g_imul k dX7_isFeltBy_18 ?_
      refine g_iadd k dX7_isFeltBy_19 ?_
      obtain ⟨κ2, hκ2, hiκ2, heκ2, hf⟩ := ixb_some hf
      refine g_laload k 7 dX7_isFeltBy_20 rfl hiκ2 heκ2 ?_
      refine g_l2i k dX7_isFeltBy_21 ?_
      refine g_istore k (lv' := [(6, .int ((va2_items κ2).toInt32)), (0, .ref a0), (1, .int x1), (2, .ref a2), (3, .int x3), (4, .int x4), (5, .int x5)]) dX7_isFeltBy_22 (by decide) rfl ?_
      refine g_aload_n k 1 dX7_isFeltBy_24 rfl rfl ?_
      refine g_get k cfX7 0 0 dX7_isFeltBy_25 lkX7_10 (by decide) rfl rfl ?_
      refine g_get k cfX0 2 1 dX7_isFeltBy_28 lkX7_97 (by decide) rfl rfl ?_
      refine g_get k cfX3 1 4 dX7_isFeltBy_31 lkX7_122 (by decide) rfl rfl ?_
      refine g_iload k 0 dX7_isFeltBy_34 rfl ?_
      obtain ⟨κ3, hκ3, hiκ3, heκ3, hf⟩ := ixb_some hf
      refine g_iaload k 5 dX7_isFeltBy_36 rfl hiκ3 heκ3 ?_
      refine g_istore k (lv' := [(7, .int (va0_canal_now_juice κ3)), (6, .int ((va2_items κ2).toInt32)), (0, .ref a0), (1, .int x1), (2, .ref a2), (3, .int x3), (4, .int x4), (5, .int x5)]) dX7_isFeltBy_37 (by decide) rfl ?_
      refine g_aload_n k 2 dX7_isFeltBy_39 rfl rfl ?_
      refine g_get k cfX7 0 0 dX7_isFeltBy_40 lkX7_10 (by decide) rfl rfl ?_
      refine g_iload k 0 dX7_isFeltBy_43 rfl ?_
      refine g_iload_n k 3 dX7_isFeltBy_45 rfl rfl ?_
      refine g_aload_n k 2 dX7_isFeltBy_46 rfl rfl ?_
      refine g_get k cfX7 0 0 dX7_isFeltBy_47 lkX7_10 (by decide) rfl rfl ?_
      obtain ⟨o4, ho5, hf⟩ := bnd_some hf
      refine g_cv k miX0_everybody mvX0_everybody (ctX0_everybody (kL K) E N a0_canal a0_canal_kind a0_canal_weight a0_canal_now va0_canal_cells va0_canal_people va0_canal_sayings va0_canal_frost  o4 ho5) [1] 0 (ws' := [(a0, oB 7 [.ref a0_canal, .ref a0_history, .ref a0_imageCanal, .ref a0_imageHistory, .int va0_hasImage, .ref a0_tape, .ref a0_foreteller, .ref a0_search, .ref a0_sheets]), (a0_canal, oB 0 [.ref a0_canal_kind, .ref a0_canal_weight, .ref a0_canal_now, .int va0_canal_cells, .int va0_canal_people, .int va0_canal_sayings, .int va0_canal_frost]), (a0_canal_kind, aI E 6 va0_canal_kind), (a0_canal_weight, aI E 6 va0_canal_weight), (a0_canal_now, oB 3 [.ref a0_canal_now_ice, .ref a0_canal_now_juice, .ref a0_canal_now_fors, .int va0_canal_now_boat, .int va0_canal_now_minute, .int va0_canal_now_draw]), (a0_canal_now_juice, aI E 5 va0_canal_now_juice), (a2, oB 5 [.ref a2_items, .int va2_lane, .int va2_length]), (a2_items, aJ E 24 va2_items)]) dX7_isFeltBy_50 lkX7_83 rfl ⟨rfl, rfl⟩ ⟨by decide, by decide⟩ rfl rfl rfl rfl (Nat.le_of_ble_eq_true rfl) rfl rfl rfl ?_
      refine g_st (st' := [.int o4, .int x1, .int (va0_canal_now_juice κ3), .ref a0_canal]) rfl ?_
      refine g_aload_n k 2 dX7_isFeltBy_53 rfl rfl ?_
      refine g_get k cfX7 0 0 dX7_isFeltBy_54 lkX7_10 (by decide) rfl rfl ?_
      refine g_get k cfX0 2 1 dX7_isFeltBy_57 lkX7_97 (by decide) rfl rfl ?_
      obtain ⟨o6, ho7, hf⟩ := bnd_some hf
      refine g_cv k miX3_isEven mvX3_isEven (ctX3_isEven (kL K) E N a0_canal_now a0_canal_now_ice a0_canal_now_juice a0_canal_now_fors va0_canal_now_boat va0_canal_now_minute va0_canal_now_draw  o6 ho7) [4] 0 (ws' := [(a0, oB 7 [.ref a0_canal, .ref a0_history, .ref a0_imageCanal, .ref a0_imageHistory, .int va0_hasImage, .ref a0_tape, .ref a0_foreteller, .ref a0_search, .ref a0_sheets]), (a0_canal, oB 0 [.ref a0_canal_kind, .ref a0_canal_weight, .ref a0_canal_now, .int va0_canal_cells, .int va0_canal_people, .int va0_canal_sayings, .int va0_canal_frost]), (a0_canal_kind, aI E 6 va0_canal_kind), (a0_canal_weight, aI E 6 va0_canal_weight), (a0_canal_now, oB 3 [.ref a0_canal_now_ice, .ref a0_canal_now_juice, .ref a0_canal_now_fors, .int va0_canal_now_boat, .int va0_canal_now_minute, .int va0_canal_now_draw]), (a0_canal_now_juice, aI E 5 va0_canal_now_juice), (a2, oB 5 [.ref a2_items, .int va2_lane, .int va2_length]), (a2_items, aJ E 24 va2_items)]) dX7_isFeltBy_60 lkX7_128 rfl ⟨rfl, rfl⟩ ⟨by decide, by decide⟩ rfl rfl rfl rfl (Nat.le_of_ble_eq_true rfl) rfl rfl rfl ?_
      refine g_st (st' := [.int o6, .int o4, .int x1, .int (va0_canal_now_juice κ3), .ref a0_canal]) rfl ?_
      obtain ⟨o8, ho9, hf⟩ := bnd_some hf
      refine g_cv k miX0_boatRocks mvX0_boatRocks (ctX0_boatRocks (kL K) E N a0_canal a0_canal_kind a0_canal_weight a0_canal_now va0_canal_cells va0_canal_people va0_canal_sayings va0_canal_frost va0_canal_kind va0_canal_weight (va0_canal_now_juice κ3) x1 o4 o6 o8 ho9) [1, 2, 3] 0 (ws' := [(a0, oB 7 [.ref a0_canal, .ref a0_history, .ref a0_imageCanal, .ref a0_imageHistory, .int va0_hasImage, .ref a0_tape, .ref a0_foreteller, .ref a0_search, .ref a0_sheets]), (a0_canal, oB 0 [.ref a0_canal_kind, .ref a0_canal_weight, .ref a0_canal_now, .int va0_canal_cells, .int va0_canal_people, .int va0_canal_sayings, .int va0_canal_frost]), (a0_canal_kind, aI E 6 va0_canal_kind), (a0_canal_weight, aI E 6 va0_canal_weight), (a0_canal_now, oB 3 [.ref a0_canal_now_ice, .ref a0_canal_now_juice, .ref a0_canal_now_fors, .int va0_canal_now_boat, .int va0_canal_now_minute, .int va0_canal_now_draw]), (a0_canal_now_juice, aI E 5 va0_canal_now_juice), (a2, oB 5 [.ref a2_items, .int va2_lane, .int va2_length]), (a2_items, aJ E 24 va2_items)]) dX7_isFeltBy_63 lkX7_323 rfl ⟨rfl, rfl⟩ ⟨by decide, by decide⟩ rfl rfl rfl rfl (Nat.le_of_ble_eq_true rfl) rfl rfl rfl ?_
      refine g_st (st' := [.int o8]) rfl ?_
      refine g_istore k (lv' := [(8, .int o8), (7, .int (va0_canal_now_juice κ3)), (6, .int ((va2_items κ2).toInt32)), (0, .ref a0), (1, .int x1), (2, .ref a2), (3, .int x3), (4, .int x4), (5, .int x5)]) dX7_isFeltBy_66 (by decide) rfl ?_
      refine g_aload_n k 5 dX7_isFeltBy_68 rfl rfl ?_
      refine g_get k cfX5 0 6 dX7_isFeltBy_69 lkX7_276 (by decide) rfl rfl ?_
      refine g_iload_n k 6 dX7_isFeltBy_72 rfl rfl ?_
      refine g_iconst k dX7_isFeltBy_73 ic_2 ?_
      refine g_iload k 8 dX7_isFeltBy_74 rfl ?_
      refine g_imul k dX7_isFeltBy_76 ?_
      refine g_iadd k dX7_isFeltBy_77 ?_
      refine g_iconst k dX7_isFeltBy_78 ic_1 ?_
      refine g_iadd k dX7_isFeltBy_79 ?_
      obtain ⟨κ10, hκ10, hiκ10, heκ10, hf⟩ := ixb_some hf
      refine g_laload k 7 dX7_isFeltBy_80 rfl hiκ10 heκ10 ?_
      refine g_iload k 0 dX7_isFeltBy_81 rfl ?_
      refine g_i2l k dX7_isFeltBy_83 ?_
      refine g_lcmp k dX7_isFeltBy_84 ?_
      refine g_if_eq k (tgt := 90) dX7_isFeltBy_85 (by decide) (fun c11 => ?_) (fun c11 => ?_)
      · replace hf := ite_t c11 hf
        refine g_iinc k (lv' := [(5, .int (x5 + 1)), (8, .int o8), (7, .int (va0_canal_now_juice κ3)), (6, .int ((va2_items κ2).toInt32)), (0, .ref a0), (1, .int x1), (2, .ref a2), (3, .int x3), (4, .int x4)]) 8 dX7_isFeltBy_90 rfl (ii_1 _) (by decide) rfl ?_
        refine g_goto k (tgt := 3) dX7_isFeltBy_93 (by decide) ?_
        refine g_lv [4, 5, 6, 7, 8, 0] rfl ?_
        exact ih (x5 + 1) o hf hr hG
      · replace hf := ite_f c11 hf
        refine g_iconst k dX7_isFeltBy_88 ic_0 ?_
        obtain rfl := Option.some.inj hf
        obtain rfl := hr _ rfl
        exact g_zret k (rfl) r dX7_isFeltBy_89 ⟨rfl, rfl⟩
def fX7_isFeltBy (N : Nat) (va0_canal_people : Int32) (va0_canal_kind : Nat → Int32) (va0_canal_weight : Nat → Int32) (va0_canal_now_minute : Int32) (va0_canal_now_juice : Nat → Int32) (va2_items : Nat → Int64) (x1 : Int32) (x3 : Int32) (x4 : Int32) : Option (Int32) :=
  bnd (fX7_isFeltBy_L3 N x1 x3 x4 va0_canal_people va0_canal_kind va0_canal_weight va0_canal_now_minute va0_canal_now_juice va2_items N 0) fun o12 => lret o12 fun v14 =>
  some (1)
set_option maxHeartbeats 4000000 in
set_option maxRecDepth 100000 in
theorem ctX7_isFeltBy (l : Launch) (E : Ev) (N : Nat) (a0 : Nat) (a0_canal : Nat) (a0_history : Nat) (a0_imageCanal : Nat) (a0_imageHistory : Nat) (a0_tape : Nat) (a0_foreteller : Nat) (a0_search : Nat) (a0_sheets : Nat) (a0_canal_kind : Nat) (a0_canal_weight : Nat) (a0_canal_now : Nat) (a0_canal_now_ice : Nat) (a0_canal_now_juice : Nat) (a0_canal_now_fors : Nat) (a2 : Nat) (a2_items : Nat) (va0_hasImage : Int32) (va0_canal_cells : Int32) (va0_canal_people : Int32) (va0_canal_sayings : Int32) (va0_canal_frost : Int32) (va0_canal_kind : Nat → Int32) (va0_canal_weight : Nat → Int32) (va0_canal_now_boat : Int32) (va0_canal_now_minute : Int32) (va0_canal_now_draw : Int32) (va0_canal_now_juice : Nat → Int32) (va2_lane : Int32) (va2_length : Int32) (va2_items : Nat → Int64) (x1 : Int32) (x3 : Int32) (x4 : Int32) (out : Int32) (hf : fX7_isFeltBy N va0_canal_people va0_canal_kind va0_canal_weight va0_canal_now_minute va0_canal_now_juice va2_items x1 x3 x4 = some out) : Ct l E yX7_isFeltBy cX7_isFeltBy 9 (some .boolean) rmX7_isFeltBy [.ref a0, .int x1, .ref a2, .int x3, .int x4] [(a0, oB 7 [.ref a0_canal, .ref a0_history, .ref a0_imageCanal, .ref a0_imageHistory, .int va0_hasImage, .ref a0_tape, .ref a0_foreteller, .ref a0_search, .ref a0_sheets]), (a0_canal, oB 0 [.ref a0_canal_kind, .ref a0_canal_weight, .ref a0_canal_now, .int va0_canal_cells, .int va0_canal_people, .int va0_canal_sayings, .int va0_canal_frost]), (a0_canal_kind, aI E 6 va0_canal_kind), (a0_canal_weight, aI E 6 va0_canal_weight), (a0_canal_now, oB 3 [.ref a0_canal_now_ice, .ref a0_canal_now_juice, .ref a0_canal_now_fors, .int va0_canal_now_boat, .int va0_canal_now_minute, .int va0_canal_now_draw]), (a0_canal_now_juice, aI E 5 va0_canal_now_juice), (a2, oB 5 [.ref a2_items, .int va2_lane, .int va2_length]), (a2_items, aJ E 24 va2_items)] (Pe (some (.int out)) [(a0, oB 7 [.ref a0_canal, .ref a0_history, .ref a0_imageCanal, .ref a0_imageHistory, .int va0_hasImage, .ref a0_tape, .ref a0_foreteller, .ref a0_search, .ref a0_sheets]), (a0_canal, oB 0 [.ref a0_canal_kind, .ref a0_canal_weight, .ref a0_canal_now, .int va0_canal_cells, .int va0_canal_people, .int va0_canal_sayings, .int va0_canal_frost]), (a0_canal_kind, aI E 6 va0_canal_kind), (a0_canal_weight, aI E 6 va0_canal_weight), (a0_canal_now, oB 3 [.ref a0_canal_now_ice, .ref a0_canal_now_juice, .ref a0_canal_now_fors, .int va0_canal_now_boat, .int va0_canal_now_minute, .int va0_canal_now_draw]), (a0_canal_now_juice, aI E 5 va0_canal_now_juice), (a2, oB 5 [.ref a2_items, .int va2_lane, .int va2_length]), (a2_items, aJ E 24 va2_items)]) := by
  refine Ct.of rfl (Nat.le_of_ble_eq_true rfl) (fun K hL k r hin => ?_)
  subst hL
  unfold fX7_isFeltBy at hf
  show G E K 9 0 0 [(0, .ref a0), (1, .int x1), (2, .ref a2), (3, .int x3), (4, .int x4)] [] [(a0, oB 7 [.ref a0_canal, .ref a0_history, .ref a0_imageCanal, .ref a0_imageHistory, .int va0_hasImage, .ref a0_tape, .ref a0_foreteller, .ref a0_search, .ref a0_sheets]), (a0_canal, oB 0 [.ref a0_canal_kind, .ref a0_canal_weight, .ref a0_canal_now, .int va0_canal_cells, .int va0_canal_people, .int va0_canal_sayings, .int va0_canal_frost]), (a0_canal_kind, aI E 6 va0_canal_kind), (a0_canal_weight, aI E 6 va0_canal_weight), (a0_canal_now, oB 3 [.ref a0_canal_now_ice, .ref a0_canal_now_juice, .ref a0_canal_now_fors, .int va0_canal_now_boat, .int va0_canal_now_minute, .int va0_canal_now_draw]), (a0_canal_now_juice, aI E 5 va0_canal_now_juice), (a2, oB 5 [.ref a2_items, .int va2_lane, .int va2_length]), (a2_items, aJ E 24 va2_items)] 0
  refine g_iconst k dX7_isFeltBy_0 ic_0 ?_
  refine g_istore k (lv' := [(5, .int 0), (0, .ref a0), (1, .int x1), (2, .ref a2), (3, .int x3), (4, .int x4)]) dX7_isFeltBy_1 (by decide) rfl ?_
  obtain ⟨o12, ho13, hf⟩ := bnd_some hf
  refine g_lv [1, 2, 3, 4, 5, 0] (lv' := [(0, .ref a0), (1, .int x1), (2, .ref a2), (3, .int x3), (4, .int x4), (5, .int 0)]) rfl ?_
  refine wX7_isFeltBy_L3 k N a0 a0_canal a0_history a0_imageCanal a0_imageHistory a0_tape a0_foreteller a0_search a0_sheets a0_canal_kind a0_canal_weight a0_canal_now a0_canal_now_ice a0_canal_now_juice a0_canal_now_fors a2 a2_items  x1 x3 x4 va0_canal_people va0_canal_kind va0_canal_weight va0_canal_now_minute va0_canal_now_juice va2_items va0_hasImage va0_canal_cells va0_canal_sayings va0_canal_frost va0_canal_now_boat va0_canal_now_draw va2_lane va2_length r N 0 o12 ho13 (fun w e => by subst e; exact Option.some.inj hf) (fun v14 e => ?_)
  subst e
  replace hf := lret_r hf
  refine g_iconst k dX7_isFeltBy_96 ic_1 ?_
  obtain rfl := Option.some.inj hf
  exact g_zret k (rfl) r dX7_isFeltBy_97 ⟨rfl, rfl⟩
abbrev rmX7_countFelt : Room := { frames := 4, cells := 0, slots := 0, locals := 105 }
def fX7_countFelt_L6 (N : Nat) (x2 : Int32) (x3 : Int32) (va0_canal_people : Int32) (va0_canal_kind : Nat → Int32) (va0_canal_weight : Nat → Int32) (va0_canal_now_minute : Int32) (va0_canal_now_juice : Nat → Int32) (va1_items : Nat → Int64) : Nat → Int32 → Int32 → Option (Int32 × Int32)
  | 0, _, _ => none
  | n + 1, x4, x5 =>
    bnd (fX0_everybody N va0_canal_people) fun o1 =>
    if o1 < x5 then
    some (x4, x5)
    else
    bnd (fX7_isFeltBy N va0_canal_people va0_canal_kind va0_canal_weight va0_canal_now_minute va0_canal_now_juice va1_items x5 x2 x3) fun o4 =>
    if o4 = 0 then
    fX7_countFelt_L6 N x2 x3 va0_canal_people va0_canal_kind va0_canal_weight va0_canal_now_minute va0_canal_now_juice va1_items n x4 (x5 + 1)
    else
    fX7_countFelt_L6 N x2 x3 va0_canal_people va0_canal_kind va0_canal_weight va0_canal_now_minute va0_canal_now_juice va1_items n (x4 + 1) (x5 + 1)
set_option maxHeartbeats 4000000 in
set_option maxRecDepth 100000 in
theorem wX7_countFelt_L6 {E : Ev} {K : KX} (k : OKX E K cX7_countFelt RX7 6 rmX7_countFelt) (N : Nat) (a0 : Nat) (a0_canal : Nat) (a0_history : Nat) (a0_imageCanal : Nat) (a0_imageHistory : Nat) (a0_tape : Nat) (a0_foreteller : Nat) (a0_search : Nat) (a0_sheets : Nat) (a0_canal_kind : Nat) (a0_canal_weight : Nat) (a0_canal_now : Nat) (a0_canal_now_ice : Nat) (a0_canal_now_juice : Nat) (a0_canal_now_fors : Nat) (a1 : Nat) (a1_items : Nat) (x2 : Int32) (x3 : Int32) (va0_canal_people : Int32) (va0_canal_kind : Nat → Int32) (va0_canal_weight : Nat → Int32) (va0_canal_now_minute : Int32) (va0_canal_now_juice : Nat → Int32) (va1_items : Nat → Int64) (va0_hasImage : Int32) (va0_canal_cells : Int32) (va0_canal_sayings : Int32) (va0_canal_frost : Int32) (va0_canal_now_boat : Int32) (va0_canal_now_draw : Int32) (va1_lane : Int32) (va1_length : Int32) : ∀ (n : Nat) (x4 : Int32) (x5 : Int32) (o : Int32 × Int32), fX7_countFelt_L6 N x2 x3 va0_canal_people va0_canal_kind va0_canal_weight va0_canal_now_minute va0_canal_now_juice va1_items n x4 x5 = some o → G E K 6 0 0 [(0, .ref a0), (1, .ref a1), (2, .int x2), (3, .int x3), (4, .int o.1), (5, .int o.2)] [] [(a0, oB 7 [.ref a0_canal, .ref a0_history, .ref a0_imageCanal, .ref a0_imageHistory, .int va0_hasImage, .ref a0_tape, .ref a0_foreteller, .ref a0_search, .ref a0_sheets]), (a0_canal, oB 0 [.ref a0_canal_kind, .ref a0_canal_weight, .ref a0_canal_now, .int va0_canal_cells, .int va0_canal_people, .int va0_canal_sayings, .int va0_canal_frost]), (a0_canal_kind, aI E 6 va0_canal_kind), (a0_canal_weight, aI E 6 va0_canal_weight), (a0_canal_now, oB 3 [.ref a0_canal_now_ice, .ref a0_canal_now_juice, .ref a0_canal_now_fors, .int va0_canal_now_boat, .int va0_canal_now_minute, .int va0_canal_now_draw]), (a0_canal_now_juice, aI E 5 va0_canal_now_juice), (a1, oB 5 [.ref a1_items, .int va1_lane, .int va1_length]), (a1_items, aJ E 24 va1_items)] 39 → G E K 6 0 0 [(0, .ref a0), (1, .ref a1), (2, .int x2), (3, .int x3), (4, .int x4), (5, .int x5)] [] [(a0, oB 7 [.ref a0_canal, .ref a0_history, .ref a0_imageCanal, .ref a0_imageHistory, .int va0_hasImage, .ref a0_tape, .ref a0_foreteller, .ref a0_search, .ref a0_sheets]), (a0_canal, oB 0 [.ref a0_canal_kind, .ref a0_canal_weight, .ref a0_canal_now, .int va0_canal_cells, .int va0_canal_people, .int va0_canal_sayings, .int va0_canal_frost]), (a0_canal_kind, aI E 6 va0_canal_kind), (a0_canal_weight, aI E 6 va0_canal_weight), (a0_canal_now, oB 3 [.ref a0_canal_now_ice, .ref a0_canal_now_juice, .ref a0_canal_now_fors, .int va0_canal_now_boat, .int va0_canal_now_minute, .int va0_canal_now_draw]), (a0_canal_now_juice, aI E 5 va0_canal_now_juice), (a1, oB 5 [.ref a1_items, .int va1_lane, .int va1_length]), (a1_items, aJ E 24 va1_items)] 6 := by
  intro n
  induction n with
  | zero => intro x4 x5 o hf; cases hf
  | succ n ih =>
    intro x4 x5 o hf hG
    rw [fX7_countFelt_L6] at hf
    refine g_iload k 5 dX7_countFelt_6 rfl ?_
    refine g_aload_n k 0 dX7_countFelt_8 rfl rfl ?_
    refine g_get k cfX7 0 0 dX7_countFelt_9 lkX7_10 (by decide) rfl rfl ?_
    obtain ⟨o1, ho2, hf⟩ := bnd_some hf
    refine g_cv k miX0_everybody mvX0_everybody (ctX0_everybody (kL K) E N a0_canal a0_canal_kind a0_canal_weight a0_canal_now va0_canal_cells va0_canal_people va0_canal_sayings va0_canal_frost  o1 ho2) [1] 0 (ws' := [(a0, oB 7 [.ref a0_canal, .ref a0_history, .ref a0_imageCanal, .ref a0_imageHistory, .int va0_hasImage, .ref a0_tape, .ref a0_foreteller, .ref a0_search, .ref a0_sheets]), (a0_canal, oB 0 [.ref a0_canal_kind, .ref a0_canal_weight, .ref a0_canal_now, .int va0_canal_cells, .int va0_canal_people, .int va0_canal_sayings, .int va0_canal_frost]), (a0_canal_kind, aI E 6 va0_canal_kind), (a0_canal_weight, aI E 6 va0_canal_weight), (a0_canal_now, oB 3 [.ref a0_canal_now_ice, .ref a0_canal_now_juice, .ref a0_canal_now_fors, .int va0_canal_now_boat, .int va0_canal_now_minute, .int va0_canal_now_draw]), (a0_canal_now_juice, aI E 5 va0_canal_now_juice), (a1, oB 5 [.ref a1_items, .int va1_lane, .int va1_length]), (a1_items, aJ E 24 va1_items)]) dX7_countFelt_12 lkX7_83 rfl ⟨rfl, rfl⟩ ⟨by decide, by decide⟩ rfl rfl rfl rfl (Nat.le_of_ble_eq_true rfl) rfl rfl rfl ?_
    refine g_st (st' := [.int o1, .int x5]) rfl ?_
    refine g_icmp_gt k (tgt := 39) dX7_countFelt_15 (by decide) (fun c3 => ?_) (fun c3 => ?_)
    · replace hf := ite_t c3 hf
      refine g_lv [0, 1, 2, 3, 4, 5] rfl ?_
      obtain rfl := Option.some.inj hf
      exact hG
    · replace hf := ite_f c3 hf
      refine g_aload_n k 0 dX7_countFelt_18 rfl rfl ?_
      refine g_iload k 5 dX7_countFelt_19 rfl ?_
      refine g_aload_n k 1 dX7_countFelt_21 rfl rfl ?_
      refine g_iload_n k 2 dX7_countFelt_22 rfl rfl ?_
      refine g_iload_n k 3 dX7_countFelt_23 rfl rfl ?_
      obtain ⟨o4, ho5, hf⟩ := bnd_some hf
      refine g_cv k miX7_isFeltBy mvX7_isFeltBy (ctX7_isFeltBy (kL K) E N a0 a0_canal a0_history a0_imageCanal a0_imageHistory a0_tape a0_foreteller a0_search a0_sheets a0_canal_kind a0_canal_weight a0_canal_now a0_canal_now_ice a0_canal_now_juice a0_canal_now_fors a1 a1_items va0_hasImage va0_canal_cells va0_canal_people va0_canal_sayings va0_canal_frost va0_canal_kind va0_canal_weight va0_canal_now_boat va0_canal_now_minute va0_canal_now_draw va0_canal_now_juice va1_lane va1_length va1_items x5 x2 x3 o4 ho5) [0, 1, 2, 3, 4, 5, 6, 7] 0 (ws' := [(a0, oB 7 [.ref a0_canal, .ref a0_history, .ref a0_imageCanal, .ref a0_imageHistory, .int va0_hasImage, .ref a0_tape, .ref a0_foreteller, .ref a0_search, .ref a0_sheets]), (a0_canal, oB 0 [.ref a0_canal_kind, .ref a0_canal_weight, .ref a0_canal_now, .int va0_canal_cells, .int va0_canal_people, .int va0_canal_sayings, .int va0_canal_frost]), (a0_canal_kind, aI E 6 va0_canal_kind), (a0_canal_weight, aI E 6 va0_canal_weight), (a0_canal_now, oB 3 [.ref a0_canal_now_ice, .ref a0_canal_now_juice, .ref a0_canal_now_fors, .int va0_canal_now_boat, .int va0_canal_now_minute, .int va0_canal_now_draw]), (a0_canal_now_juice, aI E 5 va0_canal_now_juice), (a1, oB 5 [.ref a1_items, .int va1_lane, .int va1_length]), (a1_items, aJ E 24 va1_items)]) dX7_countFelt_24 lkX7_319 rfl ⟨rfl, rfl⟩ ⟨by decide, by decide⟩ rfl rfl rfl rfl (Nat.le_of_ble_eq_true rfl) rfl rfl rfl ?_
      refine g_st (st' := [.int o4]) rfl ?_
      refine g_if_eq k (tgt := 33) dX7_countFelt_27 (by decide) (fun c6 => ?_) (fun c6 => ?_)
      · replace hf := ite_t c6 hf
        refine g_iinc k (lv' := [(5, .int (x5 + 1)), (0, .ref a0), (1, .ref a1), (2, .int x2), (3, .int x3), (4, .int x4)]) 5 dX7_countFelt_33 rfl (ii_1 _) (by decide) rfl ?_
        refine g_goto k (tgt := 6) dX7_countFelt_36 (by decide) ?_
        refine g_lv [1, 2, 3, 4, 5, 0] rfl ?_
        exact ih x4 (x5 + 1) o hf hG
      · replace hf := ite_f c6 hf
        refine g_iinc k (lv' := [(4, .int (x4 + 1)), (0, .ref a0), (1, .ref a1), (2, .int x2), (3, .int x3), (5, .int x5)]) 4 dX7_countFelt_30 rfl (ii_1 _) (by decide) rfl ?_
        refine g_iinc k (lv' := [(5, .int (x5 + 1)), (4, .int (x4 + 1)), (0, .ref a0), (1, .ref a1), (2, .int x2), (3, .int x3)]) 5 dX7_countFelt_33 rfl (ii_1 _) (by decide) rfl ?_
        refine g_goto k (tgt := 6) dX7_countFelt_36 (by decide) ?_
        refine g_lv [2, 3, 4, 5, 1, 0] rfl ?_
        exact ih (x4 + 1) (x5 + 1) o hf hG
def fX7_countFelt (N : Nat) (va0_canal_people : Int32) (va0_canal_kind : Nat → Int32) (va0_canal_weight : Nat → Int32) (va0_canal_now_minute : Int32) (va0_canal_now_juice : Nat → Int32) (va1_items : Nat → Int64) (x2 : Int32) (x3 : Int32) : Option (Int32) :=
  bnd (fX7_countFelt_L6 N x2 x3 va0_canal_people va0_canal_kind va0_canal_weight va0_canal_now_minute va0_canal_now_juice va1_items N 0 0) fun o7 =>
  some (o7.1)
set_option maxHeartbeats 4000000 in
set_option maxRecDepth 100000 in
theorem ctX7_countFelt (l : Launch) (E : Ev) (N : Nat) (a0 : Nat) (a0_canal : Nat) (a0_history : Nat) (a0_imageCanal : Nat) (a0_imageHistory : Nat) (a0_tape : Nat) (a0_foreteller : Nat) (a0_search : Nat) (a0_sheets : Nat) (a0_canal_kind : Nat) (a0_canal_weight : Nat) (a0_canal_now : Nat) (a0_canal_now_ice : Nat) (a0_canal_now_juice : Nat) (a0_canal_now_fors : Nat) (a1 : Nat) (a1_items : Nat) (va0_hasImage : Int32) (va0_canal_cells : Int32) (va0_canal_people : Int32) (va0_canal_sayings : Int32) (va0_canal_frost : Int32) (va0_canal_kind : Nat → Int32) (va0_canal_weight : Nat → Int32) (va0_canal_now_boat : Int32) (va0_canal_now_minute : Int32) (va0_canal_now_draw : Int32) (va0_canal_now_juice : Nat → Int32) (va1_lane : Int32) (va1_length : Int32) (va1_items : Nat → Int64) (x2 : Int32) (x3 : Int32) (out : Int32) (hf : fX7_countFelt N va0_canal_people va0_canal_kind va0_canal_weight va0_canal_now_minute va0_canal_now_juice va1_items x2 x3 = some out) : Ct l E yX7_countFelt cX7_countFelt 6 (some .int) rmX7_countFelt [.ref a0, .ref a1, .int x2, .int x3] [(a0, oB 7 [.ref a0_canal, .ref a0_history, .ref a0_imageCanal, .ref a0_imageHistory, .int va0_hasImage, .ref a0_tape, .ref a0_foreteller, .ref a0_search, .ref a0_sheets]), (a0_canal, oB 0 [.ref a0_canal_kind, .ref a0_canal_weight, .ref a0_canal_now, .int va0_canal_cells, .int va0_canal_people, .int va0_canal_sayings, .int va0_canal_frost]), (a0_canal_kind, aI E 6 va0_canal_kind), (a0_canal_weight, aI E 6 va0_canal_weight), (a0_canal_now, oB 3 [.ref a0_canal_now_ice, .ref a0_canal_now_juice, .ref a0_canal_now_fors, .int va0_canal_now_boat, .int va0_canal_now_minute, .int va0_canal_now_draw]), (a0_canal_now_juice, aI E 5 va0_canal_now_juice), (a1, oB 5 [.ref a1_items, .int va1_lane, .int va1_length]), (a1_items, aJ E 24 va1_items)] (Pe (some (.int out)) [(a0, oB 7 [.ref a0_canal, .ref a0_history, .ref a0_imageCanal, .ref a0_imageHistory, .int va0_hasImage, .ref a0_tape, .ref a0_foreteller, .ref a0_search, .ref a0_sheets]), (a0_canal, oB 0 [.ref a0_canal_kind, .ref a0_canal_weight, .ref a0_canal_now, .int va0_canal_cells, .int va0_canal_people, .int va0_canal_sayings, .int va0_canal_frost]), (a0_canal_kind, aI E 6 va0_canal_kind), (a0_canal_weight, aI E 6 va0_canal_weight), (a0_canal_now, oB 3 [.ref a0_canal_now_ice, .ref a0_canal_now_juice, .ref a0_canal_now_fors, .int va0_canal_now_boat, .int va0_canal_now_minute, .int va0_canal_now_draw]), (a0_canal_now_juice, aI E 5 va0_canal_now_juice), (a1, oB 5 [.ref a1_items, .int va1_lane, .int va1_length]), (a1_items, aJ E 24 va1_items)]) := by
  refine Ct.of rfl (Nat.le_of_ble_eq_true rfl) (fun K hL k r hin => ?_)
  subst hL
  unfold fX7_countFelt at hf
  show G E K 6 0 0 [(0, .ref a0), (1, .ref a1), (2, .int x2), (3, .int x3)] [] [(a0, oB 7 [.ref a0_canal, .ref a0_history, .ref a0_imageCanal, .ref a0_imageHistory, .int va0_hasImage, .ref a0_tape, .ref a0_foreteller, .ref a0_search, .ref a0_sheets]), (a0_canal, oB 0 [.ref a0_canal_kind, .ref a0_canal_weight, .ref a0_canal_now, .int va0_canal_cells, .int va0_canal_people, .int va0_canal_sayings, .int va0_canal_frost]), (a0_canal_kind, aI E 6 va0_canal_kind), (a0_canal_weight, aI E 6 va0_canal_weight), (a0_canal_now, oB 3 [.ref a0_canal_now_ice, .ref a0_canal_now_juice, .ref a0_canal_now_fors, .int va0_canal_now_boat, .int va0_canal_now_minute, .int va0_canal_now_draw]), (a0_canal_now_juice, aI E 5 va0_canal_now_juice), (a1, oB 5 [.ref a1_items, .int va1_lane, .int va1_length]), (a1_items, aJ E 24 va1_items)] 0
  refine g_iconst k dX7_countFelt_0 ic_0 ?_
  refine g_istore k (lv' := [(4, .int 0), (0, .ref a0), (1, .ref a1), (2, .int x2), (3, .int x3)]) dX7_countFelt_1 (by decide) rfl ?_
  refine g_iconst k dX7_countFelt_3 ic_0 ?_
  refine g_istore k (lv' := [(5, .int 0), (4, .int 0), (0, .ref a0), (1, .ref a1), (2, .int x2), (3, .int x3)]) dX7_countFelt_4 (by decide) rfl ?_
  obtain ⟨o7, ho8, hf⟩ := bnd_some hf
  refine g_lv [2, 3, 4, 5, 1, 0] (lv' := [(0, .ref a0), (1, .ref a1), (2, .int x2), (3, .int x3), (4, .int 0), (5, .int 0)]) rfl ?_
  refine wX7_countFelt_L6 k N a0 a0_canal a0_history a0_imageCanal a0_imageHistory a0_tape a0_foreteller a0_search a0_sheets a0_canal_kind a0_canal_weight a0_canal_now a0_canal_now_ice a0_canal_now_juice a0_canal_now_fors a1 a1_items  x2 x3 va0_canal_people va0_canal_kind va0_canal_weight va0_canal_now_minute va0_canal_now_juice va1_items va0_hasImage va0_canal_cells va0_canal_sayings va0_canal_frost va0_canal_now_boat va0_canal_now_draw va1_lane va1_length N 0 0 o7 ho8 ?_
  refine g_iload k 4 dX7_countFelt_39 rfl ?_
  obtain rfl := Option.some.inj hf
  exact g_iret k r dX7_countFelt_41 ⟨rfl, rfl⟩
abbrev rmX7_leastFelt : Room := { frames := 4, cells := 0, slots := 0, locals := 105 }
def fX7_leastFelt_L3 (N : Nat) (x2 : Int32) (x3 : Int32) (va0_canal_people : Int32) (va0_canal_kind : Nat → Int32) (va0_canal_weight : Nat → Int32) (va0_canal_now_minute : Int32) (va0_canal_now_juice : Nat → Int32) (va1_items : Nat → Int64) : Nat → Int32 → Option ((Int32) ⊕ (Int32))
  | 0, _ => none
  | n + 1, x4 =>
    bnd (fX0_everybody N va0_canal_people) fun o1 =>
    if o1 < x4 then
    some (.inr (x4))
    else
    bnd (fX7_isFeltBy N va0_canal_people va0_canal_kind va0_canal_weight va0_canal_now_minute va0_canal_now_juice va1_items x4 x2 x3) fun o4 =>
    if o4 = 0 then
    fX7_leastFelt_L3 N x2 x3 va0_canal_people va0_canal_kind va0_canal_weight va0_canal_now_minute va0_canal_now_juice va1_items n (x4 + 1)
    else
    some (.inl (x4))
set_option maxHeartbeats 4000000 in
set_option maxRecDepth 100000 in
theorem wX7_leastFelt_L3 {E : Ev} {K : KX} (k : OKX E K cX7_leastFelt RX7 5 rmX7_leastFelt) (N : Nat) (a0 : Nat) (a0_canal : Nat) (a0_history : Nat) (a0_imageCanal : Nat) (a0_imageHistory : Nat) (a0_tape : Nat) (a0_foreteller : Nat) (a0_search : Nat) (a0_sheets : Nat) (a0_canal_kind : Nat) (a0_canal_weight : Nat) (a0_canal_now : Nat) (a0_canal_now_ice : Nat) (a0_canal_now_juice : Nat) (a0_canal_now_fors : Nat) (a1 : Nat) (a1_items : Nat) (x2 : Int32) (x3 : Int32) (va0_canal_people : Int32) (va0_canal_kind : Nat → Int32) (va0_canal_weight : Nat → Int32) (va0_canal_now_minute : Int32) (va0_canal_now_juice : Nat → Int32) (va1_items : Nat → Int64) (va0_hasImage : Int32) (va0_canal_cells : Int32) (va0_canal_sayings : Int32) (va0_canal_frost : Int32) (va0_canal_now_boat : Int32) (va0_canal_now_draw : Int32) (va1_lane : Int32) (va1_length : Int32) {out : Int32} (r : RTX E K 0 0 (some .int) (Pe (some (.int out)) [(a0, oB 7 [.ref a0_canal, .ref a0_history, .ref a0_imageCanal, .ref a0_imageHistory, .int va0_hasImage, .ref a0_tape, .ref a0_foreteller, .ref a0_search, .ref a0_sheets]), (a0_canal, oB 0 [.ref a0_canal_kind, .ref a0_canal_weight, .ref a0_canal_now, .int va0_canal_cells, .int va0_canal_people, .int va0_canal_sayings, .int va0_canal_frost]), (a0_canal_kind, aI E 6 va0_canal_kind), (a0_canal_weight, aI E 6 va0_canal_weight), (a0_canal_now, oB 3 [.ref a0_canal_now_ice, .ref a0_canal_now_juice, .ref a0_canal_now_fors, .int va0_canal_now_boat, .int va0_canal_now_minute, .int va0_canal_now_draw]), (a0_canal_now_juice, aI E 5 va0_canal_now_juice), (a1, oB 5 [.ref a1_items, .int va1_lane, .int va1_length]), (a1_items, aJ E 24 va1_items)])) : ∀ (n : Nat) (x4 : Int32) (o : (Int32) ⊕ (Int32)), fX7_leastFelt_L3 N x2 x3 va0_canal_people va0_canal_kind va0_canal_weight va0_canal_now_minute va0_canal_now_juice va1_items n x4 = some o → (∀ w, o = .inl w → w = out) → (∀ v, o = .inr v → G E K 5 0 0 [(0, .ref a0), (1, .ref a1), (2, .int x2), (3, .int x3), (4, .int v)] [] [(a0, oB 7 [.ref a0_canal, .ref a0_history, .ref a0_imageCanal, .ref a0_imageHistory, .int va0_hasImage, .ref a0_tape, .ref a0_foreteller, .ref a0_search, .ref a0_sheets]), (a0_canal, oB 0 [.ref a0_canal_kind, .ref a0_canal_weight, .ref a0_canal_now, .int va0_canal_cells, .int va0_canal_people, .int va0_canal_sayings, .int va0_canal_frost]), (a0_canal_kind, aI E 6 va0_canal_kind), (a0_canal_weight, aI E 6 va0_canal_weight), (a0_canal_now, oB 3 [.ref a0_canal_now_ice, .ref a0_canal_now_juice, .ref a0_canal_now_fors, .int va0_canal_now_boat, .int va0_canal_now_minute, .int va0_canal_now_draw]), (a0_canal_now_juice, aI E 5 va0_canal_now_juice), (a1, oB 5 [.ref a1_items, .int va1_lane, .int va1_length]), (a1_items, aJ E 24 va1_items)] 36) → G E K 5 0 0 [(0, .ref a0), (1, .ref a1), (2, .int x2), (3, .int x3), (4, .int x4)] [] [(a0, oB 7 [.ref a0_canal, .ref a0_history, .ref a0_imageCanal, .ref a0_imageHistory, .int va0_hasImage, .ref a0_tape, .ref a0_foreteller, .ref a0_search, .ref a0_sheets]), (a0_canal, oB 0 [.ref a0_canal_kind, .ref a0_canal_weight, .ref a0_canal_now, .int va0_canal_cells, .int va0_canal_people, .int va0_canal_sayings, .int va0_canal_frost]), (a0_canal_kind, aI E 6 va0_canal_kind), (a0_canal_weight, aI E 6 va0_canal_weight), (a0_canal_now, oB 3 [.ref a0_canal_now_ice, .ref a0_canal_now_juice, .ref a0_canal_now_fors, .int va0_canal_now_boat, .int va0_canal_now_minute, .int va0_canal_now_draw]), (a0_canal_now_juice, aI E 5 va0_canal_now_juice), (a1, oB 5 [.ref a1_items, .int va1_lane, .int va1_length]), (a1_items, aJ E 24 va1_items)] 3 := by
  intro n
  induction n with
  | zero => intro x4 o hf; cases hf
  | succ n ih =>
    intro x4 o hf hr hG
    rw [fX7_leastFelt_L3] at hf
    refine g_iload k 4 dX7_leastFelt_3 rfl ?_
    refine g_aload_n k 0 dX7_leastFelt_5 rfl rfl ?_
    refine g_get k cfX7 0 0 dX7_leastFelt_6 lkX7_10 (by decide) rfl rfl ?_
    obtain ⟨o1, ho2, hf⟩ := bnd_some hf
    refine g_cv k miX0_everybody mvX0_everybody (ctX0_everybody (kL K) E N a0_canal a0_canal_kind a0_canal_weight a0_canal_now va0_canal_cells va0_canal_people va0_canal_sayings va0_canal_frost  o1 ho2) [1] 0 (ws' := [(a0, oB 7 [.ref a0_canal, .ref a0_history, .ref a0_imageCanal, .ref a0_imageHistory, .int va0_hasImage, .ref a0_tape, .ref a0_foreteller, .ref a0_search, .ref a0_sheets]), (a0_canal, oB 0 [.ref a0_canal_kind, .ref a0_canal_weight, .ref a0_canal_now, .int va0_canal_cells, .int va0_canal_people, .int va0_canal_sayings, .int va0_canal_frost]), (a0_canal_kind, aI E 6 va0_canal_kind), (a0_canal_weight, aI E 6 va0_canal_weight), (a0_canal_now, oB 3 [.ref a0_canal_now_ice, .ref a0_canal_now_juice, .ref a0_canal_now_fors, .int va0_canal_now_boat, .int va0_canal_now_minute, .int va0_canal_now_draw]), (a0_canal_now_juice, aI E 5 va0_canal_now_juice), (a1, oB 5 [.ref a1_items, .int va1_lane, .int va1_length]), (a1_items, aJ E 24 va1_items)]) dX7_leastFelt_9 lkX7_83 rfl ⟨rfl, rfl⟩ ⟨by decide, by decide⟩ rfl rfl rfl rfl (Nat.le_of_ble_eq_true rfl) rfl rfl rfl ?_
    refine g_st (st' := [.int o1, .int x4]) rfl ?_
    refine g_icmp_gt k (tgt := 36) dX7_leastFelt_12 (by decide) (fun c3 => ?_) (fun c3 => ?_)
    · replace hf := ite_t c3 hf
      refine g_lv [0, 1, 2, 3, 4] rfl ?_
      obtain rfl := Option.some.inj hf
      exact hG _ rfl
    · replace hf := ite_f c3 hf
      refine g_aload_n k 0 dX7_leastFelt_15 rfl rfl ?_
      refine g_iload k 4 dX7_leastFelt_16 rfl ?_
      refine g_aload_n k 1 dX7_leastFelt_18 rfl rfl ?_
      refine g_iload_n k 2 dX7_leastFelt_19 rfl rfl ?_
      refine g_iload_n k 3 dX7_leastFelt_20 rfl rfl ?_
      obtain ⟨o4, ho5, hf⟩ := bnd_some hf
      refine g_cv k miX7_isFeltBy mvX7_isFeltBy (ctX7_isFeltBy (kL K) E N a0 a0_canal a0_history a0_imageCanal a0_imageHistory a0_tape a0_foreteller a0_search a0_sheets a0_canal_kind a0_canal_weight a0_canal_now a0_canal_now_ice a0_canal_now_juice a0_canal_now_fors a1 a1_items va0_hasImage va0_canal_cells va0_canal_people va0_canal_sayings va0_canal_frost va0_canal_kind va0_canal_weight va0_canal_now_boat va0_canal_now_minute va0_canal_now_draw va0_canal_now_juice va1_lane va1_length va1_items x4 x2 x3 o4 ho5) [0, 1, 2, 3, 4, 5, 6, 7] 0 (ws' := [(a0, oB 7 [.ref a0_canal, .ref a0_history, .ref a0_imageCanal, .ref a0_imageHistory, .int va0_hasImage, .ref a0_tape, .ref a0_foreteller, .ref a0_search, .ref a0_sheets]), (a0_canal, oB 0 [.ref a0_canal_kind, .ref a0_canal_weight, .ref a0_canal_now, .int va0_canal_cells, .int va0_canal_people, .int va0_canal_sayings, .int va0_canal_frost]), (a0_canal_kind, aI E 6 va0_canal_kind), (a0_canal_weight, aI E 6 va0_canal_weight), (a0_canal_now, oB 3 [.ref a0_canal_now_ice, .ref a0_canal_now_juice, .ref a0_canal_now_fors, .int va0_canal_now_boat, .int va0_canal_now_minute, .int va0_canal_now_draw]), (a0_canal_now_juice, aI E 5 va0_canal_now_juice), (a1, oB 5 [.ref a1_items, .int va1_lane, .int va1_length]), (a1_items, aJ E 24 va1_items)]) dX7_leastFelt_21 lkX7_319 rfl ⟨rfl, rfl⟩ ⟨by decide, by decide⟩ rfl rfl rfl rfl (Nat.le_of_ble_eq_true rfl) rfl rfl rfl ?_
      refine g_st (st' := [.int o4]) rfl ?_
      refine g_if_eq k (tgt := 30) dX7_leastFelt_24 (by decide) (fun c6 => ?_) (fun c6 => ?_)
      · replace hf := ite_t c6 hf
        refine g_iinc k (lv' := [(4, .int (x4 + 1)), (0, .ref a0), (1, .ref a1), (2, .int x2), (3, .int x3)]) 4 dX7_leastFelt_30 rfl (ii_1 _) (by decide) rfl ?_
        refine g_goto k (tgt := 3) dX7_leastFelt_33 (by decide) ?_
        refine g_lv [1, 2, 3, 4, 0] rfl ?_
        exact ih (x4 + 1) o hf hr hG
      · replace hf := ite_f c6 hf
        refine g_iload k 4 dX7_leastFelt_27 rfl ?_
        obtain rfl := Option.some.inj hf
        obtain rfl := hr _ rfl
        exact g_iret k r dX7_leastFelt_29 ⟨rfl, rfl⟩
def fX7_leastFelt (N : Nat) (va0_canal_people : Int32) (va0_canal_kind : Nat → Int32) (va0_canal_weight : Nat → Int32) (va0_canal_now_minute : Int32) (va0_canal_now_juice : Nat → Int32) (va1_items : Nat → Int64) (x2 : Int32) (x3 : Int32) : Option (Int32) :=
  bnd (fX7_leastFelt_L3 N x2 x3 va0_canal_people va0_canal_kind va0_canal_weight va0_canal_now_minute va0_canal_now_juice va1_items N 0) fun o7 => lret o7 fun v9 =>
  some ((-4))
set_option maxHeartbeats 4000000 in
set_option maxRecDepth 100000 in
theorem ctX7_leastFelt (l : Launch) (E : Ev) (N : Nat) (a0 : Nat) (a0_canal : Nat) (a0_history : Nat) (a0_imageCanal : Nat) (a0_imageHistory : Nat) (a0_tape : Nat) (a0_foreteller : Nat) (a0_search : Nat) (a0_sheets : Nat) (a0_canal_kind : Nat) (a0_canal_weight : Nat) (a0_canal_now : Nat) (a0_canal_now_ice : Nat) (a0_canal_now_juice : Nat) (a0_canal_now_fors : Nat) (a1 : Nat) (a1_items : Nat) (va0_hasImage : Int32) (va0_canal_cells : Int32) (va0_canal_people : Int32) (va0_canal_sayings : Int32) (va0_canal_frost : Int32) (va0_canal_kind : Nat → Int32) (va0_canal_weight : Nat → Int32) (va0_canal_now_boat : Int32) (va0_canal_now_minute : Int32) (va0_canal_now_draw : Int32) (va0_canal_now_juice : Nat → Int32) (va1_lane : Int32) (va1_length : Int32) (va1_items : Nat → Int64) (x2 : Int32) (x3 : Int32) (out : Int32) (hf : fX7_leastFelt N va0_canal_people va0_canal_kind va0_canal_weight va0_canal_now_minute va0_canal_now_juice va1_items x2 x3 = some out) : Ct l E yX7_leastFelt cX7_leastFelt 5 (some .int) rmX7_leastFelt [.ref a0, .ref a1, .int x2, .int x3] [(a0, oB 7 [.ref a0_canal, .ref a0_history, .ref a0_imageCanal, .ref a0_imageHistory, .int va0_hasImage, .ref a0_tape, .ref a0_foreteller, .ref a0_search, .ref a0_sheets]), (a0_canal, oB 0 [.ref a0_canal_kind, .ref a0_canal_weight, .ref a0_canal_now, .int va0_canal_cells, .int va0_canal_people, .int va0_canal_sayings, .int va0_canal_frost]), (a0_canal_kind, aI E 6 va0_canal_kind), (a0_canal_weight, aI E 6 va0_canal_weight), (a0_canal_now, oB 3 [.ref a0_canal_now_ice, .ref a0_canal_now_juice, .ref a0_canal_now_fors, .int va0_canal_now_boat, .int va0_canal_now_minute, .int va0_canal_now_draw]), (a0_canal_now_juice, aI E 5 va0_canal_now_juice), (a1, oB 5 [.ref a1_items, .int va1_lane, .int va1_length]), (a1_items, aJ E 24 va1_items)] (Pe (some (.int out)) [(a0, oB 7 [.ref a0_canal, .ref a0_history, .ref a0_imageCanal, .ref a0_imageHistory, .int va0_hasImage, .ref a0_tape, .ref a0_foreteller, .ref a0_search, .ref a0_sheets]), (a0_canal, oB 0 [.ref a0_canal_kind, .ref a0_canal_weight, .ref a0_canal_now, .int va0_canal_cells, .int va0_canal_people, .int va0_canal_sayings, .int va0_canal_frost]), (a0_canal_kind, aI E 6 va0_canal_kind), (a0_canal_weight, aI E 6 va0_canal_weight), (a0_canal_now, oB 3 [.ref a0_canal_now_ice, .ref a0_canal_now_juice, .ref a0_canal_now_fors, .int va0_canal_now_boat, .int va0_canal_now_minute, .int va0_canal_now_draw]), (a0_canal_now_juice, aI E 5 va0_canal_now_juice), (a1, oB 5 [.ref a1_items, .int va1_lane, .int va1_length]), (a1_items, aJ E 24 va1_items)]) := by
  refine Ct.of rfl (Nat.le_of_ble_eq_true rfl) (fun K hL k r hin => ?_)
  subst hL
  unfold fX7_leastFelt at hf
  show G E K 5 0 0 [(0, .ref a0), (1, .ref a1), (2, .int x2), (3, .int x3)] [] [(a0, oB 7 [.ref a0_canal, .ref a0_history, .ref a0_imageCanal, .ref a0_imageHistory, .int va0_hasImage, .ref a0_tape, .ref a0_foreteller, .ref a0_search, .ref a0_sheets]), (a0_canal, oB 0 [.ref a0_canal_kind, .ref a0_canal_weight, .ref a0_canal_now, .int va0_canal_cells, .int va0_canal_people, .int va0_canal_sayings, .int va0_canal_frost]), (a0_canal_kind, aI E 6 va0_canal_kind), (a0_canal_weight, aI E 6 va0_canal_weight), (a0_canal_now, oB 3 [.ref a0_canal_now_ice, .ref a0_canal_now_juice, .ref a0_canal_now_fors, .int va0_canal_now_boat, .int va0_canal_now_minute, .int va0_canal_now_draw]), (a0_canal_now_juice, aI E 5 va0_canal_now_juice), (a1, oB 5 [.ref a1_items, .int va1_lane, .int va1_length]), (a1_items, aJ E 24 va1_items)] 0
  refine g_iconst k dX7_leastFelt_0 ic_0 ?_
  refine g_istore k (lv' := [(4, .int 0), (0, .ref a0), (1, .ref a1), (2, .int x2), (3, .int x3)]) dX7_leastFelt_1 (by decide) rfl ?_
  obtain ⟨o7, ho8, hf⟩ := bnd_some hf
  refine g_lv [1, 2, 3, 4, 0] (lv' := [(0, .ref a0), (1, .ref a1), (2, .int x2), (3, .int x3), (4, .int 0)]) rfl ?_
  refine wX7_leastFelt_L3 k N a0 a0_canal a0_history a0_imageCanal a0_imageHistory a0_tape a0_foreteller a0_search a0_sheets a0_canal_kind a0_canal_weight a0_canal_now a0_canal_now_ice a0_canal_now_juice a0_canal_now_fors a1 a1_items  x2 x3 va0_canal_people va0_canal_kind va0_canal_weight va0_canal_now_minute va0_canal_now_juice va1_items va0_hasImage va0_canal_cells va0_canal_sayings va0_canal_frost va0_canal_now_boat va0_canal_now_draw va1_lane va1_length r N 0 o7 ho8 (fun w e => by subst e; exact Option.some.inj hf) (fun v9 e => ?_)
  subst e
  replace hf := lret_r hf
  refine g_bipush k dX7_leastFelt_36 bi_m4 ?_
  obtain rfl := Option.some.inj hf
  exact g_iret k r dX7_leastFelt_38 ⟨rfl, rfl⟩
abbrev rmX7_felt : Room := { frames := 5, cells := 0, slots := 0, locals := 130 }
def fX7_felt_L68 (N : Nat) (κ_6 : Nat) (x1 : Int32) (x2 : Int32) (x3 : Int32) (x4 : Int32) (x5 : Int32) (x7 : Int32) (va0_canal_sayings : Int32) (va0_sheets_e_items : Nat → Nat → Int64) : Nat → Int32 → Option ((Int32) ⊕ (Int32))
  | 0, _ => none
  | n + 1, x8 =>
    if x4 ≤ x8 then
    some (.inr (x8))
    else
    ixb (x3 + (2 * x8)) 24 fun κ18 =>
    bnd (fX7_isSaying N va0_canal_sayings ((va0_sheets_e_items κ_6) κ18)) fun o19 =>
    if o19 = 0 then
    some (.inl ((-2)))
    else
    fX7_felt_L68 N κ_6 x1 x2 x3 x4 x5 x7 va0_canal_sayings va0_sheets_e_items n (x8 + 1)
set_option maxHeartbeats 4000000 in
set_option maxRecDepth 100000 in
theorem wX7_felt_L68 {E : Ev} {K : KX} (k : OKX E K cX7_felt RX7 9 rmX7_felt) (N : Nat) (a0 : Nat) (a0_canal : Nat) (a0_history : Nat) (a0_imageCanal : Nat) (a0_imageHistory : Nat) (a0_tape : Nat) (a0_foreteller : Nat) (a0_search : Nat) (a0_sheets : Nat) (a0_canal_kind : Nat) (a0_canal_weight : Nat) (a0_canal_now : Nat) (a0_canal_now_ice : Nat) (a0_canal_now_juice : Nat) (a0_canal_now_fors : Nat) (a0_sheets_e : Nat → Nat) (a0_sheets_e_items : Nat → Nat) (κ_6 : Nat) (hκ_6 : κ_6 < 4) (x1 : Int32) (x2 : Int32) (x3 : Int32) (x4 : Int32) (x5 : Int32) (x7 : Int32) (va0_canal_sayings : Int32) (va0_sheets_e_items : Nat → Nat → Int64) (va0_hasImage : Int32) (va0_canal_cells : Int32) (va0_canal_people : Int32) (va0_canal_frost : Int32) (va0_canal_kind : Nat → Int32) (va0_canal_weight : Nat → Int32) (va0_canal_now_boat : Int32) (va0_canal_now_minute : Int32) (va0_canal_now_draw : Int32) (va0_canal_now_juice : Nat → Int32) (va0_sheets_e_lane : Nat → Int32) (va0_sheets_e_length : Nat → Int32) {out : Int32} (r : RTX E K 0 0 (some .int) (Pe (some (.int out)) [(a0, oB 7 [.ref a0_canal, .ref a0_history, .ref a0_imageCanal, .ref a0_imageHistory, .int va0_hasImage, .ref a0_tape, .ref a0_foreteller, .ref a0_search, .ref a0_sheets]), (a0_canal, oB 0 [.ref a0_canal_kind, .ref a0_canal_weight, .ref a0_canal_now, .int va0_canal_cells, .int va0_canal_people, .int va0_canal_sayings, .int va0_canal_frost]), (a0_canal_kind, aI E 6 va0_canal_kind), (a0_canal_weight, aI E 6 va0_canal_weight), (a0_canal_now, oB 3 [.ref a0_canal_now_ice, .ref a0_canal_now_juice, .ref a0_canal_now_fors, .int va0_canal_now_boat, .int va0_canal_now_minute, .int va0_canal_now_draw]), (a0_canal_now_juice, aI E 5 va0_canal_now_juice), (a0_sheets, aS E 4 (fun j => some (a0_sheets_e j))), ((a0_sheets_e 0), oB 5 [.ref (a0_sheets_e_items 0), .int (va0_sheets_e_lane 0), .int (va0_sheets_e_length 0)]), ((a0_sheets_e_items 0), aJ E 24 (va0_sheets_e_items 0)), ((a0_sheets_e 1), oB 5 [.ref (a0_sheets_e_items 1), .int (va0_sheets_e_lane 1), .int (va0_sheets_e_length 1)]), ((a0_sheets_e_items 1), aJ E 24 (va0_sheets_e_items 1)), ((a0_sheets_e 2), oB 5 [.ref (a0_sheets_e_items 2), .int (va0_sheets_e_lane 2), .int (va0_sheets_e_length 2)]), ((a0_sheets_e_items 2), aJ E 24 (va0_sheets_e_items 2)), ((a0_sheets_e 3), oB 5 [.ref (a0_sheets_e_items 3), .int (va0_sheets_e_lane 3), .int (va0_sheets_e_length 3)]), ((a0_sheets_e_items 3), aJ E 24 (va0_sheets_e_items 3))])) : ∀ (n : Nat) (x8 : Int32) (o : (Int32) ⊕ (Int32)), fX7_felt_L68 N κ_6 x1 x2 x3 x4 x5 x7 va0_canal_sayings va0_sheets_e_items n x8 = some o → (∀ w, o = .inl w → w = out) → (∀ v, o = .inr v → G E K 9 0 0 [(0, .ref a0), (1, .int x1), (2, .int x2), (3, .int x3), (4, .int x4), (5, .int x5), (6, .ref (a0_sheets_e κ_6)), (7, .int x7), (8, .int v)] [] [(a0, oB 7 [.ref a0_canal, .ref a0_history, .ref a0_imageCanal, .ref a0_imageHistory, .int va0_hasImage, .ref a0_tape, .ref a0_foreteller, .ref a0_search, .ref a0_sheets]), (a0_canal, oB 0 [.ref a0_canal_kind, .ref a0_canal_weight, .ref a0_canal_now, .int va0_canal_cells, .int va0_canal_people, .int va0_canal_sayings, .int va0_canal_frost]), (a0_canal_kind, aI E 6 va0_canal_kind), (a0_canal_weight, aI E 6 va0_canal_weight), (a0_canal_now, oB 3 [.ref a0_canal_now_ice, .ref a0_canal_now_juice, .ref a0_canal_now_fors, .int va0_canal_now_boat, .int va0_canal_now_minute, .int va0_canal_now_draw]), (a0_canal_now_juice, aI E 5 va0_canal_now_juice), (a0_sheets, aS E 4 (fun j => some (a0_sheets_e j))), ((a0_sheets_e 0), oB 5 [.ref (a0_sheets_e_items 0), .int (va0_sheets_e_lane 0), .int (va0_sheets_e_length 0)]), ((a0_sheets_e_items 0), aJ E 24 (va0_sheets_e_items 0)), ((a0_sheets_e 1), oB 5 [.ref (a0_sheets_e_items 1), .int (va0_sheets_e_lane 1), .int (va0_sheets_e_length 1)]), ((a0_sheets_e_items 1), aJ E 24 (va0_sheets_e_items 1)), ((a0_sheets_e 2), oB 5 [.ref (a0_sheets_e_items 2), .int (va0_sheets_e_lane 2), .int (va0_sheets_e_length 2)]), ((a0_sheets_e_items 2), aJ E 24 (va0_sheets_e_items 2)), ((a0_sheets_e 3), oB 5 [.ref (a0_sheets_e_items 3), .int (va0_sheets_e_lane 3), .int (va0_sheets_e_length 3)]), ((a0_sheets_e_items 3), aJ E 24 (va0_sheets_e_items 3))] 103) → G E K 9 0 0 [(0, .ref a0), (1, .int x1), (2, .int x2), (3, .int x3), (4, .int x4), (5, .int x5), (6, .ref (a0_sheets_e κ_6)), (7, .int x7), (8, .int x8)] [] [(a0, oB 7 [.ref a0_canal, .ref a0_history, .ref a0_imageCanal, .ref a0_imageHistory, .int va0_hasImage, .ref a0_tape, .ref a0_foreteller, .ref a0_search, .ref a0_sheets]), (a0_canal, oB 0 [.ref a0_canal_kind, .ref a0_canal_weight, .ref a0_canal_now, .int va0_canal_cells, .int va0_canal_people, .int va0_canal_sayings, .int va0_canal_frost]), (a0_canal_kind, aI E 6 va0_canal_kind), (a0_canal_weight, aI E 6 va0_canal_weight), (a0_canal_now, oB 3 [.ref a0_canal_now_ice, .ref a0_canal_now_juice, .ref a0_canal_now_fors, .int va0_canal_now_boat, .int va0_canal_now_minute, .int va0_canal_now_draw]), (a0_canal_now_juice, aI E 5 va0_canal_now_juice), (a0_sheets, aS E 4 (fun j => some (a0_sheets_e j))), ((a0_sheets_e 0), oB 5 [.ref (a0_sheets_e_items 0), .int (va0_sheets_e_lane 0), .int (va0_sheets_e_length 0)]), ((a0_sheets_e_items 0), aJ E 24 (va0_sheets_e_items 0)), ((a0_sheets_e 1), oB 5 [.ref (a0_sheets_e_items 1), .int (va0_sheets_e_lane 1), .int (va0_sheets_e_length 1)]), ((a0_sheets_e_items 1), aJ E 24 (va0_sheets_e_items 1)), ((a0_sheets_e 2), oB 5 [.ref (a0_sheets_e_items 2), .int (va0_sheets_e_lane 2), .int (va0_sheets_e_length 2)]), ((a0_sheets_e_items 2), aJ E 24 (va0_sheets_e_items 2)), ((a0_sheets_e 3), oB 5 [.ref (a0_sheets_e_items 3), .int (va0_sheets_e_lane 3), .int (va0_sheets_e_length 3)]), ((a0_sheets_e_items 3), aJ E 24 (va0_sheets_e_items 3))] 68 := by
  intro n
  induction n with
  | zero => intro x8 o hf; cases hf
  | succ n ih =>
    intro x8 o hf hr hG
    rw [fX7_felt_L68] at hf
    refine g_iload k 8 dX7_felt_68 rfl ?_
    refine g_iload k 4 dX7_felt_70 rfl ?_
    refine g_icmp_ge k (tgt := 103) dX7_felt_72 (by decide) (fun c17 => ?_) (fun c17 => ?_)
    · replace hf := ite_t c17 hf
      refine g_lv [0, 1, 2, 3, 4, 5, 6, 7, 8] rfl ?_
      obtain rfl := Option.some.inj hf
      exact hG _ rfl
    · replace hf := ite_f c17 hf
      refine g_aload_n k 0 dX7_felt_75 rfl rfl ?_
      refine g_aload k 6 dX7_felt_76 rfl ?_
      refine g_get k cfX5 0 (7 + 2 * κ_6) (fs := [.ref (a0_sheets_e_items κ_6), .int (va0_sheets_e_lane κ_6), .int (va0_sheets_e_length κ_6)]) dX7_felt_78 lkX7_276 (by decide) (by rcases lt4 hκ_6 with z|z|z|z <;> subst z <;> rfl) rfl ?_
      refine g_iload_n k 3 dX7_felt_81 rfl rfl ?_
      refine g_iconst k dX7_felt_82 ic_2 ?_
      refine g_iload k 8 dX7_felt_83 rfl ?_
      refine g_imul k dX7_felt_85 ?_
      refine g_iadd k dX7_felt_86 ?_
      obtain ⟨κ18, hκ18, hiκ18, heκ18, hf⟩ := ixb_some hf
      refine g_laload k (8 + 2 * κ_6) (f := (va0_sheets_e_items κ_6)) dX7_felt_87 (by rcases lt4 hκ_6 with z|z|z|z <;> subst z <;> rfl) hiκ18 heκ18 ?_
      obtain ⟨o19, ho20, hf⟩ := bnd_some hf
      refine g_cv k miX7_isSaying mvX7_isSaying (ctX7_isSaying (kL K) E N a0 a0_canal a0_history a0_imageCanal a0_imageHistory a0_tape a0_foreteller a0_search a0_sheets a0_canal_kind a0_canal_weight a0_canal_now va0_hasImage va0_canal_cells va0_canal_people va0_canal_sayings va0_canal_frost ((va0_sheets_e_items κ_6) κ18) o19 ho20) [0, 1] 0 (ws' := [(a0, oB 7 [.ref a0_canal, .ref a0_history, .ref a0_imageCanal, .ref a0_imageHistory, .int va0_hasImage, .ref a0_tape, .ref a0_foreteller, .ref a0_search, .ref a0_sheets]), (a0_canal, oB 0 [.ref a0_canal_kind, .ref a0_canal_weight, .ref a0_canal_now, .int va0_canal_cells, .int va0_canal_people, .int va0_canal_sayings, .int va0_canal_frost]), (a0_canal_kind, aI E 6 va0_canal_kind), (a0_canal_weight, aI E 6 va0_canal_weight), (a0_canal_now, oB 3 [.ref a0_canal_now_ice, .ref a0_canal_now_juice, .ref a0_canal_now_fors, .int va0_canal_now_boat, .int va0_canal_now_minute, .int va0_canal_now_draw]), (a0_canal_now_juice, aI E 5 va0_canal_now_juice), (a0_sheets, aS E 4 (fun j => some (a0_sheets_e j))), ((a0_sheets_e 0), oB 5 [.ref (a0_sheets_e_items 0), .int (va0_sheets_e_lane 0), .int (va0_sheets_e_length 0)]), ((a0_sheets_e_items 0), aJ E 24 (va0_sheets_e_items 0)), ((a0_sheets_e 1), oB 5 [.ref (a0_sheets_e_items 1), .int (va0_sheets_e_lane 1), .int (va0_sheets_e_length 1)]), ((a0_sheets_e_items 1), aJ E 24 (va0_sheets_e_items 1)), ((a0_sheets_e 2), oB 5 [.ref (a0_sheets_e_items 2), .int (va0_sheets_e_lane 2), .int (va0_sheets_e_length 2)]), ((a0_sheets_e_items 2), aJ E 24 (va0_sheets_e_items 2)), ((a0_sheets_e 3), oB 5 [.ref (a0_sheets_e_items 3), .int (va0_sheets_e_lane 3), .int (va0_sheets_e_length 3)]), ((a0_sheets_e_items 3), aJ E 24 (va0_sheets_e_items 3))]) dX7_felt_88 lkX7_280 rfl ⟨rfl, rfl⟩ ⟨by decide, by decide⟩ rfl rfl rfl rfl (Nat.le_of_ble_eq_true rfl) rfl rfl rfl ?_
      refine g_st (st' := [.int o19]) rfl ?_
      refine g_if_ne k (tgt := 97) dX7_felt_91 (by decide) (fun c21 => ?_) (fun c21 => ?_)
      · replace hf := ite_f c21 hf
        refine g_iinc k (lv' := [(8, .int (x8 + 1)), (0, .ref a0), (1, .int x1), (2, .int x2), (3, .int x3), (4, .int x4), (5, .int x5), (6, .ref (a0_sheets_e κ_6)), (7, .int x7)]) 8 dX7_felt_97 rfl (ii_1 _) (by decide) rfl ?_
        refine g_goto k (tgt := 68) dX7_felt_100 (by decide) ?_
        refine g_lv [1, 2, 3, 4, 5, 6, 7, 8, 0] rfl ?_
        exact ih (x8 + 1) o hf hr hG
      · replace hf := ite_t c21 hf
        refine g_bipush k dX7_felt_94 bi_m2 ?_
        obtain rfl := Option.some.inj hf
        obtain rfl := hr _ rfl
        exact g_iret k r dX7_felt_96 ⟨rfl, rfl⟩
def fX7_felt (N : Nat) (va0_canal_people : Int32) (va0_canal_sayings : Int32) (va0_canal_kind : Nat → Int32) (va0_canal_weight : Nat → Int32) (va0_canal_now_minute : Int32) (va0_canal_now_juice : Nat → Int32) (va0_sheets_e_lane : Nat → Int32) (va0_sheets_e_length : Nat → Int32) (va0_sheets_e_items : Nat → Nat → Int64) (x1 : Int32) (x2 : Int32) (x3 : Int32) (x4 : Int32) (x5 : Int32) : Option (Int32) :=
  bnd (fX7_isSheet N x1) fun o1 =>
  if o1 = 0 then
  some ((-1))
  else
  bnd (fX7_isLane N x2) fun o4 =>
  if o4 = 0 then
  some ((-1))
  else
  bnd (fX7_within N x4 1 5) fun o7 =>
  if o7 = 0 then
  some ((-1))
  else
  bnd (fX7_within N x5 0 1) fun o10 =>
  if o10 = 0 then
  some ((-1))
  else
  ixb x1 4 fun κ13 =>
  bnd (fX5_refusal N (va0_sheets_e_lane κ13) (va0_sheets_e_length κ13) x2 x3 (2 * x4)) fun o14 =>
  if o14 = 0 then
  bnd (fX7_felt_L68 N κ13 x1 x2 x3 x4 x5 o14 va0_canal_sayings va0_sheets_e_items N 0) fun o22 => lret o22 fun v24 =>
  if x5 = 0 then
  bnd (fX7_countFelt N va0_canal_people va0_canal_kind va0_canal_weight va0_canal_now_minute va0_canal_now_juice (va0_sheets_e_items κ13) x3 x4) fun o28 =>
  some (o28)
  else
  bnd (fX7_leastFelt N va0_canal_people va0_canal_kind va0_canal_weight va0_canal_now_minute va0_canal_now_juice (va0_sheets_e_items κ13) x3 x4) fun o26 =>
  some (o26)
  else
  some (o14)
set_option maxHeartbeats 4000000 in
set_option maxRecDepth 100000 in
theorem ctX7_felt (l : Launch) (E : Ev) (N : Nat) (a0 : Nat) (a0_canal : Nat) (a0_history : Nat) (a0_imageCanal : Nat) (a0_imageHistory : Nat) (a0_tape : Nat) (a0_foreteller : Nat) (a0_search : Nat) (a0_sheets : Nat) (a0_canal_kind : Nat) (a0_canal_weight : Nat) (a0_canal_now : Nat) (a0_canal_now_ice : Nat) (a0_canal_now_juice : Nat) (a0_canal_now_fors : Nat) (a0_sheets_e : Nat → Nat) (a0_sheets_e_items : Nat → Nat) (va0_hasImage : Int32) (va0_canal_cells : Int32) (va0_canal_people : Int32) (va0_canal_sayings : Int32) (va0_canal_frost : Int32) (va0_canal_kind : Nat → Int32) (va0_canal_weight : Nat → Int32) (va0_canal_now_boat : Int32) (va0_canal_now_minute : Int32) (va0_canal_now_draw : Int32) (va0_canal_now_juice : Nat → Int32) (va0_sheets_e_lane : Nat → Int32) (va0_sheets_e_length : Nat → Int32) (va0_sheets_e_items : Nat → Nat → Int64) (x1 : Int32) (x2 : Int32) (x3 : Int32) (x4 : Int32) (x5 : Int32) (out : Int32) (hf : fX7_felt N va0_canal_people va0_canal_sayings va0_canal_kind va0_canal_weight va0_canal_now_minute va0_canal_now_juice va0_sheets_e_lane va0_sheets_e_length va0_sheets_e_items x1 x2 x3 x4 x5 = some out) : Ct l E yX7_felt cX7_felt 9 (some .int) rmX7_felt [.ref a0, .int x1, .int x2, .int x3, .int x4, .int x5] [(a0, oB 7 [.ref a0_canal, .ref a0_history, .ref a0_imageCanal, .ref a0_imageHistory, .int va0_hasImage, .ref a0_tape, .ref a0_foreteller, .ref a0_search, .ref a0_sheets]), (a0_canal, oB 0 [.ref a0_canal_kind, .ref a0_canal_weight, .ref a0_canal_now, .int va0_canal_cells, .int va0_canal_people, .int va0_canal_sayings, .int va0_canal_frost]), (a0_canal_kind, aI E 6 va0_canal_kind), (a0_canal_weight, aI E 6 va0_canal_weight), (a0_canal_now, oB 3 [.ref a0_canal_now_ice, .ref a0_canal_now_juice, .ref a0_canal_now_fors, .int va0_canal_now_boat, .int va0_canal_now_minute, .int va0_canal_now_draw]), (a0_canal_now_juice, aI E 5 va0_canal_now_juice), (a0_sheets, aS E 4 (fun j => some (a0_sheets_e j))), ((a0_sheets_e 0), oB 5 [.ref (a0_sheets_e_items 0), .int (va0_sheets_e_lane 0), .int (va0_sheets_e_length 0)]), ((a0_sheets_e_items 0), aJ E 24 (va0_sheets_e_items 0)), ((a0_sheets_e 1), oB 5 [.ref (a0_sheets_e_items 1), .int (va0_sheets_e_lane 1), .int (va0_sheets_e_length 1)]), ((a0_sheets_e_items 1), aJ E 24 (va0_sheets_e_items 1)), ((a0_sheets_e 2), oB 5 [.ref (a0_sheets_e_items 2), .int (va0_sheets_e_lane 2), .int (va0_sheets_e_length 2)]), ((a0_sheets_e_items 2), aJ E 24 (va0_sheets_e_items 2)), ((a0_sheets_e 3), oB 5 [.ref (a0_sheets_e_items 3), .int (va0_sheets_e_lane 3), .int (va0_sheets_e_length 3)]), ((a0_sheets_e_items 3), aJ E 24 (va0_sheets_e_items 3))] (Pe (some (.int out)) [(a0, oB 7 [.ref a0_canal, .ref a0_history, .ref a0_imageCanal, .ref a0_imageHistory, .int va0_hasImage, .ref a0_tape, .ref a0_foreteller, .ref a0_search, .ref a0_sheets]), (a0_canal, oB 0 [.ref a0_canal_kind, .ref a0_canal_weight, .ref a0_canal_now, .int va0_canal_cells, .int va0_canal_people, .int va0_canal_sayings, .int va0_canal_frost]), (a0_canal_kind, aI E 6 va0_canal_kind), (a0_canal_weight, aI E 6 va0_canal_weight), (a0_canal_now, oB 3 [.ref a0_canal_now_ice, .ref a0_canal_now_juice, .ref a0_canal_now_fors, .int va0_canal_now_boat, .int va0_canal_now_minute, .int va0_canal_now_draw]), (a0_canal_now_juice, aI E 5 va0_canal_now_juice), (a0_sheets, aS E 4 (fun j => some (a0_sheets_e j))), ((a0_sheets_e 0), oB 5 [.ref (a0_sheets_e_items 0), .int (va0_sheets_e_lane 0), .int (va0_sheets_e_length 0)]), ((a0_sheets_e_items 0), aJ E 24 (va0_sheets_e_items 0)), ((a0_sheets_e 1), oB 5 [.ref (a0_sheets_e_items 1), .int (va0_sheets_e_lane 1), .int (va0_sheets_e_length 1)]), ((a0_sheets_e_items 1), aJ E 24 (va0_sheets_e_items 1)), ((a0_sheets_e 2), oB 5 [.ref (a0_sheets_e_items 2), .int (va0_sheets_e_lane 2), .int (va0_sheets_e_length 2)]), ((a0_sheets_e_items 2), aJ E 24 (va0_sheets_e_items 2)), ((a0_sheets_e 3), oB 5 [.ref (a0_sheets_e_items 3), .int (va0_sheets_e_lane 3), .int (va0_sheets_e_length 3)]), ((a0_sheets_e_items 3), aJ E 24 (va0_sheets_e_items 3))]) := by
  refine Ct.of rfl (Nat.le_of_ble_eq_true rfl) (fun K hL k r hin => ?_)
  subst hL
  unfold fX7_felt at hf
  show G E K 9 0 0 [(0, .ref a0), (1, .int x1), (2, .int x2), (3, .int x3), (4, .int x4), (5, .int x5)] [] [(a0, oB 7 [.ref a0_canal, .ref a0_history, .ref a0_imageCanal, .ref a0_imageHistory, .int va0_hasImage, .ref a0_tape, .ref a0_foreteller, .ref a0_search, .ref a0_sheets]), (a0_canal, oB 0 [.ref a0_canal_kind, .ref a0_canal_weight, .ref a0_canal_now, .int va0_canal_cells, .int va0_canal_people, .int va0_canal_sayings, .int va0_canal_frost]), (a0_canal_kind, aI E 6 va0_canal_kind), (a0_canal_weight, aI E 6 va0_canal_weight), (a0_canal_now, oB 3 [.ref a0_canal_now_ice, .ref a0_canal_now_juice, .ref a0_canal_now_fors, .int va0_canal_now_boat, .int va0_canal_now_minute, .int va0_canal_now_draw]), (a0_canal_now_juice, aI E 5 va0_canal_now_juice), (a0_sheets, aS E 4 (fun j => some (a0_sheets_e j))), ((a0_sheets_e 0), oB 5 [.ref (a0_sheets_e_items 0), .int (va0_sheets_e_lane 0), .int (va0_sheets_e_length 0)]), ((a0_sheets_e_items 0), aJ E 24 (va0_sheets_e_items 0)), ((a0_sheets_e 1), oB 5 [.ref (a0_sheets_e_items 1), .int (va0_sheets_e_lane 1), .int (va0_sheets_e_length 1)]), ((a0_sheets_e_items 1), aJ E 24 (va0_sheets_e_items 1)), ((a0_sheets_e 2), oB 5 [.ref (a0_sheets_e_items 2), .int (va0_sheets_e_lane 2), .int (va0_sheets_e_length 2)]), ((a0_sheets_e_items 2), aJ E 24 (va0_sheets_e_items 2)), ((a0_sheets_e 3), oB 5 [.ref (a0_sheets_e_items 3), .int (va0_sheets_e_lane 3), .int (va0_sheets_e_length 3)]), ((a0_sheets_e_items 3), aJ E 24 (va0_sheets_e_items 3))] 0
  refine g_iload_n k 1 dX7_felt_0 rfl rfl ?_
  obtain ⟨o1, ho2, hf⟩ := bnd_some hf
  refine g_cs k miX7_isSheet msX7_isSheet (ctX7_isSheet (kL K) E N   x1 o1 ho2) [] (ws' := [(a0, oB 7 [.ref a0_canal, .ref a0_history, .ref a0_imageCanal, .ref a0_imageHistory, .int va0_hasImage, .ref a0_tape, .ref a0_foreteller, .ref a0_search, .ref a0_sheets]), (a0_canal, oB 0 [.ref a0_canal_kind, .ref a0_canal_weight, .ref a0_canal_now, .int va0_canal_cells, .int va0_canal_people, .int va0_canal_sayings, .int va0_canal_frost]), (a0_canal_kind, aI E 6 va0_canal_kind), (a0_canal_weight, aI E 6 va0_canal_weight), (a0_canal_now, oB 3 [.ref a0_canal_now_ice, .ref a0_canal_now_juice, .ref a0_canal_now_fors, .int va0_canal_now_boat, .int va0_canal_now_minute, .int va0_canal_now_draw]), (a0_canal_now_juice, aI E 5 va0_canal_now_juice), (a0_sheets, aS E 4 (fun j => some (a0_sheets_e j))), ((a0_sheets_e 0), oB 5 [.ref (a0_sheets_e_items 0), .int (va0_sheets_e_lane 0), .int (va0_sheets_e_length 0)]), ((a0_sheets_e_items 0), aJ E 24 (va0_sheets_e_items 0)), ((a0_sheets_e 1), oB 5 [.ref (a0_sheets_e_items 1), .int (va0_sheets_e_lane 1), .int (va0_sheets_e_length 1)]), ((a0_sheets_e_items 1), aJ E 24 (va0_sheets_e_items 1)), ((a0_sheets_e 2), oB 5 [.ref (a0_sheets_e_items 2), .int (va0_sheets_e_lane 2), .int (va0_sheets_e_length 2)]), ((a0_sheets_e_items 2), aJ E 24 (va0_sheets_e_items 2)), ((a0_sheets_e 3), oB 5 [.ref (a0_sheets_e_items 3), .int (va0_sheets_e_lane 3), .int (va0_sheets_e_length 3)]), ((a0_sheets_e_items 3), aJ E 24 (va0_sheets_e_items 3))]) dX7_felt_1 lkX7_266 rfl ⟨rfl, rfl⟩ ⟨by decide, by decide⟩ rfl rfl rfl (Nat.le_of_ble_eq_true rfl) rfl rfl rfl ?_
  refine g_st (st' := [.int o1]) rfl ?_
  refine g_if_eq k (tgt := 34) dX7_felt_4 (by decide) (fun c3 => ?_) (fun c3 => ?_)
  · replace hf := ite_t c3 hf
    refine g_iconst k dX7_felt_34 ic_m1 ?_
    obtain rfl := Option.some.inj hf
    exact g_iret k r dX7_felt_35 ⟨rfl, rfl⟩
  · replace hf := ite_f c3 hf
    refine g_iload_n k 2 dX7_felt_7 rfl rfl ?_
    obtain ⟨o4, ho5, hf⟩ := bnd_some hf
    refine g_cs k miX7_isLane msX7_isLane (ctX7_isLane (kL K) E N   x2 o4 ho5) [] (ws' := [(a0, oB 7 [.ref a0_canal, .ref a0_history, .ref a0_imageCanal, .ref a0_imageHistory, .int va0_hasImage, .ref a0_tape, .ref a0_foreteller, .ref a0_search, .ref a0_sheets]), (a0_canal, oB 0 [.ref a0_canal_kind, .ref a0_canal_weight, .ref a0_canal_now, .int va0_canal_cells, .int va0_canal_people, .int va0_canal_sayings, .int va0_canal_frost]), (a0_canal_kind, aI E 6 va0_canal_kind), (a0_canal_weight, aI E 6 va0_canal_weight), (a0_canal_now, oB 3 [.ref a0_canal_now_ice, .ref a0_canal_now_juice, .ref a0_canal_now_fors, .int va0_canal_now_boat, .int va0_canal_now_minute, .int va0_canal_now_draw]), (a0_canal_now_juice, aI E 5 va0_canal_now_juice), (a0_sheets, aS E 4 (fun j => some (a0_sheets_e j))), ((a0_sheets_e 0), oB 5 [.ref (a0_sheets_e_items 0), .int (va0_sheets_e_lane 0), .int (va0_sheets_e_length 0)]), ((a0_sheets_e_items 0), aJ E 24 (va0_sheets_e_items 0)), ((a0_sheets_e 1), oB 5 [.ref (a0_sheets_e_items 1), .int (va0_sheets_e_lane 1), .int (va0_sheets_e_length 1)]), ((a0_sheets_e_items 1), aJ E 24 (va0_sheets_e_items 1)), ((a0_sheets_e 2), oB 5 [.ref (a0_sheets_e_items 2), .int (va0_sheets_e_lane 2), .int (va0_sheets_e_length 2)]), ((a0_sheets_e_items 2), aJ E 24 (va0_sheets_e_items 2)), ((a0_sheets_e 3), oB 5 [.ref (a0_sheets_e_items 3), .int (va0_sheets_e_lane 3), .int (va0_sheets_e_length 3)]), ((a0_sheets_e_items 3), aJ E 24 (va0_sheets_e_items 3))]) dX7_felt_8 lkX7_269 rfl ⟨rfl, rfl⟩ ⟨by decide, by decide⟩ rfl rfl rfl (Nat.le_of_ble_eq_true rfl) rfl rfl rfl ?_
    refine g_st (st' := [.int o4]) rfl ?_
    refine g_if_eq k (tgt := 34) dX7_felt_11 (by decide) (fun c6 => ?_) (fun c6 => ?_)
    · replace hf := ite_t c6 hf
      refine g_iconst k dX7_felt_34 ic_m1 ?_
      obtain rfl := Option.some.inj hf
      exact g_iret k r dX7_felt_35 ⟨rfl, rfl⟩
    · replace hf := ite_f c6 hf
      refine g_iload k 4 dX7_felt_14 rfl ?_
      refine g_iconst k dX7_felt_16 ic_1 ?_
      refine g_iconst k dX7_felt_17 ic_5 ?_
      obtain ⟨o7, ho8, hf⟩ := bnd_some hf
      refine g_cs k miX7_within msX7_within (ctX7_within (kL K) E N   x4 1 5 o7 ho8) [] (ws' := [(a0, oB 7 [.ref a0_canal, .ref a0_history, .ref a0_imageCanal, .ref a0_imageHistory, .int va0_hasImage, .ref a0_tape, .ref a0_foreteller, .ref a0_search, .ref a0_sheets]), (a0_canal, oB 0 [.ref a0_canal_kind, .ref a0_canal_weight, .ref a0_canal_now, .int va0_canal_cells, .int va0_canal_people, .int va0_canal_sayings, .int va0_canal_frost]), (a0_canal_kind, aI E 6 va0_canal_kind), (a0_canal_weight, aI E 6 va0_canal_weight), (a0_canal_now, oB 3 [.ref a0_canal_now_ice, .ref a0_canal_now_juice, .ref a0_canal_now_fors, .int va0_canal_now_boat, .int va0_canal_now_minute, .int va0_canal_now_draw]), (a0_canal_now_juice, aI E 5 va0_canal_now_juice), (a0_sheets, aS E 4 (fun j => some (a0_sheets_e j))), ((a0_sheets_e 0), oB 5 [.ref (a0_sheets_e_items 0), .int (va0_sheets_e_lane 0), .int (va0_sheets_e_length 0)]), ((a0_sheets_e_items 0), aJ E 24 (va0_sheets_e_items 0)), ((a0_sheets_e 1), oB 5 [.ref (a0_sheets_e_items 1), .int (va0_sheets_e_lane 1), .int (va0_sheets_e_length 1)]), ((a0_sheets_e_items 1), aJ E 24 (va0_sheets_e_items 1)), ((a0_sheets_e 2), oB 5 [.ref (a0_sheets_e_items 2), .int (va0_sheets_e_lane 2), .int (va0_sheets_e_length 2)]), ((a0_sheets_e_items 2), aJ E 24 (va0_sheets_e_items 2)), ((a0_sheets_e 3), oB 5 [.ref (a0_sheets_e_items 3), .int (va0_sheets_e_lane 3), .int (va0_sheets_e_length 3)]), ((a0_sheets_e_items 3), aJ E 24 (va0_sheets_e_items 3))]) dX7_felt_18 lkX7_61 rfl ⟨rfl, rfl⟩ ⟨by decide, by decide⟩ rfl rfl rfl (Nat.le_of_ble_eq_true rfl) rfl rfl rfl ?_
      refine g_st (st' := [.int o7]) rfl ?_
      refine g_if_eq k (tgt := 34) dX7_felt_21 (by decide) (fun c9 => ?_) (fun c9 => ?_)
      · replace hf := ite_t c9 hf
        refine g_iconst k dX7_felt_34 ic_m1 ?_
        obtain rfl := Option.some.inj hf
        exact g_iret k r dX7_felt_35 ⟨rfl, rfl⟩
      · replace hf := ite_f c9 hf
        refine g_iload k 5 dX7_felt_24 rfl ?_
        refine g_iconst k dX7_felt_26 ic_0 ?_
        refine g_iconst k dX7_felt_27 ic_1 ?_
        obtain ⟨o10, ho11, hf⟩ := bnd_some hf
        refine g_cs k miX7_within msX7_within (ctX7_within (kL K) E N   x5 0 1 o10 ho11) [] (ws' := [(a0, oB 7 [.ref a0_canal, .ref a0_history, .ref a0_imageCanal, .ref a0_imageHistory, .int va0_hasImage, .ref a0_tape, .ref a0_foreteller, .ref a0_search, .ref a0_sheets]), (a0_canal, oB 0 [.ref a0_canal_kind, .ref a0_canal_weight, .ref a0_canal_now, .int va0_canal_cells, .int va0_canal_people, .int va0_canal_sayings, .int va0_canal_frost]), (a0_canal_kind, aI E 6 va0_canal_kind), (a0_canal_weight, aI E 6 va0_canal_weight), (a0_canal_now, oB 3 [.ref a0_canal_now_ice, .ref a0_canal_now_juice, .ref a0_canal_now_fors, .int va0_canal_now_boat, .int va0_canal_now_minute, .int va0_canal_now_draw]), (a0_canal_now_juice, aI E 5 va0_canal_now_juice), (a0_sheets, aS E 4 (fun j => some (a0_sheets_e j))), ((a0_sheets_e 0), oB 5 [.ref (a0_sheets_e_items 0), .int (va0_sheets_e_lane 0), .int (va0_sheets_e_length 0)]), ((a0_sheets_e_items 0), aJ E 24 (va0_sheets_e_items 0)), ((a0_sheets_e 1), oB 5 [.ref (a0_sheets_e_items 1), .int (va0_sheets_e_lane 1), .int (va0_sheets_e_length 1)]), ((a0_sheets_e_items 1), aJ E 24 (va0_sheets_e_items 1)), ((a0_sheets_e 2), oB 5 [.ref (a0_sheets_e_items 2), .int (va0_sheets_e_lane 2), .int (va0_sheets_e_length 2)]), ((a0_sheets_e_items 2), aJ E 24 (va0_sheets_e_items 2)), ((a0_sheets_e 3), oB 5 [.ref (a0_sheets_e_items 3), .int (va0_sheets_e_lane 3), .int (va0_sheets_e_length 3)]), ((a0_sheets_e_items 3), aJ E 24 (va0_sheets_e_items 3))]) dX7_felt_28 lkX7_61 rfl ⟨rfl, rfl⟩ ⟨by decide, by decide⟩ rfl rfl rfl (Nat.le_of_ble_eq_true rfl) rfl rfl rfl ?_
        refine g_st (st' := [.int o10]) rfl ?_
        refine g_if_ne k (tgt := 36) dX7_felt_31 (by decide) (fun c12 => ?_) (fun c12 => ?_)
        · replace hf := ite_f c12 hf
          refine g_aload_n k 0 dX7_felt_36 rfl rfl ?_
          refine g_get k cfX7 8 0 dX7_felt_37 lkX7_56 (by decide) rfl rfl ?_
          refine g_iload_n k 1 dX7_felt_40 rfl rfl ?_
          obtain ⟨κ13, hκ13, hiκ13, heκ13, hf⟩ := ixb_some hf
          refine g_aaloadS k 6 dX7_felt_41 rfl hiκ13 heκ13 rfl ?_
          refine g_astore k (lv' := [(6, .ref (a0_sheets_e κ13)), (0, .ref a0), (1, .int x1), (2, .int x2), (3, .int x3), (4, .int x4), (5, .int x5)]) dX7_felt_42 (by decide) rfl ?_
          refine g_aload k 0 dX7_felt_44 rfl ?_
          refine g_iload_n k 3 dX7_felt_46 rfl rfl ?_
          refine g_iload_n k 4 dX7_felt_47 rfl rfl ?_
          refine g_iconst k dX7_felt_48 ic_2 ?_
          refine g_iload k 5 dX7_felt_49 rfl ?_
          refine g_imul k dX7_felt_51 ?_
          obtain ⟨o14, ho15, hf⟩ := bnd_some hf
          refine g_cv k miX5_refusal mvX5_refusal (ctX5_refusal (kL K) E N (a0_sheets_e κ13) (a0_sheets_e_items κ13) (va0_sheets_e_lane κ13) (va0_sheets_e_length κ13) x2 x3 (2 * x4) o14 ho15) [(7 + 2 * κ13)] 0 (ws' := [(a0, oB 7 [.ref a0_canal, .ref a0_history, .ref a0_imageCanal, .ref a0_imageHistory, .int va0_hasImage, .ref a0_tape, .ref a0_foreteller, .ref a0_search, .ref a0_sheets]), (a0_canal, oB 0 [.ref a0_canal_kind, .ref a0_canal_weight, .ref a0_canal_now, .int va0_canal_cells, .int va0_canal_people, .int va0_canal_sayings, .int va0_canal_frost]), (a0_canal_kind, aI E 6 va0_canal_kind), (a0_canal_weight, aI E 6 va0_canal_weight), (a0_canal_now, oB 3 [.ref a0_canal_now_ice, .ref a0_canal_now_juice, .ref a0_canal_now_fors, .int va0_canal_now_boat, .int va0_canal_now_minute, .int va0_canal_now_draw]), (a0_canal_now_juice, aI E 5 va0_canal_now_juice), (a0_sheets, aS E 4 (fun j => some (a0_sheets_e j))), ((a0_sheets_e 0), oB 5 [.ref (a0_sheets_e_items 0), .int (va0_sheets_e_lane 0), .int (va0_sheets_e_length 0)]), ((a0_sheets_e_items 0), aJ E 24 (va0_sheets_e_items 0)), ((a0_sheets_e 1), oB 5 [.ref (a0_sheets_e_items 1), .int (va0_sheets_e_lane 1), .int (va0_sheets_e_length 1)]), ((a0_sheets_e_items 1), aJ E 24 (va0_sheets_e_items 1)), ((a0_sheets_e 2), oB 5 [.ref (a0_sheets_e_items 2), .int (va0_sheets_e_lane 2), .int (va0_sheets_e_length 2)]), ((a0_sheets_e_items 2), aJ E 24 (va0_sheets_e_items 2)), ((a0_sheets_e 3), oB 5 [.ref (a0_sheets_e_items 3), .int (va0_sheets_e_lane 3), .int (va0_sheets_e_length 3)]), ((a0_sheets_e_items 3), aJ E 24 (va0_sheets_e_items 3))]) dX7_felt_52 lkX7_272 rfl ⟨rfl, rfl⟩ ⟨by decide, by decide⟩ (by rcases lt4 hκ13 with z|z|z|z <;> subst z <;> rfl) rfl rfl rfl (Nat.le_of_ble_eq_true rfl) (by rcases lt4 hκ13 with z|z|z|z <;> subst z <;> rfl) rfl (by rcases lt4 hκ13 with z|z|z|z <;> subst z <;> rfl) ?_
          refine g_st (st' := [.int o14]) rfl ?_
          refine g_istore k (lv' := [(7, .int o14), (6, .ref (a0_sheets_e κ13)), (0, .ref a0), (1, .int x1), (2, .int x2), (3, .int x3), (4, .int x4), (5, .int x5)]) dX7_felt_55 (by decide) rfl ?_
          refine g_iload k 0 dX7_felt_57 rfl ?_
          refine g_if_eq k (tgt := 65) dX7_felt_59 (by decide) (fun c16 => ?_) (fun c16 => ?_)
          · replace hf := ite_t c16 hf
            refine g_iconst k dX7_felt_65 ic_0 ?_
            refine g_istore k (lv' := [(8, .int 0), (7, .int o14), (6, .ref (a0_sheets_e κ13)), (0, .ref a0), (1, .int x1), (2, .int x2), (3, .int x3), (4, .int x4), (5, .int x5)]) dX7_felt_66 (by decide) rfl ?_
            obtain ⟨o22, ho23, hf⟩ := bnd_some hf
            refine g_lv [3, 4, 5, 6, 7, 8, 2, 1, 0] (lv' := [(0, .ref a0), (1, .int x1), (2, .int x2), (3, .int x3), (4, .int x4), (5, .int x5), (6, .ref (a0_sheets_e κ13)), (7, .int o14), (8, .int 0)]) rfl ?_
            refine wX7_felt_L68 k N a0 a0_canal a0_history a0_imageCanal a0_imageHistory a0_tape a0_foreteller a0_search a0_sheets a0_canal_kind a0_canal_weight a0_canal_now a0_canal_now_ice a0_canal_now_juice a0_canal_now_fors a0_sheets_e a0_sheets_e_items κ13 hκ13 x1 x2 x3 x4 x5 o14 va0_canal_sayings va0_sheets_e_items va0_hasImage va0_canal_cells va0_canal_people va0_canal_frost va0_canal_kind va0_canal_weight va0_canal_now_boat va0_canal_now_minute va0_canal_now_draw va0_canal_now_juice va0_sheets_e_lane va0_sheets_e_length r N 0 o22 ho23 (fun w e => by subst e; exact Option.some.inj hf) (fun v24 e => ?_)
            subst e
            replace hf := lret_r hf
            refine g_iload k 5 dX7_felt_103 rfl ?_
            refine g_if_ne k (tgt := 120) dX7_felt_105 (by decide) (fun c25 => ?_) (fun c25 => ?_)
            · replace hf := ite_f c25 hf
              refine g_aload_n k 0 dX7_felt_120 rfl rfl ?_
              refine g_aload k 6 dX7_felt_121 rfl ?_
              refine g_iload_n k 3 dX7_felt_123 rfl rfl ?_
              refine g_iload k 4 dX7_felt_124 rfl ?_
              obtain ⟨o26, ho27, hf⟩ := bnd_some hf
              refine g_cv k miX7_leastFelt mvX7_leastFelt (ctX7_leastFelt (kL K) E N a0 a0_canal a0_history a0_imageCanal a0_imageHistory a0_tape a0_foreteller a0_search a0_sheets a0_canal_kind a0_canal_weight a0_canal_now a0_canal_now_ice a0_canal_now_juice a0_canal_now_fors (a0_sheets_e κ13) (a0_sheets_e_items κ13) va0_hasImage va0_canal_cells va0_canal_people va0_canal_sayings va0_canal_frost va0_canal_kind va0_canal_weight va0_canal_now_boat va0_canal_now_minute va0_canal_now_draw va0_canal_now_juice (va0_sheets_e_lane κ13) (va0_sheets_e_length κ13) (va0_sheets_e_items κ13) x3 x4 o26 ho27) [0, 1, 2, 3, 4, 5, (7 + 2 * κ13), (8 + 2 * κ13)] 0 (ws' := [(a0, oB 7 [.ref a0_canal, .ref a0_history, .ref a0_imageCanal, .ref a0_imageHistory, .int va0_hasImage, .ref a0_tape, .ref a0_foreteller, .ref a0_search, .ref a0_sheets]), (a0_canal, oB 0 [.ref a0_canal_kind, .ref a0_canal_weight, .ref a0_canal_now, .int va0_canal_cells, .int va0_canal_people, .int va0_canal_sayings, .int va0_canal_frost]), (a0_canal_kind, aI E 6 va0_canal_kind), (a0_canal_weight, aI E 6 va0_canal_weight), (a0_canal_now, oB 3 [.ref a0_canal_now_ice, .ref a0_canal_now_juice, .ref a0_canal_now_fors, .int va0_canal_now_boat, .int va0_canal_now_minute, .int va0_canal_now_draw]), (a0_canal_now_juice, aI E 5 va0_canal_now_juice), (a0_sheets, aS E 4 (fun j => some (a0_sheets_e j))), ((a0_sheets_e 0), oB 5 [.ref (a0_sheets_e_items 0), .int (va0_sheets_e_lane 0), .int (va0_sheets_e_length 0)]), ((a0_sheets_e_items 0), aJ E 24 (va0_sheets_e_items 0)), ((a0_sheets_e 1), oB 5 [.ref (a0_sheets_e_items 1), .int (va0_sheets_e_lane 1), .int (va0_sheets_e_length 1)]), ((a0_sheets_e_items 1), aJ E 24 (va0_sheets_e_items 1)), ((a0_sheets_e 2), oB 5 [.ref (a0_sheets_e_items 2), .int (va0_sheets_e_lane 2), .int (va0_sheets_e_length 2)]), ((a0_sheets_e_items 2), aJ E 24 (va0_sheets_e_items 2)), ((a0_sheets_e 3), oB 5 [.ref (a0_sheets_e_items 3), .int (va0_sheets_e_lane 3), .int (va0_sheets_e_length 3)]), ((a0_sheets_e_items 3), aJ E 24 (va0_sheets_e_items 3))]) dX7_felt_126 lkX7_288 rfl ⟨rfl, rfl⟩ ⟨by decide, by decide⟩ (by rcases lt4 hκ13 with z|z|z|z <;> subst z <;> rfl) rfl rfl rfl (Nat.le_of_ble_eq_true rfl) (by rcases lt4 hκ13 with z|z|z|z <;> subst z <;> rfl) rfl (by rcases lt4 hκ13 with z|z|z|z <;> subst z <;> rfl) ?_
              refine g_st (st' := [.int o26]) rfl ?_
              obtain rfl := Option.some.inj hf
              exact g_iret k r dX7_felt_129 ⟨rfl, rfl⟩
            · replace hf := ite_t c25 hf
              refine g_aload_n k 0 dX7_felt_108 rfl rfl ?_
              refine g_aload k 6 dX7_felt_109 rfl ?_
              refine g_iload_n k 3 dX7_felt_111 rfl rfl ?_
              refine g_iload k 4 dX7_felt_112 rfl ?_
              obtain ⟨o28, ho29, hf⟩ := bnd_some hf
              refine g_cv k miX7_countFelt mvX7_countFelt (ctX7_countFelt (kL K) E N a0 a0_canal a0_history a0_imageCanal a0_imageHistory a0_tape a0_foreteller a0_search a0_sheets a0_canal_kind a0_canal_weight a0_canal_now a0_canal_now_ice a0_canal_now_juice a0_canal_now_fors (a0_sheets_e κ13) (a0_sheets_e_items κ13) va0_hasImage va0_canal_cells va0_canal_people va0_canal_sayings va0_canal_frost va0_canal_kind va0_canal_weight va0_canal_now_boat va0_canal_now_minute va0_canal_now_draw va0_canal_now_juice (va0_sheets_e_lane κ13) (va0_sheets_e_length κ13) (va0_sheets_e_items κ13) x3 x4 o28 ho29) [0, 1, 2, 3, 4, 5, (7 + 2 * κ13), (8 + 2 * κ13)] 0 (ws' := [(a0, oB 7 [.ref a0_canal, .ref a0_history, .ref a0_imageCanal, .ref a0_imageHistory, .int va0_hasImage, .ref a0_tape, .ref a0_foreteller, .ref a0_search, .ref a0_sheets]), (a0_canal, oB 0 [.ref a0_canal_kind, .ref a0_canal_weight, .ref a0_canal_now, .int va0_canal_cells, .int va0_canal_people, .int va0_canal_sayings, .int va0_canal_frost]), (a0_canal_kind, aI E 6 va0_canal_kind), (a0_canal_weight, aI E 6 va0_canal_weight), (a0_canal_now, oB 3 [.ref a0_canal_now_ice, .ref a0_canal_now_juice, .ref a0_canal_now_fors, .int va0_canal_now_boat, .int va0_canal_now_minute, .int va0_canal_now_draw]), (a0_canal_now_juice, aI E 5 va0_canal_now_juice), (a0_sheets, aS E 4 (fun j => some (a0_sheets_e j))), ((a0_sheets_e 0), oB 5 [.ref (a0_sheets_e_items 0), .int (va0_sheets_e_lane 0), .int (va0_sheets_e_length 0)]), ((a0_sheets_e_items 0), aJ E 24 (va0_sheets_e_items 0)), ((a0_sheets_e 1), oB 5 [.ref (a0_sheets_e_items 1), .int (va0_sheets_e_lane 1), .int (va0_sheets_e_length 1)]), ((a0_sheets_e_items 1), aJ E 24 (va0_sheets_e_items 1)), ((a0_sheets_e 2), oB 5 [.ref (a0_sheets_e_items 2), .int (va0_sheets_e_lane 2), .int (va0_sheets_e_length 2)]), ((a0_sheets_e_items 2), aJ E 24 (va0_sheets_e_items 2)), ((a0_sheets_e 3), oB 5 [.ref (a0_sheets_e_items 3), .int (va0_sheets_e_lane 3), .int (va0_sheets_e_length 3)]), ((a0_sheets_e_items 3), aJ E 24 (va0_sheets_e_items 3))]) dX7_felt_114 lkX7_284 rfl ⟨rfl, rfl⟩ ⟨by decide, by decide⟩ (by rcases lt4 hκ13 with z|z|z|z <;> subst z <;> rfl) rfl rfl rfl (Nat.le_of_ble_eq_true rfl) (by rcases lt4 hκ13 with z|z|z|z <;> subst z <;> rfl) rfl (by rcases lt4 hκ13 with z|z|z|z <;> subst z <;> rfl) ?_
              refine g_st (st' := [.int o28]) rfl ?_
              refine g_goto k (tgt := 129) dX7_felt_117 (by decide) ?_
              obtain rfl := Option.some.inj hf
              exact g_iret k r dX7_felt_129 ⟨rfl, rfl⟩
          · replace hf := ite_f c16 hf
            refine g_iload k 0 dX7_felt_62 rfl ?_
            obtain rfl := Option.some.inj hf
            exact g_iret k r dX7_felt_64 ⟨rfl, rfl⟩
        · replace hf := ite_t c12 hf
          refine g_iconst k dX7_felt_34 ic_m1 ?_
          obtain rfl := Option.some.inj hf
          exact g_iret k r dX7_felt_35 ⟨rfl, rfl⟩
abbrev rmX7_film : Room := { frames := 2, cells := 0, slots := 0, locals := 45 }
def fX7_film_L76 (N : Nat) (κ_6 : Nat) (x1 : Int32) (x2 : Int32) (x3 : Int32) (x4 : Int32) (x5 : Int32) (x7 : Int32) (va0_canal_now_ice : Nat → Int32) (va0_sheets_e_lane : Nat → Int32) : Nat → Int32 → (Nat → Nat → Int64) → Option (Int32 × (Nat → Nat → Int64))
  | 0, _, _ => none
  | n + 1, x8, va0_sheets_e_items =>
    if x2 ≤ x8 then
    some (x8, va0_sheets_e_items)
    else
    ixb (x1 + x8) 12 fun κ18 =>
    bnd (fX5_put N (va0_sheets_e_lane κ_6) (va0_sheets_e_items κ_6) (x5 + x8) ((va0_canal_now_ice κ18).toInt64)) fun o19 =>
    fX7_film_L76 N κ_6 x1 x2 x3 x4 x5 x7 va0_canal_now_ice va0_sheets_e_lane n (x8 + 1) (va_up va0_sheets_e_items κ_6 o19)
set_option maxHeartbeats 4000000 in
set_option maxRecDepth 100000 in
theorem wX7_film_L76 {E : Ev} {K : KX} (k : OKX E K cX7_film RX7 9 rmX7_film) (N : Nat) (a0 : Nat) (a0_canal : Nat) (a0_history : Nat) (a0_imageCanal : Nat) (a0_imageHistory : Nat) (a0_tape : Nat) (a0_foreteller : Nat) (a0_search : Nat) (a0_sheets : Nat) (a0_canal_kind : Nat) (a0_canal_weight : Nat) (a0_canal_now : Nat) (a0_canal_now_ice : Nat) (a0_canal_now_juice : Nat) (a0_canal_now_fors : Nat) (a0_sheets_e : Nat → Nat) (a0_sheets_e_items : Nat → Nat) (κ_6 : Nat) (hκ_6 : κ_6 < 4) (x1 : Int32) (x2 : Int32) (x3 : Int32) (x4 : Int32) (x5 : Int32) (x7 : Int32) (va0_canal_now_ice : Nat → Int32) (va0_sheets_e_lane : Nat → Int32) (va0_hasImage : Int32) (va0_canal_cells : Int32) (va0_canal_people : Int32) (va0_canal_sayings : Int32) (va0_canal_frost : Int32) (va0_canal_now_boat : Int32) (va0_canal_now_minute : Int32) (va0_canal_now_draw : Int32) (va0_sheets_e_length : Nat → Int32) : ∀ (n : Nat) (x8 : Int32) (va0_sheets_e_items : Nat → Nat → Int64) (o : Int32 × (Nat → Nat → Int64)), fX7_film_L76 N κ_6 x1 x2 x3 x4 x5 x7 va0_canal_now_ice va0_sheets_e_lane n x8 va0_sheets_e_items = some o → G E K 9 0 0 [(0, .ref a0), (1, .int x1), (2, .int x2), (3, .int x3), (4, .int x4), (5, .int x5), (6, .ref (a0_sheets_e κ_6)), (7, .int x7), (8, .int o.1)] [] [(a0, oB 7 [.ref a0_canal, .ref a0_history, .ref a0_imageCanal, .ref a0_imageHistory, .int va0_hasImage, .ref a0_tape, .ref a0_foreteller, .ref a0_search, .ref a0_sheets]), (a0_canal, oB 0 [.ref a0_canal_kind, .ref a0_canal_weight, .ref a0_canal_now, .int va0_canal_cells, .int va0_canal_people, .int va0_canal_sayings, .int va0_canal_frost]), (a0_canal_now, oB 3 [.ref a0_canal_now_ice, .ref a0_canal_now_juice, .ref a0_canal_now_fors, .int va0_canal_now_boat, .int va0_canal_now_minute, .int va0_canal_now_draw]), (a0_canal_now_ice, aI E 12 va0_canal_now_ice), (a0_sheets, aS E 4 (fun j => some (a0_sheets_e j))), ((a0_sheets_e 0), oB 5 [.ref (a0_sheets_e_items 0), .int (va0_sheets_e_lane 0), .int (va0_sheets_e_length 0)]), ((a0_sheets_e_items 0), aJ E 24 (o.2 0)), ((a0_sheets_e 1), oB 5 [.ref (a0_sheets_e_items 1), .int (va0_sheets_e_lane 1), .int (va0_sheets_e_length 1)]), ((a0_sheets_e_items 1), aJ E 24 (o.2 1)), ((a0_sheets_e 2), oB 5 [.ref (a0_sheets_e_items 2), .int (va0_sheets_e_lane 2), .int (va0_sheets_e_length 2)]), ((a0_sheets_e_items 2), aJ E 24 (o.2 2)), ((a0_sheets_e 3), oB 5 [.ref (a0_sheets_e_items 3), .int (va0_sheets_e_lane 3), .int (va0_sheets_e_length 3)]), ((a0_sheets_e_items 3), aJ E 24 (o.2 3))] 114 → G E K 9 0 0 [(0, .ref a0), (1, .int x1), (2, .int x2), (3, .int x3), (4, .int x4), (5, .int x5), (6, .ref (a0_sheets_e κ_6)), (7, .int x7), (8, .int x8)] [] [(a0, oB 7 [.ref a0_canal, .ref a0_history, .ref a0_imageCanal, .ref a0_imageHistory, .int va0_hasImage, .ref a0_tape, .ref a0_foreteller, .ref a0_search, .ref a0_sheets]), (a0_canal, oB 0 [.ref a0_canal_kind, .ref a0_canal_weight, .ref a0_canal_now, .int va0_canal_cells, .int va0_canal_people, .int va0_canal_sayings, .int va0_canal_frost]), (a0_canal_now, oB 3 [.ref a0_canal_now_ice, .ref a0_canal_now_juice, .ref a0_canal_now_fors, .int va0_canal_now_boat, .int va0_canal_now_minute, .int va0_canal_now_draw]), (a0_canal_now_ice, aI E 12 va0_canal_now_ice), (a0_sheets, aS E 4 (fun j => some (a0_sheets_e j))), ((a0_sheets_e 0), oB 5 [.ref (a0_sheets_e_items 0), .int (va0_sheets_e_lane 0), .int (va0_sheets_e_length 0)]), ((a0_sheets_e_items 0), aJ E 24 (va0_sheets_e_items 0)), ((a0_sheets_e 1), oB 5 [.ref (a0_sheets_e_items 1), .int (va0_sheets_e_lane 1), .int (va0_sheets_e_length 1)]), ((a0_sheets_e_items 1), aJ E 24 (va0_sheets_e_items 1)), ((a0_sheets_e 2), oB 5 [.ref (a0_sheets_e_items 2), .int (va0_sheets_e_lane 2), .int (va0_sheets_e_length 2)]), ((a0_sheets_e_items 2), aJ E 24 (va0_sheets_e_items 2)), ((a0_sheets_e 3), oB 5 [.ref (a0_sheets_e_items 3), .int (va0_sheets_e_lane 3), .int (va0_sheets_e_length 3)]), ((a0_sheets_e_items 3), aJ E 24 (va0_sheets_e_items 3))] 76 := by
  intro n
  induction n with
  | zero => intro x8 va0_sheets_e_items o hf; cases hf
  | succ n ih =>
    intro x8 va0_sheets_e_items o hf hG
    rw [fX7_film_L76] at hf
    refine g_iload k 8 dX7_film_76 rfl ?_
    refine g_iload_n k 2 dX7_film_78 rfl rfl ?_
    refine g_icmp_ge k (tgt := 114) dX7_film_79 (by decide) (fun c17 => ?_) (fun c17 => ?_)
    · replace hf := ite_t c17 hf
      refine g_lv [0, 1, 2, 3, 4, 5, 6, 7, 8] rfl ?_
      obtain rfl := Option.some.inj hf
      exact hG
    · replace hf := ite_f c17 hf
      refine g_aload k 6 dX7_film_82 rfl ?_
      refine g_iload k 5 dX7_film_84 rfl ?_
      refine g_iload k 8 dX7_film_86 rfl ?_
      refine g_iadd k dX7_film_88 ?_
      refine g_aload_n k 0 dX7_film_89 rfl rfl ?_
      refine g_get k cfX7 0 0 dX7_film_90 lkX7_10 (by decide) rfl rfl ?_
      refine g_get k cfX0 2 1 dX7_film_93 lkX7_97 (by decide) rfl rfl ?_
      refine g_get k cfX3 0 2 dX7_film_96 lkX7_101 (by decide) rfl rfl ?_
      refine g_iload_n k 1 dX7_film_99 rfl rfl ?_
      refine g_iload k 8 dX7_film_100 rfl ?_
      refine g_iadd k dX7_film_102 ?_
      obtain ⟨κ18, hκ18, hiκ18, heκ18, hf⟩ := ixb_some hf
      refine g_iaload k 3 dX7_film_103 rfl hiκ18 heκ18 ?_
      refine g_i2l k dX7_film_104 ?_
      obtain ⟨o19, ho20, hf⟩ := bnd_some hf
      refine g_cv k miX5_put mvX5_put (ctX5_put (kL K) E N (a0_sheets_e κ_6) (a0_sheets_e_items κ_6) (va0_sheets_e_lane κ_6) (va0_sheets_e_length κ_6) (va0_sheets_e_items κ_6) (x5 + x8) ((va0_canal_now_ice κ18).toInt64) o19 ho20) [(5 + 2 * κ_6), (6 + 2 * κ_6)] 0 (ws' := [(a0, oB 7 [.ref a0_canal, .ref a0_history, .ref a0_imageCanal, .ref a0_imageHistory, .int va0_hasImage, .ref a0_tape, .ref a0_foreteller, .ref a0_search, .ref a0_sheets]), (a0_canal, oB 0 [.ref a0_canal_kind, .ref a0_canal_weight, .ref a0_canal_now, .int va0_canal_cells, .int va0_canal_people, .int va0_canal_sayings, .int va0_canal_frost]), (a0_canal_now, oB 3 [.ref a0_canal_now_ice, .ref a0_canal_now_juice, .ref a0_canal_now_fors, .int va0_canal_now_boat, .int va0_canal_now_minute, .int va0_canal_now_draw]), (a0_canal_now_ice, aI E 12 va0_canal_now_ice), (a0_sheets, aS E 4 (fun j => some (a0_sheets_e j))), ((a0_sheets_e 0), oB 5 [.ref (a0_sheets_e_items 0), .int (va0_sheets_e_lane 0), .int (va0_sheets_e_length 0)]), ((a0_sheets_e_items 0), aJ E 24 ((va_up va0_sheets_e_items κ_6 o19) 0)), ((a0_sheets_e 1), oB 5 [.ref (a0_sheets_e_items 1), .int (va0_sheets_e_lane 1), .int (va0_sheets_e_length 1)]), ((a0_sheets_e_items 1), aJ E 24 ((va_up va0_sheets_e_items κ_6 o19) 1)), ((a0_sheets_e 2), oB 5 [.ref (a0_sheets_e_items 2), .int (va0_sheets_e_lane 2), .int (va0_sheets_e_length 2)]), ((a0_sheets_e_items 2), aJ E 24 ((va_up va0_sheets_e_items κ_6 o19) 2)), ((a0_sheets_e 3), oB 5 [.ref (a0_sheets_e_items 3), .int (va0_sheets_e_lane 3), .int (va0_sheets_e_length 3)]), ((a0_sheets_e_items 3), aJ E 24 ((va_up va0_sheets_e_items κ_6 o19) 3))]) dX7_film_105 lkX7_291 rfl ⟨rfl, rfl⟩ ⟨by decide, by decide⟩ (by rcases lt4 hκ_6 with z|z|z|z <;> subst z <;> rfl) rfl rfl rfl (Nat.le_of_ble_eq_true rfl) (by rcases lt4 hκ_6 with z|z|z|z <;> subst z <;> rfl) rfl (by rcases lt4 hκ_6 with z|z|z|z <;> subst z <;> rfl) ?_
      refine g_st (st' := []) rfl ?_
      refine g_iinc k (lv' := [(8, .int (x8 + 1)), (0, .ref a0), (1, .int x1), (2, .int x2), (3, .int x3), (4, .int x4), (5, .int x5), (6, .ref (a0_sheets_e κ_6)), (7, .int x7)]) 8 dX7_film_108 rfl (ii_1 _) (by decide) rfl ?_
      refine g_goto k (tgt := 76) dX7_film_111 (by decide) ?_
      refine g_lv [1, 2, 3, 4, 5, 6, 7, 8, 0] rfl ?_
      exact ih (x8 + 1) (va_up va0_sheets_e_items κ_6 o19) o hf hG
def fX7_film (N : Nat) (va0_canal_cells : Int32) (va0_canal_now_ice : Nat → Int32) (va0_sheets_e_lane : Nat → Int32) (va0_sheets_e_length : Nat → Int32) (va0_sheets_e_items : Nat → Nat → Int64) (x1 : Int32) (x2 : Int32) (x3 : Int32) (x4 : Int32) (x5 : Int32) : Option (Int32 × (Nat → Nat → Int64)) :=
  bnd (fX0_hasCell N va0_canal_cells x1) fun o1 =>
  if o1 = 0 then
  some ((-1), va0_sheets_e_items)
  else
  bnd (fX7_within N x2 1 (va0_canal_cells - x1)) fun o4 =>
  if o4 = 0 then
  some ((-1), va0_sheets_e_items)
  else
  bnd (fX7_isSheet N x3) fun o7 =>
  if o7 = 0 then
  some ((-1), va0_sheets_e_items)
  else
  bnd (fX7_isLane N x4) fun o10 =>
  if o10 = 0 then
  some ((-1), va0_sheets_e_items)
  else
  ixb x3 4 fun κ13 =>
  bnd (fX5_refusal N (va0_sheets_e_lane κ13) (va0_sheets_e_length κ13) x4 x5 x2) fun o14 =>
  if o14 = 0 then
  bnd (fX7_film_L76 N κ13 x1 x2 x3 x4 x5 o14 va0_canal_now_ice va0_sheets_e_lane N 0 va0_sheets_e_items) fun o21 =>
  some (x2, o21.2)
  else
  some (o14, va0_sheets_e_items)
set_option maxHeartbeats 4000000 in
set_option maxRecDepth 100000 in
theorem ctX7_film (l : Launch) (E : Ev) (N : Nat) (a0 : Nat) (a0_canal : Nat) (a0_history : Nat) (a0_imageCanal : Nat) (a0_imageHistory : Nat) (a0_tape : Nat) (a0_foreteller : Nat) (a0_search : Nat) (a0_sheets : Nat) (a0_canal_kind : Nat) (a0_canal_weight : Nat) (a0_canal_now : Nat) (a0_canal_now_ice : Nat) (a0_canal_now_juice : Nat) (a0_canal_now_fors : Nat) (a0_sheets_e : Nat → Nat) (a0_sheets_e_items : Nat → Nat) (va0_hasImage : Int32) (va0_canal_cells : Int32) (va0_canal_people : Int32) (va0_canal_sayings : Int32) (va0_canal_frost : Int32) (va0_canal_now_boat : Int32) (va0_canal_now_minute : Int32) (va0_canal_now_draw : Int32) (va0_canal_now_ice : Nat → Int32) (va0_sheets_e_lane : Nat → Int32) (va0_sheets_e_length : Nat → Int32) (va0_sheets_e_items : Nat → Nat → Int64) (x1 : Int32) (x2 : Int32) (x3 : Int32) (x4 : Int32) (x5 : Int32) (out : Int32 × (Nat → Nat → Int64)) (hf : fX7_film N va0_canal_cells va0_canal_now_ice va0_sheets_e_lane va0_sheets_e_length va0_sheets_e_items x1 x2 x3 x4 x5 = some out) : Ct l E yX7_film cX7_film 9 (some .int) rmX7_film [.ref a0, .int x1, .int x2, .int x3, .int x4, .int x5] [(a0, oB 7 [.ref a0_canal, .ref a0_history, .ref a0_imageCanal, .ref a0_imageHistory, .int va0_hasImage, .ref a0_tape, .ref a0_foreteller, .ref a0_search, .ref a0_sheets]), (a0_canal, oB 0 [.ref a0_canal_kind, .ref a0_canal_weight, .ref a0_canal_now, .int va0_canal_cells, .int va0_canal_people, .int va0_canal_sayings, .int va0_canal_frost]), (a0_canal_now, oB 3 [.ref a0_canal_now_ice, .ref a0_canal_now_juice, .ref a0_canal_now_fors, .int va0_canal_now_boat, .int va0_canal_now_minute, .int va0_canal_now_draw]), (a0_canal_now_ice, aI E 12 va0_canal_now_ice), (a0_sheets, aS E 4 (fun j => some (a0_sheets_e j))), ((a0_sheets_e 0), oB 5 [.ref (a0_sheets_e_items 0), .int (va0_sheets_e_lane 0), .int (va0_sheets_e_length 0)]), ((a0_sheets_e_items 0), aJ E 24 (va0_sheets_e_items 0)), ((a0_sheets_e 1), oB 5 [.ref (a0_sheets_e_items 1), .int (va0_sheets_e_lane 1), .int (va0_sheets_e_length 1)]), ((a0_sheets_e_items 1), aJ E 24 (va0_sheets_e_items 1)), ((a0_sheets_e 2), oB 5 [.ref (a0_sheets_e_items 2), .int (va0_sheets_e_lane 2), .int (va0_sheets_e_length 2)]), ((a0_sheets_e_items 2), aJ E 24 (va0_sheets_e_items 2)), ((a0_sheets_e 3), oB 5 [.ref (a0_sheets_e_items 3), .int (va0_sheets_e_lane 3), .int (va0_sheets_e_length 3)]), ((a0_sheets_e_items 3), aJ E 24 (va0_sheets_e_items 3))] (Pe (some (.int out.1)) [(a0, oB 7 [.ref a0_canal, .ref a0_history, .ref a0_imageCanal, .ref a0_imageHistory, .int va0_hasImage, .ref a0_tape, .ref a0_foreteller, .ref a0_search, .ref a0_sheets]), (a0_canal, oB 0 [.ref a0_canal_kind, .ref a0_canal_weight, .ref a0_canal_now, .int va0_canal_cells, .int va0_canal_people, .int va0_canal_sayings, .int va0_canal_frost]), (a0_canal_now, oB 3 [.ref a0_canal_now_ice, .ref a0_canal_now_juice, .ref a0_canal_now_fors, .int va0_canal_now_boat, .int va0_canal_now_minute, .int va0_canal_now_draw]), (a0_canal_now_ice, aI E 12 va0_canal_now_ice), (a0_sheets, aS E 4 (fun j => some (a0_sheets_e j))), ((a0_sheets_e 0), oB 5 [.ref (a0_sheets_e_items 0), .int (va0_sheets_e_lane 0), .int (va0_sheets_e_length 0)]), ((a0_sheets_e_items 0), aJ E 24 (out.2 0)), ((a0_sheets_e 1), oB 5 [.ref (a0_sheets_e_items 1), .int (va0_sheets_e_lane 1), .int (va0_sheets_e_length 1)]), ((a0_sheets_e_items 1), aJ E 24 (out.2 1)), ((a0_sheets_e 2), oB 5 [.ref (a0_sheets_e_items 2), .int (va0_sheets_e_lane 2), .int (va0_sheets_e_length 2)]), ((a0_sheets_e_items 2), aJ E 24 (out.2 2)), ((a0_sheets_e 3), oB 5 [.ref (a0_sheets_e_items 3), .int (va0_sheets_e_lane 3), .int (va0_sheets_e_length 3)]), ((a0_sheets_e_items 3), aJ E 24 (out.2 3))]) := by
  refine Ct.of rfl (Nat.le_of_ble_eq_true rfl) (fun K hL k r hin => ?_)
  subst hL
  unfold fX7_film at hf
  show G E K 9 0 0 [(0, .ref a0), (1, .int x1), (2, .int x2), (3, .int x3), (4, .int x4), (5, .int x5)] [] [(a0, oB 7 [.ref a0_canal, .ref a0_history, .ref a0_imageCanal, .ref a0_imageHistory, .int va0_hasImage, .ref a0_tape, .ref a0_foreteller, .ref a0_search, .ref a0_sheets]), (a0_canal, oB 0 [.ref a0_canal_kind, .ref a0_canal_weight, .ref a0_canal_now, .int va0_canal_cells, .int va0_canal_people, .int va0_canal_sayings, .int va0_canal_frost]), (a0_canal_now, oB 3 [.ref a0_canal_now_ice, .ref a0_canal_now_juice, .ref a0_canal_now_fors, .int va0_canal_now_boat, .int va0_canal_now_minute, .int va0_canal_now_draw]), (a0_canal_now_ice, aI E 12 va0_canal_now_ice), (a0_sheets, aS E 4 (fun j => some (a0_sheets_e j))), ((a0_sheets_e 0), oB 5 [.ref (a0_sheets_e_items 0), .int (va0_sheets_e_lane 0), .int (va0_sheets_e_length 0)]), ((a0_sheets_e_items 0), aJ E 24 (va0_sheets_e_items 0)), ((a0_sheets_e 1), oB 5 [.ref (a0_sheets_e_items 1), .int (va0_sheets_e_lane 1), .int (va0_sheets_e_length 1)]), ((a0_sheets_e_items 1), aJ E 24 (va0_sheets_e_items 1)), ((a0_sheets_e 2), oB 5 [.ref (a0_sheets_e_items 2), .int (va0_sheets_e_lane 2), .int (va0_sheets_e_length 2)]), ((a0_sheets_e_items 2), aJ E 24 (va0_sheets_e_items 2)), ((a0_sheets_e 3), oB 5 [.ref (a0_sheets_e_items 3), .int (va0_sheets_e_lane 3), .int (va0_sheets_e_length 3)]), ((a0_sheets_e_items 3), aJ E 24 (va0_sheets_e_items 3))] 0
  refine g_aload_n k 0 dX7_film_0 rfl rfl ?_
  refine g_get k cfX7 0 0 dX7_film_1 lkX7_10 (by decide) rfl rfl ?_
  refine g_iload_n k 1 dX7_film_4 rfl rfl ?_
  obtain ⟨o1, ho2, hf⟩ := bnd_some hf
  refine g_cv k miX0_hasCell mvX0_hasCell (ctX0_hasCell (kL K) E N a0_canal a0_canal_kind a0_canal_weight a0_canal_now va0_canal_cells va0_canal_people va0_canal_sayings va0_canal_frost x1 o1 ho2) [1] 0 (ws' := [(a0, oB 7 [.ref a0_canal, .ref a0_history, .ref a0_imageCanal, .ref a0_imageHistory, .int va0_hasImage, .ref a0_tape, .ref a0_foreteller, .ref a0_search, .ref a0_sheets]), (a0_canal, oB 0 [.ref a0_canal_kind, .ref a0_canal_weight, .ref a0_canal_now, .int va0_canal_cells, .int va0_canal_people, .int va0_canal_sayings, .int va0_canal_frost]), (a0_canal_now, oB 3 [.ref a0_canal_now_ice, .ref a0_canal_now_juice, .ref a0_canal_now_fors, .int va0_canal_now_boat, .int va0_canal_now_minute, .int va0_canal_now_draw]), (a0_canal_now_ice, aI E 12 va0_canal_now_ice), (a0_sheets, aS E 4 (fun j => some (a0_sheets_e j))), ((a0_sheets_e 0), oB 5 [.ref (a0_sheets_e_items 0), .int (va0_sheets_e_lane 0), .int (va0_sheets_e_length 0)]), ((a0_sheets_e_items 0), aJ E 24 (va0_sheets_e_items 0)), ((a0_sheets_e 1), oB 5 [.ref (a0_sheets_e_items 1), .int (va0_sheets_e_lane 1), .int (va0_sheets_e_length 1)]), ((a0_sheets_e_items 1), aJ E 24 (va0_sheets_e_items 1)), ((a0_sheets_e 2), oB 5 [.ref (a0_sheets_e_items 2), .int (va0_sheets_e_lane 2), .int (va0_sheets_e_length 2)]), ((a0_sheets_e_items 2), aJ E 24 (va0_sheets_e_items 2)), ((a0_sheets_e 3), oB 5 [.ref (a0_sheets_e_items 3), .int (va0_sheets_e_lane 3), .int (va0_sheets_e_length 3)]), ((a0_sheets_e_items 3), aJ E 24 (va0_sheets_e_items 3))]) dX7_film_5 lkX7_93 rfl ⟨rfl, rfl⟩ ⟨by decide, by decide⟩ rfl rfl rfl rfl (Nat.le_of_ble_eq_true rfl) rfl rfl rfl ?_
  refine g_st (st' := [.int o1]) rfl ?_
  refine g_if_eq k (tgt := 43) dX7_film_8 (by decide) (fun c3 => ?_) (fun c3 => ?_)
  · replace hf := ite_t c3 hf
    refine g_iconst k dX7_film_43 ic_m1 ?_
    obtain rfl := Option.some.inj hf
    exact g_iret k r dX7_film_44 ⟨rfl, rfl⟩
  · replace hf := ite_f c3 hf
    refine g_iload_n k 2 dX7_film_11 rfl rfl ?_
    refine g_iconst k dX7_film_12 ic_1 ?_
    refine g_aload_n k 0 dX7_film_13 rfl rfl ?_
    refine g_get k cfX7 0 0 dX7_film_14 lkX7_10 (by decide) rfl rfl ?_
    refine g_get k cfX0 3 1 dX7_film_17 lkX7_65 (by decide) rfl rfl ?_
    refine g_iload_n k 1 dX7_film_20 rfl rfl ?_
    refine g_isub k dX7_film_21 ?_
    obtain ⟨o4, ho5, hf⟩ := bnd_some hf
    refine g_cs k miX7_within msX7_within (ctX7_within (kL K) E N   x2 1 (va0_canal_cells - x1) o4 ho5) [] (ws' := [(a0, oB 7 [.ref a0_canal, .ref a0_history, .ref a0_imageCanal, .ref a0_imageHistory, .int va0_hasImage, .ref a0_tape, .ref a0_foreteller, .ref a0_search, .ref a0_sheets]), (a0_canal, oB 0 [.ref a0_canal_kind, .ref a0_canal_weight, .ref a0_canal_now, .int va0_canal_cells, .int va0_canal_people, .int va0_canal_sayings, .int va0_canal_frost]), (a0_canal_now, oB 3 [.ref a0_canal_now_ice, .ref a0_canal_now_juice, .ref a0_canal_now_fors, .int va0_canal_now_boat, .int va0_canal_now_minute, .int va0_canal_now_draw]), (a0_canal_now_ice, aI E 12 va0_canal_now_ice), (a0_sheets, aS E 4 (fun j => some (a0_sheets_e j))), ((a0_sheets_e 0), oB 5 [.ref (a0_sheets_e_items 0), .int (va0_sheets_e_lane 0), .int (va0_sheets_e_length 0)]), ((a0_sheets_e_items 0), aJ E 24 (va0_sheets_e_items 0)), ((a0_sheets_e 1), oB 5 [.ref (a0_sheets_e_items 1), .int (va0_sheets_e_lane 1), .int (va0_sheets_e_length 1)]), ((a0_sheets_e_items 1), aJ E 24 (va0_sheets_e_items 1)), ((a0_sheets_e 2), oB 5 [.ref (a0_sheets_e_items 2), .int (va0_sheets_e_lane 2), .int (va0_sheets_e_length 2)]), ((a0_sheets_e_items 2), aJ E 24 (va0_sheets_e_items 2)), ((a0_sheets_e 3), oB 5 [.ref (a0_sheets_e_items 3), .int (va0_sheets_e_lane 3), .int (va0_sheets_e_length 3)]), ((a0_sheets_e_items 3), aJ E 24 (va0_sheets_e_items 3))]) dX7_film_22 lkX7_61 rfl ⟨rfl, rfl⟩ ⟨by decide, by decide⟩ rfl rfl rfl (Nat.le_of_ble_eq_true rfl) rfl rfl rfl ?_
    refine g_st (st' := [.int o4]) rfl ?_
    refine g_if_eq k (tgt := 43) dX7_film_25 (by decide) (fun c6 => ?_) (fun c6 => ?_)
    · replace hf := ite_t c6 hf
      refine g_iconst k dX7_film_43 ic_m1 ?_
      obtain rfl := Option.some.inj hf
      exact g_iret k r dX7_film_44 ⟨rfl, rfl⟩
    · replace hf := ite_f c6 hf
      refine g_iload_n k 3 dX7_film_28 rfl rfl ?_
      obtain ⟨o7, ho8, hf⟩ := bnd_some hf
      refine g_cs k miX7_isSheet msX7_isSheet (ctX7_isSheet (kL K) E N   x3 o7 ho8) [] (ws' := [(a0, oB 7 [.ref a0_canal, .ref a0_history, .ref a0_imageCanal, .ref a0_imageHistory, .int va0_hasImage, .ref a0_tape, .ref a0_foreteller, .ref a0_search, .ref a0_sheets]), (a0_canal, oB 0 [.ref a0_canal_kind, .ref a0_canal_weight, .ref a0_canal_now, .int va0_canal_cells, .int va0_canal_people, .int va0_canal_sayings, .int va0_canal_frost]), (a0_canal_now, oB 3 [.ref a0_canal_now_ice, .ref a0_canal_now_juice, .ref a0_canal_now_fors, .int va0_canal_now_boat, .int va0_canal_now_minute, .int va0_canal_now_draw]), (a0_canal_now_ice, aI E 12 va0_canal_now_ice), (a0_sheets, aS E 4 (fun j => some (a0_sheets_e j))), ((a0_sheets_e 0), oB 5 [.ref (a0_sheets_e_items 0), .int (va0_sheets_e_lane 0), .int (va0_sheets_e_length 0)]), ((a0_sheets_e_items 0), aJ E 24 (va0_sheets_e_items 0)), ((a0_sheets_e 1), oB 5 [.ref (a0_sheets_e_items 1), .int (va0_sheets_e_lane 1), .int (va0_sheets_e_length 1)]), ((a0_sheets_e_items 1), aJ E 24 (va0_sheets_e_items 1)), ((a0_sheets_e 2), oB 5 [.ref (a0_sheets_e_items 2), .int (va0_sheets_e_lane 2), .int (va0_sheets_e_length 2)]), ((a0_sheets_e_items 2), aJ E 24 (va0_sheets_e_items 2)), ((a0_sheets_e 3), oB 5 [.ref (a0_sheets_e_items 3), .int (va0_sheets_e_lane 3), .int (va0_sheets_e_length 3)]), ((a0_sheets_e_items 3), aJ E 24 (va0_sheets_e_items 3))]) dX7_film_29 lkX7_266 rfl ⟨rfl, rfl⟩ ⟨by decide, by decide⟩ rfl rfl rfl (Nat.le_of_ble_eq_true rfl) rfl rfl rfl ?_
      refine g_st (st' := [.int o7]) rfl ?_
      refine g_if_eq k (tgt := 43) dX7_film_32 (by decide) (fun c9 => ?_) (fun c9 => ?_)
      · replace hf := ite_t c9 hf
        refine g_iconst k dX7_film_43 ic_m1 ?_
        obtain rfl := Option.some.inj hf
        exact g_iret k r dX7_film_44 ⟨rfl, rfl⟩
      · replace hf := ite_f c9 hf
        refine g_iload k 4 dX7_film_35 rfl ?_
        obtain ⟨o10, ho11, hf⟩ := bnd_some hf
        refine g_cs k miX7_isLane msX7_isLane (ctX7_isLane (kL K) E N   x4 o10 ho11) [] (ws' := [(a0, oB 7 [.ref a0_canal, .ref a0_history, .ref a0_imageCanal, .ref a0_imageHistory, .int va0_hasImage, .ref a0_tape, .ref a0_foreteller, .ref a0_search, .ref a0_sheets]), (a0_canal, oB 0 [.ref a0_canal_kind, .ref a0_canal_weight, .ref a0_canal_now, .int va0_canal_cells, .int va0_canal_people, .int va0_canal_sayings, .int va0_canal_frost]), (a0_canal_now, oB 3 [.ref a0_canal_now_ice, .ref a0_canal_now_juice, .ref a0_canal_now_fors, .int va0_canal_now_boat, .int va0_canal_now_minute, .int va0_canal_now_draw]), (a0_canal_now_ice, aI E 12 va0_canal_now_ice), (a0_sheets, aS E 4 (fun j => some (a0_sheets_e j))), ((a0_sheets_e 0), oB 5 [.ref (a0_sheets_e_items 0), .int (va0_sheets_e_lane 0), .int (va0_sheets_e_length 0)]), ((a0_sheets_e_items 0), aJ E 24 (va0_sheets_e_items 0)), ((a0_sheets_e 1), oB 5 [.ref (a0_sheets_e_items 1), .int (va0_sheets_e_lane 1), .int (va0_sheets_e_length 1)]), ((a0_sheets_e_items 1), aJ E 24 (va0_sheets_e_items 1)), ((a0_sheets_e 2), oB 5 [.ref (a0_sheets_e_items 2), .int (va0_sheets_e_lane 2), .int (va0_sheets_e_length 2)]), ((a0_sheets_e_items 2), aJ E 24 (va0_sheets_e_items 2)), ((a0_sheets_e 3), oB 5 [.ref (a0_sheets_e_items 3), .int (va0_sheets_e_lane 3), .int (va0_sheets_e_length 3)]), ((a0_sheets_e_items 3), aJ E 24 (va0_sheets_e_items 3))]) dX7_film_37 lkX7_269 rfl ⟨rfl, rfl⟩ ⟨by decide, by decide⟩ rfl rfl rfl (Nat.le_of_ble_eq_true rfl) rfl rfl rfl ?_
        refine g_st (st' := [.int o10]) rfl ?_
        refine g_if_ne k (tgt := 45) dX7_film_40 (by decide) (fun c12 => ?_) (fun c12 => ?_)
        · replace hf := ite_f c12 hf
          refine g_aload_n k 0 dX7_film_45 rfl rfl ?_
          refine g_get k cfX7 8 0 dX7_film_46 lkX7_56 (by decide) rfl rfl ?_
          refine g_iload_n k 3 dX7_film_49 rfl rfl ?_
          obtain ⟨κ13, hκ13, hiκ13, heκ13, hf⟩ := ixb_some hf
          refine g_aaloadS k 4 dX7_film_50 rfl hiκ13 heκ13 rfl ?_
          refine g_astore k (lv' := [(6, .ref (a0_sheets_e κ13)), (0, .ref a0), (1, .int x1), (2, .int x2), (3, .int x3), (4, .int x4), (5, .int x5)]) dX7_film_51 (by decide) rfl ?_
          refine g_aload k 0 dX7_film_53 rfl ?_
          refine g_iload k 5 dX7_film_55 rfl ?_
          refine g_iload k 6 dX7_film_57 rfl ?_
          refine g_iload_n k 3 dX7_film_59 rfl rfl ?_
          obtain ⟨o14, ho15, hf⟩ := bnd_some hf
          refine g_cv k miX5_refusal mvX5_refusal (ctX5_refusal (kL K) E N (a0_sheets_e κ13) (a0_sheets_e_items κ13) (va0_sheets_e_lane κ13) (va0_sheets_e_length κ13) x4 x5 x2 o14 ho15) [(5 + 2 * κ13)] 0 (ws' := [(a0, oB 7 [.ref a0_canal, .ref a0_history, .ref a0_imageCanal, .ref a0_imageHistory, .int va0_hasImage, .ref a0_tape, .ref a0_foreteller, .ref a0_search, .ref a0_sheets]), (a0_canal, oB 0 [.ref a0_canal_kind, .ref a0_canal_weight, .ref a0_canal_now, .int va0_canal_cells, .int va0_canal_people, .int va0_canal_sayings, .int va0_canal_frost]), (a0_canal_now, oB 3 [.ref a0_canal_now_ice, .ref a0_canal_now_juice, .ref a0_canal_now_fors, .int va0_canal_now_boat, .int va0_canal_now_minute, .int va0_canal_now_draw]), (a0_canal_now_ice, aI E 12 va0_canal_now_ice), (a0_sheets, aS E 4 (fun j => some (a0_sheets_e j))), ((a0_sheets_e 0), oB 5 [.ref (a0_sheets_e_items 0), .int (va0_sheets_e_lane 0), .int (va0_sheets_e_length 0)]), ((a0_sheets_e_items 0), aJ E 24 (va0_sheets_e_items 0)), ((a0_sheets_e 1), oB 5 [.ref (a0_sheets_e_items 1), .int (va0_sheets_e_lane 1), .int (va0_sheets_e_length 1)]), ((a0_sheets_e_items 1), aJ E 24 (va0_sheets_e_items 1)), ((a0_sheets_e 2), oB 5 [.ref (a0_sheets_e_items 2), .int (va0_sheets_e_lane 2), .int (va0_sheets_e_length 2)]), ((a0_sheets_e_items 2), aJ E 24 (va0_sheets_e_items 2)), ((a0_sheets_e 3), oB 5 [.ref (a0_sheets_e_items 3), .int (va0_sheets_e_lane 3), .int (va0_sheets_e_length 3)]), ((a0_sheets_e_items 3), aJ E 24 (va0_sheets_e_items 3))]) dX7_film_60 lkX7_272 rfl ⟨rfl, rfl⟩ ⟨by decide, by decide⟩ (by rcases lt4 hκ13 with z|z|z|z <;> subst z <;> rfl) rfl rfl rfl (Nat.le_of_ble_eq_true rfl) (by rcases lt4 hκ13 with z|z|z|z <;> subst z <;> rfl) rfl (by rcases lt4 hκ13 with z|z|z|z <;> subst z <;> rfl) ?_
          refine g_st (st' := [.int o14]) rfl ?_
          refine g_istore k (lv' := [(7, .int o14), (6, .ref (a0_sheets_e κ13)), (0, .ref a0), (1, .int x1), (2, .int x2), (3, .int x3), (4, .int x4), (5, .int x5)]) dX7_film_63 (by decide) rfl ?_
          refine g_iload k 0 dX7_film_65 rfl ?_
          refine g_if_eq k (tgt := 73) dX7_film_67 (by decide) (fun c16 => ?_) (fun c16 => ?_)
          · replace hf := ite_t c16 hf
            refine g_iconst k dX7_film_73 ic_0 ?_
            refine g_istore k (lv' := [(8, .int 0), (7, .int o14), (6, .ref (a0_sheets_e κ13)), (0, .ref a0), (1, .int x1), (2, .int x2), (3, .int x3), (4, .int x4), (5, .int x5)]) dX7_film_74 (by decide) rfl ?_
            obtain ⟨o21, ho22, hf⟩ := bnd_some hf
            refine g_lv [3, 4, 5, 6, 7, 8, 2, 1, 0] (lv' := [(0, .ref a0), (1, .int x1), (2, .int x2), (3, .int x3), (4, .int x4), (5, .int x5), (6, .ref (a0_sheets_e κ13)), (7, .int o14), (8, .int 0)]) rfl ?_
            refine wX7_film_L76 k N a0 a0_canal a0_history a0_imageCanal a0_imageHistory a0_tape a0_foreteller a0_search a0_sheets a0_canal_kind a0_canal_weight a0_canal_now a0_canal_now_ice a0_canal_now_juice a0_canal_now_fors a0_sheets_e a0_sheets_e_items κ13 hκ13 x1 x2 x3 x4 x5 o14 va0_canal_now_ice va0_sheets_e_lane va0_hasImage va0_canal_cells va0_canal_people va0_canal_sayings va0_canal_frost va0_canal_now_boat va0_canal_now_minute va0_canal_now_draw va0_sheets_e_length N 0 va0_sheets_e_items o21 ho22 ?_
            refine g_iload_n k 2 dX7_film_114 rfl rfl ?_
            obtain rfl := Option.some.inj hf
            exact g_iret k r dX7_film_115 ⟨rfl, rfl⟩
          · replace hf := ite_f c16 hf
            refine g_iload k 0 dX7_film_70 rfl ?_
            obtain rfl := Option.some.inj hf
            exact g_iret k r dX7_film_72 ⟨rfl, rfl⟩
        · replace hf := ite_t c12 hf
          refine g_iconst k dX7_film_43 ic_m1 ?_
          obtain rfl := Option.some.inj hf
          exact g_iret k r dX7_film_44 ⟨rfl, rfl⟩
abbrev rmX7_sheet : Room := { frames := 2, cells := 0, slots := 0, locals := 42 }
def fX7_sheet (N : Nat) (va0_sheets_e_lane : Nat → Int32) (va0_sheets_e_length : Nat → Int32) (va0_sheets_e_items : Nat → Nat → Int64) (x1 : Int32) (x2 : Int32) (x3 : Int32) : Option (Int32 × (Nat → Int32) × (Nat → Int32) × (Nat → Nat → Int64)) :=
  bnd (fX7_isSheet N x1) fun o1 =>
  if o1 = 0 then
  some ((-1), va0_sheets_e_lane, va0_sheets_e_length, va0_sheets_e_items)
  else
  bnd (fX7_isLane N x2) fun o4 =>
  if o4 = 0 then
  some ((-1), va0_sheets_e_lane, va0_sheets_e_length, va0_sheets_e_items)
  else
  if x3 ≤ 24 then
  if 0 ≤ x3 then
  ixb x1 4 fun κ9 =>
  bnd (fX5_begin N (va0_sheets_e_lane κ9) (va0_sheets_e_length κ9) (va0_sheets_e_items κ9) x2 x3) fun o10 =>
  some (x3, (va_up va0_sheets_e_lane κ9 o10.1), (va_up va0_sheets_e_length κ9 o10.2.1), (va_up va0_sheets_e_items κ9 o10.2.2))
  else
  some ((-14), va0_sheets_e_lane, va0_sheets_e_length, va0_sheets_e_items)
  else
  some ((-1), va0_sheets_e_lane, va0_sheets_e_length, va0_sheets_e_items)
set_option maxHeartbeats 4000000 in
set_option maxRecDepth 100000 in
theorem ctX7_sheet (l : Launch) (E : Ev) (N : Nat) (a0 : Nat) (a0_canal : Nat) (a0_history : Nat) (a0_imageCanal : Nat) (a0_imageHistory : Nat) (a0_tape : Nat) (a0_foreteller : Nat) (a0_search : Nat) (a0_sheets : Nat) (a0_sheets_e : Nat → Nat) (a0_sheets_e_items : Nat → Nat) (va0_hasImage : Int32) (va0_sheets_e_lane : Nat → Int32) (va0_sheets_e_length : Nat → Int32) (va0_sheets_e_items : Nat → Nat → Int64) (x1 : Int32) (x2 : Int32) (x3 : Int32) (out : Int32 × (Nat → Int32) × (Nat → Int32) × (Nat → Nat → Int64)) (hf : fX7_sheet N va0_sheets_e_lane va0_sheets_e_length va0_sheets_e_items x1 x2 x3 = some out) : Ct l E yX7_sheet cX7_sheet 4 (some .int) rmX7_sheet [.ref a0, .int x1, .int x2, .int x3] [(a0, oB 7 [.ref a0_canal, .ref a0_history, .ref a0_imageCanal, .ref a0_imageHistory, .int va0_hasImage, .ref a0_tape, .ref a0_foreteller, .ref a0_search, .ref a0_sheets]), (a0_sheets, aS E 4 (fun j => some (a0_sheets_e j))), ((a0_sheets_e 0), oB 5 [.ref (a0_sheets_e_items 0), .int (va0_sheets_e_lane 0), .int (va0_sheets_e_length 0)]), ((a0_sheets_e_items 0), aJ E 24 (va0_sheets_e_items 0)), ((a0_sheets_e 1), oB 5 [.ref (a0_sheets_e_items 1), .int (va0_sheets_e_lane 1), .int (va0_sheets_e_length 1)]), ((a0_sheets_e_items 1), aJ E 24 (va0_sheets_e_items 1)), ((a0_sheets_e 2), oB 5 [.ref (a0_sheets_e_items 2), .int (va0_sheets_e_lane 2), .int (va0_sheets_e_length 2)]), ((a0_sheets_e_items 2), aJ E 24 (va0_sheets_e_items 2)), ((a0_sheets_e 3), oB 5 [.ref (a0_sheets_e_items 3), .int (va0_sheets_e_lane 3), .int (va0_sheets_e_length 3)]), ((a0_sheets_e_items 3), aJ E 24 (va0_sheets_e_items 3))] (Pe (some (.int out.1)) [(a0, oB 7 [.ref a0_canal, .ref a0_history, .ref a0_imageCanal, .ref a0_imageHistory, .int va0_hasImage, .ref a0_tape, .ref a0_foreteller, .ref a0_search, .ref a0_sheets]), (a0_sheets, aS E 4 (fun j => some (a0_sheets_e j))), ((a0_sheets_e 0), oB 5 [.ref (a0_sheets_e_items 0), .int (out.2.1 0), .int (out.2.2.1 0)]), ((a0_sheets_e_items 0), aJ E 24 (out.2.2.2 0)), ((a0_sheets_e 1), oB 5 [.ref (a0_sheets_e_items 1), .int (out.2.1 1), .int (out.2.2.1 1)]), ((a0_sheets_e_items 1), aJ E 24 (out.2.2.2 1)), ((a0_sheets_e 2), oB 5 [.ref (a0_sheets_e_items 2), .int (out.2.1 2), .int (out.2.2.1 2)]), ((a0_sheets_e_items 2), aJ E 24 (out.2.2.2 2)), ((a0_sheets_e 3), oB 5 [.ref (a0_sheets_e_items 3), .int (out.2.1 3), .int (out.2.2.1 3)]), ((a0_sheets_e_items 3), aJ E 24 (out.2.2.2 3))]) := by
  refine Ct.of rfl (Nat.le_of_ble_eq_true rfl) (fun K hL k r hin => ?_)
  subst hL
  unfold fX7_sheet at hf
  show G E K 4 0 0 [(0, .ref a0), (1, .int x1), (2, .int x2), (3, .int x3)] [] [(a0, oB 7 [.ref a0_canal, .ref a0_history, .ref a0_imageCanal, .ref a0_imageHistory, .int va0_hasImage, .ref a0_tape, .ref a0_foreteller, .ref a0_search, .ref a0_sheets]), (a0_sheets, aS E 4 (fun j => some (a0_sheets_e j))), ((a0_sheets_e 0), oB 5 [.ref (a0_sheets_e_items 0), .int (va0_sheets_e_lane 0), .int (va0_sheets_e_length 0)]), ((a0_sheets_e_items 0), aJ E 24 (va0_sheets_e_items 0)), ((a0_sheets_e 1), oB 5 [.ref (a0_sheets_e_items 1), .int (va0_sheets_e_lane 1), .int (va0_sheets_e_length 1)]), ((a0_sheets_e_items 1), aJ E 24 (va0_sheets_e_items 1)), ((a0_sheets_e 2), oB 5 [.ref (a0_sheets_e_items 2), .int (va0_sheets_e_lane 2), .int (va0_sheets_e_length 2)]), ((a0_sheets_e_items 2), aJ E 24 (va0_sheets_e_items 2)), ((a0_sheets_e 3), oB 5 [.ref (a0_sheets_e_items 3), .int (va0_sheets_e_lane 3), .int (va0_sheets_e_length 3)]), ((a0_sheets_e_items 3), aJ E 24 (va0_sheets_e_items 3))] 0
  refine g_iload_n k 1 dX7_sheet_0 rfl rfl ?_
  obtain ⟨o1, ho2, hf⟩ := bnd_some hf
  refine g_cs k miX7_isSheet msX7_isSheet (ctX7_isSheet (kL K) E N   x1 o1 ho2) [] (ws' := [(a0, oB 7 [.ref a0_canal, .ref a0_history, .ref a0_imageCanal, .ref a0_imageHistory, .int va0_hasImage, .ref a0_tape, .ref a0_foreteller, .ref a0_search, .ref a0_sheets]), (a0_sheets, aS E 4 (fun j => some (a0_sheets_e j))), ((a0_sheets_e 0), oB 5 [.ref (a0_sheets_e_items 0), .int (va0_sheets_e_lane 0), .int (va0_sheets_e_length 0)]), ((a0_sheets_e_items 0), aJ E 24 (va0_sheets_e_items 0)), ((a0_sheets_e 1), oB 5 [.ref (a0_sheets_e_items 1), .int (va0_sheets_e_lane 1), .int (va0_sheets_e_length 1)]), ((a0_sheets_e_items 1), aJ E 24 (va0_sheets_e_items 1)), ((a0_sheets_e 2), oB 5 [.ref (a0_sheets_e_items 2), .int (va0_sheets_e_lane 2), .int (va0_sheets_e_length 2)]), ((a0_sheets_e_items 2), aJ E 24 (va0_sheets_e_items 2)), ((a0_sheets_e 3), oB 5 [.ref (a0_sheets_e_items 3), .int (va0_sheets_e_lane 3), .int (va0_sheets_e_length 3)]), ((a0_sheets_e_items 3), aJ E 24 (va0_sheets_e_items 3))]) dX7_sheet_1 lkX7_266 rfl ⟨rfl, rfl⟩ ⟨by decide, by decide⟩ rfl rfl rfl (Nat.le_of_ble_eq_true rfl) rfl rfl rfl ?_
  refine g_st (st' := [.int o1]) rfl ?_
  refine g_if_eq k (tgt := 20) dX7_sheet_4 (by decide) (fun c3 => ?_) (fun c3 => ?_)
  · replace hf := ite_t c3 hf
    refine g_iconst k dX7_sheet_20 ic_m1 ?_
    obtain rfl := Option.some.inj hf
    exact g_iret k r dX7_sheet_21 ⟨rfl, rfl⟩
  · replace hf := ite_f c3 hf
    refine g_iload_n k 2 dX7_sheet_7 rfl rfl ?_
    obtain ⟨o4, ho5, hf⟩ := bnd_some hf
    refine g_cs k miX7_isLane msX7_isLane (ctX7_isLane (kL K) E N   x2 o4 ho5) [] (ws' := [(a0, oB 7 [.ref a0_canal, .ref a0_history, .ref a0_imageCanal, .ref a0_imageHistory, .int va0_hasImage, .ref a0_tape, .ref a0_foreteller, .ref a0_search, .ref a0_sheets]), (a0_sheets, aS E 4 (fun j => some (a0_sheets_e j))), ((a0_sheets_e 0), oB 5 [.ref (a0_sheets_e_items 0), .int (va0_sheets_e_lane 0), .int (va0_sheets_e_length 0)]), ((a0_sheets_e_items 0), aJ E 24 (va0_sheets_e_items 0)), ((a0_sheets_e 1), oB 5 [.ref (a0_sheets_e_items 1), .int (va0_sheets_e_lane 1), .int (va0_sheets_e_length 1)]), ((a0_sheets_e_items 1), aJ E 24 (va0_sheets_e_items 1)), ((a0_sheets_e 2), oB 5 [.ref (a0_sheets_e_items 2), .int (va0_sheets_e_lane 2), .int (va0_sheets_e_length 2)]), ((a0_sheets_e_items 2), aJ E 24 (va0_sheets_e_items 2)), ((a0_sheets_e 3), oB 5 [.ref (a0_sheets_e_items 3), .int (va0_sheets_e_lane 3), .int (va0_sheets_e_length 3)]), ((a0_sheets_e_items 3), aJ E 24 (va0_sheets_e_items 3))]) dX7_sheet_8 lkX7_269 rfl ⟨rfl, rfl⟩ ⟨by decide, by decide⟩ rfl rfl rfl (Nat.le_of_ble_eq_true rfl) rfl rfl rfl ?_
    refine g_st (st' := [.int o4]) rfl ?_
    refine g_if_eq k (tgt := 20) dX7_sheet_11 (by decide) (fun c6 => ?_) (fun c6 => ?_)
    · replace hf := ite_t c6 hf
      refine g_iconst k dX7_sheet_20 ic_m1 ?_
      obtain rfl := Option.some.inj hf
      exact g_iret k r dX7_sheet_21 ⟨rfl, rfl⟩
    · replace hf := ite_f c6 hf
      refine g_iload_n k 3 dX7_sheet_14 rfl rfl ?_
      refine g_bipush k dX7_sheet_15 bi_24 ?_
      refine g_icmp_le k (tgt := 22) dX7_sheet_17 (by decide) (fun c7 => ?_) (fun c7 => ?_)
      · replace hf := ite_t c7 hf
        refine g_iload_n k 3 dX7_sheet_22 rfl rfl ?_
        refine g_if_ge k (tgt := 29) dX7_sheet_23 (by decide) (fun c8 => ?_) (fun c8 => ?_)
        · replace hf := ite_t c8 hf
          refine g_aload_n k 0 dX7_sheet_29 rfl rfl ?_
          refine g_get k cfX7 8 0 dX7_sheet_30 lkX7_56 (by decide) rfl rfl ?_
          refine g_iload_n k 1 dX7_sheet_33 rfl rfl ?_
          obtain ⟨κ9, hκ9, hiκ9, heκ9, hf⟩ := ixb_some hf
          refine g_aaloadS k 1 dX7_sheet_34 rfl hiκ9 heκ9 rfl ?_
          refine g_iload_n k 2 dX7_sheet_35 rfl rfl ?_
          refine g_iload_n k 3 dX7_sheet_36 rfl rfl ?_
          obtain ⟨o10, ho11, hf⟩ := bnd_some hf
          refine g_cv k miX5_begin mvX5_begin (ctX5_begin (kL K) E N (a0_sheets_e κ9) (a0_sheets_e_items κ9) (va0_sheets_e_lane κ9) (va0_sheets_e_length κ9) (va0_sheets_e_items κ9) x2 x3 o10 ho11) [(2 + 2 * κ9), (3 + 2 * κ9)] 0 (ws' := [(a0, oB 7 [.ref a0_canal, .ref a0_history, .ref a0_imageCanal, .ref a0_imageHistory, .int va0_hasImage, .ref a0_tape, .ref a0_foreteller, .ref a0_search, .ref a0_sheets]), (a0_sheets, aS E 4 (fun j => some (a0_sheets_e j))), ((a0_sheets_e 0), oB 5 [.ref (a0_sheets_e_items 0), .int ((va_up va0_sheets_e_lane κ9 o10.1) 0), .int ((va_up va0_sheets_e_length κ9 o10.2.1) 0)]), ((a0_sheets_e_items 0), aJ E 24 ((va_up va0_sheets_e_items κ9 o10.2.2) 0)), ((a0_sheets_e 1), oB 5 [.ref (a0_sheets_e_items 1), .int ((va_up va0_sheets_e_lane κ9 o10.1) 1), .int ((va_up va0_sheets_e_length κ9 o10.2.1) 1)]), ((a0_sheets_e_items 1), aJ E 24 ((va_up va0_sheets_e_items κ9 o10.2.2) 1)), ((a0_sheets_e 2), oB 5 [.ref (a0_sheets_e_items 2), .int ((va_up va0_sheets_e_lane κ9 o10.1) 2), .int ((va_up va0_sheets_e_length κ9 o10.2.1) 2)]), ((a0_sheets_e_items 2), aJ E 24 ((va_up va0_sheets_e_items κ9 o10.2.2) 2)), ((a0_sheets_e 3), oB 5 [.ref (a0_sheets_e_items 3), .int ((va_up va0_sheets_e_lane κ9 o10.1) 3), .int ((va_up va0_sheets_e_length κ9 o10.2.1) 3)]), ((a0_sheets_e_items 3), aJ E 24 ((va_up va0_sheets_e_items κ9 o10.2.2) 3))]) dX7_sheet_37 lkX7_295 rfl ⟨rfl, rfl⟩ ⟨by decide, by decide⟩ (by rcases lt4 hκ9 with z|z|z|z <;> subst z <;> rfl) rfl rfl rfl (Nat.le_of_ble_eq_true rfl) (by rcases lt4 hκ9 with z|z|z|z <;> subst z <;> rfl) rfl (by rcases lt4 hκ9 with z|z|z|z <;> subst z <;> rfl) ?_
          refine g_st (st' := []) rfl ?_
          refine g_iload_n k 3 dX7_sheet_40 rfl rfl ?_
          obtain rfl := Option.some.inj hf
          exact g_iret k r dX7_sheet_41 ⟨rfl, rfl⟩
        · replace hf := ite_f c8 hf
          refine g_bipush k dX7_sheet_26 bi_m14 ?_
          obtain rfl := Option.some.inj hf
          exact g_iret k r dX7_sheet_28 ⟨rfl, rfl⟩
      · replace hf := ite_f c7 hf
        refine g_iconst k dX7_sheet_20 ic_m1 ?_
        obtain rfl := Option.some.inj hf
        exact g_iret k r dX7_sheet_21 ⟨rfl, rfl⟩
abbrev rmX7_drop : Room := { frames := 2, cells := 0, slots := 0, locals := 42 }
def fX7_drop (N : Nat) (va0_sheets_e_length : Nat → Int32) (x1 : Int32) : Option (Int32 × (Nat → Int32)) :=
  bnd (fX7_isSheet N x1) fun o1 =>
  if o1 = 0 then
  some ((-1), va0_sheets_e_length)
  else
  ixb x1 4 fun κ4 =>
  bnd (fX5_isNothing N (va0_sheets_e_length κ4)) fun o5 =>
  if o5 = 0 then
  bnd (fX5_end N (va0_sheets_e_length κ4)) fun o8 =>
  some ((va0_sheets_e_length κ4), (va_up va0_sheets_e_length κ4 o8))
  else
  some ((-11), va0_sheets_e_length)
set_option maxHeartbeats 4000000 in
set_option maxRecDepth 100000 in
theorem ctX7_drop (l : Launch) (E : Ev) (N : Nat) (a0 : Nat) (a0_canal : Nat) (a0_history : Nat) (a0_imageCanal : Nat) (a0_imageHistory : Nat) (a0_tape : Nat) (a0_foreteller : Nat) (a0_search : Nat) (a0_sheets : Nat) (a0_sheets_e : Nat → Nat) (a0_sheets_e_items : Nat → Nat) (va0_hasImage : Int32) (va0_sheets_e_lane : Nat → Int32) (va0_sheets_e_length : Nat → Int32) (x1 : Int32) (out : Int32 × (Nat → Int32)) (hf : fX7_drop N va0_sheets_e_length x1 = some out) : Ct l E yX7_drop cX7_drop 4 (some .int) rmX7_drop [.ref a0, .int x1] [(a0, oB 7 [.ref a0_canal, .ref a0_history, .ref a0_imageCanal, .ref a0_imageHistory, .int va0_hasImage, .ref a0_tape, .ref a0_foreteller, .ref a0_search, .ref a0_sheets]), (a0_sheets, aS E 4 (fun j => some (a0_sheets_e j))), ((a0_sheets_e 0), oB 5 [.ref (a0_sheets_e_items 0), .int (va0_sheets_e_lane 0), .int (va0_sheets_e_length 0)]), ((a0_sheets_e 1), oB 5 [.ref (a0_sheets_e_items 1), .int (va0_sheets_e_lane 1), .int (va0_sheets_e_length 1)]), ((a0_sheets_e 2), oB 5 [.ref (a0_sheets_e_items 2), .int (va0_sheets_e_lane 2), .int (va0_sheets_e_length 2)]), ((a0_sheets_e 3), oB 5 [.ref (a0_sheets_e_items 3), .int (va0_sheets_e_lane 3), .int (va0_sheets_e_length 3)])] (Pe (some (.int out.1)) [(a0, oB 7 [.ref a0_canal, .ref a0_history, .ref a0_imageCanal, .ref a0_imageHistory, .int va0_hasImage, .ref a0_tape, .ref a0_foreteller, .ref a0_search, .ref a0_sheets]), (a0_sheets, aS E 4 (fun j => some (a0_sheets_e j))), ((a0_sheets_e 0), oB 5 [.ref (a0_sheets_e_items 0), .int (va0_sheets_e_lane 0), .int (out.2 0)]), ((a0_sheets_e 1), oB 5 [.ref (a0_sheets_e_items 1), .int (va0_sheets_e_lane 1), .int (out.2 1)]), ((a0_sheets_e 2), oB 5 [.ref (a0_sheets_e_items 2), .int (va0_sheets_e_lane 2), .int (out.2 2)]), ((a0_sheets_e 3), oB 5 [.ref (a0_sheets_e_items 3), .int (va0_sheets_e_lane 3), .int (out.2 3)])]) := by
  refine Ct.of rfl (Nat.le_of_ble_eq_true rfl) (fun K hL k r hin => ?_)
  subst hL
  unfold fX7_drop at hf
  show G E K 4 0 0 [(0, .ref a0), (1, .int x1)] [] [(a0, oB 7 [.ref a0_canal, .ref a0_history, .ref a0_imageCanal, .ref a0_imageHistory, .int va0_hasImage, .ref a0_tape, .ref a0_foreteller, .ref a0_search, .ref a0_sheets]), (a0_sheets, aS E 4 (fun j => some (a0_sheets_e j))), ((a0_sheets_e 0), oB 5 [.ref (a0_sheets_e_items 0), .int (va0_sheets_e_lane 0), .int (va0_sheets_e_length 0)]), ((a0_sheets_e 1), oB 5 [.ref (a0_sheets_e_items 1), .int (va0_sheets_e_lane 1), .int (va0_sheets_e_length 1)]), ((a0_sheets_e 2), oB 5 [.ref (a0_sheets_e_items 2), .int (va0_sheets_e_lane 2), .int (va0_sheets_e_length 2)]), ((a0_sheets_e 3), oB 5 [.ref (a0_sheets_e_items 3), .int (va0_sheets_e_lane 3), .int (va0_sheets_e_length 3)])] 0
  refine g_iload_n k 1 dX7_drop_0 rfl rfl ?_
  obtain ⟨o1, ho2, hf⟩ := bnd_some hf
  refine g_cs k miX7_isSheet msX7_isSheet (ctX7_isSheet (kL K) E N   x1 o1 ho2) [] (ws' := [(a0, oB 7 [.ref a0_canal, .ref a0_history, .ref a0_imageCanal, .ref a0_imageHistory, .int va0_hasImage, .ref a0_tape, .ref a0_foreteller, .ref a0_search, .ref a0_sheets]), (a0_sheets, aS E 4 (fun j => some (a0_sheets_e j))), ((a0_sheets_e 0), oB 5 [.ref (a0_sheets_e_items 0), .int (va0_sheets_e_lane 0), .int (va0_sheets_e_length 0)]), ((a0_sheets_e 1), oB 5 [.ref (a0_sheets_e_items 1), .int (va0_sheets_e_lane 1), .int (va0_sheets_e_length 1)]), ((a0_sheets_e 2), oB 5 [.ref (a0_sheets_e_items 2), .int (va0_sheets_e_lane 2), .int (va0_sheets_e_length 2)]), ((a0_sheets_e 3), oB 5 [.ref (a0_sheets_e_items 3), .int (va0_sheets_e_lane 3), .int (va0_sheets_e_length 3)])]) dX7_drop_1 lkX7_266 rfl ⟨rfl, rfl⟩ ⟨by decide, by decide⟩ rfl rfl rfl (Nat.le_of_ble_eq_true rfl) rfl rfl rfl ?_
  refine g_st (st' := [.int o1]) rfl ?_
  refine g_if_ne k (tgt := 9) dX7_drop_4 (by decide) (fun c3 => ?_) (fun c3 => ?_)
  · replace hf := ite_f c3 hf
    refine g_aload_n k 0 dX7_drop_9 rfl rfl ?_
    refine g_get k cfX7 8 0 dX7_drop_10 lkX7_56 (by decide) rfl rfl ?_
    refine g_iload_n k 1 dX7_drop_13 rfl rfl ?_
    obtain ⟨κ4, hκ4, hiκ4, heκ4, hf⟩ := ixb_some hf
    refine g_aaloadS k 1 dX7_drop_14 rfl hiκ4 heκ4 rfl ?_
    refine g_astore_n k (lv' := [(2, .ref (a0_sheets_e κ4)), (0, .ref a0), (1, .int x1)]) dX7_drop_15 rfl (by decide) rfl ?_
    refine g_aload_n k 0 dX7_drop_16 rfl rfl ?_
    obtain ⟨o5, ho6, hf⟩ := bnd_some hf
    refine g_cv k miX5_isNothing mvX5_isNothing (ctX5_isNothing (kL K) E N (a0_sheets_e κ4) (a0_sheets_e_items κ4) (va0_sheets_e_lane κ4) (va0_sheets_e_length κ4)  o5 ho6) [(2 + 1 * κ4)] 0 (ws' := [(a0, oB 7 [.ref a0_canal, .ref a0_history, .ref a0_imageCanal, .ref a0_imageHistory, .int va0_hasImage, .ref a0_tape, .ref a0_foreteller, .ref a0_search, .ref a0_sheets]), (a0_sheets, aS E 4 (fun j => some (a0_sheets_e j))), ((a0_sheets_e 0), oB 5 [.ref (a0_sheets_e_items 0), .int (va0_sheets_e_lane 0), .int (va0_sheets_e_length 0)]), ((a0_sheets_e 1), oB 5 [.ref (a0_sheets_e_items 1), .int (va0_sheets_e_lane 1), .int (va0_sheets_e_length 1)]), ((a0_sheets_e 2), oB 5 [.ref (a0_sheets_e_items 2), .int (va0_sheets_e_lane 2), .int (va0_sheets_e_length 2)]), ((a0_sheets_e 3), oB 5 [.ref (a0_sheets_e_items 3), .int (va0_sheets_e_lane 3), .int (va0_sheets_e_length 3)])]) dX7_drop_17 lkX7_299 rfl ⟨rfl, rfl⟩ ⟨by decide, by decide⟩ (by rcases lt4 hκ4 with z|z|z|z <;> subst z <;> rfl) rfl rfl rfl (Nat.le_of_ble_eq_true rfl) (by rcases lt4 hκ4 with z|z|z|z <;> subst z <;> rfl) rfl (by rcases lt4 hκ4 with z|z|z|z <;> subst z <;> rfl) ?_
    refine g_st (st' := [.int o5]) rfl ?_
    refine g_if_eq k (tgt := 26) dX7_drop_20 (by decide) (fun c7 => ?_) (fun c7 => ?_)
    · replace hf := ite_t c7 hf
      refine g_aload_n k 0 dX7_drop_26 rfl rfl ?_
      refine g_get k cfX5 2 (2 + 1 * κ4) (fs := [.ref (a0_sheets_e_items κ4), .int (va0_sheets_e_lane κ4), .int (va0_sheets_e_length κ4)]) dX7_drop_27 lkX7_302 (by decide) (by rcases lt4 hκ4 with z|z|z|z <;> subst z <;> rfl) rfl ?_
      refine g_istore_n k (lv' := [(3, .int (va0_sheets_e_length κ4)), (2, .ref (a0_sheets_e κ4)), (0, .ref a0), (1, .int x1)]) dX7_drop_30 rfl (by decide) rfl ?_
      refine g_aload_n k 1 dX7_drop_31 rfl rfl ?_
      obtain ⟨o8, ho9, hf⟩ := bnd_some hf
      refine g_cv k miX5_end mvX5_end (ctX5_end (kL K) E N (a0_sheets_e κ4) (a0_sheets_e_items κ4) (va0_sheets_e_lane κ4) (va0_sheets_e_length κ4)  o8 ho9) [(2 + 1 * κ4)] 0 (ws' := [(a0, oB 7 [.ref a0_canal, .ref a0_history, .ref a0_imageCanal, .ref a0_imageHistory, .int va0_hasImage, .ref a0_tape, .ref a0_foreteller, .ref a0_search, .ref a0_sheets]), (a0_sheets, aS E 4 (fun j => some (a0_sheets_e j))), ((a0_sheets_e 0), oB 5 [.ref (a0_sheets_e_items 0), .int (va0_sheets_e_lane 0), .int ((va_up va0_sheets_e_length κ4 o8) 0)]), ((a0_sheets_e 1), oB 5 [.ref (a0_sheets_e_items 1), .int (va0_sheets_e_lane 1), .int ((va_up va0_sheets_e_length κ4 o8) 1)]), ((a0_sheets_e 2), oB 5 [.ref (a0_sheets_e_items 2), .int (va0_sheets_e_lane 2), .int ((va_up va0_sheets_e_length κ4 o8) 2)]), ((a0_sheets_e 3), oB 5 [.ref (a0_sheets_e_items 3), .int (va0_sheets_e_lane 3), .int ((va_up va0_sheets_e_length κ4 o8) 3)])]) dX7_drop_32 lkX7_303 rfl ⟨rfl, rfl⟩ ⟨by decide, by decide⟩ (by rcases lt4 hκ4 with z|z|z|z <;> subst z <;> rfl) rfl rfl rfl (Nat.le_of_ble_eq_true rfl) (by rcases lt4 hκ4 with z|z|z|z <;> subst z <;> rfl) rfl (by rcases lt4 hκ4 with z|z|z|z <;> subst z <;> rfl) ?_
      refine g_st (st' := []) rfl ?_
      refine g_iload_n k 0 dX7_drop_35 rfl rfl ?_
      obtain rfl := Option.some.inj hf
      exact g_iret k r dX7_drop_36 ⟨rfl, rfl⟩
    · replace hf := ite_f c7 hf
      refine g_bipush k dX7_drop_23 bi_m11 ?_
      obtain rfl := Option.some.inj hf
      exact g_iret k r dX7_drop_25 ⟨rfl, rfl⟩
  · replace hf := ite_t c3 hf
    refine g_iconst k dX7_drop_7 ic_m1 ?_
    obtain rfl := Option.some.inj hf
    exact g_iret k r dX7_drop_8 ⟨rfl, rfl⟩
abbrev rmX7_item : Room := { frames := 2, cells := 0, slots := 0, locals := 45 }
def fX7_item (N : Nat) (va0_sheets_e_lane : Nat → Int32) (va0_sheets_e_length : Nat → Int32) (va0_sheets_e_items : Nat → Nat → Int64) (x1 : Int32) (x2 : Int32) (x3 : Int32) (x4 : Int64) : Option (Int32 × (Nat → Nat → Int64)) :=
  bnd (fX7_isSheet N x1) fun o1 =>
  if o1 = 0 then
  some ((-1), va0_sheets_e_items)
  else
  bnd (fX7_isLane N x2) fun o4 =>
  if o4 = 0 then
  some ((-1), va0_sheets_e_items)
  else
  ixb x1 4 fun κ7 =>
  bnd (fX5_refusal N (va0_sheets_e_lane κ7) (va0_sheets_e_length κ7) x2 x3 1) fun o8 =>
  if o8 = 0 then
  bnd (fX5_put N (va0_sheets_e_lane κ7) (va0_sheets_e_items κ7) x3 x4) fun o11 =>
  some (1, (va_up va0_sheets_e_items κ7 o11))
  else
  some (o8, va0_sheets_e_items)
set_option maxHeartbeats 4000000 in
set_option maxRecDepth 100000 in
theorem ctX7_item (l : Launch) (E : Ev) (N : Nat) (a0 : Nat) (a0_canal : Nat) (a0_history : Nat) (a0_imageCanal : Nat) (a0_imageHistory : Nat) (a0_tape : Nat) (a0_foreteller : Nat) (a0_search : Nat) (a0_sheets : Nat) (a0_sheets_e : Nat → Nat) (a0_sheets_e_items : Nat → Nat) (va0_hasImage : Int32) (va0_sheets_e_lane : Nat → Int32) (va0_sheets_e_length : Nat → Int32) (va0_sheets_e_items : Nat → Nat → Int64) (x1 : Int32) (x2 : Int32) (x3 : Int32) (x4 : Int64) (out : Int32 × (Nat → Nat → Int64)) (hf : fX7_item N va0_sheets_e_lane va0_sheets_e_length va0_sheets_e_items x1 x2 x3 x4 = some out) : Ct l E yX7_item cX7_item 8 (some .int) rmX7_item [.ref a0, .int x1, .int x2, .int x3, .long x4] [(a0, oB 7 [.ref a0_canal, .ref a0_history, .ref a0_imageCanal, .ref a0_imageHistory, .int va0_hasImage, .ref a0_tape, .ref a0_foreteller, .ref a0_search, .ref a0_sheets]), (a0_sheets, aS E 4 (fun j => some (a0_sheets_e j))), ((a0_sheets_e 0), oB 5 [.ref (a0_sheets_e_items 0), .int (va0_sheets_e_lane 0), .int (va0_sheets_e_length 0)]), ((a0_sheets_e_items 0), aJ E 24 (va0_sheets_e_items 0)), ((a0_sheets_e 1), oB 5 [.ref (a0_sheets_e_items 1), .int (va0_sheets_e_lane 1), .int (va0_sheets_e_length 1)]), ((a0_sheets_e_items 1), aJ E 24 (va0_sheets_e_items 1)), ((a0_sheets_e 2), oB 5 [.ref (a0_sheets_e_items 2), .int (va0_sheets_e_lane 2), .int (va0_sheets_e_length 2)]), ((a0_sheets_e_items 2), aJ E 24 (va0_sheets_e_items 2)), ((a0_sheets_e 3), oB 5 [.ref (a0_sheets_e_items 3), .int (va0_sheets_e_lane 3), .int (va0_sheets_e_length 3)]), ((a0_sheets_e_items 3), aJ E 24 (va0_sheets_e_items 3))] (Pe (some (.int out.1)) [(a0, oB 7 [.ref a0_canal, .ref a0_history, .ref a0_imageCanal, .ref a0_imageHistory, .int va0_hasImage, .ref a0_tape, .ref a0_foreteller, .ref a0_search, .ref a0_sheets]), (a0_sheets, aS E 4 (fun j => some (a0_sheets_e j))), ((a0_sheets_e 0), oB 5 [.ref (a0_sheets_e_items 0), .int (va0_sheets_e_lane 0), .int (va0_sheets_e_length 0)]), ((a0_sheets_e_items 0), aJ E 24 (out.2 0)), ((a0_sheets_e 1), oB 5 [.ref (a0_sheets_e_items 1), .int (va0_sheets_e_lane 1), .int (va0_sheets_e_length 1)]), ((a0_sheets_e_items 1), aJ E 24 (out.2 1)), ((a0_sheets_e 2), oB 5 [.ref (a0_sheets_e_items 2), .int (va0_sheets_e_lane 2), .int (va0_sheets_e_length 2)]), ((a0_sheets_e_items 2), aJ E 24 (out.2 2)), ((a0_sheets_e 3), oB 5 [.ref (a0_sheets_e_items 3), .int (va0_sheets_e_lane 3), .int (va0_sheets_e_length 3)]), ((a0_sheets_e_items 3), aJ E 24 (out.2 3))]) := by
  refine Ct.of rfl (Nat.le_of_ble_eq_true rfl) (fun K hL k r hin => ?_)
  subst hL
  unfold fX7_item at hf
  show G E K 8 0 0 [(0, .ref a0), (1, .int x1), (2, .int x2), (3, .int x3), (4, .long x4)] [] [(a0, oB 7 [.ref a0_canal, .ref a0_history, .ref a0_imageCanal, .ref a0_imageHistory, .int va0_hasImage, .ref a0_tape, .ref a0_foreteller, .ref a0_search, .ref a0_sheets]), (a0_sheets, aS E 4 (fun j => some (a0_sheets_e j))), ((a0_sheets_e 0), oB 5 [.ref (a0_sheets_e_items 0), .int (va0_sheets_e_lane 0), .int (va0_sheets_e_length 0)]), ((a0_sheets_e_items 0), aJ E 24 (va0_sheets_e_items 0)), ((a0_sheets_e 1), oB 5 [.ref (a0_sheets_e_items 1), .int (va0_sheets_e_lane 1), .int (va0_sheets_e_length 1)]), ((a0_sheets_e_items 1), aJ E 24 (va0_sheets_e_items 1)), ((a0_sheets_e 2), oB 5 [.ref (a0_sheets_e_items 2), .int (va0_sheets_e_lane 2), .int (va0_sheets_e_length 2)]), ((a0_sheets_e_items 2), aJ E 24 (va0_sheets_e_items 2)), ((a0_sheets_e 3), oB 5 [.ref (a0_sheets_e_items 3), .int (va0_sheets_e_lane 3), .int (va0_sheets_e_length 3)]), ((a0_sheets_e_items 3), aJ E 24 (va0_sheets_e_items 3))] 0
  refine g_iload_n k 1 dX7_item_0 rfl rfl ?_
  obtain ⟨o1, ho2, hf⟩ := bnd_some hf
  refine g_cs k miX7_isSheet msX7_isSheet (ctX7_isSheet (kL K) E N   x1 o1 ho2) [] (ws' := [(a0, oB 7 [.ref a0_canal, .ref a0_history, .ref a0_imageCanal, .ref a0_imageHistory, .int va0_hasImage, .ref a0_tape, .ref a0_foreteller, .ref a0_search, .ref a0_sheets]), (a0_sheets, aS E 4 (fun j => some (a0_sheets_e j))), ((a0_sheets_e 0), oB 5 [.ref (a0_sheets_e_items 0), .int (va0_sheets_e_lane 0), .int (va0_sheets_e_length 0)]), ((a0_sheets_e_items 0), aJ E 24 (va0_sheets_e_items 0)), ((a0_sheets_e 1), oB 5 [.ref (a0_sheets_e_items 1), .int (va0_sheets_e_lane 1), .int (va0_sheets_e_length 1)]), ((a0_sheets_e_items 1), aJ E 24 (va0_sheets_e_items 1)), ((a0_sheets_e 2), oB 5 [.ref (a0_sheets_e_items 2), .int (va0_sheets_e_lane 2), .int (va0_sheets_e_length 2)]), ((a0_sheets_e_items 2), aJ E 24 (va0_sheets_e_items 2)), ((a0_sheets_e 3), oB 5 [.ref (a0_sheets_e_items 3), .int (va0_sheets_e_lane 3), .int (va0_sheets_e_length 3)]), ((a0_sheets_e_items 3), aJ E 24 (va0_sheets_e_items 3))]) dX7_item_1 lkX7_266 rfl ⟨rfl, rfl⟩ ⟨by decide, by decide⟩ rfl rfl rfl (Nat.le_of_ble_eq_true rfl) rfl rfl rfl ?_
  refine g_st (st' := [.int o1]) rfl ?_
  refine g_if_eq k (tgt := 14) dX7_item_4 (by decide) (fun c3 => ?_) (fun c3 => ?_)
  · replace hf := ite_t c3 hf
    refine g_iconst k dX7_item_14 ic_m1 ?_
    obtain rfl := Option.some.inj hf
    exact g_iret k r dX7_item_15 ⟨rfl, rfl⟩
  · replace hf := ite_f c3 hf
    refine g_iload_n k 2 dX7_item_7 rfl rfl ?_
    obtain ⟨o4, ho5, hf⟩ := bnd_some hf
    refine g_cs k miX7_isLane msX7_isLane (ctX7_isLane (kL K) E N   x2 o4 ho5) [] (ws' := [(a0, oB 7 [.ref a0_canal, .ref a0_history, .ref a0_imageCanal, .ref a0_imageHistory, .int va0_hasImage, .ref a0_tape, .ref a0_foreteller, .ref a0_search, .ref a0_sheets]), (a0_sheets, aS E 4 (fun j => some (a0_sheets_e j))), ((a0_sheets_e 0), oB 5 [.ref (a0_sheets_e_items 0), .int (va0_sheets_e_lane 0), .int (va0_sheets_e_length 0)]), ((a0_sheets_e_items 0), aJ E 24 (va0_sheets_e_items 0)), ((a0_sheets_e 1), oB 5 [.ref (a0_sheets_e_items 1), .int (va0_sheets_e_lane 1), .int (va0_sheets_e_length 1)]), ((a0_sheets_e_items 1), aJ E 24 (va0_sheets_e_items 1)), ((a0_sheets_e 2), oB 5 [.ref (a0_sheets_e_items 2), .int (va0_sheets_e_lane 2), .int (va0_sheets_e_length 2)]), ((a0_sheets_e_items 2), aJ E 24 (va0_sheets_e_items 2)), ((a0_sheets_e 3), oB 5 [.ref (a0_sheets_e_items 3), .int (va0_sheets_e_lane 3), .int (va0_sheets_e_length 3)]), ((a0_sheets_e_items 3), aJ E 24 (va0_sheets_e_items 3))]) dX7_item_8 lkX7_269 rfl ⟨rfl, rfl⟩ ⟨by decide, by decide⟩ rfl rfl rfl (Nat.le_of_ble_eq_true rfl) rfl rfl rfl ?_
    refine g_st (st' := [.int o4]) rfl ?_
    refine g_if_ne k (tgt := 16) dX7_item_11 (by decide) (fun c6 => ?_) (fun c6 => ?_)
    · replace hf := ite_f c6 hf
      refine g_aload_n k 0 dX7_item_16 rfl rfl ?_
      refine g_get k cfX7 8 0 dX7_item_17 lkX7_56 (by decide) rfl rfl ?_
      refine g_iload_n k 1 dX7_item_20 rfl rfl ?_
      obtain ⟨κ7, hκ7, hiκ7, heκ7, hf⟩ := ixb_some hf
      refine g_aaloadS k 1 dX7_item_21 rfl hiκ7 heκ7 rfl ?_
      refine g_astore k (lv' := [(6, .ref (a0_sheets_e κ7)), (0, .ref a0), (1, .int x1), (2, .int x2), (3, .int x3), (4, .long x4)]) dX7_item_22 (by decide) rfl ?_
      refine g_aload k 0 dX7_item_24 rfl ?_
      refine g_iload_n k 3 dX7_item_26 rfl rfl ?_
      refine g_iload_n k 4 dX7_item_27 rfl rfl ?_
      refine g_iconst k dX7_item_28 ic_1 ?_
      obtain ⟨o8, ho9, hf⟩ := bnd_some hf
      refine g_cv k miX5_refusal mvX5_refusal (ctX5_refusal (kL K) E N (a0_sheets_e κ7) (a0_sheets_e_items κ7) (va0_sheets_e_lane κ7) (va0_sheets_e_length κ7) x2 x3 1 o8 ho9) [(2 + 2 * κ7)] 0 (ws' := [(a0, oB 7 [.ref a0_canal, .ref a0_history, .ref a0_imageCanal, .ref a0_imageHistory, .int va0_hasImage, .ref a0_tape, .ref a0_foreteller, .ref a0_search, .ref a0_sheets]), (a0_sheets, aS E 4 (fun j => some (a0_sheets_e j))), ((a0_sheets_e 0), oB 5 [.ref (a0_sheets_e_items 0), .int (va0_sheets_e_lane 0), .int (va0_sheets_e_length 0)]), ((a0_sheets_e_items 0), aJ E 24 (va0_sheets_e_items 0)), ((a0_sheets_e 1), oB 5 [.ref (a0_sheets_e_items 1), .int (va0_sheets_e_lane 1), .int (va0_sheets_e_length 1)]), ((a0_sheets_e_items 1), aJ E 24 (va0_sheets_e_items 1)), ((a0_sheets_e 2), oB 5 [.ref (a0_sheets_e_items 2), .int (va0_sheets_e_lane 2), .int (va0_sheets_e_length 2)]), ((a0_sheets_e_items 2), aJ E 24 (va0_sheets_e_items 2)), ((a0_sheets_e 3), oB 5 [.ref (a0_sheets_e_items 3), .int (va0_sheets_e_lane 3), .int (va0_sheets_e_length 3)]), ((a0_sheets_e_items 3), aJ E 24 (va0_sheets_e_items 3))]) dX7_item_29 lkX7_272 rfl ⟨rfl, rfl⟩ ⟨by decide, by decide⟩ (by rcases lt4 hκ7 with z|z|z|z <;> subst z <;> rfl) rfl rfl rfl (Nat.le_of_ble_eq_true rfl) (by rcases lt4 hκ7 with z|z|z|z <;> subst z <;> rfl) rfl (by rcases lt4 hκ7 with z|z|z|z <;> subst z <;> rfl) ?_
      refine g_st (st' := [.int o8]) rfl ?_
      refine g_istore k (lv' := [(7, .int o8), (6, .ref (a0_sheets_e κ7)), (0, .ref a0), (1, .int x1), (2, .int x2), (3, .int x3), (4, .long x4)]) dX7_item_32 (by decide) rfl ?_
      refine g_iload k 0 dX7_item_34 rfl ?_
      refine g_if_eq k (tgt := 42) dX7_item_36 (by decide) (fun c10 => ?_) (fun c10 => ?_)
      · replace hf := ite_t c10 hf
        refine g_aload k 1 dX7_item_42 rfl ?_
        refine g_iload_n k 5 dX7_item_44 rfl rfl ?_
        refine g_lload k 6 dX7_item_45 rfl ?_
        obtain ⟨o11, ho12, hf⟩ := bnd_some hf
        refine g_cv k miX5_put mvX5_put (ctX5_put (kL K) E N (a0_sheets_e κ7) (a0_sheets_e_items κ7) (va0_sheets_e_lane κ7) (va0_sheets_e_length κ7) (va0_sheets_e_items κ7) x3 x4 o11 ho12) [(2 + 2 * κ7), (3 + 2 * κ7)] 0 (ws' := [(a0, oB 7 [.ref a0_canal, .ref a0_history, .ref a0_imageCanal, .ref a0_imageHistory, .int va0_hasImage, .ref a0_tape, .ref a0_foreteller, .ref a0_search, .ref a0_sheets]), (a0_sheets, aS E 4 (fun j => some (a0_sheets_e j))), ((a0_sheets_e 0), oB 5 [.ref (a0_sheets_e_items 0), .int (va0_sheets_e_lane 0), .int (va0_sheets_e_length 0)]), ((a0_sheets_e_items 0), aJ E 24 ((va_up va0_sheets_e_items κ7 o11) 0)), ((a0_sheets_e 1), oB 5 [.ref (a0_sheets_e_items 1), .int (va0_sheets_e_lane 1), .int (va0_sheets_e_length 1)]), ((a0_sheets_e_items 1), aJ E 24 ((va_up va0_sheets_e_items κ7 o11) 1)), ((a0_sheets_e 2), oB 5 [.ref (a0_sheets_e_items 2), .int (va0_sheets_e_lane 2), .int (va0_sheets_e_length 2)]), ((a0_sheets_e_items 2), aJ E 24 ((va_up va0_sheets_e_items κ7 o11) 2)), ((a0_sheets_e 3), oB 5 [.ref (a0_sheets_e_items 3), .int (va0_sheets_e_lane 3), .int (va0_sheets_e_length 3)]), ((a0_sheets_e_items 3), aJ E 24 ((va_up va0_sheets_e_items κ7 o11) 3))]) dX7_item_47 lkX7_291 rfl ⟨rfl, rfl⟩ ⟨by decide, by decide⟩ (by rcases lt4 hκ7 with z|z|z|z <;> subst z <;> rfl) rfl rfl rfl (Nat.le_of_ble_eq_true rfl) (by rcases lt4 hκ7 with z|z|z|z <;> subst z <;> rfl) rfl (by rcases lt4 hκ7 with z|z|z|z <;> subst z <;> rfl) ?_
        refine g_st (st' := []) rfl ?_
        refine g_iconst k dX7_item_50 ic_1 ?_
        obtain rfl := Option.some.inj hf
        exact g_iret k r dX7_item_51 ⟨rfl, rfl⟩
      · replace hf := ite_f c10 hf
        refine g_iload k 0 dX7_item_39 rfl ?_
        obtain rfl := Option.some.inj hf
        exact g_iret k r dX7_item_41 ⟨rfl, rfl⟩
    · replace hf := ite_t c6 hf
      refine g_iconst k dX7_item_14 ic_m1 ?_
      obtain rfl := Option.some.inj hf
      exact g_iret k r dX7_item_15 ⟨rfl, rfl⟩
abbrev rmX7_copy : Room := { frames := 2, cells := 0, slots := 0, locals := 48 }
def fX7_copy (N : Nat) (va0_sheets_e_lane : Nat → Int32) (va0_sheets_e_length : Nat → Int32) (va0_sheets_e_items : Nat → Nat → Int64) (x1 : Int32) (x2 : Int32) (x3 : Int32) (x4 : Int32) (x5 : Int32) : Option (Int32 × (Nat → Nat → Int64)) :=
  bnd (fX7_isSheet N x1) fun o1 =>
  if o1 = 0 then
  some ((-1), va0_sheets_e_items)
  else
  bnd (fX7_isSheet N x3) fun o4 =>
  if o4 = 0 then
  some ((-1), va0_sheets_e_items)
  else
  ixb x1 4 fun κ7 =>
  ixb x3 4 fun κ8 =>
  bnd (fX5_isNothing N (va0_sheets_e_length κ7)) fun o9 =>
  if o9 = 0 then
  bnd (fX5_isNothing N (va0_sheets_e_length κ8)) fun o12 =>
  if o12 = 0 then
  if (va0_sheets_e_lane κ7) = (va0_sheets_e_lane κ8) then
  bnd (fX5_holds N (va0_sheets_e_length κ7) x2 x5) fun o16 =>
  if o16 = 0 then
  some ((-13), va0_sheets_e_items)
  else
  bnd (fX5_holds N (va0_sheets_e_length κ8) x4 x5) fun o19 =>
  if o19 = 0 then
  some ((-13), va0_sheets_e_items)
  else
  cpb x2 x4 x5 24 24 (some (x5, (va_up va0_sheets_e_items κ8 (va_cpy (va0_sheets_e_items κ7) (va0_sheets_e_items κ8) x2.toNatClampNeg x4.toNatClampNeg x5.toNatClampNeg))))
  else
  some ((-12), va0_sheets_e_items)
  else
  some ((-11), va0_sheets_e_items)
  else
  some ((-11), va0_sheets_e_items)
set_option maxHeartbeats 4000000 in
set_option maxRecDepth 100000 in
theorem ctX7_copy (l : Launch) (E : Ev) (N : Nat) (a0 : Nat) (a0_canal : Nat) (a0_history : Nat) (a0_imageCanal : Nat) (a0_imageHistory : Nat) (a0_tape : Nat) (a0_foreteller : Nat) (a0_search : Nat) (a0_sheets : Nat) (a0_sheets_e : Nat → Nat) (a0_sheets_e_items : Nat → Nat) (va0_hasImage : Int32) (va0_sheets_e_lane : Nat → Int32) (va0_sheets_e_length : Nat → Int32) (va0_sheets_e_items : Nat → Nat → Int64) (x1 : Int32) (x2 : Int32) (x3 : Int32) (x4 : Int32) (x5 : Int32) (out : Int32 × (Nat → Nat → Int64)) (hf : fX7_copy N va0_sheets_e_lane va0_sheets_e_length va0_sheets_e_items x1 x2 x3 x4 x5 = some out) : Ct l E yX7_copy cX7_copy 8 (some .int) rmX7_copy [.ref a0, .int x1, .int x2, .int x3, .int x4, .int x5] [(a0, oB 7 [.ref a0_canal, .ref a0_history, .ref a0_imageCanal, .ref a0_imageHistory, .int va0_hasImage, .ref a0_tape, .ref a0_foreteller, .ref a0_search, .ref a0_sheets]), (a0_sheets, aS E 4 (fun j => some (a0_sheets_e j))), ((a0_sheets_e 0), oB 5 [.ref (a0_sheets_e_items 0), .int (va0_sheets_e_lane 0), .int (va0_sheets_e_length 0)]), ((a0_sheets_e_items 0), aJ E 24 (va0_sheets_e_items 0)), ((a0_sheets_e 1), oB 5 [.ref (a0_sheets_e_items 1), .int (va0_sheets_e_lane 1), .int (va0_sheets_e_length 1)]), ((a0_sheets_e_items 1), aJ E 24 (va0_sheets_e_items 1)), ((a0_sheets_e 2), oB 5 [.ref (a0_sheets_e_items 2), .int (va0_sheets_e_lane 2), .int (va0_sheets_e_length 2)]), ((a0_sheets_e_items 2), aJ E 24 (va0_sheets_e_items 2)), ((a0_sheets_e 3), oB 5 [.ref (a0_sheets_e_items 3), .int (va0_sheets_e_lane 3), .int (va0_sheets_e_length 3)]), ((a0_sheets_e_items 3), aJ E 24 (va0_sheets_e_items 3))] (Pe (some (.int out.1)) [(a0, oB 7 [.ref a0_canal, .ref a0_history, .ref a0_imageCanal, .ref a0_imageHistory, .int va0_hasImage, .ref a0_tape, .ref a0_foreteller, .ref a0_search, .ref a0_sheets]), (a0_sheets, aS E 4 (fun j => some (a0_sheets_e j))), ((a0_sheets_e 0), oB 5 [.ref (a0_sheets_e_items 0), .int (va0_sheets_e_lane 0), .int (va0_sheets_e_length 0)]), ((a0_sheets_e_items 0), aJ E 24 (out.2 0)), ((a0_sheets_e 1), oB 5 [.ref (a0_sheets_e_items 1), .int (va0_sheets_e_lane 1), .int (va0_sheets_e_length 1)]), ((a0_sheets_e_items 1), aJ E 24 (out.2 1)), ((a0_sheets_e 2), oB 5 [.ref (a0_sheets_e_items 2), .int (va0_sheets_e_lane 2), .int (va0_sheets_e_length 2)]), ((a0_sheets_e_items 2), aJ E 24 (out.2 2)), ((a0_sheets_e 3), oB 5 [.ref (a0_sheets_e_items 3), .int (va0_sheets_e_lane 3), .int (va0_sheets_e_length 3)]), ((a0_sheets_e_items 3), aJ E 24 (out.2 3))]) := by
  refine Ct.of rfl (Nat.le_of_ble_eq_true rfl) (fun K hL k r hin => ?_)
  subst hL
  unfold fX7_copy at hf
  show G E K 8 0 0 [(0, .ref a0), (1, .int x1), (2, .int x2), (3, .int x3), (4, .int x4), (5, .int x5)] [] [(a0, oB 7 [.ref a0_canal, .ref a0_history, .ref a0_imageCanal, .ref a0_imageHistory, .int va0_hasImage, .ref a0_tape, .ref a0_foreteller, .ref a0_search, .ref a0_sheets]), (a0_sheets, aS E 4 (fun j => some (a0_sheets_e j))), ((a0_sheets_e 0), oB 5 [.ref (a0_sheets_e_items 0), .int (va0_sheets_e_lane 0), .int (va0_sheets_e_length 0)]), ((a0_sheets_e_items 0), aJ E 24 (va0_sheets_e_items 0)), ((a0_sheets_e 1), oB 5 [.ref (a0_sheets_e_items 1), .int (va0_sheets_e_lane 1), .int (va0_sheets_e_length 1)]), ((a0_sheets_e_items 1), aJ E 24 (va0_sheets_e_items 1)), ((a0_sheets_e 2), oB 5 [.ref (a0_sheets_e_items 2), .int (va0_sheets_e_lane 2), .int (va0_sheets_e_length 2)]), ((a0_sheets_e_items 2), aJ E 24 (va0_sheets_e_items 2)), ((a0_sheets_e 3), oB 5 [.ref (a0_sheets_e_items 3), .int (va0_sheets_e_lane 3), .int (va0_sheets_e_length 3)]), ((a0_sheets_e_items 3), aJ E 24 (va0_sheets_e_items 3))] 0
  refine g_iload_n k 1 dX7_copy_0 rfl rfl ?_
  obtain ⟨o1, ho2, hf⟩ := bnd_some hf
  refine g_cs k miX7_isSheet msX7_isSheet (ctX7_isSheet (kL K) E N   x1 o1 ho2) [] (ws' := [(a0, oB 7 [.ref a0_canal, .ref a0_history, .ref a0_imageCanal, .ref a0_imageHistory, .int va0_hasImage, .ref a0_tape, .ref a0_foreteller, .ref a0_search, .ref a0_sheets]), (a0_sheets, aS E 4 (fun j => some (a0_sheets_e j))), ((a0_sheets_e 0), oB 5 [.ref (a0_sheets_e_items 0), .int (va0_sheets_e_lane 0), .int (va0_sheets_e_length 0)]), ((a0_sheets_e_items 0), aJ E 24 (va0_sheets_e_items 0)), ((a0_sheets_e 1), oB 5 [.ref (a0_sheets_e_items 1), .int (va0_sheets_e_lane 1), .int (va0_sheets_e_length 1)]), ((a0_sheets_e_items 1), aJ E 24 (va0_sheets_e_items 1)), ((a0_sheets_e 2), oB 5 [.ref (a0_sheets_e_items 2), .int (va0_sheets_e_lane 2), .int (va0_sheets_e_length 2)]), ((a0_sheets_e_items 2), aJ E 24 (va0_sheets_e_items 2)), ((a0_sheets_e 3), oB 5 [.ref (a0_sheets_e_items 3), .int (va0_sheets_e_lane 3), .int (va0_sheets_e_length 3)]), ((a0_sheets_e_items 3), aJ E 24 (va0_sheets_e_items 3))]) dX7_copy_1 lkX7_266 rfl ⟨rfl, rfl⟩ ⟨by decide, by decide⟩ rfl rfl rfl (Nat.le_of_ble_eq_true rfl) rfl rfl rfl ?_
  refine g_st (st' := [.int o1]) rfl ?_
  refine g_if_eq k (tgt := 14) dX7_copy_4 (by decide) (fun c3 => ?_) (fun c3 => ?_)
  · replace hf := ite_t c3 hf
    refine g_iconst k dX7_copy_14 ic_m1 ?_
    obtain rfl := Option.some.inj hf
    exact g_iret k r dX7_copy_15 ⟨rfl, rfl⟩
  · replace hf := ite_f c3 hf
    refine g_iload_n k 3 dX7_copy_7 rfl rfl ?_
    obtain ⟨o4, ho5, hf⟩ := bnd_some hf
    refine g_cs k miX7_isSheet msX7_isSheet (ctX7_isSheet (kL K) E N   x3 o4 ho5) [] (ws' := [(a0, oB 7 [.ref a0_canal, .ref a0_history, .ref a0_imageCanal, .ref a0_imageHistory, .int va0_hasImage, .ref a0_tape, .ref a0_foreteller, .ref a0_search, .ref a0_sheets]), (a0_sheets, aS E 4 (fun j => some (a0_sheets_e j))), ((a0_sheets_e 0), oB 5 [.ref (a0_sheets_e_items 0), .int (va0_sheets_e_lane 0), .int (va0_sheets_e_length 0)]), ((a0_sheets_e_items 0), aJ E 24 (va0_sheets_e_items 0)), ((a0_sheets_e 1), oB 5 [.ref (a0_sheets_e_items 1), .int (va0_sheets_e_lane 1), .int (va0_sheets_e_length 1)]), ((a0_sheets_e_items 1), aJ E 24 (va0_sheets_e_items 1)), ((a0_sheets_e 2), oB 5 [.ref (a0_sheets_e_items 2), .int (va0_sheets_e_lane 2), .int (va0_sheets_e_length 2)]), ((a0_sheets_e_items 2), aJ E 24 (va0_sheets_e_items 2)), ((a0_sheets_e 3), oB 5 [.ref (a0_sheets_e_items 3), .int (va0_sheets_e_lane 3), .int (va0_sheets_e_length 3)]), ((a0_sheets_e_items 3), aJ E 24 (va0_sheets_e_items 3))]) dX7_copy_8 lkX7_266 rfl ⟨rfl, rfl⟩ ⟨by decide, by decide⟩ rfl rfl rfl (Nat.le_of_ble_eq_true rfl) rfl rfl rfl ?_
    refine g_st (st' := [.int o4]) rfl ?_
    refine g_if_ne k (tgt := 16) dX7_copy_11 (by decide) (fun c6 => ?_) (fun c6 => ?_)
    · replace hf := ite_f c6 hf
      refine g_aload_n k 0 dX7_copy_16 rfl rfl ?_
      refine g_get k cfX7 8 0 dX7_copy_17 lkX7_56 (by decide) rfl rfl ?_
      refine g_iload_n k 1 dX7_copy_20 rfl rfl ?_
      obtain ⟨κ7, hκ7, hiκ7, heκ7, hf⟩ := ixb_some hf
      refine g_aaloadS k 1 dX7_copy_21 rfl hiκ7 heκ7 rfl ?_
      refine g_astore k (lv' := [(6, .ref (a0_sheets_e κ7)), (0, .ref a0), (1, .int x1), (2, .int x2), (3, .int x3), (4, .int x4), (5, .int x5)]) dX7_copy_22 (by decide) rfl ?_
      refine g_aload_n k 1 dX7_copy_24 rfl rfl ?_
      refine g_get k cfX7 8 0 dX7_copy_25 lkX7_56 (by decide) rfl rfl ?_
      refine g_iload_n k 4 dX7_copy_28 rfl rfl ?_
      obtain ⟨κ8, hκ8, hiκ8, heκ8, hf⟩ := ixb_some hf
      refine g_aaloadS k 1 dX7_copy_29 rfl hiκ8 heκ8 rfl ?_
      refine g_astore k (lv' := [(7, .ref (a0_sheets_e κ8)), (6, .ref (a0_sheets_e κ7)), (0, .ref a0), (1, .int x1), (2, .int x2), (3, .int x3), (4, .int x4), (5, .int x5)]) dX7_copy_30 (by decide) rfl ?_
      refine g_aload k 1 dX7_copy_32 rfl ?_
      obtain ⟨o9, ho10, hf⟩ := bnd_some hf
      refine g_cv k miX5_isNothing mvX5_isNothing (ctX5_isNothing (kL K) E N (a0_sheets_e κ7) (a0_sheets_e_items κ7) (va0_sheets_e_lane κ7) (va0_sheets_e_length κ7)  o9 ho10) [(2 + 2 * κ7)] 0 (ws' := [(a0, oB 7 [.ref a0_canal, .ref a0_history, .ref a0_imageCanal, .ref a0_imageHistory, .int va0_hasImage, .ref a0_tape, .ref a0_foreteller, .ref a0_search, .ref a0_sheets]), (a0_sheets, aS E 4 (fun j => some (a0_sheets_e j))), ((a0_sheets_e 0), oB 5 [.ref (a0_sheets_e_items 0), .int (va0_sheets_e_lane 0), .int (va0_sheets_e_length 0)]), ((a0_sheets_e_items 0), aJ E 24 (va0_sheets_e_items 0)), ((a0_sheets_e 1), oB 5 [.ref (a0_sheets_e_items 1), .int (va0_sheets_e_lane 1), .int (va0_sheets_e_length 1)]), ((a0_sheets_e_items 1), aJ E 24 (va0_sheets_e_items 1)), ((a0_sheets_e 2), oB 5 [.ref (a0_sheets_e_items 2), .int (va0_sheets_e_lane 2), .int (va0_sheets_e_length 2)]), ((a0_sheets_e_items 2), aJ E 24 (va0_sheets_e_items 2)), ((a0_sheets_e 3), oB 5 [.ref (a0_sheets_e_items 3), .int (va0_sheets_e_lane 3), .int (va0_sheets_e_length 3)]), ((a0_sheets_e_items 3), aJ E 24 (va0_sheets_e_items 3))]) dX7_copy_34 lkX7_299 rfl ⟨rfl, rfl⟩ ⟨by decide, by decide⟩ (by rcases lt4 hκ7 with z|z|z|z <;> subst z <;> rfl) rfl rfl rfl (Nat.le_of_ble_eq_true rfl) (by rcases lt4 hκ7 with z|z|z|z <;> subst z <;> rfl) rfl (by rcases lt4 hκ7 with z|z|z|z <;> subst z <;> rfl) ?_
      refine g_st (st' := [.int o9]) rfl ?_
      refine g_if_ne k (tgt := 48) dX7_copy_37 (by decide) (fun c11 => ?_) (fun c11 => ?_)
      · replace hf := ite_f c11 hf
        refine g_bipush k dX7_copy_48 bi_m11 ?_
        obtain rfl := Option.some.inj hf
        exact g_iret k r dX7_copy_50 ⟨rfl, rfl⟩
      · replace hf := ite_t c11 hf
        refine g_aload k 0 dX7_copy_40 rfl ?_
        obtain ⟨o12, ho13, hf⟩ := bnd_some hf
        refine g_cv k miX5_isNothing mvX5_isNothing (ctX5_isNothing (kL K) E N (a0_sheets_e κ8) (a0_sheets_e_items κ8) (va0_sheets_e_lane κ8) (va0_sheets_e_length κ8)  o12 ho13) [(2 + 2 * κ8)] 0 (ws' := [(a0, oB 7 [.ref a0_canal, .ref a0_history, .ref a0_imageCanal, .ref a0_imageHistory, .int va0_hasImage, .ref a0_tape, .ref a0_foreteller, .ref a0_search, .ref a0_sheets]), (a0_sheets, aS E 4 (fun j => some (a0_sheets_e j))), ((a0_sheets_e 0), oB 5 [.ref (a0_sheets_e_items 0), .int (va0_sheets_e_lane 0), .int (va0_sheets_e_length 0)]), ((a0_sheets_e_items 0), aJ E 24 (va0_sheets_e_items 0)), ((a0_sheets_e 1), oB 5 [.ref (a0_sheets_e_items 1), .int (va0_sheets_e_lane 1), .int (va0_sheets_e_length 1)]), ((a0_sheets_e_items 1), aJ E 24 (va0_sheets_e_items 1)), ((a0_sheets_e 2), oB 5 [.ref (a0_sheets_e_items 2), .int (va0_sheets_e_lane 2), .int (va0_sheets_e_length 2)]), ((a0_sheets_e_items 2), aJ E 24 (va0_sheets_e_items 2)), ((a0_sheets_e 3), oB 5 [.ref (a0_sheets_e_items 3), .int (va0_sheets_e_lane 3), .int (va0_sheets_e_length 3)]), ((a0_sheets_e_items 3), aJ E 24 (va0_sheets_e_items 3))]) dX7_copy_42 lkX7_299 rfl ⟨rfl, rfl⟩ ⟨by decide, by decide⟩ (by rcases lt4 hκ8 with z|z|z|z <;> subst z <;> rfl) rfl rfl rfl (Nat.le_of_ble_eq_true rfl) (by rcases lt4 hκ8 with z|z|z|z <;> subst z <;> rfl) rfl (by rcases lt4 hκ8 with z|z|z|z <;> subst z <;> rfl) ?_
        refine g_st (st' := [.int o12]) rfl ?_
        refine g_if_eq k (tgt := 51) dX7_copy_45 (by decide) (fun c14 => ?_) (fun c14 => ?_)
        · replace hf := ite_t c14 hf
          refine g_aload k 1 dX7_copy_51 rfl ?_
          refine g_get k cfX5 1 (2 + 2 * κ7) (fs := [.ref (a0_sheets_e_items κ7), .int (va0_sheets_e_lane κ7), .int (va0_sheets_e_length κ7)]) dX7_copy_53 lkX7_306 (by decide) (by rcases lt4 hκ7 with z|z|z|z <;> subst z <;> rfl) rfl ?_
          refine g_aload k 0 dX7_copy_56 rfl ?_
          refine g_get k cfX5 1 (2 + 2 * κ8) (fs := [.ref (a0_sheets_e_items κ8), .int (va0_sheets_e_lane κ8), .int (va0_sheets_e_length κ8)]) dX7_copy_58 lkX7_306 (by decide) (by rcases lt4 hκ8 with z|z|z|z <;> subst z <;> rfl) rfl ?_
          refine g_icmp_eq k (tgt := 67) dX7_copy_61 (by decide) (fun c15 => ?_) (fun c15 => ?_)
          · replace hf := ite_t c15 hf
            refine g_aload k 1 dX7_copy_67 rfl ?_
            refine g_iload_n k 4 dX7_copy_69 rfl rfl ?_
            refine g_iload k 7 dX7_copy_70 rfl ?_
            obtain ⟨o16, ho17, hf⟩ := bnd_some hf
            refine g_cv k miX5_holds mvX5_holds (ctX5_holds (kL K) E N (a0_sheets_e κ7) (a0_sheets_e_items κ7) (va0_sheets_e_lane κ7) (va0_sheets_e_length κ7) x2 x5 o16 ho17) [(2 + 2 * κ7)] 0 (ws' := [(a0, oB 7 [.ref a0_canal, .ref a0_history, .ref a0_imageCanal, .ref a0_imageHistory, .int va0_hasImage, .ref a0_tape, .ref a0_foreteller, .ref a0_search, .ref a0_sheets]), (a0_sheets, aS E 4 (fun j => some (a0_sheets_e j))), ((a0_sheets_e 0), oB 5 [.ref (a0_sheets_e_items 0), .int (va0_sheets_e_lane 0), .int (va0_sheets_e_length 0)]), ((a0_sheets_e_items 0), aJ E 24 (va0_sheets_e_items 0)), ((a0_sheets_e 1), oB 5 [.ref (a0_sheets_e_items 1), .int (va0_sheets_e_lane 1), .int (va0_sheets_e_length 1)]), ((a0_sheets_e_items 1), aJ E 24 (va0_sheets_e_items 1)), ((a0_sheets_e 2), oB 5 [.ref (a0_sheets_e_items 2), .int (va0_sheets_e_lane 2), .int (va0_sheets_e_length 2)]), ((a0_sheets_e_items 2), aJ E 24 (va0_sheets_e_items 2)), ((a0_sheets_e 3), oB 5 [.ref (a0_sheets_e_items 3), .int (va0_sheets_e_lane 3), .int (va0_sheets_e_length 3)]), ((a0_sheets_e_items 3), aJ E 24 (va0_sheets_e_items 3))]) dX7_copy_72 lkX7_309 rfl ⟨rfl, rfl⟩ ⟨by decide, by decide⟩ (by rcases lt4 hκ7 with z|z|z|z <;> subst z <;> rfl) rfl rfl rfl (Nat.le_of_ble_eq_true rfl) (by rcases lt4 hκ7 with z|z|z|z <;> subst z <;> rfl) rfl (by rcases lt4 hκ7 with z|z|z|z <;> subst z <;> rfl) ?_
            refine g_st (st' := [.int o16]) rfl ?_
            refine g_if_eq k (tgt := 90) dX7_copy_75 (by decide) (fun c18 => ?_) (fun c18 => ?_)
            · replace hf := ite_t c18 hf
              refine g_bipush k dX7_copy_90 bi_m13 ?_
              obtain rfl := Option.some.inj hf
              exact g_iret k r dX7_copy_92 ⟨rfl, rfl⟩
            · replace hf := ite_f c18 hf
              refine g_aload k 0 dX7_copy_78 rfl ?_
              refine g_iload k 6 dX7_copy_80 rfl ?_
              refine g_iload k 7 dX7_copy_82 rfl ?_
              obtain ⟨o19, ho20, hf⟩ := bnd_some hf
              refine g_cv k miX5_holds mvX5_holds (ctX5_holds (kL K) E N (a0_sheets_e κ8) (a0_sheets_e_items κ8) (va0_sheets_e_lane κ8) (va0_sheets_e_length κ8) x4 x5 o19 ho20) [(2 + 2 * κ8)] 0 (ws' := [(a0, oB 7 [.ref a0_canal, .ref a0_history, .ref a0_imageCanal, .ref a0_imageHistory, .int va0_hasImage, .ref a0_tape, .ref a0_foreteller, .ref a0_search, .ref a0_sheets]), (a0_sheets, aS E 4 (fun j => some (a0_sheets_e j))), ((a0_sheets_e 0), oB 5 [.ref (a0_sheets_e_items 0), .int (va0_sheets_e_lane 0), .int (va0_sheets_e_length 0)]), ((a0_sheets_e_items 0), aJ E 24 (va0_sheets_e_items 0)), ((a0_sheets_e 1), oB 5 [.ref (a0_sheets_e_items 1), .int (va0_sheets_e_lane 1), .int (va0_sheets_e_length 1)]), ((a0_sheets_e_items 1), aJ E 24 (va0_sheets_e_items 1)), ((a0_sheets_e 2), oB 5 [.ref (a0_sheets_e_items 2), .int (va0_sheets_e_lane 2), .int (va0_sheets_e_length 2)]), ((a0_sheets_e_items 2), aJ E 24 (va0_sheets_e_items 2)), ((a0_sheets_e 3), oB 5 [.ref (a0_sheets_e_items 3), .int (va0_sheets_e_lane 3), .int (va0_sheets_e_length 3)]), ((a0_sheets_e_items 3), aJ E 24 (va0_sheets_e_items 3))]) dX7_copy_84 lkX7_309 rfl ⟨rfl, rfl⟩ ⟨by decide, by decide⟩ (by rcases lt4 hκ8 with z|z|z|z <;> subst z <;> rfl) rfl rfl rfl (Nat.le_of_ble_eq_true rfl) (by rcases lt4 hκ8 with z|z|z|z <;> subst z <;> rfl) rfl (by rcases lt4 hκ8 with z|z|z|z <;> subst z <;> rfl) ?_
              refine g_st (st' := [.int o19]) rfl ?_
              refine g_if_ne k (tgt := 93) dX7_copy_87 (by decide) (fun c21 => ?_) (fun c21 => ?_)
              · replace hf := ite_f c21 hf
                refine g_aload k 1 dX7_copy_93 rfl ?_
                refine g_get k cfX5 0 (2 + 2 * κ7) (fs := [.ref (a0_sheets_e_items κ7), .int (va0_sheets_e_lane κ7), .int (va0_sheets_e_length κ7)]) dX7_copy_95 lkX7_276 (by decide) (by rcases lt4 hκ7 with z|z|z|z <;> subst z <;> rfl) rfl ?_
                refine g_iload_n k 4 dX7_copy_98 rfl rfl ?_
                refine g_aload k 0 dX7_copy_99 rfl ?_
                refine g_get k cfX5 0 (2 + 2 * κ8) (fs := [.ref (a0_sheets_e_items κ8), .int (va0_sheets_e_lane κ8), .int (va0_sheets_e_length κ8)]) dX7_copy_101 lkX7_276 (by decide) (by rcases lt4 hκ8 with z|z|z|z <;> subst z <;> rfl) rfl ?_
                refine g_iload k 6 dX7_copy_104 rfl ?_
                refine g_iload k 7 dX7_copy_106 rfl ?_
                obtain ⟨hc22, hf⟩ := cpb_some hf
                refine g_copyJ k (3 + 2 * κ7) (3 + 2 * κ8) (f := (va0_sheets_e_items κ7)) (g := (va0_sheets_e_items κ8)) (ws' := [(a0, oB 7 [.ref a0_canal, .ref a0_history, .ref a0_imageCanal, .ref a0_imageHistory, .int va0_hasImage, .ref a0_tape, .ref a0_foreteller, .ref a0_search, .ref a0_sheets]), (a0_sheets, aS E 4 (fun j => some (a0_sheets_e j))), ((a0_sheets_e 0), oB 5 [.ref (a0_sheets_e_items 0), .int (va0_sheets_e_lane 0), .int (va0_sheets_e_length 0)]), ((a0_sheets_e_items 0), aJ E 24 ((va_up va0_sheets_e_items κ8 (va_cpy (va0_sheets_e_items κ7) (va0_sheets_e_items κ8) x2.toNatClampNeg x4.toNatClampNeg x5.toNatClampNeg)) 0)), ((a0_sheets_e 1), oB 5 [.ref (a0_sheets_e_items 1), .int (va0_sheets_e_lane 1), .int (va0_sheets_e_length 1)]), ((a0_sheets_e_items 1), aJ E 24 ((va_up va0_sheets_e_items κ8 (va_cpy (va0_sheets_e_items κ7) (va0_sheets_e_items κ8) x2.toNatClampNeg x4.toNatClampNeg x5.toNatClampNeg)) 1)), ((a0_sheets_e 2), oB 5 [.ref (a0_sheets_e_items 2), .int (va0_sheets_e_lane 2), .int (va0_sheets_e_length 2)]), ((a0_sheets_e_items 2), aJ E 24 ((va_up va0_sheets_e_items κ8 (va_cpy (va0_sheets_e_items κ7) (va0_sheets_e_items κ8) x2.toNatClampNeg x4.toNatClampNeg x5.toNatClampNeg)) 2)), ((a0_sheets_e 3), oB 5 [.ref (a0_sheets_e_items 3), .int (va0_sheets_e_lane 3), .int (va0_sheets_e_length 3)]), ((a0_sheets_e_items 3), aJ E 24 ((va_up va0_sheets_e_items κ8 (va_cpy (va0_sheets_e_items κ7) (va0_sheets_e_items κ8) x2.toNatClampNeg x4.toNatClampNeg x5.toNatClampNeg)) 3))]) dX7_copy_108 lkX7_313 (by rcases lt4 hκ7 with z|z|z|z <;> subst z <;> rfl) (by rcases lt4 hκ8 with z|z|z|z <;> subst z <;> rfl) hc22.1 hc22.2.1 hc22.2.2.1 hc22.2.2.2.1 hc22.2.2.2.2 (by decide) (Nat.le_of_ble_eq_true rfl) rfl rfl rfl (by rcases lt4 hκ8 with z|z|z|z <;> subst z <;> rfl) ?_
                refine g_iload k 7 dX7_copy_111 rfl ?_
                obtain rfl := Option.some.inj hf
                exact g_iret k r dX7_copy_113 ⟨rfl, rfl⟩
              · replace hf := ite_t c21 hf
                refine g_bipush k dX7_copy_90 bi_m13 ?_
                obtain rfl := Option.some.inj hf
                exact g_iret k r dX7_copy_92 ⟨rfl, rfl⟩
          · replace hf := ite_f c15 hf
            refine g_bipush k dX7_copy_64 bi_m12 ?_
            obtain rfl := Option.some.inj hf
            exact g_iret k r dX7_copy_66 ⟨rfl, rfl⟩
        · replace hf := ite_f c14 hf
          refine g_bipush k dX7_copy_48 bi_m11 ?_
          obtain rfl := Option.some.inj hf
          exact g_iret k r dX7_copy_50 ⟨rfl, rfl⟩
    · replace hf := ite_t c6 hf
      refine g_iconst k dX7_copy_14 ic_m1 ?_
      obtain rfl := Option.some.inj hf
      exact g_iret k r dX7_copy_15 ⟨rfl, rfl⟩
