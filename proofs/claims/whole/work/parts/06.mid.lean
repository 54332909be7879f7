abbrev rmX2_keep : Room := { frames := 2, cells := 0, slots := 0, locals := 69 }
def fX2_keep (N : Nat) (va0_next : Int32) (va0_known : Int32) (va0_moments_e_boat : Nat → Int32) (va0_moments_e_minute : Nat → Int32) (va0_moments_e_draw : Nat → Int32) (va0_moments_e_ice : Nat → Nat → Int32) (va0_moments_e_juice : Nat → Nat → Int32) (va0_moments_e_fors : Nat → Nat → Int32) (va1_boat : Int32) (va1_minute : Int32) (va1_draw : Int32) (va1_ice : Nat → Int32) (va1_juice : Nat → Int32) (va1_fors : Nat → Int32)  : Option (Int32 × Int32 × (Nat → Int32) × (Nat → Int32) × (Nat → Int32) × (Nat → Nat → Int32) × (Nat → Nat → Int32) × (Nat → Nat → Int32)) :=
  ixb va0_next 8 fun κ1 =>
  bnd (fX3_take N (va0_moments_e_boat κ1) (va0_moments_e_minute κ1) (va0_moments_e_draw κ1) (va0_moments_e_ice κ1) (va0_moments_e_juice κ1) (va0_moments_e_fors κ1) va1_boat va1_minute va1_draw va1_ice va1_juice va1_fors) fun o2 =>
  some ((irem (va0_next + 1) 8), (imin 8 (va0_known + 1)), (va_up va0_moments_e_boat κ1 o2.1), (va_up va0_moments_e_minute κ1 o2.2.1), (va_up va0_moments_e_draw κ1 o2.2.2.1), (va_up va0_moments_e_ice κ1 o2.2.2.2.1), (va_up va0_moments_e_juice κ1 o2.2.2.2.2.1), (va_up va0_moments_e_fors κ1 o2.2.2.2.2.2))
set_option maxHeartbeats 4000000 in
set_option maxRecDepth 100000 in
theorem ctX2_keep (l : Launch) (E : Ev) (N : Nat) (a0 : Nat) (a0_moments : Nat) (a0_moments_e : Nat → Nat) (a0_moments_e_ice : Nat → Nat) (a0_moments_e_juice : Nat → Nat) (a0_moments_e_fors : Nat → Nat) (a1 : Nat) (a1_ice : Nat) (a1_juice : Nat) (a1_fors : Nat) (va0_next : Int32) (va0_known : Int32) (va0_moments_e_boat : Nat → Int32) (va0_moments_e_minute : Nat → Int32) (va0_moments_e_draw : Nat → Int32) (va0_moments_e_ice : Nat → Nat → Int32) (va0_moments_e_juice : Nat → Nat → Int32) (va0_moments_e_fors : Nat → Nat → Int32) (va1_boat : Int32) (va1_minute : Int32) (va1_draw : Int32) (va1_ice : Nat → Int32) (va1_juice : Nat → Int32) (va1_fors : Nat → Int32)  (out : Int32 × Int32 × (Nat → Int32) × (Nat → Int32) × (Nat → Int32) × (Nat → Nat → Int32) × (Nat → Nat → Int32) × (Nat → Nat → Int32)) (hf : fX2_keep N va0_next va0_known va0_moments_e_boat va0_moments_e_minute va0_moments_e_draw va0_moments_e_ice va0_moments_e_juice va0_moments_e_fors va1_boat va1_minute va1_draw va1_ice va1_juice va1_fors  = some out) : Ct l E yX2_keep cX2_keep 2 none rmX2_keep [.ref a0, .ref a1] [(a0, oB 2 [.ref a0_moments, .int va0_next, .int va0_known]), (a0_moments, aM E 8 (fun j => some (a0_moments_e j))), ((a0_moments_e 0), oB 3 [.ref (a0_moments_e_ice 0), .ref (a0_moments_e_juice 0), .ref (a0_moments_e_fors 0), .int (va0_moments_e_boat 0), .int (va0_moments_e_minute 0), .int (va0_moments_e_draw 0)]), ((a0_moments_e_ice 0), aI E 12 (va0_moments_e_ice 0)), ((a0_moments_e_juice 0), aI E 5 (va0_moments_e_juice 0)), ((a0_moments_e_fors 0), aI E 5 (va0_moments_e_fors 0)), ((a0_moments_e 1), oB 3 [.ref (a0_moments_e_ice 1), .ref (a0_moments_e_juice 1), .ref (a0_moments_e_fors 1), .int (va0_moments_e_boat 1), .int (va0_moments_e_minute 1), .int (va0_moments_e_draw 1)]), ((a0_moments_e_ice 1), aI E 12 (va0_moments_e_ice 1)), ((a0_moments_e_juice 1), aI E 5 (va0_moments_e_juice 1)), ((a0_moments_e_fors 1), aI E 5 (va0_moments_e_fors 1)), ((a0_moments_e 2), oB 3 [.ref (a0_moments_e_ice 2), .ref (a0_moments_e_juice 2), .ref (a0_moments_e_fors 2), .int (va0_moments_e_boat 2), .int (va0_moments_e_minute 2), .int (va0_moments_e_draw 2)]), ((a0_moments_e_ice 2), aI E 12 (va0_moments_e_ice 2)), ((a0_moments_e_juice 2), aI E 5 (va0_moments_e_juice 2)), ((a0_moments_e_fors 2), aI E 5 (va0_moments_e_fors 2)), ((a0_moments_e 3), oB 3 [.ref (a0_moments_e_ice 3), .ref (a0_moments_e_juice 3), .ref (a0_moments_e_fors 3), .int (va0_moments_e_boat 3), .int (va0_moments_e_minute 3), .int (va0_moments_e_draw 3)]), ((a0_moments_e_ice 3), aI E 12 (va0_moments_e_ice 3)), ((a0_moments_e_juice 3), aI E 5 (va0_moments_e_juice 3)), ((a0_moments_e_fors 3), aI E 5 (va0_moments_e_fors 3)), ((a0_moments_e 4), oB 3 [.ref (a0_moments_e_ice 4), .ref (a0_moments_e_juice 4), .ref (a0_moments_e_fors 4), .int (va0_moments_e_boat 4), .int (va0_moments_e_minute 4), .int (va0_moments_e_draw 4)]), ((a0_moments_e_ice 4), aI E 12 (va0_moments_e_ice 4)), ((a0_moments_e_juice 4), aI E 5 (va0_moments_e_juice 4)), ((a0_moments_e_fors 4), aI E 5 (va0_moments_e_fors 4)), ((a0_moments_e 5), oB 3 [.ref (a0_moments_e_ice 5), .ref (a0_moments_e_juice 5), .ref (a0_moments_e_fors 5), .int (va0_moments_e_boat 5), .int (va0_moments_e_minute 5), .int (va0_moments_e_draw 5)]), ((a0_moments_e_ice 5), aI E 12 (va0_moments_e_ice 5)), ((a0_moments_e_juice 5), aI E 5 (va0_moments_e_juice 5)), ((a0_moments_e_fors 5), aI E 5 (va0_moments_e_fors 5)), ((a0_moments_e 6), oB 3 [.ref (a0_moments_e_ice 6), .ref (a0_moments_e_juice 6), .ref (a0_moments_e_fors 6), .int (va0_moments_e_boat 6), .int (va0_moments_e_minute 6), .int (va0_moments_e_draw 6)]), ((a0_moments_e_ice 6), aI E 12 (va0_moments_e_ice 6)), ((a0_moments_e_juice 6), aI E 5 (va0_moments_e_juice 6)), ((a0_moments_e_fors 6), aI E 5 (va0_moments_e_fors 6)), ((a0_moments_e 7), oB 3 [.ref (a0_moments_e_ice 7), .ref (a0_moments_e_juice 7), .ref (a0_moments_e_fors 7), .int (va0_moments_e_boat 7), .int (va0_moments_e_minute 7), .int (va0_moments_e_draw 7)]), ((a0_moments_e_ice 7), aI E 12 (va0_moments_e_ice 7)), ((a0_moments_e_juice 7), aI E 5 (va0_moments_e_juice 7)), ((a0_moments_e_fors 7), aI E 5 (va0_moments_e_fors 7)), (a1, oB 3 [.ref a1_ice, .ref a1_juice, .ref a1_fors, .int va1_boat, .int va1_minute, .int va1_draw]), (a1_ice, aI E 12 va1_ice), (a1_juice, aI E 5 va1_juice), (a1_fors, aI E 5 va1_fors)] (Pe none [(a0, oB 2 [.ref a0_moments, .int out.1, .int out.2.1]), (a0_moments, aM E 8 (fun j => some (a0_moments_e j))), ((a0_moments_e 0), oB 3 [.ref (a0_moments_e_ice 0), .ref (a0_moments_e_juice 0), .ref (a0_moments_e_fors 0), .int (out.2.2.1 0), .int (out.2.2.2.1 0), .int (out.2.2.2.2.1 0)]), ((a0_moments_e_ice 0), aI E 12 (out.2.2.2.2.2.1 0)), ((a0_moments_e_juice 0), aI E 5 (out.2.2.2.2.2.2.1 0)), ((a0_moments_e_fors 0), aI E 5 (out.2.2.2.2.2.2.2 0)), ((a0_moments_e 1), oB 3 [.ref (a0_moments_e_ice 1), .ref (a0_moments_e_juice 1), .ref (a0_moments_e_fors 1), .int (out.2.2.1 1), .int (out.2.2.2.1 1), .int (out.2.2.2.2.1 1)]), ((a0_moments_e_ice 1), aI E 12 (out.2.2.2.2.2.1 1)), ((a0_moments_e_juice 1), aI E 5 (out.2.2.2.2.2.2.1 1)), ((a0_moments_e_fors 1), aI E 5 (out.2.2.2.2.2.2.2 1)), ((a0_moments_e 2), oB 3 [.ref (a0_moments_e_ice 2), .ref (a0_moments_e_juice 2), .ref (a0_moments_e_fors 2), .int (out.2.2.1 2), .int (out.2.2.2.1 2), .int (out.2.2.2.2.1 2)]), ((a0_moments_e_ice 2), aI E 12 (out.2.2.2.2.2.1 2)), ((a0_moments_e_juice 2), aI E 5 (out.2.2.2.2.2.2.1 2)), ((a0_moments_e_fors 2), aI E 5 (out.2.2.2.2.2.2.2 2)), ((a0_moments_e 3), oB 3 [.ref (a0_moments_e_ice 3), .ref (a0_moments_e_juice 3), .ref (a0_moments_e_fors 3), .int (out.2.2.1 3), .int (out.2.2.2.1 3), .int (out.2.2.2.2.1 3)]), ((a0_moments_e_ice 3), aI E 12 (out.2.2.2.2.2.1 3)), ((a0_moments_e_juice 3), aI E 5 (out.2.2.2.2.2.2.1 3)), ((a0_moments_e_fors 3), aI E 5 (out.2.2.2.2.2.2.2 3)), ((a0_moments_e 4), oB 3 [.ref (a0_moments_e_ice 4), .ref (a0_moments_e_juice 4), .ref (a0_moments_e_fors 4), .int (out.2.2.1 4), .int (out.2.2.2.1 4), .int (out.2.2.2.2.1 4)]), ((a0_moments_e_ice 4), aI E 12 (out.2.2.2.2.2.1 4)), ((a0_moments_e_juice 4), aI E 5 (out.2.2.2.2.2.2.1 4)), ((a0_moments_e_fors 4), aI E 5 (out.2.2.2.2.2.2.2 4)), ((a0_moments_e 5), oB 3 [.ref (a0_moments_e_ice 5), .ref (a0_moments_e_juice 5), .ref (a0_moments_e_fors 5), .int (out.2.2.1 5), .int (out.2.2.2.1 5), .int (out.2.2.2.2.1 5)]), ((a0_moments_e_ice 5), aI E 12 (out.2.2.2.2.2.1 5)), ((a0_moments_e_juice 5), aI E 5 (out.2.2.2.2.2.2.1 5)), ((a0_moments_e_fors 5), aI E 5 (out.2.2.2.2.2.2.2 5)), ((a0_moments_e 6), oB 3 [.ref (a0_moments_e_ice 6), .ref (a0_moments_e_juice 6), .ref (a0_moments_e_fors 6), .int (out.2.2.1 6), .int (out.2.2.2.1 6), .int (out.2.2.2.2.1 6)]), ((a0_moments_e_ice 6), aI E 12 (out.2.2.2.2.2.1 6)), ((a0_moments_e_juice 6), aI E 5 (out.2.2.2.2.2.2.1 6)), ((a0_moments_e_fors 6), aI E 5 (out.2.2.2.2.2.2.2 6)), ((a0_moments_e 7), oB 3 [.ref (a0_moments_e_ice 7), .ref (a0_moments_e_juice 7), .ref (a0_moments_e_fors 7), .int (out.2.2.1 7), .int (out.2.2.2.1 7), .int (out.2.2.2.2.1 7)]), ((a0_moments_e_ice 7), aI E 12 (out.2.2.2.2.2.1 7)), ((a0_moments_e_juice 7), aI E 5 (out.2.2.2.2.2.2.1 7)), ((a0_moments_e_fors 7), aI E 5 (out.2.2.2.2.2.2.2 7)), (a1, oB 3 [.ref a1_ice, .ref a1_juice, .ref a1_fors, .int va1_boat, .int va1_minute, .int va1_draw]), (a1_ice, aI E 12 va1_ice), (a1_juice, aI E 5 va1_juice), (a1_fors, aI E 5 va1_fors)]) := by
  refine Ct.of rfl (Nat.le_of_ble_eq_true rfl) (fun K hL k r hin => ?_)
  subst hL
  unfold fX2_keep at hf
  show G E K 2 0 0 [(0, .ref a0), (1, .ref a1)] [] [(a0, oB 2 [.ref a0_moments, .int va0_next, .int va0_known]), (a0_moments, aM E 8 (fun j => some (a0_moments_e j))), ((a0_moments_e 0), oB 3 [.ref (a0_moments_e_ice 0), .ref (a0_moments_e_juice 0), .ref (a0_moments_e_fors 0), .int (va0_moments_e_boat 0), .int (va0_moments_e_minute 0), .int (va0_moments_e_draw 0)]), ((a0_moments_e_ice 0), aI E 12 (va0_moments_e_ice 0)), ((a0_moments_e_juice 0), aI E 5 (va0_moments_e_juice 0)), ((a0_moments_e_fors 0), aI E 5 (va0_moments_e_fors 0)), ((a0_moments_e 1), oB 3 [.ref (a0_moments_e_ice 1), .ref (a0_moments_e_juice 1), .ref (a0_moments_e_fors 1), .int (va0_moments_e_boat 1), .int (va0_moments_e_minute 1), .int (va0_moments_e_draw 1)]), ((a0_moments_e_ice 1), aI E 12 (va0_moments_e_ice 1)), ((a0_moments_e_juice 1), aI E 5 (va0_moments_e_juice 1)), ((a0_moments_e_fors 1), aI E 5 (va0_moments_e_fors 1)), ((a0_moments_e 2), oB 3 [.ref (a0_moments_e_ice 2), .ref (a0_moments_e_juice 2), .ref (a0_moments_e_fors 2), .int (va0_moments_e_boat 2), .int (va0_moments_e_minute 2), .int (va0_moments_e_draw 2)]), ((a0_moments_e_ice 2), aI E 12 (va0_moments_e_ice 2)), ((a0_moments_e_juice 2), aI E 5 (va0_moments_e_juice 2)), ((a0_moments_e_fors 2), aI E 5 (va0_moments_e_fors 2)), ((a0_moments_e 3), oB 3 [.ref (a0_moments_e_ice 3), .ref (a0_moments_e_juice 3), .ref (a0_moments_e_fors 3), .int (va0_moments_e_boat 3), .int (va0_moments_e_minute 3), .int (va0_moments_e_draw 3)]), ((a0_moments_e_ice 3), aI E 12 (va0_moments_e_ice 3)), ((a0_moments_e_juice 3), aI E 5 (va0_moments_e_juice 3)), ((a0_moments_e_fors 3), aI E 5 (va0_moments_e_fors 3)), ((a0_moments_e 4), oB 3 [.ref (a0_moments_e_ice 4), .ref (a0_moments_e_juice 4), .ref (a0_moments_e_fors 4), .int (va0_moments_e_boat 4), .int (va0_moments_e_minute 4), .int (va0_moments_e_draw 4)]), ((a0_moments_e_ice 4), aI E 12 (va0_moments_e_ice 4)), ((a0_moments_e_juice 4), aI E 5 (va0_moments_e_juice 4)), ((a0_moments_e_fors 4), aI E 5 (va0_moments_e_fors 4)), ((a0_moments_e 5), oB 3 [.ref (a0_moments_e_ice 5), .ref (a0_moments_e_juice 5), .ref (a0_moments_e_fors 5), .int (va0_moments_e_boat 5), .int (va0_moments_e_minute 5), .int (va0_moments_e_draw 5)]), ((a0_moments_e_ice 5), aI E 12 (va0_moments_e_ice 5)), ((a0_moments_e_juice 5), aI E 5 (va0_moments_e_juice 5)), ((a0_moments_e_fors 5), aI E 5 (va0_moments_e_fors 5)), ((a0_moments_e 6), oB 3 [.ref (a0_moments_e_ice 6), .ref (a0_moments_e_juice 6), .ref (a0_moments_e_fors 6), .int (va0_moments_e_boat 6), .int (va0_moments_e_minute 6), .int (va0_moments_e_draw 6)]), ((a0_moments_e_ice 6), aI E 12 (va0_moments_e_ice 6)), ((a0_moments_e_juice 6), aI E 5 (va0_moments_e_juice 6)), ((a0_moments_e_fors 6), aI E 5 (va0_moments_e_fors 6)), ((a0_moments_e 7), oB 3 [.ref (a0_moments_e_ice 7), .ref (a0_moments_e_juice 7), .ref (a0_moments_e_fors 7), .int (va0_moments_e_boat 7), .int (va0_moments_e_minute 7), .int (va0_moments_e_draw 7)]), ((a0_moments_e_ice 7), aI E 12 (va0_moments_e_ice 7)), ((a0_moments_e_juice 7), aI E 5 (va0_moments_e_juice 7)), ((a0_moments_e_fors 7), aI E 5 (va0_moments_e_fors 7)), (a1, oB 3 [.ref a1_ice, .ref a1_juice, .ref a1_fors, .int va1_boat, .int va1_minute, .int va1_draw]), (a1_ice, aI E 12 va1_ice), (a1_juice, aI E 5 va1_juice), (a1_fors, aI E 5 va1_fors)] 0
  refine g_aload_n k 0 dX2_keep_0 rfl rfl ?_
  refine g_get k cfX2 0 0 dX2_keep_1 lkX2_11 (by decide) rfl rfl ?_
  refine g_aload_n k 0 dX2_keep_4 rfl rfl ?_
  refine g_get k cfX2 1 0 dX2_keep_5 lkX2_15 (by decide) rfl rfl ?_
  obtain ⟨κ1, hκ1, hiκ1, heκ1, hf⟩ := ixb_some hf
  refine g_aaloadM k 1 dX2_keep_8 rfl hiκ1 heκ1 rfl ?_
  refine g_aload_n k 1 dX2_keep_9 rfl rfl ?_
  obtain ⟨o2, ho3, hf⟩ := bnd_some hf
  refine g_cv k miX3_take mvX3_take (ctX3_take (kL K) E N (a0_moments_e κ1) (a0_moments_e_ice κ1) (a0_moments_e_juice κ1) (a0_moments_e_fors κ1) a1 a1_ice a1_juice a1_fors (va0_moments_e_boat κ1) (va0_moments_e_minute κ1) (va0_moments_e_draw κ1) (va0_moments_e_ice κ1) (va0_moments_e_juice κ1) (va0_moments_e_fors κ1) va1_boat va1_minute va1_draw va1_ice va1_juice va1_fors  o2 ho3) [(2 + 4 * κ1), (3 + 4 * κ1), (4 + 4 * κ1), (5 + 4 * κ1), 34, 35, 36, 37] 0 (ws' := [(a0, oB 2 [.ref a0_moments, .int va0_next, .int va0_known]), (a0_moments, aM E 8 (fun j => some (a0_moments_e j))), ((a0_moments_e 0), oB 3 [.ref (a0_moments_e_ice 0), .ref (a0_moments_e_juice 0), .ref (a0_moments_e_fors 0), .int ((va_up va0_moments_e_boat κ1 o2.1) 0), .int ((va_up va0_moments_e_minute κ1 o2.2.1) 0), .int ((va_up va0_moments_e_draw κ1 o2.2.2.1) 0)]), ((a0_moments_e_ice 0), aI E 12 ((va_up va0_moments_e_ice κ1 o2.2.2.2.1) 0)), ((a0_moments_e_juice 0), aI E 5 ((va_up va0_moments_e_juice κ1 o2.2.2.2.2.1) 0)), ((a0_moments_e_fors 0), aI E 5 ((va_up va0_moments_e_fors κ1 o2.2.2.2.2.2) 0)), ((a0_moments_e 1), oB 3 [.ref (a0_moments_e_ice 1), .ref (a0_moments_e_juice 1), .ref (a0_moments_e_fors 1), .int ((va_up va0_moments_e_boat κ1 o2.1) 1), .int ((va_up va0_moments_e_minute κ1 o2.2.1) 1), .int ((va_up va0_moments_e_draw κ1 o2.2.2.1) 1)]), ((a0_moments_e_ice 1), aI E 12 ((va_up va0_moments_e_ice κ1 o2.2.2.2.1) 1)), ((a0_moments_e_juice 1), aI E 5 ((va_up va0_moments_e_juice κ1 o2.2.2.2.2.1) 1)), ((a0_moments_e_fors 1), aI E 5 ((va_up va0_moments_e_fors κ1 o2.2.2.2.2.2) 1)), ((a0_moments_e 2), oB 3 [.ref (a0_moments_e_ice 2), .ref (a0_moments_e_juice 2), .ref (a0_moments_e_fors 2), .int ((va_up va0_moments_e_boat κ1 o2.1) 2), .int ((va_up va0_moments_e_minute κ1 o2.2.1) 2), .int ((va_up va0_moments_e_draw κ1 o2.2.2.1) 2)]), ((a0_moments_e_ice 2), aI E 12 ((va_up va0_moments_e_ice κ1 o2.2.2.2.1) 2)), ((a0_moments_e_juice 2), aI E 5 ((va_up va0_moments_e_juice κ1 o2.2.2.2.2.1) 2)), ((a0_moments_e_fors 2), aI E 5 ((va_up va0_moments_e_fors κ1 o2.2.2.2.2.2) 2)), ((a0_moments_e 3), oB 3 [.ref (a0_moments_e_ice 3), .ref (a0_moments_e_juice 3), .ref (a0_moments_e_fors 3), .int ((va_up va0_moments_e_boat κ1 o2.1) 3), .int ((va_up va0_moments_e_minute κ1 o2.2.1) 3), .int ((va_up va0_moments_e_draw κ1 o2.2.2.1) 3)]), ((a0_moments_e_ice 3), aI E 12 ((va_up va0_moments_e_ice κ1 o2.2.2.2.1) 3)), ((a0_moments_e_juice 3), aI E 5 ((va_up va0_moments_e_juice κ1 o2.2.2.2.2.1) 3)), ((a0_moments_e_fors 3), aI E 5 ((va_up va0_moments_e_fors κ1 o2.2.2.2.2.2) 3)), ((a0_moments_e 4), oB 3 [.ref (a0_moments_e_ice 4), .ref (a0_moments_e_juice 4), .ref (a0_moments_e_fors 4), .int ((va_up va0_moments_e_boat κ1 o2.1) 4), .int ((va_up va0_moments_e_minute κ1 o2.2.1) 4), .int ((va_up va0_moments_e_draw κ1 o2.2.2.1) 4)]), ((a0_moments_e_ice 4), aI E 12 ((va_up va0_moments_e_ice κ1 o2.2.2.2.1) 4)), ((a0_moments_e_juice 4), aI E 5 ((va_up va0_moments_e_juice κ1 o2.2.2.2.2.1) 4)), ((a0_moments_e_fors 4), aI E 5 ((va_up va0_moments_e_fors κ1 o2.2.2.2.2.2) 4)), ((a0_moments_e 5), oB 3 [.ref (a0_moments_e_ice 5), .ref (a0_moments_e_juice 5), .ref (a0_moments_e_fors 5), .int ((va_up va0_moments_e_boat κ1 o2.1) 5), .int ((va_up va0_moments_e_minute κ1 o2.2.1) 5), .int ((va_up va0_moments_e_draw κ1 o2.2.2.1) 5)]), ((a0_moments_e_ice 5), aI E 12 ((va_up va0_moments_e_ice κ1 o2.2.2.2.1) 5)), ((a0_moments_e_juice 5), aI E 5 ((va_up va0_moments_e_juice κ1 o2.2.2.2.2.1) 5)), ((a0_moments_e_fors 5), aI E 5 ((va_up va0_moments_e_fors κ1 o2.2.2.2.2.2) 5)), ((a0_moments_e 6), oB 3 [.ref (a0_moments_e_ice 6), .ref (a0_moments_e_juice 6), .ref (a0_moments_e_fors 6), .int ((va_up va0_moments_e_boat κ1 o2.1) 6), .int ((va_up va0_moments_e_minute κ1 o2.2.1) 6), .int ((va_up va0_moments_e_draw κ1 o2.2.2.1) 6)]), ((a0_moments_e_ice 6), aI E 12 ((va_up va0_moments_e_ice κ1 o2.2.2.2.1) 6)), ((a0_moments_e_juice 6), aI E 5 ((va_up va0_moments_e_juice κ1 o2.2.2.2.2.1) 6)), ((a0_moments_e_fors 6), aI E 5 ((va_up va0_moments_e_fors κ1 o2.2.2.2.2.2) 6)), ((a0_moments_e 7), oB 3 [.ref (a0_moments_e_ice 7), .ref (a0_moments_e_juice 7), .ref (a0_moments_e_fors 7), .int ((va_up va0_moments_e_boat κ1 o2.1) 7), .int ((va_up va0_moments_e_minute κ1 o2.2.1) 7), .int ((va_up va0_moments_e_draw κ1 o2.2.2.1) 7)]), ((a0_moments_e_ice 7), aI E 12 ((va_up va0_moments_e_ice κ1 o2.2.2.2.1) 7)), ((a0_moments_e_juice 7), aI E 5 ((va_up va0_moments_e_juice κ1 o2.2.2.2.2.1) 7)), ((a0_moments_e_fors 7), aI E 5 ((va_up va0_moments_e_fors κ1 o2.2.2.2.2.2) 7)), (a1, oB 3 [.ref a1_ice, .ref a1_juice, .ref a1_fors, .int va1_boat, .int va1_minute, .int va1_draw]), (a1_ice, aI E 12 va1_ice), (a1_juice, aI E 5 va1_juice), (a1_fors, aI E 5 va1_fors)]) dX2_keep_10 lkX2_23 rfl ⟨rfl, rfl⟩ ⟨by decide, by decide⟩ (by rcases lt8 hκ1 with z|z|z|z|z|z|z|z <;> subst z <;> rfl) rfl rfl rfl (Nat.le_of_ble_eq_true rfl) (by rcases lt8 hκ1 with z|z|z|z|z|z|z|z <;> subst z <;> rfl) rfl (by rcases lt8 hκ1 with z|z|z|z|z|z|z|z <;> subst z <;> rfl) ?_
  refine g_st (st' := []) rfl ?_
  refine g_aload_n k 0 dX2_keep_13 rfl rfl ?_
  refine g_aload_n k 0 dX2_keep_14 rfl rfl ?_
  refine g_get k cfX2 1 0 dX2_keep_15 lkX2_15 (by decide) rfl rfl ?_
  refine g_iconst k dX2_keep_18 ic_1 ?_
  refine g_iadd k dX2_keep_19 ?_
  refine g_bipush k dX2_keep_20 bi_8 ?_
  refine g_irem k dX2_keep_22 (by decide) ?_
  refine g_put k cfX2 1 0 (ws' := [(a0, oB 2 [.ref a0_moments, .int (irem (va0_next + 1) 8), .int va0_known]), (a0_moments, aM E 8 (fun j => some (a0_moments_e j))), ((a0_moments_e 0), oB 3 [.ref (a0_moments_e_ice 0), .ref (a0_moments_e_juice 0), .ref (a0_moments_e_fors 0), .int ((va_up va0_moments_e_boat κ1 o2.1) 0), .int ((va_up va0_moments_e_minute κ1 o2.2.1) 0), .int ((va_up va0_moments_e_draw κ1 o2.2.2.1) 0)]), ((a0_moments_e_ice 0), aI E 12 ((va_up va0_moments_e_ice κ1 o2.2.2.2.1) 0)), ((a0_moments_e_juice 0), aI E 5 ((va_up va0_moments_e_juice κ1 o2.2.2.2.2.1) 0)), ((a0_moments_e_fors 0), aI E 5 ((va_up va0_moments_e_fors κ1 o2.2.2.2.2.2) 0)), ((a0_moments_e 1), oB 3 [.ref (a0_moments_e_ice 1), .ref (a0_moments_e_juice 1), .ref (a0_moments_e_fors 1), .int ((va_up va0_moments_e_boat κ1 o2.1) 1), .int ((va_up va0_moments_e_minute κ1 o2.2.1) 1), .int ((va_up va0_moments_e_draw κ1 o2.2.2.1) 1)]), ((a0_moments_e_ice 1), aI E 12 ((va_up va0_moments_e_ice κ1 o2.2.2.2.1) 1)), ((a0_moments_e_juice 1), aI E 5 ((va_up va0_moments_e_juice κ1 o2.2.2.2.2.1) 1)), ((a0_moments_e_fors 1), aI E 5 ((va_up va0_moments_e_fors κ1 o2.2.2.2.2.2) 1)), ((a0_moments_e 2), oB 3 [.ref (a0_moments_e_ice 2), .ref (a0_moments_e_juice 2), .ref (a0_moments_e_fors 2), .int ((va_up va0_moments_e_boat κ1 o2.1) 2), .int ((va_up va0_moments_e_minute κ1 o2.2.1) 2), .int ((va_up va0_moments_e_draw κ1 o2.2.2.1) 2)]), ((a0_moments_e_ice 2), aI E 12 ((va_up va0_moments_e_ice κ1 o2.2.2.2.1) 2)), ((a0_moments_e_juice 2), aI E 5 ((va_up va0_moments_e_juice κ1 o2.2.2.2.2.1) 2)), ((a0_moments_e_fors 2), aI E 5 ((va_up va0_moments_e_fors κ1 o2.2.2.2.2.2) 2)), ((a0_moments_e 3), oB 3 [.ref (a0_moments_e_ice 3), .ref (a0_moments_e_juice 3), .ref (a0_moments_e_fors 3), .int ((va_up va0_moments_e_boat κ1 o2.1) 3), .int ((va_up va0_moments_e_minute κ1 o2.2.1) 3), .int ((va_up va0_moments_e_draw κ1 o2.2.2.1) 3)]), ((a0_moments_e_ice 3), aI E 12 ((va_up va0_moments_e_ice κ1 o2.2.2.2.1) 3)), ((a0_moments_e_juice 3), aI E 5 ((va_up va0_moments_e_juice κ1 o2.2.2.2.2.1) 3)), ((a0_moments_e_fors 3), aI E 5 ((va_up va0_moments_e_fors κ1 o2.2.2.2.2.2) 3)), ((a0_moments_e 4), oB 3 [.ref (a0_moments_e_ice 4), .ref (a0_moments_e_juice 4), .ref (a0_moments_e_fors 4), .int ((va_up va0_moments_e_boat κ1 o2.1) 4), .int ((va_up va0_moments_e_minute κ1 o2.2.1) 4), .int ((va_up va0_moments_e_draw κ1 o2.2.2.1) 4)]), ((a0_moments_e_ice 4), aI E 12 ((va_up va0_moments_e_ice κ1 o2.2.2.2.1) 4)), ((a0_moments_e_juice 4), aI E 5 ((va_up va0_moments_e_juice κ1 o2.2.2.2.2.1) 4)), ((a0_moments_e_fors 4), aI E 5 ((va_up va0_moments_e_fors κ1 o2.2.2.2.2.2) 4)), ((a0_moments_e 5), oB 3 [.ref (a0_moments_e_ice 5), .ref (a0_moments_e_juice 5), .ref (a0_moments_e_fors 5), .int ((va_up va0_moments_e_boat κ1 o2.1) 5), .int ((va_up va0_moments_e_minute κ1 o2.2.1) 5), .int ((va_up va0_moments_e_draw κ1 o2.2.2.1) 5)]), ((a0_moments_e_ice 5), aI E 12 ((va_up va0_moments_e_ice κ1 o2.2.2.2.1) 5)), ((a0_moments_e_juice 5), aI E 5 ((va_up va0_moments_e_juice κ1 o2.2.2.2.2.1) 5)), ((a0_moments_e_fors 5), aI E 5 ((va_up va0_moments_e_fors κ1 o2.2.2.2.2.2) 5)), ((a0_moments_e 6), oB 3 [.ref (a0_moments_e_ice 6), .ref (a0_moments_e_juice 6), .ref (a0_moments_e_fors 6), .int ((va_up va0_moments_e_boat κ1 o2.1) 6), .int ((va_up va0_moments_e_minute κ1 o2.2.1) 6), .int ((va_up va0_moments_e_draw κ1 o2.2.2.1) 6)]), ((a0_moments_e_ice 6), aI E 12 ((va_up va0_moments_e_ice κ1 o2.2.2.2.1) 6)), ((a0_moments_e_juice 6), aI E 5 ((va_up va0_moments_e_juice κ1 o2.2.2.2.2.1) 6)), ((a0_moments_e_fors 6), aI E 5 ((va_up va0_moments_e_fors κ1 o2.2.2.2.2.2) 6)), ((a0_moments_e 7), oB 3 [.ref (a0_moments_e_ice 7), .ref (a0_moments_e_juice 7), .ref (a0_moments_e_fors 7), .int ((va_up va0_moments_e_boat κ1 o2.1) 7), .int ((va_up va0_moments_e_minute κ1 o2.2.1) 7), .int ((va_up va0_moments_e_draw κ1 o2.2.2.1) 7)]), ((a0_moments_e_ice 7), aI E 12 ((va_up va0_moments_e_ice κ1 o2.2.2.2.1) 7)), ((a0_moments_e_juice 7), aI E 5 ((va_up va0_moments_e_juice κ1 o2.2.2.2.2.1) 7)), ((a0_moments_e_fors 7), aI E 5 ((va_up va0_moments_e_fors κ1 o2.2.2.2.2.2) 7)), (a1, oB 3 [.ref a1_ice, .ref a1_juice, .ref a1_fors, .int va1_boat, .int va1_minute, .int va1_draw]), (a1_ice, aI E 12 va1_ice), (a1_juice, aI E 5 va1_juice), (a1_fors, aI E 5 va1_fors)]) dX2_keep_23 lkX2_15 (by decide) rfl rfl rfl rfl (Nat.le_of_ble_eq_true rfl) rfl ?_
  refine g_aload_n k 0 dX2_keep_26 rfl rfl ?_
  refine g_bipush k dX2_keep_27 bi_8 ?_
  refine g_aload_n k 0 dX2_keep_29 rfl rfl ?_
  refine g_get k cfX2 2 0 dX2_keep_30 lkX2_19 (by decide) rfl rfl ?_
  refine g_iconst k dX2_keep_33 ic_1 ?_
  refine g_iadd k dX2_keep_34 ?_
  refine g_mmin k dX2_keep_35 lkX2_27 (by decide) (Nat.le_of_ble_eq_true rfl) (by decide) ?_
  refine g_put k cfX2 2 0 (ws' := [(a0, oB 2 [.ref a0_moments, .int (irem (va0_next + 1) 8), .int (imin 8 (va0_known + 1))]), (a0_moments, aM E 8 (fun j => some (a0_moments_e j))), ((a0_moments_e 0), oB 3 [.ref (a0_moments_e_ice 0), .ref (a0_moments_e_juice 0), .ref (a0_moments_e_fors 0), .int ((va_up va0_moments_e_boat κ1 o2.1) 0), .int ((va_up va0_moments_e_minute κ1 o2.2.1) 0), .int ((va_up va0_moments_e_draw κ1 o2.2.2.1) 0)]), ((a0_moments_e_ice 0), aI E 12 ((va_up va0_moments_e_ice κ1 o2.2.2.2.1) 0)), ((a0_moments_e_juice 0), aI E 5 ((va_up va0_moments_e_juice κ1 o2.2.2.2.2.1) 0)), ((a0_moments_e_fors 0), aI E 5 ((va_up va0_moments_e_fors κ1 o2.2.2.2.2.2) 0)), ((a0_moments_e 1), oB 3 [.ref (a0_moments_e_ice 1), .ref (a0_moments_e_juice 1), .ref (a0_moments_e_fors 1), .int ((va_up va0_moments_e_boat κ1 o2.1) 1), .int ((va_up va0_moments_e_minute κ1 o2.2.1) 1), .int ((va_up va0_moments_e_draw κ1 o2.2.2.1) 1)]), ((a0_moments_e_ice 1), aI E 12 ((va_up va0_moments_e_ice κ1 o2.2.2.2.1) 1)), ((a0_moments_e_juice 1), aI E 5 ((va_up va0_moments_e_juice κ1 o2.2.2.2.2.1) 1)), ((a0_moments_e_fors 1), aI E 5 ((va_up va0_moments_e_fors κ1 o2.2.2.2.2.2) 1)), ((a0_moments_e 2), oB 3 [.ref (a0_moments_e_ice 2), .ref (a0_moments_e_juice 2), .ref (a0_moments_e_fors 2), .int ((va_up va0_moments_e_boat κ1 o2.1) 2), .int ((va_up va0_moments_e_minute κ1 o2.2.1) 2), .int ((va_up va0_moments_e_draw κ1 o2.2.2.1) 2)]), ((a0_moments_e_ice 2), aI E 12 ((va_up va0_moments_e_ice κ1 o2.2.2.2.1) 2)), ((a0_moments_e_juice 2), aI E 5 ((va_up va0_moments_e_juice κ1 o2.2.2.2.2.1) 2)), ((a0_moments_e_fors 2), aI E 5 ((va_up va0_moments_e_fors κ1 o2.2.2.2.2.2) 2)), ((a0_moments_e 3), oB 3 [.ref (a0_moments_e_ice 3), .ref (a0_moments_e_juice 3), .ref (a0_moments_e_fors 3), .int ((va_up va0_moments_e_boat κ1 o2.1) 3), .int ((va_up va0_moments_e_minute κ1 o2.2.1) 3), .int ((va_up va0_moments_e_draw κ1 o2.2.2.1) 3)]), ((a0_moments_e_ice 3), aI E 12 ((va_up va0_moments_e_ice κ1 o2.2.2.2.1) 3)), ((a0_moments_e_juice 3), aI E 5 ((va_up va0_moments_e_juice κ1 o2.2.2.2.2.1) 3)), ((a0_moments_e_fors 3), aI E 5 ((va_up va0_moments_e_fors κ1 o2.2.2.2.2.2) 3)), ((a0_moments_e 4), oB 3 [.ref (a0_moments_e_ice 4), .ref (a0_moments_e_juice 4), .ref (a0_moments_e_fors 4), .int ((va_up va0_moments_e_boat κ1 o2.1) 4), .int ((va_up va0_moments_e_minute κ1 o2.2.1) 4), .int ((va_up va0_moments_e_draw κ1 o2.2.2.1) 4)]), ((a0_moments_e_ice 4), aI E 12 ((va_up va0_moments_e_ice κ1 o2.2.2.2.1) 4)), ((a0_moments_e_juice 4), aI E 5 ((va_up va0_moments_e_juice κ1 o2.2.2.2.2.1) 4)), ((a0_moments_e_fors 4), aI E 5 ((va_up va0_moments_e_fors κ1 o2.2.2.2.2.2) 4)), ((a0_moments_e 5), oB 3 [.ref (a0_moments_e_ice 5), .ref (a0_moments_e_juice 5), .ref (a0_moments_e_fors 5), .int ((va_up va0_moments_e_boat κ1 o2.1) 5), .int ((va_up va0_moments_e_minute κ1 o2.2.1) 5), .int ((va_up va0_moments_e_draw κ1 o2.2.2.1) 5)]), ((a0_moments_e_ice 5), aI E 12 ((va_up va0_moments_e_ice κ1 o2.2.2.2.1) 5)), ((a0_moments_e_juice 5), aI E 5 ((va_up va0_moments_e_juice κ1 o2.2.2.2.2.1) 5)), ((a0_moments_e_fors 5), aI E 5 ((va_up va0_moments_e_fors κ1 o2.2.2.2.2.2) 5)), ((a0_moments_e 6), oB 3 [.ref (a0_moments_e_ice 6), .ref (a0_moments_e_juice 6), .ref (a0_moments_e_fors 6), .int ((va_up va0_moments_e_boat κ1 o2.1) 6), .int ((va_up va0_moments_e_minute κ1 o2.2.1) 6), .int ((va_up va0_moments_e_draw κ1 o2.2.2.1) 6)]), ((a0_moments_e_ice 6), aI E 12 ((va_up va0_moments_e_ice κ1 o2.2.2.2.1) 6)), ((a0_moments_e_juice 6), aI E 5 ((va_up va0_moments_e_juice κ1 o2.2.2.2.2.1) 6)), ((a0_moments_e_fors 6), aI E 5 ((va_up va0_moments_e_fors κ1 o2.2.2.2.2.2) 6)), ((a0_moments_e 7), oB 3 [.ref (a0_moments_e_ice 7), .ref (a0_moments_e_juice 7), .ref (a0_moments_e_fors 7), .int ((va_up va0_moments_e_boat κ1 o2.1) 7), .int ((va_up va0_moments_e_minute κ1 o2.2.1) 7), .int ((va_up va0_moments_e_draw κ1 o2.2.2.1) 7)]), ((a0_moments_e_ice 7), aI E 12 ((va_up va0_moments_e_ice κ1 o2.2.2.2.1) 7)), ((a0_moments_e_juice 7), aI E 5 ((va_up va0_moments_e_juice κ1 o2.2.2.2.2.1) 7)), ((a0_moments_e_fors 7), aI E 5 ((va_up va0_moments_e_fors κ1 o2.2.2.2.2.2) 7)), (a1, oB 3 [.ref a1_ice, .ref a1_juice, .ref a1_fors, .int va1_boat, .int va1_minute, .int va1_draw]), (a1_ice, aI E 12 va1_ice), (a1_juice, aI E 5 va1_juice), (a1_fors, aI E 5 va1_fors)]) dX2_keep_38 lkX2_19 (by decide) rfl rfl rfl rfl (Nat.le_of_ble_eq_true rfl) rfl ?_
  obtain rfl := Option.some.inj hf
  exact g_vret k r dX2_keep_41 ⟨rfl, rfl⟩
abbrev rmX2_bringBack : Room := { frames := 2, cells := 0, slots := 0, locals := 69 }
def fX2_bringBack (N : Nat) (va0_next : Int32) (va0_known : Int32) (va0_moments_e_boat : Nat → Int32) (va0_moments_e_minute : Nat → Int32) (va0_moments_e_draw : Nat → Int32) (va0_moments_e_ice : Nat → Nat → Int32) (va0_moments_e_juice : Nat → Nat → Int32) (va0_moments_e_fors : Nat → Nat → Int32) (va1_boat : Int32) (va1_minute : Int32) (va1_draw : Int32) (va1_ice : Nat → Int32) (va1_juice : Nat → Int32) (va1_fors : Nat → Int32)  : Option (Int32 × Int32 × Int32 × Int32 × Int32 × (Nat → Int32) × (Nat → Int32) × (Nat → Int32)) :=
  ixb (irem ((va0_next + 8) - 1) 8) 8 fun κ1 =>
  bnd (fX3_take N va1_boat va1_minute va1_draw va1_ice va1_juice va1_fors (va0_moments_e_boat κ1) (va0_moments_e_minute κ1) (va0_moments_e_draw κ1) (va0_moments_e_ice κ1) (va0_moments_e_juice κ1) (va0_moments_e_fors κ1)) fun o2 =>
  some ((irem ((va0_next + 8) - 1) 8), (va0_known - 1), o2.1, o2.2.1, o2.2.2.1, o2.2.2.2.1, o2.2.2.2.2.1, o2.2.2.2.2.2)
set_option maxHeartbeats 4000000 in
set_option maxRecDepth 100000 in
theorem ctX2_bringBack (l : Launch) (E : Ev) (N : Nat) (a0 : Nat) (a0_moments : Nat) (a0_moments_e : Nat → Nat) (a0_moments_e_ice : Nat → Nat) (a0_moments_e_juice : Nat → Nat) (a0_moments_e_fors : Nat → Nat) (a1 : Nat) (a1_ice : Nat) (a1_juice : Nat) (a1_fors : Nat) (va0_next : Int32) (va0_known : Int32) (va0_moments_e_boat : Nat → Int32) (va0_moments_e_minute : Nat → Int32) (va0_moments_e_draw : Nat → Int32) (va0_moments_e_ice : Nat → Nat → Int32) (va0_moments_e_juice : Nat → Nat → Int32) (va0_moments_e_fors : Nat → Nat → Int32) (va1_boat : Int32) (va1_minute : Int32) (va1_draw : Int32) (va1_ice : Nat → Int32) (va1_juice : Nat → Int32) (va1_fors : Nat → Int32)  (out : Int32 × Int32 × Int32 × Int32 × Int32 × (Nat → Int32) × (Nat → Int32) × (Nat → Int32)) (hf : fX2_bringBack N va0_next va0_known va0_moments_e_boat va0_moments_e_minute va0_moments_e_draw va0_moments_e_ice va0_moments_e_juice va0_moments_e_fors va1_boat va1_minute va1_draw va1_ice va1_juice va1_fors  = some out) : Ct l E yX2_bringBack cX2_bringBack 2 none rmX2_bringBack [.ref a0, .ref a1] [(a0, oB 2 [.ref a0_moments, .int va0_next, .int va0_known]), (a0_moments, aM E 8 (fun j => some (a0_moments_e j))), ((a0_moments_e 0), oB 3 [.ref (a0_moments_e_ice 0), .ref (a0_moments_e_juice 0), .ref (a0_moments_e_fors 0), .int (va0_moments_e_boat 0), .int (va0_moments_e_minute 0), .int (va0_moments_e_draw 0)]), ((a0_moments_e_ice 0), aI E 12 (va0_moments_e_ice 0)), ((a0_moments_e_juice 0), aI E 5 (va0_moments_e_juice 0)), ((a0_moments_e_fors 0), aI E 5 (va0_moments_e_fors 0)), ((a0_moments_e 1), oB 3 [.ref (a0_moments_e_ice 1), .ref (a0_moments_e_juice 1), .ref (a0_moments_e_fors 1), .int (va0_moments_e_boat 1), .int (va0_moments_e_minute 1), .int (va0_moments_e_draw 1)]), ((a0_moments_e_ice 1), aI E 12 (va0_moments_e_ice 1)), ((a0_moments_e_juice 1), aI E 5 (va0_moments_e_juice 1)), ((a0_moments_e_fors 1), aI E 5 (va0_moments_e_fors 1)), ((a0_moments_e 2), oB 3 [.ref (a0_moments_e_ice 2), .ref (a0_moments_e_juice 2), .ref (a0_moments_e_fors 2), .int (va0_moments_e_boat 2), .int (va0_moments_e_minute 2), .int (va0_moments_e_draw 2)]), ((a0_moments_e_ice 2), aI E 12 (va0_moments_e_ice 2)), ((a0_moments_e_juice 2), aI E 5 (va0_moments_e_juice 2)), ((a0_moments_e_fors 2), aI E 5 (va0_moments_e_fors 2)), ((a0_moments_e 3), oB 3 [.ref (a0_moments_e_ice 3), .ref (a0_moments_e_juice 3), .ref (a0_moments_e_fors 3), .int (va0_moments_e_boat 3), .int (va0_moments_e_minute 3), .int (va0_moments_e_draw 3)]), ((a0_moments_e_ice 3), aI E 12 (va0_moments_e_ice 3)), ((a0_moments_e_juice 3), aI E 5 (va0_moments_e_juice 3)), ((a0_moments_e_fors 3), aI E 5 (va0_moments_e_fors 3)), ((a0_moments_e 4), oB 3 [.ref (a0_moments_e_ice 4), .ref (a0_moments_e_juice 4), .ref (a0_moments_e_fors 4), .int (va0_moments_e_boat 4), .int (va0_moments_e_minute 4), .int (va0_moments_e_draw 4)]), ((a0_moments_e_ice 4), aI E 12 (va0_moments_e_ice 4)), ((a0_moments_e_juice 4), aI E 5 (va0_moments_e_juice 4)), ((a0_moments_e_fors 4), aI E 5 (va0_moments_e_fors 4)), ((a0_moments_e 5), oB 3 [.ref (a0_moments_e_ice 5), .ref (a0_moments_e_juice 5), .ref (a0_moments_e_fors 5), .int (va0_moments_e_boat 5), .int (va0_moments_e_minute 5), .int (va0_moments_e_draw 5)]), ((a0_moments_e_ice 5), aI E 12 (va0_moments_e_ice 5)), ((a0_moments_e_juice 5), aI E 5 (va0_moments_e_juice 5)), ((a0_moments_e_fors 5), aI E 5 (va0_moments_e_fors 5)), ((a0_moments_e 6), oB 3 [.ref (a0_moments_e_ice 6), .ref (a0_moments_e_juice 6), .ref (a0_moments_e_fors 6), .int (va0_moments_e_boat 6), .int (va0_moments_e_minute 6), .int (va0_moments_e_draw 6)]), ((a0_moments_e_ice 6), aI E 12 (va0_moments_e_ice 6)), ((a0_moments_e_juice 6), aI E 5 (va0_moments_e_juice 6)), ((a0_moments_e_fors 6), aI E 5 (va0_moments_e_fors 6)), ((a0_moments_e 7), oB 3 [.ref (a0_moments_e_ice 7), .ref (a0_moments_e_juice 7), .ref (a0_moments_e_fors 7), .int (va0_moments_e_boat 7), .int (va0_moments_e_minute 7), .int (va0_moments_e_draw 7)]), ((a0_moments_e_ice 7), aI E 12 (va0_moments_e_ice 7)), ((a0_moments_e_juice 7), aI E 5 (va0_moments_e_juice 7)), ((a0_moments_e_fors 7), aI E 5 (va0_moments_e_fors 7)), (a1, oB 3 [.ref a1_ice, .ref a1_juice, .ref a1_fors, .int va1_boat, .int va1_minute, .int va1_draw]), (a1_ice, aI E 12 va1_ice), (a1_juice, aI E 5 va1_juice), (a1_fors, aI E 5 va1_fors)] (Pe none [(a0, oB 2 [.ref a0_moments, .int out.1, .int out.2.1]), (a0_moments, aM E 8 (fun j => some (a0_moments_e j))), ((a0_moments_e 0), oB 3 [.ref (a0_moments_e_ice 0), .ref (a0_moments_e_juice 0), .ref (a0_moments_e_fors 0), .int (va0_moments_e_boat 0), .int (va0_moments_e_minute 0), .int (va0_moments_e_draw 0)]), ((a0_moments_e_ice 0), aI E 12 (va0_moments_e_ice 0)), ((a0_moments_e_juice 0), aI E 5 (va0_moments_e_juice 0)), ((a0_moments_e_fors 0), aI E 5 (va0_moments_e_fors 0)), ((a0_moments_e 1), oB 3 [.ref (a0_moments_e_ice 1), .ref (a0_moments_e_juice 1), .ref (a0_moments_e_fors 1), .int (va0_moments_e_boat 1), .int (va0_moments_e_minute 1), .int (va0_moments_e_draw 1)]), ((a0_moments_e_ice 1), aI E 12 (va0_moments_e_ice 1)), ((a0_moments_e_juice 1), aI E 5 (va0_moments_e_juice 1)), ((a0_moments_e_fors 1), aI E 5 (va0_moments_e_fors 1)), ((a0_moments_e 2), oB 3 [.ref (a0_moments_e_ice 2), .ref (a0_moments_e_juice 2), .ref (a0_moments_e_fors 2), .int (va0_moments_e_boat 2), .int (va0_moments_e_minute 2), .int (va0_moments_e_draw 2)]), ((a0_moments_e_ice 2), aI E 12 (va0_moments_e_ice 2)), ((a0_moments_e_juice 2), aI E 5 (va0_moments_e_juice 2)), ((a0_moments_e_fors 2), aI E 5 (va0_moments_e_fors 2)), ((a0_moments_e 3), oB 3 [.ref (a0_moments_e_ice 3), .ref (a0_moments_e_juice 3), .ref (a0_moments_e_fors 3), .int (va0_moments_e_boat 3), .int (va0_moments_e_minute 3), .int (va0_moments_e_draw 3)]), ((a0_moments_e_ice 3), aI E 12 (va0_moments_e_ice 3)), ((a0_moments_e_juice 3), aI E 5 (va0_moments_e_juice 3)), ((a0_moments_e_fors 3), aI E 5 (va0_moments_e_fors 3)), ((a0_moments_e 4), oB 3 [.ref (a0_moments_e_ice 4), .ref (a0_moments_e_juice 4), .ref (a0_moments_e_fors 4), .int (va0_moments_e_boat 4), .int (va0_moments_e_minute 4), .int (va0_moments_e_draw 4)]), ((a0_moments_e_ice 4), aI E 12 (va0_moments_e_ice 4)), ((a0_moments_e_juice 4), aI E 5 (va0_moments_e_juice 4)), ((a0_moments_e_fors 4), aI E 5 (va0_moments_e_fors 4)), ((a0_moments_e 5), oB 3 [.ref (a0_moments_e_ice 5), .ref (a0_moments_e_juice 5), .ref (a0_moments_e_fors 5), .int (va0_moments_e_boat 5), .int (va0_moments_e_minute 5), .int (va0_moments_e_draw 5)]), ((a0_moments_e_ice 5), aI E 12 (va0_moments_e_ice 5)), ((a0_moments_e_juice 5), aI E 5 (va0_moments_e_juice 5)), ((a0_moments_e_fors 5), aI E 5 (va0_moments_e_fors 5)), ((a0_moments_e 6), oB 3 [.ref (a0_moments_e_ice 6), .ref (a0_moments_e_juice 6), .ref (a0_moments_e_fors 6), .int (va0_moments_e_boat 6), .int (va0_moments_e_minute 6), .int (va0_moments_e_draw 6)]), ((a0_moments_e_ice 6), aI E 12 (va0_moments_e_ice 6)), ((a0_moments_e_juice 6), aI E 5 (va0_moments_e_juice 6)), ((a0_moments_e_fors 6), aI E 5 (va0_moments_e_fors 6)), ((a0_moments_e 7), oB 3 [.ref (a0_moments_e_ice 7), .ref (a0_moments_e_juice 7), .ref (a0_moments_e_fors 7), .int (va0_moments_e_boat 7), .int (va0_moments_e_minute 7), .int (va0_moments_e_draw 7)]), ((a0_moments_e_ice 7), aI E 12 (va0_moments_e_ice 7)), ((a0_moments_e_juice 7), aI E 5 (va0_moments_e_juice 7)), ((a0_moments_e_fors 7), aI E 5 (va0_moments_e_fors 7)), (a1, oB 3 [.ref a1_ice, .ref a1_juice, .ref a1_fors, .int out.2.2.1, .int out.2.2.2.1, .int out.2.2.2.2.1]), (a1_ice, aI E 12 out.2.2.2.2.2.1), (a1_juice, aI E 5 out.2.2.2.2.2.2.1), (a1_fors, aI E 5 out.2.2.2.2.2.2.2)]) := by
  refine Ct.of rfl (Nat.le_of_ble_eq_true rfl) (fun K hL k r hin => ?_)
  subst hL
  unfold fX2_bringBack at hf
  show G E K 2 0 0 [(0, .ref a0), (1, .ref a1)] [] [(a0, oB 2 [.ref a0_moments, .int va0_next, .int va0_known]), (a0_moments, aM E 8 (fun j => some (a0_moments_e j))), ((a0_moments_e 0), oB 3 [.ref (a0_moments_e_ice 0), .ref (a0_moments_e_juice 0), .ref (a0_moments_e_fors 0), .int (va0_moments_e_boat 0), .int (va0_moments_e_minute 0), .int (va0_moments_e_draw 0)]), ((a0_moments_e_ice 0), aI E 12 (va0_moments_e_ice 0)), ((a0_moments_e_juice 0), aI E 5 (va0_moments_e_juice 0)), ((a0_moments_e_fors 0), aI E 5 (va0_moments_e_fors 0)), ((a0_moments_e 1), oB 3 [.ref (a0_moments_e_ice 1), .ref (a0_moments_e_juice 1), .ref (a0_moments_e_fors 1), .int (va0_moments_e_boat 1), .int (va0_moments_e_minute 1), .int (va0_moments_e_draw 1)]), ((a0_moments_e_ice 1), aI E 12 (va0_moments_e_ice 1)), ((a0_moments_e_juice 1), aI E 5 (va0_moments_e_juice 1)), ((a0_moments_e_fors 1), aI E 5 (va0_moments_e_fors 1)), ((a0_moments_e 2), oB 3 [.ref (a0_moments_e_ice 2), .ref (a0_moments_e_juice 2), .ref (a0_moments_e_fors 2), .int (va0_moments_e_boat 2), .int (va0_moments_e_minute 2), .int (va0_moments_e_draw 2)]), ((a0_moments_e_ice 2), aI E 12 (va0_moments_e_ice 2)), ((a0_moments_e_juice 2), aI E 5 (va0_moments_e_juice 2)), ((a0_moments_e_fors 2), aI E 5 (va0_moments_e_fors 2)), ((a0_moments_e 3), oB 3 [.ref (a0_moments_e_ice 3), .ref (a0_moments_e_juice 3), .ref (a0_moments_e_fors 3), .int (va0_moments_e_boat 3), .int (va0_moments_e_minute 3), .int (va0_moments_e_draw 3)]), ((a0_moments_e_ice 3), aI E 12 (va0_moments_e_ice 3)), ((a0_moments_e_juice 3), aI E 5 (va0_moments_e_juice 3)), ((a0_moments_e_fors 3), aI E 5 (va0_moments_e_fors 3)), ((a0_moments_e 4), oB 3 [.ref (a0_moments_e_ice 4), .ref (a0_moments_e_juice 4), .ref (a0_moments_e_fors 4), .int (va0_moments_e_boat 4), .int (va0_moments_e_minute 4), .int (va0_moments_e_draw 4)]), ((a0_moments_e_ice 4), aI E 12 (va0_moments_e_ice 4)), ((a0_moments_e_juice 4), aI E 5 (va0_moments_e_juice 4)), ((a0_moments_e_fors 4), aI E 5 (va0_moments_e_fors 4)), ((a0_moments_e 5), oB 3 [.ref (a0_moments_e_ice 5), .ref (a0_moments_e_juice 5), .ref (a0_moments_e_fors 5), .int (va0_moments_e_boat 5), .int (va0_moments_e_minute 5), .int (va0_moments_e_draw 5)]), ((a0_moments_e_ice 5), aI E 12 (va0_moments_e_ice 5)), ((a0_moments_e_juice 5), aI E 5 (va0_moments_e_juice 5)), ((a0_moments_e_fors 5), aI E 5 (va0_moments_e_fors 5)), ((a0_moments_e 6), oB 3 [.ref (a0_moments_e_ice 6), .ref (a0_moments_e_juice 6), .ref (a0_moments_e_fors 6), .int (va0_moments_e_boat 6), .int (va0_moments_e_minute 6), .int (va0_moments_e_draw 6)]), ((a0_moments_e_ice 6), aI E 12 (va0_moments_e_ice 6)), ((a0_moments_e_juice 6), aI E 5 (va0_moments_e_juice 6)), ((a0_moments_e_fors 6), aI E 5 (va0_moments_e_fors 6)), ((a0_moments_e 7), oB 3 [.ref (a0_moments_e_ice 7), .ref (a0_moments_e_juice 7), .ref (a0_moments_e_fors 7), .int (va0_moments_e_boat 7), .int (va0_moments_e_minute 7), .int (va0_moments_e_draw 7)]), ((a0_moments_e_ice 7), aI E 12 (va0_moments_e_ice 7)), ((a0_moments_e_juice 7), aI E 5 (va0_moments_e_juice 7)), ((a0_moments_e_fors 7), aI E 5 (va0_moments_e_fors 7)), (a1, oB 3 [.ref a1_ice, .ref a1_juice, .ref a1_fors, .int va1_boat, .int va1_minute, .int va1_draw]), (a1_ice, aI E 12 va1_ice), (a1_juice, aI E 5 va1_juice), (a1_fors, aI E 5 va1_fors)] 0
  refine g_aload_n k 0 dX2_bringBack_0 rfl rfl ?_
  refine g_aload_n k 0 dX2_bringBack_1 rfl rfl ?_
  refine g_get k cfX2 1 0 dX2_bringBack_2 lkX2_15 (by decide) rfl rfl ?_
  refine g_bipush k dX2_bringBack_5 bi_8 ?_
  refine g_iadd k dX2_bringBack_7 ?_
  refine g_iconst k dX2_bringBack_8 ic_1 ?_
  refine g_isub k dX2_bringBack_9 ?_
  refine g_bipush k dX2_bringBack_10 bi_8 ?_
  refine g_irem k dX2_bringBack_12 (by decide) ?_
  refine g_put k cfX2 1 0 (ws' := [(a0, oB 2 [.ref a0_moments, .int (irem ((va0_next + 8) - 1) 8), .int va0_known]), (a0_moments, aM E 8 (fun j => some (a0_moments_e j))), ((a0_moments_e 0), oB 3 [.ref (a0_moments_e_ice 0), .ref (a0_moments_e_juice 0), .ref (a0_moments_e_fors 0), .int (va0_moments_e_boat 0), .int (va0_moments_e_minute 0), .int (va0_moments_e_draw 0)]), ((a0_moments_e_ice 0), aI E 12 (va0_moments_e_ice 0)), ((a0_moments_e_juice 0), aI E 5 (va0_moments_e_juice 0)), ((a0_moments_e_fors 0), aI E 5 (va0_moments_e_fors 0)), ((a0_moments_e 1), oB 3 [.ref (a0_moments_e_ice 1), .ref (a0_moments_e_juice 1), .ref (a0_moments_e_fors 1), .int (va0_moments_e_boat 1), .int (va0_moments_e_minute 1), .int (va0_moments_e_draw 1)]), ((a0_moments_e_ice 1), aI E 12 (va0_moments_e_ice 1)), ((a0_moments_e_juice 1), aI E 5 (va0_moments_e_juice 1)), ((a0_moments_e_fors 1), aI E 5 (va0_moments_e_fors 1)), ((a0_moments_e 2), oB 3 [.ref (a0_moments_e_ice 2), .ref (a0_moments_e_juice 2), .ref (a0_moments_e_fors 2), .int (va0_moments_e_boat 2), .int (va0_moments_e_minute 2), .int (va0_moments_e_draw 2)]), ((a0_moments_e_ice 2), aI E 12 (va0_moments_e_ice 2)), ((a0_moments_e_juice 2), aI E 5 (va0_moments_e_juice 2)), ((a0_moments_e_fors 2), aI E 5 (va0_moments_e_fors 2)), ((a0_moments_e 3), oB 3 [.ref (a0_moments_e_ice 3), .ref (a0_moments_e_juice 3), .ref (a0_moments_e_fors 3), .int (va0_moments_e_boat 3), .int (va0_moments_e_minute 3), .int (va0_moments_e_draw 3)]), ((a0_moments_e_ice 3), aI E 12 (va0_moments_e_ice 3)), ((a0_moments_e_juice 3), aI E 5 (va0_moments_e_juice 3)), ((a0_moments_e_fors 3), aI E 5 (va0_moments_e_fors 3)), ((a0_moments_e 4), oB 3 [.ref (a0_moments_e_ice 4), .ref (a0_moments_e_juice 4), .ref (a0_moments_e_fors 4), .int (va0_moments_e_boat 4), .int (va0_moments_e_minute 4), .int (va0_moments_e_draw 4)]), ((a0_moments_e_ice 4), aI E 12 (va0_moments_e_ice 4)), ((a0_moments_e_juice 4), aI E 5 (va0_moments_e_juice 4)), ((a0_moments_e_fors 4), aI E 5 (va0_moments_e_fors 4)), ((a0_moments_e 5), oB 3 [.ref (a0_moments_e_ice 5), .ref (a0_moments_e_juice 5), .ref (a0_moments_e_fors 5), .int (va0_moments_e_boat 5), .int (va0_moments_e_minute 5), .int (va0_moments_e_draw 5)]), ((a0_moments_e_ice 5), aI E 12 (va0_moments_e_ice 5)), ((a0_moments_e_juice 5), aI E 5 (va0_moments_e_juice 5)), ((a0_moments_e_fors 5), aI E 5 (va0_moments_e_fors 5)), ((a0_moments_e 6), oB 3 [.ref (a0_moments_e_ice 6), .ref (a0_moments_e_juice 6), .ref (a0_moments_e_fors 6), .int (va0_moments_e_boat 6), .int (va0_moments_e_minute 6), .int (va0_moments_e_draw 6)]), ((a0_moments_e_ice 6), aI E 12 (va0_moments_e_ice 6)), ((a0_moments_e_juice 6), aI E 5 (va0_moments_e_juice 6)), ((a0_moments_e_fors 6), aI E 5 (va0_moments_e_fors 6)), ((a0_moments_e 7), oB 3 [.ref (a0_moments_e_ice 7), .ref (a0_moments_e_juice 7), .ref (a0_moments_e_fors 7), .int (va0_moments_e_boat 7), .int (va0_moments_e_minute 7), .int (va0_moments_e_draw 7)]), ((a0_moments_e_ice 7), aI E 12 (va0_moments_e_ice 7)), ((a0_moments_e_juice 7), aI E 5 (va0_moments_e_juice 7)), ((a0_moments_e_fors 7), aI E 5 (va0_moments_e_fors 7)), (a1, oB 3 [.ref a1_ice, .ref a1_juice, .ref a1_fors, .int va1_boat, .int va1_minute, .int va1_draw]), (a1_ice, aI E 12 va1_ice), (a1_juice, aI E 5 va1_juice), (a1_fors, aI E 5 va1_fors)]) dX2_bringBack_13 lkX2_15 (by decide) rfl rfl rfl rfl (Nat.le_of_ble_eq_true rfl) rfl ?_
  refine g_aload_n k 0 dX2_bringBack_16 rfl rfl ?_
  refine g_dup k dX2_bringBack_17 rfl ?_
  refine g_get k cfX2 2 0 dX2_bringBack_18 lkX2_19 (by decide) rfl rfl ?_
  refine g_iconst k dX2_bringBack_21 ic_1 ?_
  refine g_isub k dX2_bringBack_22 ?_
  refine g_put k cfX2 2 0 (ws' := [(a0, oB 2 [.ref a0_moments, .int (irem ((va0_next + 8) - 1) 8), .int (va0_known - 1)]), (a0_moments, aM E 8 (fun j => some (a0_moments_e j))), ((a0_moments_e 0), oB 3 [.ref (a0_moments_e_ice 0), .ref (a0_moments_e_juice 0), .ref (a0_moments_e_fors 0), .int (va0_moments_e_boat 0), .int (va0_moments_e_minute 0), .int (va0_moments_e_draw 0)]), ((a0_moments_e_ice 0), aI E 12 (va0_moments_e_ice 0)), ((a0_moments_e_juice 0), aI E 5 (va0_moments_e_juice 0)), ((a0_moments_e_fors 0), aI E 5 (va0_moments_e_fors 0)), ((a0_moments_e 1), oB 3 [.ref (a0_moments_e_ice 1), .ref (a0_moments_e_juice 1), .ref (a0_moments_e_fors 1), .int (va0_moments_e_boat 1), .int (va0_moments_e_minute 1), .int (va0_moments_e_draw 1)]), ((a0_moments_e_ice 1), aI E 12 (va0_moments_e_ice 1)), ((a0_moments_e_juice 1), aI E 5 (va0_moments_e_juice 1)), ((a0_moments_e_fors 1), aI E 5 (va0_moments_e_fors 1)), ((a0_moments_e 2), oB 3 [.ref (a0_moments_e_ice 2), .ref (a0_moments_e_juice 2), .ref (a0_moments_e_fors 2), .int (va0_moments_e_boat 2), .int (va0_moments_e_minute 2), .int (va0_moments_e_draw 2)]), ((a0_moments_e_ice 2), aI E 12 (va0_moments_e_ice 2)), ((a0_moments_e_juice 2), aI E 5 (va0_moments_e_juice 2)), ((a0_moments_e_fors 2), aI E 5 (va0_moments_e_fors 2)), ((a0_moments_e 3), oB 3 [.ref (a0_moments_e_ice 3), .ref (a0_moments_e_juice 3), .ref (a0_moments_e_fors 3), .int (va0_moments_e_boat 3), .int (va0_moments_e_minute 3), .int (va0_moments_e_draw 3)]), ((a0_moments_e_ice 3), aI E 12 (va0_moments_e_ice 3)), ((a0_moments_e_juice 3), aI E 5 (va0_moments_e_juice 3)), ((a0_moments_e_fors 3), aI E 5 (va0_moments_e_fors 3)), ((a0_moments_e 4), oB 3 [.ref (a0_moments_e_ice 4), .ref (a0_moments_e_juice 4), .ref (a0_moments_e_fors 4), .int (va0_moments_e_boat 4), .int (va0_moments_e_minute 4), .int (va0_moments_e_draw 4)]), ((a0_moments_e_ice 4), aI E 12 (va0_moments_e_ice 4)), ((a0_moments_e_juice 4), aI E 5 (va0_moments_e_juice 4)), ((a0_moments_e_fors 4), aI E 5 (va0_moments_e_fors 4)), ((a0_moments_e 5), oB 3 [.ref (a0_moments_e_ice 5), .ref (a0_moments_e_juice 5), .ref (a0_moments_e_fors 5), .int (va0_moments_e_boat 5), .int (va0_moments_e_minute 5), .int (va0_moments_e_draw 5)]), ((a0_moments_e_ice 5), aI E 12 (va0_moments_e_ice 5)), ((a0_moments_e_juice 5), aI E 5 (va0_moments_e_juice 5)), ((a0_moments_e_fors 5), aI E 5 (va0_moments_e_fors 5)), ((a0_moments_e 6), oB 3 [.ref (a0_moments_e_ice 6), .ref (a0_moments_e_juice 6), .ref (a0_moments_e_fors 6), .int (va0_moments_e_boat 6), .int (va0_moments_e_minute 6), .int (va0_moments_e_draw 6)]), ((a0_moments_e_ice 6), aI E 12 (va0_moments_e_ice 6)), ((a0_moments_e_juice 6), aI E 5 (va0_moments_e_juice 6)), ((a0_moments_e_fors 6), aI E 5 (va0_moments_e_fors 6)), ((a0_moments_e 7), oB 3 [.ref (a0_moments_e_ice 7), .ref (a0_moments_e_juice 7), .ref (a0_moments_e_fors 7), .int (va0_moments_e_boat 7), .int (va0_moments_e_minute 7), .int (va0_moments_e_draw 7)]), ((a0_moments_e_ice 7), aI E 12 (va0_moments_e_ice 7)), ((a0_moments_e_juice 7), aI E 5 (va0_moments_e_juice 7)), ((a0_moments_e_fors 7), aI E 5 (va0_moments_e_fors 7)), (a1, oB 3 [.ref a1_ice, .ref a1_juice, .ref a1_fors, .int va1_boat, .int va1_minute, .int va1_draw]), (a1_ice, aI E 12 va1_ice), (a1_juice, aI E 5 va1_juice), (a1_fors, aI E 5 va1_fors)]) dX2_bringBack_23 lkX2_19 (by decide) rfl rfl rfl rfl (Nat.le_of_ble_eq_true rfl) rfl ?_
  refine g_aload_n k 1 dX2_bringBack_26 rfl rfl ?_
  refine g_aload_n k 0 dX2_bringBack_27 rfl rfl ?_
  refine g_get k cfX2 0 0 dX2_bringBack_28 lkX2_11 (by decide) rfl rfl ?_
  refine g_aload_n k 0 dX2_bringBack_31 rfl rfl ?_
  refine g_get k cfX2 1 0 dX2_bringBack_32 lkX2_15 (by decide) rfl rfl ?_
  obtain ⟨κ1, hκ1, hiκ1, heκ1, hf⟩ := ixb_some hf
  refine g_aaloadM k 1 dX2_bringBack_35 rfl hiκ1 heκ1 rfl ?_
  obtain ⟨o2, ho3, hf⟩ := bnd_some hf
  refine g_cv k miX3_take mvX3_take (ctX3_take (kL K) E N a1 a1_ice a1_juice a1_fors (a0_moments_e κ1) (a0_moments_e_ice κ1) (a0_moments_e_juice κ1) (a0_moments_e_fors κ1) va1_boat va1_minute va1_draw va1_ice va1_juice va1_fors (va0_moments_e_boat κ1) (va0_moments_e_minute κ1) (va0_moments_e_draw κ1) (va0_moments_e_ice κ1) (va0_moments_e_juice κ1) (va0_moments_e_fors κ1)  o2 ho3) [34, 35, 36, 37, (2 + 4 * κ1), (3 + 4 * κ1), (4 + 4 * κ1), (5 + 4 * κ1)] 0 (ws' := [(a0, oB 2 [.ref a0_moments, .int (irem ((va0_next + 8) - 1) 8), .int (va0_known - 1)]), (a0_moments, aM E 8 (fun j => some (a0_moments_e j))), ((a0_moments_e 0), oB 3 [.ref (a0_moments_e_ice 0), .ref (a0_moments_e_juice 0), .ref (a0_moments_e_fors 0), .int (va0_moments_e_boat 0), .int (va0_moments_e_minute 0), .int (va0_moments_e_draw 0)]), ((a0_moments_e_ice 0), aI E 12 (va0_moments_e_ice 0)), ((a0_moments_e_juice 0), aI E 5 (va0_moments_e_juice 0)), ((a0_moments_e_fors 0), aI E 5 (va0_moments_e_fors 0)), ((a0_moments_e 1), oB 3 [.ref (a0_moments_e_ice 1), .ref (a0_moments_e_juice 1), .ref (a0_moments_e_fors 1), .int (va0_moments_e_boat 1), .int (va0_moments_e_minute 1), .int (va0_moments_e_draw 1)]), ((a0_moments_e_ice 1), aI E 12 (va0_moments_e_ice 1)), ((a0_moments_e_juice 1), aI E 5 (va0_moments_e_juice 1)), ((a0_moments_e_fors 1), aI E 5 (va0_moments_e_fors 1)), ((a0_moments_e 2), oB 3 [.ref (a0_moments_e_ice 2), .ref (a0_moments_e_juice 2), .ref (a0_moments_e_fors 2), .int (va0_moments_e_boat 2), .int (va0_moments_e_minute 2), .int (va0_moments_e_draw 2)]), ((a0_moments_e_ice 2), aI E 12 (va0_moments_e_ice 2)), ((a0_moments_e_juice 2), aI E 5 (va0_moments_e_juice 2)), ((a0_moments_e_fors 2), aI E 5 (va0_moments_e_fors 2)), ((a0_moments_e 3), oB 3 [.ref (a0_moments_e_ice 3), .ref (a0_moments_e_juice 3), .ref (a0_moments_e_fors 3), .int (va0_moments_e_boat 3), .int (va0_moments_e_minute 3), .int (va0_moments_e_draw 3)]), ((a0_moments_e_ice 3), aI E 12 (va0_moments_e_ice 3)), ((a0_moments_e_juice 3), aI E 5 (va0_moments_e_juice 3)), ((a0_moments_e_fors 3), aI E 5 (va0_moments_e_fors 3)), ((a0_moments_e 4), oB 3 [.ref (a0_moments_e_ice 4), .ref (a0_moments_e_juice 4), .ref (a0_moments_e_fors 4), .int (va0_moments_e_boat 4), .int (va0_moments_e_minute 4), .int (va0_moments_e_draw 4)]), ((a0_moments_e_ice 4), aI E 12 (va0_moments_e_ice 4)), ((a0_moments_e_juice 4), aI E 5 (va0_moments_e_juice 4)), ((a0_moments_e_fors 4), aI E 5 (va0_moments_e_fors 4)), ((a0_moments_e 5), oB 3 [.ref (a0_moments_e_ice 5), .ref (a0_moments_e_juice 5), .ref (a0_moments_e_fors 5), .int (va0_moments_e_boat 5), .int (va0_moments_e_minute 5), .int (va0_moments_e_draw 5)]), ((a0_moments_e_ice 5), aI E 12 (va0_moments_e_ice 5)), ((a0_moments_e_juice 5), aI E 5 (va0_moments_e_juice 5)), ((a0_moments_e_fors 5), aI E 5 (va0_moments_e_fors 5)), ((a0_moments_e 6), oB 3 [.ref (a0_moments_e_ice 6), .ref (a0_moments_e_juice 6), .ref (a0_moments_e_fors 6), .int (va0_moments_e_boat 6), .int (va0_moments_e_minute 6), .int (va0_moments_e_draw 6)]), ((a0_moments_e_ice 6), aI E 12 (va0_moments_e_ice 6)), ((a0_moments_e_juice 6), aI E 5 (va0_moments_e_juice 6)), ((a0_moments_e_fors 6), aI E 5 (va0_moments_e_fors 6)), ((a0_moments_e 7), oB 3 [.ref (a0_moments_e_ice 7), .ref (a0_moments_e_juice 7), .ref (a0_moments_e_fors 7), .int (va0_moments_e_boat 7), .int (va0_moments_e_minute 7), .int (va0_moments_e_draw 7)]), ((a0_moments_e_ice 7), aI E 12 (va0_moments_e_ice 7)), ((a0_moments_e_juice 7), aI E 5 (va0_moments_e_juice 7)), ((a0_moments_e_fors 7), aI E 5 (va0_moments_e_fors 7)), (a1, oB 3 [.ref a1_ice, .ref a1_juice, .ref a1_fors, .int o2.1, .int o2.2.1, .int o2.2.2.1]), (a1_ice, aI E 12 o2.2.2.2.1), (a1_juice, aI E 5 o2.2.2.2.2.1), (a1_fors, aI E 5 o2.2.2.2.2.2)]) dX2_bringBack_36 lkX2_23 rfl ⟨rfl, rfl⟩ ⟨by decide, by decide⟩ (by rcases lt8 hκ1 with z|z|z|z|z|z|z|z <;> subst z <;> rfl) rfl rfl rfl (Nat.le_of_ble_eq_true rfl) (by rcases lt8 hκ1 with z|z|z|z|z|z|z|z <;> subst z <;> rfl) rfl (by rcases lt8 hκ1 with z|z|z|z|z|z|z|z <;> subst z <;> rfl) ?_
  refine g_st (st' := []) rfl ?_
  obtain rfl := Option.some.inj hf
  exact g_vret k r dX2_bringBack_39 ⟨rfl, rfl⟩
abbrev rmX2_forget : Room := { frames := 0, cells := 0, slots := 0, locals := 0 }
def fX2_forget (N : Nat) (va0_known : Int32)  : Option (Int32) :=
  some (0)
set_option maxHeartbeats 4000000 in
set_option maxRecDepth 100000 in
theorem ctX2_forget (l : Launch) (E : Ev) (N : Nat) (a0 : Nat) (a0_moments : Nat) (va0_next : Int32) (va0_known : Int32)  (out : Int32) (hf : fX2_forget N va0_known  = some out) : Ct l E yX2_forget cX2_forget 1 none rmX2_forget [.ref a0] [(a0, oB 2 [.ref a0_moments, .int va0_next, .int va0_known])] (Pe none [(a0, oB 2 [.ref a0_moments, .int va0_next, .int out])]) := by
  refine Ct.of rfl (Nat.le_of_ble_eq_true rfl) (fun K hL k r hin => ?_)
  subst hL
  unfold fX2_forget at hf
  show G E K 1 0 0 [(0, .ref a0)] [] [(a0, oB 2 [.ref a0_moments, .int va0_next, .int va0_known])] 0
  refine g_aload_n k 0 dX2_forget_0 rfl rfl ?_
  refine g_iconst k dX2_forget_1 ic_0 ?_
  refine g_put k cfX2 2 0 (ws' := [(a0, oB 2 [.ref a0_moments, .int va0_next, .int 0])]) dX2_forget_2 lkX2_19 (by decide) rfl rfl rfl rfl (Nat.le_of_ble_eq_true rfl) rfl ?_
  obtain rfl := Option.some.inj hf
  exact g_vret k r dX2_forget_5 ⟨rfl, rfl⟩
abbrev rmX2_take : Room := { frames := 2, cells := 0, slots := 0, locals := 69 }
def fX2_take_L2 (N : Nat) (va1_moments_e_boat : Nat → Int32) (va1_moments_e_minute : Nat → Int32) (va1_moments_e_draw : Nat → Int32) (va1_moments_e_ice : Nat → Nat → Int32) (va1_moments_e_juice : Nat → Nat → Int32) (va1_moments_e_fors : Nat → Nat → Int32) : Nat → Int32 → (Nat → Int32) → (Nat → Int32) → (Nat → Int32) → (Nat → Nat → Int32) → (Nat → Nat → Int32) → (Nat → Nat → Int32) → Option (Int32 × (Nat → Int32) × (Nat → Int32) × (Nat → Int32) × (Nat → Nat → Int32) × (Nat → Nat → Int32) × (Nat → Nat → Int32))
  | 0, _, _, _, _, _, _, _ => none
  | n + 1, x2, va0_moments_e_boat, va0_moments_e_minute, va0_moments_e_draw, va0_moments_e_ice, va0_moments_e_juice, va0_moments_e_fors =>
    if 8 ≤ x2 then
    some (x2, va0_moments_e_boat, va0_moments_e_minute, va0_moments_e_draw, va0_moments_e_ice, va0_moments_e_juice, va0_moments_e_fors)
    else
    ixb x2 8 fun κ2 =>
    ixb x2 8 fun κ3 =>
    bnd (fX3_take N (va0_moments_e_boat κ2) (va0_moments_e_minute κ2) (va0_moments_e_draw κ2) (va0_moments_e_ice κ2) (va0_moments_e_juice κ2) (va0_moments_e_fors κ2) (va1_moments_e_boat κ3) (va1_moments_e_minute κ3) (va1_moments_e_draw κ3) (va1_moments_e_ice κ3) (va1_moments_e_juice κ3) (va1_moments_e_fors κ3)) fun o4 =>
    fX2_take_L2 N va1_moments_e_boat va1_moments_e_minute va1_moments_e_draw va1_moments_e_ice va1_moments_e_juice va1_moments_e_fors n (x2 + 1) (va_up va0_moments_e_boat κ2 o4.1) (va_up va0_moments_e_minute κ2 o4.2.1) (va_up va0_moments_e_draw κ2 o4.2.2.1) (va_up va0_moments_e_ice κ2 o4.2.2.2.1) (va_up va0_moments_e_juice κ2 o4.2.2.2.2.1) (va_up va0_moments_e_fors κ2 o4.2.2.2.2.2)
set_option maxHeartbeats 4000000 in
set_option maxRecDepth 100000 in
theorem wX2_take_L2 {E : Ev} {K : KX} (k : OKX E K cX2_take RX2 3 rmX2_take) (N : Nat) (a0 : Nat) (a0_moments : Nat) (a0_moments_e : Nat → Nat) (a0_moments_e_ice : Nat → Nat) (a0_moments_e_juice : Nat → Nat) (a0_moments_e_fors : Nat → Nat) (a1 : Nat) (a1_moments : Nat) (a1_moments_e : Nat → Nat) (a1_moments_e_ice : Nat → Nat) (a1_moments_e_juice : Nat → Nat) (a1_moments_e_fors : Nat → Nat) (va1_moments_e_boat : Nat → Int32) (va1_moments_e_minute : Nat → Int32) (va1_moments_e_draw : Nat → Int32) (va1_moments_e_ice : Nat → Nat → Int32) (va1_moments_e_juice : Nat → Nat → Int32) (va1_moments_e_fors : Nat → Nat → Int32) (va0_next : Int32) (va0_known : Int32) (va1_next : Int32) (va1_known : Int32) : ∀ (n : Nat) (x2 : Int32) (va0_moments_e_boat : Nat → Int32) (va0_moments_e_minute : Nat → Int32) (va0_moments_e_draw : Nat → Int32) (va0_moments_e_ice : Nat → Nat → Int32) (va0_moments_e_juice : Nat → Nat → Int32) (va0_moments_e_fors : Nat → Nat → Int32) (o : Int32 × (Nat → Int32) × (Nat → Int32) × (Nat → Int32) × (Nat → Nat → Int32) × (Nat → Nat → Int32) × (Nat → Nat → Int32)), fX2_take_L2 N va1_moments_e_boat va1_moments_e_minute va1_moments_e_draw va1_moments_e_ice va1_moments_e_juice va1_moments_e_fors n x2 va0_moments_e_boat va0_moments_e_minute va0_moments_e_draw va0_moments_e_ice va0_moments_e_juice va0_moments_e_fors = some o → G E K 3 0 0 [(0, .ref a0), (1, .ref a1), (2, .int o.1)] [] [(a0, oB 2 [.ref a0_moments, .int va0_next, .int va0_known]), (a0_moments, aM E 8 (fun j => some (a0_moments_e j))), ((a0_moments_e 0), oB 3 [.ref (a0_moments_e_ice 0), .ref (a0_moments_e_juice 0), .ref (a0_moments_e_fors 0), .int (o.2.1 0), .int (o.2.2.1 0), .int (o.2.2.2.1 0)]), ((a0_moments_e_ice 0), aI E 12 (o.2.2.2.2.1 0)), ((a0_moments_e_juice 0), aI E 5 (o.2.2.2.2.2.1 0)), ((a0_moments_e_fors 0), aI E 5 (o.2.2.2.2.2.2 0)), ((a0_moments_e 1), oB 3 [.ref (a0_moments_e_ice 1), .ref (a0_moments_e_juice 1), .ref (a0_moments_e_fors 1), .int (o.2.1 1), .int (o.2.2.1 1), .int (o.2.2.2.1 1)]), ((a0_moments_e_ice 1), aI E 12 (o.2.2.2.2.1 1)), ((a0_moments_e_juice 1), aI E 5 (o.2.2.2.2.2.1 1)), ((a0_moments_e_fors 1), aI E 5 (o.2.2.2.2.2.2 1)), ((a0_moments_e 2), oB 3 [.ref (a0_moments_e_ice 2), .ref (a0_moments_e_juice 2), .ref (a0_moments_e_fors 2), .int (o.2.1 2), .int (o.2.2.1 2), .int (o.2.2.2.1 2)]), ((a0_moments_e_ice 2), aI E 12 (o.2.2.2.2.1 2)), ((a0_moments_e_juice 2), aI E 5 (o.2.2.2.2.2.1 2)), ((a0_moments_e_fors 2), aI E 5 (o.2.2.2.2.2.2 2)), ((a0_moments_e 3), oB 3 [.ref (a0_moments_e_ice 3), .ref (a0_moments_e_juice 3), .ref (a0_moments_e_fors 3), .int (o.2.1 3), .int (o.2.2.1 3), .int (o.2.2.2.1 3)]), ((a0_moments_e_ice 3), aI E 12 (o.2.2.2.2.1 3)), ((a0_moments_e_juice 3), aI E 5 (o.2.2.2.2.2.1 3)), ((a0_moments_e_fors 3), aI E 5 (o.2.2.2.2.2.2 3)), ((a0_moments_e 4), oB 3 [.ref (a0_moments_e_ice 4), .ref (a0_moments_e_juice 4), .ref (a0_moments_e_fors 4), .int (o.2.1 4), .int (o.2.2.1 4), .int (o.2.2.2.1 4)]), ((a0_moments_e_ice 4), aI E 12 (o.2.2.2.2.1 4)), ((a0_moments_e_juice 4), aI E 5 (o.2.2.2.2.2.1 4)), ((a0_moments_e_fors 4), aI E 5 (o.2.2.2.2.2.2 4)), ((a0_moments_e 5), oB 3 [.ref (a0_moments_e_ice 5), .ref (a0_moments_e_juice 5), .ref (a0_moments_e_fors 5), .int (o.2.1 5), .int (o.2.2.1 5), .int (o.2.2.2.1 5)]), ((a0_moments_e_ice 5), aI E 12 (o.2.2.2.2.1 5)), ((a0_moments_e_juice 5), aI E 5 (o.2.2.2.2.2.1 5)), ((a0_moments_e_fors 5), aI E 5 (o.2.2.2.2.2.2 5)), ((a0_moments_e 6), oB 3 [.ref (a0_moments_e_ice 6), .ref (a0_moments_e_juice 6), .ref (a0_moments_e_fors 6), .int (o.2.1 6), .int (o.2.2.1 6), .int (o.2.2.2.1 6)]), ((a0_moments_e_ice 6), aI E 12 (o.2.2.2.2.1 6)), ((a0_moments_e_juice 6), aI E 5 (o.2.2.2.2.2.1 6)), ((a0_moments_e_fors 6), aI E 5 (o.2.2.2.2.2.2 6)), ((a0_moments_e 7), oB 3 [.ref (a0_moments_e_ice 7), .ref (a0_moments_e_juice 7), .ref (a0_moments_e_fors 7), .int (o.2.1 7), .int (o.2.2.1 7), .int (o.2.2.2.1 7)]), ((a0_moments_e_ice 7), aI E 12 (o.2.2.2.2.1 7)), ((a0_moments_e_juice 7), aI E 5 (o.2.2.2.2.2.1 7)), ((a0_moments_e_fors 7), aI E 5 (o.2.2.2.2.2.2 7)), (a1, oB 2 [.ref a1_moments, .int va1_next, .int va1_known]), (a1_moments, aM E 8 (fun j => some (a1_moments_e j))), ((a1_moments_e 0), oB 3 [.ref (a1_moments_e_ice 0), .ref (a1_moments_e_juice 0), .ref (a1_moments_e_fors 0), .int (va1_moments_e_boat 0), .int (va1_moments_e_minute 0), .int (va1_moments_e_draw 0)]), ((a1_moments_e_ice 0), aI E 12 (va1_moments_e_ice 0)), ((a1_moments_e_juice 0), aI E 5 (va1_moments_e_juice 0)), ((a1_moments_e_fors 0), aI E 5 (va1_moments_e_fors 0)), ((a1_moments_e 1), oB 3 [.ref (a1_moments_e_ice 1), .ref (a1_moments_e_juice 1), .ref (a1_moments_e_fors 1), .int (va1_moments_e_boat 1), .int (va1_moments_e_minute 1), .int (va1_moments_e_draw 1)]), ((a1_moments_e_ice 1), aI E 12 (va1_moments_e_ice 1)), ((a1_moments_e_juice 1), aI E 5 (va1_moments_e_juice 1)), ((a1_moments_e_fors 1), aI E 5 (va1_moments_e_fors 1)), ((a1_moments_e 2), oB 3 [.ref (a1_moments_e_ice 2), .ref (a1_moments_e_juice 2), .ref (a1_moments_e_fors 2), .int (va1_moments_e_boat 2), .int (va1_moments_e_minute 2), .int (va1_moments_e_draw 2)]), ((a1_moments_e_ice 2), aI E 12 (va1_moments_e_ice 2)), ((a1_moments_e_juice 2), aI E 5 (va1_moments_e_juice 2)), ((a1_moments_e_fors 2), aI E 5 (va1_moments_e_fors 2)), ((a1_moments_e 3), oB 3 [.ref (a1_moments_e_ice 3), .ref (a1_moments_e_juice 3), .ref (a1_moments_e_fors 3), .int (va1_moments_e_boat 3), .int (va1_moments_e_minute 3), .int (va1_moments_e_draw 3)]), ((a1_moments_e_ice 3), aI E 12 (va1_moments_e_ice 3)), ((a1_moments_e_juice 3), aI E 5 (va1_moments_e_juice 3)), ((a1_moments_e_fors 3), aI E 5 (va1_moments_e_fors 3)), ((a1_moments_e 4), oB 3 [.ref (a1_moments_e_ice 4), .ref (a1_moments_e_juice 4), .ref (a1_moments_e_fors 4), .int (va1_moments_e_boat 4), .int (va1_moments_e_minute 4), .int (va1_moments_e_draw 4)]), ((a1_moments_e_ice 4), aI E 12 (va1_moments_e_ice 4)), ((a1_moments_e_juice 4), aI E 5 (va1_moments_e_juice 4)), ((a1_moments_e_fors 4), aI E 5 (va1_moments_e_fors 4)), ((a1_moments_e 5), oB 3 [.ref (a1_moments_e_ice 5), .ref (a1_moments_e_juice 5), .ref (a1_moments_e_fors 5), .int (va1_moments_e_boat 5), .int (va1_moments_e_minute 5), .int (va1_moments_e_draw 5)]), ((a1_moments_e_ice 5), aI E 12 (va1_moments_e_ice 5)), ((a1_moments_e_juice 5), aI E 5 (va1_moments_e_juice 5)), ((a1_moments_e_fors 5), aI E 5 (va1_moments_e_fors 5)), ((a1_moments_e 6), oB 3 [.ref (a1_moments_e_ice 6), .ref (a1_moments_e_juice 6), .ref (a1_moments_e_fors 6), .int (va1_moments_e_boat 6), .int (va1_moments_e_minute 6), .int (va1_moments_e_draw 6)]), ((a1_moments_e_ice 6), aI E 12 (va1_moments_e_ice 6)), ((a1_moments_e_juice 6), aI E 5 (va1_moments_e_juice 6)), ((a1_moments_e_fors 6), aI E 5 (va1_moments_e_fors 6)), ((a1_moments_e 7), oB 3 [.ref (a1_moments_e_ice 7), .ref (a1_moments_e_juice 7), .ref (a1_moments_e_fors 7), .int (va1_moments_e_boat 7), .int (va1_moments_e_minute 7), .int (va1_moments_e_draw 7)]), ((a1_moments_e_ice 7), aI E 12 (va1_moments_e_ice 7)), ((a1_moments_e_juice 7), aI E 5 (va1_moments_e_juice 7)), ((a1_moments_e_fors 7), aI E 5 (va1_moments_e_fors 7))] 29 → G E K 3 0 0 [(0, .ref a0), (1, .ref a1), (2, .int x2)] [] [(a0, oB 2 [.ref a0_moments, .int va0_next, .int va0_known]), (a0_moments, aM E 8 (fun j => some (a0_moments_e j))), ((a0_moments_e 0), oB 3 [.ref (a0_moments_e_ice 0), .ref (a0_moments_e_juice 0), .ref (a0_moments_e_fors 0), .int (va0_moments_e_boat 0), .int (va0_moments_e_minute 0), .int (va0_moments_e_draw 0)]), ((a0_moments_e_ice 0), aI E 12 (va0_moments_e_ice 0)), ((a0_moments_e_juice 0), aI E 5 (va0_moments_e_juice 0)), ((a0_moments_e_fors 0), aI E 5 (va0_moments_e_fors 0)), ((a0_moments_e 1), oB 3 [.ref (a0_moments_e_ice 1), .ref (a0_moments_e_juice 1), .ref (a0_moments_e_fors 1), .int (va0_moments_e_boat 1), .int (va0_moments_e_minute 1), .int (va0_moments_e_draw 1)]), ((a0_moments_e_ice 1), aI E 12 (va0_moments_e_ice 1)), ((a0_moments_e_juice 1), aI E 5 (va0_moments_e_juice 1)), ((a0_moments_e_fors 1), aI E 5 (va0_moments_e_fors 1)), ((a0_moments_e 2), oB 3 [.ref (a0_moments_e_ice 2), .ref (a0_moments_e_juice 2), .ref (a0_moments_e_fors 2), .int (va0_moments_e_boat 2), .int (va0_moments_e_minute 2), .int (va0_moments_e_draw 2)]), ((a0_moments_e_ice 2), aI E 12 (va0_moments_e_ice 2)), ((a0_moments_e_juice 2), aI E 5 (va0_moments_e_juice 2)), ((a0_moments_e_fors 2), aI E 5 (va0_moments_e_fors 2)), ((a0_moments_e 3), oB 3 [.ref (a0_moments_e_ice 3), .ref (a0_moments_e_juice 3), .ref (a0_moments_e_fors 3), .int (va0_moments_e_boat 3), .int (va0_moments_e_minute 3), .int (va0_moments_e_draw 3)]), ((a0_moments_e_ice 3), aI E 12 (va0_moments_e_ice 3)), ((a0_moments_e_juice 3), aI E 5 (va0_moments_e_juice 3)), ((a0_moments_e_fors 3), aI E 5 (va0_moments_e_fors 3)), ((a0_moments_e 4), oB 3 [.ref (a0_moments_e_ice 4), .ref (a0_moments_e_juice 4), .ref (a0_moments_e_fors 4), .int (va0_moments_e_boat 4), .int (va0_moments_e_minute 4), .int (va0_moments_e_draw 4)]), ((a0_moments_e_ice 4), aI E 12 (va0_moments_e_ice 4)), ((a0_moments_e_juice 4), aI E 5 (va0_moments_e_juice 4)), ((a0_moments_e_fors 4), aI E 5 (va0_moments_e_fors 4)), ((a0_moments_e 5), oB 3 [.ref (a0_moments_e_ice 5), .ref (a0_moments_e_juice 5), .ref (a0_moments_e_fors 5), .int (va0_moments_e_boat 5), .int (va0_moments_e_minute 5), .int (va0_moments_e_draw 5)]), ((a0_moments_e_ice 5), aI E 12 (va0_moments_e_ice 5)), ((a0_moments_e_juice 5), aI E 5 (va0_moments_e_juice 5)), ((a0_moments_e_fors 5), aI E 5 (va0_moments_e_fors 5)), ((a0_moments_e 6), oB 3 [.ref (a0_moments_e_ice 6), .ref (a0_moments_e_juice 6), .ref (a0_moments_e_fors 6), .int (va0_moments_e_boat 6), .int (va0_moments_e_minute 6), .int (va0_moments_e_draw 6)]), ((a0_moments_e_ice 6), aI E 12 (va0_moments_e_ice 6)), ((a0_moments_e_juice 6), aI E 5 (va0_moments_e_juice 6)), ((a0_moments_e_fors 6), aI E 5 (va0_moments_e_fors 6)), ((a0_moments_e 7), oB 3 [.ref (a0_moments_e_ice 7), .ref (a0_moments_e_juice 7), .ref (a0_moments_e_fors 7), .int (va0_moments_e_boat 7), .int (va0_moments_e_minute 7), .int (va0_moments_e_draw 7)]), ((a0_moments_e_ice 7), aI E 12 (va0_moments_e_ice 7)), ((a0_moments_e_juice 7), aI E 5 (va0_moments_e_juice 7)), ((a0_moments_e_fors 7), aI E 5 (va0_moments_e_fors 7)), (a1, oB 2 [.ref a1_moments, .int va1_next, .int va1_known]), (a1_moments, aM E 8 (fun j => some (a1_moments_e j))), ((a1_moments_e 0), oB 3 [.ref (a1_moments_e_ice 0), .ref (a1_moments_e_juice 0), .ref (a1_moments_e_fors 0), .int (va1_moments_e_boat 0), .int (va1_moments_e_minute 0), .int (va1_moments_e_draw 0)]), ((a1_moments_e_ice 0), aI E 12 (va1_moments_e_ice 0)), ((a1_moments_e_juice 0), aI E 5 (va1_moments_e_juice 0)), ((a1_moments_e_fors 0), aI E 5 (va1_moments_e_fors 0)), ((a1_moments_e 1), oB 3 [.ref (a1_moments_e_ice 1), .ref (a1_moments_e_juice 1), .ref (a1_moments_e_fors 1), .int (va1_moments_e_boat 1), .int (va1_moments_e_minute 1), .int (va1_moments_e_draw 1)]), ((a1_moments_e_ice 1), aI E 12 (va1_moments_e_ice 1)), ((a1_moments_e_juice 1), aI E 5 (va1_moments_e_juice 1)), ((a1_moments_e_fors 1), aI E 5 (va1_moments_e_fors 1)), ((a1_moments_e 2), oB 3 [.ref (a1_moments_e_ice 2), .ref (a1_moments_e_juice 2), .ref (a1_moments_e_fors 2), .int (va1_moments_e_boat 2), .int (va1_moments_e_minute 2), .int (va1_moments_e_draw 2)]), ((a1_moments_e_ice 2), aI E 12 (va1_moments_e_ice 2)), ((a1_moments_e_juice 2), aI E 5 (va1_moments_e_juice 2)), ((a1_moments_e_fors 2), aI E 5 (va1_moments_e_fors 2)), ((a1_moments_e 3), oB 3 [.ref (a1_moments_e_ice 3), .ref (a1_moments_e_juice 3), .ref (a1_moments_e_fors 3), .int (va1_moments_e_boat 3), .int (va1_moments_e_minute 3), .int (va1_moments_e_draw 3)]), ((a1_moments_e_ice 3), aI E 12 (va1_moments_e_ice 3)), ((a1_moments_e_juice 3), aI E 5 (va1_moments_e_juice 3)), ((a1_moments_e_fors 3), aI E 5 (va1_moments_e_fors 3)), ((a1_moments_e 4), oB 3 [.ref (a1_moments_e_ice 4), .ref (a1_moments_e_juice 4), .ref (a1_moments_e_fors 4), .int (va1_moments_e_boat 4), .int (va1_moments_e_minute 4), .int (va1_moments_e_draw 4)]), ((a1_moments_e_ice 4), aI E 12 (va1_moments_e_ice 4)), ((a1_moments_e_juice 4), aI E 5 (va1_moments_e_juice 4)), ((a1_moments_e_fors 4), aI E 5 (va1_moments_e_fors 4)), ((a1_moments_e 5), oB 3 [.ref (a1_moments_e_ice 5), .ref (a1_moments_e_juice 5), .ref (a1_moments_e_fors 5), .int (va1_moments_e_boat 5), .int (va1_moments_e_minute 5), .int (va1_moments_e_draw 5)]), ((a1_moments_e_ice 5), aI E 12 (va1_moments_e_ice 5)), ((a1_moments_e_juice 5), aI E 5 (va1_moments_e_juice 5)), ((a1_moments_e_fors 5), aI E 5 (va1_moments_e_fors 5)), ((a1_moments_e 6), oB 3 [.ref (a1_moments_e_ice 6), .ref (a1_moments_e_juice 6), .ref (a1_moments_e_fors 6), .int (va1_moments_e_boat 6), .int (va1_moments_e_minute 6), .int (va1_moments_e_draw 6)]), ((a1_moments_e_ice 6), aI E 12 (va1_moments_e_ice 6)), ((a1_moments_e_juice 6), aI E 5 (va1_moments_e_juice 6)), ((a1_moments_e_fors 6), aI E 5 (va1_moments_e_fors 6)), ((a1_moments_e 7), oB 3 [.ref (a1_moments_e_ice 7), .ref (a1_moments_e_juice 7), .ref (a1_moments_e_fors 7), .int (va1_moments_e_boat 7), .int (va1_moments_e_minute 7), .int (va1_moments_e_draw 7)]), ((a1_moments_e_ice 7), aI E 12 (va1_moments_e_ice 7)), ((a1_moments_e_juice 7), aI E 5 (va1_moments_e_juice 7)), ((a1_moments_e_fors 7), aI E 5 (va1_moments_e_fors 7))] 2 := by
  intro n
  induction n with
  | zero => intro x2 va0_moments_e_boat va0_moments_e_minute va0_moments_e_draw va0_moments_e_ice va0_moments_e_juice va0_moments_e_fors o hf; cases hf
  | succ n ih =>
    intro x2 va0_moments_e_boat va0_moments_e_minute va0_moments_e_draw va0_moments_e_ice va0_moments_e_juice va0_moments_e_fors o hf hG
    rw [fX2_take_L2] at hf
    refine g_iload_n k 2 dX2_take_2 rfl rfl ?_
    refine g_bipush k dX2_take_3 bi_8 ?_
    refine g_icmp_ge k (tgt := 29) dX2_take_5 (by decide) (fun c1 => ?_) (fun c1 => ?_)
    · replace hf := ite_t c1 hf
      refine g_lv [0, 1, 2] rfl ?_
      obtain rfl := Option.some.inj hf
      exact hG
    · replace hf := ite_f c1 hf
      refine g_aload_n k 0 dX2_take_8 rfl rfl ?_
      refine g_get k cfX2 0 0 dX2_take_9 lkX2_11 (by decide) rfl rfl ?_
      refine g_iload_n k 2 dX2_take_12 rfl rfl ?_
      obtain ⟨κ2, hκ2, hiκ2, heκ2, hf⟩ := ixb_some hf
      refine g_aaloadM k 1 dX2_take_13 rfl hiκ2 heκ2 rfl ?_
      refine g_aload_n k 1 dX2_take_14 rfl rfl ?_
      refine g_get k cfX2 0 34 dX2_take_15 lkX2_11 (by decide) rfl rfl ?_
      refine g_iload_n k 2 dX2_take_18 rfl rfl ?_
      obtain ⟨κ3, hκ3, hiκ3, heκ3, hf⟩ := ixb_some hf
      refine g_aaloadM k 35 dX2_take_19 rfl hiκ3 heκ3 rfl ?_
      obtain ⟨o4, ho5, hf⟩ := bnd_some hf
      refine g_cv k miX3_take mvX3_take (ctX3_take (kL K) E N (a0_moments_e κ2) (a0_moments_e_ice κ2) (a0_moments_e_juice κ2) (a0_moments_e_fors κ2) (a1_moments_e κ3) (a1_moments_e_ice κ3) (a1_moments_e_juice κ3) (a1_moments_e_fors κ3) (va0_moments_e_boat κ2) (va0_moments_e_minute κ2) (va0_moments_e_draw κ2) (va0_moments_e_ice κ2) (va0_moments_e_juice κ2) (va0_moments_e_fors κ2) (va1_moments_e_boat κ3) (va1_moments_e_minute κ3) (va1_moments_e_draw κ3) (va1_moments_e_ice κ3) (va1_moments_e_juice κ3) (va1_moments_e_fors κ3)  o4 ho5) [(2 + 4 * κ2), (3 + 4 * κ2), (4 + 4 * κ2), (5 + 4 * κ2), (36 + 4 * κ3), (37 + 4 * κ3), (38 + 4 * κ3), (39 + 4 * κ3)] 0 (ws' := [(a0, oB 2 [.ref a0_moments, .int va0_next, .int va0_known]), (a0_moments, aM E 8 (fun j => some (a0_moments_e j))), ((a0_moments_e 0), oB 3 [.ref (a0_moments_e_ice 0), .ref (a0_moments_e_juice 0), .ref (a0_moments_e_fors 0), .int ((va_up va0_moments_e_boat κ2 o4.1) 0), .int ((va_up va0_moments_e_minute κ2 o4.2.1) 0), .int ((va_up va0_moments_e_draw κ2 o4.2.2.1) 0)]), ((a0_moments_e_ice 0), aI E 12 ((va_up va0_moments_e_ice κ2 o4.2.2.2.1) 0)), ((a0_moments_e_juice 0), aI E 5 ((va_up va0_moments_e_juice κ2 o4.2.2.2.2.1) 0)), ((a0_moments_e_fors 0), aI E 5 ((va_up va0_moments_e_fors κ2 o4.2.2.2.2.2) 0)), ((a0_moments_e 1), oB 3 [.ref (a0_moments_e_ice 1), .ref (a0_moments_e_juice 1), .ref (a0_moments_e_fors 1), .int ((va_up va0_moments_e_boat κ2 o4.1) 1), .int ((va_up va0_moments_e_minute κ2 o4.2.1) 1), .int ((va_up va0_moments_e_draw κ2 o4.2.2.1) 1)]), ((a0_moments_e_ice 1), aI E 12 ((va_up va0_moments_e_ice κ2 o4.2.2.2.1) 1)), ((a0_moments_e_juice 1), aI E 5 ((va_up va0_moments_e_juice κ2 o4.2.2.2.2.1) 1)), ((a0_moments_e_fors 1), aI E 5 ((va_up va0_moments_e_fors κ2 o4.2.2.2.2.2) 1)), ((a0_moments_e 2), oB 3 [.ref (a0_moments_e_ice 2), .ref (a0_moments_e_juice 2), .ref (a0_moments_e_fors 2), .int ((va_up va0_moments_e_boat κ2 o4.1) 2), .int ((va_up va0_moments_e_minute κ2 o4.2.1) 2), .int ((va_up va0_moments_e_draw κ2 o4.2.2.1) 2)]), ((a0_moments_e_ice 2), aI E 12 ((va_up va0_moments_e_ice κ2 o4.2.2.2.1) 2)), ((a0_moments_e_juice 2), aI E 5 ((va_up va0_moments_e_juice κ2 o4.2.2.2.2.1) 2)), ((a0_moments_e_fors 2), aI E 5 ((va_up va0_moments_e_fors κ2 o4.2.2.2.2.2) 2)), ((a0_moments_e 3), oB 3 [.ref (a0_moments_e_ice 3), .ref (a0_moments_e_juice 3), .ref (a0_moments_e_fors 3), .int ((va_up va0_moments_e_boat κ2 o4.1) 3), .int ((va_up va0_moments_e_minute κ2 o4.2.1) 3), .int ((va_up va0_moments_e_draw κ2 o4.2.2.1) 3)]), ((a0_moments_e_ice 3), aI E 12 ((va_up va0_moments_e_ice κ2 o4.2.2.2.1) 3)), ((a0_moments_e_juice 3), aI E 5 ((va_up va0_moments_e_juice κ2 o4.2.2.2.2.1) 3)), ((a0_moments_e_fors 3), aI E 5 ((va_up va0_moments_e_fors κ2 o4.2.2.2.2.2) 3)), ((a0_moments_e 4), oB 3 [.ref (a0_moments_e_ice 4), .ref (a0_moments_e_juice 4), .ref (a0_moments_e_fors 4), .int ((va_up va0_moments_e_boat κ2 o4.1) 4), .int ((va_up va0_moments_e_minute κ2 o4.2.1) 4), .int ((va_up va0_moments_e_draw κ2 o4.2.2.1) 4)]), ((a0_moments_e_ice 4), aI E 12 ((va_up va0_moments_e_ice κ2 o4.2.2.2.1) 4)), ((a0_moments_e_juice 4), aI E 5 ((va_up va0_moments_e_juice κ2 o4.2.2.2.2.1) 4)), ((a0_moments_e_fors 4), aI E 5 ((va_up va0_moments_e_fors κ2 o4.2.2.2.2.2) 4)), ((a0_moments_e 5), oB 3 [.ref (a0_moments_e_ice 5), .ref (a0_moments_e_juice 5), .ref (a0_moments_e_fors 5), .int ((va_up va0_moments_e_boat κ2 o4.1) 5), .int ((va_up va0_moments_e_minute κ2 o4.2.1) 5), .int ((va_up va0_moments_e_draw κ2 o4.2.2.1) 5)]), ((a0_moments_e_ice 5), aI E 12 ((va_up va0_moments_e_ice κ2 o4.2.2.2.1) 5)), ((a0_moments_e_juice 5), aI E 5 ((va_up va0_moments_e_juice κ2 o4.2.2.2.2.1) 5)), ((a0_moments_e_fors 5), aI E 5 ((va_up va0_moments_e_fors κ2 o4.2.2.2.2.2) 5)), ((a0_moments_e 6), oB 3 [.ref (a0_moments_e_ice 6), .ref (a0_moments_e_juice 6), .ref (a0_moments_e_fors 6), .int ((va_up va0_moments_e_boat κ2 o4.1) 6), .int ((va_up va0_moments_e_minute κ2 o4.2.1) 6), .int ((va_up va0_moments_e_draw κ2 o4.2.2.1) 6)]), ((a0_moments_e_ice 6), aI E 12 ((va_up va0_moments_e_ice κ2 o4.2.2.2.1) 6)), ((a0_moments_e_juice 6), aI E 5 ((va_up va0_moments_e_juice κ2 o4.2.2.2.2.1) 6)), ((a0_moments_e_fors 6), aI E 5 ((va_up va0_moments_e_fors κ2 o4.2.2.2.2.2) 6)), ((a0_moments_e 7), oB 3 [.ref (a0_moments_e_ice 7), .ref (a0_moments_e_juice 7), .ref (a0_moments_e_fors 7), .int ((va_up va0_moments_e_boat κ2 o4.1) 7), .int ((va_up va0_moments_e_minute κ2 o4.2.1) 7), .int ((va_up va0_moments_e_draw κ2 o4.2.2.1) 7)]), ((a0_moments_e_ice 7), aI E 12 ((va_up va0_moments_e_ice κ2 o4.2.2.2.1) 7)), ((a0_moments_e_juice 7), aI E 5 ((va_up va0_moments_e_juice κ2 o4.2.2.2.2.1) 7)), ((a0_moments_e_fors 7), aI E 5 ((va_up va0_moments_e_fors κ2 o4.2.2.2.2.2) 7)), (a1, oB 2 [.ref a1_moments, .int va1_next, .int va1_known]), (a1_moments, aM E 8 (fun j => some (a1_moments_e j))), ((a1_moments_e 0), oB 3 [.ref (a1_moments_e_ice 0), .ref (a1_moments_e_juice 0), .ref (a1_moments_e_fors 0), .int (va1_moments_e_boat 0), .int (va1_moments_e_minute 0), .int (va1_moments_e_draw 0)]), ((a1_moments_e_ice 0), aI E 12 (va1_moments_e_ice 0)), ((a1_moments_e_juice 0), aI E 5 (va1_moments_e_juice 0)), ((a1_moments_e_fors 0), aI E 5 (va1_moments_e_fors 0)), ((a1_moments_e 1), oB 3 [.ref (a1_moments_e_ice 1), .ref (a1_moments_e_juice 1), .ref (a1_moments_e_fors 1), .int (va1_moments_e_boat 1), .int (va1_moments_e_minute 1), .int (va1_moments_e_draw 1)]), ((a1_moments_e_ice 1), aI E 12 (va1_moments_e_ice 1)), ((a1_moments_e_juice 1), aI E 5 (va1_moments_e_juice 1)), ((a1_moments_e_fors 1), aI E 5 (va1_moments_e_fors 1)), ((a1_moments_e 2), oB 3 [.ref (a1_moments_e_ice 2), .ref (a1_moments_e_juice 2), .ref (a1_moments_e_fors 2), .int (va1_moments_e_boat 2), .int (va1_moments_e_minute 2), .int (va1_moments_e_draw 2)]), ((a1_moments_e_ice 2), aI E 12 (va1_moments_e_ice 2)), ((a1_moments_e_juice 2), aI E 5 (va1_moments_e_juice 2)), ((a1_moments_e_fors 2), aI E 5 (va1_moments_e_fors 2)), ((a1_moments_e 3), oB 3 [.ref (a1_moments_e_ice 3), .ref (a1_moments_e_juice 3), .ref (a1_moments_e_fors 3), .int (va1_moments_e_boat 3), .int (va1_moments_e_minute 3), .int (va1_moments_e_draw 3)]), ((a1_moments_e_ice 3), aI E 12 (va1_moments_e_ice 3)), ((a1_moments_e_juice 3), aI E 5 (va1_moments_e_juice 3)), ((a1_moments_e_fors 3), aI E 5 (va1_moments_e_fors 3)), ((a1_moments_e 4), oB 3 [.ref (a1_moments_e_ice 4), .ref (a1_moments_e_juice 4), .ref (a1_moments_e_fors 4), .int (va1_moments_e_boat 4), .int (va1_moments_e_minute 4), .int (va1_moments_e_draw 4)]), ((a1_moments_e_ice 4), aI E 12 (va1_moments_e_ice 4)), ((a1_moments_e_juice 4), aI E 5 (va1_moments_e_juice 4)), ((a1_moments_e_fors 4), aI E 5 (va1_moments_e_fors 4)), ((a1_moments_e 5), oB 3 [.ref (a1_moments_e_ice 5), .ref (a1_moments_e_juice 5), .ref (a1_moments_e_fors 5), .int (va1_moments_e_boat 5), .int (va1_moments_e_minute 5), .int (va1_moments_e_draw 5)]), ((a1_moments_e_ice 5), aI E 12 (va1_moments_e_ice 5)), ((a1_moments_e_juice 5), aI E 5 (va1_moments_e_juice 5)), ((a1_moments_e_fors 5), aI E 5 (va1_moments_e_fors 5)), ((a1_moments_e 6), oB 3 [.ref (a1_moments_e_ice 6), .ref (a1_moments_e_juice 6), .ref (a1_moments_e_fors 6), .int (va1_moments_e_boat 6), .int (va1_moments_e_minute 6), .int (va1_moments_e_draw 6)]), ((a1_moments_e_ice 6), aI E 12 (va1_moments_e_ice 6)), ((a1_moments_e_juice 6), aI E 5 (va1_moments_e_juice 6)), ((a1_moments_e_fors 6), aI E 5 (va1_moments_e_fors 6)), ((a1_moments_e 7), oB 3 [.ref (a1_moments_e_ice 7), .ref (a1_moments_e_juice 7), .ref (a1_moments_e_fors 7), .int (va1_moments_e_boat 7), .int (va1_moments_e_minute 7), .int (va1_moments_e_draw 7)]), ((a1_moments_e_ice 7), aI E 12 (va1_moments_e_ice 7)), ((a1_moments_e_juice 7), aI E 5 (va1_moments_e_juice 7)), ((a1_moments_e_fors 7), aI E 5 (va1_moments_e_fors 7))]) dX2_take_20 lkX2_23 rfl ⟨rfl, rfl⟩ ⟨by decide, by decide⟩ (by rcases lt8 hκ2 with z|z|z|z|z|z|z|z <;> subst z <;> rcases lt8 hκ3 with z|z|z|z|z|z|z|z <;> subst z <;> rfl) rfl rfl rfl (Nat.le_of_ble_eq_true rfl) (by rcases lt8 hκ2 with z|z|z|z|z|z|z|z <;> subst z <;> rcases lt8 hκ3 with z|z|z|z|z|z|z|z <;> subst z <;> rfl) rfl (by rcases lt8 hκ2 with z|z|z|z|z|z|z|z <;> subst z <;> rcases lt8 hκ3 with z|z|z|z|z|z|z|z <;> subst z <;> rfl) ?_
      refine g_st (st' := []) rfl ?_
      refine g_iinc k (lv' := [(2, .int (x2 + 1)), (0, .ref a0), (1, .ref a1)]) 2 dX2_take_23 rfl (ii_1 _) (by decide) rfl ?_
      refine g_goto k (tgt := 2) dX2_take_26 (by decide) ?_
      refine g_lv [1, 2, 0] rfl ?_
      exact ih (x2 + 1) (va_up va0_moments_e_boat κ2 o4.1) (va_up va0_moments_e_minute κ2 o4.2.1) (va_up va0_moments_e_draw κ2 o4.2.2.1) (va_up va0_moments_e_ice κ2 o4.2.2.2.1) (va_up va0_moments_e_juice κ2 o4.2.2.2.2.1) (va_up va0_moments_e_fors κ2 o4.2.2.2.2.2) o hf hG
def fX2_take (N : Nat) (va0_next : Int32) (va0_known : Int32) (va0_moments_e_boat : Nat → Int32) (va0_moments_e_minute : Nat → Int32) (va0_moments_e_draw : Nat → Int32) (va0_moments_e_ice : Nat → Nat → Int32) (va0_moments_e_juice : Nat → Nat → Int32) (va0_moments_e_fors : Nat → Nat → Int32) (va1_next : Int32) (va1_known : Int32) (va1_moments_e_boat : Nat → Int32) (va1_moments_e_minute : Nat → Int32) (va1_moments_e_draw : Nat → Int32) (va1_moments_e_ice : Nat → Nat → Int32) (va1_moments_e_juice : Nat → Nat → Int32) (va1_moments_e_fors : Nat → Nat → Int32)  : Option (Int32 × Int32 × (Nat → Int32) × (Nat → Int32) × (Nat → Int32) × (Nat → Nat → Int32) × (Nat → Nat → Int32) × (Nat → Nat → Int32)) :=
  bnd (fX2_take_L2 N va1_moments_e_boat va1_moments_e_minute va1_moments_e_draw va1_moments_e_ice va1_moments_e_juice va1_moments_e_fors N 0 va0_moments_e_boat va0_moments_e_minute va0_moments_e_draw va0_moments_e_ice va0_moments_e_juice va0_moments_e_fors) fun o6 =>
  some (va1_next, va1_known, o6.2.1, o6.2.2.1, o6.2.2.2.1, o6.2.2.2.2.1, o6.2.2.2.2.2.1, o6.2.2.2.2.2.2)
set_option maxHeartbeats 4000000 in
set_option maxRecDepth 100000 in
theorem ctX2_take (l : Launch) (E : Ev) (N : Nat) (a0 : Nat) (a0_moments : Nat) (a0_moments_e : Nat → Nat) (a0_moments_e_ice : Nat → Nat) (a0_moments_e_juice : Nat → Nat) (a0_moments_e_fors : Nat → Nat) (a1 : Nat) (a1_moments : Nat) (a1_moments_e : Nat → Nat) (a1_moments_e_ice : Nat → Nat) (a1_moments_e_juice : Nat → Nat) (a1_moments_e_fors : Nat → Nat) (va0_next : Int32) (va0_known : Int32) (va0_moments_e_boat : Nat → Int32) (va0_moments_e_minute : Nat → Int32) (va0_moments_e_draw : Nat → Int32) (va0_moments_e_ice : Nat → Nat → Int32) (va0_moments_e_juice : Nat → Nat → Int32) (va0_moments_e_fors : Nat → Nat → Int32) (va1_next : Int32) (va1_known : Int32) (va1_moments_e_boat : Nat → Int32) (va1_moments_e_minute : Nat → Int32) (va1_moments_e_draw : Nat → Int32) (va1_moments_e_ice : Nat → Nat → Int32) (va1_moments_e_juice : Nat → Nat → Int32) (va1_moments_e_fors : Nat → Nat → Int32)  (out : Int32 × Int32 × (Nat → Int32) × (Nat → Int32) × (Nat → Int32) × (Nat → Nat → Int32) × (Nat → Nat → Int32) × (Nat → Nat → Int32)) (hf : fX2_take N va0_next va0_known va0_moments_e_boat va0_moments_e_minute va0_moments_e_draw va0_moments_e_ice va0_moments_e_juice va0_moments_e_fors va1_next va1_known va1_moments_e_boat va1_moments_e_minute va1_moments_e_draw va1_moments_e_ice va1_moments_e_juice va1_moments_e_fors  = some out) : Ct l E yX2_take cX2_take 3 none rmX2_take [.ref a0, .ref a1] [(a0, oB 2 [.ref a0_moments, .int va0_next, .int va0_known]), (a0_moments, aM E 8 (fun j => some (a0_moments_e j))), ((a0_moments_e 0), oB 3 [.ref (a0_moments_e_ice 0), .ref (a0_moments_e_juice 0), .ref (a0_moments_e_fors 0), .int (va0_moments_e_boat 0), .int (va0_moments_e_minute 0), .int (va0_moments_e_draw 0)]), ((a0_moments_e_ice 0), aI E 12 (va0_moments_e_ice 0)), ((a0_moments_e_juice 0), aI E 5 (va0_moments_e_juice 0)), ((a0_moments_e_fors 0), aI E 5 (va0_moments_e_fors 0)), ((a0_moments_e 1), oB 3 [.ref (a0_moments_e_ice 1), .ref (a0_moments_e_juice 1), .ref (a0_moments_e_fors 1), .int (va0_moments_e_boat 1), .int (va0_moments_e_minute 1), .int (va0_moments_e_draw 1)]), ((a0_moments_e_ice 1), aI E 12 (va0_moments_e_ice 1)), ((a0_moments_e_juice 1), aI E 5 (va0_moments_e_juice 1)), ((a0_moments_e_fors 1), aI E 5 (va0_moments_e_fors 1)), ((a0_moments_e 2), oB 3 [.ref (a0_moments_e_ice 2), .ref (a0_moments_e_juice 2), .ref (a0_moments_e_fors 2), .int (va0_moments_e_boat 2), .int (va0_moments_e_minute 2), .int (va0_moments_e_draw 2)]), ((a0_moments_e_ice 2), aI E 12 (va0_moments_e_ice 2)), ((a0_moments_e_juice 2), aI E 5 (va0_moments_e_juice 2)), ((a0_moments_e_fors 2), aI E 5 (va0_moments_e_fors 2)), ((a0_moments_e 3), oB 3 [.ref (a0_moments_e_ice 3), .ref (a0_moments_e_juice 3), .ref (a0_moments_e_fors 3), .int (va0_moments_e_boat 3), .int (va0_moments_e_minute 3), .int (va0_moments_e_draw 3)]), ((a0_moments_e_ice 3), aI E 12 (va0_moments_e_ice 3)), ((a0_moments_e_juice 3), aI E 5 (va0_moments_e_juice 3)), ((a0_moments_e_fors 3), aI E 5 (va0_moments_e_fors 3)), ((a0_moments_e 4), oB 3 [.ref (a0_moments_e_ice 4), .ref (a0_moments_e_juice 4), .ref (a0_moments_e_fors 4), .int (va0_moments_e_boat 4), .int (va0_moments_e_minute 4), .int (va0_moments_e_draw 4)]), ((a0_moments_e_ice 4), aI E 12 (va0_moments_e_ice 4)), ((a0_moments_e_juice 4), aI E 5 (va0_moments_e_juice 4)), ((a0_moments_e_fors 4), aI E 5 (va0_moments_e_fors 4)), ((a0_moments_e 5), oB 3 [.ref (a0_moments_e_ice 5), .ref (a0_moments_e_juice 5), .ref (a0_moments_e_fors 5), .int (va0_moments_e_boat 5), .int (va0_moments_e_minute 5), .int (va0_moments_e_draw 5)]), ((a0_moments_e_ice 5), aI E 12 (va0_moments_e_ice 5)), ((a0_moments_e_juice 5), aI E 5 (va0_moments_e_juice 5)), ((a0_moments_e_fors 5), aI E 5 (va0_moments_e_fors 5)), ((a0_moments_e 6), oB 3 [.ref (a0_moments_e_ice 6), .ref (a0_moments_e_juice 6), .ref (a0_moments_e_fors 6), .int (va0_moments_e_boat 6), .int (va0_moments_e_minute 6), .int (va0_moments_e_draw 6)]), ((a0_moments_e_ice 6), aI E 12 (va0_moments_e_ice 6)), ((a0_moments_e_juice 6), aI E 5 (va0_moments_e_juice 6)), ((a0_moments_e_fors 6), aI E 5 (va0_moments_e_fors 6)), ((a0_moments_e 7), oB 3 [.ref (a0_moments_e_ice 7), .ref (a0_moments_e_juice 7), .ref (a0_moments_e_fors 7), .int (va0_moments_e_boat 7), .int (va0_moments_e_minute 7), .int (va0_moments_e_draw 7)]), ((a0_moments_e_ice 7), aI E 12 (va0_moments_e_ice 7)), ((a0_moments_e_juice 7), aI E 5 (va0_moments_e_juice 7)), ((a0_moments_e_fors 7), aI E 5 (va0_moments_e_fors 7)), (a1, oB 2 [.ref a1_moments, .int va1_next, .int va1_known]), (a1_moments, aM E 8 (fun j => some (a1_moments_e j))), ((a1_moments_e 0), oB 3 [.ref (a1_moments_e_ice 0), .ref (a1_moments_e_juice 0), .ref (a1_moments_e_fors 0), .int (va1_moments_e_boat 0), .int (va1_moments_e_minute 0), .int (va1_moments_e_draw 0)]), ((a1_moments_e_ice 0), aI E 12 (va1_moments_e_ice 0)), ((a1_moments_e_juice 0), aI E 5 (va1_moments_e_juice 0)), ((a1_moments_e_fors 0), aI E 5 (va1_moments_e_fors 0)), ((a1_moments_e 1), oB 3 [.ref (a1_moments_e_ice 1), .ref (a1_moments_e_juice 1), .ref (a1_moments_e_fors 1), .int (va1_moments_e_boat 1), .int (va1_moments_e_minute 1), .int (va1_moments_e_draw 1)]), ((a1_moments_e_ice 1), aI E 12 (va1_moments_e_ice 1)), ((a1_moments_e_juice 1), aI E 5 (va1_moments_e_juice 1)), ((a1_moments_e_fors 1), aI E 5 (va1_moments_e_fors 1)), ((a1_moments_e 2), oB 3 [.ref (a1_moments_e_ice 2), .ref (a1_moments_e_juice 2), .ref (a1_moments_e_fors 2), .int (va1_moments_e_boat 2), .int (va1_moments_e_minute 2), .int (va1_moments_e_draw 2)]), ((a1_moments_e_ice 2), aI E 12 (va1_moments_e_ice 2)), ((a1_moments_e_juice 2), aI E 5 (va1_moments_e_juice 2)), ((a1_moments_e_fors 2), aI E 5 (va1_moments_e_fors 2)), ((a1_moments_e 3), oB 3 [.ref (a1_moments_e_ice 3), .ref (a1_moments_e_juice 3), .ref (a1_moments_e_fors 3), .int (va1_moments_e_boat 3), .int (va1_moments_e_minute 3), .int (va1_moments_e_draw 3)]), ((a1_moments_e_ice 3), aI E 12 (va1_moments_e_ice 3)), ((a1_moments_e_juice 3), aI E 5 (va1_moments_e_juice 3)), ((a1_moments_e_fors 3), aI E 5 (va1_moments_e_fors 3)), ((a1_moments_e 4), oB 3 [.ref (a1_moments_e_ice 4), .ref (a1_moments_e_juice 4), .ref (a1_moments_e_fors 4), .int (va1_moments_e_boat 4), .int (va1_moments_e_minute 4), .int (va1_moments_e_draw 4)]), ((a1_moments_e_ice 4), aI E 12 (va1_moments_e_ice 4)), ((a1_moments_e_juice 4), aI E 5 (va1_moments_e_juice 4)), ((a1_moments_e_fors 4), aI E 5 (va1_moments_e_fors 4)), ((a1_moments_e 5), oB 3 [.ref (a1_moments_e_ice 5), .ref (a1_moments_e_juice 5), .ref (a1_moments_e_fors 5), .int (va1_moments_e_boat 5), .int (va1_moments_e_minute 5), .int (va1_moments_e_draw 5)]), ((a1_moments_e_ice 5), aI E 12 (va1_moments_e_ice 5)), ((a1_moments_e_juice 5), aI E 5 (va1_moments_e_juice 5)), ((a1_moments_e_fors 5), aI E 5 (va1_moments_e_fors 5)), ((a1_moments_e 6), oB 3 [.ref (a1_moments_e_ice 6), .ref (a1_moments_e_juice 6), .ref (a1_moments_e_fors 6), .int (va1_moments_e_boat 6), .int (va1_moments_e_minute 6), .int (va1_moments_e_draw 6)]), ((a1_moments_e_ice 6), aI E 12 (va1_moments_e_ice 6)), ((a1_moments_e_juice 6), aI E 5 (va1_moments_e_juice 6)), ((a1_moments_e_fors 6), aI E 5 (va1_moments_e_fors 6)), ((a1_moments_e 7), oB 3 [.ref (a1_moments_e_ice 7), .ref (a1_moments_e_juice 7), .ref (a1_moments_e_fors 7), .int (va1_moments_e_boat 7), .int (va1_moments_e_minute 7), .int (va1_moments_e_draw 7)]), ((a1_moments_e_ice 7), aI E 12 (va1_moments_e_ice 7)), ((a1_moments_e_juice 7), aI E 5 (va1_moments_e_juice 7)), ((a1_moments_e_fors 7), aI E 5 (va1_moments_e_fors 7))] (Pe none [(a0, oB 2 [.ref a0_moments, .int out.1, .int out.2.1]), (a0_moments, aM E 8 (fun j => some (a0_moments_e j))), ((a0_moments_e 0), oB 3 [.ref (a0_moments_e_ice 0), .ref (a0_moments_e_juice 0), .ref (a0_moments_e_fors 0), .int (out.2.2.1 0), .int (out.2.2.2.1 0), .int (out.2.2.2.2.1 0)]), ((a0_moments_e_ice 0), aI E 12 (out.2.2.2.2.2.1 0)), ((a0_moments_e_juice 0), aI E 5 (out.2.2.2.2.2.2.1 0)), ((a0_moments_e_fors 0), aI E 5 (out.2.2.2.2.2.2.2 0)), ((a0_moments_e 1), oB 3 [.ref (a0_moments_e_ice 1), .ref (a0_moments_e_juice 1), .ref (a0_moments_e_fors 1), .int (out.2.2.1 1), .int (out.2.2.2.1 1), .int (out.2.2.2.2.1 1)]), ((a0_moments_e_ice 1), aI E 12 (out.2.2.2.2.2.1 1)), ((a0_moments_e_juice 1), aI E 5 (out.2.2.2.2.2.2.1 1)), ((a0_moments_e_fors 1), aI E 5 (out.2.2.2.2.2.2.2 1)), ((a0_moments_e 2), oB 3 [.ref (a0_moments_e_ice 2), .ref (a0_moments_e_juice 2), .ref (a0_moments_e_fors 2), .int (out.2.2.1 2), .int (out.2.2.2.1 2), .int (out.2.2.2.2.1 2)]), ((a0_moments_e_ice 2), aI E 12 (out.2.2.2.2.2.1 2)), ((a0_moments_e_juice 2), aI E 5 (out.2.2.2.2.2.2.1 2)), ((a0_moments_e_fors 2), aI E 5 (out.2.2.2.2.2.2.2 2)), ((a0_moments_e 3), oB 3 [.ref (a0_moments_e_ice 3), .ref (a0_moments_e_juice 3), .ref (a0_moments_e_fors 3), .int (out.2.2.1 3), .int (out.2.2.2.1 3), .int (out.2.2.2.2.1 3)]), ((a0_moments_e_ice 3), aI E 12 (out.2.2.2.2.2.1 3)), ((a0_moments_e_juice 3), aI E 5 (out.2.2.2.2.2.2.1 3)), ((a0_moments_e_fors 3), aI E 5 (out.2.2.2.2.2.2.2 3)), ((a0_moments_e 4), oB 3 [.ref (a0_moments_e_ice 4), .ref (a0_moments_e_juice 4), .ref (a0_moments_e_fors 4), .int (out.2.2.1 4), .int (out.2.2.2.1 4), .int (out.2.2.2.2.1 4)]), ((a0_moments_e_ice 4), aI E 12 (out.2.2.2.2.2.1 4)), ((a0_moments_e_juice 4), aI E 5 (out.2.2.2.2.2.2.1 4)), ((a0_moments_e_fors 4), aI E 5 (out.2.2.2.2.2.2.2 4)), ((a0_moments_e 5), oB 3 [.ref (a0_moments_e_ice 5), .ref (a0_moments_e_juice 5), .ref (a0_moments_e_fors 5), .int (out.2.2.1 5), .int (out.2.2.2.1 5), .int (out.2.2.2.2.1 5)]), ((a0_moments_e_ice 5), aI E 12 (out.2.2.2.2.2.1 5)), ((a0_moments_e_juice 5), aI E 5 (out.2.2.2.2.2.2.1 5)), ((a0_moments_e_fors 5), aI E 5 (out.2.2.2.2.2.2.2 5)), ((a0_moments_e 6), oB 3 [.ref (a0_moments_e_ice 6), .ref (a0_moments_e_juice 6), .ref (a0_moments_e_fors 6), .int (out.2.2.1 6), .int (out.2.2.2.1 6), .int (out.2.2.2.2.1 6)]), ((a0_moments_e_ice 6), aI E 12 (out.2.2.2.2.2.1 6)), ((a0_moments_e_juice 6), aI E 5 (out.2.2.2.2.2.2.1 6)), ((a0_moments_e_fors 6), aI E 5 (out.2.2.2.2.2.2.2 6)), ((a0_moments_e 7), oB 3 [.ref (a0_moments_e_ice 7), .ref (a0_moments_e_juice 7), .ref (a0_moments_e_fors 7), .int (out.2.2.1 7), .int (out.2.2.2.1 7), .int (out.2.2.2.2.1 7)]), ((a0_moments_e_ice 7), aI E 12 (out.2.2.2.2.2.1 7)), ((a0_moments_e_juice 7), aI E 5 (out.2.2.2.2.2.2.1 7)), ((a0_moments_e_fors 7), aI E 5 (out.2.2.2.2.2.2.2 7)), (a1, oB 2 [.ref a1_moments, .int va1_next, .int va1_known]), (a1_moments, aM E 8 (fun j => some (a1_moments_e j))), ((a1_moments_e 0), oB 3 [.ref (a1_moments_e_ice 0), .ref (a1_moments_e_juice 0), .ref (a1_moments_e_fors 0), .int (va1_moments_e_boat 0), .int (va1_moments_e_minute 0), .int (va1_moments_e_draw 0)]), ((a1_moments_e_ice 0), aI E 12 (va1_moments_e_ice 0)), ((a1_moments_e_juice 0), aI E 5 (va1_moments_e_juice 0)), ((a1_moments_e_fors 0), aI E 5 (va1_moments_e_fors 0)), ((a1_moments_e 1), oB 3 [.ref (a1_moments_e_ice 1), .ref (a1_moments_e_juice 1), .ref (a1_moments_e_fors 1), .int (va1_moments_e_boat 1), .int (va1_moments_e_minute 1), .int (va1_moments_e_draw 1)]), ((a1_moments_e_ice 1), aI E 12 (va1_moments_e_ice 1)), ((a1_moments_e_juice 1), aI E 5 (va1_moments_e_juice 1)), ((a1_moments_e_fors 1), aI E 5 (va1_moments_e_fors 1)), ((a1_moments_e 2), oB 3 [.ref (a1_moments_e_ice 2), .ref (a1_moments_e_juice 2), .ref (a1_moments_e_fors 2), .int (va1_moments_e_boat 2), .int (va1_moments_e_minute 2), .int (va1_moments_e_draw 2)]), ((a1_moments_e_ice 2), aI E 12 (va1_moments_e_ice 2)), ((a1_moments_e_juice 2), aI E 5 (va1_moments_e_juice 2)), ((a1_moments_e_fors 2), aI E 5 (va1_moments_e_fors 2)), ((a1_moments_e 3), oB 3 [.ref (a1_moments_e_ice 3), .ref (a1_moments_e_juice 3), .ref (a1_moments_e_fors 3), .int (va1_moments_e_boat 3), .int (va1_moments_e_minute 3), .int (va1_moments_e_draw 3)]), ((a1_moments_e_ice 3), aI E 12 (va1_moments_e_ice 3)), ((a1_moments_e_juice 3), aI E 5 (va1_moments_e_juice 3)), ((a1_moments_e_fors 3), aI E 5 (va1_moments_e_fors 3)), ((a1_moments_e 4), oB 3 [.ref (a1_moments_e_ice 4), .ref (a1_moments_e_juice 4), .ref (a1_moments_e_fors 4), .int (va1_moments_e_boat 4), .int (va1_moments_e_minute 4), .int (va1_moments_e_draw 4)]), ((a1_moments_e_ice 4), aI E 12 (va1_moments_e_ice 4)), ((a1_moments_e_juice 4), aI E 5 (va1_moments_e_juice 4)), ((a1_moments_e_fors 4), aI E 5 (va1_moments_e_fors 4)), ((a1_moments_e 5), oB 3 [.ref (a1_moments_e_ice 5), .ref (a1_moments_e_juice 5), .ref (a1_moments_e_fors 5), .int (va1_moments_e_boat 5), .int (va1_moments_e_minute 5), .int (va1_moments_e_draw 5)]), ((a1_moments_e_ice 5), aI E 12 (va1_moments_e_ice 5)), ((a1_moments_e_juice 5), aI E 5 (va1_moments_e_juice 5)), ((a1_moments_e_fors 5), aI E 5 (va1_moments_e_fors 5)), ((a1_moments_e 6), oB 3 [.ref (a1_moments_e_ice 6), .ref (a1_moments_e_juice 6), .ref (a1_moments_e_fors 6), .int (va1_moments_e_boat 6), .int (va1_moments_e_minute 6), .int (va1_moments_e_draw 6)]), ((a1_moments_e_ice 6), aI E 12 (va1_moments_e_ice 6)), ((a1_moments_e_juice 6), aI E 5 (va1_moments_e_juice 6)), ((a1_moments_e_fors 6), aI E 5 (va1_moments_e_fors 6)), ((a1_moments_e 7), oB 3 [.ref (a1_moments_e_ice 7), .ref (a1_moments_e_juice 7), .ref (a1_moments_e_fors 7), .int (va1_moments_e_boat 7), .int (va1_moments_e_minute 7), .int (va1_moments_e_draw 7)]), ((a1_moments_e_ice 7), aI E 12 (va1_moments_e_ice 7)), ((a1_moments_e_juice 7), aI E 5 (va1_moments_e_juice 7)), ((a1_moments_e_fors 7), aI E 5 (va1_moments_e_fors 7))]) := by
  refine Ct.of rfl (Nat.le_of_ble_eq_true rfl) (fun K hL k r hin => ?_)
  subst hL
  unfold fX2_take at hf
  show G E K 3 0 0 [(0, .ref a0), (1, .ref a1)] [] [(a0, oB 2 [.ref a0_moments, .int va0_next, .int va0_known]), (a0_moments, aM E 8 (fun j => some (a0_moments_e j))), ((a0_moments_e 0), oB 3 [.ref (a0_moments_e_ice 0), .ref (a0_moments_e_juice 0), .ref (a0_moments_e_fors 0), .int (va0_moments_e_boat 0), .int (va0_moments_e_minute 0), .int (va0_moments_e_draw 0)]), ((a0_moments_e_ice 0), aI E 12 (va0_moments_e_ice 0)), ((a0_moments_e_juice 0), aI E 5 (va0_moments_e_juice 0)), ((a0_moments_e_fors 0), aI E 5 (va0_moments_e_fors 0)), ((a0_moments_e 1), oB 3 [.ref (a0_moments_e_ice 1), .ref (a0_moments_e_juice 1), .ref (a0_moments_e_fors 1), .int (va0_moments_e_boat 1), .int (va0_moments_e_minute 1), .int (va0_moments_e_draw 1)]), ((a0_moments_e_ice 1), aI E 12 (va0_moments_e_ice 1)), ((a0_moments_e_juice 1), aI E 5 (va0_moments_e_juice 1)), ((a0_moments_e_fors 1), aI E 5 (va0_moments_e_fors 1)), ((a0_moments_e 2), oB 3 [.ref (a0_moments_e_ice 2), .ref (a0_moments_e_juice 2), .ref (a0_moments_e_fors 2), .int (va0_moments_e_boat 2), .int (va0_moments_e_minute 2), .int (va0_moments_e_draw 2)]), ((a0_moments_e_ice 2), aI E 12 (va0_moments_e_ice 2)), ((a0_moments_e_juice 2), aI E 5 (va0_moments_e_juice 2)), ((a0_moments_e_fors 2), aI E 5 (va0_moments_e_fors 2)), ((a0_moments_e 3), oB 3 [.ref (a0_moments_e_ice 3), .ref (a0_moments_e_juice 3), .ref (a0_moments_e_fors 3), .int (va0_moments_e_boat 3), .int (va0_moments_e_minute 3), .int (va0_moments_e_draw 3)]), ((a0_moments_e_ice 3), aI E 12 (va0_moments_e_ice 3)), ((a0_moments_e_juice 3), aI E 5 (va0_moments_e_juice 3)), ((a0_moments_e_fors 3), aI E 5 (va0_moments_e_fors 3)), ((a0_moments_e 4), oB 3 [.ref (a0_moments_e_ice 4), .ref (a0_moments_e_juice 4), .ref (a0_moments_e_fors 4), .int (va0_moments_e_boat 4), .int (va0_moments_e_minute 4), .int (va0_moments_e_draw 4)]), ((a0_moments_e_ice 4), aI E 12 (va0_moments_e_ice 4)), ((a0_moments_e_juice 4), aI E 5 (va0_moments_e_juice 4)), ((a0_moments_e_fors 4), aI E 5 (va0_moments_e_fors 4)), ((a0_moments_e 5), oB 3 [.ref (a0_moments_e_ice 5), .ref (a0_moments_e_juice 5), .ref (a0_moments_e_fors 5), .int (va0_moments_e_boat 5), .int (va0_moments_e_minute 5), .int (va0_moments_e_draw 5)]), ((a0_moments_e_ice 5), aI E 12 (va0_moments_e_ice 5)), ((a0_moments_e_juice 5), aI E 5 (va0_moments_e_juice 5)), ((a0_moments_e_fors 5), aI E 5 (va0_moments_e_fors 5)), ((a0_moments_e 6), oB 3 [.ref (a0_moments_e_ice 6), .ref (a0_moments_e_juice 6), .ref (a0_moments_e_fors 6), .int (va0_moments_e_boat 6), .int (va0_moments_e_minute 6), .int (va0_moments_e_draw 6)]), ((a0_moments_e_ice 6), aI E 12 (va0_moments_e_ice 6)), ((a0_moments_e_juice 6), aI E 5 (va0_moments_e_juice 6)), ((a0_moments_e_fors 6), aI E 5 (va0_moments_e_fors 6)), ((a0_moments_e 7), oB 3 [.ref (a0_moments_e_ice 7), .ref (a0_moments_e_juice 7), .ref (a0_moments_e_fors 7), .int (va0_moments_e_boat 7), .int (va0_moments_e_minute 7), .int (va0_moments_e_draw 7)]), ((a0_moments_e_ice 7), aI E 12 (va0_moments_e_ice 7)), ((a0_moments_e_juice 7), aI E 5 (va0_moments_e_juice 7)), ((a0_moments_e_fors 7), aI E 5 (va0_moments_e_fors 7)), (a1, oB 2 [.ref a1_moments, .int va1_next, .int va1_known]), (a1_moments, aM E 8 (fun j => some (a1_moments_e j))), ((a1_moments_e 0), oB 3 [.ref (a1_moments_e_ice 0), .ref (a1_moments_e_juice 0), .ref (a1_moments_e_fors 0), .int (va1_moments_e_boat 0), .int (va1_moments_e_minute 0), .int (va1_moments_e_draw 0)]), ((a1_moments_e_ice 0), aI E 12 (va1_moments_e_ice 0)), ((a1_moments_e_juice 0), aI E 5 (va1_moments_e_juice 0)), ((a1_moments_e_fors 0), aI E 5 (va1_moments_e_fors 0)), ((a1_moments_e 1), oB 3 [.ref (a1_moments_e_ice 1), .ref (a1_moments_e_juice 1), .ref (a1_moments_e_fors 1), .int (va1_moments_e_boat 1), .int (va1_moments_e_minute 1), .int (va1_moments_e_draw 1)]), ((a1_moments_e_ice 1), aI E 12 (va1_moments_e_ice 1)), ((a1_moments_e_juice 1), aI E 5 (va1_moments_e_juice 1)), ((a1_moments_e_fors 1), aI E 5 (va1_moments_e_fors 1)), ((a1_moments_e 2), oB 3 [.ref (a1_moments_e_ice 2), .ref (a1_moments_e_juice 2), .ref (a1_moments_e_fors 2), .int (va1_moments_e_boat 2), .int (va1_moments_e_minute 2), .int (va1_moments_e_draw 2)]), ((a1_moments_e_ice 2), aI E 12 (va1_moments_e_ice 2)), ((a1_moments_e_juice 2), aI E 5 (va1_moments_e_juice 2)), ((a1_moments_e_fors 2), aI E 5 (va1_moments_e_fors 2)), ((a1_moments_e 3), oB 3 [.ref (a1_moments_e_ice 3), .ref (a1_moments_e_juice 3), .ref (a1_moments_e_fors 3), .int (va1_moments_e_boat 3), .int (va1_moments_e_minute 3), .int (va1_moments_e_draw 3)]), ((a1_moments_e_ice 3), aI E 12 (va1_moments_e_ice 3)), ((a1_moments_e_juice 3), aI E 5 (va1_moments_e_juice 3)), ((a1_moments_e_fors 3), aI E 5 (va1_moments_e_fors 3)), ((a1_moments_e 4), oB 3 [.ref (a1_moments_e_ice 4), .ref (a1_moments_e_juice 4), .ref (a1_moments_e_fors 4), .int (va1_moments_e_boat 4), .int (va1_moments_e_minute 4), .int (va1_moments_e_draw 4)]), ((a1_moments_e_ice 4), aI E 12 (va1_moments_e_ice 4)), ((a1_moments_e_juice 4), aI E 5 (va1_moments_e_juice 4)), ((a1_moments_e_fors 4), aI E 5 (va1_moments_e_fors 4)), ((a1_moments_e 5), oB 3 [.ref (a1_moments_e_ice 5), .ref (a1_moments_e_juice 5), .ref (a1_moments_e_fors 5), .int (va1_moments_e_boat 5), .int (va1_moments_e_minute 5), .int (va1_moments_e_draw 5)]), ((a1_moments_e_ice 5), aI E 12 (va1_moments_e_ice 5)), ((a1_moments_e_juice 5), aI E 5 (va1_moments_e_juice 5)), ((a1_moments_e_fors 5), aI E 5 (va1_moments_e_fors 5)), ((a1_moments_e 6), oB 3 [.ref (a1_moments_e_ice 6), .ref (a1_moments_e_juice 6), .ref (a1_moments_e_fors 6), .int (va1_moments_e_boat 6), .int (va1_moments_e_minute 6), .int (va1_moments_e_draw 6)]), ((a1_moments_e_ice 6), aI E 12 (va1_moments_e_ice 6)), ((a1_moments_e_juice 6), aI E 5 (va1_moments_e_juice 6)), ((a1_moments_e_fors 6), aI E 5 (va1_moments_e_fors 6)), ((a1_moments_e 7), oB 3 [.ref (a1_moments_e_ice 7), .ref (a1_moments_e_juice 7), .ref (a1_moments_e_fors 7), .int (va1_moments_e_boat 7), .int (va1_moments_e_minute 7), .int (va1_moments_e_draw 7)]), ((a1_moments_e_ice 7), aI E 12 (va1_moments_e_ice 7)), ((a1_moments_e_juice 7), aI E 5 (va1_moments_e_juice 7)), ((a1_moments_e_fors 7), aI E 5 (va1_moments_e_fors 7))] 0
  refine g_iconst k dX2_take_0 ic_0 ?_
  refine g_istore_n k (lv' := [(2, .int 0), (0, .ref a0), (1, .ref a1)]) dX2_take_1 rfl (by decide) rfl ?_
  obtain ⟨o6, ho7, hf⟩ := bnd_some hf
  refine g_lv [1, 2, 0] (lv' := [(0, .ref a0), (1, .ref a1), (2, .int 0)]) rfl ?_
  refine wX2_take_L2 k N a0 a0_moments a0_moments_e a0_moments_e_ice a0_moments_e_juice a0_moments_e_fors a1 a1_moments a1_moments_e a1_moments_e_ice a1_moments_e_juice a1_moments_e_fors  va1_moments_e_boat va1_moments_e_minute va1_moments_e_draw va1_moments_e_ice va1_moments_e_juice va1_moments_e_fors va0_next va0_known va1_next va1_known N 0 va0_moments_e_boat va0_moments_e_minute va0_moments_e_draw va0_moments_e_ice va0_moments_e_juice va0_moments_e_fors o6 ho7 ?_
  refine g_aload_n k 0 dX2_take_29 rfl rfl ?_
  refine g_aload_n k 1 dX2_take_30 rfl rfl ?_
  refine g_get k cfX2 1 34 dX2_take_31 lkX2_15 (by decide) rfl rfl ?_
  refine g_put k cfX2 1 0 (ws' := [(a0, oB 2 [.ref a0_moments, .int va1_next, .int va0_known]), (a0_moments, aM E 8 (fun j => some (a0_moments_e j))), ((a0_moments_e 0), oB 3 [.ref (a0_moments_e_ice 0), .ref (a0_moments_e_juice 0), .ref (a0_moments_e_fors 0), .int (o6.2.1 0), .int (o6.2.2.1 0), .int (o6.2.2.2.1 0)]), ((a0_moments_e_ice 0), aI E 12 (o6.2.2.2.2.1 0)), ((a0_moments_e_juice 0), aI E 5 (o6.2.2.2.2.2.1 0)), ((a0_moments_e_fors 0), aI E 5 (o6.2.2.2.2.2.2 0)), ((a0_moments_e 1), oB 3 [.ref (a0_moments_e_ice 1), .ref (a0_moments_e_juice 1), .ref (a0_moments_e_fors 1), .int (o6.2.1 1), .int (o6.2.2.1 1), .int (o6.2.2.2.1 1)]), ((a0_moments_e_ice 1), aI E 12 (o6.2.2.2.2.1 1)), ((a0_moments_e_juice 1), aI E 5 (o6.2.2.2.2.2.1 1)), ((a0_moments_e_fors 1), aI E 5 (o6.2.2.2.2.2.2 1)), ((a0_moments_e 2), oB 3 [.ref (a0_moments_e_ice 2), .ref (a0_moments_e_juice 2), .ref (a0_moments_e_fors 2), .int (o6.2.1 2), .int (o6.2.2.1 2), .int (o6.2.2.2.1 2)]), ((a0_moments_e_ice 2), aI E 12 (o6.2.2.2.2.1 2)), ((a0_moments_e_juice 2), aI E 5 (o6.2.2.2.2.2.1 2)), ((a0_moments_e_fors 2), aI E 5 (o6.2.2.2.2.2.2 2)), ((a0_moments_e 3), oB 3 [.ref (a0_moments_e_ice 3), .ref (a0_moments_e_juice 3), .ref (a0_moments_e_fors 3), .int (o6.2.1 3), .int (o6.2.2.1 3), .int (o6.2.2.2.1 3)]), ((a0_moments_e_ice 3), aI E 12 (o6.2.2.2.2.1 3)), ((a0_moments_e_juice 3), aI E 5 (o6.2.2.2.2.2.1 3)), ((a0_moments_e_fors 3), aI E 5 (o6.2.2.2.2.2.2 3)), ((a0_moments_e 4), oB 3 [.ref (a0_moments_e_ice 4), .ref (a0_moments_e_juice 4), .ref (a0_moments_e_fors 4), .int (o6.2.1 4), .int (o6.2.2.1 4), .int (o6.2.2.2.1 4)]), ((a0_moments_e_ice 4), aI E 12 (o6.2.2.2.2.1 4)), ((a0_moments_e_juice 4), aI E 5 (o6.2.2.2.2.2.1 4)), ((a0_moments_e_fors 4), aI E 5 (o6.2.2.2.2.2.2 4)), ((a0_moments_e 5), oB 3 [.ref (a0_moments_e_ice 5), .ref (a0_moments_e_juice 5), .ref (a0_moments_e_fors 5), .int (o6.2.1 5), .int (o6.2.2.1 5), .int (o6.2.2.2.1 5)]), ((a0_moments_e_ice 5), aI E 12 (o6.2.2.2.2.1 5)), ((a0_moments_e_juice 5), aI E 5 (o6.2.2.2.2.2.1 5)), ((a0_moments_e_fors 5), aI E 5 (o6.2.2.2.2.2.2 5)), ((a0_moments_e 6), oB 3 [.ref (a0_moments_e_ice 6), .ref (a0_moments_e_juice 6), .ref (a0_moments_e_fors 6), .int (o6.2.1 6), .int (o6.2.2.1 6), .int (o6.2.2.2.1 6)]), ((a0_moments_e_ice 6), aI E 12 (o6.2.2.2.2.1 6)), ((a0_moments_e_juice 6), aI E 5 (o6.2.2.2.2.2.1 6)), ((a0_moments_e_fors 6), aI E 5 (o6.2.2.2.2.2.2 6)), ((a0_moments_e 7), oB 3 [.ref (a0_moments_e_ice 7), .ref (a0_moments_e_juice 7), .ref (a0_moments_e_fors 7), .int (o6.2.1 7), .int (o6.2.2.1 7), .int (o6.2.2.2.1 7)]), ((a0_moments_e_ice 7), aI E 12 (o6.2.2.2.2.1 7)), ((a0_moments_e_juice 7), aI E 5 (o6.2.2.2.2.2.1 7)), ((a0_moments_e_fors 7), aI E 5 (o6.2.2.2.2.2.2 7)), (a1, oB 2 [.ref a1_moments, .int va1_next, .int va1_known]), (a1_moments, aM E 8 (fun j => some (a1_moments_e j))), ((a1_moments_e 0), oB 3 [.ref (a1_moments_e_ice 0), .ref (a1_moments_e_juice 0), .ref (a1_moments_e_fors 0), .int (va1_moments_e_boat 0), .int (va1_moments_e_minute 0), .int (va1_moments_e_draw 0)]), ((a1_moments_e_ice 0), aI E 12 (va1_moments_e_ice 0)), ((a1_moments_e_juice 0), aI E 5 (va1_moments_e_juice 0)), ((a1_moments_e_fors 0), aI E 5 (va1_moments_e_fors 0)), ((a1_moments_e 1), oB 3 [.ref (a1_moments_e_ice 1), .ref (a1_moments_e_juice 1), .ref (a1_moments_e_fors 1), .int (va1_moments_e_boat 1), .int (va1_moments_e_minute 1), .int (va1_moments_e_draw 1)]), ((a1_moments_e_ice 1), aI E 12 (va1_moments_e_ice 1)), ((a1_moments_e_juice 1), aI E 5 (va1_moments_e_juice 1)), ((a1_moments_e_fors 1), aI E 5 (va1_moments_e_fors 1)), ((a1_moments_e 2), oB 3 [.ref (a1_moments_e_ice 2), .ref (a1_moments_e_juice 2), .ref (a1_moments_e_fors 2), .int (va1_moments_e_boat 2), .int (va1_moments_e_minute 2), .int (va1_moments_e_draw 2)]), ((a1_moments_e_ice 2), aI E 12 (va1_moments_e_ice 2)), ((a1_moments_e_juice 2), aI E 5 (va1_moments_e_juice 2)), ((a1_moments_e_fors 2), aI E 5 (va1_moments_e_fors 2)), ((a1_moments_e 3), oB 3 [.ref (a1_moments_e_ice 3), .ref (a1_moments_e_juice 3), .ref (a1_moments_e_fors 3), .int (va1_moments_e_boat 3), .int (va1_moments_e_minute 3), .int (va1_moments_e_draw 3)]), ((a1_moments_e_ice 3), aI E 12 (va1_moments_e_ice 3)), ((a1_moments_e_juice 3), aI E 5 (va1_moments_e_juice 3)), ((a1_moments_e_fors 3), aI E 5 (va1_moments_e_fors 3)), ((a1_moments_e 4), oB 3 [.ref (a1_moments_e_ice 4), .ref (a1_moments_e_juice 4), .ref (a1_moments_e_fors 4), .int (va1_moments_e_boat 4), .int (va1_moments_e_minute 4), .int (va1_moments_e_draw 4)]), ((a1_moments_e_ice 4), aI E 12 (va1_moments_e_ice 4)), ((a1_moments_e_juice 4), aI E 5 (va1_moments_e_juice 4)), ((a1_moments_e_fors 4), aI E 5 (va1_moments_e_fors 4)), ((a1_moments_e 5), oB 3 [.ref (a1_moments_e_ice 5), .ref (a1_moments_e_juice 5), .ref (a1_moments_e_fors 5), .int (va1_moments_e_boat 5), .int (va1_moments_e_minute 5), .int (va1_moments_e_draw 5)]), ((a1_moments_e_ice 5), aI E 12 (va1_moments_e_ice 5)), ((a1_moments_e_juice 5), aI E 5 (va1_moments_e_juice 5)), ((a1_moments_e_fors 5), aI E 5 (va1_moments_e_fors 5)), ((a1_moments_e 6), oB 3 [.ref (a1_moments_e_ice 6), .ref (a1_moments_e_juice 6), .ref (a1_moments_e_fors 6), .int (va1_moments_e_boat 6), .int (va1_moments_e_minute 6), .int (va1_moments_e_draw 6)]), ((a1_moments_e_ice 6), aI E 12 (va1_moments_e_ice 6)), ((a1_moments_e_juice 6), aI E 5 (va1_moments_e_juice 6)), ((a1_moments_e_fors 6), aI E 5 (va1_moments_e_fors 6)), ((a1_moments_e 7), oB 3 [.ref (a1_moments_e_ice 7), .ref (a1_moments_e_juice 7), .ref (a1_moments_e_fors 7), .int (va1_moments_e_boat 7), .int (va1_moments_e_minute 7), .int (va1_moments_e_draw 7)]), ((a1_moments_e_ice 7), aI E 12 (va1_moments_e_ice 7)), ((a1_moments_e_juice 7), aI E 5 (va1_moments_e_juice 7)), ((a1_moments_e_fors 7), aI E 5 (va1_moments_e_fors 7))]) dX2_take_34 lkX2_15 (by decide) rfl rfl rfl rfl (Nat.le_of_ble_eq_true rfl) rfl ?_
  refine g_aload_n k 0 dX2_take_37 rfl rfl ?_
  refine g_aload_n k 1 dX2_take_38 rfl rfl ?_
  refine g_get k cfX2 2 34 dX2_take_39 lkX2_19 (by decide) rfl rfl ?_
  refine g_put k cfX2 2 0 (ws' := [(a0, oB 2 [.ref a0_moments, .int va1_next, .int va1_known]), (a0_moments, aM E 8 (fun j => some (a0_moments_e j))), ((a0_moments_e 0), oB 3 [.ref (a0_moments_e_ice 0), .ref (a0_moments_e_juice 0), .ref (a0_moments_e_fors 0), .int (o6.2.1 0), .int (o6.2.2.1 0), .int (o6.2.2.2.1 0)]), ((a0_moments_e_ice 0), aI E 12 (o6.2.2.2.2.1 0)), ((a0_moments_e_juice 0), aI E 5 (o6.2.2.2.2.2.1 0)), ((a0_moments_e_fors 0), aI E 5 (o6.2.2.2.2.2.2 0)), ((a0_moments_e 1), oB 3 [.ref (a0_moments_e_ice 1), .ref (a0_moments_e_juice 1), .ref (a0_moments_e_fors 1), .int (o6.2.1 1), .int (o6.2.2.1 1), .int (o6.2.2.2.1 1)]), ((a0_moments_e_ice 1), aI E 12 (o6.2.2.2.2.1 1)), ((a0_moments_e_juice 1), aI E 5 (o6.2.2.2.2.2.1 1)), ((a0_moments_e_fors 1), aI E 5 (o6.2.2.2.2.2.2 1)), ((a0_moments_e 2), oB 3 [.ref (a0_moments_e_ice 2), .ref (a0_moments_e_juice 2), .ref (a0_moments_e_fors 2), .int (o6.2.1 2), .int (o6.2.2.1 2), .int (o6.2.2.2.1 2)]), ((a0_moments_e_ice 2), aI E 12 (o6.2.2.2.2.1 2)), ((a0_moments_e_juice 2), aI E 5 (o6.2.2.2.2.2.1 2)), ((a0_moments_e_fors 2), aI E 5 (o6.2.2.2.2.2.2 2)), ((a0_moments_e 3), oB 3 [.ref (a0_moments_e_ice 3), .ref (a0_moments_e_juice 3), .ref (a0_moments_e_fors 3), .int (o6.2.1 3), .int (o6.2.2.1 3), .int (o6.2.2.2.1 3)]), ((a0_moments_e_ice 3), aI E 12 (o6.2.2.2.2.1 3)), ((a0_moments_e_juice 3), aI E 5 (o6.2.2.2.2.2.1 3)), ((a0_moments_e_fors 3), aI E 5 (o6.2.2.2.2.2.2 3)), ((a0_moments_e 4), oB 3 [.ref (a0_moments_e_ice 4), .ref (a0_moments_e_juice 4), .ref (a0_moments_e_fors 4), .int (o6.2.1 4), .int (o6.2.2.1 4), .int (o6.2.2.2.1 4)]), ((a0_moments_e_ice 4), aI E 12 (o6.2.2.2.2.1 4)), ((a0_moments_e_juice 4), aI E 5 (o6.2.2.2.2.2.1 4)), ((a0_moments_e_fors 4), aI E 5 (o6.2.2.2.2.2.2 4)), ((a0_moments_e 5), oB 3 [.ref (a0_moments_e_ice 5), .ref (a0_moments_e_juice 5), .ref (a0_moments_e_fors 5), .int (o6.2.1 5), .int (o6.2.2.1 5), .int (o6.2.2.2.1 5)]), ((a0_moments_e_ice 5), aI E 12 (o6.2.2.2.2.1 5)), ((a0_moments_e_juice 5), aI E 5 (o6.2.2.2.2.2.1 5)), ((a0_moments_e_fors 5), aI E 5 (o6.2.2.2.2.2.2 5)), ((a0_moments_e 6), oB 3 [.ref (a0_moments_e_ice 6), .ref (a0_moments_e_juice 6), .ref (a0_moments_e_fors 6), .int (o6.2.1 6), .int (o6.2.2.1 6), .int (o6.2.2.2.1 6)]), ((a0_moments_e_ice 6), aI E 12 (o6.2.2.2.2.1 6)), ((a0_moments_e_juice 6), aI E 5 (o6.2.2.2.2.2.1 6)), ((a0_moments_e_fors 6), aI E 5 (o6.2.2.2.2.2.2 6)), ((a0_moments_e 7), oB 3 [.ref (a0_moments_e_ice 7), .ref (a0_moments_e_juice 7), .ref (a0_moments_e_fors 7), .int (o6.2.1 7), .int (o6.2.2.1 7), .int (o6.2.2.2.1 7)]), ((a0_moments_e_ice 7), aI E 12 (o6.2.2.2.2.1 7)), ((a0_moments_e_juice 7), aI E 5 (o6.2.2.2.2.2.1 7)), ((a0_moments_e_fors 7), aI E 5 (o6.2.2.2.2.2.2 7)), (a1, oB 2 [.ref a1_moments, .int va1_next, .int va1_known]), (a1_moments, aM E 8 (fun j => some (a1_moments_e j))), ((a1_moments_e 0), oB 3 [.ref (a1_moments_e_ice 0), .ref (a1_moments_e_juice 0), .ref (a1_moments_e_fors 0), .int (va1_moments_e_boat 0), .int (va1_moments_e_minute 0), .int (va1_moments_e_draw 0)]), ((a1_moments_e_ice 0), aI E 12 (va1_moments_e_ice 0)), ((a1_moments_e_juice 0), aI E 5 (va1_moments_e_juice 0)), ((a1_moments_e_fors 0), aI E 5 (va1_moments_e_fors 0)), ((a1_moments_e 1), oB 3 [.ref (a1_moments_e_ice 1), .ref (a1_moments_e_juice 1), .ref (a1_moments_e_fors 1), .int (va1_moments_e_boat 1), .int (va1_moments_e_minute 1), .int (va1_moments_e_draw 1)]), ((a1_moments_e_ice 1), aI E 12 (va1_moments_e_ice 1)), ((a1_moments_e_juice 1), aI E 5 (va1_moments_e_juice 1)), ((a1_moments_e_fors 1), aI E 5 (va1_moments_e_fors 1)), ((a1_moments_e 2), oB 3 [.ref (a1_moments_e_ice 2), .ref (a1_moments_e_juice 2), .ref (a1_moments_e_fors 2), .int (va1_moments_e_boat 2), .int (va1_moments_e_minute 2), .int (va1_moments_e_draw 2)]), ((a1_moments_e_ice 2), aI E 12 (va1_moments_e_ice 2)), ((a1_moments_e_juice 2), aI E 5 (va1_moments_e_juice 2)), ((a1_moments_e_fors 2), aI E 5 (va1_moments_e_fors 2)), ((a1_moments_e 3), oB 3 [.ref (a1_moments_e_ice 3), .ref (a1_moments_e_juice 3), .ref (a1_moments_e_fors 3), .int (va1_moments_e_boat 3), .int (va1_moments_e_minute 3), .int (va1_moments_e_draw 3)]), ((a1_moments_e_ice 3), aI E 12 (va1_moments_e_ice 3)), ((a1_moments_e_juice 3), aI E 5 (va1_moments_e_juice 3)), ((a1_moments_e_fors 3), aI E 5 (va1_moments_e_fors 3)), ((a1_moments_e 4), oB 3 [.ref (a1_moments_e_ice 4), .ref (a1_moments_e_juice 4), .ref (a1_moments_e_fors 4), .int (va1_moments_e_boat 4), .int (va1_moments_e_minute 4), .int (va1_moments_e_draw 4)]), ((a1_moments_e_ice 4), aI E 12 (va1_moments_e_ice 4)), ((a1_moments_e_juice 4), aI E 5 (va1_moments_e_juice 4)), ((a1_moments_e_fors 4), aI E 5 (va1_moments_e_fors 4)), ((a1_moments_e 5), oB 3 [.ref (a1_moments_e_ice 5), .ref (a1_moments_e_juice 5), .ref (a1_moments_e_fors 5), .int (va1_moments_e_boat 5), .int (va1_moments_e_minute 5), .int (va1_moments_e_draw 5)]), ((a1_moments_e_ice 5), aI E 12 (va1_moments_e_ice 5)), ((a1_moments_e_juice 5), aI E 5 (va1_moments_e_juice 5)), ((a1_moments_e_fors 5), aI E 5 (va1_moments_e_fors 5)), ((a1_moments_e 6), oB 3 [.ref (a1_moments_e_ice 6), .ref (a1_moments_e_juice 6), .ref (a1_moments_e_fors 6), .int (va1_moments_e_boat 6), .int (va1_moments_e_minute 6), .int (va1_moments_e_draw 6)]), ((a1_moments_e_ice 6), aI E 12 (va1_moments_e_ice 6)), ((a1_moments_e_juice 6), aI E 5 (va1_moments_e_juice 6)), ((a1_moments_e_fors 6), aI E 5 (va1_moments_e_fors 6)), ((a1_moments_e 7), oB 3 [.ref (a1_moments_e_ice 7), .ref (a1_moments_e_juice 7), .ref (a1_moments_e_fors 7), .int (va1_moments_e_boat 7), .int (va1_moments_e_minute 7), .int (va1_moments_e_draw 7)]), ((a1_moments_e_ice 7), aI E 12 (va1_moments_e_ice 7)), ((a1_moments_e_juice 7), aI E 5 (va1_moments_e_juice 7)), ((a1_moments_e_fors 7), aI E 5 (va1_moments_e_fors 7))]) dX2_take_42 lkX2_19 (by decide) rfl rfl rfl rfl (Nat.le_of_ble_eq_true rfl) rfl ?_
  obtain rfl := Option.some.inj hf
  exact g_vret k r dX2_take_45 ⟨rfl, rfl⟩
abbrev rmX1_greedyFor : Room := { frames := 5, cells := 0, slots := 0, locals := 124 }
def fX1_greedyFor_L13 (N : Nat) (x2 : Int32) (va0_then_fors : Nat → Int32) (va1_cells : Int32) (va1_people : Int32) (va1_sayings : Int32) (va1_frost : Int32) (va1_kind : Nat → Int32) (va1_weight : Nat → Int32) : Nat → Int32 → Int32 → Int32 → (Nat → Int32) → (Nat → Int32) → Option (Int32 × Int32 × Int32 × (Nat → Int32) × (Nat → Int32))
  | 0, _, _, _, _, _ => none
  | n + 1, x3, va0_then_boat, va0_then_minute, va0_then_ice, va0_then_juice =>
    if x2 ≤ x3 then
    some (x3, va0_then_boat, va0_then_minute, va0_then_ice, va0_then_juice)
    else
    bnd (fX0_mostRocking N va1_people va1_sayings va1_kind va1_weight va0_then_minute va0_then_juice va0_then_fors) fun o4 =>
    bnd (fX0_pass N va1_cells va1_people va1_sayings va1_frost va1_kind va1_weight va0_then_boat va0_then_minute va0_then_ice va0_then_juice va0_then_fors o4) fun o6 =>
    fX1_greedyFor_L13 N x2 va0_then_fors va1_cells va1_people va1_sayings va1_frost va1_kind va1_weight n (x3 + 1) o6.1 o6.2.1 o6.2.2.1 o6.2.2.2
set_option maxHeartbeats 4000000 in
set_option maxRecDepth 100000 in
theorem wX1_greedyFor_L13 {E : Ev} {K : KX} (k : OKX E K cX1_greedyFor RX1 4 rmX1_greedyFor) (N : Nat) (a0 : Nat) (a0_then : Nat) (a0_marks : Nat) (a0_then_ice : Nat) (a0_then_juice : Nat) (a0_then_fors : Nat) (a1 : Nat) (a1_kind : Nat) (a1_weight : Nat) (a1_now : Nat) (a1_now_ice : Nat) (a1_now_juice : Nat) (a1_now_fors : Nat) (x2 : Int32) (va0_then_fors : Nat → Int32) (va1_cells : Int32) (va1_people : Int32) (va1_sayings : Int32) (va1_frost : Int32) (va1_kind : Nat → Int32) (va1_weight : Nat → Int32) (va0_then_draw : Int32) (va1_now_boat : Int32) (va1_now_minute : Int32) (va1_now_draw : Int32) (va1_now_ice : Nat → Int32) (va1_now_juice : Nat → Int32) (va1_now_fors : Nat → Int32) : ∀ (n : Nat) (x3 : Int32) (va0_then_boat : Int32) (va0_then_minute : Int32) (va0_then_ice : Nat → Int32) (va0_then_juice : Nat → Int32) (o : Int32 × Int32 × Int32 × (Nat → Int32) × (Nat → Int32)), fX1_greedyFor_L13 N x2 va0_then_fors va1_cells va1_people va1_sayings va1_frost va1_kind va1_weight n x3 va0_then_boat va0_then_minute va0_then_ice va0_then_juice = some o → G E K 4 0 0 [(0, .ref a0), (1, .ref a1), (2, .int x2), (3, .int o.1)] [] [(a0, oB 1 [.ref a0_then, .ref a0_marks]), (a0_then, oB 3 [.ref a0_then_ice, .ref a0_then_juice, .ref a0_then_fors, .int o.2.1, .int o.2.2.1, .int va0_then_draw]), (a0_then_ice, aI E 12 o.2.2.2.1), (a0_then_juice, aI E 5 o.2.2.2.2), (a0_then_fors, aI E 5 va0_then_fors), (a1, oB 0 [.ref a1_kind, .ref a1_weight, .ref a1_now, .int va1_cells, .int va1_people, .int va1_sayings, .int va1_frost]), (a1_kind, aI E 6 va1_kind), (a1_weight, aI E 6 va1_weight), (a1_now, oB 3 [.ref a1_now_ice, .ref a1_now_juice, .ref a1_now_fors, .int va1_now_boat, .int va1_now_minute, .int va1_now_draw]), (a1_now_ice, aI E 12 va1_now_ice), (a1_now_juice, aI E 5 va1_now_juice), (a1_now_fors, aI E 5 va1_now_fors)] 40 → G E K 4 0 0 [(0, .ref a0), (1, .ref a1), (2, .int x2), (3, .int x3)] [] [(a0, oB 1 [.ref a0_then, .ref a0_marks]), (a0_then, oB 3 [.ref a0_then_ice, .ref a0_then_juice, .ref a0_then_fors, .int va0_then_boat, .int va0_then_minute, .int va0_then_draw]), (a0_then_ice, aI E 12 va0_then_ice), (a0_then_juice, aI E 5 va0_then_juice), (a0_then_fors, aI E 5 va0_then_fors), (a1, oB 0 [.ref a1_kind, .ref a1_weight, .ref a1_now, .int va1_cells, .int va1_people, .int va1_sayings, .int va1_frost]), (a1_kind, aI E 6 va1_kind), (a1_weight, aI E 6 va1_weight), (a1_now, oB 3 [.ref a1_now_ice, .ref a1_now_juice, .ref a1_now_fors, .int va1_now_boat, .int va1_now_minute, .int va1_now_draw]), (a1_now_ice, aI E 12 va1_now_ice), (a1_now_juice, aI E 5 va1_now_juice), (a1_now_fors, aI E 5 va1_now_fors)] 13 := by
  intro n
  induction n with
  | zero => intro x3 va0_then_boat va0_then_minute va0_then_ice va0_then_juice o hf; cases hf
  | succ n ih =>
    intro x3 va0_then_boat va0_then_minute va0_then_ice va0_then_juice o hf hG
    rw [fX1_greedyFor_L13] at hf
    refine g_iload_n k 3 dX1_greedyFor_13 rfl rfl ?_
    refine g_iload_n k 2 dX1_greedyFor_14 rfl rfl ?_
    refine g_icmp_ge k (tgt := 40) dX1_greedyFor_15 (by decide) (fun c3 => ?_) (fun c3 => ?_)
    · replace hf := ite_t c3 hf
      refine g_lv [0, 1, 2, 3] rfl ?_
      obtain rfl := Option.some.inj hf
      exact hG
    · replace hf := ite_f c3 hf
      refine g_aload_n k 1 dX1_greedyFor_18 rfl rfl ?_
      refine g_aload_n k 0 dX1_greedyFor_19 rfl rfl ?_
      refine g_get k cfX1 0 0 dX1_greedyFor_20 lkX1_12 (by decide) rfl rfl ?_
      refine g_aload_n k 1 dX1_greedyFor_23 rfl rfl ?_
      refine g_aload_n k 0 dX1_greedyFor_24 rfl rfl ?_
      refine g_get k cfX1 0 0 dX1_greedyFor_25 lkX1_12 (by decide) rfl rfl ?_
      obtain ⟨o4, ho5, hf⟩ := bnd_some hf
      refine g_cv k miX0_mostRocking mvX0_mostRocking (ctX0_mostRocking (kL K) E N a1 a1_kind a1_weight a1_now a0_then a0_then_ice a0_then_juice a0_then_fors va1_cells va1_people va1_sayings va1_frost va1_kind va1_weight va0_then_boat va0_then_minute va0_then_draw va0_then_juice va0_then_fors  o4 ho5) [5, 6, 7, 1, 3, 4] 0 (ws' := [(a0, oB 1 [.ref a0_then, .ref a0_marks]), (a0_then, oB 3 [.ref a0_then_ice, .ref a0_then_juice, .ref a0_then_fors, .int va0_then_boat, .int va0_then_minute, .int va0_then_draw]), (a0_then_ice, aI E 12 va0_then_ice), (a0_then_juice, aI E 5 va0_then_juice), (a0_then_fors, aI E 5 va0_then_fors), (a1, oB 0 [.ref a1_kind, .ref a1_weight, .ref a1_now, .int va1_cells, .int va1_people, .int va1_sayings, .int va1_frost]), (a1_kind, aI E 6 va1_kind), (a1_weight, aI E 6 va1_weight), (a1_now, oB 3 [.ref a1_now_ice, .ref a1_now_juice, .ref a1_now_fors, .int va1_now_boat, .int va1_now_minute, .int va1_now_draw]), (a1_now_ice, aI E 12 va1_now_ice), (a1_now_juice, aI E 5 va1_now_juice), (a1_now_fors, aI E 5 va1_now_fors)]) dX1_greedyFor_28 lkX1_31 rfl ⟨rfl, rfl⟩ ⟨by decide, by decide⟩ rfl rfl rfl rfl (Nat.le_of_ble_eq_true rfl) rfl rfl rfl ?_
      refine g_st (st' := [.int o4, .ref a0_then, .ref a1]) rfl ?_
      obtain ⟨o6, ho7, hf⟩ := bnd_some hf
      refine g_cv k miX0_pass mvX0_pass (ctX0_pass (kL K) E N a1 a1_kind a1_weight a1_now a0_then a0_then_ice a0_then_juice a0_then_fors va1_cells va1_people va1_sayings va1_frost va1_kind va1_weight va0_then_boat va0_then_minute va0_then_draw va0_then_ice va0_then_juice va0_then_fors o4 o6 ho7) [5, 6, 7, 1, 2, 3, 4] 0 (ws' := [(a0, oB 1 [.ref a0_then, .ref a0_marks]), (a0_then, oB 3 [.ref a0_then_ice, .ref a0_then_juice, .ref a0_then_fors, .int o6.1, .int o6.2.1, .int va0_then_draw]), (a0_then_ice, aI E 12 o6.2.2.1), (a0_then_juice, aI E 5 o6.2.2.2), (a0_then_fors, aI E 5 va0_then_fors), (a1, oB 0 [.ref a1_kind, .ref a1_weight, .ref a1_now, .int va1_cells, .int va1_people, .int va1_sayings, .int va1_frost]), (a1_kind, aI E 6 va1_kind), (a1_weight, aI E 6 va1_weight), (a1_now, oB 3 [.ref a1_now_ice, .ref a1_now_juice, .ref a1_now_fors, .int va1_now_boat, .int va1_now_minute, .int va1_now_draw]), (a1_now_ice, aI E 12 va1_now_ice), (a1_now_juice, aI E 5 va1_now_juice), (a1_now_fors, aI E 5 va1_now_fors)]) dX1_greedyFor_31 lkX1_35 rfl ⟨rfl, rfl⟩ ⟨by decide, by decide⟩ rfl rfl rfl rfl (Nat.le_of_ble_eq_true rfl) rfl rfl rfl ?_
      refine g_st (st' := []) rfl ?_
      refine g_iinc k (lv' := [(3, .int (x3 + 1)), (0, .ref a0), (1, .ref a1), (2, .int x2)]) 3 dX1_greedyFor_34 rfl (ii_1 _) (by decide) rfl ?_
      refine g_goto k (tgt := 13) dX1_greedyFor_37 (by decide) ?_
      refine g_lv [1, 2, 3, 0] rfl ?_
      exact ih (x3 + 1) o6.1 o6.2.1 o6.2.2.1 o6.2.2.2 o hf hG
def fX1_greedyFor (N : Nat) (va0_then_boat : Int32) (va0_then_minute : Int32) (va0_then_draw : Int32) (va0_then_ice : Nat → Int32) (va0_then_juice : Nat → Int32) (va0_then_fors : Nat → Int32) (va1_cells : Int32) (va1_people : Int32) (va1_sayings : Int32) (va1_frost : Int32) (va1_kind : Nat → Int32) (va1_weight : Nat → Int32) (va1_now_boat : Int32) (va1_now_minute : Int32) (va1_now_draw : Int32) (va1_now_ice : Nat → Int32) (va1_now_juice : Nat → Int32) (va1_now_fors : Nat → Int32) (x2 : Int32) : Option (Int32 × Int32 × Int32 × (Nat → Int32) × (Nat → Int32) × (Nat → Int32)) :=
  bnd (fX3_take N va0_then_boat va0_then_minute va0_then_draw va0_then_ice va0_then_juice va0_then_fors va1_now_boat va1_now_minute va1_now_draw va1_now_ice va1_now_juice va1_now_fors) fun o1 =>
  bnd (fX1_greedyFor_L13 N x2 o1.2.2.2.2.2 va1_cells va1_people va1_sayings va1_frost va1_kind va1_weight N 0 o1.1 o1.2.1 o1.2.2.2.1 o1.2.2.2.2.1) fun o8 =>
  some (o8.2.1, o8.2.2.1, o1.2.2.1, o8.2.2.2.1, o8.2.2.2.2, o1.2.2.2.2.2)
set_option maxHeartbeats 4000000 in
set_option maxRecDepth 100000 in
theorem ctX1_greedyFor (l : Launch) (E : Ev) (N : Nat) (a0 : Nat) (a0_then : Nat) (a0_marks : Nat) (a0_then_ice : Nat) (a0_then_juice : Nat) (a0_then_fors : Nat) (a1 : Nat) (a1_kind : Nat) (a1_weight : Nat) (a1_now : Nat) (a1_now_ice : Nat) (a1_now_juice : Nat) (a1_now_fors : Nat) (va0_then_boat : Int32) (va0_then_minute : Int32) (va0_then_draw : Int32) (va0_then_ice : Nat → Int32) (va0_then_juice : Nat → Int32) (va0_then_fors : Nat → Int32) (va1_cells : Int32) (va1_people : Int32) (va1_sayings : Int32) (va1_frost : Int32) (va1_kind : Nat → Int32) (va1_weight : Nat → Int32) (va1_now_boat : Int32) (va1_now_minute : Int32) (va1_now_draw : Int32) (va1_now_ice : Nat → Int32) (va1_now_juice : Nat → Int32) (va1_now_fors : Nat → Int32) (x2 : Int32) (out : Int32 × Int32 × Int32 × (Nat → Int32) × (Nat → Int32) × (Nat → Int32)) (hf : fX1_greedyFor N va0_then_boat va0_then_minute va0_then_draw va0_then_ice va0_then_juice va0_then_fors va1_cells va1_people va1_sayings va1_frost va1_kind va1_weight va1_now_boat va1_now_minute va1_now_draw va1_now_ice va1_now_juice va1_now_fors x2 = some out) : Ct l E yX1_greedyFor cX1_greedyFor 4 (some (.object "GossipBoat$Moment")) rmX1_greedyFor [.ref a0, .ref a1, .int x2] [(a0, oB 1 [.ref a0_then, .ref a0_marks]), (a0_then, oB 3 [.ref a0_then_ice, .ref a0_then_juice, .ref a0_then_fors, .int va0_then_boat, .int va0_then_minute, .int va0_then_draw]), (a0_then_ice, aI E 12 va0_then_ice), (a0_then_juice, aI E 5 va0_then_juice), (a0_then_fors, aI E 5 va0_then_fors), (a1, oB 0 [.ref a1_kind, .ref a1_weight, .ref a1_now, .int va1_cells, .int va1_people, .int va1_sayings, .int va1_frost]), (a1_kind, aI E 6 va1_kind), (a1_weight, aI E 6 va1_weight), (a1_now, oB 3 [.ref a1_now_ice, .ref a1_now_juice, .ref a1_now_fors, .int va1_now_boat, .int va1_now_minute, .int va1_now_draw]), (a1_now_ice, aI E 12 va1_now_ice), (a1_now_juice, aI E 5 va1_now_juice), (a1_now_fors, aI E 5 va1_now_fors)] (Pe (some (.ref a0_then)) [(a0, oB 1 [.ref a0_then, .ref a0_marks]), (a0_then, oB 3 [.ref a0_then_ice, .ref a0_then_juice, .ref a0_then_fors, .int out.1, .int out.2.1, .int out.2.2.1]), (a0_then_ice, aI E 12 out.2.2.2.1), (a0_then_juice, aI E 5 out.2.2.2.2.1), (a0_then_fors, aI E 5 out.2.2.2.2.2), (a1, oB 0 [.ref a1_kind, .ref a1_weight, .ref a1_now, .int va1_cells, .int va1_people, .int va1_sayings, .int va1_frost]), (a1_kind, aI E 6 va1_kind), (a1_weight, aI E 6 va1_weight), (a1_now, oB 3 [.ref a1_now_ice, .ref a1_now_juice, .ref a1_now_fors, .int va1_now_boat, .int va1_now_minute, .int va1_now_draw]), (a1_now_ice, aI E 12 va1_now_ice), (a1_now_juice, aI E 5 va1_now_juice), (a1_now_fors, aI E 5 va1_now_fors)]) := by
  refine Ct.of rfl (Nat.le_of_ble_eq_true rfl) (fun K hL k r hin => ?_)
  subst hL
  unfold fX1_greedyFor at hf
  show G E K 4 0 0 [(0, .ref a0), (1, .ref a1), (2, .int x2)] [] [(a0, oB 1 [.ref a0_then, .ref a0_marks]), (a0_then, oB 3 [.ref a0_then_ice, .ref a0_then_juice, .ref a0_then_fors, .int va0_then_boat, .int va0_then_minute, .int va0_then_draw]), (a0_then_ice, aI E 12 va0_then_ice), (a0_then_juice, aI E 5 va0_then_juice), (a0_then_fors, aI E 5 va0_then_fors), (a1, oB 0 [.ref a1_kind, .ref a1_weight, .ref a1_now, .int va1_cells, .int va1_people, .int va1_sayings, .int va1_frost]), (a1_kind, aI E 6 va1_kind), (a1_weight, aI E 6 va1_weight), (a1_now, oB 3 [.ref a1_now_ice, .ref a1_now_juice, .ref a1_now_fors, .int va1_now_boat, .int va1_now_minute, .int va1_now_draw]), (a1_now_ice, aI E 12 va1_now_ice), (a1_now_juice, aI E 5 va1_now_juice), (a1_now_fors, aI E 5 va1_now_fors)] 0
  refine g_aload_n k 0 dX1_greedyFor_0 rfl rfl ?_
  refine g_get k cfX1 0 0 dX1_greedyFor_1 lkX1_12 (by decide) rfl rfl ?_
  refine g_aload_n k 1 dX1_greedyFor_4 rfl rfl ?_
  refine g_get k cfX0 2 5 dX1_greedyFor_5 lkX1_22 (by decide) rfl rfl ?_
  obtain ⟨o1, ho2, hf⟩ := bnd_some hf
  refine g_cv k miX3_take mvX3_take (ctX3_take (kL K) E N a0_then a0_then_ice a0_then_juice a0_then_fors a1_now a1_now_ice a1_now_juice a1_now_fors va0_then_boat va0_then_minute va0_then_draw va0_then_ice va0_then_juice va0_then_fors va1_now_boat va1_now_minute va1_now_draw va1_now_ice va1_now_juice va1_now_fors  o1 ho2) [1, 2, 3, 4, 8, 9, 10, 11] 0 (ws' := [(a0, oB 1 [.ref a0_then, .ref a0_marks]), (a0_then, oB 3 [.ref a0_then_ice, .ref a0_then_juice, .ref a0_then_fors, .int o1.1, .int o1.2.1, .int o1.2.2.1]), (a0_then_ice, aI E 12 o1.2.2.2.1), (a0_then_juice, aI E 5 o1.2.2.2.2.1), (a0_then_fors, aI E 5 o1.2.2.2.2.2), (a1, oB 0 [.ref a1_kind, .ref a1_weight, .ref a1_now, .int va1_cells, .int va1_people, .int va1_sayings, .int va1_frost]), (a1_kind, aI E 6 va1_kind), (a1_weight, aI E 6 va1_weight), (a1_now, oB 3 [.ref a1_now_ice, .ref a1_now_juice, .ref a1_now_fors, .int va1_now_boat, .int va1_now_minute, .int va1_now_draw]), (a1_now_ice, aI E 12 va1_now_ice), (a1_now_juice, aI E 5 va1_now_juice), (a1_now_fors, aI E 5 va1_now_fors)]) dX1_greedyFor_8 lkX1_27 rfl ⟨rfl, rfl⟩ ⟨by decide, by decide⟩ rfl rfl rfl rfl (Nat.le_of_ble_eq_true rfl) rfl rfl rfl ?_
  refine g_st (st' := []) rfl ?_
  refine g_iconst k dX1_greedyFor_11 ic_0 ?_
  refine g_istore_n k (lv' := [(3, .int 0), (0, .ref a0), (1, .ref a1), (2, .int x2)]) dX1_greedyFor_12 rfl (by decide) rfl ?_
  obtain ⟨o8, ho9, hf⟩ := bnd_some hf
  refine g_lv [1, 2, 3, 0] (lv' := [(0, .ref a0), (1, .ref a1), (2, .int x2), (3, .int 0)]) rfl ?_
  refine wX1_greedyFor_L13 k N a0 a0_then a0_marks a0_then_ice a0_then_juice a0_then_fors a1 a1_kind a1_weight a1_now a1_now_ice a1_now_juice a1_now_fors  x2 o1.2.2.2.2.2 va1_cells va1_people va1_sayings va1_frost va1_kind va1_weight o1.2.2.1 va1_now_boat va1_now_minute va1_now_draw va1_now_ice va1_now_juice va1_now_fors N 0 o1.1 o1.2.1 o1.2.2.2.1 o1.2.2.2.2.1 o8 ho9 ?_
  refine g_aload_n k 0 dX1_greedyFor_40 rfl rfl ?_
  refine g_get k cfX1 0 0 dX1_greedyFor_41 lkX1_12 (by decide) rfl rfl ?_
  obtain rfl := Option.some.inj hf
  exact g_aret k r dX1_greedyFor_44 ⟨rfl, rfl⟩
abbrev rmX1_minutesUntilThrough : Room := { frames := 5, cells := 0, slots := 0, locals := 124 }
def fX1_minutesUntilThrough_L13 (N : Nat) (va0_then_draw : Int32) (va0_then_fors : Nat → Int32) (va1_cells : Int32) (va1_people : Int32) (va1_sayings : Int32) (va1_frost : Int32) (va1_kind : Nat → Int32) (va1_weight : Nat → Int32) : Nat → Int32 → Int32 → Int32 → (Nat → Int32) → (Nat → Int32) → Option ((Int32 × Int32 × Int32 × Int32 × (Nat → Int32) × (Nat → Int32) × (Nat → Int32)) ⊕ (Int32 × Int32 × Int32 × (Nat → Int32) × (Nat → Int32)))
  | 0, _, _, _, _, _ => none
  | n + 1, x2, va0_then_boat, va0_then_minute, va0_then_ice, va0_then_juice =>
    if 99 < x2 then
    some (.inr (x2, va0_then_boat, va0_then_minute, va0_then_ice, va0_then_juice))
    else
    bnd (fX0_isThrough N va1_cells va0_then_boat) fun o4 =>
    if o4 = 0 then
    bnd (fX0_mostRocking N va1_people va1_sayings va1_kind va1_weight va0_then_minute va0_then_juice va0_then_fors) fun o7 =>
    bnd (fX0_pass N va1_cells va1_people va1_sayings va1_frost va1_kind va1_weight va0_then_boat va0_then_minute va0_then_ice va0_then_juice va0_then_fors o7) fun o9 =>
    fX1_minutesUntilThrough_L13 N va0_then_draw va0_then_fors va1_cells va1_people va1_sayings va1_frost va1_kind va1_weight n (x2 + 1) o9.1 o9.2.1 o9.2.2.1 o9.2.2.2
    else
    some (.inl (x2, va0_then_boat, va0_then_minute, va0_then_draw, va0_then_ice, va0_then_juice, va0_then_fors))
set_option maxHeartbeats 4000000 in
set_option maxRecDepth 100000 in
theorem wX1_minutesUntilThrough_L13 {E : Ev} {K : KX} (k : OKX E K cX1_minutesUntilThrough RX1 3 rmX1_minutesUntilThrough) (N : Nat) (a0 : Nat) (a0_then : Nat) (a0_marks : Nat) (a0_then_ice : Nat) (a0_then_juice : Nat) (a0_then_fors : Nat) (a1 : Nat) (a1_kind : Nat) (a1_weight : Nat) (a1_now : Nat) (a1_now_ice : Nat) (a1_now_juice : Nat) (a1_now_fors : Nat) (va0_then_draw : Int32) (va0_then_fors : Nat → Int32) (va1_cells : Int32) (va1_people : Int32) (va1_sayings : Int32) (va1_frost : Int32) (va1_kind : Nat → Int32) (va1_weight : Nat → Int32) (va1_now_boat : Int32) (va1_now_minute : Int32) (va1_now_draw : Int32) (va1_now_ice : Nat → Int32) (va1_now_juice : Nat → Int32) (va1_now_fors : Nat → Int32) {out : Int32 × Int32 × Int32 × Int32 × (Nat → Int32) × (Nat → Int32) × (Nat → Int32)} (r : RTX E K 0 0 (some .int) (Pe (some (.int out.1)) [(a0, oB 1 [.ref a0_then, .ref a0_marks]), (a0_then, oB 3 [.ref a0_then_ice, .ref a0_then_juice, .ref a0_then_fors, .int out.2.1, .int out.2.2.1, .int out.2.2.2.1]), (a0_then_ice, aI E 12 out.2.2.2.2.1), (a0_then_juice, aI E 5 out.2.2.2.2.2.1), (a0_then_fors, aI E 5 out.2.2.2.2.2.2), (a1, oB 0 [.ref a1_kind, .ref a1_weight, .ref a1_now, .int va1_cells, .int va1_people, .int va1_sayings, .int va1_frost]), (a1_kind, aI E 6 va1_kind), (a1_weight, aI E 6 va1_weight), (a1_now, oB 3 [.ref a1_now_ice, .ref a1_now_juice, .ref a1_now_fors, .int va1_now_boat, .int va1_now_minute, .int va1_now_draw]), (a1_now_ice, aI E 12 va1_now_ice), (a1_now_juice, aI E 5 va1_now_juice), (a1_now_fors, aI E 5 va1_now_fors)])) : ∀ (n : Nat) (x2 : Int32) (va0_then_boat : Int32) (va0_then_minute : Int32) (va0_then_ice : Nat → Int32) (va0_then_juice : Nat → Int32) (o : (Int32 × Int32 × Int32 × Int32 × (Nat → Int32) × (Nat → Int32) × (Nat → Int32)) ⊕ (Int32 × Int32 × Int32 × (Nat → Int32) × (Nat → Int32))), fX1_minutesUntilThrough_L13 N va0_then_draw va0_then_fors va1_cells va1_people va1_sayings va1_frost va1_kind va1_weight n x2 va0_then_boat va0_then_minute va0_then_ice va0_then_juice = some o → (∀ w, o = .inl w → w = out) → (∀ v, o = .inr v → G E K 3 0 0 [(0, .ref a0), (1, .ref a1), (2, .int v.1)] [] [(a0, oB 1 [.ref a0_then, .ref a0_marks]), (a0_then, oB 3 [.ref a0_then_ice, .ref a0_then_juice, .ref a0_then_fors, .int v.2.1, .int v.2.2.1, .int va0_then_draw]), (a0_then_ice, aI E 12 v.2.2.2.1), (a0_then_juice, aI E 5 v.2.2.2.2), (a0_then_fors, aI E 5 va0_then_fors), (a1, oB 0 [.ref a1_kind, .ref a1_weight, .ref a1_now, .int va1_cells, .int va1_people, .int va1_sayings, .int va1_frost]), (a1_kind, aI E 6 va1_kind), (a1_weight, aI E 6 va1_weight), (a1_now, oB 3 [.ref a1_now_ice, .ref a1_now_juice, .ref a1_now_fors, .int va1_now_boat, .int va1_now_minute, .int va1_now_draw]), (a1_now_ice, aI E 12 va1_now_ice), (a1_now_juice, aI E 5 va1_now_juice), (a1_now_fors, aI E 5 va1_now_fors)] 54) → G E K 3 0 0 [(0, .ref a0), (1, .ref a1), (2, .int x2)] [] [(a0, oB 1 [.ref a0_then, .ref a0_marks]), (a0_then, oB 3 [.ref a0_then_ice, .ref a0_then_juice, .ref a0_then_fors, .int va0_then_boat, .int va0_then_minute, .int va0_then_draw]), (a0_then_ice, aI E 12 va0_then_ice), (a0_then_juice, aI E 5 va0_then_juice), (a0_then_fors, aI E 5 va0_then_fors), (a1, oB 0 [.ref a1_kind, .ref a1_weight, .ref a1_now, .int va1_cells, .int va1_people, .int va1_sayings, .int va1_frost]), (a1_kind, aI E 6 va1_kind), (a1_weight, aI E 6 va1_weight), (a1_now, oB 3 [.ref a1_now_ice, .ref a1_now_juice, .ref a1_now_fors, .int va1_now_boat, .int va1_now_minute, .int va1_now_draw]), (a1_now_ice, aI E 12 va1_now_ice), (a1_now_juice, aI E 5 va1_now_juice), (a1_now_fors, aI E 5 va1_now_fors)] 13 := by
  intro n
  induction n with
  | zero => intro x2 va0_then_boat va0_then_minute va0_then_ice va0_then_juice o hf; cases hf
  | succ n ih =>
    intro x2 va0_then_boat va0_then_minute va0_then_ice va0_then_juice o hf hr hG
    rw [fX1_minutesUntilThrough_L13] at hf
    refine g_iload_n k 2 dX1_minutesUntilThrough_13 rfl rfl ?_
    refine g_bipush k dX1_minutesUntilThrough_14 bi_99 ?_
    refine g_icmp_gt k (tgt := 54) dX1_minutesUntilThrough_16 (by decide) (fun c3 => ?_) (fun c3 => ?_)
    · replace hf := ite_t c3 hf
      refine g_lv [0, 1, 2] rfl ?_
      obtain rfl := Option.some.inj hf
      exact hG _ rfl
    · replace hf := ite_f c3 hf
      refine g_aload_n k 1 dX1_minutesUntilThrough_19 rfl rfl ?_
      refine g_aload_n k 0 dX1_minutesUntilThrough_20 rfl rfl ?_
      refine g_get k cfX1 0 0 dX1_minutesUntilThrough_21 lkX1_12 (by decide) rfl rfl ?_
      obtain ⟨o4, ho5, hf⟩ := bnd_some hf
      refine g_cv k miX0_isThrough mvX0_isThrough (ctX0_isThrough (kL K) E N a1 a1_kind a1_weight a1_now a0_then a0_then_ice a0_then_juice a0_then_fors va1_cells va1_people va1_sayings va1_frost va0_then_boat va0_then_minute va0_then_draw  o4 ho5) [5, 1] 0 (ws' := [(a0, oB 1 [.ref a0_then, .ref a0_marks]), (a0_then, oB 3 [.ref a0_then_ice, .ref a0_then_juice, .ref a0_then_fors, .int va0_then_boat, .int va0_then_minute, .int va0_then_draw]), (a0_then_ice, aI E 12 va0_then_ice), (a0_then_juice, aI E 5 va0_then_juice), (a0_then_fors, aI E 5 va0_then_fors), (a1, oB 0 [.ref a1_kind, .ref a1_weight, .ref a1_now, .int va1_cells, .int va1_people, .int va1_sayings, .int va1_frost]), (a1_kind, aI E 6 va1_kind), (a1_weight, aI E 6 va1_weight), (a1_now, oB 3 [.ref a1_now_ice, .ref a1_now_juice, .ref a1_now_fors, .int va1_now_boat, .int va1_now_minute, .int va1_now_draw]), (a1_now_ice, aI E 12 va1_now_ice), (a1_now_juice, aI E 5 va1_now_juice), (a1_now_fors, aI E 5 va1_now_fors)]) dX1_minutesUntilThrough_24 lkX1_39 rfl ⟨rfl, rfl⟩ ⟨by decide, by decide⟩ rfl rfl rfl rfl (Nat.le_of_ble_eq_true rfl) rfl rfl rfl ?_
      refine g_st (st' := [.int o4]) rfl ?_
      refine g_if_eq k (tgt := 32) dX1_minutesUntilThrough_27 (by decide) (fun c6 => ?_) (fun c6 => ?_)
      · replace hf := ite_t c6 hf
        refine g_aload_n k 1 dX1_minutesUntilThrough_32 rfl rfl ?_
        refine g_aload_n k 0 dX1_minutesUntilThrough_33 rfl rfl ?_
        refine g_get k cfX1 0 0 dX1_minutesUntilThrough_34 lkX1_12 (by decide) rfl rfl ?_
        refine g_aload_n k 1 dX1_minutesUntilThrough_37 rfl rfl ?_
        refine g_aload_n k 0 dX1_minutesUntilThrough_38 rfl rfl ?_
        refine g_get k cfX1 0 0 dX1_minutesUntilThrough_39 lkX1_12 (by decide) rfl rfl ?_
        obtain ⟨o7, ho8, hf⟩ := bnd_some hf
        refine g_cv k miX0_mostRocking mvX0_mostRocking (ctX0_mostRocking (kL K) E N a1 a1_kind a1_weight a1_now a0_then a0_then_ice a0_then_juice a0_then_fors va1_cells va1_people va1_sayings va1_frost va1_kind va1_weight va0_then_boat va0_then_minute va0_then_draw va0_then_juice va0_then_fors  o7 ho8) [5, 6, 7, 1, 3, 4] 0 (ws' := [(a0, oB 1 [.ref a0_then, .ref a0_marks]), (a0_then, oB 3 [.ref a0_then_ice, .ref a0_then_juice, .ref a0_then_fors, .int va0_then_boat, .int va0_then_minute, .int va0_then_draw]), (a0_then_ice, aI E 12 va0_then_ice), (a0_then_juice, aI E 5 va0_then_juice), (a0_then_fors, aI E 5 va0_then_fors), (a1, oB 0 [.ref a1_kind, .ref a1_weight, .ref a1_now, .int va1_cells, .int va1_people, .int va1_sayings, .int va1_frost]), (a1_kind, aI E 6 va1_kind), (a1_weight, aI E 6 va1_weight), (a1_now, oB 3 [.ref a1_now_ice, .ref a1_now_juice, .ref a1_now_fors, .int va1_now_boat, .int va1_now_minute, .int va1_now_draw]), (a1_now_ice, aI E 12 va1_now_ice), (a1_now_juice, aI E 5 va1_now_juice), (a1_now_fors, aI E 5 va1_now_fors)]) dX1_minutesUntilThrough_42 lkX1_31 rfl ⟨rfl, rfl⟩ ⟨by decide, by decide⟩ rfl rfl rfl rfl (Nat.le_of_ble_eq_true rfl) rfl rfl rfl ?_
        refine g_st (st' := [.int o7, .ref a0_then, .ref a1]) rfl ?_
        obtain ⟨o9, ho10, hf⟩ := bnd_some hf
        refine g_cv k miX0_pass mvX0_pass (ctX0_pass (kL K) E N a1 a1_kind a1_weight a1_now a0_then a0_then_ice a0_then_juice a0_then_fors va1_cells va1_people va1_sayings va1_frost va1_kind va1_weight va0_then_boat va0_then_minute va0_then_draw va0_then_ice va0_then_juice va0_then_fors o7 o9 ho10) [5, 6, 7, 1, 2, 3, 4] 0 (ws' := [(a0, oB 1 [.ref a0_then, .ref a0_marks]), (a0_then, oB 3 [.ref a0_then_ice, .ref a0_then_juice, .ref a0_then_fors, .int o9.1, .int o9.2.1, .int va0_then_draw]), (a0_then_ice, aI E 12 o9.2.2.1), (a0_then_juice, aI E 5 o9.2.2.2), (a0_then_fors, aI E 5 va0_then_fors), (a1, oB 0 [.ref a1_kind, .ref a1_weight, .ref a1_now, .int va1_cells, .int va1_people, .int va1_sayings, .int va1_frost]), (a1_kind, aI E 6 va1_kind), (a1_weight, aI E 6 va1_weight), (a1_now, oB 3 [.ref a1_now_ice, .ref a1_now_juice, .ref a1_now_fors, .int va1_now_boat, .int va1_now_minute, .int va1_now_draw]), (a1_now_ice, aI E 12 va1_now_ice), (a1_now_juice, aI E 5 va1_now_juice), (a1_now_fors, aI E 5 va1_now_fors)]) dX1_minutesUntilThrough_45 lkX1_35 rfl ⟨rfl, rfl⟩ ⟨by decide, by decide⟩ rfl rfl rfl rfl (Nat.le_of_ble_eq_true rfl) rfl rfl rfl ?_
        refine g_st (st' := []) rfl ?_
        refine g_iinc k (lv' := [(2, .int (x2 + 1)), (0, .ref a0), (1, .ref a1)]) 2 dX1_minutesUntilThrough_48 rfl (ii_1 _) (by decide) rfl ?_
        refine g_goto k (tgt := 13) dX1_minutesUntilThrough_51 (by decide) ?_
        refine g_lv [1, 2, 0] rfl ?_
        exact ih (x2 + 1) o9.1 o9.2.1 o9.2.2.1 o9.2.2.2 o hf hr hG
      · replace hf := ite_f c6 hf
        refine g_iload_n k 2 dX1_minutesUntilThrough_30 rfl rfl ?_
        obtain rfl := Option.some.inj hf
        obtain rfl := hr _ rfl
        exact g_iret k r dX1_minutesUntilThrough_31 ⟨rfl, rfl⟩
def fX1_minutesUntilThrough (N : Nat) (va0_then_boat : Int32) (va0_then_minute : Int32) (va0_then_draw : Int32) (va0_then_ice : Nat → Int32) (va0_then_juice : Nat → Int32) (va0_then_fors : Nat → Int32) (va1_cells : Int32) (va1_people : Int32) (va1_sayings : Int32) (va1_frost : Int32) (va1_kind : Nat → Int32) (va1_weight : Nat → Int32) (va1_now_boat : Int32) (va1_now_minute : Int32) (va1_now_draw : Int32) (va1_now_ice : Nat → Int32) (va1_now_juice : Nat → Int32) (va1_now_fors : Nat → Int32)  : Option (Int32 × Int32 × Int32 × Int32 × (Nat → Int32) × (Nat → Int32) × (Nat → Int32)) :=
  bnd (fX3_take N va0_then_boat va0_then_minute va0_then_draw va0_then_ice va0_then_juice va0_then_fors va1_now_boat va1_now_minute va1_now_draw va1_now_ice va1_now_juice va1_now_fors) fun o1 =>
  bnd (fX1_minutesUntilThrough_L13 N o1.2.2.1 o1.2.2.2.2.2 va1_cells va1_people va1_sayings va1_frost va1_kind va1_weight N 0 o1.1 o1.2.1 o1.2.2.2.1 o1.2.2.2.2.1) fun o11 => lret o11 fun v13 =>
  some ((-4), v13.2.1, v13.2.2.1, o1.2.2.1, v13.2.2.2.1, v13.2.2.2.2, o1.2.2.2.2.2)
set_option maxHeartbeats 4000000 in
set_option maxRecDepth 100000 in
theorem ctX1_minutesUntilThrough (l : Launch) (E : Ev) (N : Nat) (a0 : Nat) (a0_then : Nat) (a0_marks : Nat) (a0_then_ice : Nat) (a0_then_juice : Nat) (a0_then_fors : Nat) (a1 : Nat) (a1_kind : Nat) (a1_weight : Nat) (a1_now : Nat) (a1_now_ice : Nat) (a1_now_juice : Nat) (a1_now_fors : Nat) (va0_then_boat : Int32) (va0_then_minute : Int32) (va0_then_draw : Int32) (va0_then_ice : Nat → Int32) (va0_then_juice : Nat → Int32) (va0_then_fors : Nat → Int32) (va1_cells : Int32) (va1_people : Int32) (va1_sayings : Int32) (va1_frost : Int32) (va1_kind : Nat → Int32) (va1_weight : Nat → Int32) (va1_now_boat : Int32) (va1_now_minute : Int32) (va1_now_draw : Int32) (va1_now_ice : Nat → Int32) (va1_now_juice : Nat → Int32) (va1_now_fors : Nat → Int32)  (out : Int32 × Int32 × Int32 × Int32 × (Nat → Int32) × (Nat → Int32) × (Nat → Int32)) (hf : fX1_minutesUntilThrough N va0_then_boat va0_then_minute va0_then_draw va0_then_ice va0_then_juice va0_then_fors va1_cells va1_people va1_sayings va1_frost va1_kind va1_weight va1_now_boat va1_now_minute va1_now_draw va1_now_ice va1_now_juice va1_now_fors  = some out) : Ct l E yX1_minutesUntilThrough cX1_minutesUntilThrough 3 (some .int) rmX1_minutesUntilThrough [.ref a0, .ref a1] [(a0, oB 1 [.ref a0_then, .ref a0_marks]), (a0_then, oB 3 [.ref a0_then_ice, .ref a0_then_juice, .ref a0_then_fors, .int va0_then_boat, .int va0_then_minute, .int va0_then_draw]), (a0_then_ice, aI E 12 va0_then_ice), (a0_then_juice, aI E 5 va0_then_juice), (a0_then_fors, aI E 5 va0_then_fors), (a1, oB 0 [.ref a1_kind, .ref a1_weight, .ref a1_now, .int va1_cells, .int va1_people, .int va1_sayings, .int va1_frost]), (a1_kind, aI E 6 va1_kind), (a1_weight, aI E 6 va1_weight), (a1_now, oB 3 [.ref a1_now_ice, .ref a1_now_juice, .ref a1_now_fors, .int va1_now_boat, .int va1_now_minute, .int va1_now_draw]), (a1_now_ice, aI E 12 va1_now_ice), (a1_now_juice, aI E 5 va1_now_juice), (a1_now_fors, aI E 5 va1_now_fors)] (Pe (some (.int out.1)) [(a0, oB 1 [.ref a0_then, .ref a0_marks]), (a0_then, oB 3 [.ref a0_then_ice, .ref a0_then_juice, .ref a0_then_fors, .int out.2.1, .int out.2.2.1, .int out.2.2.2.1]), (a0_then_ice, aI E 12 out.2.2.2.2.1), (a0_then_juice, aI E 5 out.2.2.2.2.2.1), (a0_then_fors, aI E 5 out.2.2.2.2.2.2), (a1, oB 0 [.ref a1_kind, .ref a1_weight, .ref a1_now, .int va1_cells, .int va1_people, .int va1_sayings, .int va1_frost]), (a1_kind, aI E 6 va1_kind), (a1_weight, aI E 6 va1_weight), (a1_now, oB 3 [.ref a1_now_ice, .ref a1_now_juice, .ref a1_now_fors, .int va1_now_boat, .int va1_now_minute, .int va1_now_draw]), (a1_now_ice, aI E 12 va1_now_ice), (a1_now_juice, aI E 5 va1_now_juice), (a1_now_fors, aI E 5 va1_now_fors)]) := by
  refine Ct.of rfl (Nat.le_of_ble_eq_true rfl) (fun K hL k r hin => ?_)
  subst hL
  unfold fX1_minutesUntilThrough at hf
  show G E K 3 0 0 [(0, .ref a0), (1, .ref a1)] [] [(a0, oB 1 [.ref a0_then, .ref a0_marks]), (a0_then, oB 3 [.ref a0_then_ice, .ref a0_then_juice, .ref a0_then_fors, .int va0_then_boat, .int va0_then_minute, .int va0_then_draw]), (a0_then_ice, aI E 12 va0_then_ice), (a0_then_juice, aI E 5 va0_then_juice), (a0_then_fors, aI E 5 va0_then_fors), (a1, oB 0 [.ref a1_kind, .ref a1_weight, .ref a1_now, .int va1_cells, .int va1_people, .int va1_sayings, .int va1_frost]), (a1_kind, aI E 6 va1_kind), (a1_weight, aI E 6 va1_weight), (a1_now, oB 3 [.ref a1_now_ice, .ref a1_now_juice, .ref a1_now_fors, .int va1_now_boat, .int va1_now_minute, .int va1_now_draw]), (a1_now_ice, aI E 12 va1_now_ice), (a1_now_juice, aI E 5 va1_now_juice), (a1_now_fors, aI E 5 va1_now_fors)] 0
  refine g_aload_n k 0 dX1_minutesUntilThrough_0 rfl rfl ?_
  refine g_get k cfX1 0 0 dX1_minutesUntilThrough_1 lkX1_12 (by decide) rfl rfl ?_
  refine g_aload_n k 1 dX1_minutesUntilThrough_4 rfl rfl ?_
  refine g_get k cfX0 2 5 dX1_minutesUntilThrough_5 lkX1_22 (by decide) rfl rfl ?_
  obtain ⟨o1, ho2, hf⟩ := bnd_some hf
  refine g_cv k miX3_take mvX3_take (ctX3_take (kL K) E N a0_then a0_then_ice a0_then_juice a0_then_fors a1_now a1_now_ice a1_now_juice a1_now_fors va0_then_boat va0_then_minute va0_then_draw va0_then_ice va0_then_juice va0_then_fors va1_now_boat va1_now_minute va1_now_draw va1_now_ice va1_now_juice va1_now_fors  o1 ho2) [1, 2, 3, 4, 8, 9, 10, 11] 0 (ws' := [(a0, oB 1 [.ref a0_then, .ref a0_marks]), (a0_then, oB 3 [.ref a0_then_ice, .ref a0_then_juice, .ref a0_then_fors, .int o1.1, .int o1.2.1, .int o1.2.2.1]), (a0_then_ice, aI E 12 o1.2.2.2.1), (a0_then_juice, aI E 5 o1.2.2.2.2.1), (a0_then_fors, aI E 5 o1.2.2.2.2.2), (a1, oB 0 [.ref a1_kind, .ref a1_weight, .ref a1_now, .int va1_cells, .int va1_people, .int va1_sayings, .int va1_frost]), (a1_kind, aI E 6 va1_kind), (a1_weight, aI E 6 va1_weight), (a1_now, oB 3 [.ref a1_now_ice, .ref a1_now_juice, .ref a1_now_fors, .int va1_now_boat, .int va1_now_minute, .int va1_now_draw]), (a1_now_ice, aI E 12 va1_now_ice), (a1_now_juice, aI E 5 va1_now_juice), (a1_now_fors, aI E 5 va1_now_fors)]) dX1_minutesUntilThrough_8 lkX1_27 rfl ⟨rfl, rfl⟩ ⟨by decide, by decide⟩ rfl rfl rfl rfl (Nat.le_of_ble_eq_true rfl) rfl rfl rfl ?_
  refine g_st (st' := []) rfl ?_
  refine g_iconst k dX1_minutesUntilThrough_11 ic_0 ?_
  refine g_istore_n k (lv' := [(2, .int 0), (0, .ref a0), (1, .ref a1)]) dX1_minutesUntilThrough_12 rfl (by decide) rfl ?_
  obtain ⟨o11, ho12, hf⟩ := bnd_some hf
  refine g_lv [1, 2, 0] (lv' := [(0, .ref a0), (1, .ref a1), (2, .int 0)]) rfl ?_
  refine wX1_minutesUntilThrough_L13 k N a0 a0_then a0_marks a0_then_ice a0_then_juice a0_then_fors a1 a1_kind a1_weight a1_now a1_now_ice a1_now_juice a1_now_fors  o1.2.2.1 o1.2.2.2.2.2 va1_cells va1_people va1_sayings va1_frost va1_kind va1_weight va1_now_boat va1_now_minute va1_now_draw va1_now_ice va1_now_juice va1_now_fors r N 0 o1.1 o1.2.1 o1.2.2.2.1 o1.2.2.2.2.1 o11 ho12 (fun w e => by subst e; exact Option.some.inj hf) (fun v13 e => ?_)
  subst e
  replace hf := lret_r hf
  refine g_bipush k dX1_minutesUntilThrough_54 bi_m4 ?_
  obtain rfl := Option.some.inj hf
  exact g_iret k r dX1_minutesUntilThrough_56 ⟨rfl, rfl⟩
abbrev rmX1_mark : Room := { frames := 2, cells := 0, slots := 0, locals := 42 }
def fX1_mark_L26 (N : Nat) (va0_then_juice : Nat → Int32) (va1_sayings : Int32) : Nat → Int64 → Int32 → Option (Int64 × Int32)
  | 0, _, _ => none
  | n + 1, x2, x4 =>
    if va1_sayings ≤ x4 then
    some (x2, x4)
    else
    ixb x4 5 fun κ4 =>
    fX1_mark_L26 N va0_then_juice va1_sayings n ((x2 * 32) + ((va0_then_juice κ4).toInt64)) (x4 + 1)
set_option maxHeartbeats 4000000 in
set_option maxRecDepth 100000 in
theorem wX1_mark_L26 {E : Ev} {K : KX} (k : OKX E K cX1_mark RX1 5 rmX1_mark) (N : Nat) (a0 : Nat) (a0_then : Nat) (a0_marks : Nat) (a0_then_ice : Nat) (a0_then_juice : Nat) (a0_then_fors : Nat) (a1 : Nat) (a1_kind : Nat) (a1_weight : Nat) (a1_now : Nat) (va0_then_juice : Nat → Int32) (va1_sayings : Int32) (va0_then_boat : Int32) (va0_then_minute : Int32) (va0_then_draw : Int32) (va0_then_ice : Nat → Int32) (va1_cells : Int32) (va1_people : Int32) (va1_frost : Int32) : ∀ (n : Nat) (x2 : Int64) (x4 : Int32) (o : Int64 × Int32), fX1_mark_L26 N va0_then_juice va1_sayings n x2 x4 = some o → G E K 5 0 0 [(0, .ref a0), (1, .ref a1), (2, .long o.1), (4, .int o.2)] [] [(a0, oB 1 [.ref a0_then, .ref a0_marks]), (a0_then, oB 3 [.ref a0_then_ice, .ref a0_then_juice, .ref a0_then_fors, .int va0_then_boat, .int va0_then_minute, .int va0_then_draw]), (a0_then_ice, aI E 12 va0_then_ice), (a0_then_juice, aI E 5 va0_then_juice), (a1, oB 0 [.ref a1_kind, .ref a1_weight, .ref a1_now, .int va1_cells, .int va1_people, .int va1_sayings, .int va1_frost])] 59 → G E K 5 0 0 [(0, .ref a0), (1, .ref a1), (2, .long x2), (4, .int x4)] [] [(a0, oB 1 [.ref a0_then, .ref a0_marks]), (a0_then, oB 3 [.ref a0_then_ice, .ref a0_then_juice, .ref a0_then_fors, .int va0_then_boat, .int va0_then_minute, .int va0_then_draw]), (a0_then_ice, aI E 12 va0_then_ice), (a0_then_juice, aI E 5 va0_then_juice), (a1, oB 0 [.ref a1_kind, .ref a1_weight, .ref a1_now, .int va1_cells, .int va1_people, .int va1_sayings, .int va1_frost])] 26 := by
  intro n
  induction n with
  | zero => intro x2 x4 o hf; cases hf
  | succ n ih =>
    intro x2 x4 o hf hG
    rw [fX1_mark_L26] at hf
    refine g_iload k 3 dX1_mark_26 rfl ?_
    refine g_aload_n k 1 dX1_mark_28 rfl rfl ?_
    refine g_get k cfX0 5 4 dX1_mark_29 lkX1_60 (by decide) rfl rfl ?_
    refine g_icmp_ge k (tgt := 59) dX1_mark_32 (by decide) (fun c3 => ?_) (fun c3 => ?_)
    · replace hf := ite_t c3 hf
      refine g_lv [0, 1, 2, 3] rfl ?_
      obtain rfl := Option.some.inj hf
      exact hG
    · replace hf := ite_f c3 hf
      refine g_lload_n k 2 dX1_mark_35 rfl rfl ?_
      refine g_ldc2 k dX1_mark_36 lkX1_63 ?_
      refine g_lmul k dX1_mark_39 ?_
      refine g_aload_n k 0 dX1_mark_40 rfl rfl ?_
      refine g_get k cfX1 0 0 dX1_mark_41 lkX1_12 (by decide) rfl rfl ?_
      refine g_get k cfX3 1 1 dX1_mark_44 lkX1_65 (by decide) rfl rfl ?_
      refine g_iload k 3 dX1_mark_47 rfl ?_
      obtain ⟨κ4, hκ4, hiκ4, heκ4, hf⟩ := ixb_some hf
      refine g_iaload k 3 dX1_mark_49 rfl hiκ4 heκ4 ?_
      refine g_i2l k dX1_mark_50 ?_
      refine g_ladd k dX1_mark_51 ?_
      refine g_lstore_n k (lv' := [(2, .long ((x2 * 32) + ((va0_then_juice κ4).toInt64))), (0, .ref a0), (1, .ref a1), (4, .int x4)]) dX1_mark_52 rfl (by decide) rfl ?_
      refine g_iinc k (lv' := [(4, .int (x4 + 1)), (2, .long ((x2 * 32) + ((va0_then_juice κ4).toInt64))), (0, .ref a0), (1, .ref a1)]) 3 dX1_mark_53 rfl (ii_1 _) (by decide) rfl ?_
      refine g_goto k (tgt := 26) dX1_mark_56 (by decide) ?_
      refine g_lv [2, 3, 1, 0] rfl ?_
      exact ih ((x2 * 32) + ((va0_then_juice κ4).toInt64)) (x4 + 1) o hf hG
def fX1_mark (N : Nat) (va0_then_boat : Int32) (va0_then_minute : Int32) (va0_then_ice : Nat → Int32) (va0_then_juice : Nat → Int32) (va1_cells : Int32) (va1_sayings : Int32)  : Option (Int64) :=
  bnd (fX0_iceAhead N va1_cells va0_then_boat va0_then_ice) fun o1 =>
  bnd (fX1_mark_L26 N va0_then_juice va1_sayings N ((va0_then_boat.toInt64 * 64) + o1.toInt64) 0) fun o5 =>
  bnd (fX3_isEven N va0_then_minute) fun o7 =>
  if o7 = 0 then
  some (((o5.1 * 2) + ((1 : Int32).toInt64)))
  else
  some (((o5.1 * 2) + ((0 : Int32).toInt64)))
set_option maxHeartbeats 4000000 in
set_option maxRecDepth 100000 in
theorem ctX1_mark (l : Launch) (E : Ev) (N : Nat) (a0 : Nat) (a0_then : Nat) (a0_marks : Nat) (a0_then_ice : Nat) (a0_then_juice : Nat) (a0_then_fors : Nat) (a1 : Nat) (a1_kind : Nat) (a1_weight : Nat) (a1_now : Nat) (va0_then_boat : Int32) (va0_then_minute : Int32) (va0_then_draw : Int32) (va0_then_ice : Nat → Int32) (va0_then_juice : Nat → Int32) (va1_cells : Int32) (va1_people : Int32) (va1_sayings : Int32) (va1_frost : Int32)  (out : Int64) (hf : fX1_mark N va0_then_boat va0_then_minute va0_then_ice va0_then_juice va1_cells va1_sayings  = some out) : Ct l E yX1_mark cX1_mark 5 (some .long) rmX1_mark [.ref a0, .ref a1] [(a0, oB 1 [.ref a0_then, .ref a0_marks]), (a0_then, oB 3 [.ref a0_then_ice, .ref a0_then_juice, .ref a0_then_fors, .int va0_then_boat, .int va0_then_minute, .int va0_then_draw]), (a0_then_ice, aI E 12 va0_then_ice), (a0_then_juice, aI E 5 va0_then_juice), (a1, oB 0 [.ref a1_kind, .ref a1_weight, .ref a1_now, .int va1_cells, .int va1_people, .int va1_sayings, .int va1_frost])] (Pe (some (.long out)) [(a0, oB 1 [.ref a0_then, .ref a0_marks]), (a0_then, oB 3 [.ref a0_then_ice, .ref a0_then_juice, .ref a0_then_fors, .int va0_then_boat, .int va0_then_minute, .int va0_then_draw]), (a0_then_ice, aI E 12 va0_then_ice), (a0_then_juice, aI E 5 va0_then_juice), (a1, oB 0 [.ref a1_kind, .ref a1_weight, .ref a1_now, .int va1_cells, .int va1_people, .int va1_sayings, .int va1_frost])]) := by
  refine Ct.of rfl (Nat.le_of_ble_eq_true rfl) (fun K hL k r hin => ?_)
  subst hL
  unfold fX1_mark at hf
  show G E K 5 0 0 [(0, .ref a0), (1, .ref a1)] [] [(a0, oB 1 [.ref a0_then, .ref a0_marks]), (a0_then, oB 3 [.ref a0_then_ice, .ref a0_then_juice, .ref a0_then_fors, .int va0_then_boat, .int va0_then_minute, .int va0_then_draw]), (a0_then_ice, aI E 12 va0_then_ice), (a0_then_juice, aI E 5 va0_then_juice), (a1, oB 0 [.ref a1_kind, .ref a1_weight, .ref a1_now, .int va1_cells, .int va1_people, .int va1_sayings, .int va1_frost])] 0
  refine g_aload_n k 0 dX1_mark_0 rfl rfl ?_
  refine g_get k cfX1 0 0 dX1_mark_1 lkX1_12 (by decide) rfl rfl ?_
  refine g_get k cfX3 3 1 dX1_mark_4 lkX1_51 (by decide) rfl rfl ?_
  refine g_i2l k dX1_mark_7 ?_
  refine g_ldc2 k dX1_mark_8 lkX1_55 ?_
  refine g_lmul k dX1_mark_11 ?_
  refine g_aload_n k 1 dX1_mark_12 rfl rfl ?_
  refine g_aload_n k 0 dX1_mark_13 rfl rfl ?_
  refine g_get k cfX1 0 0 dX1_mark_14 lkX1_12 (by decide) rfl rfl ?_
  obtain ⟨o1, ho2, hf⟩ := bnd_some hf
  refine g_cv k miX0_iceAhead mvX0_iceAhead (ctX0_iceAhead (kL K) E N a1 a1_kind a1_weight a1_now a0_then a0_then_ice a0_then_juice a0_then_fors va1_cells va1_people va1_sayings va1_frost va0_then_boat va0_then_minute va0_then_draw va0_then_ice  o1 ho2) [4, 1, 2] 0 (ws' := [(a0, oB 1 [.ref a0_then, .ref a0_marks]), (a0_then, oB 3 [.ref a0_then_ice, .ref a0_then_juice, .ref a0_then_fors, .int va0_then_boat, .int va0_then_minute, .int va0_then_draw]), (a0_then_ice, aI E 12 va0_then_ice), (a0_then_juice, aI E 5 va0_then_juice), (a1, oB 0 [.ref a1_kind, .ref a1_weight, .ref a1_now, .int va1_cells, .int va1_people, .int va1_sayings, .int va1_frost])]) dX1_mark_17 lkX1_57 rfl ⟨rfl, rfl⟩ ⟨by decide, by decide⟩ rfl rfl rfl rfl (Nat.le_of_ble_eq_true rfl) rfl rfl rfl ?_
  refine g_st (st' := [.int o1, .long (va0_then_boat.toInt64 * 64)]) rfl ?_
  refine g_i2l k dX1_mark_20 ?_
  refine g_ladd k dX1_mark_21 ?_
  refine g_lstore_n k (lv' := [(2, .long ((va0_then_boat.toInt64 * 64) + o1.toInt64)), (0, .ref a0), (1, .ref a1)]) dX1_mark_22 rfl (by decide) rfl ?_
  refine g_iconst k dX1_mark_23 ic_0 ?_
  refine g_istore k (lv' := [(4, .int 0), (2, .long ((va0_then_boat.toInt64 * 64) + o1.toInt64)), (0, .ref a0), (1, .ref a1)]) dX1_mark_24 (by decide) rfl ?_
  obtain ⟨o5, ho6, hf⟩ := bnd_some hf
  refine g_lv [2, 3, 1, 0] (lv' := [(0, .ref a0), (1, .ref a1), (2, .long ((va0_then_boat.toInt64 * 64) + o1.toInt64)), (4, .int 0)]) rfl ?_
  refine wX1_mark_L26 k N a0 a0_then a0_marks a0_then_ice a0_then_juice a0_then_fors a1 a1_kind a1_weight a1_now  va0_then_juice va1_sayings va0_then_boat va0_then_minute va0_then_draw va0_then_ice va1_cells va1_people va1_frost N ((va0_then_boat.toInt64 * 64) + o1.toInt64) 0 o5 ho6 ?_
  refine g_lload_n k 2 dX1_mark_59 rfl rfl ?_
  refine g_ldc2 k dX1_mark_60 lkX1_69 ?_
  refine g_lmul k dX1_mark_63 ?_
  refine g_aload_n k 0 dX1_mark_64 rfl rfl ?_
  refine g_get k cfX1 0 0 dX1_mark_65 lkX1_12 (by decide) rfl rfl ?_
  obtain ⟨o7, ho8, hf⟩ := bnd_some hf
  refine g_cv k miX3_isEven mvX3_isEven (ctX3_isEven (kL K) E N a0_then a0_then_ice a0_then_juice a0_then_fors va0_then_boat va0_then_minute va0_then_draw  o7 ho8) [1] 0 (ws' := [(a0, oB 1 [.ref a0_then, .ref a0_marks]), (a0_then, oB 3 [.ref a0_then_ice, .ref a0_then_juice, .ref a0_then_fors, .int va0_then_boat, .int va0_then_minute, .int va0_then_draw]), (a0_then_ice, aI E 12 va0_then_ice), (a0_then_juice, aI E 5 va0_then_juice), (a1, oB 0 [.ref a1_kind, .ref a1_weight, .ref a1_now, .int va1_cells, .int va1_people, .int va1_sayings, .int va1_frost])]) dX1_mark_68 lkX1_71 rfl ⟨rfl, rfl⟩ ⟨by decide, by decide⟩ rfl rfl rfl rfl (Nat.le_of_ble_eq_true rfl) rfl rfl rfl ?_
  refine g_st (st' := [.int o7, .long (o5.1 * 2)]) rfl ?_
  refine g_if_eq k (tgt := 78) dX1_mark_71 (by decide) (fun c9 => ?_) (fun c9 => ?_)
  · replace hf := ite_t c9 hf
    refine g_iconst k dX1_mark_78 ic_1 ?_
    refine g_i2l k dX1_mark_79 ?_
    refine g_ladd k dX1_mark_80 ?_
    obtain rfl := Option.some.inj hf
    exact g_lret k r dX1_mark_81 ⟨rfl, rfl⟩
  · replace hf := ite_f c9 hf
    refine g_iconst k dX1_mark_74 ic_0 ?_
    refine g_goto k (tgt := 79) dX1_mark_75 (by decide) ?_
    refine g_i2l k dX1_mark_79 ?_
    refine g_ladd k dX1_mark_80 ?_
    obtain rfl := Option.some.inj hf
    exact g_lret k r dX1_mark_81 ⟨rfl, rfl⟩
abbrev rmX1_firstLike : Room := { frames := 0, cells := 0, slots := 0, locals := 0 }
def fX1_firstLike_L2 (N : Nat) (x1 : Int32) (va0_marks : Nat → Int64) : Nat → Int32 → Option ((Int32) ⊕ (Int32))
  | 0, _ => none
  | n + 1, x2 =>
    if x1 ≤ x2 then
    some (.inr (x2))
    else
    ixb x2 201 fun κ2 =>
    ixb x1 201 fun κ3 =>
    if (lg_cmp (va0_marks κ2) (va0_marks κ3)) = 0 then
    some (.inl (x2))
    else
    fX1_firstLike_L2 N x1 va0_marks n (x2 + 1)
set_option maxHeartbeats 4000000 in
set_option maxRecDepth 100000 in
theorem wX1_firstLike_L2 {E : Ev} {K : KX} (k : OKX E K cX1_firstLike RX1 3 rmX1_firstLike) (N : Nat) (a0 : Nat) (a0_then : Nat) (a0_marks : Nat) (x1 : Int32) (va0_marks : Nat → Int64) {out : Int32} (r : RTX E K 0 0 (some .int) (Pe (some (.int out)) [(a0, oB 1 [.ref a0_then, .ref a0_marks]), (a0_marks, aJ E 201 va0_marks)])) : ∀ (n : Nat) (x2 : Int32) (o : (Int32) ⊕ (Int32)), fX1_firstLike_L2 N x1 va0_marks n x2 = some o → (∀ w, o = .inl w → w = out) → (∀ v, o = .inr v → G E K 3 0 0 [(0, .ref a0), (1, .int x1), (2, .int v)] [] [(a0, oB 1 [.ref a0_then, .ref a0_marks]), (a0_marks, aJ E 201 va0_marks)] 31) → G E K 3 0 0 [(0, .ref a0), (1, .int x1), (2, .int x2)] [] [(a0, oB 1 [.ref a0_then, .ref a0_marks]), (a0_marks, aJ E 201 va0_marks)] 2 := by
  intro n
  induction n with
  | zero => intro x2 o hf; cases hf
  | succ n ih =>
    intro x2 o hf hr hG
    rw [fX1_firstLike_L2] at hf
    refine g_iload_n k 2 dX1_firstLike_2 rfl rfl ?_
    refine g_iload_n k 1 dX1_firstLike_3 rfl rfl ?_
    refine g_icmp_ge k (tgt := 31) dX1_firstLike_4 (by decide) (fun c1 => ?_) (fun c1 => ?_)
    · replace hf := ite_t c1 hf
      refine g_lv [0, 1, 2] rfl ?_
      obtain rfl := Option.some.inj hf
      exact hG _ rfl
    · replace hf := ite_f c1 hf
      refine g_aload_n k 0 dX1_firstLike_7 rfl rfl ?_
      refine g_get k cfX1 1 0 dX1_firstLike_8 lkX1_18 (by decide) rfl rfl ?_
      refine g_iload_n k 2 dX1_firstLike_11 rfl rfl ?_
      obtain ⟨κ2, hκ2, hiκ2, heκ2, hf⟩ := ixb_some hf
      refine g_laload k 1 dX1_firstLike_12 rfl hiκ2 heκ2 ?_
      refine g_aload_n k 0 dX1_firstLike_13 rfl rfl ?_
      refine g_get k cfX1 1 0 dX1_firstLike_14 lkX1_18 (by decide) rfl rfl ?_
      refine g_iload_n k 1 dX1_firstLike_17 rfl rfl ?_
      obtain ⟨κ3, hκ3, hiκ3, heκ3, hf⟩ := ixb_some hf
      refine g_laload k 1 dX1_firstLike_18 rfl hiκ3 heκ3 ?_
      refine g_lcmp k dX1_firstLike_19 ?_
      refine g_if_ne k (tgt := 25) dX1_firstLike_20 (by decide) (fun c4 => ?_) (fun c4 => ?_)
      · replace hf := ite_f c4 hf
        refine g_iinc k (lv' := [(2, .int (x2 + 1)), (0, .ref a0), (1, .int x1)]) 2 dX1_firstLike_25 rfl (ii_1 _) (by decide) rfl ?_
        refine g_goto k (tgt := 2) dX1_firstLike_28 (by decide) ?_
        refine g_lv [1, 2, 0] rfl ?_
        exact ih (x2 + 1) o hf hr hG
      · replace hf := ite_t c4 hf
        refine g_iload_n k 2 dX1_firstLike_23 rfl rfl ?_
        obtain rfl := Option.some.inj hf
        obtain rfl := hr _ rfl
        exact g_iret k r dX1_firstLike_24 ⟨rfl, rfl⟩
def fX1_firstLike (N : Nat) (va0_marks : Nat → Int64) (x1 : Int32) : Option (Int32) :=
  bnd (fX1_firstLike_L2 N x1 va0_marks N 0) fun o5 => lret o5 fun v7 =>
  some (x1)
set_option maxHeartbeats 4000000 in
set_option maxRecDepth 100000 in
theorem ctX1_firstLike (l : Launch) (E : Ev) (N : Nat) (a0 : Nat) (a0_then : Nat) (a0_marks : Nat) (va0_marks : Nat → Int64) (x1 : Int32) (out : Int32) (hf : fX1_firstLike N va0_marks x1 = some out) : Ct l E yX1_firstLike cX1_firstLike 3 (some .int) rmX1_firstLike [.ref a0, .int x1] [(a0, oB 1 [.ref a0_then, .ref a0_marks]), (a0_marks, aJ E 201 va0_marks)] (Pe (some (.int out)) [(a0, oB 1 [.ref a0_then, .ref a0_marks]), (a0_marks, aJ E 201 va0_marks)]) := by
  refine Ct.of rfl (Nat.le_of_ble_eq_true rfl) (fun K hL k r hin => ?_)
  subst hL
  unfold fX1_firstLike at hf
  show G E K 3 0 0 [(0, .ref a0), (1, .int x1)] [] [(a0, oB 1 [.ref a0_then, .ref a0_marks]), (a0_marks, aJ E 201 va0_marks)] 0
  refine g_iconst k dX1_firstLike_0 ic_0 ?_
  refine g_istore_n k (lv' := [(2, .int 0), (0, .ref a0), (1, .int x1)]) dX1_firstLike_1 rfl (by decide) rfl ?_
  obtain ⟨o5, ho6, hf⟩ := bnd_some hf
  refine g_lv [1, 2, 0] (lv' := [(0, .ref a0), (1, .int x1), (2, .int 0)]) rfl ?_
  refine wX1_firstLike_L2 k N a0 a0_then a0_marks  x1 va0_marks  r N 0 o5 ho6 (fun w e => by subst e; exact Option.some.inj hf) (fun v7 e => ?_)
  subst e
  replace hf := lret_r hf
  refine g_iload_n k 1 dX1_firstLike_31 rfl rfl ?_
  obtain rfl := Option.some.inj hf
  exact g_iret k r dX1_firstLike_32 ⟨rfl, rfl⟩
abbrev rmX1_ringEnd : Room := { frames := 5, cells := 0, slots := 0, locals := 124 }
def fX1_ringEnd_L24 (N : Nat) (va0_then_draw : Int32) (va0_then_fors : Nat → Int32) (va1_cells : Int32) (va1_people : Int32) (va1_sayings : Int32) (va1_frost : Int32) (va1_kind : Nat → Int32) (va1_weight : Nat → Int32) : Nat → Int32 → Int32 → Int32 → (Nat → Int32) → (Nat → Int32) → (Nat → Int64) → Option ((Int32 × Int32 × Int32 × Int32 × (Nat → Int32) × (Nat → Int32) × (Nat → Int32) × (Nat → Int64)) ⊕ (Int32 × Int32 × Int32 × (Nat → Int32) × (Nat → Int32) × (Nat → Int64)))
  | 0, _, _, _, _, _, _ => none
  | n + 1, x2, va0_then_boat, va0_then_minute, va0_then_ice, va0_then_juice, va0_marks =>
    if 200 < x2 then
    some (.inr (x2, va0_then_boat, va0_then_minute, va0_then_ice, va0_then_juice, va0_marks))
    else
    bnd (fX0_mostRocking N va1_people va1_sayings va1_kind va1_weight va0_then_minute va0_then_juice va0_then_fors) fun o6 =>
    bnd (fX0_pass N va1_cells va1_people va1_sayings va1_frost va1_kind va1_weight va0_then_boat va0_then_minute va0_then_ice va0_then_juice va0_then_fors o6) fun o8 =>
    bnd (fX1_mark N o8.1 o8.2.1 o8.2.2.1 o8.2.2.2 va1_cells va1_sayings) fun o10 =>
    ixb x2 201 fun κ12 =>
    bnd (fX1_firstLike N (vp_updL va0_marks κ12 o10) x2) fun o13 =>
    if x2 ≤ o13 then
    fX1_ringEnd_L24 N va0_then_draw va0_then_fors va1_cells va1_people va1_sayings va1_frost va1_kind va1_weight n (x2 + 1) o8.1 o8.2.1 o8.2.2.1 o8.2.2.2 (vp_updL va0_marks κ12 o10)
    else
    some (.inl (x2, o8.1, o8.2.1, va0_then_draw, o8.2.2.1, o8.2.2.2, va0_then_fors, (vp_updL va0_marks κ12 o10)))
set_option maxHeartbeats 4000000 in
set_option maxRecDepth 100000 in
theorem wX1_ringEnd_L24 {E : Ev} {K : KX} (k : OKX E K cX1_ringEnd RX1 3 rmX1_ringEnd) (N : Nat) (a0 : Nat) (a0_then : Nat) (a0_marks : Nat) (a0_then_ice : Nat) (a0_then_juice : Nat) (a0_then_fors : Nat) (a1 : Nat) (a1_kind : Nat) (a1_weight : Nat) (a1_now : Nat) (a1_now_ice : Nat) (a1_now_juice : Nat) (a1_now_fors : Nat) (va0_then_draw : Int32) (va0_then_fors : Nat → Int32) (va1_cells : Int32) (va1_people : Int32) (va1_sayings : Int32) (va1_frost : Int32) (va1_kind : Nat → Int32) (va1_weight : Nat → Int32) (va1_now_boat : Int32) (va1_now_minute : Int32) (va1_now_draw : Int32) (va1_now_ice : Nat → Int32) (va1_now_juice : Nat → Int32) (va1_now_fors : Nat → Int32) {out : Int32 × Int32 × Int32 × Int32 × (Nat → Int32) × (Nat → Int32) × (Nat → Int32) × (Nat → Int64)} (r : RTX E K 0 0 (some .int) (Pe (some (.int out.1)) [(a0, oB 1 [.ref a0_then, .ref a0_marks]), (a0_then, oB 3 [.ref a0_then_ice, .ref a0_then_juice, .ref a0_then_fors, .int out.2.1, .int out.2.2.1, .int out.2.2.2.1]), (a0_then_ice, aI E 12 out.2.2.2.2.1), (a0_then_juice, aI E 5 out.2.2.2.2.2.1), (a0_then_fors, aI E 5 out.2.2.2.2.2.2.1), (a0_marks, aJ E 201 out.2.2.2.2.2.2.2), (a1, oB 0 [.ref a1_kind, .ref a1_weight, .ref a1_now, .int va1_cells, .int va1_people, .int va1_sayings, .int va1_frost]), (a1_kind, aI E 6 va1_kind), (a1_weight, aI E 6 va1_weight), (a1_now, oB 3 [.ref a1_now_ice, .ref a1_now_juice, .ref a1_now_fors, .int va1_now_boat, .int va1_now_minute, .int va1_now_draw]), (a1_now_ice, aI E 12 va1_now_ice), (a1_now_juice, aI E 5 va1_now_juice), (a1_now_fors, aI E 5 va1_now_fors)])) : ∀ (n : Nat) (x2 : Int32) (va0_then_boat : Int32) (va0_then_minute : Int32) (va0_then_ice : Nat → Int32) (va0_then_juice : Nat → Int32) (va0_marks : Nat → Int64) (o : (Int32 × Int32 × Int32 × Int32 × (Nat → Int32) × (Nat → Int32) × (Nat → Int32) × (Nat → Int64)) ⊕ (Int32 × Int32 × Int32 × (Nat → Int32) × (Nat → Int32) × (Nat → Int64))), fX1_ringEnd_L24 N va0_then_draw va0_then_fors va1_cells va1_people va1_sayings va1_frost va1_kind va1_weight n x2 va0_then_boat va0_then_minute va0_then_ice va0_then_juice va0_marks = some o → (∀ w, o = .inl w → w = out) → (∀ v, o = .inr v → G E K 3 0 0 [(0, .ref a0), (1, .ref a1), (2, .int v.1)] [] [(a0, oB 1 [.ref a0_then, .ref a0_marks]), (a0_then, oB 3 [.ref a0_then_ice, .ref a0_then_juice, .ref a0_then_fors, .int v.2.1, .int v.2.2.1, .int va0_then_draw]), (a0_then_ice, aI E 12 v.2.2.2.1), (a0_then_juice, aI E 5 v.2.2.2.2.1), (a0_then_fors, aI E 5 va0_then_fors), (a0_marks, aJ E 201 v.2.2.2.2.2), (a1, oB 0 [.ref a1_kind, .ref a1_weight, .ref a1_now, .int va1_cells, .int va1_people, .int va1_sayings, .int va1_frost]), (a1_kind, aI E 6 va1_kind), (a1_weight, aI E 6 va1_weight), (a1_now, oB 3 [.ref a1_now_ice, .ref a1_now_juice, .ref a1_now_fors, .int va1_now_boat, .int va1_now_minute, .int va1_now_draw]), (a1_now_ice, aI E 12 va1_now_ice), (a1_now_juice, aI E 5 va1_now_juice), (a1_now_fors, aI E 5 va1_now_fors)] 75) → G E K 3 0 0 [(0, .ref a0), (1, .ref a1), (2, .int x2)] [] [(a0, oB 1 [.ref a0_then, .ref a0_marks]), (a0_then, oB 3 [.ref a0_then_ice, .ref a0_then_juice, .ref a0_then_fors, .int va0_then_boat, .int va0_then_minute, .int va0_then_draw]), (a0_then_ice, aI E 12 va0_then_ice), (a0_then_juice, aI E 5 va0_then_juice), (a0_then_fors, aI E 5 va0_then_fors), (a0_marks, aJ E 201 va0_marks), (a1, oB 0 [.ref a1_kind, .ref a1_weight, .ref a1_now, .int va1_cells, .int va1_people, .int va1_sayings, .int va1_frost]), (a1_kind, aI E 6 va1_kind), (a1_weight, aI E 6 va1_weight), (a1_now, oB 3 [.ref a1_now_ice, .ref a1_now_juice, .ref a1_now_fors, .int va1_now_boat, .int va1_now_minute, .int va1_now_draw]), (a1_now_ice, aI E 12 va1_now_ice), (a1_now_juice, aI E 5 va1_now_juice), (a1_now_fors, aI E 5 va1_now_fors)] 24 := by
  intro n
  induction n with
  | zero => intro x2 va0_then_boat va0_then_minute va0_then_ice va0_then_juice va0_marks o hf; cases hf
  | succ n ih =>
    intro x2 va0_then_boat va0_then_minute va0_then_ice va0_then_juice va0_marks o hf hr hG
    rw [fX1_ringEnd_L24] at hf
    refine g_iload_n k 2 dX1_ringEnd_24 rfl rfl ?_
    refine g_sipush k dX1_ringEnd_25 si_200 ?_
    refine g_icmp_gt k (tgt := 75) dX1_ringEnd_28 (by decide) (fun c5 => ?_) (fun c5 => ?_)
    · replace hf := ite_t c5 hf
      refine g_lv [0, 1, 2] rfl ?_
      obtain rfl := Option.some.inj hf
      exact hG _ rfl
    · replace hf := ite_f c5 hf
      refine g_aload_n k 1 dX1_ringEnd_31 rfl rfl ?_
      refine g_aload_n k 0 dX1_ringEnd_32 rfl rfl ?_
      refine g_get k cfX1 0 0 dX1_ringEnd_33 lkX1_12 (by decide) rfl rfl ?_
      refine g_aload_n k 1 dX1_ringEnd_36 rfl rfl ?_
      refine g_aload_n k 0 dX1_ringEnd_37 rfl rfl ?_
      refine g_get k cfX1 0 0 dX1_ringEnd_38 lkX1_12 (by decide) rfl rfl ?_
      obtain ⟨o6, ho7, hf⟩ := bnd_some hf
      refine g_cv k miX0_mostRocking mvX0_mostRocking (ctX0_mostRocking (kL K) E N a1 a1_kind a1_weight a1_now a0_then a0_then_ice a0_then_juice a0_then_fors va1_cells va1_people va1_sayings va1_frost va1_kind va1_weight va0_then_boat va0_then_minute va0_then_draw va0_then_juice va0_then_fors  o6 ho7) [6, 7, 8, 1, 3, 4] 0 (ws' := [(a0, oB 1 [.ref a0_then, .ref a0_marks]), (a0_then, oB 3 [.ref a0_then_ice, .ref a0_then_juice, .ref a0_then_fors, .int va0_then_boat, .int va0_then_minute, .int va0_then_draw]), (a0_then_ice, aI E 12 va0_then_ice), (a0_then_juice, aI E 5 va0_then_juice), (a0_then_fors, aI E 5 va0_then_fors), (a0_marks, aJ E 201 va0_marks), (a1, oB 0 [.ref a1_kind, .ref a1_weight, .ref a1_now, .int va1_cells, .int va1_people, .int va1_sayings, .int va1_frost]), (a1_kind, aI E 6 va1_kind), (a1_weight, aI E 6 va1_weight), (a1_now, oB 3 [.ref a1_now_ice, .ref a1_now_juice, .ref a1_now_fors, .int va1_now_boat, .int va1_now_minute, .int va1_now_draw]), (a1_now_ice, aI E 12 va1_now_ice), (a1_now_juice, aI E 5 va1_now_juice), (a1_now_fors, aI E 5 va1_now_fors)]) dX1_ringEnd_41 lkX1_31 rfl ⟨rfl, rfl⟩ ⟨by decide, by decide⟩ rfl rfl rfl rfl (Nat.le_of_ble_eq_true rfl) rfl rfl rfl ?_
      refine g_st (st' := [.int o6, .ref a0_then, .ref a1]) rfl ?_
      obtain ⟨o8, ho9, hf⟩ := bnd_some hf
      refine g_cv k miX0_pass mvX0_pass (ctX0_pass (kL K) E N a1 a1_kind a1_weight a1_now a0_then a0_then_ice a0_then_juice a0_then_fors va1_cells va1_people va1_sayings va1_frost va1_kind va1_weight va0_then_boat va0_then_minute va0_then_draw va0_then_ice va0_then_juice va0_then_fors o6 o8 ho9) [6, 7, 8, 1, 2, 3, 4] 0 (ws' := [(a0, oB 1 [.ref a0_then, .ref a0_marks]), (a0_then, oB 3 [.ref a0_then_ice, .ref a0_then_juice, .ref a0_then_fors, .int o8.1, .int o8.2.1, .int va0_then_draw]), (a0_then_ice, aI E 12 o8.2.2.1), (a0_then_juice, aI E 5 o8.2.2.2), (a0_then_fors, aI E 5 va0_then_fors), (a0_marks, aJ E 201 va0_marks), (a1, oB 0 [.ref a1_kind, .ref a1_weight, .ref a1_now, .int va1_cells, .int va1_people, .int va1_sayings, .int va1_frost]), (a1_kind, aI E 6 va1_kind), (a1_weight, aI E 6 va1_weight), (a1_now, oB 3 [.ref a1_now_ice, .ref a1_now_juice, .ref a1_now_fors, .int va1_now_boat, .int va1_now_minute, .int va1_now_draw]), (a1_now_ice, aI E 12 va1_now_ice), (a1_now_juice, aI E 5 va1_now_juice), (a1_now_fors, aI E 5 va1_now_fors)]) dX1_ringEnd_44 lkX1_35 rfl ⟨rfl, rfl⟩ ⟨by decide, by decide⟩ rfl rfl rfl rfl (Nat.le_of_ble_eq_true rfl) rfl rfl rfl ?_
      refine g_st (st' := []) rfl ?_
      refine g_aload_n k 0 dX1_ringEnd_47 rfl rfl ?_
      refine g_get k cfX1 1 0 dX1_ringEnd_48 lkX1_18 (by decide) rfl rfl ?_
      refine g_iload_n k 2 dX1_ringEnd_51 rfl rfl ?_
      refine g_aload_n k 0 dX1_ringEnd_52 rfl rfl ?_
      refine g_aload_n k 1 dX1_ringEnd_53 rfl rfl ?_
      obtain ⟨o10, ho11, hf⟩ := bnd_some hf
      refine g_cv k miX1_mark mvX1_mark (ctX1_mark (kL K) E N a0 a0_then a0_marks a0_then_ice a0_then_juice a0_then_fors a1 a1_kind a1_weight a1_now o8.1 o8.2.1 va0_then_draw o8.2.2.1 o8.2.2.2 va1_cells va1_people va1_sayings va1_frost  o10 ho11) [0, 1, 2, 3, 6] 0 (ws' := [(a0, oB 1 [.ref a0_then, .ref a0_marks]), (a0_then, oB 3 [.ref a0_then_ice, .ref a0_then_juice, .ref a0_then_fors, .int o8.1, .int o8.2.1, .int va0_then_draw]), (a0_then_ice, aI E 12 o8.2.2.1), (a0_then_juice, aI E 5 o8.2.2.2), (a0_then_fors, aI E 5 va0_then_fors), (a0_marks, aJ E 201 va0_marks), (a1, oB 0 [.ref a1_kind, .ref a1_weight, .ref a1_now, .int va1_cells, .int va1_people, .int va1_sayings, .int va1_frost]), (a1_kind, aI E 6 va1_kind), (a1_weight, aI E 6 va1_weight), (a1_now, oB 3 [.ref a1_now_ice, .ref a1_now_juice, .ref a1_now_fors, .int va1_now_boat, .int va1_now_minute, .int va1_now_draw]), (a1_now_ice, aI E 12 va1_now_ice), (a1_now_juice, aI E 5 va1_now_juice), (a1_now_fors, aI E 5 va1_now_fors)]) dX1_ringEnd_54 lkX1_43 rfl ⟨rfl, rfl⟩ ⟨by decide, by decide⟩ rfl rfl rfl rfl (Nat.le_of_ble_eq_true rfl) rfl rfl rfl ?_
      refine g_st (st' := [.long o10, .int x2, .ref a0_marks]) rfl ?_
      obtain ⟨κ12, hκ12, hiκ12, heκ12, hf⟩ := ixb_some hf
      refine g_lastore k 5 (ws' := [(a0, oB 1 [.ref a0_then, .ref a0_marks]), (a0_then, oB 3 [.ref a0_then_ice, .ref a0_then_juice, .ref a0_then_fors, .int o8.1, .int o8.2.1, .int va0_then_draw]), (a0_then_ice, aI E 12 o8.2.2.1), (a0_then_juice, aI E 5 o8.2.2.2), (a0_then_fors, aI E 5 va0_then_fors), (a0_marks, aJ E 201 (vp_updL va0_marks κ12 o10)), (a1, oB 0 [.ref a1_kind, .ref a1_weight, .ref a1_now, .int va1_cells, .int va1_people, .int va1_sayings, .int va1_frost]), (a1_kind, aI E 6 va1_kind), (a1_weight, aI E 6 va1_weight), (a1_now, oB 3 [.ref a1_now_ice, .ref a1_now_juice, .ref a1_now_fors, .int va1_now_boat, .int va1_now_minute, .int va1_now_draw]), (a1_now_ice, aI E 12 va1_now_ice), (a1_now_juice, aI E 5 va1_now_juice), (a1_now_fors, aI E 5 va1_now_fors)]) dX1_ringEnd_57 rfl hiκ12 heκ12 rfl ?_
      refine g_aload_n k 0 dX1_ringEnd_58 rfl rfl ?_
      refine g_iload_n k 2 dX1_ringEnd_59 rfl rfl ?_
      obtain ⟨o13, ho14, hf⟩ := bnd_some hf
      refine g_cv k miX1_firstLike mvX1_firstLike (ctX1_firstLike (kL K) E N a0 a0_then a0_marks (vp_updL va0_marks κ12 o10) x2 o13 ho14) [0, 5] 0 (ws' := [(a0, oB 1 [.ref a0_then, .ref a0_marks]), (a0_then, oB 3 [.ref a0_then_ice, .ref a0_then_juice, .ref a0_then_fors, .int o8.1, .int o8.2.1, .int va0_then_draw]), (a0_then_ice, aI E 12 o8.2.2.1), (a0_then_juice, aI E 5 o8.2.2.2), (a0_then_fors, aI E 5 va0_then_fors), (a0_marks, aJ E 201 (vp_updL va0_marks κ12 o10)), (a1, oB 0 [.ref a1_kind, .ref a1_weight, .ref a1_now, .int va1_cells, .int va1_people, .int va1_sayings, .int va1_frost]), (a1_kind, aI E 6 va1_kind), (a1_weight, aI E 6 va1_weight), (a1_now, oB 3 [.ref a1_now_ice, .ref a1_now_juice, .ref a1_now_fors, .int va1_now_boat, .int va1_now_minute, .int va1_now_draw]), (a1_now_ice, aI E 12 va1_now_ice), (a1_now_juice, aI E 5 va1_now_juice), (a1_now_fors, aI E 5 va1_now_fors)]) dX1_ringEnd_60 lkX1_47 rfl ⟨rfl, rfl⟩ ⟨by decide, by decide⟩ rfl rfl rfl rfl (Nat.le_of_ble_eq_true rfl) rfl rfl rfl ?_
      refine g_st (st' := [.int o13]) rfl ?_
      refine g_iload_n k 2 dX1_ringEnd_63 rfl rfl ?_
      refine g_icmp_ge k (tgt := 69) dX1_ringEnd_64 (by decide) (fun c15 => ?_) (fun c15 => ?_)
      · replace hf := ite_t c15 hf
        refine g_iinc k (lv' := [(2, .int (x2 + 1)), (0, .ref a0), (1, .ref a1)]) 2 dX1_ringEnd_69 rfl (ii_1 _) (by decide) rfl ?_
        refine g_goto k (tgt := 24) dX1_ringEnd_72 (by decide) ?_
        refine g_lv [1, 2, 0] rfl ?_
        exact ih (x2 + 1) o8.1 o8.2.1 o8.2.2.1 o8.2.2.2 (vp_updL va0_marks κ12 o10) o hf hr hG
      · replace hf := ite_f c15 hf
        refine g_iload_n k 2 dX1_ringEnd_67 rfl rfl ?_
        obtain rfl := Option.some.inj hf
        obtain rfl := hr _ rfl
        exact g_iret k r dX1_ringEnd_68 ⟨rfl, rfl⟩
def fX1_ringEnd (N : Nat) (va0_then_boat : Int32) (va0_then_minute : Int32) (va0_then_draw : Int32) (va0_then_ice : Nat → Int32) (va0_then_juice : Nat → Int32) (va0_then_fors : Nat → Int32) (va0_marks : Nat → Int64) (va1_cells : Int32) (va1_people : Int32) (va1_sayings : Int32) (va1_frost : Int32) (va1_kind : Nat → Int32) (va1_weight : Nat → Int32) (va1_now_boat : Int32) (va1_now_minute : Int32) (va1_now_draw : Int32) (va1_now_ice : Nat → Int32) (va1_now_juice : Nat → Int32) (va1_now_fors : Nat → Int32)  : Option (Int32 × Int32 × Int32 × Int32 × (Nat → Int32) × (Nat → Int32) × (Nat → Int32) × (Nat → Int64)) :=
  bnd (fX3_take N va0_then_boat va0_then_minute va0_then_draw va0_then_ice va0_then_juice va0_then_fors va1_now_boat va1_now_minute va1_now_draw va1_now_ice va1_now_juice va1_now_fors) fun o1 =>
  bnd (fX1_mark N o1.1 o1.2.1 o1.2.2.2.1 o1.2.2.2.2.1 va1_cells va1_sayings) fun o3 =>
  bnd (fX1_ringEnd_L24 N o1.2.2.1 o1.2.2.2.2.2 va1_cells va1_people va1_sayings va1_frost va1_kind va1_weight N 1 o1.1 o1.2.1 o1.2.2.2.1 o1.2.2.2.2.1 (vp_updL va0_marks 0 o3)) fun o16 => lret o16 fun v18 =>
  some ((-4), v18.2.1, v18.2.2.1, o1.2.2.1, v18.2.2.2.1, v18.2.2.2.2.1, o1.2.2.2.2.2, v18.2.2.2.2.2)
set_option maxHeartbeats 4000000 in
set_option maxRecDepth 100000 in
theorem ctX1_ringEnd (l : Launch) (E : Ev) (N : Nat) (a0 : Nat) (a0_then : Nat) (a0_marks : Nat) (a0_then_ice : Nat) (a0_then_juice : Nat) (a0_then_fors : Nat) (a1 : Nat) (a1_kind : Nat) (a1_weight : Nat) (a1_now : Nat) (a1_now_ice : Nat) (a1_now_juice : Nat) (a1_now_fors : Nat) (va0_then_boat : Int32) (va0_then_minute : Int32) (va0_then_draw : Int32) (va0_then_ice : Nat → Int32) (va0_then_juice : Nat → Int32) (va0_then_fors : Nat → Int32) (va0_marks : Nat → Int64) (va1_cells : Int32) (va1_people : Int32) (va1_sayings : Int32) (va1_frost : Int32) (va1_kind : Nat → Int32) (va1_weight : Nat → Int32) (va1_now_boat : Int32) (va1_now_minute : Int32) (va1_now_draw : Int32) (va1_now_ice : Nat → Int32) (va1_now_juice : Nat → Int32) (va1_now_fors : Nat → Int32)  (out : Int32 × Int32 × Int32 × Int32 × (Nat → Int32) × (Nat → Int32) × (Nat → Int32) × (Nat → Int64)) (hf : fX1_ringEnd N va0_then_boat va0_then_minute va0_then_draw va0_then_ice va0_then_juice va0_then_fors va0_marks va1_cells va1_people va1_sayings va1_frost va1_kind va1_weight va1_now_boat va1_now_minute va1_now_draw va1_now_ice va1_now_juice va1_now_fors  = some out) : Ct l E yX1_ringEnd cX1_ringEnd 3 (some .int) rmX1_ringEnd [.ref a0, .ref a1] [(a0, oB 1 [.ref a0_then, .ref a0_marks]), (a0_then, oB 3 [.ref a0_then_ice, .ref a0_then_juice, .ref a0_then_fors, .int va0_then_boat, .int va0_then_minute, .int va0_then_draw]), (a0_then_ice, aI E 12 va0_then_ice), (a0_then_juice, aI E 5 va0_then_juice), (a0_then_fors, aI E 5 va0_then_fors), (a0_marks, aJ E 201 va0_marks), (a1, oB 0 [.ref a1_kind, .ref a1_weight, .ref a1_now, .int va1_cells, .int va1_people, .int va1_sayings, .int va1_frost]), (a1_kind, aI E 6 va1_kind), (a1_weight, aI E 6 va1_weight), (a1_now, oB 3 [.ref a1_now_ice, .ref a1_now_juice, .ref a1_now_fors, .int va1_now_boat, .int va1_now_minute, .int va1_now_draw]), (a1_now_ice, aI E 12 va1_now_ice), (a1_now_juice, aI E 5 va1_now_juice), (a1_now_fors, aI E 5 va1_now_fors)] (Pe (some (.int out.1)) [(a0, oB 1 [.ref a0_then, .ref a0_marks]), (a0_then, oB 3 [.ref a0_then_ice, .ref a0_then_juice, .ref a0_then_fors, .int out.2.1, .int out.2.2.1, .int out.2.2.2.1]), (a0_then_ice, aI E 12 out.2.2.2.2.1), (a0_then_juice, aI E 5 out.2.2.2.2.2.1), (a0_then_fors, aI E 5 out.2.2.2.2.2.2.1), (a0_marks, aJ E 201 out.2.2.2.2.2.2.2), (a1, oB 0 [.ref a1_kind, .ref a1_weight, .ref a1_now, .int va1_cells, .int va1_people, .int va1_sayings, .int va1_frost]), (a1_kind, aI E 6 va1_kind), (a1_weight, aI E 6 va1_weight), (a1_now, oB 3 [.ref a1_now_ice, .ref a1_now_juice, .ref a1_now_fors, .int va1_now_boat, .int va1_now_minute, .int va1_now_draw]), (a1_now_ice, aI E 12 va1_now_ice), (a1_now_juice, aI E 5 va1_now_juice), (a1_now_fors, aI E 5 va1_now_fors)]) := by
  refine Ct.of rfl (Nat.le_of_ble_eq_true rfl) (fun K hL k r hin => ?_)
  subst hL
  unfold fX1_ringEnd at hf
  show G E K 3 0 0 [(0, .ref a0), (1, .ref a1)] [] [(a0, oB 1 [.ref a0_then, .ref a0_marks]), (a0_then, oB 3 [.ref a0_then_ice, .ref a0_then_juice, .ref a0_then_fors, .int va0_then_boat, .int va0_then_minute, .int va0_then_draw]), (a0_then_ice, aI E 12 va0_then_ice), (a0_then_juice, aI E 5 va0_then_juice), (a0_then_fors, aI E 5 va0_then_fors), (a0_marks, aJ E 201 va0_marks), (a1, oB 0 [.ref a1_kind, .ref a1_weight, .ref a1_now, .int va1_cells, .int va1_people, .int va1_sayings, .int va1_frost]), (a1_kind, aI E 6 va1_kind), (a1_weight, aI E 6 va1_weight), (a1_now, oB 3 [.ref a1_now_ice, .ref a1_now_juice, .ref a1_now_fors, .int va1_now_boat, .int va1_now_minute, .int va1_now_draw]), (a1_now_ice, aI E 12 va1_now_ice), (a1_now_juice, aI E 5 va1_now_juice), (a1_now_fors, aI E 5 va1_now_fors)] 0
  refine g_aload_n k 0 dX1_ringEnd_0 rfl rfl ?_
  refine g_get k cfX1 0 0 dX1_ringEnd_1 lkX1_12 (by decide) rfl rfl ?_
  refine g_aload_n k 1 dX1_ringEnd_4 rfl rfl ?_
  refine g_get k cfX0 2 6 dX1_ringEnd_5 lkX1_22 (by decide) rfl rfl ?_
  obtain ⟨o1, ho2, hf⟩ := bnd_some hf
  refine g_cv k miX3_take mvX3_take (ctX3_take (kL K) E N a0_then a0_then_ice a0_then_juice a0_then_fors a1_now a1_now_ice a1_now_juice a1_now_fors va0_then_boat va0_then_minute va0_then_draw va0_then_ice va0_then_juice va0_then_fors va1_now_boat va1_now_minute va1_now_draw va1_now_ice va1_now_juice va1_now_fors  o1 ho2) [1, 2, 3, 4, 9, 10, 11, 12] 0 (ws' := [(a0, oB 1 [.ref a0_then, .ref a0_marks]), (a0_then, oB 3 [.ref a0_then_ice, .ref a0_then_juice, .ref a0_then_fors, .int o1.1, .int o1.2.1, .int o1.2.2.1]), (a0_then_ice, aI E 12 o1.2.2.2.1), (a0_then_juice, aI E 5 o1.2.2.2.2.1), (a0_then_fors, aI E 5 o1.2.2.2.2.2), (a0_marks, aJ E 201 va0_marks), (a1, oB 0 [.ref a1_kind, .ref a1_weight, .ref a1_now, .int va1_cells, .int va1_people, .int va1_sayings, .int va1_frost]), (a1_kind, aI E 6 va1_kind), (a1_weight, aI E 6 va1_weight), (a1_now, oB 3 [.ref a1_now_ice, .ref a1_now_juice, .ref a1_now_fors, .int va1_now_boat, .int va1_now_minute, .int va1_now_draw]), (a1_now_ice, aI E 12 va1_now_ice), (a1_now_juice, aI E 5 va1_now_juice), (a1_now_fors, aI E 5 va1_now_fors)]) dX1_ringEnd_8 lkX1_27 rfl ⟨rfl, rfl⟩ ⟨by decide, by decide⟩ rfl rfl rfl rfl (Nat.le_of_ble_eq_true rfl) rfl rfl rfl ?_
  refine g_st (st' := []) rfl ?_
  refine g_aload_n k 0 dX1_ringEnd_11 rfl rfl ?_
  refine g_get k cfX1 1 0 dX1_ringEnd_12 lkX1_18 (by decide) rfl rfl ?_
  refine g_iconst k dX1_ringEnd_15 ic_0 ?_
  refine g_aload_n k 0 dX1_ringEnd_16 rfl rfl ?_
  refine g_aload_n k 1 dX1_ringEnd_17 rfl rfl ?_
  obtain ⟨o3, ho4, hf⟩ := bnd_some hf
  refine g_cv k miX1_mark mvX1_mark (ctX1_mark (kL K) E N a0 a0_then a0_marks a0_then_ice a0_then_juice a0_then_fors a1 a1_kind a1_weight a1_now o1.1 o1.2.1 o1.2.2.1 o1.2.2.2.1 o1.2.2.2.2.1 va1_cells va1_people va1_sayings va1_frost  o3 ho4) [0, 1, 2, 3, 6] 0 (ws' := [(a0, oB 1 [.ref a0_then, .ref a0_marks]), (a0_then, oB 3 [.ref a0_then_ice, .ref a0_then_juice, .ref a0_then_fors, .int o1.1, .int o1.2.1, .int o1.2.2.1]), (a0_then_ice, aI E 12 o1.2.2.2.1), (a0_then_juice, aI E 5 o1.2.2.2.2.1), (a0_then_fors, aI E 5 o1.2.2.2.2.2), (a0_marks, aJ E 201 va0_marks), (a1, oB 0 [.ref a1_kind, .ref a1_weight, .ref a1_now, .int va1_cells, .int va1_people, .int va1_sayings, .int va1_frost]), (a1_kind, aI E 6 va1_kind), (a1_weight, aI E 6 va1_weight), (a1_now, oB 3 [.ref a1_now_ice, .ref a1_now_juice, .ref a1_now_fors, .int va1_now_boat, .int va1_now_minute, .int va1_now_draw]), (a1_now_ice, aI E 12 va1_now_ice), (a1_now_juice, aI E 5 va1_now_juice), (a1_now_fors, aI E 5 va1_now_fors)]) dX1_ringEnd_18 lkX1_43 rfl ⟨rfl, rfl⟩ ⟨by decide, by decide⟩ rfl rfl rfl rfl (Nat.le_of_ble_eq_true rfl) rfl rfl rfl ?_
  refine g_st (st' := [.long o3, .int 0, .ref a0_marks]) rfl ?_
  refine g_lastore k 5 (ws' := [(a0, oB 1 [.ref a0_then, .ref a0_marks]), (a0_then, oB 3 [.ref a0_then_ice, .ref a0_then_juice, .ref a0_then_fors, .int o1.1, .int o1.2.1, .int o1.2.2.1]), (a0_then_ice, aI E 12 o1.2.2.2.1), (a0_then_juice, aI E 5 o1.2.2.2.2.1), (a0_then_fors, aI E 5 o1.2.2.2.2.2), (a0_marks, aJ E 201 (vp_updL va0_marks 0 o3)), (a1, oB 0 [.ref a1_kind, .ref a1_weight, .ref a1_now, .int va1_cells, .int va1_people, .int va1_sayings, .int va1_frost]), (a1_kind, aI E 6 va1_kind), (a1_weight, aI E 6 va1_weight), (a1_now, oB 3 [.ref a1_now_ice, .ref a1_now_juice, .ref a1_now_fors, .int va1_now_boat, .int va1_now_minute, .int va1_now_draw]), (a1_now_ice, aI E 12 va1_now_ice), (a1_now_juice, aI E 5 va1_now_juice), (a1_now_fors, aI E 5 va1_now_fors)]) dX1_ringEnd_21 rfl vi_0_201 cl_0 rfl ?_
  refine g_iconst k dX1_ringEnd_22 ic_1 ?_
  refine g_istore_n k (lv' := [(2, .int 1), (0, .ref a0), (1, .ref a1)]) dX1_ringEnd_23 rfl (by decide) rfl ?_
  obtain ⟨o16, ho17, hf⟩ := bnd_some hf
  refine g_lv [1, 2, 0] (lv' := [(0, .ref a0), (1, .ref a1), (2, .int 1)]) rfl ?_
  refine wX1_ringEnd_L24 k N a0 a0_then a0_marks a0_then_ice a0_then_juice a0_then_fors a1 a1_kind a1_weight a1_now a1_now_ice a1_now_juice a1_now_fors  o1.2.2.1 o1.2.2.2.2.2 va1_cells va1_people va1_sayings va1_frost va1_kind va1_weight va1_now_boat va1_now_minute va1_now_draw va1_now_ice va1_now_juice va1_now_fors r N 1 o1.1 o1.2.1 o1.2.2.2.1 o1.2.2.2.2.1 (vp_updL va0_marks 0 o3) o16 ho17 (fun w e => by subst e; exact Option.some.inj hf) (fun v18 e => ?_)
  subst e
  replace hf := lret_r hf
  refine g_bipush k dX1_ringEnd_75 bi_m4 ?_
  obtain rfl := Option.some.inj hf
  exact g_iret k r dX1_ringEnd_77 ⟨rfl, rfl⟩
abbrev rmX1_bestCrew : Room := { frames := 4, cells := 0, slots := 0, locals := 99 }
def fX1_bestCrew_L9 (N : Nat) (x2 : Int32) (x3 : Int32) (va1_people : Int32) (va1_kind : Nat → Int32) (va1_weight : Nat → Int32) (va1_now_minute : Int32) (va1_now_juice : Nat → Int32) (va1_now_fors : Nat → Int32) : Nat → Int32 → Int32 → Int32 → Option (Int32 × Int32 × Int32)
  | 0, _, _, _ => none
  | n + 1, x4, x5, x6 =>
    bnd (fX0_everybody N va1_people) fun o1 =>
    if o1 < x6 then
    some (x4, x5, x6)
    else
    bnd (fJ6_bitCount_0f7a4 N x6) fun o4 =>
    if o4 = x3 then
    bnd (fX0_crewRocks N va1_people va1_kind va1_weight va1_now_minute va1_now_juice va1_now_fors x2 x6) fun o7 =>
    if o7 ≤ x5 then
    fX1_bestCrew_L9 N x2 x3 va1_people va1_kind va1_weight va1_now_minute va1_now_juice va1_now_fors n x4 x5 (x6 + 1)
    else
    fX1_bestCrew_L9 N x2 x3 va1_people va1_kind va1_weight va1_now_minute va1_now_juice va1_now_fors n x6 o7 (x6 + 1)
    else
    fX1_bestCrew_L9 N x2 x3 va1_people va1_kind va1_weight va1_now_minute va1_now_juice va1_now_fors n x4 x5 (x6 + 1)
set_option maxHeartbeats 4000000 in
set_option maxRecDepth 100000 in
theorem wX1_bestCrew_L9 {E : Ev} {K : KX} (k : OKX E K cX1_bestCrew RX1 8 rmX1_bestCrew) (N : Nat) (a0 : Nat) (a0_then : Nat) (a0_marks : Nat) (a1 : Nat) (a1_kind : Nat) (a1_weight : Nat) (a1_now : Nat) (a1_now_ice : Nat) (a1_now_juice : Nat) (a1_now_fors : Nat) (x2 : Int32) (x3 : Int32) (va1_people : Int32) (va1_kind : Nat → Int32) (va1_weight : Nat → Int32) (va1_now_minute : Int32) (va1_now_juice : Nat → Int32) (va1_now_fors : Nat → Int32) (va1_cells : Int32) (va1_sayings : Int32) (va1_frost : Int32) (va1_now_boat : Int32) (va1_now_draw : Int32) : ∀ (n : Nat) (x4 : Int32) (x5 : Int32) (x6 : Int32) (o : Int32 × Int32 × Int32), fX1_bestCrew_L9 N x2 x3 va1_people va1_kind va1_weight va1_now_minute va1_now_juice va1_now_fors n x4 x5 x6 = some o → G E K 8 0 0 [(0, .ref a0), (1, .ref a1), (2, .int x2), (3, .int x3), (4, .int o.1), (5, .int o.2.1), (6, .int o.2.2)] [] [(a0, oB 1 [.ref a0_then, .ref a0_marks]), (a1, oB 0 [.ref a1_kind, .ref a1_weight, .ref a1_now, .int va1_cells, .int va1_people, .int va1_sayings, .int va1_frost]), (a1_kind, aI E 6 va1_kind), (a1_weight, aI E 6 va1_weight), (a1_now, oB 3 [.ref a1_now_ice, .ref a1_now_juice, .ref a1_now_fors, .int va1_now_boat, .int va1_now_minute, .int va1_now_draw]), (a1_now_juice, aI E 5 va1_now_juice), (a1_now_fors, aI E 5 va1_now_fors)] 57 → G E K 8 0 0 [(0, .ref a0), (1, .ref a1), (2, .int x2), (3, .int x3), (4, .int x4), (5, .int x5), (6, .int x6)] [] [(a0, oB 1 [.ref a0_then, .ref a0_marks]), (a1, oB 0 [.ref a1_kind, .ref a1_weight, .ref a1_now, .int va1_cells, .int va1_people, .int va1_sayings, .int va1_frost]), (a1_kind, aI E 6 va1_kind), (a1_weight, aI E 6 va1_weight), (a1_now, oB 3 [.ref a1_now_ice, .ref a1_now_juice, .ref a1_now_fors, .int va1_now_boat, .int va1_now_minute, .int va1_now_draw]), (a1_now_juice, aI E 5 va1_now_juice), (a1_now_fors, aI E 5 va1_now_fors)] 9 := by
  intro n
  induction n with
  | zero => intro x4 x5 x6 o hf; cases hf
  | succ n ih =>
    intro x4 x5 x6 o hf hG
    rw [fX1_bestCrew_L9] at hf
    refine g_iload k 6 dX1_bestCrew_9 rfl ?_
    refine g_aload_n k 1 dX1_bestCrew_11 rfl rfl ?_
    obtain ⟨o1, ho2, hf⟩ := bnd_some hf
    refine g_cv k miX0_everybody mvX0_everybody (ctX0_everybody (kL K) E N a1 a1_kind a1_weight a1_now va1_cells va1_people va1_sayings va1_frost  o1 ho2) [1] 0 (ws' := [(a0, oB 1 [.ref a0_then, .ref a0_marks]), (a1, oB 0 [.ref a1_kind, .ref a1_weight, .ref a1_now, .int va1_cells, .int va1_people, .int va1_sayings, .int va1_frost]), (a1_kind, aI E 6 va1_kind), (a1_weight, aI E 6 va1_weight), (a1_now, oB 3 [.ref a1_now_ice, .ref a1_now_juice, .ref a1_now_fors, .int va1_now_boat, .int va1_now_minute, .int va1_now_draw]), (a1_now_juice, aI E 5 va1_now_juice), (a1_now_fors, aI E 5 va1_now_fors)]) dX1_bestCrew_12 lkX1_75 rfl ⟨rfl, rfl⟩ ⟨by decide, by decide⟩ rfl rfl rfl rfl (Nat.le_of_ble_eq_true rfl) rfl rfl rfl ?_
    refine g_st (st' := [.int o1, .int x6]) rfl ?_
    refine g_icmp_gt k (tgt := 57) dX1_bestCrew_15 (by decide) (fun c3 => ?_) (fun c3 => ?_)
    · replace hf := ite_t c3 hf
      refine g_lv [0, 1, 2, 3, 4, 5, 6] rfl ?_
      obtain rfl := Option.some.inj hf
      exact hG
    · replace hf := ite_f c3 hf
      refine g_iload k 6 dX1_bestCrew_18 rfl ?_
      obtain ⟨o4, ho5, hf⟩ := bnd_some hf
      refine g_cs k miJ6_bitCount_0f7a4 msJ6_bitCount_0f7a4 (ctJ6_bitCount_0f7a4 (kL K) E N   x6 o4 ho5) [] (ws' := [(a0, oB 1 [.ref a0_then, .ref a0_marks]), (a1, oB 0 [.ref a1_kind, .ref a1_weight, .ref a1_now, .int va1_cells, .int va1_people, .int va1_sayings, .int va1_frost]), (a1_kind, aI E 6 va1_kind), (a1_weight, aI E 6 va1_weight), (a1_now, oB 3 [.ref a1_now_ice, .ref a1_now_juice, .ref a1_now_fors, .int va1_now_boat, .int va1_now_minute, .int va1_now_draw]), (a1_now_juice, aI E 5 va1_now_juice), (a1_now_fors, aI E 5 va1_now_fors)]) dX1_bestCrew_20 lkX1_79 rfl ⟨rfl, rfl⟩ ⟨by decide, by decide⟩ rfl rfl rfl (Nat.le_of_ble_eq_true rfl) rfl rfl rfl ?_
      refine g_st (st' := [.int o4]) rfl ?_
      refine g_iload_n k 3 dX1_bestCrew_23 rfl rfl ?_
      refine g_icmp_ne k (tgt := 51) dX1_bestCrew_24 (by decide) (fun c6 => ?_) (fun c6 => ?_)
      · replace hf := ite_f c6 hf
        refine g_iinc k (lv' := [(6, .int (x6 + 1)), (0, .ref a0), (1, .ref a1), (2, .int x2), (3, .int x3), (4, .int x4), (5, .int x5)]) 6 dX1_bestCrew_51 rfl (ii_1 _) (by decide) rfl ?_
        refine g_goto k (tgt := 9) dX1_bestCrew_54 (by decide) ?_
        refine g_lv [1, 2, 3, 4, 5, 6, 0] rfl ?_
        exact ih x4 x5 (x6 + 1) o hf hG
      · replace hf := ite_t c6 hf
        refine g_aload_n k 1 dX1_bestCrew_27 rfl rfl ?_
        refine g_iload_n k 2 dX1_bestCrew_28 rfl rfl ?_
        refine g_iload k 6 dX1_bestCrew_29 rfl ?_
        obtain ⟨o7, ho8, hf⟩ := bnd_some hf
        refine g_cv k miX0_crewRocks mvX0_crewRocks (ctX0_crewRocks (kL K) E N a1 a1_kind a1_weight a1_now a1_now_ice a1_now_juice a1_now_fors va1_cells va1_people va1_sayings va1_frost va1_kind va1_weight va1_now_boat va1_now_minute va1_now_draw va1_now_juice va1_now_fors x2 x6 o7 ho8) [1, 2, 3, 4, 5, 6] 0 (ws' := [(a0, oB 1 [.ref a0_then, .ref a0_marks]), (a1, oB 0 [.ref a1_kind, .ref a1_weight, .ref a1_now, .int va1_cells, .int va1_people, .int va1_sayings, .int va1_frost]), (a1_kind, aI E 6 va1_kind), (a1_weight, aI E 6 va1_weight), (a1_now, oB 3 [.ref a1_now_ice, .ref a1_now_juice, .ref a1_now_fors, .int va1_now_boat, .int va1_now_minute, .int va1_now_draw]), (a1_now_juice, aI E 5 va1_now_juice), (a1_now_fors, aI E 5 va1_now_fors)]) dX1_bestCrew_31 lkX1_84 rfl ⟨rfl, rfl⟩ ⟨by decide, by decide⟩ rfl rfl rfl rfl (Nat.le_of_ble_eq_true rfl) rfl rfl rfl ?_
        refine g_st (st' := [.int o7]) rfl ?_
        refine g_istore k (lv' := [(7, .int o7), (0, .ref a0), (1, .ref a1), (2, .int x2), (3, .int x3), (4, .int x4), (5, .int x5), (6, .int x6)]) dX1_bestCrew_34 (by decide) rfl ?_
        refine g_iload k 0 dX1_bestCrew_36 rfl ?_
        refine g_iload k 6 dX1_bestCrew_38 rfl ?_
        refine g_icmp_le k (tgt := 51) dX1_bestCrew_40 (by decide) (fun c9 => ?_) (fun c9 => ?_)
        · replace hf := ite_t c9 hf
          refine g_iinc k (lv' := [(6, .int (x6 + 1)), (7, .int o7), (0, .ref a0), (1, .ref a1), (2, .int x2), (3, .int x3), (4, .int x4), (5, .int x5)]) 7 dX1_bestCrew_51 rfl (ii_1 _) (by decide) rfl ?_
          refine g_goto k (tgt := 9) dX1_bestCrew_54 (by decide) ?_
          refine g_lv [2, 3, 4, 5, 6, 7, 0] rfl ?_
          exact ih x4 x5 (x6 + 1) o hf hG
        · replace hf := ite_f c9 hf
          refine g_iload k 7 dX1_bestCrew_43 rfl ?_
          refine g_istore k (lv' := [(4, .int x6), (7, .int o7), (0, .ref a0), (1, .ref a1), (2, .int x2), (3, .int x3), (5, .int x5), (6, .int x6)]) dX1_bestCrew_45 (by decide) rfl ?_
          refine g_iload k 1 dX1_bestCrew_47 rfl ?_
          refine g_istore k (lv' := [(5, .int o7), (4, .int x6), (7, .int o7), (0, .ref a0), (1, .ref a1), (2, .int x2), (3, .int x3), (6, .int x6)]) dX1_bestCrew_49 (by decide) rfl ?_
          refine g_iinc k (lv' := [(6, .int (x6 + 1)), (5, .int o7), (4, .int x6), (7, .int o7), (0, .ref a0), (1, .ref a1), (2, .int x2), (3, .int x3)]) 7 dX1_bestCrew_51 rfl (ii_1 _) (by decide) rfl ?_
          refine g_goto k (tgt := 9) dX1_bestCrew_54 (by decide) ?_
          refine g_lv [4, 5, 6, 7, 2, 1, 0] rfl ?_
          exact ih x6 o7 (x6 + 1) o hf hG
def fX1_bestCrew (N : Nat) (va1_people : Int32) (va1_kind : Nat → Int32) (va1_weight : Nat → Int32) (va1_now_minute : Int32) (va1_now_juice : Nat → Int32) (va1_now_fors : Nat → Int32) (x2 : Int32) (x3 : Int32) : Option (Int32) :=
  bnd (fX1_bestCrew_L9 N x2 x3 va1_people va1_kind va1_weight va1_now_minute va1_now_juice va1_now_fors N 0 (-1) 0) fun o10 =>
  some (o10.1)
set_option maxHeartbeats 4000000 in
set_option maxRecDepth 100000 in
theorem ctX1_bestCrew (l : Launch) (E : Ev) (N : Nat) (a0 : Nat) (a0_then : Nat) (a0_marks : Nat) (a1 : Nat) (a1_kind : Nat) (a1_weight : Nat) (a1_now : Nat) (a1_now_ice : Nat) (a1_now_juice : Nat) (a1_now_fors : Nat) (va1_cells : Int32) (va1_people : Int32) (va1_sayings : Int32) (va1_frost : Int32) (va1_kind : Nat → Int32) (va1_weight : Nat → Int32) (va1_now_boat : Int32) (va1_now_minute : Int32) (va1_now_draw : Int32) (va1_now_juice : Nat → Int32) (va1_now_fors : Nat → Int32) (x2 : Int32) (x3 : Int32) (out : Int32) (hf : fX1_bestCrew N va1_people va1_kind va1_weight va1_now_minute va1_now_juice va1_now_fors x2 x3 = some out) : Ct l E yX1_bestCrew cX1_bestCrew 8 (some .int) rmX1_bestCrew [.ref a0, .ref a1, .int x2, .int x3] [(a0, oB 1 [.ref a0_then, .ref a0_marks]), (a1, oB 0 [.ref a1_kind, .ref a1_weight, .ref a1_now, .int va1_cells, .int va1_people, .int va1_sayings, .int va1_frost]), (a1_kind, aI E 6 va1_kind), (a1_weight, aI E 6 va1_weight), (a1_now, oB 3 [.ref a1_now_ice, .ref a1_now_juice, .ref a1_now_fors, .int va1_now_boat, .int va1_now_minute, .int va1_now_draw]), (a1_now_juice, aI E 5 va1_now_juice), (a1_now_fors, aI E 5 va1_now_fors)] (Pe (some (.int out)) [(a0, oB 1 [.ref a0_then, .ref a0_marks]), (a1, oB 0 [.ref a1_kind, .ref a1_weight, .ref a1_now, .int va1_cells, .int va1_people, .int va1_sayings, .int va1_frost]), (a1_kind, aI E 6 va1_kind), (a1_weight, aI E 6 va1_weight), (a1_now, oB 3 [.ref a1_now_ice, .ref a1_now_juice, .ref a1_now_fors, .int va1_now_boat, .int va1_now_minute, .int va1_now_draw]), (a1_now_juice, aI E 5 va1_now_juice), (a1_now_fors, aI E 5 va1_now_fors)]) := by
  refine Ct.of rfl (Nat.le_of_ble_eq_true rfl) (fun K hL k r hin => ?_)
  subst hL
  unfold fX1_bestCrew at hf
  show G E K 8 0 0 [(0, .ref a0), (1, .ref a1), (2, .int x2), (3, .int x3)] [] [(a0, oB 1 [.ref a0_then, .ref a0_marks]), (a1, oB 0 [.ref a1_kind, .ref a1_weight, .ref a1_now, .int va1_cells, .int va1_people, .int va1_sayings, .int va1_frost]), (a1_kind, aI E 6 va1_kind), (a1_weight, aI E 6 va1_weight), (a1_now, oB 3 [.ref a1_now_ice, .ref a1_now_juice, .ref a1_now_fors, .int va1_now_boat, .int va1_now_minute, .int va1_now_draw]), (a1_now_juice, aI E 5 va1_now_juice), (a1_now_fors, aI E 5 va1_now_fors)] 0
  refine g_iconst k dX1_bestCrew_0 ic_0 ?_
  refine g_istore k (lv' := [(4, .int 0), (0, .ref a0), (1, .ref a1), (2, .int x2), (3, .int x3)]) dX1_bestCrew_1 (by decide) rfl ?_
  refine g_iconst k dX1_bestCrew_3 ic_m1 ?_
  refine g_istore k (lv' := [(5, .int (-1)), (4, .int 0), (0, .ref a0), (1, .ref a1), (2, .int x2), (3, .int x3)]) dX1_bestCrew_4 (by decide) rfl ?_
  refine g_iconst k dX1_bestCrew_6 ic_0 ?_
  refine g_istore k (lv' := [(6, .int 0), (5, .int (-1)), (4, .int 0), (0, .ref a0), (1, .ref a1), (2, .int x2), (3, .int x3)]) dX1_bestCrew_7 (by decide) rfl ?_
  obtain ⟨o10, ho11, hf⟩ := bnd_some hf
  refine g_lv [3, 4, 5, 6, 2, 1, 0] (lv' := [(0, .ref a0), (1, .ref a1), (2, .int x2), (3, .int x3), (4, .int 0), (5, .int (-1)), (6, .int 0)]) rfl ?_
  refine wX1_bestCrew_L9 k N a0 a0_then a0_marks a1 a1_kind a1_weight a1_now a1_now_ice a1_now_juice a1_now_fors  x2 x3 va1_people va1_kind va1_weight va1_now_minute va1_now_juice va1_now_fors va1_cells va1_sayings va1_frost va1_now_boat va1_now_draw N 0 (-1) 0 o10 ho11 ?_
  refine g_iload k 4 dX1_bestCrew_57 rfl ?_
  obtain rfl := Option.some.inj hf
  exact g_iret k r dX1_bestCrew_59 ⟨rfl, rfl⟩
abbrev rmX1_bestMind : Room := { frames := 4, cells := 0, slots := 0, locals := 99 }
def fX1_bestMind_L17 (N : Nat) (x2 : Int32) (va1_people : Int32) (va1_kind : Nat → Int32) (va1_weight : Nat → Int32) (va1_now_minute : Int32) (va1_now_juice : Nat → Int32) (va1_now_fors : Nat → Int32) : Nat → Int32 → Int32 → Int32 → Option (Int32 × Int32 × Int32)
  | 0, _, _, _ => none
  | n + 1, x3, x4, x5 =>
    if va1_people ≤ x5 then
    some (x3, x4, x5)
    else
    bnd (fX0_swayedRocks N va1_people va1_kind va1_weight va1_now_minute va1_now_juice va1_now_fors x2 (1 <<< (x5 &&& 31))) fun o4 =>
    if o4 ≤ x4 then
    fX1_bestMind_L17 N x2 va1_people va1_kind va1_weight va1_now_minute va1_now_juice va1_now_fors n x3 x4 (x5 + 1)
    else
    fX1_bestMind_L17 N x2 va1_people va1_kind va1_weight va1_now_minute va1_now_juice va1_now_fors n x5 o4 (x5 + 1)
set_option maxHeartbeats 4000000 in
set_option maxRecDepth 100000 in
theorem wX1_bestMind_L17 {E : Ev} {K : KX} (k : OKX E K cX1_bestMind RX1 7 rmX1_bestMind) (N : Nat) (a0 : Nat) (a0_then : Nat) (a0_marks : Nat) (a1 : Nat) (a1_kind : Nat) (a1_weight : Nat) (a1_now : Nat) (a1_now_ice : Nat) (a1_now_juice : Nat) (a1_now_fors : Nat) (x2 : Int32) (va1_people : Int32) (va1_kind : Nat → Int32) (va1_weight : Nat → Int32) (va1_now_minute : Int32) (va1_now_juice : Nat → Int32) (va1_now_fors : Nat → Int32) (va1_cells : Int32) (va1_sayings : Int32) (va1_frost : Int32) (va1_now_boat : Int32) (va1_now_draw : Int32) : ∀ (n : Nat) (x3 : Int32) (x4 : Int32) (x5 : Int32) (o : Int32 × Int32 × Int32), fX1_bestMind_L17 N x2 va1_people va1_kind va1_weight va1_now_minute va1_now_juice va1_now_fors n x3 x4 x5 = some o → G E K 7 0 0 [(0, .ref a0), (1, .ref a1), (2, .int x2), (3, .int o.1), (4, .int o.2.1), (5, .int o.2.2)] [] [(a0, oB 1 [.ref a0_then, .ref a0_marks]), (a1, oB 0 [.ref a1_kind, .ref a1_weight, .ref a1_now, .int va1_cells, .int va1_people, .int va1_sayings, .int va1_frost]), (a1_kind, aI E 6 va1_kind), (a1_weight, aI E 6 va1_weight), (a1_now, oB 3 [.ref a1_now_ice, .ref a1_now_juice, .ref a1_now_fors, .int va1_now_boat, .int va1_now_minute, .int va1_now_draw]), (a1_now_juice, aI E 5 va1_now_juice), (a1_now_fors, aI E 5 va1_now_fors)] 57 → G E K 7 0 0 [(0, .ref a0), (1, .ref a1), (2, .int x2), (3, .int x3), (4, .int x4), (5, .int x5)] [] [(a0, oB 1 [.ref a0_then, .ref a0_marks]), (a1, oB 0 [.ref a1_kind, .ref a1_weight, .ref a1_now, .int va1_cells, .int va1_people, .int va1_sayings, .int va1_frost]), (a1_kind, aI E 6 va1_kind), (a1_weight, aI E 6 va1_weight), (a1_now, oB 3 [.ref a1_now_ice, .ref a1_now_juice, .ref a1_now_fors, .int va1_now_boat, .int va1_now_minute, .int va1_now_draw]), (a1_now_juice, aI E 5 va1_now_juice), (a1_now_fors, aI E 5 va1_now_fors)] 17 := by
  intro n
  induction n with
  | zero => intro x3 x4 x5 o hf; cases hf
  | succ n ih =>
    intro x3 x4 x5 o hf hG
    rw [fX1_bestMind_L17] at hf
    refine g_iload k 5 dX1_bestMind_17 rfl ?_
    refine g_aload_n k 1 dX1_bestMind_19 rfl rfl ?_
    refine g_get k cfX0 4 1 dX1_bestMind_20 lkX1_92 (by decide) rfl rfl ?_
    refine g_icmp_ge k (tgt := 57) dX1_bestMind_23 (by decide) (fun c3 => ?_) (fun c3 => ?_)
    · replace hf := ite_t c3 hf
      refine g_lv [0, 1, 2, 3, 4, 5] rfl ?_
      obtain rfl := Option.some.inj hf
      exact hG
    · replace hf := ite_f c3 hf
      refine g_aload_n k 1 dX1_bestMind_26 rfl rfl ?_
      refine g_iload_n k 2 dX1_bestMind_27 rfl rfl ?_
      refine g_iconst k dX1_bestMind_28 ic_1 ?_
      refine g_iload k 5 dX1_bestMind_29 rfl ?_
      refine g_ishl k dX1_bestMind_31 ?_
      obtain ⟨o4, ho5, hf⟩ := bnd_some hf
      refine g_cv k miX0_swayedRocks mvX0_swayedRocks (ctX0_swayedRocks (kL K) E N a1 a1_kind a1_weight a1_now a1_now_ice a1_now_juice a1_now_fors va1_cells va1_people va1_sayings va1_frost va1_kind va1_weight va1_now_boat va1_now_minute va1_now_draw va1_now_juice va1_now_fors x2 (1 <<< (x5 &&& 31)) o4 ho5) [1, 2, 3, 4, 5, 6] 0 (ws' := [(a0, oB 1 [.ref a0_then, .ref a0_marks]), (a1, oB 0 [.ref a1_kind, .ref a1_weight, .ref a1_now, .int va1_cells, .int va1_people, .int va1_sayings, .int va1_frost]), (a1_kind, aI E 6 va1_kind), (a1_weight, aI E 6 va1_weight), (a1_now, oB 3 [.ref a1_now_ice, .ref a1_now_juice, .ref a1_now_fors, .int va1_now_boat, .int va1_now_minute, .int va1_now_draw]), (a1_now_juice, aI E 5 va1_now_juice), (a1_now_fors, aI E 5 va1_now_fors)]) dX1_bestMind_32 lkX1_95 rfl ⟨rfl, rfl⟩ ⟨by decide, by decide⟩ rfl rfl rfl rfl (Nat.le_of_ble_eq_true rfl) rfl rfl rfl ?_
      refine g_st (st' := [.int o4]) rfl ?_
      refine g_istore k (lv' := [(6, .int o4), (0, .ref a0), (1, .ref a1), (2, .int x2), (3, .int x3), (4, .int x4), (5, .int x5)]) dX1_bestMind_35 (by decide) rfl ?_
      refine g_iload k 0 dX1_bestMind_37 rfl ?_
      refine g_iload k 5 dX1_bestMind_39 rfl ?_
      refine g_icmp_le k (tgt := 51) dX1_bestMind_41 (by decide) (fun c6 => ?_) (fun c6 => ?_)
      · replace hf := ite_t c6 hf
        refine g_iinc k (lv' := [(5, .int (x5 + 1)), (6, .int o4), (0, .ref a0), (1, .ref a1), (2, .int x2), (3, .int x3), (4, .int x4)]) 6 dX1_bestMind_51 rfl (ii_1 _) (by decide) rfl ?_
        refine g_goto k (tgt := 17) dX1_bestMind_54 (by decide) ?_
        refine g_lv [2, 3, 4, 5, 6, 0] rfl ?_
        exact ih x3 x4 (x5 + 1) o hf hG
      · replace hf := ite_f c6 hf
        refine g_iload k 6 dX1_bestMind_44 rfl ?_
        refine g_istore_n k (lv' := [(3, .int x5), (6, .int o4), (0, .ref a0), (1, .ref a1), (2, .int x2), (4, .int x4), (5, .int x5)]) dX1_bestMind_46 rfl (by decide) rfl ?_
        refine g_iload k 1 dX1_bestMind_47 rfl ?_
        refine g_istore k (lv' := [(4, .int o4), (3, .int x5), (6, .int o4), (0, .ref a0), (1, .ref a1), (2, .int x2), (5, .int x5)]) dX1_bestMind_49 (by decide) rfl ?_
        refine g_iinc k (lv' := [(5, .int (x5 + 1)), (4, .int o4), (3, .int x5), (6, .int o4), (0, .ref a0), (1, .ref a1), (2, .int x2)]) 6 dX1_bestMind_51 rfl (ii_1 _) (by decide) rfl ?_
        refine g_goto k (tgt := 17) dX1_bestMind_54 (by decide) ?_
        refine g_lv [4, 5, 6, 2, 1, 0] rfl ?_
        exact ih x5 o4 (x5 + 1) o hf hG
def fX1_bestMind (N : Nat) (va1_people : Int32) (va1_kind : Nat → Int32) (va1_weight : Nat → Int32) (va1_now_minute : Int32) (va1_now_juice : Nat → Int32) (va1_now_fors : Nat → Int32) (x2 : Int32) : Option (Int32) :=
  bnd (fX0_sayingRocks N va1_people va1_kind va1_weight va1_now_minute va1_now_juice va1_now_fors x2) fun o1 =>
  bnd (fX1_bestMind_L17 N x2 va1_people va1_kind va1_weight va1_now_minute va1_now_juice va1_now_fors N (-4) o1 0) fun o7 =>
  some (o7.1)
set_option maxHeartbeats 4000000 in
set_option maxRecDepth 100000 in
theorem ctX1_bestMind (l : Launch) (E : Ev) (N : Nat) (a0 : Nat) (a0_then : Nat) (a0_marks : Nat) (a1 : Nat) (a1_kind : Nat) (a1_weight : Nat) (a1_now : Nat) (a1_now_ice : Nat) (a1_now_juice : Nat) (a1_now_fors : Nat) (va1_cells : Int32) (va1_people : Int32) (va1_sayings : Int32) (va1_frost : Int32) (va1_kind : Nat → Int32) (va1_weight : Nat → Int32) (va1_now_boat : Int32) (va1_now_minute : Int32) (va1_now_draw : Int32) (va1_now_juice : Nat → Int32) (va1_now_fors : Nat → Int32) (x2 : Int32) (out : Int32) (hf : fX1_bestMind N va1_people va1_kind va1_weight va1_now_minute va1_now_juice va1_now_fors x2 = some out) : Ct l E yX1_bestMind cX1_bestMind 7 (some .int) rmX1_bestMind [.ref a0, .ref a1, .int x2] [(a0, oB 1 [.ref a0_then, .ref a0_marks]), (a1, oB 0 [.ref a1_kind, .ref a1_weight, .ref a1_now, .int va1_cells, .int va1_people, .int va1_sayings, .int va1_frost]), (a1_kind, aI E 6 va1_kind), (a1_weight, aI E 6 va1_weight), (a1_now, oB 3 [.ref a1_now_ice, .ref a1_now_juice, .ref a1_now_fors, .int va1_now_boat, .int va1_now_minute, .int va1_now_draw]), (a1_now_juice, aI E 5 va1_now_juice), (a1_now_fors, aI E 5 va1_now_fors)] (Pe (some (.int out)) [(a0, oB 1 [.ref a0_then, .ref a0_marks]), (a1, oB 0 [.ref a1_kind, .ref a1_weight, .ref a1_now, .int va1_cells, .int va1_people, .int va1_sayings, .int va1_frost]), (a1_kind, aI E 6 va1_kind), (a1_weight, aI E 6 va1_weight), (a1_now, oB 3 [.ref a1_now_ice, .ref a1_now_juice, .ref a1_now_fors, .int va1_now_boat, .int va1_now_minute, .int va1_now_draw]), (a1_now_juice, aI E 5 va1_now_juice), (a1_now_fors, aI E 5 va1_now_fors)]) := by
  refine Ct.of rfl (Nat.le_of_ble_eq_true rfl) (fun K hL k r hin => ?_)
  subst hL
  unfold fX1_bestMind at hf
  show G E K 7 0 0 [(0, .ref a0), (1, .ref a1), (2, .int x2)] [] [(a0, oB 1 [.ref a0_then, .ref a0_marks]), (a1, oB 0 [.ref a1_kind, .ref a1_weight, .ref a1_now, .int va1_cells, .int va1_people, .int va1_sayings, .int va1_frost]), (a1_kind, aI E 6 va1_kind), (a1_weight, aI E 6 va1_weight), (a1_now, oB 3 [.ref a1_now_ice, .ref a1_now_juice, .ref a1_now_fors, .int va1_now_boat, .int va1_now_minute, .int va1_now_draw]), (a1_now_juice, aI E 5 va1_now_juice), (a1_now_fors, aI E 5 va1_now_fors)] 0
  refine g_bipush k dX1_bestMind_0 bi_m4 ?_
  refine g_istore_n k (lv' := [(3, .int (-4)), (0, .ref a0), (1, .ref a1), (2, .int x2)]) dX1_bestMind_2 rfl (by decide) rfl ?_
  refine g_aload_n k 2 dX1_bestMind_3 rfl rfl ?_
  refine g_aload_n k 2 dX1_bestMind_4 rfl rfl ?_
  refine g_get k cfX0 2 1 dX1_bestMind_5 lkX1_22 (by decide) rfl rfl ?_
  refine g_iload_n k 3 dX1_bestMind_8 rfl rfl ?_
  obtain ⟨o1, ho2, hf⟩ := bnd_some hf
  refine g_cv k miX0_sayingRocks mvX0_sayingRocks (ctX0_sayingRocks (kL K) E N a1 a1_kind a1_weight a1_now a1_now a1_now_ice a1_now_juice a1_now_fors va1_cells va1_people va1_sayings va1_frost va1_kind va1_weight va1_now_boat va1_now_minute va1_now_draw va1_now_juice va1_now_fors x2 o1 ho2) [1, 2, 3, 4, 5, 6] 0 (ws' := [(a0, oB 1 [.ref a0_then, .ref a0_marks]), (a1, oB 0 [.ref a1_kind, .ref a1_weight, .ref a1_now, .int va1_cells, .int va1_people, .int va1_sayings, .int va1_frost]), (a1_kind, aI E 6 va1_kind), (a1_weight, aI E 6 va1_weight), (a1_now, oB 3 [.ref a1_now_ice, .ref a1_now_juice, .ref a1_now_fors, .int va1_now_boat, .int va1_now_minute, .int va1_now_draw]), (a1_now_juice, aI E 5 va1_now_juice), (a1_now_fors, aI E 5 va1_now_fors)]) dX1_bestMind_9 lkX1_88 rfl ⟨rfl, rfl⟩ ⟨by decide, by decide⟩ rfl rfl rfl rfl (Nat.le_of_ble_eq_true rfl) rfl rfl rfl ?_
  refine g_st (st' := [.int o1]) rfl ?_
  refine g_istore k (lv' := [(4, .int o1), (3, .int (-4)), (0, .ref a0), (1, .ref a1), (2, .int x2)]) dX1_bestMind_12 (by decide) rfl ?_
  refine g_iconst k dX1_bestMind_14 ic_0 ?_
  refine g_istore k (lv' := [(5, .int 0), (4, .int o1), (3, .int (-4)), (0, .ref a0), (1, .ref a1), (2, .int x2)]) dX1_bestMind_15 (by decide) rfl ?_
  obtain ⟨o7, ho8, hf⟩ := bnd_some hf
  refine g_lv [3, 4, 5, 2, 1, 0] (lv' := [(0, .ref a0), (1, .ref a1), (2, .int x2), (3, .int (-4)), (4, .int o1), (5, .int 0)]) rfl ?_
  refine wX1_bestMind_L17 k N a0 a0_then a0_marks a1 a1_kind a1_weight a1_now a1_now_ice a1_now_juice a1_now_fors  x2 va1_people va1_kind va1_weight va1_now_minute va1_now_juice va1_now_fors va1_cells va1_sayings va1_frost va1_now_boat va1_now_draw N (-4) o1 0 o7 ho8 ?_
  refine g_iload_n k 3 dX1_bestMind_57 rfl rfl ?_
  obtain rfl := Option.some.inj hf
  exact g_iret k r dX1_bestMind_58 ⟨rfl, rfl⟩
abbrev rmX1_fewestMinds : Room := { frames := 4, cells := 0, slots := 0, locals := 99 }
def fX1_fewestMinds_L11 (N : Nat) (x2 : Int32) (x3 : Int32) (va1_people : Int32) (va1_kind : Nat → Int32) (va1_weight : Nat → Int32) (va1_now_minute : Int32) (va1_now_juice : Nat → Int32) (va1_now_fors : Nat → Int32) : Nat → Int32 → Int32 → Int32 → Option (Int32 × Int32 × Int32)
  | 0, _, _, _ => none
  | n + 1, x4, x5, x6 =>
    bnd (fX0_everybody N va1_people) fun o1 =>
    if o1 < x6 then
    some (x4, x5, x6)
    else
    bnd (fJ6_bitCount_0f7a4 N x6) fun o4 =>
    if x5 ≤ o4 then
    fX1_fewestMinds_L11 N x2 x3 va1_people va1_kind va1_weight va1_now_minute va1_now_juice va1_now_fors n x4 x5 (x6 + 1)
    else
    bnd (fX0_swayedRocks N va1_people va1_kind va1_weight va1_now_minute va1_now_juice va1_now_fors x2 x6) fun o7 =>
    if o7 < x3 then
    fX1_fewestMinds_L11 N x2 x3 va1_people va1_kind va1_weight va1_now_minute va1_now_juice va1_now_fors n x4 x5 (x6 + 1)
    else
    fX1_fewestMinds_L11 N x2 x3 va1_people va1_kind va1_weight va1_now_minute va1_now_juice va1_now_fors n x6 o4 (x6 + 1)
set_option maxHeartbeats 4000000 in
set_option maxRecDepth 100000 in
theorem wX1_fewestMinds_L11 {E : Ev} {K : KX} (k : OKX E K cX1_fewestMinds RX1 8 rmX1_fewestMinds) (N : Nat) (a0 : Nat) (a0_then : Nat) (a0_marks : Nat) (a1 : Nat) (a1_kind : Nat) (a1_weight : Nat) (a1_now : Nat) (a1_now_ice : Nat) (a1_now_juice : Nat) (a1_now_fors : Nat) (x2 : Int32) (x3 : Int32) (va1_people : Int32) (va1_kind : Nat → Int32) (va1_weight : Nat → Int32) (va1_now_minute : Int32) (va1_now_juice : Nat → Int32) (va1_now_fors : Nat → Int32) (va1_cells : Int32) (va1_sayings : Int32) (va1_frost : Int32) (va1_now_boat : Int32) (va1_now_draw : Int32) : ∀ (n : Nat) (x4 : Int32) (x5 : Int32) (x6 : Int32) (o : Int32 × Int32 × Int32), fX1_fewestMinds_L11 N x2 x3 va1_people va1_kind va1_weight va1_now_minute va1_now_juice va1_now_fors n x4 x5 x6 = some o → G E K 8 0 0 [(0, .ref a0), (1, .ref a1), (2, .int x2), (3, .int x3), (4, .int o.1), (5, .int o.2.1), (6, .int o.2.2)] [] [(a0, oB 1 [.ref a0_then, .ref a0_marks]), (a1, oB 0 [.ref a1_kind, .ref a1_weight, .ref a1_now, .int va1_cells, .int va1_people, .int va1_sayings, .int va1_frost]), (a1_kind, aI E 6 va1_kind), (a1_weight, aI E 6 va1_weight), (a1_now, oB 3 [.ref a1_now_ice, .ref a1_now_juice, .ref a1_now_fors, .int va1_now_boat, .int va1_now_minute, .int va1_now_draw]), (a1_now_juice, aI E 5 va1_now_juice), (a1_now_fors, aI E 5 va1_now_fors)] 59 → G E K 8 0 0 [(0, .ref a0), (1, .ref a1), (2, .int x2), (3, .int x3), (4, .int x4), (5, .int x5), (6, .int x6)] [] [(a0, oB 1 [.ref a0_then, .ref a0_marks]), (a1, oB 0 [.ref a1_kind, .ref a1_weight, .ref a1_now, .int va1_cells, .int va1_people, .int va1_sayings, .int va1_frost]), (a1_kind, aI E 6 va1_kind), (a1_weight, aI E 6 va1_weight), (a1_now, oB 3 [.ref a1_now_ice, .ref a1_now_juice, .ref a1_now_fors, .int va1_now_boat, .int va1_now_minute, .int va1_now_draw]), (a1_now_juice, aI E 5 va1_now_juice), (a1_now_fors, aI E 5 va1_now_fors)] 11 := by
  intro n
  induction n with
  | zero => intro x4 x5 x6 o hf; cases hf
  | succ n ih =>
    intro x4 x5 x6 o hf hG
    rw [fX1_fewestMinds_L11] at hf
    refine g_iload k 6 dX1_fewestMinds_11 rfl ?_
    refine g_aload_n k 1 dX1_fewestMinds_13 rfl rfl ?_
    obtain ⟨o1, ho2, hf⟩ := bnd_some hf
    refine g_cv k miX0_everybody mvX0_everybody (ctX0_everybody (kL K) E N a1 a1_kind a1_weight a1_now va1_cells va1_people va1_sayings va1_frost  o1 ho2) [1] 0 (ws' := [(a0, oB 1 [.ref a0_then, .ref a0_marks]), (a1, oB 0 [.ref a1_kind, .ref a1_weight, .ref a1_now, .int va1_cells, .int va1_people, .int va1_sayings, .int va1_frost]), (a1_kind, aI E 6 va1_kind), (a1_weight, aI E 6 va1_weight), (a1_now, oB 3 [.ref a1_now_ice, .ref a1_now_juice, .ref a1_now_fors, .int va1_now_boat, .int va1_now_minute, .int va1_now_draw]), (a1_now_juice, aI E 5 va1_now_juice), (a1_now_fors, aI E 5 va1_now_fors)]) dX1_fewestMinds_14 lkX1_75 rfl ⟨rfl, rfl⟩ ⟨by decide, by decide⟩ rfl rfl rfl rfl (Nat.le_of_ble_eq_true rfl) rfl rfl rfl ?_
    refine g_st (st' := [.int o1, .int x6]) rfl ?_
    refine g_icmp_gt k (tgt := 59) dX1_fewestMinds_17 (by decide) (fun c3 => ?_) (fun c3 => ?_)
    · replace hf := ite_t c3 hf
      refine g_lv [0, 1, 2, 3, 4, 5, 6] rfl ?_
      obtain rfl := Option.some.inj hf
      exact hG
    · replace hf := ite_f c3 hf
      refine g_iload k 6 dX1_fewestMinds_20 rfl ?_
      obtain ⟨o4, ho5, hf⟩ := bnd_some hf
      refine g_cs k miJ6_bitCount_0f7a4 msJ6_bitCount_0f7a4 (ctJ6_bitCount_0f7a4 (kL K) E N   x6 o4 ho5) [] (ws' := [(a0, oB 1 [.ref a0_then, .ref a0_marks]), (a1, oB 0 [.ref a1_kind, .ref a1_weight, .ref a1_now, .int va1_cells, .int va1_people, .int va1_sayings, .int va1_frost]), (a1_kind, aI E 6 va1_kind), (a1_weight, aI E 6 va1_weight), (a1_now, oB 3 [.ref a1_now_ice, .ref a1_now_juice, .ref a1_now_fors, .int va1_now_boat, .int va1_now_minute, .int va1_now_draw]), (a1_now_juice, aI E 5 va1_now_juice), (a1_now_fors, aI E 5 va1_now_fors)]) dX1_fewestMinds_22 lkX1_79 rfl ⟨rfl, rfl⟩ ⟨by decide, by decide⟩ rfl rfl rfl (Nat.le_of_ble_eq_true rfl) rfl rfl rfl ?_
      refine g_st (st' := [.int o4]) rfl ?_
      refine g_istore k (lv' := [(7, .int o4), (0, .ref a0), (1, .ref a1), (2, .int x2), (3, .int x3), (4, .int x4), (5, .int x5), (6, .int x6)]) dX1_fewestMinds_25 (by decide) rfl ?_
      refine g_iload k 0 dX1_fewestMinds_27 rfl ?_
      refine g_iload k 6 dX1_fewestMinds_29 rfl ?_
      refine g_icmp_ge k (tgt := 53) dX1_fewestMinds_31 (by decide) (fun c6 => ?_) (fun c6 => ?_)
      · replace hf := ite_t c6 hf
        refine g_iinc k (lv' := [(6, .int (x6 + 1)), (7, .int o4), (0, .ref a0), (1, .ref a1), (2, .int x2), (3, .int x3), (4, .int x4), (5, .int x5)]) 7 dX1_fewestMinds_53 rfl (ii_1 _) (by decide) rfl ?_
        refine g_goto k (tgt := 11) dX1_fewestMinds_56 (by decide) ?_
        refine g_lv [2, 3, 4, 5, 6, 7, 0] rfl ?_
        exact ih x4 x5 (x6 + 1) o hf hG
      · replace hf := ite_f c6 hf
        refine g_aload_n k 2 dX1_fewestMinds_34 rfl rfl ?_
        refine g_iload_n k 3 dX1_fewestMinds_35 rfl rfl ?_
        refine g_iload k 7 dX1_fewestMinds_36 rfl ?_
        obtain ⟨o7, ho8, hf⟩ := bnd_some hf
        refine g_cv k miX0_swayedRocks mvX0_swayedRocks (ctX0_swayedRocks (kL K) E N a1 a1_kind a1_weight a1_now a1_now_ice a1_now_juice a1_now_fors va1_cells va1_people va1_sayings va1_frost va1_kind va1_weight va1_now_boat va1_now_minute va1_now_draw va1_now_juice va1_now_fors x2 x6 o7 ho8) [1, 2, 3, 4, 5, 6] 0 (ws' := [(a0, oB 1 [.ref a0_then, .ref a0_marks]), (a1, oB 0 [.ref a1_kind, .ref a1_weight, .ref a1_now, .int va1_cells, .int va1_people, .int va1_sayings, .int va1_frost]), (a1_kind, aI E 6 va1_kind), (a1_weight, aI E 6 va1_weight), (a1_now, oB 3 [.ref a1_now_ice, .ref a1_now_juice, .ref a1_now_fors, .int va1_now_boat, .int va1_now_minute, .int va1_now_draw]), (a1_now_juice, aI E 5 va1_now_juice), (a1_now_fors, aI E 5 va1_now_fors)]) dX1_fewestMinds_38 lkX1_95 rfl ⟨rfl, rfl⟩ ⟨by decide, by decide⟩ rfl rfl rfl rfl (Nat.le_of_ble_eq_true rfl) rfl rfl rfl ?_
        refine g_st (st' := [.int o7]) rfl ?_
        refine g_iload_n k 4 dX1_fewestMinds_41 rfl rfl ?_
        refine g_icmp_lt k (tgt := 53) dX1_fewestMinds_42 (by decide) (fun c9 => ?_) (fun c9 => ?_)
        · replace hf := ite_t c9 hf
          refine g_iinc k (lv' := [(6, .int (x6 + 1)), (7, .int o4), (0, .ref a0), (1, .ref a1), (2, .int x2), (3, .int x3), (4, .int x4), (5, .int x5)]) 7 dX1_fewestMinds_53 rfl (ii_1 _) (by decide) rfl ?_
          refine g_goto k (tgt := 11) dX1_fewestMinds_56 (by decide) ?_
          refine g_lv [2, 3, 4, 5, 6, 7, 0] rfl ?_
          exact ih x4 x5 (x6 + 1) o hf hG
        · replace hf := ite_f c9 hf
          refine g_iload k 7 dX1_fewestMinds_45 rfl ?_
          refine g_istore k (lv' := [(4, .int x6), (7, .int o4), (0, .ref a0), (1, .ref a1), (2, .int x2), (3, .int x3), (5, .int x5), (6, .int x6)]) dX1_fewestMinds_47 (by decide) rfl ?_
          refine g_iload k 1 dX1_fewestMinds_49 rfl ?_
          refine g_istore k (lv' := [(5, .int o4), (4, .int x6), (7, .int o4), (0, .ref a0), (1, .ref a1), (2, .int x2), (3, .int x3), (6, .int x6)]) dX1_fewestMinds_51 (by decide) rfl ?_
          refine g_iinc k (lv' := [(6, .int (x6 + 1)), (5, .int o4), (4, .int x6), (7, .int o4), (0, .ref a0), (1, .ref a1), (2, .int x2), (3, .int x3)]) 7 dX1_fewestMinds_53 rfl (ii_1 _) (by decide) rfl ?_
          refine g_goto k (tgt := 11) dX1_fewestMinds_56 (by decide) ?_
          refine g_lv [4, 5, 6, 7, 2, 1, 0] rfl ?_
          exact ih x6 o4 (x6 + 1) o hf hG
def fX1_fewestMinds (N : Nat) (va1_people : Int32) (va1_kind : Nat → Int32) (va1_weight : Nat → Int32) (va1_now_minute : Int32) (va1_now_juice : Nat → Int32) (va1_now_fors : Nat → Int32) (x2 : Int32) (x3 : Int32) : Option (Int32) :=
  bnd (fX1_fewestMinds_L11 N x2 x3 va1_people va1_kind va1_weight va1_now_minute va1_now_juice va1_now_fors N (-4) 7 0) fun o10 =>
  some (o10.1)
set_option maxHeartbeats 4000000 in
set_option maxRecDepth 100000 in
theorem ctX1_fewestMinds (l : Launch) (E : Ev) (N : Nat) (a0 : Nat) (a0_then : Nat) (a0_marks : Nat) (a1 : Nat) (a1_kind : Nat) (a1_weight : Nat) (a1_now : Nat) (a1_now_ice : Nat) (a1_now_juice : Nat) (a1_now_fors : Nat) (va1_cells : Int32) (va1_people : Int32) (va1_sayings : Int32) (va1_frost : Int32) (va1_kind : Nat → Int32) (va1_weight : Nat → Int32) (va1_now_boat : Int32) (va1_now_minute : Int32) (va1_now_draw : Int32) (va1_now_juice : Nat → Int32) (va1_now_fors : Nat → Int32) (x2 : Int32) (x3 : Int32) (out : Int32) (hf : fX1_fewestMinds N va1_people va1_kind va1_weight va1_now_minute va1_now_juice va1_now_fors x2 x3 = some out) : Ct l E yX1_fewestMinds cX1_fewestMinds 8 (some .int) rmX1_fewestMinds [.ref a0, .ref a1, .int x2, .int x3] [(a0, oB 1 [.ref a0_then, .ref a0_marks]), (a1, oB 0 [.ref a1_kind, .ref a1_weight, .ref a1_now, .int va1_cells, .int va1_people, .int va1_sayings, .int va1_frost]), (a1_kind, aI E 6 va1_kind), (a1_weight, aI E 6 va1_weight), (a1_now, oB 3 [.ref a1_now_ice, .ref a1_now_juice, .ref a1_now_fors, .int va1_now_boat, .int va1_now_minute, .int va1_now_draw]), (a1_now_juice, aI E 5 va1_now_juice), (a1_now_fors, aI E 5 va1_now_fors)] (Pe (some (.int out)) [(a0, oB 1 [.ref a0_then, .ref a0_marks]), (a1, oB 0 [.ref a1_kind, .ref a1_weight, .ref a1_now, .int va1_cells, .int va1_people, .int va1_sayings, .int va1_frost]), (a1_kind, aI E 6 va1_kind), (a1_weight, aI E 6 va1_weight), (a1_now, oB 3 [.ref a1_now_ice, .ref a1_now_juice, .ref a1_now_fors, .int va1_now_boat, .int va1_now_minute, .int va1_now_draw]), (a1_now_juice, aI E 5 va1_now_juice), (a1_now_fors, aI E 5 va1_now_fors)]) := by
  refine Ct.of rfl (Nat.le_of_ble_eq_true rfl) (fun K hL k r hin => ?_)
  subst hL
  unfold fX1_fewestMinds at hf
  show G E K 8 0 0 [(0, .ref a0), (1, .ref a1), (2, .int x2), (3, .int x3)] [] [(a0, oB 1 [.ref a0_then, .ref a0_marks]), (a1, oB 0 [.ref a1_kind, .ref a1_weight, .ref a1_now, .int va1_cells, .int va1_people, .int va1_sayings, .int va1_frost]), (a1_kind, aI E 6 va1_kind), (a1_weight, aI E 6 va1_weight), (a1_now, oB 3 [.ref a1_now_ice, .ref a1_now_juice, .ref a1_now_fors, .int va1_now_boat, .int va1_now_minute, .int va1_now_draw]), (a1_now_juice, aI E 5 va1_now_juice), (a1_now_fors, aI E 5 va1_now_fors)] 0
  refine g_bipush k dX1_fewestMinds_0 bi_m4 ?_
  refine g_istore k (lv' := [(4, .int (-4)), (0, .ref a0), (1, .ref a1), (2, .int x2), (3, .int x3)]) dX1_fewestMinds_2 (by decide) rfl ?_
  refine g_bipush k dX1_fewestMinds_4 bi_7 ?_
  refine g_istore k (lv' := [(5, .int 7), (4, .int (-4)), (0, .ref a0), (1, .ref a1), (2, .int x2), (3, .int x3)]) dX1_fewestMinds_6 (by decide) rfl ?_
  refine g_iconst k dX1_fewestMinds_8 ic_0 ?_
  refine g_istore k (lv' := [(6, .int 0), (5, .int 7), (4, .int (-4)), (0, .ref a0), (1, .ref a1), (2, .int x2), (3, .int x3)]) dX1_fewestMinds_9 (by decide) rfl ?_
  obtain ⟨o10, ho11, hf⟩ := bnd_some hf
  refine g_lv [3, 4, 5, 6, 2, 1, 0] (lv' := [(0, .ref a0), (1, .ref a1), (2, .int x2), (3, .int x3), (4, .int (-4)), (5, .int 7), (6, .int 0)]) rfl ?_
  refine wX1_fewestMinds_L11 k N a0 a0_then a0_marks a1 a1_kind a1_weight a1_now a1_now_ice a1_now_juice a1_now_fors  x2 x3 va1_people va1_kind va1_weight va1_now_minute va1_now_juice va1_now_fors va1_cells va1_sayings va1_frost va1_now_boat va1_now_draw N (-4) 7 0 o10 ho11 ?_
  refine g_iload k 4 dX1_fewestMinds_59 rfl ?_
  obtain rfl := Option.some.inj hf
  exact g_iret k r dX1_fewestMinds_61 ⟨rfl, rfl⟩
abbrev rmX1_bestParting : Room := { frames := 5, cells := 0, slots := 0, locals := 123 }
def fX1_bestParting_L7 (N : Nat) (va1_people : Int32) (va1_sayings : Int32) (va1_kind : Nat → Int32) (va1_weight : Nat → Int32) (va1_now_minute : Int32) (va1_now_juice : Nat → Int32) (va1_now_fors : Nat → Int32) : Nat → Int32 → Int32 → Int32 → Option (Int32 × Int32 × Int32)
  | 0, _, _, _ => none
  | n + 1, x2, x3, x4 =>
    bnd (fX0_everybody N va1_people) fun o1 =>
    if o1 < x4 then
    some (x2, x3, x4)
    else
    bnd (fX0_partingRocks N va1_people va1_sayings va1_kind va1_weight va1_now_minute va1_now_juice va1_now_fors x4) fun o4 =>
    if o4 ≤ x3 then
    fX1_bestParting_L7 N va1_people va1_sayings va1_kind va1_weight va1_now_minute va1_now_juice va1_now_fors n x2 x3 (x4 + 1)
    else
    fX1_bestParting_L7 N va1_people va1_sayings va1_kind va1_weight va1_now_minute va1_now_juice va1_now_fors n x4 o4 (x4 + 1)
set_option maxHeartbeats 4000000 in
set_option maxRecDepth 100000 in
theorem wX1_bestParting_L7 {E : Ev} {K : KX} (k : OKX E K cX1_bestParting RX1 6 rmX1_bestParting) (N : Nat) (a0 : Nat) (a0_then : Nat) (a0_marks : Nat) (a1 : Nat) (a1_kind : Nat) (a1_weight : Nat) (a1_now : Nat) (a1_now_ice : Nat) (a1_now_juice : Nat) (a1_now_fors : Nat) (va1_people : Int32) (va1_sayings : Int32) (va1_kind : Nat → Int32) (va1_weight : Nat → Int32) (va1_now_minute : Int32) (va1_now_juice : Nat → Int32) (va1_now_fors : Nat → Int32) (va1_cells : Int32) (va1_frost : Int32) (va1_now_boat : Int32) (va1_now_draw : Int32) : ∀ (n : Nat) (x2 : Int32) (x3 : Int32) (x4 : Int32) (o : Int32 × Int32 × Int32), fX1_bestParting_L7 N va1_people va1_sayings va1_kind va1_weight va1_now_minute va1_now_juice va1_now_fors n x2 x3 x4 = some o → G E K 6 0 0 [(0, .ref a0), (1, .ref a1), (2, .int o.1), (3, .int o.2.1), (4, .int o.2.2)] [] [(a0, oB 1 [.ref a0_then, .ref a0_marks]), (a1, oB 0 [.ref a1_kind, .ref a1_weight, .ref a1_now, .int va1_cells, .int va1_people, .int va1_sayings, .int va1_frost]), (a1_kind, aI E 6 va1_kind), (a1_weight, aI E 6 va1_weight), (a1_now, oB 3 [.ref a1_now_ice, .ref a1_now_juice, .ref a1_now_fors, .int va1_now_boat, .int va1_now_minute, .int va1_now_draw]), (a1_now_juice, aI E 5 va1_now_juice), (a1_now_fors, aI E 5 va1_now_fors)] 42 → G E K 6 0 0 [(0, .ref a0), (1, .ref a1), (2, .int x2), (3, .int x3), (4, .int x4)] [] [(a0, oB 1 [.ref a0_then, .ref a0_marks]), (a1, oB 0 [.ref a1_kind, .ref a1_weight, .ref a1_now, .int va1_cells, .int va1_people, .int va1_sayings, .int va1_frost]), (a1_kind, aI E 6 va1_kind), (a1_weight, aI E 6 va1_weight), (a1_now, oB 3 [.ref a1_now_ice, .ref a1_now_juice, .ref a1_now_fors, .int va1_now_boat, .int va1_now_minute, .int va1_now_draw]), (a1_now_juice, aI E 5 va1_now_juice), (a1_now_fors, aI E 5 va1_now_fors)] 7 := by
  intro n
  induction n with
  | zero => intro x2 x3 x4 o hf; cases hf
  | succ n ih =>
    intro x2 x3 x4 o hf hG
    rw [fX1_bestParting_L7] at hf
    refine g_iload k 4 dX1_bestParting_7 rfl ?_
    refine g_aload_n k 1 dX1_bestParting_9 rfl rfl ?_
    obtain ⟨o1, ho2, hf⟩ := bnd_some hf
    refine g_cv k miX0_everybody mvX0_everybody (ctX0_everybody (kL K) E N a1 a1_kind a1_weight a1_now va1_cells va1_people va1_sayings va1_frost  o1 ho2) [1] 0 (ws' := [(a0, oB 1 [.ref a0_then, .ref a0_marks]), (a1, oB 0 [.ref a1_kind, .ref a1_weight, .ref a1_now, .int va1_cells, .int va1_people, .int va1_sayings, .int va1_frost]), (a1_kind, aI E 6 va1_kind), (a1_weight, aI E 6 va1_weight), (a1_now, oB 3 [.ref a1_now_ice, .ref a1_now_juice, .ref a1_now_fors, .int va1_now_boat, .int va1_now_minute, .int va1_now_draw]), (a1_now_juice, aI E 5 va1_now_juice), (a1_now_fors, aI E 5 va1_now_fors)]) dX1_bestParting_10 lkX1_75 rfl ⟨rfl, rfl⟩ ⟨by decide, by decide⟩ rfl rfl rfl rfl (Nat.le_of_ble_eq_true rfl) rfl rfl rfl ?_
    refine g_st (st' := [.int o1, .int x4]) rfl ?_
    refine g_icmp_gt k (tgt := 42) dX1_bestParting_13 (by decide) (fun c3 => ?_) (fun c3 => ?_)
    · replace hf := ite_t c3 hf
      refine g_lv [0, 1, 2, 3, 4] rfl ?_
      obtain rfl := Option.some.inj hf
      exact hG
    · replace hf := ite_f c3 hf
      refine g_aload_n k 1 dX1_bestParting_16 rfl rfl ?_
      refine g_iload k 4 dX1_bestParting_17 rfl ?_
      obtain ⟨o4, ho5, hf⟩ := bnd_some hf
      refine g_cv k miX0_partingRocks mvX0_partingRocks (ctX0_partingRocks (kL K) E N a1 a1_kind a1_weight a1_now a1_now_ice a1_now_juice a1_now_fors va1_cells va1_people va1_sayings va1_frost va1_kind va1_weight va1_now_boat va1_now_minute va1_now_draw va1_now_juice va1_now_fors x4 o4 ho5) [1, 2, 3, 4, 5, 6] 0 (ws' := [(a0, oB 1 [.ref a0_then, .ref a0_marks]), (a1, oB 0 [.ref a1_kind, .ref a1_weight, .ref a1_now, .int va1_cells, .int va1_people, .int va1_sayings, .int va1_frost]), (a1_kind, aI E 6 va1_kind), (a1_weight, aI E 6 va1_weight), (a1_now, oB 3 [.ref a1_now_ice, .ref a1_now_juice, .ref a1_now_fors, .int va1_now_boat, .int va1_now_minute, .int va1_now_draw]), (a1_now_juice, aI E 5 va1_now_juice), (a1_now_fors, aI E 5 va1_now_fors)]) dX1_bestParting_19 lkX1_98 rfl ⟨rfl, rfl⟩ ⟨by decide, by decide⟩ rfl rfl rfl rfl (Nat.le_of_ble_eq_true rfl) rfl rfl rfl ?_
      refine g_st (st' := [.int o4]) rfl ?_
      refine g_istore k (lv' := [(5, .int o4), (0, .ref a0), (1, .ref a1), (2, .int x2), (3, .int x3), (4, .int x4)]) dX1_bestParting_22 (by decide) rfl ?_
      refine g_iload k 0 dX1_bestParting_24 rfl ?_
      refine g_iload_n k 4 dX1_bestParting_26 rfl rfl ?_
      refine g_icmp_le k (tgt := 36) dX1_bestParting_27 (by decide) (fun c6 => ?_) (fun c6 => ?_)
      · replace hf := ite_t c6 hf
        refine g_iinc k (lv' := [(4, .int (x4 + 1)), (5, .int o4), (0, .ref a0), (1, .ref a1), (2, .int x2), (3, .int x3)]) 5 dX1_bestParting_36 rfl (ii_1 _) (by decide) rfl ?_
        refine g_goto k (tgt := 7) dX1_bestParting_39 (by decide) ?_
        refine g_lv [2, 3, 4, 5, 0] rfl ?_
        exact ih x2 x3 (x4 + 1) o hf hG
      · replace hf := ite_f c6 hf
        refine g_iload k 5 dX1_bestParting_30 rfl ?_
        refine g_istore_n k (lv' := [(2, .int x4), (5, .int o4), (0, .ref a0), (1, .ref a1), (3, .int x3), (4, .int x4)]) dX1_bestParting_32 rfl (by decide) rfl ?_
        refine g_iload k 1 dX1_bestParting_33 rfl ?_
        refine g_istore_n k (lv' := [(3, .int o4), (2, .int x4), (5, .int o4), (0, .ref a0), (1, .ref a1), (4, .int x4)]) dX1_bestParting_35 rfl (by decide) rfl ?_
        refine g_iinc k (lv' := [(4, .int (x4 + 1)), (3, .int o4), (2, .int x4), (5, .int o4), (0, .ref a0), (1, .ref a1)]) 5 dX1_bestParting_36 rfl (ii_1 _) (by decide) rfl ?_
        refine g_goto k (tgt := 7) dX1_bestParting_39 (by decide) ?_
        refine g_lv [4, 5, 2, 1, 0] rfl ?_
        exact ih x4 o4 (x4 + 1) o hf hG
def fX1_bestParting (N : Nat) (va1_people : Int32) (va1_sayings : Int32) (va1_kind : Nat → Int32) (va1_weight : Nat → Int32) (va1_now_minute : Int32) (va1_now_juice : Nat → Int32) (va1_now_fors : Nat → Int32)  : Option (Int32) :=
  bnd (fX1_bestParting_L7 N va1_people va1_sayings va1_kind va1_weight va1_now_minute va1_now_juice va1_now_fors N 0 (-1) 0) fun o7 =>
  some (o7.1)
set_option maxHeartbeats 4000000 in
set_option maxRecDepth 100000 in
theorem ctX1_bestParting (l : Launch) (E : Ev) (N : Nat) (a0 : Nat) (a0_then : Nat) (a0_marks : Nat) (a1 : Nat) (a1_kind : Nat) (a1_weight : Nat) (a1_now : Nat) (a1_now_ice : Nat) (a1_now_juice : Nat) (a1_now_fors : Nat) (va1_cells : Int32) (va1_people : Int32) (va1_sayings : Int32) (va1_frost : Int32) (va1_kind : Nat → Int32) (va1_weight : Nat → Int32) (va1_now_boat : Int32) (va1_now_minute : Int32) (va1_now_draw : Int32) (va1_now_juice : Nat → Int32) (va1_now_fors : Nat → Int32)  (out : Int32) (hf : fX1_bestParting N va1_people va1_sayings va1_kind va1_weight va1_now_minute va1_now_juice va1_now_fors  = some out) : Ct l E yX1_bestParting cX1_bestParting 6 (some .int) rmX1_bestParting [.ref a0, .ref a1] [(a0, oB 1 [.ref a0_then, .ref a0_marks]), (a1, oB 0 [.ref a1_kind, .ref a1_weight, .ref a1_now, .int va1_cells, .int va1_people, .int va1_sayings, .int va1_frost]), (a1_kind, aI E 6 va1_kind), (a1_weight, aI E 6 va1_weight), (a1_now, oB 3 [.ref a1_now_ice, .ref a1_now_juice, .ref a1_now_fors, .int va1_now_boat, .int va1_now_minute, .int va1_now_draw]), (a1_now_juice, aI E 5 va1_now_juice), (a1_now_fors, aI E 5 va1_now_fors)] (Pe (some (.int out)) [(a0, oB 1 [.ref a0_then, .ref a0_marks]), (a1, oB 0 [.ref a1_kind, .ref a1_weight, .ref a1_now, .int va1_cells, .int va1_people, .int va1_sayings, .int va1_frost]), (a1_kind, aI E 6 va1_kind), (a1_weight, aI E 6 va1_weight), (a1_now, oB 3 [.ref a1_now_ice, .ref a1_now_juice, .ref a1_now_fors, .int va1_now_boat, .int va1_now_minute, .int va1_now_draw]), (a1_now_juice, aI E 5 va1_now_juice), (a1_now_fors, aI E 5 va1_now_fors)]) := by
  refine Ct.of rfl (Nat.le_of_ble_eq_true rfl) (fun K hL k r hin => ?_)
  subst hL
  unfold fX1_bestParting at hf
  show G E K 6 0 0 [(0, .ref a0), (1, .ref a1)] [] [(a0, oB 1 [.ref a0_then, .ref a0_marks]), (a1, oB 0 [.ref a1_kind, .ref a1_weight, .ref a1_now, .int va1_cells, .int va1_people, .int va1_sayings, .int va1_frost]), (a1_kind, aI E 6 va1_kind), (a1_weight, aI E 6 va1_weight), (a1_now, oB 3 [.ref a1_now_ice, .ref a1_now_juice, .ref a1_now_fors, .int va1_now_boat, .int va1_now_minute, .int va1_now_draw]), (a1_now_juice, aI E 5 va1_now_juice), (a1_now_fors, aI E 5 va1_now_fors)] 0
  refine g_iconst k dX1_bestParting_0 ic_0 ?_
  refine g_istore_n k (lv' := [(2, .int 0), (0, .ref a0), (1, .ref a1)]) dX1_bestParting_1 rfl (by decide) rfl ?_
  refine g_iconst k dX1_bestParting_2 ic_m1 ?_
  refine g_istore_n k (lv' := [(3, .int (-1)), (2, .int 0), (0, .ref a0), (1, .ref a1)]) dX1_bestParting_3 rfl (by decide) rfl ?_
  refine g_iconst k dX1_bestParting_4 ic_0 ?_
  refine g_istore k (lv' := [(4, .int 0), (3, .int (-1)), (2, .int 0), (0, .ref a0), (1, .ref a1)]) dX1_bestParting_5 (by decide) rfl ?_
  obtain ⟨o7, ho8, hf⟩ := bnd_some hf
  refine g_lv [3, 4, 2, 1, 0] (lv' := [(0, .ref a0), (1, .ref a1), (2, .int 0), (3, .int (-1)), (4, .int 0)]) rfl ?_
  refine wX1_bestParting_L7 k N a0 a0_then a0_marks a1 a1_kind a1_weight a1_now a1_now_ice a1_now_juice a1_now_fors  va1_people va1_sayings va1_kind va1_weight va1_now_minute va1_now_juice va1_now_fors va1_cells va1_frost va1_now_boat va1_now_draw N 0 (-1) 0 o7 ho8 ?_
  refine g_iload_n k 2 dX1_bestParting_42 rfl rfl ?_
  obtain rfl := Option.some.inj hf
  exact g_iret k r dX1_bestParting_43 ⟨rfl, rfl⟩
abbrev rmX1_leastJuice : Room := { frames := 3, cells := 0, slots := 0, locals := 77 }
def fX1_leastJuice_L19 (N : Nat) (x2 : Int32) (va1_cells : Int32) (va1_people : Int32) (va1_kind : Nat → Int32) (va1_weight : Nat → Int32) (va1_now_boat : Int32) (va1_now_minute : Int32) (va1_now_ice : Nat → Int32) (va1_now_fors : Nat → Int32) : Nat → Int32 → Option ((Int32) ⊕ (Int32))
  | 0, _ => none
  | n + 1, x4 =>
    if 20 < x4 then
    some (.inr (x4))
    else
    ixb x2 5 fun κ5 =>
    bnd (fX0_everybody N va1_people) fun o6 =>
    bnd (fX3_isEven N va1_now_minute) fun o8 =>
    bnd (fX0_boatRocks N va1_people va1_kind va1_weight x4 (va1_now_fors κ5) o6 o8) fun o10 =>
    bnd (fX0_iceAhead N va1_cells va1_now_boat va1_now_ice) fun o12 =>
    if o10 < o12 then
    fX1_leastJuice_L19 N x2 va1_cells va1_people va1_kind va1_weight va1_now_boat va1_now_minute va1_now_ice va1_now_fors n (x4 + 1)
    else
    some (.inl (x4))
set_option maxHeartbeats 4000000 in
set_option maxRecDepth 100000 in
theorem wX1_leastJuice_L19 {E : Ev} {K : KX} (k : OKX E K cX1_leastJuice RX1 6 rmX1_leastJuice) (N : Nat) (a0 : Nat) (a0_then : Nat) (a0_marks : Nat) (a1 : Nat) (a1_kind : Nat) (a1_weight : Nat) (a1_now : Nat) (a1_now_ice : Nat) (a1_now_juice : Nat) (a1_now_fors : Nat) (x2 : Int32) (va1_cells : Int32) (va1_people : Int32) (va1_kind : Nat → Int32) (va1_weight : Nat → Int32) (va1_now_boat : Int32) (va1_now_minute : Int32) (va1_now_ice : Nat → Int32) (va1_now_fors : Nat → Int32) (va1_sayings : Int32) (va1_frost : Int32) (va1_now_draw : Int32) {out : Int32} (r : RTX E K 0 0 (some .int) (Pe (some (.int out)) [(a0, oB 1 [.ref a0_then, .ref a0_marks]), (a1, oB 0 [.ref a1_kind, .ref a1_weight, .ref a1_now, .int va1_cells, .int va1_people, .int va1_sayings, .int va1_frost]), (a1_kind, aI E 6 va1_kind), (a1_weight, aI E 6 va1_weight), (a1_now, oB 3 [.ref a1_now_ice, .ref a1_now_juice, .ref a1_now_fors, .int va1_now_boat, .int va1_now_minute, .int va1_now_draw]), (a1_now_ice, aI E 12 va1_now_ice), (a1_now_fors, aI E 5 va1_now_fors)])) : ∀ (n : Nat) (x4 : Int32) (o : (Int32) ⊕ (Int32)), fX1_leastJuice_L19 N x2 va1_cells va1_people va1_kind va1_weight va1_now_boat va1_now_minute va1_now_ice va1_now_fors n x4 = some o → (∀ w, o = .inl w → w = out) → (∀ v, o = .inr v → G E K 6 0 0 [(0, .ref a0), (1, .ref a1), (2, .int x2), (3, .ref a1_now), (4, .int v)] [] [(a0, oB 1 [.ref a0_then, .ref a0_marks]), (a1, oB 0 [.ref a1_kind, .ref a1_weight, .ref a1_now, .int va1_cells, .int va1_people, .int va1_sayings, .int va1_frost]), (a1_kind, aI E 6 va1_kind), (a1_weight, aI E 6 va1_weight), (a1_now, oB 3 [.ref a1_now_ice, .ref a1_now_juice, .ref a1_now_fors, .int va1_now_boat, .int va1_now_minute, .int va1_now_draw]), (a1_now_ice, aI E 12 va1_now_ice), (a1_now_fors, aI E 5 va1_now_fors)] 67) → G E K 6 0 0 [(0, .ref a0), (1, .ref a1), (2, .int x2), (3, .ref a1_now), (4, .int x4)] [] [(a0, oB 1 [.ref a0_then, .ref a0_marks]), (a1, oB 0 [.ref a1_kind, .ref a1_weight, .ref a1_now, .int va1_cells, .int va1_people, .int va1_sayings, .int va1_frost]), (a1_kind, aI E 6 va1_kind), (a1_weight, aI E 6 va1_weight), (a1_now, oB 3 [.ref a1_now_ice, .ref a1_now_juice, .ref a1_now_fors, .int va1_now_boat, .int va1_now_minute, .int va1_now_draw]), (a1_now_ice, aI E 12 va1_now_ice), (a1_now_fors, aI E 5 va1_now_fors)] 19 := by
  intro n
  induction n with
  | zero => intro x4 o hf; cases hf
  | succ n ih =>
    intro x4 o hf hr hG
    rw [fX1_leastJuice_L19] at hf
    refine g_iload k 4 dX1_leastJuice_19 rfl ?_
    refine g_bipush k dX1_leastJuice_21 bi_20 ?_
    refine g_icmp_gt k (tgt := 67) dX1_leastJuice_23 (by decide) (fun c4 => ?_) (fun c4 => ?_)
    · replace hf := ite_t c4 hf
      refine g_lv [0, 1, 2, 3, 4] rfl ?_
      obtain rfl := Option.some.inj hf
      exact hG _ rfl
    · replace hf := ite_f c4 hf
      refine g_aload_n k 1 dX1_leastJuice_26 rfl rfl ?_
      refine g_iload k 4 dX1_leastJuice_27 rfl ?_
      refine g_aload_n k 3 dX1_leastJuice_29 rfl rfl ?_
      refine g_get k cfX3 2 4 dX1_leastJuice_30 lkX1_101 (by decide) rfl rfl ?_
      refine g_iload_n k 2 dX1_leastJuice_33 rfl rfl ?_
      obtain ⟨κ5, hκ5, hiκ5, heκ5, hf⟩ := ixb_some hf
      refine g_iaload k 6 dX1_leastJuice_34 rfl hiκ5 heκ5 ?_
      refine g_aload_n k 1 dX1_leastJuice_35 rfl rfl ?_
      obtain ⟨o6, ho7, hf⟩ := bnd_some hf
      refine g_cv k miX0_everybody mvX0_everybody (ctX0_everybody (kL K) E N a1 a1_kind a1_weight a1_now va1_cells va1_people va1_sayings va1_frost  o6 ho7) [1] 0 (ws' := [(a0, oB 1 [.ref a0_then, .ref a0_marks]), (a1, oB 0 [.ref a1_kind, .ref a1_weight, .ref a1_now, .int va1_cells, .int va1_people, .int va1_sayings, .int va1_frost]), (a1_kind, aI E 6 va1_kind), (a1_weight, aI E 6 va1_weight), (a1_now, oB 3 [.ref a1_now_ice, .ref a1_now_juice, .ref a1_now_fors, .int va1_now_boat, .int va1_now_minute, .int va1_now_draw]), (a1_now_ice, aI E 12 va1_now_ice), (a1_now_fors, aI E 5 va1_now_fors)]) dX1_leastJuice_36 lkX1_75 rfl ⟨rfl, rfl⟩ ⟨by decide, by decide⟩ rfl rfl rfl rfl (Nat.le_of_ble_eq_true rfl) rfl rfl rfl ?_
      refine g_st (st' := [.int o6, .int (va1_now_fors κ5), .int x4, .ref a1]) rfl ?_
      refine g_aload_n k 3 dX1_leastJuice_39 rfl rfl ?_
      obtain ⟨o8, ho9, hf⟩ := bnd_some hf
      refine g_cv k miX3_isEven mvX3_isEven (ctX3_isEven (kL K) E N a1_now a1_now_ice a1_now_juice a1_now_fors va1_now_boat va1_now_minute va1_now_draw  o8 ho9) [4] 0 (ws' := [(a0, oB 1 [.ref a0_then, .ref a0_marks]), (a1, oB 0 [.ref a1_kind, .ref a1_weight, .ref a1_now, .int va1_cells, .int va1_people, .int va1_sayings, .int va1_frost]), (a1_kind, aI E 6 va1_kind), (a1_weight, aI E 6 va1_weight), (a1_now, oB 3 [.ref a1_now_ice, .ref a1_now_juice, .ref a1_now_fors, .int va1_now_boat, .int va1_now_minute, .int va1_now_draw]), (a1_now_ice, aI E 12 va1_now_ice), (a1_now_fors, aI E 5 va1_now_fors)]) dX1_leastJuice_40 lkX1_71 rfl ⟨rfl, rfl⟩ ⟨by decide, by decide⟩ rfl rfl rfl rfl (Nat.le_of_ble_eq_true rfl) rfl rfl rfl ?_
      refine g_st (st' := [.int o8, .int o6, .int (va1_now_fors κ5), .int x4, .ref a1]) rfl ?_
      obtain ⟨o10, ho11, hf⟩ := bnd_some hf
      refine g_cv k miX0_boatRocks mvX0_boatRocks (ctX0_boatRocks (kL K) E N a1 a1_kind a1_weight a1_now va1_cells va1_people va1_sayings va1_frost va1_kind va1_weight x4 (va1_now_fors κ5) o6 o8 o10 ho11) [1, 2, 3] 0 (ws' := [(a0, oB 1 [.ref a0_then, .ref a0_marks]), (a1, oB 0 [.ref a1_kind, .ref a1_weight, .ref a1_now, .int va1_cells, .int va1_people, .int va1_sayings, .int va1_frost]), (a1_kind, aI E 6 va1_kind), (a1_weight, aI E 6 va1_weight), (a1_now, oB 3 [.ref a1_now_ice, .ref a1_now_juice, .ref a1_now_fors, .int va1_now_boat, .int va1_now_minute, .int va1_now_draw]), (a1_now_ice, aI E 12 va1_now_ice), (a1_now_fors, aI E 5 va1_now_fors)]) dX1_leastJuice_43 lkX1_104 rfl ⟨rfl, rfl⟩ ⟨by decide, by decide⟩ rfl rfl rfl rfl (Nat.le_of_ble_eq_true rfl) rfl rfl rfl ?_
      refine g_st (st' := [.int o10]) rfl ?_
      refine g_istore k (lv' := [(5, .int o10), (0, .ref a0), (1, .ref a1), (2, .int x2), (3, .ref a1_now), (4, .int x4)]) dX1_leastJuice_46 (by decide) rfl ?_
      refine g_iload k 0 dX1_leastJuice_48 rfl ?_
      refine g_aload_n k 2 dX1_leastJuice_50 rfl rfl ?_
      refine g_aload_n k 4 dX1_leastJuice_51 rfl rfl ?_
      obtain ⟨o12, ho13, hf⟩ := bnd_some hf
      refine g_cv k miX0_iceAhead mvX0_iceAhead (ctX0_iceAhead (kL K) E N a1 a1_kind a1_weight a1_now a1_now a1_now_ice a1_now_juice a1_now_fors va1_cells va1_people va1_sayings va1_frost va1_now_boat va1_now_minute va1_now_draw va1_now_ice  o12 ho13) [1, 4, 5] 0 (ws' := [(a0, oB 1 [.ref a0_then, .ref a0_marks]), (a1, oB 0 [.ref a1_kind, .ref a1_weight, .ref a1_now, .int va1_cells, .int va1_people, .int va1_sayings, .int va1_frost]), (a1_kind, aI E 6 va1_kind), (a1_weight, aI E 6 va1_weight), (a1_now, oB 3 [.ref a1_now_ice, .ref a1_now_juice, .ref a1_now_fors, .int va1_now_boat, .int va1_now_minute, .int va1_now_draw]), (a1_now_ice, aI E 12 va1_now_ice), (a1_now_fors, aI E 5 va1_now_fors)]) dX1_leastJuice_52 lkX1_57 rfl ⟨rfl, rfl⟩ ⟨by decide, by decide⟩ rfl rfl rfl rfl (Nat.le_of_ble_eq_true rfl) rfl rfl rfl ?_
      refine g_st (st' := [.int o12, .int o10]) rfl ?_
      refine g_icmp_lt k (tgt := 61) dX1_leastJuice_55 (by decide) (fun c14 => ?_) (fun c14 => ?_)
      · replace hf := ite_t c14 hf
        refine g_iinc k (lv' := [(4, .int (x4 + 1)), (5, .int o10), (0, .ref a0), (1, .ref a1), (2, .int x2), (3, .ref a1_now)]) 5 dX1_leastJuice_61 rfl (ii_1 _) (by decide) rfl ?_
        refine g_goto k (tgt := 19) dX1_leastJuice_64 (by decide) ?_
        refine g_lv [2, 3, 4, 5, 0] rfl ?_
        exact ih (x4 + 1) o hf hr hG
      · replace hf := ite_f c14 hf
        refine g_iload k 5 dX1_leastJuice_58 rfl ?_
        obtain rfl := Option.some.inj hf
        obtain rfl := hr _ rfl
        exact g_iret k r dX1_leastJuice_60 ⟨rfl, rfl⟩
def fX1_leastJuice (N : Nat) (va1_cells : Int32) (va1_people : Int32) (va1_kind : Nat → Int32) (va1_weight : Nat → Int32) (va1_now_boat : Int32) (va1_now_minute : Int32) (va1_now_ice : Nat → Int32) (va1_now_fors : Nat → Int32) (x2 : Int32) : Option (Int32) :=
  bnd (fX0_isThrough N va1_cells va1_now_boat) fun o1 =>
  if o1 = 0 then
  bnd (fX1_leastJuice_L19 N x2 va1_cells va1_people va1_kind va1_weight va1_now_boat va1_now_minute va1_now_ice va1_now_fors N 0) fun o15 => lret o15 fun v17 =>
  some ((-4))
  else
  some ((-4))
set_option maxHeartbeats 4000000 in
set_option maxRecDepth 100000 in
theorem ctX1_leastJuice (l : Launch) (E : Ev) (N : Nat) (a0 : Nat) (a0_then : Nat) (a0_marks : Nat) (a1 : Nat) (a1_kind : Nat) (a1_weight : Nat) (a1_now : Nat) (a1_now_ice : Nat) (a1_now_juice : Nat) (a1_now_fors : Nat) (va1_cells : Int32) (va1_people : Int32) (va1_sayings : Int32) (va1_frost : Int32) (va1_kind : Nat → Int32) (va1_weight : Nat → Int32) (va1_now_boat : Int32) (va1_now_minute : Int32) (va1_now_draw : Int32) (va1_now_ice : Nat → Int32) (va1_now_fors : Nat → Int32) (x2 : Int32) (out : Int32) (hf : fX1_leastJuice N va1_cells va1_people va1_kind va1_weight va1_now_boat va1_now_minute va1_now_ice va1_now_fors x2 = some out) : Ct l E yX1_leastJuice cX1_leastJuice 6 (some .int) rmX1_leastJuice [.ref a0, .ref a1, .int x2] [(a0, oB 1 [.ref a0_then, .ref a0_marks]), (a1, oB 0 [.ref a1_kind, .ref a1_weight, .ref a1_now, .int va1_cells, .int va1_people, .int va1_sayings, .int va1_frost]), (a1_kind, aI E 6 va1_kind), (a1_weight, aI E 6 va1_weight), (a1_now, oB 3 [.ref a1_now_ice, .ref a1_now_juice, .ref a1_now_fors, .int va1_now_boat, .int va1_now_minute, .int va1_now_draw]), (a1_now_ice, aI E 12 va1_now_ice), (a1_now_fors, aI E 5 va1_now_fors)] (Pe (some (.int out)) [(a0, oB 1 [.ref a0_then, .ref a0_marks]), (a1, oB 0 [.ref a1_kind, .ref a1_weight, .ref a1_now, .int va1_cells, .int va1_people, .int va1_sayings, .int va1_frost]), (a1_kind, aI E 6 va1_kind), (a1_weight, aI E 6 va1_weight), (a1_now, oB 3 [.ref a1_now_ice, .ref a1_now_juice, .ref a1_now_fors, .int va1_now_boat, .int va1_now_minute, .int va1_now_draw]), (a1_now_ice, aI E 12 va1_now_ice), (a1_now_fors, aI E 5 va1_now_fors)]) := by
  refine Ct.of rfl (Nat.le_of_ble_eq_true rfl) (fun K hL k r hin => ?_)
  subst hL
  unfold fX1_leastJuice at hf
  show G E K 6 0 0 [(0, .ref a0), (1, .ref a1), (2, .int x2)] [] [(a0, oB 1 [.ref a0_then, .ref a0_marks]), (a1, oB 0 [.ref a1_kind, .ref a1_weight, .ref a1_now, .int va1_cells, .int va1_people, .int va1_sayings, .int va1_frost]), (a1_kind, aI E 6 va1_kind), (a1_weight, aI E 6 va1_weight), (a1_now, oB 3 [.ref a1_now_ice, .ref a1_now_juice, .ref a1_now_fors, .int va1_now_boat, .int va1_now_minute, .int va1_now_draw]), (a1_now_ice, aI E 12 va1_now_ice), (a1_now_fors, aI E 5 va1_now_fors)] 0
  refine g_aload_n k 1 dX1_leastJuice_0 rfl rfl ?_
  refine g_get k cfX0 2 1 dX1_leastJuice_1 lkX1_22 (by decide) rfl rfl ?_
  refine g_astore_n k (lv' := [(3, .ref a1_now), (0, .ref a0), (1, .ref a1), (2, .int x2)]) dX1_leastJuice_4 rfl (by decide) rfl ?_
  refine g_aload_n k 2 dX1_leastJuice_5 rfl rfl ?_
  refine g_aload_n k 0 dX1_leastJuice_6 rfl rfl ?_
  obtain ⟨o1, ho2, hf⟩ := bnd_some hf
  refine g_cv k miX0_isThrough mvX0_isThrough (ctX0_isThrough (kL K) E N a1 a1_kind a1_weight a1_now a1_now a1_now_ice a1_now_juice a1_now_fors va1_cells va1_people va1_sayings va1_frost va1_now_boat va1_now_minute va1_now_draw  o1 ho2) [1, 4] 0 (ws' := [(a0, oB 1 [.ref a0_then, .ref a0_marks]), (a1, oB 0 [.ref a1_kind, .ref a1_weight, .ref a1_now, .int va1_cells, .int va1_people, .int va1_sayings, .int va1_frost]), (a1_kind, aI E 6 va1_kind), (a1_weight, aI E 6 va1_weight), (a1_now, oB 3 [.ref a1_now_ice, .ref a1_now_juice, .ref a1_now_fors, .int va1_now_boat, .int va1_now_minute, .int va1_now_draw]), (a1_now_ice, aI E 12 va1_now_ice), (a1_now_fors, aI E 5 va1_now_fors)]) dX1_leastJuice_7 lkX1_39 rfl ⟨rfl, rfl⟩ ⟨by decide, by decide⟩ rfl rfl rfl rfl (Nat.le_of_ble_eq_true rfl) rfl rfl rfl ?_
  refine g_st (st' := [.int o1]) rfl ?_
  refine g_if_eq k (tgt := 16) dX1_leastJuice_10 (by decide) (fun c3 => ?_) (fun c3 => ?_)
  · replace hf := ite_t c3 hf
    refine g_iconst k dX1_leastJuice_16 ic_0 ?_
    refine g_istore k (lv' := [(4, .int 0), (3, .ref a1_now), (0, .ref a0), (1, .ref a1), (2, .int x2)]) dX1_leastJuice_17 (by decide) rfl ?_
    obtain ⟨o15, ho16, hf⟩ := bnd_some hf
    refine g_lv [2, 3, 4, 1, 0] (lv' := [(0, .ref a0), (1, .ref a1), (2, .int x2), (3, .ref a1_now), (4, .int 0)]) rfl ?_
    refine wX1_leastJuice_L19 k N a0 a0_then a0_marks a1 a1_kind a1_weight a1_now a1_now_ice a1_now_juice a1_now_fors  x2 va1_cells va1_people va1_kind va1_weight va1_now_boat va1_now_minute va1_now_ice va1_now_fors va1_sayings va1_frost va1_now_draw r N 0 o15 ho16 (fun w e => by subst e; exact Option.some.inj hf) (fun v17 e => ?_)
    subst e
    replace hf := lret_r hf
    refine g_bipush k dX1_leastJuice_67 bi_m4 ?_
    obtain rfl := Option.some.inj hf
    exact g_iret k r dX1_leastJuice_69 ⟨rfl, rfl⟩
  · replace hf := ite_f c3 hf
    refine g_bipush k dX1_leastJuice_13 bi_m4 ?_
    obtain rfl := Option.some.inj hf
    exact g_iret k r dX1_leastJuice_15 ⟨rfl, rfl⟩
abbrev rmX1_power : Room := { frames := 0, cells := 0, slots := 0, locals := 0 }
def fX1_power_L4 (N : Nat) (x0 : Int32) (x1 : Int32) : Nat → Int32 → Int32 → Option (Int32 × Int32)
  | 0, _, _ => none
  | n + 1, x2, x3 =>
    if x1 ≤ x3 then
    some (x2, x3)
    else
    fX1_power_L4 N x0 x1 n (x2 * x0) (x3 + 1)
set_option maxHeartbeats 4000000 in
set_option maxRecDepth 100000 in
theorem wX1_power_L4 {E : Ev} {K : KX} (k : OKX E K cX1_power RX1 4 rmX1_power) (N : Nat)  (x0 : Int32) (x1 : Int32) : ∀ (n : Nat) (x2 : Int32) (x3 : Int32) (o : Int32 × Int32), fX1_power_L4 N x0 x1 n x2 x3 = some o → G E K 4 0 0 [(0, .int x0), (1, .int x1), (2, .int o.1), (3, .int o.2)] [] [] 19 → G E K 4 0 0 [(0, .int x0), (1, .int x1), (2, .int x2), (3, .int x3)] [] [] 4 := by
  intro n
  induction n with
  | zero => intro x2 x3 o hf; cases hf
  | succ n ih =>
    intro x2 x3 o hf hG
    rw [fX1_power_L4] at hf
    refine g_iload_n k 3 dX1_power_4 rfl rfl ?_
    refine g_iload_n k 1 dX1_power_5 rfl rfl ?_
    refine g_icmp_ge k (tgt := 19) dX1_power_6 (by decide) (fun c1 => ?_) (fun c1 => ?_)
    · replace hf := ite_t c1 hf
      refine g_lv [0, 1, 2, 3] rfl ?_
      obtain rfl := Option.some.inj hf
      exact hG
    · replace hf := ite_f c1 hf
      refine g_iload_n k 2 dX1_power_9 rfl rfl ?_
      refine g_iload_n k 0 dX1_power_10 rfl rfl ?_
      refine g_imul k dX1_power_11 ?_
      refine g_istore_n k (lv' := [(2, .int (x2 * x0)), (0, .int x0), (1, .int x1), (3, .int x3)]) dX1_power_12 rfl (by decide) rfl ?_
      refine g_iinc k (lv' := [(3, .int (x3 + 1)), (2, .int (x2 * x0)), (0, .int x0), (1, .int x1)]) 3 dX1_power_13 rfl (ii_1 _) (by decide) rfl ?_
      refine g_goto k (tgt := 4) dX1_power_16 (by decide) ?_
      refine g_lv [2, 3, 1, 0] rfl ?_
      exact ih (x2 * x0) (x3 + 1) o hf hG
def fX1_power (N : Nat)  (x0 : Int32) (x1 : Int32) : Option (Int32) :=
  bnd (fX1_power_L4 N x0 x1 N 1 0) fun o2 =>
  some (o2.1)
set_option maxHeartbeats 4000000 in
set_option maxRecDepth 100000 in
theorem ctX1_power (l : Launch) (E : Ev) (N : Nat)   (x0 : Int32) (x1 : Int32) (out : Int32) (hf : fX1_power N  x0 x1 = some out) : Ct l E yX1_power cX1_power 4 (some .int) rmX1_power [.int x0, .int x1] [] (Pe (some (.int out)) []) := by
  refine Ct.of rfl (Nat.le_of_ble_eq_true rfl) (fun K hL k r hin => ?_)
  subst hL
  unfold fX1_power at hf
  show G E K 4 0 0 [(0, .int x0), (1, .int x1)] [] [] 0
  refine g_iconst k dX1_power_0 ic_1 ?_
  refine g_istore_n k (lv' := [(2, .int 1), (0, .int x0), (1, .int x1)]) dX1_power_1 rfl (by decide) rfl ?_
  refine g_iconst k dX1_power_2 ic_0 ?_
  refine g_istore_n k (lv' := [(3, .int 0), (2, .int 1), (0, .int x0), (1, .int x1)]) dX1_power_3 rfl (by decide) rfl ?_
  obtain ⟨o2, ho3, hf⟩ := bnd_some hf
  refine g_lv [2, 3, 1, 0] (lv' := [(0, .int x0), (1, .int x1), (2, .int 1), (3, .int 0)]) rfl ?_
  refine wX1_power_L4 k N   x0 x1  N 1 0 o2 ho3 ?_
  refine g_iload_n k 2 dX1_power_19 rfl rfl ?_
  obtain rfl := Option.some.inj hf
  exact g_iret k r dX1_power_20 ⟨rfl, rfl⟩
abbrev rmX1_chances : Room := { frames := 4, cells := 0, slots := 0, locals := 99 }
def fX1_chances_L5 (N : Nat) (x1 : Int32) (x2 : Int32) (va0_cells : Int32) (va0_people : Int32) (va0_kind : Nat → Int32) (va0_weight : Nat → Int32) (va0_now_boat : Int32) (va0_now_minute : Int32) (va0_now_ice : Nat → Int32) (va0_now_juice : Nat → Int32) (va0_now_fors : Nat → Int32) : Nat → Int32 → Int32 → Option (Int32 × Int32)
  | 0, _, _ => none
  | n + 1, x3, x4 =>
    bnd (fX0_everybody N va0_people) fun o1 =>
    if o1 < x4 then
    some (x3, x4)
    else
    bnd (fX0_crewRocks N va0_people va0_kind va0_weight va0_now_minute va0_now_juice va0_now_fors x1 x4) fun o4 =>
    bnd (fX0_iceAhead N va0_cells va0_now_boat va0_now_ice) fun o6 =>
    if o4 < o6 then
    fX1_chances_L5 N x1 x2 va0_cells va0_people va0_kind va0_weight va0_now_boat va0_now_minute va0_now_ice va0_now_juice va0_now_fors n x3 (x4 + 1)
    else
    bnd (fJ6_bitCount_0f7a4 N x4) fun o9 =>
    bnd (fX1_power N (10 - x2) o9) fun o11 =>
    bnd (fX1_power N x2 (va0_people - o9)) fun o13 =>
    fX1_chances_L5 N x1 x2 va0_cells va0_people va0_kind va0_weight va0_now_boat va0_now_minute va0_now_ice va0_now_juice va0_now_fors n (x3 + (o11 * o13)) (x4 + 1)
set_option maxHeartbeats 4000000 in
set_option maxRecDepth 100000 in
theorem wX1_chances_L5 {E : Ev} {K : KX} (k : OKX E K cX1_chances RX1 6 rmX1_chances) (N : Nat) (a0 : Nat) (a0_kind : Nat) (a0_weight : Nat) (a0_now : Nat) (a0_now_ice : Nat) (a0_now_juice : Nat) (a0_now_fors : Nat) (x1 : Int32) (x2 : Int32) (va0_cells : Int32) (va0_people : Int32) (va0_kind : Nat → Int32) (va0_weight : Nat → Int32) (va0_now_boat : Int32) (va0_now_minute : Int32) (va0_now_ice : Nat → Int32) (va0_now_juice : Nat → Int32) (va0_now_fors : Nat → Int32) (va0_sayings : Int32) (va0_frost : Int32) (va0_now_draw : Int32) : ∀ (n : Nat) (x3 : Int32) (x4 : Int32) (o : Int32 × Int32), fX1_chances_L5 N x1 x2 va0_cells va0_people va0_kind va0_weight va0_now_boat va0_now_minute va0_now_ice va0_now_juice va0_now_fors n x3 x4 = some o → G E K 6 0 0 [(0, .ref a0), (1, .int x1), (2, .int x2), (3, .int o.1), (4, .int o.2)] [] [(a0, oB 0 [.ref a0_kind, .ref a0_weight, .ref a0_now, .int va0_cells, .int va0_people, .int va0_sayings, .int va0_frost]), (a0_kind, aI E 6 va0_kind), (a0_weight, aI E 6 va0_weight), (a0_now, oB 3 [.ref a0_now_ice, .ref a0_now_juice, .ref a0_now_fors, .int va0_now_boat, .int va0_now_minute, .int va0_now_draw]), (a0_now_ice, aI E 12 va0_now_ice), (a0_now_juice, aI E 5 va0_now_juice), (a0_now_fors, aI E 5 va0_now_fors)] 69 → G E K 6 0 0 [(0, .ref a0), (1, .int x1), (2, .int x2), (3, .int x3), (4, .int x4)] [] [(a0, oB 0 [.ref a0_kind, .ref a0_weight, .ref a0_now, .int va0_cells, .int va0_people, .int va0_sayings, .int va0_frost]), (a0_kind, aI E 6 va0_kind), (a0_weight, aI E 6 va0_weight), (a0_now, oB 3 [.ref a0_now_ice, .ref a0_now_juice, .ref a0_now_fors, .int va0_now_boat, .int va0_now_minute, .int va0_now_draw]), (a0_now_ice, aI E 12 va0_now_ice), (a0_now_juice, aI E 5 va0_now_juice), (a0_now_fors, aI E 5 va0_now_fors)] 5 := by
  intro n
  induction n with
  | zero => intro x3 x4 o hf; cases hf
  | succ n ih =>
    intro x3 x4 o hf hG
    rw [fX1_chances_L5] at hf
    refine g_iload k 4 dX1_chances_5 rfl ?_
    refine g_aload_n k 0 dX1_chances_7 rfl rfl ?_
    obtain ⟨o1, ho2, hf⟩ := bnd_some hf
    refine g_cv k miX0_everybody mvX0_everybody (ctX0_everybody (kL K) E N a0 a0_kind a0_weight a0_now va0_cells va0_people va0_sayings va0_frost  o1 ho2) [0] 0 (ws' := [(a0, oB 0 [.ref a0_kind, .ref a0_weight, .ref a0_now, .int va0_cells, .int va0_people, .int va0_sayings, .int va0_frost]), (a0_kind, aI E 6 va0_kind), (a0_weight, aI E 6 va0_weight), (a0_now, oB 3 [.ref a0_now_ice, .ref a0_now_juice, .ref a0_now_fors, .int va0_now_boat, .int va0_now_minute, .int va0_now_draw]), (a0_now_ice, aI E 12 va0_now_ice), (a0_now_juice, aI E 5 va0_now_juice), (a0_now_fors, aI E 5 va0_now_fors)]) dX1_chances_8 lkX1_75 rfl ⟨rfl, rfl⟩ ⟨by decide, by decide⟩ rfl rfl rfl rfl (Nat.le_of_ble_eq_true rfl) rfl rfl rfl ?_
    refine g_st (st' := [.int o1, .int x4]) rfl ?_
    refine g_icmp_gt k (tgt := 69) dX1_chances_11 (by decide) (fun c3 => ?_) (fun c3 => ?_)
    · replace hf := ite_t c3 hf
      refine g_lv [0, 1, 2, 3, 4] rfl ?_
      obtain rfl := Option.some.inj hf
      exact hG
    · replace hf := ite_f c3 hf
      refine g_aload_n k 0 dX1_chances_14 rfl rfl ?_
      refine g_iload_n k 1 dX1_chances_15 rfl rfl ?_
      refine g_iload k 4 dX1_chances_16 rfl ?_
      obtain ⟨o4, ho5, hf⟩ := bnd_some hf
      refine g_cv k miX0_crewRocks mvX0_crewRocks (ctX0_crewRocks (kL K) E N a0 a0_kind a0_weight a0_now a0_now_ice a0_now_juice a0_now_fors va0_cells va0_people va0_sayings va0_frost va0_kind va0_weight va0_now_boat va0_now_minute va0_now_draw va0_now_juice va0_now_fors x1 x4 o4 ho5) [0, 1, 2, 3, 5, 6] 0 (ws' := [(a0, oB 0 [.ref a0_kind, .ref a0_weight, .ref a0_now, .int va0_cells, .int va0_people, .int va0_sayings, .int va0_frost]), (a0_kind, aI E 6 va0_kind), (a0_weight, aI E 6 va0_weight), (a0_now, oB 3 [.ref a0_now_ice, .ref a0_now_juice, .ref a0_now_fors, .int va0_now_boat, .int va0_now_minute, .int va0_now_draw]), (a0_now_ice, aI E 12 va0_now_ice), (a0_now_juice, aI E 5 va0_now_juice), (a0_now_fors, aI E 5 va0_now_fors)]) dX1_chances_18 lkX1_84 rfl ⟨rfl, rfl⟩ ⟨by decide, by decide⟩ rfl rfl rfl rfl (Nat.le_of_ble_eq_true rfl) rfl rfl rfl ?_
      refine g_st (st' := [.int o4]) rfl ?_
      refine g_aload_n k 0 dX1_chances_21 rfl rfl ?_
      refine g_aload_n k 0 dX1_chances_22 rfl rfl ?_
      refine g_get k cfX0 2 0 dX1_chances_23 lkX1_22 (by decide) rfl rfl ?_
      obtain ⟨o6, ho7, hf⟩ := bnd_some hf
      refine g_cv k miX0_iceAhead mvX0_iceAhead (ctX0_iceAhead (kL K) E N a0 a0_kind a0_weight a0_now a0_now a0_now_ice a0_now_juice a0_now_fors va0_cells va0_people va0_sayings va0_frost va0_now_boat va0_now_minute va0_now_draw va0_now_ice  o6 ho7) [0, 3, 4] 0 (ws' := [(a0, oB 0 [.ref a0_kind, .ref a0_weight, .ref a0_now, .int va0_cells, .int va0_people, .int va0_sayings, .int va0_frost]), (a0_kind, aI E 6 va0_kind), (a0_weight, aI E 6 va0_weight), (a0_now, oB 3 [.ref a0_now_ice, .ref a0_now_juice, .ref a0_now_fors, .int va0_now_boat, .int va0_now_minute, .int va0_now_draw]), (a0_now_ice, aI E 12 va0_now_ice), (a0_now_juice, aI E 5 va0_now_juice), (a0_now_fors, aI E 5 va0_now_fors)]) dX1_chances_26 lkX1_57 rfl ⟨rfl, rfl⟩ ⟨by decide, by decide⟩ rfl rfl rfl rfl (Nat.le_of_ble_eq_true rfl) rfl rfl rfl ?_
      refine g_st (st' := [.int o6, .int o4]) rfl ?_
      refine g_icmp_lt k (tgt := 63) dX1_chances_29 (by decide) (fun c8 => ?_) (fun c8 => ?_)
      · replace hf := ite_t c8 hf
        refine g_iinc k (lv' := [(4, .int (x4 + 1)), (0, .ref a0), (1, .int x1), (2, .int x2), (3, .int x3)]) 4 dX1_chances_63 rfl (ii_1 _) (by decide) rfl ?_
        refine g_goto k (tgt := 5) dX1_chances_66 (by decide) ?_
        refine g_lv [1, 2, 3, 4, 0] rfl ?_
        exact ih x3 (x4 + 1) o hf hG
      · replace hf := ite_f c8 hf
        refine g_iload k 4 dX1_chances_32 rfl ?_
        obtain ⟨o9, ho10, hf⟩ := bnd_some hf
        refine g_cs k miJ6_bitCount_0f7a4 msJ6_bitCount_0f7a4 (ctJ6_bitCount_0f7a4 (kL K) E N   x4 o9 ho10) [] (ws' := [(a0, oB 0 [.ref a0_kind, .ref a0_weight, .ref a0_now, .int va0_cells, .int va0_people, .int va0_sayings, .int va0_frost]), (a0_kind, aI E 6 va0_kind), (a0_weight, aI E 6 va0_weight), (a0_now, oB 3 [.ref a0_now_ice, .ref a0_now_juice, .ref a0_now_fors, .int va0_now_boat, .int va0_now_minute, .int va0_now_draw]), (a0_now_ice, aI E 12 va0_now_ice), (a0_now_juice, aI E 5 va0_now_juice), (a0_now_fors, aI E 5 va0_now_fors)]) dX1_chances_34 lkX1_79 rfl ⟨rfl, rfl⟩ ⟨by decide, by decide⟩ rfl rfl rfl (Nat.le_of_ble_eq_true rfl) rfl rfl rfl ?_
        refine g_st (st' := [.int o9]) rfl ?_
        refine g_istore k (lv' := [(5, .int o9), (0, .ref a0), (1, .int x1), (2, .int x2), (3, .int x3), (4, .int x4)]) dX1_chances_37 (by decide) rfl ?_
        refine g_iload_n k 4 dX1_chances_39 rfl rfl ?_
        refine g_bipush k dX1_chances_40 bi_10 ?_
        refine g_iload_n k 3 dX1_chances_42 rfl rfl ?_
        refine g_isub k dX1_chances_43 ?_
        refine g_iload k 0 dX1_chances_44 rfl ?_
        obtain ⟨o11, ho12, hf⟩ := bnd_some hf
        refine g_cs k miX1_power msX1_power (ctX1_power (kL K) E N   (10 - x2) o9 o11 ho12) [] (ws' := [(a0, oB 0 [.ref a0_kind, .ref a0_weight, .ref a0_now, .int va0_cells, .int va0_people, .int va0_sayings, .int va0_frost]), (a0_kind, aI E 6 va0_kind), (a0_weight, aI E 6 va0_weight), (a0_now, oB 3 [.ref a0_now_ice, .ref a0_now_juice, .ref a0_now_fors, .int va0_now_boat, .int va0_now_minute, .int va0_now_draw]), (a0_now_ice, aI E 12 va0_now_ice), (a0_now_juice, aI E 5 va0_now_juice), (a0_now_fors, aI E 5 va0_now_fors)]) dX1_chances_46 lkX1_112 rfl ⟨rfl, rfl⟩ ⟨by decide, by decide⟩ rfl rfl rfl (Nat.le_of_ble_eq_true rfl) rfl rfl rfl ?_
        refine g_st (st' := [.int o11, .int x3]) rfl ?_
        refine g_iload_n k 3 dX1_chances_49 rfl rfl ?_
        refine g_aload_n k 1 dX1_chances_50 rfl rfl ?_
        refine g_get k cfX0 4 0 dX1_chances_51 lkX1_92 (by decide) rfl rfl ?_
        refine g_iload k 0 dX1_chances_54 rfl ?_
        refine g_isub k dX1_chances_56 ?_
        obtain ⟨o13, ho14, hf⟩ := bnd_some hf
        refine g_cs k miX1_power msX1_power (ctX1_power (kL K) E N   x2 (va0_people - o9) o13 ho14) [] (ws' := [(a0, oB 0 [.ref a0_kind, .ref a0_weight, .ref a0_now, .int va0_cells, .int va0_people, .int va0_sayings, .int va0_frost]), (a0_kind, aI E 6 va0_kind), (a0_weight, aI E 6 va0_weight), (a0_now, oB 3 [.ref a0_now_ice, .ref a0_now_juice, .ref a0_now_fors, .int va0_now_boat, .int va0_now_minute, .int va0_now_draw]), (a0_now_ice, aI E 12 va0_now_ice), (a0_now_juice, aI E 5 va0_now_juice), (a0_now_fors, aI E 5 va0_now_fors)]) dX1_chances_57 lkX1_112 rfl ⟨rfl, rfl⟩ ⟨by decide, by decide⟩ rfl rfl rfl (Nat.le_of_ble_eq_true rfl) rfl rfl rfl ?_
        refine g_st (st' := [.int o13, .int o11, .int x3]) rfl ?_
        refine g_imul k dX1_chances_60 ?_
        refine g_iadd k dX1_chances_61 ?_
        refine g_istore_n k (lv' := [(3, .int (x3 + (o11 * o13))), (5, .int o9), (0, .ref a0), (1, .int x1), (2, .int x2), (4, .int x4)]) dX1_chances_62 rfl (by decide) rfl ?_
        refine g_iinc k (lv' := [(4, .int (x4 + 1)), (3, .int (x3 + (o11 * o13))), (5, .int o9), (0, .ref a0), (1, .int x1), (2, .int x2)]) 5 dX1_chances_63 rfl (ii_1 _) (by decide) rfl ?_
        refine g_goto k (tgt := 5) dX1_chances_66 (by decide) ?_
        refine g_lv [3, 4, 5, 1, 0] rfl ?_
        exact ih (x3 + (o11 * o13)) (x4 + 1) o hf hG
def fX1_chances (N : Nat) (va0_cells : Int32) (va0_people : Int32) (va0_kind : Nat → Int32) (va0_weight : Nat → Int32) (va0_now_boat : Int32) (va0_now_minute : Int32) (va0_now_ice : Nat → Int32) (va0_now_juice : Nat → Int32) (va0_now_fors : Nat → Int32) (x1 : Int32) (x2 : Int32) : Option (Int32) :=
  bnd (fX1_chances_L5 N x1 x2 va0_cells va0_people va0_kind va0_weight va0_now_boat va0_now_minute va0_now_ice va0_now_juice va0_now_fors N 0 0) fun o15 =>
  some (o15.1)
set_option maxHeartbeats 4000000 in
set_option maxRecDepth 100000 in
theorem ctX1_chances (l : Launch) (E : Ev) (N : Nat) (a0 : Nat) (a0_kind : Nat) (a0_weight : Nat) (a0_now : Nat) (a0_now_ice : Nat) (a0_now_juice : Nat) (a0_now_fors : Nat) (va0_cells : Int32) (va0_people : Int32) (va0_sayings : Int32) (va0_frost : Int32) (va0_kind : Nat → Int32) (va0_weight : Nat → Int32) (va0_now_boat : Int32) (va0_now_minute : Int32) (va0_now_draw : Int32) (va0_now_ice : Nat → Int32) (va0_now_juice : Nat → Int32) (va0_now_fors : Nat → Int32) (x1 : Int32) (x2 : Int32) (out : Int32) (hf : fX1_chances N va0_cells va0_people va0_kind va0_weight va0_now_boat va0_now_minute va0_now_ice va0_now_juice va0_now_fors x1 x2 = some out) : Ct l E yX1_chances cX1_chances 6 (some .int) rmX1_chances [.ref a0, .int x1, .int x2] [(a0, oB 0 [.ref a0_kind, .ref a0_weight, .ref a0_now, .int va0_cells, .int va0_people, .int va0_sayings, .int va0_frost]), (a0_kind, aI E 6 va0_kind), (a0_weight, aI E 6 va0_weight), (a0_now, oB 3 [.ref a0_now_ice, .ref a0_now_juice, .ref a0_now_fors, .int va0_now_boat, .int va0_now_minute, .int va0_now_draw]), (a0_now_ice, aI E 12 va0_now_ice), (a0_now_juice, aI E 5 va0_now_juice), (a0_now_fors, aI E 5 va0_now_fors)] (Pe (some (.int out)) [(a0, oB 0 [.ref a0_kind, .ref a0_weight, .ref a0_now, .int va0_cells, .int va0_people, .int va0_sayings, .int va0_frost]), (a0_kind, aI E 6 va0_kind), (a0_weight, aI E 6 va0_weight), (a0_now, oB 3 [.ref a0_now_ice, .ref a0_now_juice, .ref a0_now_fors, .int va0_now_boat, .int va0_now_minute, .int va0_now_draw]), (a0_now_ice, aI E 12 va0_now_ice), (a0_now_juice, aI E 5 va0_now_juice), (a0_now_fors, aI E 5 va0_now_fors)]) := by
  refine Ct.of rfl (Nat.le_of_ble_eq_true rfl) (fun K hL k r hin => ?_)
  subst hL
  unfold fX1_chances at hf
  show G E K 6 0 0 [(0, .ref a0), (1, .int x1), (2, .int x2)] [] [(a0, oB 0 [.ref a0_kind, .ref a0_weight, .ref a0_now, .int va0_cells, .int va0_people, .int va0_sayings, .int va0_frost]), (a0_kind, aI E 6 va0_kind), (a0_weight, aI E 6 va0_weight), (a0_now, oB 3 [.ref a0_now_ice, .ref a0_now_juice, .ref a0_now_fors, .int va0_now_boat, .int va0_now_minute, .int va0_now_draw]), (a0_now_ice, aI E 12 va0_now_ice), (a0_now_juice, aI E 5 va0_now_juice), (a0_now_fors, aI E 5 va0_now_fors)] 0
  refine g_iconst k dX1_chances_0 ic_0 ?_
  refine g_istore_n k (lv' := [(3, .int 0), (0, .ref a0), (1, .int x1), (2, .int x2)]) dX1_chances_1 rfl (by decide) rfl ?_
  refine g_iconst k dX1_chances_2 ic_0 ?_
  refine g_istore k (lv' := [(4, .int 0), (3, .int 0), (0, .ref a0), (1, .int x1), (2, .int x2)]) dX1_chances_3 (by decide) rfl ?_
  obtain ⟨o15, ho16, hf⟩ := bnd_some hf
  refine g_lv [2, 3, 4, 1, 0] (lv' := [(0, .ref a0), (1, .int x1), (2, .int x2), (3, .int 0), (4, .int 0)]) rfl ?_
  refine wX1_chances_L5 k N a0 a0_kind a0_weight a0_now a0_now_ice a0_now_juice a0_now_fors  x1 x2 va0_cells va0_people va0_kind va0_weight va0_now_boat va0_now_minute va0_now_ice va0_now_juice va0_now_fors va0_sayings va0_frost va0_now_draw N 0 0 o15 ho16 ?_
  refine g_iload_n k 3 dX1_chances_69 rfl rfl ?_
  obtain rfl := Option.some.inj hf
  exact g_iret k r dX1_chances_70 ⟨rfl, rfl⟩
abbrev rmX1_likelihood : Room := { frames := 5, cells := 0, slots := 0, locals := 124 }
def fX1_likelihood_L37 (N : Nat) (x2 : Int32) (x3 : Int32) (x4 : Int32) (va1_people : Int32) : Nat → Int32 → Int32 → Int32 → Option (Int32 × Int32 × Int32)
  | 0, _, _, _ => none
  | n + 1, x5, x6, x7 =>
    if va1_people ≤ x7 then
    some (x5, x6, x7)
    else
    if (irem x5 2) = 0 then
    if (irem (x5 / 2) 5) = 0 then
    fX1_likelihood_L37 N x2 x3 x4 va1_people n ((x5 / 2) / 5) ((x6 / 2) / 5) (x7 + 1)
    else
    fX1_likelihood_L37 N x2 x3 x4 va1_people n (x5 / 2) (x6 / 2) (x7 + 1)
    else
    if (irem x5 5) = 0 then
    fX1_likelihood_L37 N x2 x3 x4 va1_people n (x5 / 5) (x6 / 5) (x7 + 1)
    else
    fX1_likelihood_L37 N x2 x3 x4 va1_people n x5 x6 (x7 + 1)
set_option maxHeartbeats 4000000 in
set_option maxRecDepth 100000 in
theorem wX1_likelihood_L37 {E : Ev} {K : KX} (k : OKX E K cX1_likelihood RX1 8 rmX1_likelihood) (N : Nat) (a0 : Nat) (a0_then : Nat) (a0_marks : Nat) (a1 : Nat) (a1_kind : Nat) (a1_weight : Nat) (a1_now : Nat) (a1_now_ice : Nat) (a1_now_juice : Nat) (a1_now_fors : Nat) (x2 : Int32) (x3 : Int32) (x4 : Int32) (va1_people : Int32) (va1_cells : Int32) (va1_sayings : Int32) (va1_frost : Int32) (va1_kind : Nat → Int32) (va1_weight : Nat → Int32) (va1_now_boat : Int32) (va1_now_minute : Int32) (va1_now_draw : Int32) (va1_now_ice : Nat → Int32) (va1_now_juice : Nat → Int32) (va1_now_fors : Nat → Int32) : ∀ (n : Nat) (x5 : Int32) (x6 : Int32) (x7 : Int32) (o : Int32 × Int32 × Int32), fX1_likelihood_L37 N x2 x3 x4 va1_people n x5 x6 x7 = some o → G E K 8 0 0 [(0, .ref a0), (1, .ref a1), (2, .int x2), (3, .int x3), (4, .int x4), (5, .int o.1), (6, .int o.2.1), (7, .int o.2.2)] [] [(a0, oB 1 [.ref a0_then, .ref a0_marks]), (a1, oB 0 [.ref a1_kind, .ref a1_weight, .ref a1_now, .int va1_cells, .int va1_people, .int va1_sayings, .int va1_frost]), (a1_kind, aI E 6 va1_kind), (a1_weight, aI E 6 va1_weight), (a1_now, oB 3 [.ref a1_now_ice, .ref a1_now_juice, .ref a1_now_fors, .int va1_now_boat, .int va1_now_minute, .int va1_now_draw]), (a1_now_ice, aI E 12 va1_now_ice), (a1_now_juice, aI E 5 va1_now_juice), (a1_now_fors, aI E 5 va1_now_fors)] 90 → G E K 8 0 0 [(0, .ref a0), (1, .ref a1), (2, .int x2), (3, .int x3), (4, .int x4), (5, .int x5), (6, .int x6), (7, .int x7)] [] [(a0, oB 1 [.ref a0_then, .ref a0_marks]), (a1, oB 0 [.ref a1_kind, .ref a1_weight, .ref a1_now, .int va1_cells, .int va1_people, .int va1_sayings, .int va1_frost]), (a1_kind, aI E 6 va1_kind), (a1_weight, aI E 6 va1_weight), (a1_now, oB 3 [.ref a1_now_ice, .ref a1_now_juice, .ref a1_now_fors, .int va1_now_boat, .int va1_now_minute, .int va1_now_draw]), (a1_now_ice, aI E 12 va1_now_ice), (a1_now_juice, aI E 5 va1_now_juice), (a1_now_fors, aI E 5 va1_now_fors)] 37 := by
  intro n
  induction n with
  | zero => intro x5 x6 x7 o hf; cases hf
  | succ n ih =>
    intro x5 x6 x7 o hf hG
    rw [fX1_likelihood_L37] at hf
    refine g_iload k 7 dX1_likelihood_37 rfl ?_
    refine g_aload_n k 1 dX1_likelihood_39 rfl rfl ?_
    refine g_get k cfX0 4 1 dX1_likelihood_40 lkX1_92 (by decide) rfl rfl ?_
    refine g_icmp_ge k (tgt := 90) dX1_likelihood_43 (by decide) (fun c8 => ?_) (fun c8 => ?_)
    · replace hf := ite_t c8 hf
      refine g_lv [0, 1, 2, 3, 4, 5, 6, 7] rfl ?_
      obtain rfl := Option.some.inj hf
      exact hG
    · replace hf := ite_f c8 hf
      refine g_iload k 5 dX1_likelihood_46 rfl ?_
      refine g_iconst k dX1_likelihood_48 ic_2 ?_
      refine g_irem k dX1_likelihood_49 (by decide) ?_
      refine g_if_ne k (tgt := 65) dX1_likelihood_50 (by decide) (fun c9 => ?_) (fun c9 => ?_)
      · replace hf := ite_f c9 hf
        refine g_iload k 5 dX1_likelihood_65 rfl ?_
        refine g_iconst k dX1_likelihood_67 ic_5 ?_
        refine g_irem k dX1_likelihood_68 (by decide) ?_
        refine g_if_ne k (tgt := 84) dX1_likelihood_69 (by decide) (fun c10 => ?_) (fun c10 => ?_)
        · replace hf := ite_f c10 hf
          refine g_iinc k (lv' := [(7, .int (x7 + 1)), (0, .ref a0), (1, .ref a1), (2, .int x2), (3, .int x3), (4, .int x4), (5, .int x5), (6, .int x6)]) 7 dX1_likelihood_84 rfl (ii_1 _) (by decide) rfl ?_
          refine g_goto k (tgt := 37) dX1_likelihood_87 (by decide) ?_
          refine g_lv [1, 2, 3, 4, 5, 6, 7, 0] rfl ?_
          exact ih x5 x6 (x7 + 1) o hf hG
        · replace hf := ite_t c10 hf
          refine g_iload k 5 dX1_likelihood_72 rfl ?_
          refine g_iconst k dX1_likelihood_74 ic_5 ?_
          refine g_idiv k dX1_likelihood_75 (by decide) ?_
          refine g_istore k (lv' := [(5, .int (x5 / 5)), (0, .ref a0), (1, .ref a1), (2, .int x2), (3, .int x3), (4, .int x4), (6, .int x6), (7, .int x7)]) dX1_likelihood_76 (by decide) rfl ?_
          refine g_iload k 6 dX1_likelihood_78 rfl ?_
          refine g_iconst k dX1_likelihood_80 ic_5 ?_
          refine g_idiv k dX1_likelihood_81 (by decide) ?_
          refine g_istore k (lv' := [(6, .int (x6 / 5)), (5, .int (x5 / 5)), (0, .ref a0), (1, .ref a1), (2, .int x2), (3, .int x3), (4, .int x4), (7, .int x7)]) dX1_likelihood_82 (by decide) rfl ?_
          refine g_iinc k (lv' := [(7, .int (x7 + 1)), (6, .int (x6 / 5)), (5, .int (x5 / 5)), (0, .ref a0), (1, .ref a1), (2, .int x2), (3, .int x3), (4, .int x4)]) 7 dX1_likelihood_84 rfl (ii_1 _) (by decide) rfl ?_
          refine g_goto k (tgt := 37) dX1_likelihood_87 (by decide) ?_
          refine g_lv [3, 4, 5, 6, 7, 2, 1, 0] rfl ?_
          exact ih (x5 / 5) (x6 / 5) (x7 + 1) o hf hG
      · replace hf := ite_t c9 hf
        refine g_iload k 5 dX1_likelihood_53 rfl ?_
        refine g_iconst k dX1_likelihood_55 ic_2 ?_
        refine g_idiv k dX1_likelihood_56 (by decide) ?_
        refine g_istore k (lv' := [(5, .int (x5 / 2)), (0, .ref a0), (1, .ref a1), (2, .int x2), (3, .int x3), (4, .int x4), (6, .int x6), (7, .int x7)]) dX1_likelihood_57 (by decide) rfl ?_
        refine g_iload k 6 dX1_likelihood_59 rfl ?_
        refine g_iconst k dX1_likelihood_61 ic_2 ?_
        refine g_idiv k dX1_likelihood_62 (by decide) ?_
        refine g_istore k (lv' := [(6, .int (x6 / 2)), (5, .int (x5 / 2)), (0, .ref a0), (1, .ref a1), (2, .int x2), (3, .int x3), (4, .int x4), (7, .int x7)]) dX1_likelihood_63 (by decide) rfl ?_
        refine g_iload k 1 dX1_likelihood_65 rfl ?_
        refine g_iconst k dX1_likelihood_67 ic_5 ?_
        refine g_irem k dX1_likelihood_68 (by decide) ?_
        refine g_if_ne k (tgt := 84) dX1_likelihood_69 (by decide) (fun c11 => ?_) (fun c11 => ?_)
        · replace hf := ite_f c11 hf
          refine g_iinc k (lv' := [(7, .int (x7 + 1)), (6, .int (x6 / 2)), (5, .int (x5 / 2)), (0, .ref a0), (1, .ref a1), (2, .int x2), (3, .int x3), (4, .int x4)]) 7 dX1_likelihood_84 rfl (ii_1 _) (by decide) rfl ?_
          refine g_goto k (tgt := 37) dX1_likelihood_87 (by decide) ?_
          refine g_lv [3, 4, 5, 6, 7, 2, 1, 0] rfl ?_
          exact ih (x5 / 2) (x6 / 2) (x7 + 1) o hf hG
        · replace hf := ite_t c11 hf
          refine g_iload k 1 dX1_likelihood_72 rfl ?_
          refine g_iconst k dX1_likelihood_74 ic_5 ?_
          refine g_idiv k dX1_likelihood_75 (by decide) ?_
          refine g_istore k (lv' := [(5, .int ((x5 / 2) / 5)), (6, .int (x6 / 2)), (0, .ref a0), (1, .ref a1), (2, .int x2), (3, .int x3), (4, .int x4), (7, .int x7)]) dX1_likelihood_76 (by decide) rfl ?_
          refine g_iload k 1 dX1_likelihood_78 rfl ?_
          refine g_iconst k dX1_likelihood_80 ic_5 ?_
          refine g_idiv k dX1_likelihood_81 (by decide) ?_
          refine g_istore k (lv' := [(6, .int ((x6 / 2) / 5)), (5, .int ((x5 / 2) / 5)), (0, .ref a0), (1, .ref a1), (2, .int x2), (3, .int x3), (4, .int x4), (7, .int x7)]) dX1_likelihood_82 (by decide) rfl ?_
          refine g_iinc k (lv' := [(7, .int (x7 + 1)), (6, .int ((x6 / 2) / 5)), (5, .int ((x5 / 2) / 5)), (0, .ref a0), (1, .ref a1), (2, .int x2), (3, .int x3), (4, .int x4)]) 7 dX1_likelihood_84 rfl (ii_1 _) (by decide) rfl ?_
          refine g_goto k (tgt := 37) dX1_likelihood_87 (by decide) ?_
          refine g_lv [3, 4, 5, 6, 7, 2, 1, 0] rfl ?_
          exact ih ((x5 / 2) / 5) ((x6 / 2) / 5) (x7 + 1) o hf hG
def fX1_likelihood (N : Nat) (va1_cells : Int32) (va1_people : Int32) (va1_kind : Nat → Int32) (va1_weight : Nat → Int32) (va1_now_boat : Int32) (va1_now_minute : Int32) (va1_now_ice : Nat → Int32) (va1_now_juice : Nat → Int32) (va1_now_fors : Nat → Int32) (x2 : Int32) (x3 : Int32) (x4 : Int32) : Option (Int32) :=
  bnd (fX0_isThrough N va1_cells va1_now_boat) fun o1 =>
  if o1 = 0 then
  bnd (fX1_chances N va1_cells va1_people va1_kind va1_weight va1_now_boat va1_now_minute va1_now_ice va1_now_juice va1_now_fors x2 x3) fun o4 =>
  bnd (fX1_power N 10 va1_people) fun o6 =>
  bnd (fX1_likelihood_L37 N x2 x3 x4 va1_people N o4 o6 0) fun o12 =>
  if x4 = 0 then
  some (o12.2.1)
  else
  some (o12.1)
  else
  bnd (fX1_power N 10 va1_people) fun o15 =>
  bnd (fX1_likelihood_L37 N x2 x3 x4 va1_people N 0 o15 0) fun o17 =>
  if x4 = 0 then
  some (o17.2.1)
  else
  some (o17.1)
set_option maxHeartbeats 4000000 in
set_option maxRecDepth 100000 in
theorem ctX1_likelihood (l : Launch) (E : Ev) (N : Nat) (a0 : Nat) (a0_then : Nat) (a0_marks : Nat) (a1 : Nat) (a1_kind : Nat) (a1_weight : Nat) (a1_now : Nat) (a1_now_ice : Nat) (a1_now_juice : Nat) (a1_now_fors : Nat) (va1_cells : Int32) (va1_people : Int32) (va1_sayings : Int32) (va1_frost : Int32) (va1_kind : Nat → Int32) (va1_weight : Nat → Int32) (va1_now_boat : Int32) (va1_now_minute : Int32) (va1_now_draw : Int32) (va1_now_ice : Nat → Int32) (va1_now_juice : Nat → Int32) (va1_now_fors : Nat → Int32) (x2 : Int32) (x3 : Int32) (x4 : Int32) (out : Int32) (hf : fX1_likelihood N va1_cells va1_people va1_kind va1_weight va1_now_boat va1_now_minute va1_now_ice va1_now_juice va1_now_fors x2 x3 x4 = some out) : Ct l E yX1_likelihood cX1_likelihood 8 (some .int) rmX1_likelihood [.ref a0, .ref a1, .int x2, .int x3, .int x4] [(a0, oB 1 [.ref a0_then, .ref a0_marks]), (a1, oB 0 [.ref a1_kind, .ref a1_weight, .ref a1_now, .int va1_cells, .int va1_people, .int va1_sayings, .int va1_frost]), (a1_kind, aI E 6 va1_kind), (a1_weight, aI E 6 va1_weight), (a1_now, oB 3 [.ref a1_now_ice, .ref a1_now_juice, .ref a1_now_fors, .int va1_now_boat, .int va1_now_minute, .int va1_now_draw]), (a1_now_ice, aI E 12 va1_now_ice), (a1_now_juice, aI E 5 va1_now_juice), (a1_now_fors, aI E 5 va1_now_fors)] (Pe (some (.int out)) [(a0, oB 1 [.ref a0_then, .ref a0_marks]), (a1, oB 0 [.ref a1_kind, .ref a1_weight, .ref a1_now, .int va1_cells, .int va1_people, .int va1_sayings, .int va1_frost]), (a1_kind, aI E 6 va1_kind), (a1_weight, aI E 6 va1_weight), (a1_now, oB 3 [.ref a1_now_ice, .ref a1_now_juice, .ref a1_now_fors, .int va1_now_boat, .int va1_now_minute, .int va1_now_draw]), (a1_now_ice, aI E 12 va1_now_ice), (a1_now_juice, aI E 5 va1_now_juice), (a1_now_fors, aI E 5 va1_now_fors)]) := by
  refine Ct.of rfl (Nat.le_of_ble_eq_true rfl) (fun K hL k r hin => ?_)
  subst hL
  unfold fX1_likelihood at hf
  show G E K 8 0 0 [(0, .ref a0), (1, .ref a1), (2, .int x2), (3, .int x3), (4, .int x4)] [] [(a0, oB 1 [.ref a0_then, .ref a0_marks]), (a1, oB 0 [.ref a1_kind, .ref a1_weight, .ref a1_now, .int va1_cells, .int va1_people, .int va1_sayings, .int va1_frost]), (a1_kind, aI E 6 va1_kind), (a1_weight, aI E 6 va1_weight), (a1_now, oB 3 [.ref a1_now_ice, .ref a1_now_juice, .ref a1_now_fors, .int va1_now_boat, .int va1_now_minute, .int va1_now_draw]), (a1_now_ice, aI E 12 va1_now_ice), (a1_now_juice, aI E 5 va1_now_juice), (a1_now_fors, aI E 5 va1_now_fors)] 0
  refine g_aload_n k 1 dX1_likelihood_0 rfl rfl ?_
  refine g_aload_n k 1 dX1_likelihood_1 rfl rfl ?_
  refine g_get k cfX0 2 1 dX1_likelihood_2 lkX1_22 (by decide) rfl rfl ?_
  obtain ⟨o1, ho2, hf⟩ := bnd_some hf
  refine g_cv k miX0_isThrough mvX0_isThrough (ctX0_isThrough (kL K) E N a1 a1_kind a1_weight a1_now a1_now a1_now_ice a1_now_juice a1_now_fors va1_cells va1_people va1_sayings va1_frost va1_now_boat va1_now_minute va1_now_draw  o1 ho2) [1, 4] 0 (ws' := [(a0, oB 1 [.ref a0_then, .ref a0_marks]), (a1, oB 0 [.ref a1_kind, .ref a1_weight, .ref a1_now, .int va1_cells, .int va1_people, .int va1_sayings, .int va1_frost]), (a1_kind, aI E 6 va1_kind), (a1_weight, aI E 6 va1_weight), (a1_now, oB 3 [.ref a1_now_ice, .ref a1_now_juice, .ref a1_now_fors, .int va1_now_boat, .int va1_now_minute, .int va1_now_draw]), (a1_now_ice, aI E 12 va1_now_ice), (a1_now_juice, aI E 5 va1_now_juice), (a1_now_fors, aI E 5 va1_now_fors)]) dX1_likelihood_5 lkX1_39 rfl ⟨rfl, rfl⟩ ⟨by decide, by decide⟩ rfl rfl rfl rfl (Nat.le_of_ble_eq_true rfl) rfl rfl rfl ?_
  refine g_st (st' := [.int o1]) rfl ?_
  refine g_if_eq k (tgt := 15) dX1_likelihood_8 (by decide) (fun c3 => ?_) (fun c3 => ?_)
  · replace hf := ite_t c3 hf
    refine g_aload_n k 1 dX1_likelihood_15 rfl rfl ?_
    refine g_iload_n k 2 dX1_likelihood_16 rfl rfl ?_
    refine g_iload_n k 3 dX1_likelihood_17 rfl rfl ?_
    obtain ⟨o4, ho5, hf⟩ := bnd_some hf
    refine g_cs k miX1_chances msX1_chances (ctX1_chances (kL K) E N a1 a1_kind a1_weight a1_now a1_now_ice a1_now_juice a1_now_fors va1_cells va1_people va1_sayings va1_frost va1_kind va1_weight va1_now_boat va1_now_minute va1_now_draw va1_now_ice va1_now_juice va1_now_fors x2 x3 o4 ho5) [1, 2, 3, 4, 5, 6, 7] (ws' := [(a0, oB 1 [.ref a0_then, .ref a0_marks]), (a1, oB 0 [.ref a1_kind, .ref a1_weight, .ref a1_now, .int va1_cells, .int va1_people, .int va1_sayings, .int va1_frost]), (a1_kind, aI E 6 va1_kind), (a1_weight, aI E 6 va1_weight), (a1_now, oB 3 [.ref a1_now_ice, .ref a1_now_juice, .ref a1_now_fors, .int va1_now_boat, .int va1_now_minute, .int va1_now_draw]), (a1_now_ice, aI E 12 va1_now_ice), (a1_now_juice, aI E 5 va1_now_juice), (a1_now_fors, aI E 5 va1_now_fors)]) dX1_likelihood_18 lkX1_108 rfl ⟨rfl, rfl⟩ ⟨by decide, by decide⟩ rfl rfl rfl (Nat.le_of_ble_eq_true rfl) rfl rfl rfl ?_
    refine g_st (st' := [.int o4]) rfl ?_
    refine g_istore k (lv' := [(5, .int o4), (0, .ref a0), (1, .ref a1), (2, .int x2), (3, .int x3), (4, .int x4)]) dX1_likelihood_21 (by decide) rfl ?_
    refine g_bipush k dX1_likelihood_23 bi_10 ?_
    refine g_aload_n k 2 dX1_likelihood_25 rfl rfl ?_
    refine g_get k cfX0 4 1 dX1_likelihood_26 lkX1_92 (by decide) rfl rfl ?_
    obtain ⟨o6, ho7, hf⟩ := bnd_some hf
    refine g_cs k miX1_power msX1_power (ctX1_power (kL K) E N   10 va1_people o6 ho7) [] (ws' := [(a0, oB 1 [.ref a0_then, .ref a0_marks]), (a1, oB 0 [.ref a1_kind, .ref a1_weight, .ref a1_now, .int va1_cells, .int va1_people, .int va1_sayings, .int va1_frost]), (a1_kind, aI E 6 va1_kind), (a1_weight, aI E 6 va1_weight), (a1_now, oB 3 [.ref a1_now_ice, .ref a1_now_juice, .ref a1_now_fors, .int va1_now_boat, .int va1_now_minute, .int va1_now_draw]), (a1_now_ice, aI E 12 va1_now_ice), (a1_now_juice, aI E 5 va1_now_juice), (a1_now_fors, aI E 5 va1_now_fors)]) dX1_likelihood_29 lkX1_112 rfl ⟨rfl, rfl⟩ ⟨by decide, by decide⟩ rfl rfl rfl (Nat.le_of_ble_eq_true rfl) rfl rfl rfl ?_
    refine g_st (st' := [.int o6]) rfl ?_
    refine g_istore k (lv' := [(6, .int o6), (5, .int o4), (0, .ref a0), (1, .ref a1), (2, .int x2), (3, .int x3), (4, .int x4)]) dX1_likelihood_32 (by decide) rfl ?_
    refine g_iconst k dX1_likelihood_34 ic_0 ?_
    refine g_istore k (lv' := [(7, .int 0), (6, .int o6), (5, .int o4), (0, .ref a0), (1, .ref a1), (2, .int x2), (3, .int x3), (4, .int x4)]) dX1_likelihood_35 (by decide) rfl ?_
    obtain ⟨o12, ho13, hf⟩ := bnd_some hf
    refine g_lv [3, 4, 5, 6, 7, 2, 1, 0] (lv' := [(0, .ref a0), (1, .ref a1), (2, .int x2), (3, .int x3), (4, .int x4), (5, .int o4), (6, .int o6), (7, .int 0)]) rfl ?_
    refine wX1_likelihood_L37 k N a0 a0_then a0_marks a1 a1_kind a1_weight a1_now a1_now_ice a1_now_juice a1_now_fors  x2 x3 x4 va1_people va1_cells va1_sayings va1_frost va1_kind va1_weight va1_now_boat va1_now_minute va1_now_draw va1_now_ice va1_now_juice va1_now_fors N o4 o6 0 o12 ho13 ?_
    refine g_iload k 4 dX1_likelihood_90 rfl ?_
    refine g_if_eq k (tgt := 100) dX1_likelihood_92 (by decide) (fun c14 => ?_) (fun c14 => ?_)
    · replace hf := ite_t c14 hf
      refine g_iload k 6 dX1_likelihood_100 rfl ?_
      obtain rfl := Option.some.inj hf
      exact g_iret k r dX1_likelihood_102 ⟨rfl, rfl⟩
    · replace hf := ite_f c14 hf
      refine g_iload k 5 dX1_likelihood_95 rfl ?_
      refine g_goto k (tgt := 102) dX1_likelihood_97 (by decide) ?_
      obtain rfl := Option.some.inj hf
      exact g_iret k r dX1_likelihood_102 ⟨rfl, rfl⟩
  · replace hf := ite_f c3 hf
    refine g_iconst k dX1_likelihood_11 ic_0 ?_
    refine g_goto k (tgt := 21) dX1_likelihood_12 (by decide) ?_
    refine g_istore k (lv' := [(5, .int 0), (0, .ref a0), (1, .ref a1), (2, .int x2), (3, .int x3), (4, .int x4)]) dX1_likelihood_21 (by decide) rfl ?_
    refine g_bipush k dX1_likelihood_23 bi_10 ?_
    refine g_aload_n k 2 dX1_likelihood_25 rfl rfl ?_
    refine g_get k cfX0 4 1 dX1_likelihood_26 lkX1_92 (by decide) rfl rfl ?_
    obtain ⟨o15, ho16, hf⟩ := bnd_some hf
    refine g_cs k miX1_power msX1_power (ctX1_power (kL K) E N   10 va1_people o15 ho16) [] (ws' := [(a0, oB 1 [.ref a0_then, .ref a0_marks]), (a1, oB 0 [.ref a1_kind, .ref a1_weight, .ref a1_now, .int va1_cells, .int va1_people, .int va1_sayings, .int va1_frost]), (a1_kind, aI E 6 va1_kind), (a1_weight, aI E 6 va1_weight), (a1_now, oB 3 [.ref a1_now_ice, .ref a1_now_juice, .ref a1_now_fors, .int va1_now_boat, .int va1_now_minute, .int va1_now_draw]), (a1_now_ice, aI E 12 va1_now_ice), (a1_now_juice, aI E 5 va1_now_juice), (a1_now_fors, aI E 5 va1_now_fors)]) dX1_likelihood_29 lkX1_112 rfl ⟨rfl, rfl⟩ ⟨by decide, by decide⟩ rfl rfl rfl (Nat.le_of_ble_eq_true rfl) rfl rfl rfl ?_
    refine g_st (st' := [.int o15]) rfl ?_
    refine g_istore k (lv' := [(6, .int o15), (5, .int 0), (0, .ref a0), (1, .ref a1), (2, .int x2), (3, .int x3), (4, .int x4)]) dX1_likelihood_32 (by decide) rfl ?_
    refine g_iconst k dX1_likelihood_34 ic_0 ?_
    refine g_istore k (lv' := [(7, .int 0), (6, .int o15), (5, .int 0), (0, .ref a0), (1, .ref a1), (2, .int x2), (3, .int x3), (4, .int x4)]) dX1_likelihood_35 (by decide) rfl ?_
    obtain ⟨o17, ho18, hf⟩ := bnd_some hf
    refine g_lv [3, 4, 5, 6, 7, 2, 1, 0] (lv' := [(0, .ref a0), (1, .ref a1), (2, .int x2), (3, .int x3), (4, .int x4), (5, .int 0), (6, .int o15), (7, .int 0)]) rfl ?_
    refine wX1_likelihood_L37 k N a0 a0_then a0_marks a1 a1_kind a1_weight a1_now a1_now_ice a1_now_juice a1_now_fors  x2 x3 x4 va1_people va1_cells va1_sayings va1_frost va1_kind va1_weight va1_now_boat va1_now_minute va1_now_draw va1_now_ice va1_now_juice va1_now_fors N 0 o15 0 o17 ho18 ?_
    refine g_iload k 4 dX1_likelihood_90 rfl ?_
    refine g_if_eq k (tgt := 100) dX1_likelihood_92 (by decide) (fun c19 => ?_) (fun c19 => ?_)
    · replace hf := ite_t c19 hf
      refine g_iload k 6 dX1_likelihood_100 rfl ?_
      obtain rfl := Option.some.inj hf
      exact g_iret k r dX1_likelihood_102 ⟨rfl, rfl⟩
    · replace hf := ite_f c19 hf
      refine g_iload k 5 dX1_likelihood_95 rfl ?_
      refine g_goto k (tgt := 102) dX1_likelihood_97 (by decide) ?_
      obtain rfl := Option.some.inj hf
      exact g_iret k r dX1_likelihood_102 ⟨rfl, rfl⟩
abbrev rmX5_begin : Room := { frames := 0, cells := 0, slots := 0, locals := 0 }
def fX5_begin_L12 (N : Nat) (x1 : Int32) (x2 : Int32) : Nat → Int32 → (Nat → Int64) → Option (Int32 × (Nat → Int64))
  | 0, _, _ => none
  | n + 1, x3, va0_items =>
    if x2 ≤ x3 then
    some (x3, va0_items)
    else
    ixb x3 24 fun κ2 =>
    fX5_begin_L12 N x1 x2 n (x3 + 1) (vp_updL va0_items κ2 0)
set_option maxHeartbeats 4000000 in
set_option maxRecDepth 100000 in
theorem wX5_begin_L12 {E : Ev} {K : KX} (k : OKX E K cX5_begin RX5 4 rmX5_begin) (N : Nat) (a0 : Nat) (a0_items : Nat) (x1 : Int32) (x2 : Int32) (va0_lane : Int32) (va0_length : Int32) : ∀ (n : Nat) (x3 : Int32) (va0_items : Nat → Int64) (o : Int32 × (Nat → Int64)), fX5_begin_L12 N x1 x2 n x3 va0_items = some o → G E K 4 0 0 [(0, .ref a0), (1, .int x1), (2, .int x2), (3, .int o.1)] [] [(a0, oB 5 [.ref a0_items, .int va0_lane, .int va0_length]), (a0_items, aJ E 24 o.2)] 30 → G E K 4 0 0 [(0, .ref a0), (1, .int x1), (2, .int x2), (3, .int x3)] [] [(a0, oB 5 [.ref a0_items, .int va0_lane, .int va0_length]), (a0_items, aJ E 24 va0_items)] 12 := by
  intro n
  induction n with
  | zero => intro x3 va0_items o hf; cases hf
  | succ n ih =>
    intro x3 va0_items o hf hG
    rw [fX5_begin_L12] at hf
    refine g_iload_n k 3 dX5_begin_12 rfl rfl ?_
    refine g_iload_n k 2 dX5_begin_13 rfl rfl ?_
    refine g_icmp_ge k (tgt := 30) dX5_begin_14 (by decide) (fun c1 => ?_) (fun c1 => ?_)
    · replace hf := ite_t c1 hf
      refine g_lv [0, 1, 2, 3] rfl ?_
      obtain rfl := Option.some.inj hf
      exact hG
    · replace hf := ite_f c1 hf
      refine g_aload_n k 0 dX5_begin_17 rfl rfl ?_
      refine g_get k cfX5 0 0 dX5_begin_18 lkX5_9 (by decide) rfl rfl ?_
      refine g_iload_n k 3 dX5_begin_21 rfl rfl ?_
      refine g_lconst k dX5_begin_22 lc_0 ?_
      obtain ⟨κ2, hκ2, hiκ2, heκ2, hf⟩ := ixb_some hf
      refine g_lastore k 1 (ws' := [(a0, oB 5 [.ref a0_items, .int va0_lane, .int va0_length]), (a0_items, aJ E 24 (vp_updL va0_items κ2 0))]) dX5_begin_23 rfl hiκ2 heκ2 rfl ?_
      refine g_iinc k (lv' := [(3, .int (x3 + 1)), (0, .ref a0), (1, .int x1), (2, .int x2)]) 3 dX5_begin_24 rfl (ii_1 _) (by decide) rfl ?_
      refine g_goto k (tgt := 12) dX5_begin_27 (by decide) ?_
      refine g_lv [1, 2, 3, 0] rfl ?_
      exact ih (x3 + 1) (vp_updL va0_items κ2 0) o hf hG
def fX5_begin (N : Nat) (va0_lane : Int32) (va0_length : Int32) (va0_items : Nat → Int64) (x1 : Int32) (x2 : Int32) : Option (Int32 × Int32 × (Nat → Int64)) :=
  bnd (fX5_begin_L12 N x1 x2 N 0 va0_items) fun o3 =>
  some (x1, x2, o3.2)
set_option maxHeartbeats 4000000 in
set_option maxRecDepth 100000 in
theorem ctX5_begin (l : Launch) (E : Ev) (N : Nat) (a0 : Nat) (a0_items : Nat) (va0_lane : Int32) (va0_length : Int32) (va0_items : Nat → Int64) (x1 : Int32) (x2 : Int32) (out : Int32 × Int32 × (Nat → Int64)) (hf : fX5_begin N va0_lane va0_length va0_items x1 x2 = some out) : Ct l E yX5_begin cX5_begin 4 none rmX5_begin [.ref a0, .int x1, .int x2] [(a0, oB 5 [.ref a0_items, .int va0_lane, .int va0_length]), (a0_items, aJ E 24 va0_items)] (Pe none [(a0, oB 5 [.ref a0_items, .int out.1, .int out.2.1]), (a0_items, aJ E 24 out.2.2)]) := by
  refine Ct.of rfl (Nat.le_of_ble_eq_true rfl) (fun K hL k r hin => ?_)
  subst hL
  unfold fX5_begin at hf
  show G E K 4 0 0 [(0, .ref a0), (1, .int x1), (2, .int x2)] [] [(a0, oB 5 [.ref a0_items, .int va0_lane, .int va0_length]), (a0_items, aJ E 24 va0_items)] 0
  refine g_aload_n k 0 dX5_begin_0 rfl rfl ?_
  refine g_iload_n k 1 dX5_begin_1 rfl rfl ?_
  refine g_put k cfX5 1 0 (ws' := [(a0, oB 5 [.ref a0_items, .int x1, .int va0_length]), (a0_items, aJ E 24 va0_items)]) dX5_begin_2 lkX5_15 (by decide) rfl rfl rfl rfl (Nat.le_of_ble_eq_true rfl) rfl ?_
  refine g_aload_n k 0 dX5_begin_5 rfl rfl ?_
  refine g_iload_n k 2 dX5_begin_6 rfl rfl ?_
  refine g_put k cfX5 2 0 (ws' := [(a0, oB 5 [.ref a0_items, .int x1, .int x2]), (a0_items, aJ E 24 va0_items)]) dX5_begin_7 lkX5_19 (by decide) rfl rfl rfl rfl (Nat.le_of_ble_eq_true rfl) rfl ?_
  refine g_iconst k dX5_begin_10 ic_0 ?_
  refine g_istore_n k (lv' := [(3, .int 0), (0, .ref a0), (1, .int x1), (2, .int x2)]) dX5_begin_11 rfl (by decide) rfl ?_
  obtain ⟨o3, ho4, hf⟩ := bnd_some hf
  refine g_lv [1, 2, 3, 0] (lv' := [(0, .ref a0), (1, .int x1), (2, .int x2), (3, .int 0)]) rfl ?_
  refine wX5_begin_L12 k N a0 a0_items  x1 x2 x1 x2 N 0 va0_items o3 ho4 ?_
  obtain rfl := Option.some.inj hf
  exact g_vret k r dX5_begin_30 ⟨rfl, rfl⟩
abbrev rmX5_end : Room := { frames := 0, cells := 0, slots := 0, locals := 0 }
def fX5_end (N : Nat) (va0_length : Int32)  : Option (Int32) :=
  some ((-1))
set_option maxHeartbeats 4000000 in
set_option maxRecDepth 100000 in
theorem ctX5_end (l : Launch) (E : Ev) (N : Nat) (a0 : Nat) (a0_items : Nat) (va0_lane : Int32) (va0_length : Int32)  (out : Int32) (hf : fX5_end N va0_length  = some out) : Ct l E yX5_end cX5_end 1 none rmX5_end [.ref a0] [(a0, oB 5 [.ref a0_items, .int va0_lane, .int va0_length])] (Pe none [(a0, oB 5 [.ref a0_items, .int va0_lane, .int out])]) := by
  refine Ct.of rfl (Nat.le_of_ble_eq_true rfl) (fun K hL k r hin => ?_)
  subst hL
  unfold fX5_end at hf
  show G E K 1 0 0 [(0, .ref a0)] [] [(a0, oB 5 [.ref a0_items, .int va0_lane, .int va0_length])] 0
  refine g_aload_n k 0 dX5_end_0 rfl rfl ?_
  refine g_iconst k dX5_end_1 ic_m1 ?_
  refine g_put k cfX5 2 0 (ws' := [(a0, oB 5 [.ref a0_items, .int va0_lane, .int (-1)])]) dX5_end_2 lkX5_19 (by decide) rfl rfl rfl rfl (Nat.le_of_ble_eq_true rfl) rfl ?_
  obtain rfl := Option.some.inj hf
  exact g_vret k r dX5_end_5 ⟨rfl, rfl⟩
abbrev rmX5_isNothing : Room := { frames := 0, cells := 0, slots := 0, locals := 0 }
def fX5_isNothing (N : Nat) (va0_length : Int32)  : Option (Int32) :=
  if 0 ≤ va0_length then
  some (0)
  else
  some (1)
set_option maxHeartbeats 4000000 in
set_option maxRecDepth 100000 in
theorem ctX5_isNothing (l : Launch) (E : Ev) (N : Nat) (a0 : Nat) (a0_items : Nat) (va0_lane : Int32) (va0_length : Int32)  (out : Int32) (hf : fX5_isNothing N va0_length  = some out) : Ct l E yX5_isNothing cX5_isNothing 1 (some .boolean) rmX5_isNothing [.ref a0] [(a0, oB 5 [.ref a0_items, .int va0_lane, .int va0_length])] (Pe (some (.int out)) [(a0, oB 5 [.ref a0_items, .int va0_lane, .int va0_length])]) := by
  refine Ct.of rfl (Nat.le_of_ble_eq_true rfl) (fun K hL k r hin => ?_)
  subst hL
  unfold fX5_isNothing at hf
  show G E K 1 0 0 [(0, .ref a0)] [] [(a0, oB 5 [.ref a0_items, .int va0_lane, .int va0_length])] 0
  refine g_aload_n k 0 dX5_isNothing_0 rfl rfl ?_
  refine g_get k cfX5 2 0 dX5_isNothing_1 lkX5_19 (by decide) rfl rfl ?_
  refine g_if_ge k (tgt := 11) dX5_isNothing_4 (by decide) (fun c1 => ?_) (fun c1 => ?_)
  · replace hf := ite_t c1 hf
    refine g_iconst k dX5_isNothing_11 ic_0 ?_
    obtain rfl := Option.some.inj hf
    exact g_zret k (rfl) r dX5_isNothing_12 ⟨rfl, rfl⟩
  · replace hf := ite_f c1 hf
    refine g_iconst k dX5_isNothing_7 ic_1 ?_
    refine g_goto k (tgt := 12) dX5_isNothing_8 (by decide) ?_
    obtain rfl := Option.some.inj hf
    exact g_zret k (rfl) r dX5_isNothing_12 ⟨rfl, rfl⟩
abbrev rmX5_holds : Room := { frames := 0, cells := 0, slots := 0, locals := 0 }
def fX5_holds (N : Nat) (va0_length : Int32) (x1 : Int32) (x2 : Int32) : Option (Int32) :=
  if x1 < 0 then
  some (0)
  else
  if x2 < 0 then
  some (0)
  else
  if (va0_length - x2) < x1 then
  some (0)
  else
  some (1)
set_option maxHeartbeats 4000000 in
set_option maxRecDepth 100000 in
theorem ctX5_holds (l : Launch) (E : Ev) (N : Nat) (a0 : Nat) (a0_items : Nat) (va0_lane : Int32) (va0_length : Int32) (x1 : Int32) (x2 : Int32) (out : Int32) (hf : fX5_holds N va0_length x1 x2 = some out) : Ct l E yX5_holds cX5_holds 3 (some .boolean) rmX5_holds [.ref a0, .int x1, .int x2] [(a0, oB 5 [.ref a0_items, .int va0_lane, .int va0_length])] (Pe (some (.int out)) [(a0, oB 5 [.ref a0_items, .int va0_lane, .int va0_length])]) := by
  refine Ct.of rfl (Nat.le_of_ble_eq_true rfl) (fun K hL k r hin => ?_)
  subst hL
  unfold fX5_holds at hf
  show G E K 3 0 0 [(0, .ref a0), (1, .int x1), (2, .int x2)] [] [(a0, oB 5 [.ref a0_items, .int va0_lane, .int va0_length])] 0
  refine g_iload_n k 1 dX5_holds_0 rfl rfl ?_
  refine g_if_lt k (tgt := 22) dX5_holds_1 (by decide) (fun c1 => ?_) (fun c1 => ?_)
  · replace hf := ite_t c1 hf
    refine g_iconst k dX5_holds_22 ic_0 ?_
    obtain rfl := Option.some.inj hf
    exact g_zret k (rfl) r dX5_holds_23 ⟨rfl, rfl⟩
  · replace hf := ite_f c1 hf
    refine g_iload_n k 2 dX5_holds_4 rfl rfl ?_
    refine g_if_lt k (tgt := 22) dX5_holds_5 (by decide) (fun c2 => ?_) (fun c2 => ?_)
    · replace hf := ite_t c2 hf
      refine g_iconst k dX5_holds_22 ic_0 ?_
      obtain rfl := Option.some.inj hf
      exact g_zret k (rfl) r dX5_holds_23 ⟨rfl, rfl⟩
    · replace hf := ite_f c2 hf
      refine g_iload_n k 1 dX5_holds_8 rfl rfl ?_
      refine g_aload_n k 0 dX5_holds_9 rfl rfl ?_
      refine g_get k cfX5 2 0 dX5_holds_10 lkX5_19 (by decide) rfl rfl ?_
      refine g_iload_n k 2 dX5_holds_13 rfl rfl ?_
      refine g_isub k dX5_holds_14 ?_
      refine g_icmp_gt k (tgt := 22) dX5_holds_15 (by decide) (fun c3 => ?_) (fun c3 => ?_)
      · replace hf := ite_t c3 hf
        refine g_iconst k dX5_holds_22 ic_0 ?_
        obtain rfl := Option.some.inj hf
        exact g_zret k (rfl) r dX5_holds_23 ⟨rfl, rfl⟩
      · replace hf := ite_f c3 hf
        refine g_iconst k dX5_holds_18 ic_1 ?_
        refine g_goto k (tgt := 23) dX5_holds_19 (by decide) ?_
        obtain rfl := Option.some.inj hf
        exact g_zret k (rfl) r dX5_holds_23 ⟨rfl, rfl⟩
abbrev rmX5_refusal : Room := { frames := 1, cells := 0, slots := 0, locals := 22 }
def fX5_refusal (N : Nat) (va0_lane : Int32) (va0_length : Int32) (x1 : Int32) (x2 : Int32) (x3 : Int32) : Option (Int32) :=
  bnd (fX5_isNothing N va0_length) fun o1 =>
  if o1 = 0 then
  if va0_lane = x1 then
  bnd (fX5_holds N va0_length x2 x3) fun o5 =>
  if o5 = 0 then
  some ((-13))
  else
  some (0)
  else
  some ((-12))
  else
  some ((-11))
set_option maxHeartbeats 4000000 in
set_option maxRecDepth 100000 in
theorem ctX5_refusal (l : Launch) (E : Ev) (N : Nat) (a0 : Nat) (a0_items : Nat) (va0_lane : Int32) (va0_length : Int32) (x1 : Int32) (x2 : Int32) (x3 : Int32) (out : Int32) (hf : fX5_refusal N va0_lane va0_length x1 x2 x3 = some out) : Ct l E yX5_refusal cX5_refusal 4 (some .int) rmX5_refusal [.ref a0, .int x1, .int x2, .int x3] [(a0, oB 5 [.ref a0_items, .int va0_lane, .int va0_length])] (Pe (some (.int out)) [(a0, oB 5 [.ref a0_items, .int va0_lane, .int va0_length])]) := by
  refine Ct.of rfl (Nat.le_of_ble_eq_true rfl) (fun K hL k r hin => ?_)
  subst hL
  unfold fX5_refusal at hf
  show G E K 4 0 0 [(0, .ref a0), (1, .int x1), (2, .int x2), (3, .int x3)] [] [(a0, oB 5 [.ref a0_items, .int va0_lane, .int va0_length])] 0
  refine g_aload_n k 0 dX5_refusal_0 rfl rfl ?_
  obtain ⟨o1, ho2, hf⟩ := bnd_some hf
  refine g_cv k miX5_isNothing mvX5_isNothing (ctX5_isNothing (kL K) E N a0 a0_items va0_lane va0_length  o1 ho2) [0] 0 (ws' := [(a0, oB 5 [.ref a0_items, .int va0_lane, .int va0_length])]) dX5_refusal_1 lkX5_22 rfl ⟨rfl, rfl⟩ ⟨by decide, by decide⟩ rfl rfl rfl rfl (Nat.le_of_ble_eq_true rfl) rfl rfl rfl ?_
  refine g_st (st' := [.int o1]) rfl ?_
  refine g_if_eq k (tgt := 10) dX5_refusal_4 (by decide) (fun c3 => ?_) (fun c3 => ?_)
  · replace hf := ite_t c3 hf
    refine g_aload_n k 0 dX5_refusal_10 rfl rfl ?_
    refine g_get k cfX5 1 0 dX5_refusal_11 lkX5_15 (by decide) rfl rfl ?_
    refine g_iload_n k 1 dX5_refusal_14 rfl rfl ?_
    refine g_icmp_eq k (tgt := 21) dX5_refusal_15 (by decide) (fun c4 => ?_) (fun c4 => ?_)
    · replace hf := ite_t c4 hf
      refine g_aload_n k 0 dX5_refusal_21 rfl rfl ?_
      refine g_iload_n k 2 dX5_refusal_22 rfl rfl ?_
      refine g_iload_n k 3 dX5_refusal_23 rfl rfl ?_
      obtain ⟨o5, ho6, hf⟩ := bnd_some hf
      refine g_cv k miX5_holds mvX5_holds (ctX5_holds (kL K) E N a0 a0_items va0_lane va0_length x2 x3 o5 ho6) [0] 0 (ws' := [(a0, oB 5 [.ref a0_items, .int va0_lane, .int va0_length])]) dX5_refusal_24 lkX5_26 rfl ⟨rfl, rfl⟩ ⟨by decide, by decide⟩ rfl rfl rfl rfl (Nat.le_of_ble_eq_true rfl) rfl rfl rfl ?_
      refine g_st (st' := [.int o5]) rfl ?_
      refine g_if_eq k (tgt := 34) dX5_refusal_27 (by decide) (fun c7 => ?_) (fun c7 => ?_)
      · replace hf := ite_t c7 hf
        refine g_bipush k dX5_refusal_34 bi_m13 ?_
        obtain rfl := Option.some.inj hf
        exact g_iret k r dX5_refusal_36 ⟨rfl, rfl⟩
      · replace hf := ite_f c7 hf
        refine g_iconst k dX5_refusal_30 ic_0 ?_
        refine g_goto k (tgt := 36) dX5_refusal_31 (by decide) ?_
        obtain rfl := Option.some.inj hf
        exact g_iret k r dX5_refusal_36 ⟨rfl, rfl⟩
    · replace hf := ite_f c4 hf
      refine g_bipush k dX5_refusal_18 bi_m12 ?_
      obtain rfl := Option.some.inj hf
      exact g_iret k r dX5_refusal_20 ⟨rfl, rfl⟩
  · replace hf := ite_f c3 hf
    refine g_bipush k dX5_refusal_7 bi_m11 ?_
    obtain rfl := Option.some.inj hf
    exact g_iret k r dX5_refusal_9 ⟨rfl, rfl⟩
abbrev rmX5_put : Room := { frames := 0, cells := 0, slots := 0, locals := 0 }
def fX5_put (N : Nat) (va0_lane : Int32) (va0_items : Nat → Int64) (x1 : Int32) (x2 : Int64) : Option ((Nat → Int64)) :=
  if va0_lane = 0 then
  ixb x1 24 fun κ2 =>
  some ((vp_updL va0_items κ2 x2.toInt32.toInt8.toInt32.toInt64))
  else
  if va0_lane = 1 then
  ixb x1 24 fun κ4 =>
  some ((vp_updL va0_items κ4 x2.toInt32.toInt16.toInt32.toInt64))
  else
  if va0_lane = 2 then
  ixb x1 24 fun κ6 =>
  some ((vp_updL va0_items κ6 x2.toInt32.toInt64))
  else
  ixb x1 24 fun κ7 =>
  some ((vp_updL va0_items κ7 x2))
set_option maxHeartbeats 4000000 in
set_option maxRecDepth 100000 in
theorem ctX5_put (l : Launch) (E : Ev) (N : Nat) (a0 : Nat) (a0_items : Nat) (va0_lane : Int32) (va0_length : Int32) (va0_items : Nat → Int64) (x1 : Int32) (x2 : Int64) (out : (Nat → Int64)) (hf : fX5_put N va0_lane va0_items x1 x2 = some out) : Ct l E yX5_put cX5_put 4 none rmX5_put [.ref a0, .int x1, .long x2] [(a0, oB 5 [.ref a0_items, .int va0_lane, .int va0_length]), (a0_items, aJ E 24 va0_items)] (Pe none [(a0, oB 5 [.ref a0_items, .int va0_lane, .int va0_length]), (a0_items, aJ E 24 out)]) := by
  refine Ct.of rfl (Nat.le_of_ble_eq_true rfl) (fun K hL k r hin => ?_)
  subst hL
  unfold fX5_put at hf
  show G E K 4 0 0 [(0, .ref a0), (1, .int x1), (2, .long x2)] [] [(a0, oB 5 [.ref a0_items, .int va0_lane, .int va0_length]), (a0_items, aJ E 24 va0_items)] 0
  refine g_aload_n k 0 dX5_put_0 rfl rfl ?_
  refine g_get k cfX5 1 0 dX5_put_1 lkX5_15 (by decide) rfl rfl ?_
  by_cases c1 : va0_lane = 0
  · replace hf := ite_t c1 hf
    refine g_tabIn k (tgt := 32) dX5_put_4 (by rw [c1]; decide) (by rw [c1]; decide) (off := 28) (by rw [c1]; rfl) (by decide) ?_
    refine g_aload_n k 0 dX5_put_32 rfl rfl ?_
    refine g_get k cfX5 0 0 dX5_put_33 lkX5_9 (by decide) rfl rfl ?_
    refine g_iload_n k 1 dX5_put_36 rfl rfl ?_
    refine g_lload_n k 2 dX5_put_37 rfl rfl ?_
    refine g_l2i k dX5_put_38 ?_
    refine g_i2b k dX5_put_39 ?_
    refine g_i2l k dX5_put_40 ?_
    obtain ⟨κ2, hκ2, hiκ2, heκ2, hf⟩ := ixb_some hf
    refine g_lastore k 1 (ws' := [(a0, oB 5 [.ref a0_items, .int va0_lane, .int va0_length]), (a0_items, aJ E 24 (vp_updL va0_items κ2 x2.toInt32.toInt8.toInt32.toInt64))]) dX5_put_41 rfl hiκ2 heκ2 rfl ?_
    refine g_goto k (tgt := 77) dX5_put_42 (by decide) ?_
    obtain rfl := Option.some.inj hf
    exact g_vret k r dX5_put_77 ⟨rfl, rfl⟩
  replace hf := ite_f c1 hf
  by_cases c3 : va0_lane = 1
  · replace hf := ite_t c3 hf
    refine g_tabIn k (tgt := 45) dX5_put_4 (by rw [c3]; decide) (by rw [c3]; decide) (off := 41) (by rw [c3]; rfl) (by decide) ?_
    refine g_aload_n k 0 dX5_put_45 rfl rfl ?_
    refine g_get k cfX5 0 0 dX5_put_46 lkX5_9 (by decide) rfl rfl ?_
    refine g_iload_n k 1 dX5_put_49 rfl rfl ?_
    refine g_lload_n k 2 dX5_put_50 rfl rfl ?_
    refine g_l2i k dX5_put_51 ?_
    refine g_i2s k dX5_put_52 ?_
    refine g_i2l k dX5_put_53 ?_
    obtain ⟨κ4, hκ4, hiκ4, heκ4, hf⟩ := ixb_some hf
    refine g_lastore k 1 (ws' := [(a0, oB 5 [.ref a0_items, .int va0_lane, .int va0_length]), (a0_items, aJ E 24 (vp_updL va0_items κ4 x2.toInt32.toInt16.toInt32.toInt64))]) dX5_put_54 rfl hiκ4 heκ4 rfl ?_
    refine g_goto k (tgt := 77) dX5_put_55 (by decide) ?_
    obtain rfl := Option.some.inj hf
    exact g_vret k r dX5_put_77 ⟨rfl, rfl⟩
  replace hf := ite_f c3 hf
  by_cases c5 : va0_lane = 2
  · replace hf := ite_t c5 hf
    refine g_tabIn k (tgt := 58) dX5_put_4 (by rw [c5]; decide) (by rw [c5]; decide) (off := 54) (by rw [c5]; rfl) (by decide) ?_
    refine g_aload_n k 0 dX5_put_58 rfl rfl ?_
    refine g_get k cfX5 0 0 dX5_put_59 lkX5_9 (by decide) rfl rfl ?_
    refine g_iload_n k 1 dX5_put_62 rfl rfl ?_
    refine g_lload_n k 2 dX5_put_63 rfl rfl ?_
    refine g_l2i k dX5_put_64 ?_
    refine g_i2l k dX5_put_65 ?_
    obtain ⟨κ6, hκ6, hiκ6, heκ6, hf⟩ := ixb_some hf
    refine g_lastore k 1 (ws' := [(a0, oB 5 [.ref a0_items, .int va0_lane, .int va0_length]), (a0_items, aJ E 24 (vp_updL va0_items κ6 x2.toInt32.toInt64))]) dX5_put_66 rfl hiκ6 heκ6 rfl ?_
    refine g_goto k (tgt := 77) dX5_put_67 (by decide) ?_
    obtain rfl := Option.some.inj hf
    exact g_vret k r dX5_put_77 ⟨rfl, rfl⟩
  replace hf := ite_f c5 hf
  refine g_tabOut k (tgt := 70) dX5_put_4 (by have := lv_neT (k := 0) c1 (a := 0) (by decide); have := lv_neT (k := 1) c3 (a := 1) (by decide); have := lv_neT (k := 2) c5 (a := 2) (by decide); omega) (by decide) ?_
  refine g_aload_n k 0 dX5_put_70 rfl rfl ?_
  refine g_get k cfX5 0 0 dX5_put_71 lkX5_9 (by decide) rfl rfl ?_
  refine g_iload_n k 1 dX5_put_74 rfl rfl ?_
  refine g_lload_n k 2 dX5_put_75 rfl rfl ?_
  obtain ⟨κ7, hκ7, hiκ7, heκ7, hf⟩ := ixb_some hf
  refine g_lastore k 1 (ws' := [(a0, oB 5 [.ref a0_items, .int va0_lane, .int va0_length]), (a0_items, aJ E 24 (vp_updL va0_items κ7 x2))]) dX5_put_76 rfl hiκ7 heκ7 rfl ?_
  obtain rfl := Option.some.inj hf
  exact g_vret k r dX5_put_77 ⟨rfl, rfl⟩
