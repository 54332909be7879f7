theorem tbm_in {w : Cond} (h : w ∈ lw_tbl) (g : goodWord w = true) : w ∈ tb := List.mem_filter.mpr ⟨h, g⟩
theorem tbm0 (i : Nat) {w : Cond} (h : (k2_sels lw_privs)[i]? = some w) (g : goodWord w = true) : w ∈ tb := tbm_in (List.mem_append_left _ (List.mem_of_getElem? h)) g
theorem tbm1 (i : Nat) {w : Cond} (h : tables_1_1[i]? = some w) (g : goodWord w = true) : w ∈ tb := tbm_in (List.mem_append_right _ (List.mem_append_left _ (List.mem_of_getElem? h))) g
theorem tbm2 (i : Nat) {w : Cond} (h : tables_1_2[i]? = some w) (g : goodWord w = true) : w ∈ tb := tbm_in (List.mem_append_right _ (List.mem_append_right _ (List.mem_append_left _ (List.mem_of_getElem? h)))) g
theorem tbm3 (i : Nat) {w : Cond} (h : tables_1_3[i]? = some w) (g : goodWord w = true) : w ∈ tb := tbm_in (List.mem_append_right _ (List.mem_append_right _ (List.mem_append_right _ (List.mem_append_left _ (List.mem_of_getElem? h))))) g
theorem tbm4 (i : Nat) {w : Cond} (h : tables_1_4[i]? = some w) (g : goodWord w = true) : w ∈ tb := tbm_in (List.mem_append_right _ (List.mem_append_right _ (List.mem_append_right _ (List.mem_append_right _ (List.mem_append_left _ (List.mem_of_getElem? h)))))) g
theorem tbm5 (i : Nat) {w : Cond} (h : tables_1_5[i]? = some w) (g : goodWord w = true) : w ∈ tb := tbm_in (List.mem_append_right _ (List.mem_append_right _ (List.mem_append_right _ (List.mem_append_right _ (List.mem_append_right _ (List.mem_append_left _ (List.mem_of_getElem? h))))))) g
theorem tbm6 (i : Nat) {w : Cond} (h : tables_1_6[i]? = some w) (g : goodWord w = true) : w ∈ tb := tbm_in (List.mem_append_right _ (List.mem_append_right _ (List.mem_append_right _ (List.mem_append_right _ (List.mem_append_right _ (List.mem_append_right _ (List.mem_of_getElem? h))))))) g
/-! words of the pure functions -/
def bnd {α β : Type} (x : Option α) (f : α → Option β) : Option β := match x with
  | none => none
  | some a => f a
theorem bnd_some {α β : Type} {x : Option α} {f : α → Option β} {o : β} (h : bnd x f = some o) : ∃ a, x = some a ∧ f a = some o := by
  cases x with
  | none => cases h
  | some a => exact ⟨a, rfl, h⟩
theorem bnd_eq {α β : Type} {x : Option α} {f : α → Option β} {a : α} (h : x = some a) : bnd x f = f a := by rw [h]; rfl
def inb (i : Int32) (n : Nat) : Bool := decide (0 ≤ i.toInt) && decide (i.toInt < n)
theorem inb_vp {i : Int32} {n : Nat} (h : inb i n = true) : vp_in i n := by
  simp only [inb, Bool.and_eq_true, decide_eq_true_eq] at h
  exact vp_in_iff.mpr h
def ixb {β : Type} (i : Int32) (n : Nat) (f : Nat → Option β) : Option β := if inb i n = true then f i.toNatClampNeg else none
theorem ixb_some {β : Type} {i : Int32} {n : Nat} {f : Nat → Option β} {o : β} (h : ixb i n f = some o) : ∃ κ : Nat, κ < n ∧ vp_in i n ∧ i.toNatClampNeg = κ ∧ f κ = some o := by
  unfold ixb at h
  by_cases hi : inb i n = true
  · rw [if_pos hi] at h
    have hv := inb_vp hi
    exact ⟨_, Nat.not_le.mp fun q => hv (Or.inr q), hv, rfl, h⟩
  · rw [if_neg hi] at h; cases h
def dvb {β : Type} (y : Int32) (x : Option β) : Option β := if y = 0 then none else x
theorem dvb_some {β : Type} {y : Int32} {x : Option β} {o : β} (h : dvb y x = some o) : ¬ y = 0 ∧ x = some o := by
  unfold dvb at h
  by_cases hy : y = 0
  · rw [if_pos hy] at h; cases h
  · rw [if_neg hy] at h; exact ⟨hy, h⟩
def zb {β : Type} (y : Int32) (x : Option β) : Option β := if y = 0 ∨ y = 1 then x else none
theorem zb_some {β : Type} {y : Int32} {x : Option β} {o : β} (h : zb y x = some o) : (y = 0 ∨ y = 1) ∧ x = some o := by
  unfold zb at h
  by_cases hy : y = 0 ∨ y = 1
  · rw [if_pos hy] at h; exact ⟨hy, h⟩
  · rw [if_neg hy] at h; cases h
theorem zb_nar {y : Int32} (h : y = 0 ∨ y = 1) : narrow .boolean (.int y) = .int y := by rcases h with rfl | rfl <;> rfl
theorem zb_fit {y : Int32} (h : y = 0 ∨ y = 1) : fits .boolean (.int y) = true := by rcases h with rfl | rfl <;> rfl
def cpOK (sp dp n : Int32) (na nb : Nat) : Prop := ¬ sp < 0 ∧ ¬ dp < 0 ∧ ¬ n < 0 ∧ sp.toNatClampNeg + n.toNatClampNeg ≤ na ∧ dp.toNatClampNeg + n.toNatClampNeg ≤ nb
def cpB (sp dp n : Int32) (na nb : Nat) : Bool := !decide (sp < 0) && (!decide (dp < 0) && (!decide (n < 0) && (decide (sp.toNatClampNeg + n.toNatClampNeg ≤ na) && decide (dp.toNatClampNeg + n.toNatClampNeg ≤ nb))))
theorem cpB_OK {sp dp n : Int32} {na nb : Nat} (h : cpB sp dp n na nb = true) : cpOK sp dp n na nb := by
  simp only [cpB, Bool.and_eq_true, Bool.not_eq_true', decide_eq_true_eq, decide_eq_false_iff_not] at h
  exact h
def cpb {β : Type} (sp dp n : Int32) (na nb : Nat) (x : Option β) : Option β := if cpB sp dp n na nb = true then x else none
theorem cpb_some {β : Type} {sp dp n : Int32} {na nb : Nat} {x : Option β} {o : β} (h : cpb sp dp n na nb x = some o) : cpOK sp dp n na nb ∧ x = some o := by
  unfold cpb at h
  by_cases hy : cpB sp dp n na nb = true
  · rw [if_pos hy] at h; exact ⟨cpB_OK hy, h⟩
  · rw [if_neg hy] at h; cases h
def lret {α β : Type} (o : α ⊕ β) (f : β → Option α) : Option α := match o with
  | .inl w => some w
  | .inr v => f v
theorem lret_r {α β : Type} {v : β} {f : β → Option α} {o : α} (h : lret (.inr v) f = some o) : f v = some o := h
def lret2 {α β γ : Type} (o : α ⊕ β) (f : β → Option (α ⊕ γ)) : Option (α ⊕ γ) := match o with
  | .inl w => some (.inl w)
  | .inr v => f v
theorem lret2_r {α β γ : Type} {v : β} {f : β → Option (α ⊕ γ)} {o : α ⊕ γ} (h : lret2 (.inr v) f = some o) : f v = some o := h
theorem ite_t {α : Type} {c : Prop} {i : Decidable c} {a b : Option α} {o : α} (h : c) (hf : @ite _ c i a b = some o) : a = some o := by rw [if_pos h] at hf; exact hf
theorem ite_f {α : Type} {c : Prop} {i : Decidable c} {a b : Option α} {o : α} (h : ¬ c) (hf : @ite _ c i a b = some o) : b = some o := by rw [if_neg h] at hf; exact hf
theorem lt4 {k : Nat} (h : k < 4) : k = 0 ∨ k = 1 ∨ k = 2 ∨ k = 3 := by omega
theorem lt5 {k : Nat} (h : k < 5) : k = 0 ∨ k = 1 ∨ k = 2 ∨ k = 3 ∨ k = 4 := by omega
theorem kap_succ {x : Int32} {n a b : Nat} (h1 : vp_in (x + 1) n) (h2 : vp_in x n) (e1 : (x + 1).toNatClampNeg = a) (e2 : x.toNatClampNeg = b) : a = b + 1 := by
  obtain ⟨g1, g2⟩ := vp_in_iff.mp h1
  obtain ⟨g3, g4⟩ := vp_in_iff.mp h2
  have hx := Int32.toInt_lt x
  have e : (x + 1).toInt = x.toInt + 1 ∨ (x + 1).toInt < 0 := by
    rw [Int32.toInt_add]
    have : (1 : Int32).toInt = 1 := by decide
    rw [this, Int.bmod_def]
    omega
  rcases e with e | e
  · have : (x + 1).toInt.toNat = x.toInt.toNat + 1 := by omega
    rw [← e1, ← e2]; exact this
  · omega
theorem lt6 {k : Nat} (h : k < 6) : k = 0 ∨ k = 1 ∨ k = 2 ∨ k = 3 ∨ k = 4 ∨ k = 5 := by omega
theorem lt8 {k : Nat} (h : k < 8) : k = 0 ∨ k = 1 ∨ k = 2 ∨ k = 3 ∨ k = 4 ∨ k = 5 ∨ k = 6 ∨ k = 7 := by omega
theorem ic_m1 : Int32.ofInt (-1) = (-1) := by decide
theorem ic_0 : Int32.ofInt 0 = 0 := by decide
theorem ic_1 : Int32.ofInt 1 = 1 := by decide
theorem ic_2 : Int32.ofInt 2 = 2 := by decide
theorem ic_3 : Int32.ofInt 3 = 3 := by decide
theorem ic_4 : Int32.ofInt 4 = 4 := by decide
theorem ic_5 : Int32.ofInt 5 = 5 := by decide
theorem bi_m20 : (Int8.ofInt (-20)).toInt32 = (-20) := by decide
theorem bi_m14 : (Int8.ofInt (-14)).toInt32 = (-14) := by decide
theorem bi_m13 : (Int8.ofInt (-13)).toInt32 = (-13) := by decide
theorem bi_m12 : (Int8.ofInt (-12)).toInt32 = (-12) := by decide
theorem bi_m11 : (Int8.ofInt (-11)).toInt32 = (-11) := by decide
theorem bi_m4 : (Int8.ofInt (-4)).toInt32 = (-4) := by decide
theorem bi_m3 : (Int8.ofInt (-3)).toInt32 = (-3) := by decide
theorem bi_m2 : (Int8.ofInt (-2)).toInt32 = (-2) := by decide
theorem bi_6 : (Int8.ofInt 6).toInt32 = 6 := by decide
theorem bi_7 : (Int8.ofInt 7).toInt32 = 7 := by decide
theorem bi_8 : (Int8.ofInt 8).toInt32 = 8 := by decide
theorem bi_9 : (Int8.ofInt 9).toInt32 = 9 := by decide
theorem bi_10 : (Int8.ofInt 10).toInt32 = 10 := by decide
theorem bi_12 : (Int8.ofInt 12).toInt32 = 12 := by decide
theorem bi_15 : (Int8.ofInt 15).toInt32 = 15 := by decide
theorem bi_16 : (Int8.ofInt 16).toInt32 = 16 := by decide
theorem bi_20 : (Int8.ofInt 20).toInt32 = 20 := by decide
theorem bi_21 : (Int8.ofInt 21).toInt32 = 21 := by decide
theorem bi_24 : (Int8.ofInt 24).toInt32 = 24 := by decide
theorem bi_25 : (Int8.ofInt 25).toInt32 = 25 := by decide
theorem bi_26 : (Int8.ofInt 26).toInt32 = 26 := by decide
theorem bi_27 : (Int8.ofInt 27).toInt32 = 27 := by decide
theorem bi_28 : (Int8.ofInt 28).toInt32 = 28 := by decide
theorem bi_29 : (Int8.ofInt 29).toInt32 = 29 := by decide
theorem bi_32 : (Int8.ofInt 32).toInt32 = 32 := by decide
theorem bi_35 : (Int8.ofInt 35).toInt32 = 35 := by decide
theorem bi_40 : (Int8.ofInt 40).toInt32 = 40 := by decide
theorem bi_41 : (Int8.ofInt 41).toInt32 = 41 := by decide
theorem bi_42 : (Int8.ofInt 42).toInt32 = 42 := by decide
theorem bi_44 : (Int8.ofInt 44).toInt32 = 44 := by decide
theorem bi_46 : (Int8.ofInt 46).toInt32 = 46 := by decide
theorem bi_48 : (Int8.ofInt 48).toInt32 = 48 := by decide
theorem bi_57 : (Int8.ofInt 57).toInt32 = 57 := by decide
theorem bi_58 : (Int8.ofInt 58).toInt32 = 58 := by decide
theorem bi_59 : (Int8.ofInt 59).toInt32 = 59 := by decide
theorem bi_60 : (Int8.ofInt 60).toInt32 = 60 := by decide
theorem bi_63 : (Int8.ofInt 63).toInt32 = 63 := by decide
theorem bi_67 : (Int8.ofInt 67).toInt32 = 67 := by decide
theorem bi_99 : (Int8.ofInt 99).toInt32 = 99 := by decide
theorem bi_100 : (Int8.ofInt 100).toInt32 = 100 := by decide
theorem bi_108 : (Int8.ofInt 108).toInt32 = 108 := by decide
theorem bi_110 : (Int8.ofInt 110).toInt32 = 110 := by decide
theorem bi_112 : (Int8.ofInt 112).toInt32 = 112 := by decide
theorem bi_115 : (Int8.ofInt 115).toInt32 = 115 := by decide
theorem bi_126 : (Int8.ofInt 126).toInt32 = 126 := by decide
theorem si_175 : (Int16.ofInt 175).toInt32 = 175 := by decide
theorem si_200 : (Int16.ofInt 200).toInt32 = 200 := by decide
theorem si_201 : (Int16.ofInt 201).toInt32 = 201 := by decide
theorem si_242 : (Int16.ofInt 242).toInt32 = 242 := by decide
theorem si_255 : (Int16.ofInt 255).toInt32 = 255 := by decide
theorem si_484 : (Int16.ofInt 484).toInt32 = 484 := by decide
theorem si_485 : (Int16.ofInt 485).toInt32 = 485 := by decide
theorem si_499 : (Int16.ofInt 499).toInt32 = 499 := by decide
theorem si_9999 : (Int16.ofInt 9999).toInt32 = 9999 := by decide
theorem si_12345 : (Int16.ofInt 12345).toInt32 = 12345 := by decide
theorem lc_0 : Int64.ofNat ((0 : Fin 2) : Nat) = 0 := by decide
theorem lc_1 : Int64.ofNat ((1 : Fin 2) : Nat) = 1 := by decide
theorem ii_m1 (x : Int32) : x + Int32.ofInt (-1) = x + (-1) := rfl
theorem ii_1 (x : Int32) : x + Int32.ofInt 1 = x + 1 := rfl
theorem ii_2 (x : Int32) : x + Int32.ofInt 2 = x + 2 := rfl
theorem cl_0 : (0 : Int32).toNatClampNeg = 0 := by decide
theorem cl_1 : (1 : Int32).toNatClampNeg = 1 := by decide
theorem cl_2 : (2 : Int32).toNatClampNeg = 2 := by decide
theorem cl_5 : (5 : Int32).toNatClampNeg = 5 := by decide
theorem cl_6 : (6 : Int32).toNatClampNeg = 6 := by decide
theorem cl_12 : (12 : Int32).toNatClampNeg = 12 := by decide
theorem cl_25 : (25 : Int32).toNatClampNeg = 25 := by decide
theorem cl_26 : (26 : Int32).toNatClampNeg = 26 := by decide
theorem cl_27 : (27 : Int32).toNatClampNeg = 27 := by decide
theorem cl_28 : (28 : Int32).toNatClampNeg = 28 := by decide
theorem cl_41 : (41 : Int32).toNatClampNeg = 41 := by decide
theorem cl_484 : (484 : Int32).toNatClampNeg = 484 := by decide
theorem cl_485 : (485 : Int32).toNatClampNeg = 485 := by decide
theorem vi_0_6 : vp_in 0 6 := inb_vp (by decide)
theorem vi_0_201 : vp_in 0 201 := inb_vp (by decide)
theorem vi_0_525 : vp_in 0 525 := inb_vp (by decide)
theorem vi_1_525 : vp_in 1 525 := inb_vp (by decide)
theorem vi_2_525 : vp_in 2 525 := inb_vp (by decide)
theorem vi_25_525 : vp_in 25 525 := inb_vp (by decide)
theorem vi_26_525 : vp_in 26 525 := inb_vp (by decide)
theorem vi_27_525 : vp_in 27 525 := inb_vp (by decide)
theorem vi_28_525 : vp_in 28 525 := inb_vp (by decide)
theorem vi_41_525 : vp_in 41 525 := inb_vp (by decide)
theorem vi_484_525 : vp_in 484 525 := inb_vp (by decide)
theorem vi_485_525 : vp_in 485 525 := inb_vp (by decide)
theorem cfX0 : CF 0 RX0 TX0 7 tyX0 := ⟨rfl, by decide +kernel, tyX0_ok, nmX0⟩
theorem cfX1 : CF 1 RX1 TX1 2 tyX1 := ⟨rfl, by decide +kernel, tyX1_ok, nmX1⟩
theorem cfX2 : CF 2 RX2 TX2 3 tyX2 := ⟨rfl, by decide +kernel, tyX2_ok, nmX2⟩
theorem cfX3 : CF 3 RX3 TX3 6 tyX3 := ⟨rfl, by decide +kernel, tyX3_ok, nmX3⟩
theorem cfX4 : CF 4 RX4 TX4 7 tyX4 := ⟨rfl, by decide +kernel, tyX4_ok, nmX4⟩
theorem cfX5 : CF 5 RX5 TX5 3 tyX5 := ⟨rfl, by decide +kernel, tyX5_ok, nmX5⟩
theorem cfX6 : CF 6 RX6 TX6 5 tyX6 := ⟨rfl, by decide +kernel, tyX6_ok, nmX6⟩
theorem cfX7 : CF 7 RX7 TX7 9 tyX7 := ⟨rfl, by decide +kernel, tyX7_ok, nmX7⟩
theorem cfX8 : CF 8 RX8 TX8 21 tyX8 := ⟨rfl, by decide +kernel, tyX8_ok, nmX8⟩
theorem lkJ11_76 : Cond.constant RJ11 76 (56320) ∈ tb := tbm3 5 (by decide +kernel) rfl
theorem lkJ11_110 : Cond.constant RJ11 110 (55232) ∈ tb := tbm3 1 (by decide +kernel) rfl
theorem lkJ2_227 : Cond.constant RJ2 227 (65536) ∈ tb := tbm2 202 (by decide +kernel) rfl
theorem lkJ6_265 : Cond.constant RJ6 265 (1431655765) ∈ tb := tbm2 89 (by decide +kernel) rfl
theorem lkJ6_266 : Cond.constant RJ6 266 (858993459) ∈ tb := tbm2 90 (by decide +kernel) rfl
theorem lkJ6_267 : Cond.constant RJ6 267 (252645135) ∈ tb := tbm2 91 (by decide +kernel) rfl
theorem lkX0_120 : Cond.constant RX0 120 (1103515245) ∈ tb := tbm3 97 (by decide +kernel) rfl
theorem lkX0_121 : Cond.constant RX0 121 (2147483647) ∈ tb := tbm3 98 (by decide +kernel) rfl
theorem lkX0_122 : Cond.constant RX0 122 (65536) ∈ tb := tbm3 99 (by decide +kernel) rfl
theorem lkX8_193 : Cond.constant RX8 193 (65536) ∈ tb := tbm5 137 (by decide +kernel) rfl
theorem lkL_162 : Cond.constantLong RL 162 (4294967295) ∈ tb := tbm6 63 (by decide +kernel) rfl
theorem lkX1_55 : Cond.constantLong RX1 55 (64) ∈ tb := tbm3 237 (by decide +kernel) rfl
theorem lkX1_63 : Cond.constantLong RX1 63 (32) ∈ tb := tbm3 239 (by decide +kernel) rfl
theorem lkX1_69 : Cond.constantLong RX1 69 (2) ∈ tb := tbm4 0 (by decide +kernel) rfl
theorem lkX8_51 : Cond.constantLong RX8 51 (60) ∈ tb := tbm4 191 (by decide +kernel) rfl
theorem lkX8_57 : Cond.constantLong RX8 57 (4) ∈ tb := tbm4 203 (by decide +kernel) rfl
theorem lkX8_59 : Cond.constantLong RX8 59 (9) ∈ tb := tbm4 204 (by decide +kernel) rfl
theorem lkX8_65 : Cond.constantLong RX8 65 (20) ∈ tb := tbm4 213 (by decide +kernel) rfl
theorem lkX8_107 : Cond.constantLong RX8 107 (32) ∈ tb := tbm5 36 (by decide +kernel) rfl
theorem lkX8_109 : Cond.constantLong RX8 109 (126) ∈ tb := tbm5 37 (by decide +kernel) rfl
theorem lkX8_118 : Cond.constantLong RX8 118 (57) ∈ tb := tbm5 62 (by decide +kernel) rfl
theorem lkX8_185 : Cond.constantLong RX8 185 (40) ∈ tb := tbm5 133 (by decide +kernel) rfl
theorem lkX8_187 : Cond.constantLong RX8 187 (1103515245) ∈ tb := tbm5 134 (by decide +kernel) rfl
theorem lkX8_189 : Cond.constantLong RX8 189 (12345) ∈ tb := tbm5 135 (by decide +kernel) rfl
theorem lkX8_191 : Cond.constantLong RX8 191 (2147483647) ∈ tb := tbm5 136 (by decide +kernel) rfl
theorem lkX8_197 : Cond.constantLong RX8 197 (99) ∈ tb := tbm5 162 (by decide +kernel) rfl
theorem lkX8_226 : Cond.constantLong RX8 226 (6) ∈ tb := tbm5 207 (by decide +kernel) rfl
theorem lkX8_231 : Cond.constantLong RX8 231 (200) ∈ tb := tbm5 220 (by decide +kernel) rfl
theorem lkX8_242 : Cond.constantLong RX8 242 (10) ∈ tb := tbm6 9 (by decide +kernel) rfl
theorem lkX8_248 : Cond.constantLong RX8 248 (3) ∈ tb := tbm6 25 (by decide +kernel) rfl
theorem lkX8_257 : Cond.constantLong RX8 257 (5) ∈ tb := tbm6 26 (by decide +kernel) rfl
theorem lkX8_266 : Cond.constantLong RX8 266 (12) ∈ tb := tbm6 43 (by decide +kernel) rfl
theorem lkJ0_9 : Cond.fieldLink RJ0 9 "java/lang/String" "value" "[B" ∈ tb := tbm6 65 (by decide +kernel) rfl
theorem lkJ0_15 : Cond.fieldLink RJ0 15 "java/lang/String" "coder" "B" ∈ tb := tbm6 64 (by decide +kernel) rfl
theorem lkJ0_38 : Cond.fieldLink RJ0 38 "java/lang/String" "COMPACT_STRINGS" "Z" ∈ tb := tbm2 172 (by decide +kernel) rfl
theorem lkJ0_1053 : Cond.fieldLink RJ0 1053 "jdk/internal/util/Preconditions" "SIOOBE_FORMATTER" "Ljava/util/function/BiFunction;" ∈ tb := tbm2 215 (by decide +kernel) rfl
theorem lkX0_9 : Cond.fieldLink RX0 9 (TX0 0).1 (TX0 0).2.1 (TX0 0).2.2.1 ∈ tb := tbm1 76 (by decide +kernel) rfl
theorem lkX0_15 : Cond.fieldLink RX0 15 (TX0 1).1 (TX0 1).2.1 (TX0 1).2.2.1 ∈ tb := tbm1 78 (by decide +kernel) rfl
theorem lkX0_21 : Cond.fieldLink RX0 21 (TX0 2).1 (TX0 2).2.1 (TX0 2).2.2.1 ∈ tb := tbm1 80 (by decide +kernel) rfl
theorem lkX0_25 : Cond.fieldLink RX0 25 (TX0 3).1 (TX0 3).2.1 (TX0 3).2.2.1 ∈ tb := tbm1 85 (by decide +kernel) rfl
theorem lkX0_29 : Cond.fieldLink RX0 29 (TX0 4).1 (TX0 4).2.1 (TX0 4).2.2.1 ∈ tb := tbm1 88 (by decide +kernel) rfl
theorem lkX0_32 : Cond.fieldLink RX0 32 (TX0 5).1 (TX0 5).2.1 (TX0 5).2.2.1 ∈ tb := tbm1 92 (by decide +kernel) rfl
theorem lkX0_35 : Cond.fieldLink RX0 35 (TX0 6).1 (TX0 6).2.1 (TX0 6).2.2.1 ∈ tb := tbm1 97 (by decide +kernel) rfl
theorem lkX0_48 : Cond.fieldLink RX0 48 (TX3 0).1 (TX3 0).2.1 (TX3 0).2.2.1 ∈ tb := tbm1 40 (by decide +kernel) rfl
theorem lkX0_51 : Cond.fieldLink RX0 51 (TX3 1).1 (TX3 1).2.1 (TX3 1).2.2.1 ∈ tb := tbm1 44 (by decide +kernel) rfl
theorem lkX0_54 : Cond.fieldLink RX0 54 (TX3 2).1 (TX3 2).2.1 (TX3 2).2.2.1 ∈ tb := tbm1 47 (by decide +kernel) rfl
theorem lkX0_61 : Cond.fieldLink RX0 61 (TX3 3).1 (TX3 3).2.1 (TX3 3).2.2.1 ∈ tb := tbm1 53 (by decide +kernel) rfl
theorem lkX0_114 : Cond.fieldLink RX0 114 (TX3 4).1 (TX3 4).2.1 (TX3 4).2.2.1 ∈ tb := tbm1 57 (by decide +kernel) rfl
theorem lkX0_117 : Cond.fieldLink RX0 117 (TX3 5).1 (TX3 5).2.1 (TX3 5).2.2.1 ∈ tb := tbm1 61 (by decide +kernel) rfl
theorem lkX1_12 : Cond.fieldLink RX1 12 (TX1 0).1 (TX1 0).2.1 (TX1 0).2.2.1 ∈ tb := tbm1 169 (by decide +kernel) rfl
theorem lkX1_18 : Cond.fieldLink RX1 18 (TX1 1).1 (TX1 1).2.1 (TX1 1).2.2.1 ∈ tb := tbm1 170 (by decide +kernel) rfl
theorem lkX1_22 : Cond.fieldLink RX1 22 (TX0 2).1 (TX0 2).2.1 (TX0 2).2.2.1 ∈ tb := tbm1 81 (by decide +kernel) rfl
theorem lkX1_51 : Cond.fieldLink RX1 51 (TX3 3).1 (TX3 3).2.1 (TX3 3).2.2.1 ∈ tb := tbm1 52 (by decide +kernel) rfl
theorem lkX1_60 : Cond.fieldLink RX1 60 (TX0 5).1 (TX0 5).2.1 (TX0 5).2.2.1 ∈ tb := tbm1 96 (by decide +kernel) rfl
theorem lkX1_65 : Cond.fieldLink RX1 65 (TX3 1).1 (TX3 1).2.1 (TX3 1).2.2.1 ∈ tb := tbm1 42 (by decide +kernel) rfl
theorem lkX1_92 : Cond.fieldLink RX1 92 (TX0 4).1 (TX0 4).2.1 (TX0 4).2.2.1 ∈ tb := tbm1 91 (by decide +kernel) rfl
theorem lkX1_101 : Cond.fieldLink RX1 101 (TX3 2).1 (TX3 2).2.1 (TX3 2).2.2.1 ∈ tb := tbm1 49 (by decide +kernel) rfl
theorem lkX2_11 : Cond.fieldLink RX2 11 (TX2 0).1 (TX2 0).2.1 (TX2 0).2.2.1 ∈ tb := tbm1 124 (by decide +kernel) rfl
theorem lkX2_15 : Cond.fieldLink RX2 15 (TX2 1).1 (TX2 1).2.1 (TX2 1).2.2.1 ∈ tb := tbm1 125 (by decide +kernel) rfl
theorem lkX2_19 : Cond.fieldLink RX2 19 (TX2 2).1 (TX2 2).2.1 (TX2 2).2.2.1 ∈ tb := tbm1 126 (by decide +kernel) rfl
theorem lkX3_9 : Cond.fieldLink RX3 9 (TX3 0).1 (TX3 0).2.1 (TX3 0).2.2.1 ∈ tb := tbm1 38 (by decide +kernel) rfl
theorem lkX3_15 : Cond.fieldLink RX3 15 (TX3 1).1 (TX3 1).2.1 (TX3 1).2.2.1 ∈ tb := tbm1 41 (by decide +kernel) rfl
theorem lkX3_18 : Cond.fieldLink RX3 18 (TX3 2).1 (TX3 2).2.1 (TX3 2).2.2.1 ∈ tb := tbm1 45 (by decide +kernel) rfl
theorem lkX3_21 : Cond.fieldLink RX3 21 (TX3 3).1 (TX3 3).2.1 (TX3 3).2.2.1 ∈ tb := tbm1 50 (by decide +kernel) rfl
theorem lkX3_25 : Cond.fieldLink RX3 25 (TX3 4).1 (TX3 4).2.1 (TX3 4).2.2.1 ∈ tb := tbm1 55 (by decide +kernel) rfl
theorem lkX3_28 : Cond.fieldLink RX3 28 (TX3 5).1 (TX3 5).2.1 (TX3 5).2.2.1 ∈ tb := tbm1 58 (by decide +kernel) rfl
theorem lkX4_11 : Cond.fieldLink RX4 11 (TX4 0).1 (TX4 0).2.1 (TX4 0).2.2.1 ∈ tb := tbm1 185 (by decide +kernel) rfl
theorem lkX4_17 : Cond.fieldLink RX4 17 (TX4 1).1 (TX4 1).2.1 (TX4 1).2.2.1 ∈ tb := tbm1 186 (by decide +kernel) rfl
theorem lkX4_21 : Cond.fieldLink RX4 21 (TX4 2).1 (TX4 2).2.1 (TX4 2).2.2.1 ∈ tb := tbm1 187 (by decide +kernel) rfl
theorem lkX4_24 : Cond.fieldLink RX4 24 (TX4 3).1 (TX4 3).2.1 (TX4 3).2.2.1 ∈ tb := tbm1 188 (by decide +kernel) rfl
theorem lkX4_28 : Cond.fieldLink RX4 28 (TX4 4).1 (TX4 4).2.1 (TX4 4).2.2.1 ∈ tb := tbm1 189 (by decide +kernel) rfl
theorem lkX4_32 : Cond.fieldLink RX4 32 (TX4 5).1 (TX4 5).2.1 (TX4 5).2.2.1 ∈ tb := tbm1 190 (by decide +kernel) rfl
theorem lkX4_35 : Cond.fieldLink RX4 35 (TX4 6).1 (TX4 6).2.1 (TX4 6).2.2.1 ∈ tb := tbm1 191 (by decide +kernel) rfl
theorem lkX4_39 : Cond.fieldLink RX4 39 (TX0 5).1 (TX0 5).2.1 (TX0 5).2.2.1 ∈ tb := tbm1 93 (by decide +kernel) rfl
theorem lkX4_50 : Cond.fieldLink RX4 50 (TX0 2).1 (TX0 2).2.1 (TX0 2).2.2.1 ∈ tb := tbm1 82 (by decide +kernel) rfl
theorem lkX4_74 : Cond.fieldLink RX4 74 (TX3 3).1 (TX3 3).2.1 (TX3 3).2.2.1 ∈ tb := tbm1 51 (by decide +kernel) rfl
theorem lkX5_9 : Cond.fieldLink RX5 9 (TX5 0).1 (TX5 0).2.1 (TX5 0).2.2.1 ∈ tb := tbm1 214 (by decide +kernel) rfl
theorem lkX5_15 : Cond.fieldLink RX5 15 (TX5 1).1 (TX5 1).2.1 (TX5 1).2.2.1 ∈ tb := tbm1 216 (by decide +kernel) rfl
theorem lkX5_19 : Cond.fieldLink RX5 19 (TX5 2).1 (TX5 2).2.1 (TX5 2).2.2.1 ∈ tb := tbm1 218 (by decide +kernel) rfl
theorem lkX6_11 : Cond.fieldLink RX6 11 (TX6 0).1 (TX6 0).2.1 (TX6 0).2.2.1 ∈ tb := tbm1 143 (by decide +kernel) rfl
theorem lkX6_18 : Cond.fieldLink RX6 18 (TX6 1).1 (TX6 1).2.1 (TX6 1).2.2.1 ∈ tb := tbm1 144 (by decide +kernel) rfl
theorem lkX6_22 : Cond.fieldLink RX6 22 (TX6 2).1 (TX6 2).2.1 (TX6 2).2.2.1 ∈ tb := tbm1 145 (by decide +kernel) rfl
theorem lkX6_26 : Cond.fieldLink RX6 26 (TX6 3).1 (TX6 3).2.1 (TX6 3).2.2.1 ∈ tb := tbm1 147 (by decide +kernel) rfl
theorem lkX6_29 : Cond.fieldLink RX6 29 (TX6 4).1 (TX6 4).2.1 (TX6 4).2.2.1 ∈ tb := tbm1 148 (by decide +kernel) rfl
theorem lkX6_32 : Cond.fieldLink RX6 32 (TX0 3).1 (TX0 3).2.1 (TX0 3).2.2.1 ∈ tb := tbm1 87 (by decide +kernel) rfl
theorem lkX6_35 : Cond.fieldLink RX6 35 (TX0 4).1 (TX0 4).2.1 (TX0 4).2.2.1 ∈ tb := tbm1 90 (by decide +kernel) rfl
theorem lkX6_38 : Cond.fieldLink RX6 38 (TX0 5).1 (TX0 5).2.1 (TX0 5).2.2.1 ∈ tb := tbm1 94 (by decide +kernel) rfl
theorem lkX6_51 : Cond.fieldLink RX6 51 (TX0 6).1 (TX0 6).2.1 (TX0 6).2.2.1 ∈ tb := tbm1 98 (by decide +kernel) rfl
theorem lkX6_54 : Cond.fieldLink RX6 54 (TX0 2).1 (TX0 2).2.1 (TX0 2).2.2.1 ∈ tb := tbm1 83 (by decide +kernel) rfl
theorem lkX6_58 : Cond.fieldLink RX6 58 (TX3 5).1 (TX3 5).2.1 (TX3 5).2.2.1 ∈ tb := tbm1 59 (by decide +kernel) rfl
theorem lkX6_109 : Cond.fieldLink RX6 109 (TX3 2).1 (TX3 2).2.1 (TX3 2).2.2.1 ∈ tb := tbm1 48 (by decide +kernel) rfl
theorem lkX7_10 : Cond.fieldLink RX7 10 (TX7 0).1 (TX7 0).2.1 (TX7 0).2.2.1 ∈ tb := tbm1 227 (by decide +kernel) rfl
theorem lkX7_19 : Cond.fieldLink RX7 19 (TX7 1).1 (TX7 1).2.1 (TX7 1).2.2.1 ∈ tb := tbm1 228 (by decide +kernel) rfl
theorem lkX7_23 : Cond.fieldLink RX7 23 (TX7 2).1 (TX7 2).2.1 (TX7 2).2.2.1 ∈ tb := tbm1 229 (by decide +kernel) rfl
theorem lkX7_26 : Cond.fieldLink RX7 26 (TX7 3).1 (TX7 3).2.1 (TX7 3).2.2.1 ∈ tb := tbm1 230 (by decide +kernel) rfl
theorem lkX7_29 : Cond.fieldLink RX7 29 (TX7 4).1 (TX7 4).2.1 (TX7 4).2.2.1 ∈ tb := tbm1 231 (by decide +kernel) rfl
theorem lkX7_36 : Cond.fieldLink RX7 36 (TX7 5).1 (TX7 5).2.1 (TX7 5).2.2.1 ∈ tb := tbm1 232 (by decide +kernel) rfl
theorem lkX7_43 : Cond.fieldLink RX7 43 (TX7 6).1 (TX7 6).2.1 (TX7 6).2.2.1 ∈ tb := tbm1 233 (by decide +kernel) rfl
theorem lkX7_50 : Cond.fieldLink RX7 50 (TX7 7).1 (TX7 7).2.1 (TX7 7).2.2.1 ∈ tb := tbm1 234 (by decide +kernel) rfl
theorem lkX7_56 : Cond.fieldLink RX7 56 (TX7 8).1 (TX7 8).2.1 (TX7 8).2.2.1 ∈ tb := tbm1 235 (by decide +kernel) rfl
theorem lkX7_65 : Cond.fieldLink RX7 65 (TX0 3).1 (TX0 3).2.1 (TX0 3).2.2.1 ∈ tb := tbm1 86 (by decide +kernel) rfl
theorem lkX7_76 : Cond.fieldLink RX7 76 (TX0 4).1 (TX0 4).2.1 (TX0 4).2.2.1 ∈ tb := tbm1 89 (by decide +kernel) rfl
theorem lkX7_87 : Cond.fieldLink RX7 87 (TX0 5).1 (TX0 5).2.1 (TX0 5).2.2.1 ∈ tb := tbm1 95 (by decide +kernel) rfl
theorem lkX7_97 : Cond.fieldLink RX7 97 (TX0 2).1 (TX0 2).2.1 (TX0 2).2.2.1 ∈ tb := tbm1 84 (by decide +kernel) rfl
theorem lkX7_101 : Cond.fieldLink RX7 101 (TX3 0).1 (TX3 0).2.1 (TX3 0).2.2.1 ∈ tb := tbm1 39 (by decide +kernel) rfl
theorem lkX7_110 : Cond.fieldLink RX7 110 (TX0 0).1 (TX0 0).2.1 (TX0 0).2.2.1 ∈ tb := tbm1 77 (by decide +kernel) rfl
theorem lkX7_113 : Cond.fieldLink RX7 113 (TX0 1).1 (TX0 1).2.1 (TX0 1).2.2.1 ∈ tb := tbm1 79 (by decide +kernel) rfl
theorem lkX7_122 : Cond.fieldLink RX7 122 (TX3 1).1 (TX3 1).2.1 (TX3 1).2.2.1 ∈ tb := tbm1 43 (by decide +kernel) rfl
theorem lkX7_125 : Cond.fieldLink RX7 125 (TX3 2).1 (TX3 2).2.1 (TX3 2).2.2.1 ∈ tb := tbm1 46 (by decide +kernel) rfl
theorem lkX7_143 : Cond.fieldLink RX7 143 (TX0 6).1 (TX0 6).2.1 (TX0 6).2.2.1 ∈ tb := tbm1 99 (by decide +kernel) rfl
theorem lkX7_156 : Cond.fieldLink RX7 156 (TX6 2).1 (TX6 2).2.1 (TX6 2).2.2.1 ∈ tb := tbm1 146 (by decide +kernel) rfl
theorem lkX7_159 : Cond.fieldLink RX7 159 (TX3 3).1 (TX3 3).2.1 (TX3 3).2.2.1 ∈ tb := tbm1 54 (by decide +kernel) rfl
theorem lkX7_162 : Cond.fieldLink RX7 162 (TX3 4).1 (TX3 4).2.1 (TX3 4).2.2.1 ∈ tb := tbm1 56 (by decide +kernel) rfl
theorem lkX7_171 : Cond.fieldLink RX7 171 (TX2 2).1 (TX2 2).2.1 (TX2 2).2.2.1 ∈ tb := tbm1 127 (by decide +kernel) rfl
theorem lkX7_193 : Cond.fieldLink RX7 193 (TX3 5).1 (TX3 5).2.1 (TX3 5).2.2.1 ∈ tb := tbm1 60 (by decide +kernel) rfl
theorem lkX7_276 : Cond.fieldLink RX7 276 (TX5 0).1 (TX5 0).2.1 (TX5 0).2.2.1 ∈ tb := tbm1 215 (by decide +kernel) rfl
theorem lkX7_302 : Cond.fieldLink RX7 302 (TX5 2).1 (TX5 2).2.1 (TX5 2).2.2.1 ∈ tb := tbm1 219 (by decide +kernel) rfl
theorem lkX7_306 : Cond.fieldLink RX7 306 (TX5 1).1 (TX5 1).2.1 (TX5 1).2.2.1 ∈ tb := tbm1 217 (by decide +kernel) rfl
theorem lkX8_7 : Cond.fieldLink RX8 7 (TX8 0).1 (TX8 0).2.1 (TX8 0).2.2.1 ∈ tb := tbm4 123 (by decide +kernel) rfl
theorem lkX8_13 : Cond.fieldLink RX8 13 (TX8 2).1 (TX8 2).2.1 (TX8 2).2.2.1 ∈ tb := tbm4 125 (by decide +kernel) rfl
theorem lkX8_16 : Cond.fieldLink RX8 16 (TX8 3).1 (TX8 3).2.1 (TX8 3).2.2.1 ∈ tb := tbm4 126 (by decide +kernel) rfl
theorem lkX8_19 : Cond.fieldLink RX8 19 (TX8 4).1 (TX8 4).2.1 (TX8 4).2.2.1 ∈ tb := tbm4 127 (by decide +kernel) rfl
theorem lkX8_23 : Cond.fieldLink RX8 23 (TX8 5).1 (TX8 5).2.1 (TX8 5).2.2.1 ∈ tb := tbm4 128 (by decide +kernel) rfl
theorem lkX8_26 : Cond.fieldLink RX8 26 (TX8 9).1 (TX8 9).2.1 (TX8 9).2.2.1 ∈ tb := tbm4 132 (by decide +kernel) rfl
theorem lkX8_29 : Cond.fieldLink RX8 29 (TX8 11).1 (TX8 11).2.1 (TX8 11).2.2.1 ∈ tb := tbm4 134 (by decide +kernel) rfl
theorem lkX8_32 : Cond.fieldLink RX8 32 (TX8 13).1 (TX8 13).2.1 (TX8 13).2.2.1 ∈ tb := tbm4 136 (by decide +kernel) rfl
theorem lkX8_35 : Cond.fieldLink RX8 35 (TX8 15).1 (TX8 15).2.1 (TX8 15).2.2.1 ∈ tb := tbm4 138 (by decide +kernel) rfl
theorem lkX8_38 : Cond.fieldLink RX8 38 (TX8 16).1 (TX8 16).2.1 (TX8 16).2.2.1 ∈ tb := tbm4 139 (by decide +kernel) rfl
theorem lkX8_41 : Cond.fieldLink RX8 41 (TX8 19).1 (TX8 19).2.1 (TX8 19).2.2.1 ∈ tb := tbm4 142 (by decide +kernel) rfl
theorem lkX8_44 : Cond.fieldLink RX8 44 (TX8 20).1 (TX8 20).2.1 (TX8 20).2.2.1 ∈ tb := tbm4 143 (by decide +kernel) rfl
theorem lkX8_111 : Cond.fieldLink RX8 111 (TX8 6).1 (TX8 6).2.1 (TX8 6).2.2.1 ∈ tb := tbm4 129 (by decide +kernel) rfl
theorem lkX8_115 : Cond.fieldLink RX8 115 (TX8 7).1 (TX8 7).2.1 (TX8 7).2.2.1 ∈ tb := tbm4 130 (by decide +kernel) rfl
theorem lkX8_126 : Cond.fieldLink RX8 126 (TX8 8).1 (TX8 8).2.1 (TX8 8).2.2.1 ∈ tb := tbm4 131 (by decide +kernel) rfl
theorem lkX8_135 : Cond.fieldLink RX8 135 (TX8 10).1 (TX8 10).2.1 (TX8 10).2.2.1 ∈ tb := tbm4 133 (by decide +kernel) rfl
theorem lkX8_138 : Cond.fieldLink RX8 138 (TX8 12).1 (TX8 12).2.1 (TX8 12).2.2.1 ∈ tb := tbm4 135 (by decide +kernel) rfl
theorem lkX8_147 : Cond.fieldLink RX8 147 (TX8 14).1 (TX8 14).2.1 (TX8 14).2.2.1 ∈ tb := tbm4 137 (by decide +kernel) rfl
theorem lkX8_205 : Cond.fieldLink RX8 205 (TX8 17).1 (TX8 17).2.1 (TX8 17).2.2.1 ∈ tb := tbm4 140 (by decide +kernel) rfl
theorem lkX8_208 : Cond.fieldLink RX8 208 (TX8 18).1 (TX8 18).2.1 (TX8 18).2.2.1 ∈ tb := tbm4 141 (by decide +kernel) rfl
theorem lkX8_244 : Cond.fieldLink RX8 244 (TX8 1).1 (TX8 1).2.1 (TX8 1).2.2.1 ∈ tb := tbm4 124 (by decide +kernel) rfl
theorem lkJ0_335 : Cond.methodLink RJ0 335 yJ0_coder_7d493 ∈ tb := tbm2 178 (by decide +kernel) rfl
theorem lkJ0_492 : Cond.methodLink RJ0 492 yJ0_isLatin1_aae02 ∈ tb := tbm2 168 (by decide +kernel) rfl
theorem lkJ0_505 : Cond.methodLink RJ0 505 yJ0_length_8abf5 ∈ tb := tbm2 174 (by decide +kernel) rfl
theorem lkJ0_633 : Cond.methodLink RJ0 633 yJ0_indexOf_7cf53 ∈ tb := tbm2 164 (by decide +kernel) rfl
theorem lkJ0_637 : Cond.methodLink RJ0 637 yJ1_indexOf_4cfef ∈ tb := tbm2 182 (by decide +kernel) rfl
theorem lkJ1_38 : Cond.methodLink RJ1 38 Lib.Math.min.name ∈ tb := tbm2 191 (by decide +kernel) rfl
theorem lkJ1_88 : Cond.methodLink RJ1 88 yJ1_canEncode_9a6ad ∈ tb := tbm2 185 (by decide +kernel) rfl
theorem lkJ1_92 : Cond.methodLink RJ1 92 Lib.Math.max.name ∈ tb := tbm2 188 (by decide +kernel) rfl
theorem lkJ1_95 : Cond.methodLink RJ1 95 yJ1_indexOfChar_4cfef ∈ tb := tbm2 194 (by decide +kernel) rfl
theorem lkJ2_183 : Cond.methodLink RJ2 183 Lib.Math.min.name ∈ tb := tbm2 201 (by decide +kernel) rfl
theorem lkJ2_224 : Cond.methodLink RJ2 224 Lib.Math.max.name ∈ tb := tbm2 200 (by decide +kernel) rfl
theorem lkL_13 : Cond.methodLink RL 13 yX7_cell ∈ tb := tbm2 15 (by decide +kernel) rfl
theorem lkL_17 : Cond.methodLink RL 17 yX8_cell ∈ tb := tbm4 187 (by decide +kernel) rfl
theorem lkL_18 : Cond.methodLink RL 18 yX7_person ∈ tb := tbm2 30 (by decide +kernel) rfl
theorem lkL_22 : Cond.methodLink RL 22 yX8_person ∈ tb := tbm4 199 (by decide +kernel) rfl
theorem lkL_23 : Cond.methodLink RL 23 yX7_saying ∈ tb := tbm2 38 (by decide +kernel) rfl
theorem lkL_26 : Cond.methodLink RL 26 yX8_saying ∈ tb := tbm4 209 (by decide +kernel) rfl
theorem lkL_27 : Cond.methodLink RL 27 yX7_ice ∈ tb := tbm2 50 (by decide +kernel) rfl
theorem lkL_30 : Cond.methodLink RL 30 yX8_ice ∈ tb := tbm4 222 (by decide +kernel) rfl
theorem lkL_31 : Cond.methodLink RL 31 yX7_of ∈ tb := tbm2 58 (by decide +kernel) rfl
theorem lkL_34 : Cond.methodLink RL 34 yX8_of ∈ tb := tbm4 230 (by decide +kernel) rfl
theorem lkL_35 : Cond.methodLink RL 35 yX7_at ∈ tb := tbm2 70 (by decide +kernel) rfl
theorem lkL_38 : Cond.methodLink RL 38 yX8_at ∈ tb := tbm4 238 (by decide +kernel) rfl
theorem lkL_39 : Cond.methodLink RL 39 yX7_rocks ∈ tb := tbm2 96 (by decide +kernel) rfl
theorem lkL_42 : Cond.methodLink RL 42 yX8_rocks ∈ tb := tbm5 24 (by decide +kernel) rfl
theorem lkL_43 : Cond.methodLink RL 43 yX7_frost ∈ tb := tbm2 106 (by decide +kernel) rfl
theorem lkL_46 : Cond.methodLink RL 46 yX8_frost ∈ tb := tbm5 28 (by decide +kernel) rfl
theorem lkL_47 : Cond.methodLink RL 47 yX7_type ∈ tb := tbm2 110 (by decide +kernel) rfl
theorem lkL_50 : Cond.methodLink RL 50 yX8_type ∈ tb := tbm5 32 (by decide +kernel) rfl
theorem lkL_51 : Cond.methodLink RL 51 yX7_canal ∈ tb := tbm2 122 (by decide +kernel) rfl
theorem lkL_55 : Cond.methodLink RL 55 yX8_canal ∈ tb := tbm5 38 (by decide +kernel) rfl
theorem lkL_56 : Cond.methodLink RL 56 yX7_count ∈ tb := tbm3 33 (by decide +kernel) rfl
theorem lkL_59 : Cond.methodLink RL 59 yX8_count ∈ tb := tbm5 83 (by decide +kernel) rfl
theorem lkL_60 : Cond.methodLink RL 60 yX7_say ∈ tb := tbm3 45 (by decide +kernel) rfl
theorem lkL_63 : Cond.methodLink RL 63 yX8_say ∈ tb := tbm5 91 (by decide +kernel) rfl
theorem lkL_64 : Cond.methodLink RL 64 yX7_thaw ∈ tb := tbm3 80 (by decide +kernel) rfl
theorem lkL_67 : Cond.methodLink RL 67 yX8_thaw ∈ tb := tbm5 121 (by decide +kernel) rfl
theorem lkL_68 : Cond.methodLink RL 68 yX7_mind ∈ tb := tbm3 85 (by decide +kernel) rfl
theorem lkL_71 : Cond.methodLink RL 71 yX8_mind ∈ tb := tbm5 125 (by decide +kernel) rfl
theorem lkL_72 : Cond.methodLink RL 72 yX7_drift ∈ tb := tbm3 89 (by decide +kernel) rfl
theorem lkL_75 : Cond.methodLink RL 75 yX8_drift ∈ tb := tbm5 129 (by decide +kernel) rfl
theorem lkL_76 : Cond.methodLink RL 76 yX7_undo ∈ tb := tbm3 100 (by decide +kernel) rfl
theorem lkL_79 : Cond.methodLink RL 79 yX8_undo ∈ tb := tbm5 138 (by decide +kernel) rfl
theorem lkL_80 : Cond.methodLink RL 80 yX7_seed ∈ tb := tbm3 108 (by decide +kernel) rfl
theorem lkL_83 : Cond.methodLink RL 83 yX8_seed ∈ tb := tbm5 142 (by decide +kernel) rfl
theorem lkL_84 : Cond.methodLink RL 84 yX7_rock ∈ tb := tbm3 112 (by decide +kernel) rfl
theorem lkL_87 : Cond.methodLink RL 87 yX8_rock ∈ tb := tbm5 146 (by decide +kernel) rfl
theorem lkL_88 : Cond.methodLink RL 88 yX7_next ∈ tb := tbm3 117 (by decide +kernel) rfl
theorem lkL_91 : Cond.methodLink RL 91 yX8_next ∈ tb := tbm5 150 (by decide +kernel) rfl
theorem lkL_92 : Cond.methodLink RL 92 yX7_greedy ∈ tb := tbm3 125 (by decide +kernel) rfl
theorem lkL_95 : Cond.methodLink RL 95 yX8_greedy ∈ tb := tbm5 158 (by decide +kernel) rfl
theorem lkL_96 : Cond.methodLink RL 96 yX7_through ∈ tb := tbm3 140 (by decide +kernel) rfl
theorem lkL_99 : Cond.methodLink RL 99 yX8_through ∈ tb := tbm5 171 (by decide +kernel) rfl
theorem lkL_100 : Cond.methodLink RL 100 yX7_plan ∈ tb := tbm3 149 (by decide +kernel) rfl
theorem lkL_103 : Cond.methodLink RL 103 yX8_plan ∈ tb := tbm5 175 (by decide +kernel) rfl
theorem lkL_104 : Cond.methodLink RL 104 yX7_crew ∈ tb := tbm3 169 (by decide +kernel) rfl
theorem lkL_108 : Cond.methodLink RL 108 yX8_crew ∈ tb := tbm5 203 (by decide +kernel) rfl
theorem lkL_109 : Cond.methodLink RL 109 yX7_minds ∈ tb := tbm3 184 (by decide +kernel) rfl
theorem lkL_112 : Cond.methodLink RL 112 yX8_minds ∈ tb := tbm5 212 (by decide +kernel) rfl
theorem lkL_113 : Cond.methodLink RL 113 yX7_once ∈ tb := tbm3 198 (by decide +kernel) rfl
theorem lkL_116 : Cond.methodLink RL 116 yX8_once ∈ tb := tbm5 191 (by decide +kernel) rfl
theorem lkL_117 : Cond.methodLink RL 117 yX7_sway ∈ tb := tbm3 202 (by decide +kernel) rfl
theorem lkL_120 : Cond.methodLink RL 120 yX8_sway ∈ tb := tbm5 216 (by decide +kernel) rfl
theorem lkL_121 : Cond.methodLink RL 121 yX7_boats ∈ tb := tbm3 211 (by decide +kernel) rfl
theorem lkL_124 : Cond.methodLink RL 124 yX8_boats ∈ tb := tbm5 221 (by decide +kernel) rfl
theorem lkL_125 : Cond.methodLink RL 125 yX7_ring ∈ tb := tbm3 225 (by decide +kernel) rfl
theorem lkL_128 : Cond.methodLink RL 128 yX8_ring ∈ tb := tbm5 229 (by decide +kernel) rfl
theorem lkL_129 : Cond.methodLink RL 129 yX7_enough ∈ tb := tbm4 7 (by decide +kernel) rfl
theorem lkL_132 : Cond.methodLink RL 132 yX8_enough ∈ tb := tbm6 1 (by decide +kernel) rfl
theorem lkL_133 : Cond.methodLink RL 133 yX7_sick ∈ tb := tbm4 16 (by decide +kernel) rfl
theorem lkL_136 : Cond.methodLink RL 136 yX8_sick ∈ tb := tbm6 5 (by decide +kernel) rfl
theorem lkL_137 : Cond.methodLink RL 137 yX7_image ∈ tb := tbm4 30 (by decide +kernel) rfl
theorem lkL_140 : Cond.methodLink RL 140 yX8_image ∈ tb := tbm6 10 (by decide +kernel) rfl
theorem lkL_141 : Cond.methodLink RL 141 yX7_restore ∈ tb := tbm4 39 (by decide +kernel) rfl
theorem lkL_144 : Cond.methodLink RL 144 yX8_restore ∈ tb := tbm6 14 (by decide +kernel) rfl
theorem lkL_145 : Cond.methodLink RL 145 yX7_felt ∈ tb := tbm4 43 (by decide +kernel) rfl
theorem lkL_149 : Cond.methodLink RL 149 yX8_felt ∈ tb := tbm6 18 (by decide +kernel) rfl
theorem lkL_150 : Cond.methodLink RL 150 yX7_film ∈ tb := tbm4 82 (by decide +kernel) rfl
theorem lkL_153 : Cond.methodLink RL 153 yX8_film ∈ tb := tbm6 39 (by decide +kernel) rfl
theorem lkL_154 : Cond.methodLink RL 154 yX7_sheet ∈ tb := tbm4 90 (by decide +kernel) rfl
theorem lkL_157 : Cond.methodLink RL 157 yX8_sheet ∈ tb := tbm6 44 (by decide +kernel) rfl
theorem lkL_158 : Cond.methodLink RL 158 yX7_drop ∈ tb := tbm4 98 (by decide +kernel) rfl
theorem lkL_161 : Cond.methodLink RL 161 yX8_drop ∈ tb := tbm6 48 (by decide +kernel) rfl
theorem lkL_164 : Cond.methodLink RL 164 yX7_item ∈ tb := tbm4 107 (by decide +kernel) rfl
theorem lkL_168 : Cond.methodLink RL 168 yX8_item ∈ tb := tbm6 52 (by decide +kernel) rfl
theorem lkL_169 : Cond.methodLink RL 169 yX7_copy ∈ tb := tbm4 111 (by decide +kernel) rfl
theorem lkL_172 : Cond.methodLink RL 172 yX8_copy ∈ tb := tbm6 59 (by decide +kernel) rfl
theorem lkX0_38 : Cond.methodLink RX0 38 arraycopyName ∈ tb := tbm3 24 (by decide +kernel) rfl
theorem lkX0_44 : Cond.methodLink RX0 44 yX3_take ∈ tb := tbm3 27 (by decide +kernel) rfl
theorem lkX0_57 : Cond.methodLink RX0 57 yX0_everybody ∈ tb := tbm2 104 (by decide +kernel) rfl
theorem lkX0_64 : Cond.methodLink RX0 64 yX0_isThrough ∈ tb := tbm3 59 (by decide +kernel) rfl
theorem lkX0_68 : Cond.methodLink RX0 68 yJ6_bitCount_0f7a4 ∈ tb := tbm2 86 (by decide +kernel) rfl
theorem lkX0_74 : Cond.methodLink RX0 74 yX0_personRocks ∈ tb := tbm2 92 (by decide +kernel) rfl
theorem lkX0_78 : Cond.methodLink RX0 78 yX0_sideRocks ∈ tb := tbm3 73 (by decide +kernel) rfl
theorem lkX0_82 : Cond.methodLink RX0 82 Lib.Math.min.name ∈ tb := tbm3 74 (by decide +kernel) rfl
theorem lkX0_88 : Cond.methodLink RX0 88 yX3_isEven ∈ tb := tbm3 68 (by decide +kernel) rfl
theorem lkX0_92 : Cond.methodLink RX0 92 yX0_boatRocks ∈ tb := tbm3 69 (by decide +kernel) rfl
theorem lkX0_96 : Cond.methodLink RX0 96 yX0_crewRocks ∈ tb := tbm3 223 (by decide +kernel) rfl
theorem lkX0_99 : Cond.methodLink RX0 99 Lib.Math.max.name ∈ tb := tbm3 79 (by decide +kernel) rfl
theorem lkX0_102 : Cond.methodLink RX0 102 yX0_sayingRocks ∈ tb := tbm3 64 (by decide +kernel) rfl
theorem lkX0_106 : Cond.methodLink RX0 106 yX0_hasSaying ∈ tb := tbm3 63 (by decide +kernel) rfl
theorem lkX0_110 : Cond.methodLink RX0 110 yX0_breakIce ∈ tb := tbm3 75 (by decide +kernel) rfl
theorem lkX1_27 : Cond.methodLink RX1 27 yX3_take ∈ tb := tbm3 133 (by decide +kernel) rfl
theorem lkX1_31 : Cond.methodLink RX1 31 yX0_mostRocking ∈ tb := tbm3 134 (by decide +kernel) rfl
theorem lkX1_35 : Cond.methodLink RX1 35 yX0_pass ∈ tb := tbm3 135 (by decide +kernel) rfl
theorem lkX1_39 : Cond.methodLink RX1 39 yX0_isThrough ∈ tb := tbm3 148 (by decide +kernel) rfl
theorem lkX1_43 : Cond.methodLink RX1 43 yX1_mark ∈ tb := tbm3 233 (by decide +kernel) rfl
theorem lkX1_47 : Cond.methodLink RX1 47 yX1_firstLike ∈ tb := tbm4 2 (by decide +kernel) rfl
theorem lkX1_57 : Cond.methodLink RX1 57 yX0_iceAhead ∈ tb := tbm3 238 (by decide +kernel) rfl
theorem lkX1_71 : Cond.methodLink RX1 71 yX3_isEven ∈ tb := tbm4 1 (by decide +kernel) rfl
theorem lkX1_75 : Cond.methodLink RX1 75 yX0_everybody ∈ tb := tbm3 177 (by decide +kernel) rfl
theorem lkX1_79 : Cond.methodLink RX1 79 yJ6_bitCount_0f7a4 ∈ tb := tbm3 178 (by decide +kernel) rfl
theorem lkX1_84 : Cond.methodLink RX1 84 yX0_crewRocks ∈ tb := tbm3 179 (by decide +kernel) rfl
theorem lkX1_88 : Cond.methodLink RX1 88 yX0_sayingRocks ∈ tb := tbm3 192 (by decide +kernel) rfl
theorem lkX1_95 : Cond.methodLink RX1 95 yX0_swayedRocks ∈ tb := tbm3 193 (by decide +kernel) rfl
theorem lkX1_98 : Cond.methodLink RX1 98 yX0_partingRocks ∈ tb := tbm3 219 (by decide +kernel) rfl
theorem lkX1_104 : Cond.methodLink RX1 104 yX0_boatRocks ∈ tb := tbm4 15 (by decide +kernel) rfl
theorem lkX1_108 : Cond.methodLink RX1 108 yX1_chances ∈ tb := tbm4 24 (by decide +kernel) rfl
theorem lkX1_112 : Cond.methodLink RX1 112 yX1_power ∈ tb := tbm4 27 (by decide +kernel) rfl
theorem lkX2_23 : Cond.methodLink RX2 23 yX3_take ∈ tb := tbm3 53 (by decide +kernel) rfl
theorem lkX2_27 : Cond.methodLink RX2 27 Lib.Math.min.name ∈ tb := tbm3 54 (by decide +kernel) rfl
theorem lkX3_31 : Cond.methodLink RX3 31 arraycopyName ∈ tb := tbm3 31 (by decide +kernel) rfl
theorem lkX4_44 : Cond.methodLink RX4 44 Lib.Math.min.name ∈ tb := tbm3 157 (by decide +kernel) rfl
theorem lkX4_54 : Cond.methodLink RX4 54 yX3_take ∈ tb := tbm3 158 (by decide +kernel) rfl
theorem lkX4_58 : Cond.methodLink RX4 58 yX4_tryFrom ∈ tb := tbm3 159 (by decide +kernel) rfl
theorem lkX4_62 : Cond.methodLink RX4 62 yX4_judge ∈ tb := tbm3 162 (by decide +kernel) rfl
theorem lkX4_66 : Cond.methodLink RX4 66 yX0_pass ∈ tb := tbm3 168 (by decide +kernel) rfl
theorem lkX4_70 : Cond.methodLink RX4 70 yX0_iceAhead ∈ tb := tbm3 166 (by decide +kernel) rfl
theorem lkX4_77 : Cond.methodLink RX4 77 arraycopyName ∈ tb := tbm3 167 (by decide +kernel) rfl
theorem lkX5_22 : Cond.methodLink RX5 22 yX5_isNothing ∈ tb := tbm4 57 (by decide +kernel) rfl
theorem lkX5_26 : Cond.methodLink RX5 26 yX5_holds ∈ tb := tbm4 61 (by decide +kernel) rfl
theorem lkX6_41 : Cond.methodLink RX6 41 yX6_readCells ∈ tb := tbm2 130 (by decide +kernel) rfl
theorem lkX6_45 : Cond.methodLink RX6 45 yX6_readPeople ∈ tb := tbm2 151 (by decide +kernel) rfl
theorem lkX6_48 : Cond.methodLink RX6 48 yX6_readEnd ∈ tb := tbm3 7 (by decide +kernel) rfl
theorem lkX6_63 : Cond.methodLink RX6 63 yX0_take ∈ tb := tbm3 20 (by decide +kernel) rfl
theorem lkX6_67 : Cond.methodLink RX6 67 yX6_readNumber ∈ tb := tbm2 134 (by decide +kernel) rfl
theorem lkX6_71 : Cond.methodLink RX6 71 yX0_addCell ∈ tb := tbm2 146 (by decide +kernel) rfl
theorem lkX6_75 : Cond.methodLink RX6 75 yX6_readLetter ∈ tb := tbm2 147 (by decide +kernel) rfl
theorem lkX6_79 : Cond.methodLink RX6 79 yX6_readPerson ∈ tb := tbm2 155 (by decide +kernel) rfl
theorem lkX6_82 : Cond.methodLink RX6 82 yX6_skipBlanks ∈ tb := tbm2 138 (by decide +kernel) rfl
theorem lkX6_87 : Cond.methodLink RX6 87 yJ0_indexOf_0f7a4 ∈ tb := tbm2 160 (by decide +kernel) rfl
theorem lkX6_92 : Cond.methodLink RX6 92 yX6_digitHere ∈ tb := tbm2 142 (by decide +kernel) rfl
theorem lkX6_96 : Cond.methodLink RX6 96 yX0_addPerson ∈ tb := tbm3 6 (by decide +kernel) rfl
theorem lkX6_100 : Cond.methodLink RX6 100 yX6_readSayings ∈ tb := tbm3 11 (by decide +kernel) rfl
theorem lkX6_103 : Cond.methodLink RX6 103 yX0_addSaying ∈ tb := tbm3 15 (by decide +kernel) rfl
theorem lkX6_106 : Cond.methodLink RX6 106 yX6_readFors ∈ tb := tbm3 16 (by decide +kernel) rfl
theorem lkX7_61 : Cond.methodLink RX7 61 yX7_within ∈ tb := tbm2 19 (by decide +kernel) rfl
theorem lkX7_69 : Cond.methodLink RX7 69 yX2_forget ∈ tb := tbm2 22 (by decide +kernel) rfl
theorem lkX7_72 : Cond.methodLink RX7 72 yX0_addCell ∈ tb := tbm2 26 (by decide +kernel) rfl
theorem lkX7_79 : Cond.methodLink RX7 79 yX0_addPerson ∈ tb := tbm2 34 (by decide +kernel) rfl
theorem lkX7_83 : Cond.methodLink RX7 83 yX0_everybody ∈ tb := tbm2 42 (by decide +kernel) rfl
theorem lkX7_90 : Cond.methodLink RX7 90 yX0_addSaying ∈ tb := tbm2 46 (by decide +kernel) rfl
theorem lkX7_93 : Cond.methodLink RX7 93 yX0_hasCell ∈ tb := tbm2 54 (by decide +kernel) rfl
theorem lkX7_107 : Cond.methodLink RX7 107 yX0_hasPerson ∈ tb := tbm2 62 (by decide +kernel) rfl
theorem lkX7_116 : Cond.methodLink RX7 116 yX0_sayingsFor ∈ tb := tbm2 66 (by decide +kernel) rfl
theorem lkX7_119 : Cond.methodLink RX7 119 yX0_hasSaying ∈ tb := tbm2 74 (by decide +kernel) rfl
theorem lkX7_128 : Cond.methodLink RX7 128 yX3_isEven ∈ tb := tbm2 78 (by decide +kernel) rfl
theorem lkX7_132 : Cond.methodLink RX7 132 yX0_sideRocks ∈ tb := tbm2 82 (by decide +kernel) rfl
theorem lkX7_136 : Cond.methodLink RX7 136 yX0_sideOf ∈ tb := tbm2 100 (by decide +kernel) rfl
theorem lkX7_139 : Cond.methodLink RX7 139 yX0_personRocks ∈ tb := tbm2 105 (by decide +kernel) rfl
theorem lkX7_146 : Cond.methodLink RX7 146 yX6_isFull ∈ tb := tbm2 114 (by decide +kernel) rfl
theorem lkX7_149 : Cond.methodLink RX7 149 yX6_add ∈ tb := tbm2 118 (by decide +kernel) rfl
theorem lkX7_152 : Cond.methodLink RX7 152 yX6_readInto ∈ tb := tbm2 126 (by decide +kernel) rfl
theorem lkX7_165 : Cond.methodLink RX7 165 yX0_iceFromHereOn ∈ tb := tbm3 37 (by decide +kernel) rfl
theorem lkX7_168 : Cond.methodLink RX7 168 yX0_juiceOfAll ∈ tb := tbm3 41 (by decide +kernel) rfl
theorem lkX7_174 : Cond.methodLink RX7 174 yX2_keep ∈ tb := tbm3 49 (by decide +kernel) rfl
theorem lkX7_178 : Cond.methodLink RX7 178 yX0_pass ∈ tb := tbm3 55 (by decide +kernel) rfl
theorem lkX7_182 : Cond.methodLink RX7 182 Lib.Math.max.name ∈ tb := tbm3 84 (by decide +kernel) rfl
theorem lkX7_187 : Cond.methodLink RX7 187 yX0_drawSaying ∈ tb := tbm3 93 (by decide +kernel) rfl
theorem lkX7_190 : Cond.methodLink RX7 190 yX2_bringBack ∈ tb := tbm3 104 (by decide +kernel) rfl
theorem lkX7_196 : Cond.methodLink RX7 196 yX0_sayingRocks ∈ tb := tbm3 116 (by decide +kernel) rfl
theorem lkX7_200 : Cond.methodLink RX7 200 yX0_mostRocking ∈ tb := tbm3 121 (by decide +kernel) rfl
theorem lkX7_204 : Cond.methodLink RX7 204 yX1_greedyFor ∈ tb := tbm3 129 (by decide +kernel) rfl
theorem lkX7_208 : Cond.methodLink RX7 208 yX0_iceAhead ∈ tb := tbm3 136 (by decide +kernel) rfl
theorem lkX7_211 : Cond.methodLink RX7 211 yX1_minutesUntilThrough ∈ tb := tbm3 144 (by decide +kernel) rfl
theorem lkX7_214 : Cond.methodLink RX7 214 yX4_best ∈ tb := tbm3 153 (by decide +kernel) rfl
theorem lkX7_218 : Cond.methodLink RX7 218 yX1_bestCrew ∈ tb := tbm3 173 (by decide +kernel) rfl
theorem lkX7_222 : Cond.methodLink RX7 222 yX0_crewRocks ∈ tb := tbm3 183 (by decide +kernel) rfl
theorem lkX7_225 : Cond.methodLink RX7 225 yX1_bestMind ∈ tb := tbm3 188 (by decide +kernel) rfl
theorem lkX7_229 : Cond.methodLink RX7 229 yX0_swayedRocks ∈ tb := tbm3 197 (by decide +kernel) rfl
theorem lkX7_232 : Cond.methodLink RX7 232 yX1_fewestMinds ∈ tb := tbm3 206 (by decide +kernel) rfl
theorem lkX7_235 : Cond.methodLink RX7 235 yJ6_bitCount_0f7a4 ∈ tb := tbm3 210 (by decide +kernel) rfl
theorem lkX7_240 : Cond.methodLink RX7 240 yX1_bestParting ∈ tb := tbm3 215 (by decide +kernel) rfl
theorem lkX7_243 : Cond.methodLink RX7 243 yX0_partingRocks ∈ tb := tbm3 224 (by decide +kernel) rfl
theorem lkX7_246 : Cond.methodLink RX7 246 yX1_ringEnd ∈ tb := tbm3 229 (by decide +kernel) rfl
theorem lkX7_249 : Cond.methodLink RX7 249 yX1_firstLike ∈ tb := tbm4 6 (by decide +kernel) rfl
theorem lkX7_252 : Cond.methodLink RX7 252 yX1_leastJuice ∈ tb := tbm4 11 (by decide +kernel) rfl
theorem lkX7_255 : Cond.methodLink RX7 255 yX1_likelihood ∈ tb := tbm4 20 (by decide +kernel) rfl
theorem lkX7_259 : Cond.methodLink RX7 259 yX0_take ∈ tb := tbm4 34 (by decide +kernel) rfl
theorem lkX7_263 : Cond.methodLink RX7 263 yX2_take ∈ tb := tbm4 35 (by decide +kernel) rfl
theorem lkX7_266 : Cond.methodLink RX7 266 yX7_isSheet ∈ tb := tbm4 47 (by decide +kernel) rfl
theorem lkX7_269 : Cond.methodLink RX7 269 yX7_isLane ∈ tb := tbm4 50 (by decide +kernel) rfl
theorem lkX7_272 : Cond.methodLink RX7 272 yX5_refusal ∈ tb := tbm4 53 (by decide +kernel) rfl
theorem lkX7_280 : Cond.methodLink RX7 280 yX7_isSaying ∈ tb := tbm4 65 (by decide +kernel) rfl
theorem lkX7_284 : Cond.methodLink RX7 284 yX7_countFelt ∈ tb := tbm4 69 (by decide +kernel) rfl
theorem lkX7_288 : Cond.methodLink RX7 288 yX7_leastFelt ∈ tb := tbm4 78 (by decide +kernel) rfl
theorem lkX7_291 : Cond.methodLink RX7 291 yX5_put ∈ tb := tbm4 86 (by decide +kernel) rfl
theorem lkX7_295 : Cond.methodLink RX7 295 yX5_begin ∈ tb := tbm4 94 (by decide +kernel) rfl
theorem lkX7_299 : Cond.methodLink RX7 299 yX5_isNothing ∈ tb := tbm4 102 (by decide +kernel) rfl
theorem lkX7_303 : Cond.methodLink RX7 303 yX5_end ∈ tb := tbm4 103 (by decide +kernel) rfl
theorem lkX7_309 : Cond.methodLink RX7 309 yX5_holds ∈ tb := tbm4 115 (by decide +kernel) rfl
theorem lkX7_313 : Cond.methodLink RX7 313 arraycopyName ∈ tb := tbm4 116 (by decide +kernel) rfl
theorem lkX7_319 : Cond.methodLink RX7 319 yX7_isFeltBy ∈ tb := tbm4 73 (by decide +kernel) rfl
theorem lkX7_323 : Cond.methodLink RX7 323 yX0_boatRocks ∈ tb := tbm4 77 (by decide +kernel) rfl
theorem lkX8_47 : Cond.methodLink RX8 47 yX8_in ∈ tb := tbm4 192 (by decide +kernel) rfl
theorem lkX8_53 : Cond.methodLink RX8 53 yX8_addCell ∈ tb := tbm4 195 (by decide +kernel) rfl
theorem lkX8_61 : Cond.methodLink RX8 61 yX8_addPerson ∈ tb := tbm4 205 (by decide +kernel) rfl
theorem lkX8_67 : Cond.methodLink RX8 67 yX8_everybody ∈ tb := tbm4 214 (by decide +kernel) rfl
theorem lkX8_71 : Cond.methodLink RX8 71 yX8_addSaying ∈ tb := tbm4 218 (by decide +kernel) rfl
theorem lkX8_74 : Cond.methodLink RX8 74 yX8_isCell ∈ tb := tbm4 226 (by decide +kernel) rfl
theorem lkX8_78 : Cond.methodLink RX8 78 yX8_bits ∈ tb := tbm5 21 (by decide +kernel) rfl
theorem lkX8_82 : Cond.methodLink RX8 82 yX8_has ∈ tb := tbm5 14 (by decide +kernel) rfl
theorem lkX8_86 : Cond.methodLink RX8 86 yX8_rocksBy ∈ tb := tbm5 17 (by decide +kernel) rfl
theorem lkX8_90 : Cond.methodLink RX8 90 yX8_sideBy ∈ tb := tbm5 10 (by decide +kernel) rfl
theorem lkX8_94 : Cond.methodLink RX8 94 yX8_rockBy ∈ tb := tbm5 107 (by decide +kernel) rfl
theorem lkX8_97 : Cond.methodLink RX8 97 yX8_isPerson ∈ tb := tbm4 234 (by decide +kernel) rfl
theorem lkX8_100 : Cond.methodLink RX8 100 yX8_isSaying ∈ tb := tbm5 2 (by decide +kernel) rfl
theorem lkX8_103 : Cond.methodLink RX8 103 yX8_sideOf ∈ tb := tbm5 6 (by decide +kernel) rfl
theorem lkX8_120 : Cond.methodLink RX8 120 yX8_isHere ∈ tb := tbm5 67 (by decide +kernel) rfl
theorem lkX8_123 : Cond.methodLink RX8 123 yX8_skip ∈ tb := tbm5 46 (by decide +kernel) rfl
theorem lkX8_129 : Cond.methodLink RX8 129 yX8_isDigit ∈ tb := tbm5 58 (by decide +kernel) rfl
theorem lkX8_132 : Cond.methodLink RX8 132 yX8_readsNumber ∈ tb := tbm5 54 (by decide +kernel) rfl
theorem lkX8_141 : Cond.methodLink RX8 141 yX8_sign ∈ tb := tbm5 63 (by decide +kernel) rfl
theorem lkX8_144 : Cond.methodLink RX8 144 yX8_isFor ∈ tb := tbm5 79 (by decide +kernel) rfl
theorem lkX8_150 : Cond.methodLink RX8 150 yX8_readsCell ∈ tb := tbm5 50 (by decide +kernel) rfl
theorem lkX8_154 : Cond.methodLink RX8 154 yX8_readsPerson ∈ tb := tbm5 71 (by decide +kernel) rfl
theorem lkX8_157 : Cond.methodLink RX8 157 yX8_readsSaying ∈ tb := tbm5 75 (by decide +kernel) rfl
theorem lkX8_160 : Cond.methodLink RX8 160 yX8_reads ∈ tb := tbm5 42 (by decide +kernel) rfl
theorem lkX8_163 : Cond.methodLink RX8 163 yX8_sumFrom ∈ tb := tbm5 87 (by decide +kernel) rfl
theorem lkX8_166 : Cond.methodLink RX8 166 yX8_isThrough ∈ tb := tbm5 111 (by decide +kernel) rfl
theorem lkX8_169 : Cond.methodLink RX8 169 yX8_rockOf ∈ tb := tbm5 103 (by decide +kernel) rfl
theorem lkX8_173 : Cond.methodLink RX8 173 yX8_least ∈ tb := tbm5 115 (by decide +kernel) rfl
theorem lkX8_176 : Cond.methodLink RX8 176 yX8_most ∈ tb := tbm5 118 (by decide +kernel) rfl
theorem lkX8_179 : Cond.methodLink RX8 179 yX8_keepPast ∈ tb := tbm5 95 (by decide +kernel) rfl
theorem lkX8_182 : Cond.methodLink RX8 182 yX8_pass ∈ tb := tbm5 99 (by decide +kernel) rfl
theorem lkX8_194 : Cond.methodLink RX8 194 yX8_nextAt ∈ tb := tbm5 154 (by decide +kernel) rfl
theorem lkX8_199 : Cond.methodLink RX8 199 yX8_layTried ∈ tb := tbm5 163 (by decide +kernel) rfl
theorem lkX8_202 : Cond.methodLink RX8 202 yX8_iceAhead ∈ tb := tbm5 167 (by decide +kernel) rfl
theorem lkX8_211 : Cond.methodLink RX8 211 yX8_tryLine ∈ tb := tbm5 179 (by decide +kernel) rfl
theorem lkX8_214 : Cond.methodLink RX8 214 yX8_nextRow ∈ tb := tbm5 183 (by decide +kernel) rfl
theorem lkX8_217 : Cond.methodLink RX8 217 yX8_tellLine ∈ tb := tbm5 187 (by decide +kernel) rfl
theorem lkX8_220 : Cond.methodLink RX8 220 yX8_swapLine ∈ tb := tbm5 199 (by decide +kernel) rfl
theorem lkX8_223 : Cond.methodLink RX8 223 yX8_nextOrder ∈ tb := tbm5 195 (by decide +kernel) rfl
theorem lkX8_228 : Cond.methodLink RX8 228 yX8_rockWith ∈ tb := tbm5 208 (by decide +kernel) rfl
theorem lkX8_233 : Cond.methodLink RX8 233 yX8_mostIn ∈ tb := tbm5 225 (by decide +kernel) rfl
theorem lkX8_236 : Cond.methodLink RX8 236 yX8_see ∈ tb := tbm5 233 (by decide +kernel) rfl
theorem lkX8_239 : Cond.methodLink RX8 239 yX8_areAlike ∈ tb := tbm5 237 (by decide +kernel) rfl
theorem lkX8_250 : Cond.methodLink RX8 250 yX8_isSpan ∈ tb := tbm6 31 (by decide +kernel) rfl
theorem lkX8_254 : Cond.methodLink RX8 254 yX8_isSheet ∈ tb := tbm6 22 (by decide +kernel) rfl
theorem lkX8_259 : Cond.methodLink RX8 259 yX8_noSheet ∈ tb := tbm6 27 (by decide +kernel) rfl
theorem lkX8_262 : Cond.methodLink RX8 262 yX8_isFeltSo ∈ tb := tbm6 35 (by decide +kernel) rfl
theorem lkX8_268 : Cond.methodLink RX8 268 yX8_cut ∈ tb := tbm6 56 (by decide +kernel) rfl
theorem miX3_take : MI yX3_take cX3_take 2 none 1 := ⟨tbm3 30 (by decide +kernel) rfl, tbm1 3 (by decide +kernel) rfl, by decide +kernel⟩
theorem mvX3_take : MV yX3_take 3 := ⟨tbm3 28 (by decide +kernel) rfl, tbm3 29 (by decide +kernel) rfl, _, rfl, rfl⟩
theorem miX3_isEven : MI yX3_isEven cX3_isEven 1 (some .boolean) 0 := ⟨tbm2 81 (by decide +kernel) rfl, tbm1 3 (by decide +kernel) rfl, by decide +kernel⟩
theorem mvX3_isEven : MV yX3_isEven 3 := ⟨tbm2 79 (by decide +kernel) rfl, tbm2 80 (by decide +kernel) rfl, _, rfl, rfl⟩
theorem miX0_take : MI yX0_take cX0_take 2 none 1 := ⟨tbm3 23 (by decide +kernel) rfl, tbm1 2 (by decide +kernel) rfl, by decide +kernel⟩
theorem mvX0_take : MV yX0_take 0 := ⟨tbm3 21 (by decide +kernel) rfl, tbm3 22 (by decide +kernel) rfl, _, rfl, rfl⟩
theorem miX0_hasCell : MI yX0_hasCell cX0_hasCell 2 (some .boolean) 1 := ⟨tbm2 57 (by decide +kernel) rfl, tbm1 2 (by decide +kernel) rfl, by decide +kernel⟩
theorem mvX0_hasCell : MV yX0_hasCell 0 := ⟨tbm2 55 (by decide +kernel) rfl, tbm2 56 (by decide +kernel) rfl, _, rfl, rfl⟩
theorem miX0_hasPerson : MI yX0_hasPerson cX0_hasPerson 2 (some .boolean) 1 := ⟨tbm2 65 (by decide +kernel) rfl, tbm1 2 (by decide +kernel) rfl, by decide +kernel⟩
theorem mvX0_hasPerson : MV yX0_hasPerson 0 := ⟨tbm2 63 (by decide +kernel) rfl, tbm2 64 (by decide +kernel) rfl, _, rfl, rfl⟩
theorem miX0_hasSaying : MI yX0_hasSaying cX0_hasSaying 2 (some .boolean) 1 := ⟨tbm2 77 (by decide +kernel) rfl, tbm1 2 (by decide +kernel) rfl, by decide +kernel⟩
theorem mvX0_hasSaying : MV yX0_hasSaying 0 := ⟨tbm2 75 (by decide +kernel) rfl, tbm2 76 (by decide +kernel) rfl, _, rfl, rfl⟩
theorem miX0_everybody : MI yX0_everybody cX0_everybody 1 (some .int) 0 := ⟨tbm2 45 (by decide +kernel) rfl, tbm1 2 (by decide +kernel) rfl, by decide +kernel⟩
theorem mvX0_everybody : MV yX0_everybody 0 := ⟨tbm2 43 (by decide +kernel) rfl, tbm2 44 (by decide +kernel) rfl, _, rfl, rfl⟩
theorem miX0_addCell : MI yX0_addCell cX0_addCell 2 (some .int) 1 := ⟨tbm2 29 (by decide +kernel) rfl, tbm1 2 (by decide +kernel) rfl, by decide +kernel⟩
theorem mvX0_addCell : MV yX0_addCell 0 := ⟨tbm2 27 (by decide +kernel) rfl, tbm2 28 (by decide +kernel) rfl, _, rfl, rfl⟩
theorem miX0_addPerson : MI yX0_addPerson cX0_addPerson 3 (some .int) 2 := ⟨tbm2 37 (by decide +kernel) rfl, tbm1 2 (by decide +kernel) rfl, by decide +kernel⟩
theorem mvX0_addPerson : MV yX0_addPerson 0 := ⟨tbm2 35 (by decide +kernel) rfl, tbm2 36 (by decide +kernel) rfl, _, rfl, rfl⟩
theorem miX0_addSaying : MI yX0_addSaying cX0_addSaying 3 (some .int) 2 := ⟨tbm2 49 (by decide +kernel) rfl, tbm1 2 (by decide +kernel) rfl, by decide +kernel⟩
theorem mvX0_addSaying : MV yX0_addSaying 0 := ⟨tbm2 47 (by decide +kernel) rfl, tbm2 48 (by decide +kernel) rfl, _, rfl, rfl⟩
theorem miX0_sayingsFor : MI yX0_sayingsFor cX0_sayingsFor 4 (some .int) 1 := ⟨tbm2 69 (by decide +kernel) rfl, tbm1 2 (by decide +kernel) rfl, by decide +kernel⟩
theorem mvX0_sayingsFor : MV yX0_sayingsFor 0 := ⟨tbm2 67 (by decide +kernel) rfl, tbm2 68 (by decide +kernel) rfl, _, rfl, rfl⟩
theorem miX0_sideOf : MI yX0_sideOf cX0_sideOf 4 (some .int) 2 := ⟨tbm2 103 (by decide +kernel) rfl, tbm1 2 (by decide +kernel) rfl, by decide +kernel⟩
theorem mvX0_sideOf : MV yX0_sideOf 0 := ⟨tbm2 101 (by decide +kernel) rfl, tbm2 102 (by decide +kernel) rfl, _, rfl, rfl⟩
theorem miX0_iceFromHereOn : MI yX0_iceFromHereOn cX0_iceFromHereOn 3 (some .int) 0 := ⟨tbm3 40 (by decide +kernel) rfl, tbm1 2 (by decide +kernel) rfl, by decide +kernel⟩
theorem mvX0_iceFromHereOn : MV yX0_iceFromHereOn 0 := ⟨tbm3 38 (by decide +kernel) rfl, tbm3 39 (by decide +kernel) rfl, _, rfl, rfl⟩
theorem miX0_juiceOfAll : MI yX0_juiceOfAll cX0_juiceOfAll 3 (some .int) 0 := ⟨tbm3 44 (by decide +kernel) rfl, tbm1 2 (by decide +kernel) rfl, by decide +kernel⟩
theorem mvX0_juiceOfAll : MV yX0_juiceOfAll 0 := ⟨tbm3 42 (by decide +kernel) rfl, tbm3 43 (by decide +kernel) rfl, _, rfl, rfl⟩
theorem miX0_isThrough : MI yX0_isThrough cX0_isThrough 2 (some .boolean) 1 := ⟨tbm3 62 (by decide +kernel) rfl, tbm1 2 (by decide +kernel) rfl, by decide +kernel⟩
theorem mvX0_isThrough : MV yX0_isThrough 0 := ⟨tbm3 60 (by decide +kernel) rfl, tbm3 61 (by decide +kernel) rfl, _, rfl, rfl⟩
theorem miX0_iceAhead : MI yX0_iceAhead cX0_iceAhead 2 (some .int) 1 := ⟨tbm3 139 (by decide +kernel) rfl, tbm1 2 (by decide +kernel) rfl, by decide +kernel⟩
theorem mvX0_iceAhead : MV yX0_iceAhead 0 := ⟨tbm3 137 (by decide +kernel) rfl, tbm3 138 (by decide +kernel) rfl, _, rfl, rfl⟩
theorem miX0_personRocks : MI yX0_personRocks cX0_personRocks 8 (some .int) 4 := ⟨tbm2 95 (by decide +kernel) rfl, tbm1 2 (by decide +kernel) rfl, by decide +kernel⟩
theorem mvX0_personRocks : MV yX0_personRocks 0 := ⟨tbm2 93 (by decide +kernel) rfl, tbm2 94 (by decide +kernel) rfl, _, rfl, rfl⟩
theorem miJ6_bitCount_0f7a4 : MI yJ6_bitCount_0f7a4 cJ6_bitCount_0f7a4 1 (some .int) 1 := ⟨tbm2 88 (by decide +kernel) rfl, tbm1 10 (by decide +kernel) rfl, by decide +kernel⟩
theorem msJ6_bitCount_0f7a4 : Cond.static yJ6_bitCount_0f7a4 ∈ tb := tbm2 87 (by decide +kernel) rfl
theorem miX0_sideRocks : MI yX0_sideRocks cX0_sideRocks 7 (some .int) 3 := ⟨tbm2 85 (by decide +kernel) rfl, tbm1 2 (by decide +kernel) rfl, by decide +kernel⟩
theorem mvX0_sideRocks : MV yX0_sideRocks 0 := ⟨tbm2 83 (by decide +kernel) rfl, tbm2 84 (by decide +kernel) rfl, _, rfl, rfl⟩
theorem miX0_boatRocks : MI yX0_boatRocks cX0_boatRocks 5 (some .int) 4 := ⟨tbm3 72 (by decide +kernel) rfl, tbm1 2 (by decide +kernel) rfl, by decide +kernel⟩
theorem mvX0_boatRocks : MV yX0_boatRocks 0 := ⟨tbm3 70 (by decide +kernel) rfl, tbm3 71 (by decide +kernel) rfl, _, rfl, rfl⟩
theorem miX0_sayingRocks : MI yX0_sayingRocks cX0_sayingRocks 3 (some .int) 2 := ⟨tbm3 67 (by decide +kernel) rfl, tbm1 2 (by decide +kernel) rfl, by decide +kernel⟩
theorem mvX0_sayingRocks : MV yX0_sayingRocks 0 := ⟨tbm3 65 (by decide +kernel) rfl, tbm3 66 (by decide +kernel) rfl, _, rfl, rfl⟩
theorem miX0_crewRocks : MI yX0_crewRocks cX0_crewRocks 3 (some .int) 2 := ⟨tbm3 182 (by decide +kernel) rfl, tbm1 2 (by decide +kernel) rfl, by decide +kernel⟩
theorem mvX0_crewRocks : MV yX0_crewRocks 0 := ⟨tbm3 180 (by decide +kernel) rfl, tbm3 181 (by decide +kernel) rfl, _, rfl, rfl⟩
theorem miX0_swayedRocks : MI yX0_swayedRocks cX0_swayedRocks 3 (some .int) 2 := ⟨tbm3 196 (by decide +kernel) rfl, tbm1 2 (by decide +kernel) rfl, by decide +kernel⟩
theorem mvX0_swayedRocks : MV yX0_swayedRocks 0 := ⟨tbm3 194 (by decide +kernel) rfl, tbm3 195 (by decide +kernel) rfl, _, rfl, rfl⟩
theorem miX0_partingRocks : MI yX0_partingRocks cX0_partingRocks 5 (some .int) 1 := ⟨tbm3 222 (by decide +kernel) rfl, tbm1 2 (by decide +kernel) rfl, by decide +kernel⟩
theorem mvX0_partingRocks : MV yX0_partingRocks 0 := ⟨tbm3 220 (by decide +kernel) rfl, tbm3 221 (by decide +kernel) rfl, _, rfl, rfl⟩
theorem miX0_mostRocking : MI yX0_mostRocking cX0_mostRocking 6 (some .int) 1 := ⟨tbm3 124 (by decide +kernel) rfl, tbm1 2 (by decide +kernel) rfl, by decide +kernel⟩
theorem mvX0_mostRocking : MV yX0_mostRocking 0 := ⟨tbm3 122 (by decide +kernel) rfl, tbm3 123 (by decide +kernel) rfl, _, rfl, rfl⟩
theorem miX0_breakIce : MI yX0_breakIce cX0_breakIce 4 none 2 := ⟨tbm3 78 (by decide +kernel) rfl, tbm1 2 (by decide +kernel) rfl, by decide +kernel⟩
theorem mvX0_breakIce : MV yX0_breakIce 0 := ⟨tbm3 77 (by decide +kernel) rfl, tbm0 10 (by decide +kernel) rfl, _, rfl, rfl⟩
theorem miX0_pass : MI yX0_pass cX0_pass 4 none 2 := ⟨tbm3 58 (by decide +kernel) rfl, tbm1 2 (by decide +kernel) rfl, by decide +kernel⟩
theorem mvX0_pass : MV yX0_pass 0 := ⟨tbm3 56 (by decide +kernel) rfl, tbm3 57 (by decide +kernel) rfl, _, rfl, rfl⟩
theorem miX0_drawSaying : MI yX0_drawSaying cX0_drawSaying 2 (some .int) 0 := ⟨tbm3 96 (by decide +kernel) rfl, tbm1 2 (by decide +kernel) rfl, by decide +kernel⟩
theorem mvX0_drawSaying : MV yX0_drawSaying 0 := ⟨tbm3 94 (by decide +kernel) rfl, tbm3 95 (by decide +kernel) rfl, _, rfl, rfl⟩
theorem miX2_keep : MI yX2_keep cX2_keep 2 none 1 := ⟨tbm3 52 (by decide +kernel) rfl, tbm1 4 (by decide +kernel) rfl, by decide +kernel⟩
theorem mvX2_keep : MV yX2_keep 2 := ⟨tbm3 50 (by decide +kernel) rfl, tbm3 51 (by decide +kernel) rfl, _, rfl, rfl⟩
theorem miX2_bringBack : MI yX2_bringBack cX2_bringBack 2 none 1 := ⟨tbm3 107 (by decide +kernel) rfl, tbm1 4 (by decide +kernel) rfl, by decide +kernel⟩
theorem mvX2_bringBack : MV yX2_bringBack 2 := ⟨tbm3 105 (by decide +kernel) rfl, tbm3 106 (by decide +kernel) rfl, _, rfl, rfl⟩
theorem miX2_forget : MI yX2_forget cX2_forget 1 none 0 := ⟨tbm2 25 (by decide +kernel) rfl, tbm1 4 (by decide +kernel) rfl, by decide +kernel⟩
theorem mvX2_forget : MV yX2_forget 2 := ⟨tbm2 23 (by decide +kernel) rfl, tbm2 24 (by decide +kernel) rfl, _, rfl, rfl⟩
theorem miX2_take : MI yX2_take cX2_take 3 none 1 := ⟨tbm4 38 (by decide +kernel) rfl, tbm1 4 (by decide +kernel) rfl, by decide +kernel⟩
theorem mvX2_take : MV yX2_take 2 := ⟨tbm4 36 (by decide +kernel) rfl, tbm4 37 (by decide +kernel) rfl, _, rfl, rfl⟩
theorem miX1_greedyFor : MI yX1_greedyFor cX1_greedyFor 4 (some (.object "GossipBoat$Moment")) 2 := ⟨tbm3 132 (by decide +kernel) rfl, tbm1 6 (by decide +kernel) rfl, by decide +kernel⟩
theorem mvX1_greedyFor : MV yX1_greedyFor 1 := ⟨tbm3 130 (by decide +kernel) rfl, tbm3 131 (by decide +kernel) rfl, _, rfl, rfl⟩
theorem miX1_minutesUntilThrough : MI yX1_minutesUntilThrough cX1_minutesUntilThrough 3 (some .int) 1 := ⟨tbm3 147 (by decide +kernel) rfl, tbm1 6 (by decide +kernel) rfl, by decide +kernel⟩
theorem mvX1_minutesUntilThrough : MV yX1_minutesUntilThrough 1 := ⟨tbm3 145 (by decide +kernel) rfl, tbm3 146 (by decide +kernel) rfl, _, rfl, rfl⟩
theorem miX1_mark : MI yX1_mark cX1_mark 5 (some .long) 1 := ⟨tbm3 236 (by decide +kernel) rfl, tbm1 6 (by decide +kernel) rfl, by decide +kernel⟩
theorem mvX1_mark : MV yX1_mark 1 := ⟨tbm3 235 (by decide +kernel) rfl, tbm0 12 (by decide +kernel) rfl, _, rfl, rfl⟩
theorem miX1_firstLike : MI yX1_firstLike cX1_firstLike 3 (some .int) 1 := ⟨tbm4 5 (by decide +kernel) rfl, tbm1 6 (by decide +kernel) rfl, by decide +kernel⟩
theorem mvX1_firstLike : MV yX1_firstLike 1 := ⟨tbm4 3 (by decide +kernel) rfl, tbm4 4 (by decide +kernel) rfl, _, rfl, rfl⟩
theorem miX1_ringEnd : MI yX1_ringEnd cX1_ringEnd 3 (some .int) 1 := ⟨tbm3 232 (by decide +kernel) rfl, tbm1 6 (by decide +kernel) rfl, by decide +kernel⟩
theorem mvX1_ringEnd : MV yX1_ringEnd 1 := ⟨tbm3 230 (by decide +kernel) rfl, tbm3 231 (by decide +kernel) rfl, _, rfl, rfl⟩
theorem miX1_bestCrew : MI yX1_bestCrew cX1_bestCrew 8 (some .int) 3 := ⟨tbm3 176 (by decide +kernel) rfl, tbm1 6 (by decide +kernel) rfl, by decide +kernel⟩
theorem mvX1_bestCrew : MV yX1_bestCrew 1 := ⟨tbm3 174 (by decide +kernel) rfl, tbm3 175 (by decide +kernel) rfl, _, rfl, rfl⟩
theorem miX1_bestMind : MI yX1_bestMind cX1_bestMind 7 (some .int) 2 := ⟨tbm3 191 (by decide +kernel) rfl, tbm1 6 (by decide +kernel) rfl, by decide +kernel⟩
theorem mvX1_bestMind : MV yX1_bestMind 1 := ⟨tbm3 189 (by decide +kernel) rfl, tbm3 190 (by decide +kernel) rfl, _, rfl, rfl⟩
theorem miX1_fewestMinds : MI yX1_fewestMinds cX1_fewestMinds 8 (some .int) 3 := ⟨tbm3 209 (by decide +kernel) rfl, tbm1 6 (by decide +kernel) rfl, by decide +kernel⟩
theorem mvX1_fewestMinds : MV yX1_fewestMinds 1 := ⟨tbm3 207 (by decide +kernel) rfl, tbm3 208 (by decide +kernel) rfl, _, rfl, rfl⟩
theorem miX1_bestParting : MI yX1_bestParting cX1_bestParting 6 (some .int) 1 := ⟨tbm3 218 (by decide +kernel) rfl, tbm1 6 (by decide +kernel) rfl, by decide +kernel⟩
theorem mvX1_bestParting : MV yX1_bestParting 1 := ⟨tbm3 216 (by decide +kernel) rfl, tbm3 217 (by decide +kernel) rfl, _, rfl, rfl⟩
theorem miX1_leastJuice : MI yX1_leastJuice cX1_leastJuice 6 (some .int) 2 := ⟨tbm4 14 (by decide +kernel) rfl, tbm1 6 (by decide +kernel) rfl, by decide +kernel⟩
theorem mvX1_leastJuice : MV yX1_leastJuice 1 := ⟨tbm4 12 (by decide +kernel) rfl, tbm4 13 (by decide +kernel) rfl, _, rfl, rfl⟩
theorem miX1_power : MI yX1_power cX1_power 4 (some .int) 2 := ⟨tbm4 29 (by decide +kernel) rfl, tbm1 6 (by decide +kernel) rfl, by decide +kernel⟩
theorem msX1_power : Cond.static yX1_power ∈ tb := tbm4 28 (by decide +kernel) rfl
theorem miX1_chances : MI yX1_chances cX1_chances 6 (some .int) 3 := ⟨tbm4 26 (by decide +kernel) rfl, tbm1 6 (by decide +kernel) rfl, by decide +kernel⟩
theorem msX1_chances : Cond.static yX1_chances ∈ tb := tbm4 25 (by decide +kernel) rfl
theorem miX1_likelihood : MI yX1_likelihood cX1_likelihood 8 (some .int) 4 := ⟨tbm4 23 (by decide +kernel) rfl, tbm1 6 (by decide +kernel) rfl, by decide +kernel⟩
theorem mvX1_likelihood : MV yX1_likelihood 1 := ⟨tbm4 21 (by decide +kernel) rfl, tbm4 22 (by decide +kernel) rfl, _, rfl, rfl⟩
theorem miX4_judge : MI yX4_judge cX4_judge 4 none 2 := ⟨tbm3 165 (by decide +kernel) rfl, tbm1 7 (by decide +kernel) rfl, by decide +kernel⟩
theorem mvX4_judge : MV yX4_judge 4 := ⟨tbm3 164 (by decide +kernel) rfl, tbm0 11 (by decide +kernel) rfl, _, rfl, rfl⟩
theorem miX4_tryFrom : MI yX4_tryFrom cX4_tryFrom 6 none 4 := ⟨tbm3 161 (by decide +kernel) rfl, tbm1 7 (by decide +kernel) rfl, by decide +kernel⟩
theorem msX4_tryFrom : Cond.static yX4_tryFrom ∈ tb := tbm3 160 (by decide +kernel) rfl
theorem miX4_best : MI yX4_best cX4_best 5 (some .int) 4 := ⟨tbm3 156 (by decide +kernel) rfl, tbm1 7 (by decide +kernel) rfl, by decide +kernel⟩
theorem mvX4_best : MV yX4_best 4 := ⟨tbm3 154 (by decide +kernel) rfl, tbm3 155 (by decide +kernel) rfl, _, rfl, rfl⟩
theorem miX5_begin : MI yX5_begin cX5_begin 4 none 2 := ⟨tbm4 97 (by decide +kernel) rfl, tbm1 8 (by decide +kernel) rfl, by decide +kernel⟩
theorem mvX5_begin : MV yX5_begin 5 := ⟨tbm4 95 (by decide +kernel) rfl, tbm4 96 (by decide +kernel) rfl, _, rfl, rfl⟩
theorem miX5_end : MI yX5_end cX5_end 1 none 0 := ⟨tbm4 106 (by decide +kernel) rfl, tbm1 8 (by decide +kernel) rfl, by decide +kernel⟩
theorem mvX5_end : MV yX5_end 5 := ⟨tbm4 104 (by decide +kernel) rfl, tbm4 105 (by decide +kernel) rfl, _, rfl, rfl⟩
theorem miX5_isNothing : MI yX5_isNothing cX5_isNothing 1 (some .boolean) 0 := ⟨tbm4 60 (by decide +kernel) rfl, tbm1 8 (by decide +kernel) rfl, by decide +kernel⟩
theorem mvX5_isNothing : MV yX5_isNothing 5 := ⟨tbm4 58 (by decide +kernel) rfl, tbm4 59 (by decide +kernel) rfl, _, rfl, rfl⟩
theorem miX5_holds : MI yX5_holds cX5_holds 3 (some .boolean) 2 := ⟨tbm4 64 (by decide +kernel) rfl, tbm1 8 (by decide +kernel) rfl, by decide +kernel⟩
theorem mvX5_holds : MV yX5_holds 5 := ⟨tbm4 62 (by decide +kernel) rfl, tbm4 63 (by decide +kernel) rfl, _, rfl, rfl⟩
theorem miX5_refusal : MI yX5_refusal cX5_refusal 4 (some .int) 3 := ⟨tbm4 56 (by decide +kernel) rfl, tbm1 8 (by decide +kernel) rfl, by decide +kernel⟩
theorem mvX5_refusal : MV yX5_refusal 5 := ⟨tbm4 54 (by decide +kernel) rfl, tbm4 55 (by decide +kernel) rfl, _, rfl, rfl⟩
theorem miX5_put : MI yX5_put cX5_put 4 none 2 := ⟨tbm4 89 (by decide +kernel) rfl, tbm1 8 (by decide +kernel) rfl, by decide +kernel⟩
theorem mvX5_put : MV yX5_put 5 := ⟨tbm4 87 (by decide +kernel) rfl, tbm4 88 (by decide +kernel) rfl, _, rfl, rfl⟩
theorem miX6_isFull : MI yX6_isFull cX6_isFull 1 (some .boolean) 0 := ⟨tbm2 117 (by decide +kernel) rfl, tbm1 5 (by decide +kernel) rfl, by decide +kernel⟩
theorem mvX6_isFull : MV yX6_isFull 6 := ⟨tbm2 115 (by decide +kernel) rfl, tbm2 116 (by decide +kernel) rfl, _, rfl, rfl⟩
theorem miX6_add : MI yX6_add cX6_add 2 (some .int) 1 := ⟨tbm2 121 (by decide +kernel) rfl, tbm1 5 (by decide +kernel) rfl, by decide +kernel⟩
theorem mvX6_add : MV yX6_add 6 := ⟨tbm2 119 (by decide +kernel) rfl, tbm2 120 (by decide +kernel) rfl, _, rfl, rfl⟩
theorem miX6_skipBlanks : MI yX6_skipBlanks cX6_skipBlanks 1 none 0 := ⟨tbm2 141 (by decide +kernel) rfl, tbm1 5 (by decide +kernel) rfl, by decide +kernel⟩
theorem mvX6_skipBlanks : MV yX6_skipBlanks 6 := ⟨tbm2 140 (by decide +kernel) rfl, tbm0 2 (by decide +kernel) rfl, _, rfl, rfl⟩
theorem miX6_digitHere : MI yX6_digitHere cX6_digitHere 1 (some .int) 0 := ⟨tbm2 145 (by decide +kernel) rfl, tbm1 5 (by decide +kernel) rfl, by decide +kernel⟩
theorem mvX6_digitHere : MV yX6_digitHere 6 := ⟨tbm2 144 (by decide +kernel) rfl, tbm0 3 (by decide +kernel) rfl, _, rfl, rfl⟩
theorem miX6_readNumber : MI yX6_readNumber cX6_readNumber 3 (some .boolean) 1 := ⟨tbm2 137 (by decide +kernel) rfl, tbm1 5 (by decide +kernel) rfl, by decide +kernel⟩
theorem mvX6_readNumber : MV yX6_readNumber 6 := ⟨tbm2 136 (by decide +kernel) rfl, tbm0 1 (by decide +kernel) rfl, _, rfl, rfl⟩
theorem miX6_readLetter : MI yX6_readLetter cX6_readLetter 2 (some .boolean) 1 := ⟨tbm2 150 (by decide +kernel) rfl, tbm1 5 (by decide +kernel) rfl, by decide +kernel⟩
theorem mvX6_readLetter : MV yX6_readLetter 6 := ⟨tbm2 149 (by decide +kernel) rfl, tbm0 4 (by decide +kernel) rfl, _, rfl, rfl⟩
theorem miX6_readCells : MI yX6_readCells cX6_readCells 2 (some .boolean) 0 := ⟨tbm2 133 (by decide +kernel) rfl, tbm1 5 (by decide +kernel) rfl, by decide +kernel⟩
theorem mvX6_readCells : MV yX6_readCells 6 := ⟨tbm2 132 (by decide +kernel) rfl, tbm0 0 (by decide +kernel) rfl, _, rfl, rfl⟩
theorem miJ0_isLatin1_aae02 : MI yJ0_isLatin1_aae02 cJ0_isLatin1_aae02 1 (some .boolean) 0 := ⟨tbm2 171 (by decide +kernel) rfl, tbm1 11 (by decide +kernel) rfl, by decide +kernel⟩
theorem mwJ0_isLatin1_aae02 : Cond.instanceMethod yJ0_isLatin1_aae02 ∈ tb ∧ Cond.selects "java/lang/String" yJ0_isLatin1_aae02 yJ0_isLatin1_aae02 ∈ tb := ⟨tbm2 169 (by decide +kernel) rfl, tbm2 170 (by decide +kernel) rfl⟩
theorem miJ0_coder_7d493 : MI yJ0_coder_7d493 cJ0_coder_7d493 1 (some .byte) 0 := ⟨tbm2 181 (by decide +kernel) rfl, tbm1 11 (by decide +kernel) rfl, by decide +kernel⟩
theorem mwJ0_coder_7d493 : Cond.instanceMethod yJ0_coder_7d493 ∈ tb ∧ Cond.selects "java/lang/String" yJ0_coder_7d493 yJ0_coder_7d493 ∈ tb := ⟨tbm2 179 (by decide +kernel) rfl, tbm2 180 (by decide +kernel) rfl⟩
theorem miJ0_length_8abf5 : MI yJ0_length_8abf5 cJ0_length_8abf5 1 (some .int) 0 := ⟨tbm2 177 (by decide +kernel) rfl, tbm1 11 (by decide +kernel) rfl, by decide +kernel⟩
theorem mwJ0_length_8abf5 : Cond.instanceMethod yJ0_length_8abf5 ∈ tb ∧ Cond.selects "java/lang/String" yJ0_length_8abf5 yJ0_length_8abf5 ∈ tb := ⟨tbm2 175 (by decide +kernel) rfl, tbm2 176 (by decide +kernel) rfl⟩
theorem miJ1_canEncode_9a6ad : MI yJ1_canEncode_9a6ad cJ1_canEncode_9a6ad 1 (some .boolean) 1 := ⟨tbm2 187 (by decide +kernel) rfl, tbm1 12 (by decide +kernel) rfl, by decide +kernel⟩
theorem msJ1_canEncode_9a6ad : Cond.static yJ1_canEncode_9a6ad ∈ tb := tbm2 186 (by decide +kernel) rfl
theorem miJ1_indexOfChar_4cfef : MI yJ1_indexOfChar_4cfef cJ1_indexOfChar_4cfef 6 (some .int) 4 := ⟨tbm2 196 (by decide +kernel) rfl, tbm1 12 (by decide +kernel) rfl, by decide +kernel⟩
theorem msJ1_indexOfChar_4cfef : Cond.static yJ1_indexOfChar_4cfef ∈ tb := tbm2 195 (by decide +kernel) rfl
theorem miJ1_indexOf_4cfef : MI yJ1_indexOf_4cfef cJ1_indexOf_4cfef 4 (some .int) 4 := ⟨tbm2 184 (by decide +kernel) rfl, tbm1 12 (by decide +kernel) rfl, by decide +kernel⟩
theorem msJ1_indexOf_4cfef : Cond.static yJ1_indexOf_4cfef ∈ tb := tbm2 183 (by decide +kernel) rfl
theorem miJ0_indexOf_7cf53 : MI yJ0_indexOf_7cf53 cJ0_indexOf_7cf53 3 (some .int) 2 := ⟨tbm2 167 (by decide +kernel) rfl, tbm1 11 (by decide +kernel) rfl, by decide +kernel⟩
theorem mwJ0_indexOf_7cf53 : Cond.instanceMethod yJ0_indexOf_7cf53 ∈ tb ∧ Cond.selects "java/lang/String" yJ0_indexOf_7cf53 yJ0_indexOf_7cf53 ∈ tb := ⟨tbm2 165 (by decide +kernel) rfl, tbm2 166 (by decide +kernel) rfl⟩
theorem miJ0_indexOf_0f7a4 : MI yJ0_indexOf_0f7a4 cJ0_indexOf_0f7a4 2 (some .int) 1 := ⟨tbm2 163 (by decide +kernel) rfl, tbm1 11 (by decide +kernel) rfl, by decide +kernel⟩
theorem mwJ0_indexOf_0f7a4 : Cond.instanceMethod yJ0_indexOf_0f7a4 ∈ tb ∧ Cond.selects "java/lang/String" yJ0_indexOf_0f7a4 yJ0_indexOf_0f7a4 ∈ tb := ⟨tbm2 161 (by decide +kernel) rfl, tbm2 162 (by decide +kernel) rfl⟩
theorem miX6_readPerson : MI yX6_readPerson cX6_readPerson 3 (some .boolean) 0 := ⟨tbm2 158 (by decide +kernel) rfl, tbm1 5 (by decide +kernel) rfl, by decide +kernel⟩
theorem mvX6_readPerson : MV yX6_readPerson 6 := ⟨tbm2 157 (by decide +kernel) rfl, tbm0 6 (by decide +kernel) rfl, _, rfl, rfl⟩
theorem miX6_readPeople : MI yX6_readPeople cX6_readPeople 2 (some .boolean) 0 := ⟨tbm2 154 (by decide +kernel) rfl, tbm1 5 (by decide +kernel) rfl, by decide +kernel⟩
theorem mvX6_readPeople : MV yX6_readPeople 6 := ⟨tbm2 153 (by decide +kernel) rfl, tbm0 5 (by decide +kernel) rfl, _, rfl, rfl⟩
theorem miX6_readFors : MI yX6_readFors cX6_readFors 5 (some .boolean) 1 := ⟨tbm3 19 (by decide +kernel) rfl, tbm1 5 (by decide +kernel) rfl, by decide +kernel⟩
theorem mvX6_readFors : MV yX6_readFors 6 := ⟨tbm3 18 (by decide +kernel) rfl, tbm0 9 (by decide +kernel) rfl, _, rfl, rfl⟩
theorem miX6_readSayings : MI yX6_readSayings cX6_readSayings 2 (some .boolean) 0 := ⟨tbm3 14 (by decide +kernel) rfl, tbm1 5 (by decide +kernel) rfl, by decide +kernel⟩
theorem mvX6_readSayings : MV yX6_readSayings 6 := ⟨tbm3 13 (by decide +kernel) rfl, tbm0 8 (by decide +kernel) rfl, _, rfl, rfl⟩
theorem miX6_readEnd : MI yX6_readEnd cX6_readEnd 1 (some .boolean) 0 := ⟨tbm3 10 (by decide +kernel) rfl, tbm1 5 (by decide +kernel) rfl, by decide +kernel⟩
theorem mvX6_readEnd : MV yX6_readEnd 6 := ⟨tbm3 9 (by decide +kernel) rfl, tbm0 7 (by decide +kernel) rfl, _, rfl, rfl⟩
theorem miX6_readInto : MI yX6_readInto cX6_readInto 2 (some .int) 1 := ⟨tbm2 129 (by decide +kernel) rfl, tbm1 5 (by decide +kernel) rfl, by decide +kernel⟩
theorem mvX6_readInto : MV yX6_readInto 6 := ⟨tbm2 127 (by decide +kernel) rfl, tbm2 128 (by decide +kernel) rfl, _, rfl, rfl⟩
theorem miX7_within : MI yX7_within cX7_within 3 (some .boolean) 3 := ⟨tbm2 21 (by decide +kernel) rfl, tbm1 1 (by decide +kernel) rfl, by decide +kernel⟩
theorem msX7_within : Cond.static yX7_within ∈ tb := tbm2 20 (by decide +kernel) rfl
theorem miX7_cell : MI yX7_cell cX7_cell 2 (some .int) 1 := ⟨tbm2 18 (by decide +kernel) rfl, tbm1 1 (by decide +kernel) rfl, by decide +kernel⟩
theorem mvX7_cell : MV yX7_cell 7 := ⟨tbm2 16 (by decide +kernel) rfl, tbm2 17 (by decide +kernel) rfl, _, rfl, rfl⟩
theorem miX7_person : MI yX7_person cX7_person 3 (some .int) 2 := ⟨tbm2 33 (by decide +kernel) rfl, tbm1 1 (by decide +kernel) rfl, by decide +kernel⟩
theorem mvX7_person : MV yX7_person 7 := ⟨tbm2 31 (by decide +kernel) rfl, tbm2 32 (by decide +kernel) rfl, _, rfl, rfl⟩
theorem miX7_saying : MI yX7_saying cX7_saying 3 (some .int) 2 := ⟨tbm2 41 (by decide +kernel) rfl, tbm1 1 (by decide +kernel) rfl, by decide +kernel⟩
theorem mvX7_saying : MV yX7_saying 7 := ⟨tbm2 39 (by decide +kernel) rfl, tbm2 40 (by decide +kernel) rfl, _, rfl, rfl⟩
theorem miX7_ice : MI yX7_ice cX7_ice 2 (some .int) 1 := ⟨tbm2 53 (by decide +kernel) rfl, tbm1 1 (by decide +kernel) rfl, by decide +kernel⟩
theorem mvX7_ice : MV yX7_ice 7 := ⟨tbm2 51 (by decide +kernel) rfl, tbm2 52 (by decide +kernel) rfl, _, rfl, rfl⟩
theorem miX7_of : MI yX7_of cX7_of 3 (some .int) 2 := ⟨tbm2 61 (by decide +kernel) rfl, tbm1 1 (by decide +kernel) rfl, by decide +kernel⟩
theorem mvX7_of : MV yX7_of 7 := ⟨tbm2 59 (by decide +kernel) rfl, tbm2 60 (by decide +kernel) rfl, _, rfl, rfl⟩
theorem miX7_at : MI yX7_at cX7_at 5 (some .int) 2 := ⟨tbm2 73 (by decide +kernel) rfl, tbm1 1 (by decide +kernel) rfl, by decide +kernel⟩
theorem mvX7_at : MV yX7_at 7 := ⟨tbm2 71 (by decide +kernel) rfl, tbm2 72 (by decide +kernel) rfl, _, rfl, rfl⟩
theorem miX7_rocks : MI yX7_rocks cX7_rocks 4 (some .int) 2 := ⟨tbm2 99 (by decide +kernel) rfl, tbm1 1 (by decide +kernel) rfl, by decide +kernel⟩
theorem mvX7_rocks : MV yX7_rocks 7 := ⟨tbm2 97 (by decide +kernel) rfl, tbm2 98 (by decide +kernel) rfl, _, rfl, rfl⟩
theorem miX7_frost : MI yX7_frost cX7_frost 3 (some .int) 1 := ⟨tbm2 109 (by decide +kernel) rfl, tbm1 1 (by decide +kernel) rfl, by decide +kernel⟩
theorem mvX7_frost : MV yX7_frost 7 := ⟨tbm2 107 (by decide +kernel) rfl, tbm2 108 (by decide +kernel) rfl, _, rfl, rfl⟩
theorem miX7_type : MI yX7_type cX7_type 2 (some .int) 1 := ⟨tbm2 113 (by decide +kernel) rfl, tbm1 1 (by decide +kernel) rfl, by decide +kernel⟩
theorem mvX7_type : MV yX7_type 7 := ⟨tbm2 111 (by decide +kernel) rfl, tbm2 112 (by decide +kernel) rfl, _, rfl, rfl⟩
theorem miX7_canal : MI yX7_canal cX7_canal 2 (some .int) 0 := ⟨tbm2 125 (by decide +kernel) rfl, tbm1 1 (by decide +kernel) rfl, by decide +kernel⟩
theorem mvX7_canal : MV yX7_canal 7 := ⟨tbm2 123 (by decide +kernel) rfl, tbm2 124 (by decide +kernel) rfl, _, rfl, rfl⟩
theorem miX7_count : MI yX7_count cX7_count 2 (some .int) 1 := ⟨tbm3 36 (by decide +kernel) rfl, tbm1 1 (by decide +kernel) rfl, by decide +kernel⟩
theorem mvX7_count : MV yX7_count 7 := ⟨tbm3 34 (by decide +kernel) rfl, tbm3 35 (by decide +kernel) rfl, _, rfl, rfl⟩
theorem miX7_say : MI yX7_say cX7_say 2 (some .int) 1 := ⟨tbm3 48 (by decide +kernel) rfl, tbm1 1 (by decide +kernel) rfl, by decide +kernel⟩
theorem mvX7_say : MV yX7_say 7 := ⟨tbm3 46 (by decide +kernel) rfl, tbm3 47 (by decide +kernel) rfl, _, rfl, rfl⟩
theorem miX7_thaw : MI yX7_thaw cX7_thaw 3 (some .int) 2 := ⟨tbm3 83 (by decide +kernel) rfl, tbm1 1 (by decide +kernel) rfl, by decide +kernel⟩
theorem mvX7_thaw : MV yX7_thaw 7 := ⟨tbm3 81 (by decide +kernel) rfl, tbm3 82 (by decide +kernel) rfl, _, rfl, rfl⟩
theorem miX7_mind : MI yX7_mind cX7_mind 3 (some .int) 2 := ⟨tbm3 88 (by decide +kernel) rfl, tbm1 1 (by decide +kernel) rfl, by decide +kernel⟩
theorem mvX7_mind : MV yX7_mind 7 := ⟨tbm3 86 (by decide +kernel) rfl, tbm3 87 (by decide +kernel) rfl, _, rfl, rfl⟩
theorem miX7_drift : MI yX7_drift cX7_drift 3 (some .int) 1 := ⟨tbm3 92 (by decide +kernel) rfl, tbm1 1 (by decide +kernel) rfl, by decide +kernel⟩
theorem mvX7_drift : MV yX7_drift 7 := ⟨tbm3 90 (by decide +kernel) rfl, tbm3 91 (by decide +kernel) rfl, _, rfl, rfl⟩
theorem miX7_undo : MI yX7_undo cX7_undo 1 (some .int) 0 := ⟨tbm3 103 (by decide +kernel) rfl, tbm1 1 (by decide +kernel) rfl, by decide +kernel⟩
theorem mvX7_undo : MV yX7_undo 7 := ⟨tbm3 101 (by decide +kernel) rfl, tbm3 102 (by decide +kernel) rfl, _, rfl, rfl⟩
theorem miX7_seed : MI yX7_seed cX7_seed 3 (some .int) 1 := ⟨tbm3 111 (by decide +kernel) rfl, tbm1 1 (by decide +kernel) rfl, by decide +kernel⟩
theorem mvX7_seed : MV yX7_seed 7 := ⟨tbm3 109 (by decide +kernel) rfl, tbm3 110 (by decide +kernel) rfl, _, rfl, rfl⟩
theorem miX7_rock : MI yX7_rock cX7_rock 2 (some .int) 1 := ⟨tbm3 115 (by decide +kernel) rfl, tbm1 1 (by decide +kernel) rfl, by decide +kernel⟩
theorem mvX7_rock : MV yX7_rock 7 := ⟨tbm3 113 (by decide +kernel) rfl, tbm3 114 (by decide +kernel) rfl, _, rfl, rfl⟩
theorem miX7_next : MI yX7_next cX7_next 3 (some .int) 1 := ⟨tbm3 120 (by decide +kernel) rfl, tbm1 1 (by decide +kernel) rfl, by decide +kernel⟩
theorem mvX7_next : MV yX7_next 7 := ⟨tbm3 118 (by decide +kernel) rfl, tbm3 119 (by decide +kernel) rfl, _, rfl, rfl⟩
theorem miX7_greedy : MI yX7_greedy cX7_greedy 4 (some .int) 2 := ⟨tbm3 128 (by decide +kernel) rfl, tbm1 1 (by decide +kernel) rfl, by decide +kernel⟩
theorem mvX7_greedy : MV yX7_greedy 7 := ⟨tbm3 126 (by decide +kernel) rfl, tbm3 127 (by decide +kernel) rfl, _, rfl, rfl⟩
theorem miX7_through : MI yX7_through cX7_through 1 (some .int) 0 := ⟨tbm3 143 (by decide +kernel) rfl, tbm1 1 (by decide +kernel) rfl, by decide +kernel⟩
theorem mvX7_through : MV yX7_through 7 := ⟨tbm3 141 (by decide +kernel) rfl, tbm3 142 (by decide +kernel) rfl, _, rfl, rfl⟩
theorem miX7_plan : MI yX7_plan cX7_plan 3 (some .int) 2 := ⟨tbm3 152 (by decide +kernel) rfl, tbm1 1 (by decide +kernel) rfl, by decide +kernel⟩
theorem mvX7_plan : MV yX7_plan 7 := ⟨tbm3 150 (by decide +kernel) rfl, tbm3 151 (by decide +kernel) rfl, _, rfl, rfl⟩
theorem miX7_crew : MI yX7_crew cX7_crew 5 (some .int) 3 := ⟨tbm3 172 (by decide +kernel) rfl, tbm1 1 (by decide +kernel) rfl, by decide +kernel⟩
theorem mvX7_crew : MV yX7_crew 7 := ⟨tbm3 170 (by decide +kernel) rfl, tbm3 171 (by decide +kernel) rfl, _, rfl, rfl⟩
theorem miX7_minds : MI yX7_minds cX7_minds 4 (some .int) 2 := ⟨tbm3 187 (by decide +kernel) rfl, tbm1 1 (by decide +kernel) rfl, by decide +kernel⟩
theorem mvX7_minds : MV yX7_minds 7 := ⟨tbm3 185 (by decide +kernel) rfl, tbm3 186 (by decide +kernel) rfl, _, rfl, rfl⟩
theorem miX7_once : MI yX7_once cX7_once 2 (some .int) 1 := ⟨tbm3 201 (by decide +kernel) rfl, tbm1 1 (by decide +kernel) rfl, by decide +kernel⟩
theorem mvX7_once : MV yX7_once 7 := ⟨tbm3 199 (by decide +kernel) rfl, tbm3 200 (by decide +kernel) rfl, _, rfl, rfl⟩
theorem miX7_sway : MI yX7_sway cX7_sway 5 (some .int) 3 := ⟨tbm3 205 (by decide +kernel) rfl, tbm1 1 (by decide +kernel) rfl, by decide +kernel⟩
theorem mvX7_sway : MV yX7_sway 7 := ⟨tbm3 203 (by decide +kernel) rfl, tbm3 204 (by decide +kernel) rfl, _, rfl, rfl⟩
theorem miX7_boats : MI yX7_boats cX7_boats 3 (some .int) 1 := ⟨tbm3 214 (by decide +kernel) rfl, tbm1 1 (by decide +kernel) rfl, by decide +kernel⟩
theorem mvX7_boats : MV yX7_boats 7 := ⟨tbm3 212 (by decide +kernel) rfl, tbm3 213 (by decide +kernel) rfl, _, rfl, rfl⟩
theorem miX7_ring : MI yX7_ring cX7_ring 3 (some .int) 1 := ⟨tbm3 228 (by decide +kernel) rfl, tbm1 1 (by decide +kernel) rfl, by decide +kernel⟩
theorem mvX7_ring : MV yX7_ring 7 := ⟨tbm3 226 (by decide +kernel) rfl, tbm3 227 (by decide +kernel) rfl, _, rfl, rfl⟩
theorem miX7_enough : MI yX7_enough cX7_enough 2 (some .int) 1 := ⟨tbm4 10 (by decide +kernel) rfl, tbm1 1 (by decide +kernel) rfl, by decide +kernel⟩
theorem mvX7_enough : MV yX7_enough 7 := ⟨tbm4 8 (by decide +kernel) rfl, tbm4 9 (by decide +kernel) rfl, _, rfl, rfl⟩
theorem miX7_sick : MI yX7_sick cX7_sick 4 (some .int) 3 := ⟨tbm4 19 (by decide +kernel) rfl, tbm1 1 (by decide +kernel) rfl, by decide +kernel⟩
theorem mvX7_sick : MV yX7_sick 7 := ⟨tbm4 17 (by decide +kernel) rfl, tbm4 18 (by decide +kernel) rfl, _, rfl, rfl⟩
theorem miX7_image : MI yX7_image cX7_image 1 (some .int) 0 := ⟨tbm4 33 (by decide +kernel) rfl, tbm1 1 (by decide +kernel) rfl, by decide +kernel⟩
theorem mvX7_image : MV yX7_image 7 := ⟨tbm4 31 (by decide +kernel) rfl, tbm4 32 (by decide +kernel) rfl, _, rfl, rfl⟩
theorem miX7_restore : MI yX7_restore cX7_restore 1 (some .int) 0 := ⟨tbm4 42 (by decide +kernel) rfl, tbm1 1 (by decide +kernel) rfl, by decide +kernel⟩
theorem mvX7_restore : MV yX7_restore 7 := ⟨tbm4 40 (by decide +kernel) rfl, tbm4 41 (by decide +kernel) rfl, _, rfl, rfl⟩
theorem miX7_isSheet : MI yX7_isSheet cX7_isSheet 1 (some .boolean) 1 := ⟨tbm4 49 (by decide +kernel) rfl, tbm1 1 (by decide +kernel) rfl, by decide +kernel⟩
theorem msX7_isSheet : Cond.static yX7_isSheet ∈ tb := tbm4 48 (by decide +kernel) rfl
theorem miX7_isLane : MI yX7_isLane cX7_isLane 1 (some .boolean) 1 := ⟨tbm4 52 (by decide +kernel) rfl, tbm1 1 (by decide +kernel) rfl, by decide +kernel⟩
theorem msX7_isLane : Cond.static yX7_isLane ∈ tb := tbm4 51 (by decide +kernel) rfl
theorem miX7_isSaying : MI yX7_isSaying cX7_isSaying 3 (some .boolean) 1 := ⟨tbm4 68 (by decide +kernel) rfl, tbm1 1 (by decide +kernel) rfl, by decide +kernel⟩
theorem mvX7_isSaying : MV yX7_isSaying 7 := ⟨tbm4 67 (by decide +kernel) rfl, tbm0 13 (by decide +kernel) rfl, _, rfl, rfl⟩
theorem miX7_isFeltBy : MI yX7_isFeltBy cX7_isFeltBy 9 (some .boolean) 4 := ⟨tbm4 76 (by decide +kernel) rfl, tbm1 1 (by decide +kernel) rfl, by decide +kernel⟩
theorem mvX7_isFeltBy : MV yX7_isFeltBy 7 := ⟨tbm4 75 (by decide +kernel) rfl, tbm0 15 (by decide +kernel) rfl, _, rfl, rfl⟩
theorem miX7_countFelt : MI yX7_countFelt cX7_countFelt 6 (some .int) 3 := ⟨tbm4 72 (by decide +kernel) rfl, tbm1 1 (by decide +kernel) rfl, by decide +kernel⟩
theorem mvX7_countFelt : MV yX7_countFelt 7 := ⟨tbm4 71 (by decide +kernel) rfl, tbm0 14 (by decide +kernel) rfl, _, rfl, rfl⟩
theorem miX7_leastFelt : MI yX7_leastFelt cX7_leastFelt 5 (some .int) 3 := ⟨tbm4 81 (by decide +kernel) rfl, tbm1 1 (by decide +kernel) rfl, by decide +kernel⟩
theorem mvX7_leastFelt : MV yX7_leastFelt 7 := ⟨tbm4 80 (by decide +kernel) rfl, tbm0 16 (by decide +kernel) rfl, _, rfl, rfl⟩
theorem miX7_felt : MI yX7_felt cX7_felt 9 (some .int) 5 := ⟨tbm4 46 (by decide +kernel) rfl, tbm1 1 (by decide +kernel) rfl, by decide +kernel⟩
theorem mvX7_felt : MV yX7_felt 7 := ⟨tbm4 44 (by decide +kernel) rfl, tbm4 45 (by decide +kernel) rfl, _, rfl, rfl⟩
theorem miX7_film : MI yX7_film cX7_film 9 (some .int) 5 := ⟨tbm4 85 (by decide +kernel) rfl, tbm1 1 (by decide +kernel) rfl, by decide +kernel⟩
theorem mvX7_film : MV yX7_film 7 := ⟨tbm4 83 (by decide +kernel) rfl, tbm4 84 (by decide +kernel) rfl, _, rfl, rfl⟩
theorem miX7_sheet : MI yX7_sheet cX7_sheet 4 (some .int) 3 := ⟨tbm4 93 (by decide +kernel) rfl, tbm1 1 (by decide +kernel) rfl, by decide +kernel⟩
theorem mvX7_sheet : MV yX7_sheet 7 := ⟨tbm4 91 (by decide +kernel) rfl, tbm4 92 (by decide +kernel) rfl, _, rfl, rfl⟩
theorem miX7_drop : MI yX7_drop cX7_drop 4 (some .int) 1 := ⟨tbm4 101 (by decide +kernel) rfl, tbm1 1 (by decide +kernel) rfl, by decide +kernel⟩
theorem mvX7_drop : MV yX7_drop 7 := ⟨tbm4 99 (by decide +kernel) rfl, tbm4 100 (by decide +kernel) rfl, _, rfl, rfl⟩
theorem miX7_item : MI yX7_item cX7_item 8 (some .int) 4 := ⟨tbm4 110 (by decide +kernel) rfl, tbm1 1 (by decide +kernel) rfl, by decide +kernel⟩
theorem mvX7_item : MV yX7_item 7 := ⟨tbm4 108 (by decide +kernel) rfl, tbm4 109 (by decide +kernel) rfl, _, rfl, rfl⟩
theorem miX7_copy : MI yX7_copy cX7_copy 8 (some .int) 5 := ⟨tbm4 114 (by decide +kernel) rfl, tbm1 1 (by decide +kernel) rfl, by decide +kernel⟩
theorem mvX7_copy : MV yX7_copy 7 := ⟨tbm4 112 (by decide +kernel) rfl, tbm4 113 (by decide +kernel) rfl, _, rfl, rfl⟩
theorem miX8_in : MI yX8_in cX8_in 6 (some .boolean) 3 := ⟨tbm4 194 (by decide +kernel) rfl, tbm1 9 (by decide +kernel) rfl, by decide +kernel⟩
theorem msX8_in : Cond.static yX8_in ∈ tb := tbm4 193 (by decide +kernel) rfl
theorem miX8_has : MI yX8_has cX8_has 2 (some .boolean) 2 := ⟨tbm5 16 (by decide +kernel) rfl, tbm1 9 (by decide +kernel) rfl, by decide +kernel⟩
theorem msX8_has : Cond.static yX8_has ∈ tb := tbm5 15 (by decide +kernel) rfl
theorem miX8_bits : MI yX8_bits cX8_bits 3 (some .int) 1 := ⟨tbm5 23 (by decide +kernel) rfl, tbm1 9 (by decide +kernel) rfl, by decide +kernel⟩
theorem msX8_bits : Cond.static yX8_bits ∈ tb := tbm5 22 (by decide +kernel) rfl
theorem miX8_most : MI yX8_most cX8_most 2 (some .int) 2 := ⟨tbm5 120 (by decide +kernel) rfl, tbm1 9 (by decide +kernel) rfl, by decide +kernel⟩
theorem msX8_most : Cond.static yX8_most ∈ tb := tbm5 119 (by decide +kernel) rfl
theorem miX8_least : MI yX8_least cX8_least 1 (some .int) 1 := ⟨tbm5 117 (by decide +kernel) rfl, tbm1 9 (by decide +kernel) rfl, by decide +kernel⟩
theorem msX8_least : Cond.static yX8_least ∈ tb := tbm5 116 (by decide +kernel) rfl
theorem miX8_isCell : MI yX8_isCell cX8_isCell 2 (some .boolean) 1 := ⟨tbm4 229 (by decide +kernel) rfl, tbm1 9 (by decide +kernel) rfl, by decide +kernel⟩
theorem mvX8_isCell : MV yX8_isCell 8 := ⟨tbm4 228 (by decide +kernel) rfl, tbm0 21 (by decide +kernel) rfl, _, rfl, rfl⟩
theorem miX8_isPerson : MI yX8_isPerson cX8_isPerson 2 (some .boolean) 1 := ⟨tbm4 237 (by decide +kernel) rfl, tbm1 9 (by decide +kernel) rfl, by decide +kernel⟩
theorem mvX8_isPerson : MV yX8_isPerson 8 := ⟨tbm4 236 (by decide +kernel) rfl, tbm0 22 (by decide +kernel) rfl, _, rfl, rfl⟩
theorem miX8_isSaying : MI yX8_isSaying cX8_isSaying 2 (some .boolean) 1 := ⟨tbm5 5 (by decide +kernel) rfl, tbm1 9 (by decide +kernel) rfl, by decide +kernel⟩
theorem mvX8_isSaying : MV yX8_isSaying 8 := ⟨tbm5 4 (by decide +kernel) rfl, tbm0 23 (by decide +kernel) rfl, _, rfl, rfl⟩
theorem miX8_everybody : MI yX8_everybody cX8_everybody 1 (some .int) 0 := ⟨tbm4 217 (by decide +kernel) rfl, tbm1 9 (by decide +kernel) rfl, by decide +kernel⟩
theorem mvX8_everybody : MV yX8_everybody 8 := ⟨tbm4 216 (by decide +kernel) rfl, tbm0 19 (by decide +kernel) rfl, _, rfl, rfl⟩
theorem miX8_addCell : MI yX8_addCell cX8_addCell 2 none 1 := ⟨tbm4 198 (by decide +kernel) rfl, tbm1 9 (by decide +kernel) rfl, by decide +kernel⟩
theorem mvX8_addCell : MV yX8_addCell 8 := ⟨tbm4 197 (by decide +kernel) rfl, tbm0 17 (by decide +kernel) rfl, _, rfl, rfl⟩
theorem miX8_cell : MI yX8_cell cX8_cell 2 (some .int) 1 := ⟨tbm4 190 (by decide +kernel) rfl, tbm1 9 (by decide +kernel) rfl, by decide +kernel⟩
theorem mvX8_cell : MV yX8_cell 8 := ⟨tbm4 188 (by decide +kernel) rfl, tbm4 189 (by decide +kernel) rfl, _, rfl, rfl⟩
theorem miX8_addPerson : MI yX8_addPerson cX8_addPerson 3 none 2 := ⟨tbm4 208 (by decide +kernel) rfl, tbm1 9 (by decide +kernel) rfl, by decide +kernel⟩
theorem mvX8_addPerson : MV yX8_addPerson 8 := ⟨tbm4 207 (by decide +kernel) rfl, tbm0 18 (by decide +kernel) rfl, _, rfl, rfl⟩
theorem miX8_person : MI yX8_person cX8_person 3 (some .int) 2 := ⟨tbm4 202 (by decide +kernel) rfl, tbm1 9 (by decide +kernel) rfl, by decide +kernel⟩
theorem mvX8_person : MV yX8_person 8 := ⟨tbm4 200 (by decide +kernel) rfl, tbm4 201 (by decide +kernel) rfl, _, rfl, rfl⟩
theorem miX8_addSaying : MI yX8_addSaying cX8_addSaying 3 none 2 := ⟨tbm4 221 (by decide +kernel) rfl, tbm1 9 (by decide +kernel) rfl, by decide +kernel⟩
theorem mvX8_addSaying : MV yX8_addSaying 8 := ⟨tbm4 220 (by decide +kernel) rfl, tbm0 20 (by decide +kernel) rfl, _, rfl, rfl⟩
theorem miX8_saying : MI yX8_saying cX8_saying 3 (some .int) 2 := ⟨tbm4 212 (by decide +kernel) rfl, tbm1 9 (by decide +kernel) rfl, by decide +kernel⟩
theorem mvX8_saying : MV yX8_saying 8 := ⟨tbm4 210 (by decide +kernel) rfl, tbm4 211 (by decide +kernel) rfl, _, rfl, rfl⟩
theorem miX8_ice : MI yX8_ice cX8_ice 2 (some .int) 1 := ⟨tbm4 225 (by decide +kernel) rfl, tbm1 9 (by decide +kernel) rfl, by decide +kernel⟩
theorem mvX8_ice : MV yX8_ice 8 := ⟨tbm4 223 (by decide +kernel) rfl, tbm4 224 (by decide +kernel) rfl, _, rfl, rfl⟩
theorem miX8_rocksBy : MI yX8_rocksBy cX8_rocksBy 8 (some .int) 4 := ⟨tbm5 20 (by decide +kernel) rfl, tbm1 9 (by decide +kernel) rfl, by decide +kernel⟩
theorem mvX8_rocksBy : MV yX8_rocksBy 8 := ⟨tbm5 19 (by decide +kernel) rfl, tbm0 26 (by decide +kernel) rfl, _, rfl, rfl⟩
theorem miX8_sideBy : MI yX8_sideBy cX8_sideBy 6 (some .int) 3 := ⟨tbm5 13 (by decide +kernel) rfl, tbm1 9 (by decide +kernel) rfl, by decide +kernel⟩
theorem mvX8_sideBy : MV yX8_sideBy 8 := ⟨tbm5 12 (by decide +kernel) rfl, tbm0 25 (by decide +kernel) rfl, _, rfl, rfl⟩
theorem miX8_rockBy : MI yX8_rockBy cX8_rockBy 7 (some .int) 4 := ⟨tbm5 110 (by decide +kernel) rfl, tbm1 9 (by decide +kernel) rfl, by decide +kernel⟩
theorem mvX8_rockBy : MV yX8_rockBy 8 := ⟨tbm5 109 (by decide +kernel) rfl, tbm0 41 (by decide +kernel) rfl, _, rfl, rfl⟩
theorem miX8_rockOf : MI yX8_rockOf cX8_rockOf 3 (some .int) 2 := ⟨tbm5 106 (by decide +kernel) rfl, tbm1 9 (by decide +kernel) rfl, by decide +kernel⟩
theorem mvX8_rockOf : MV yX8_rockOf 8 := ⟨tbm5 105 (by decide +kernel) rfl, tbm0 40 (by decide +kernel) rfl, _, rfl, rfl⟩
theorem miX8_of : MI yX8_of cX8_of 5 (some .int) 2 := ⟨tbm4 233 (by decide +kernel) rfl, tbm1 9 (by decide +kernel) rfl, by decide +kernel⟩
theorem mvX8_of : MV yX8_of 8 := ⟨tbm4 231 (by decide +kernel) rfl, tbm4 232 (by decide +kernel) rfl, _, rfl, rfl⟩
theorem miX8_sideOf : MI yX8_sideOf cX8_sideOf 3 (some .int) 2 := ⟨tbm5 9 (by decide +kernel) rfl, tbm1 9 (by decide +kernel) rfl, by decide +kernel⟩
theorem mvX8_sideOf : MV yX8_sideOf 8 := ⟨tbm5 8 (by decide +kernel) rfl, tbm0 24 (by decide +kernel) rfl, _, rfl, rfl⟩
theorem miX8_at : MI yX8_at cX8_at 3 (some .int) 2 := ⟨tbm5 1 (by decide +kernel) rfl, tbm1 9 (by decide +kernel) rfl, by decide +kernel⟩
theorem mvX8_at : MV yX8_at 8 := ⟨tbm4 239 (by decide +kernel) rfl, tbm5 0 (by decide +kernel) rfl, _, rfl, rfl⟩
theorem miX8_rocks : MI yX8_rocks cX8_rocks 3 (some .int) 2 := ⟨tbm5 27 (by decide +kernel) rfl, tbm1 9 (by decide +kernel) rfl, by decide +kernel⟩
theorem mvX8_rocks : MV yX8_rocks 8 := ⟨tbm5 25 (by decide +kernel) rfl, tbm5 26 (by decide +kernel) rfl, _, rfl, rfl⟩
theorem miX8_frost : MI yX8_frost cX8_frost 3 (some .int) 1 := ⟨tbm5 31 (by decide +kernel) rfl, tbm1 9 (by decide +kernel) rfl, by decide +kernel⟩
theorem mvX8_frost : MV yX8_frost 8 := ⟨tbm5 29 (by decide +kernel) rfl, tbm5 30 (by decide +kernel) rfl, _, rfl, rfl⟩
theorem miX8_type : MI yX8_type cX8_type 2 (some .int) 1 := ⟨tbm5 35 (by decide +kernel) rfl, tbm1 9 (by decide +kernel) rfl, by decide +kernel⟩
theorem mvX8_type : MV yX8_type 8 := ⟨tbm5 33 (by decide +kernel) rfl, tbm5 34 (by decide +kernel) rfl, _, rfl, rfl⟩
theorem miX8_skip : MI yX8_skip cX8_skip 1 none 0 := ⟨tbm5 49 (by decide +kernel) rfl, tbm1 9 (by decide +kernel) rfl, by decide +kernel⟩
theorem mvX8_skip : MV yX8_skip 8 := ⟨tbm5 48 (by decide +kernel) rfl, tbm0 28 (by decide +kernel) rfl, _, rfl, rfl⟩
theorem miX8_isHere : MI yX8_isHere cX8_isHere 2 (some .boolean) 1 := ⟨tbm5 70 (by decide +kernel) rfl, tbm1 9 (by decide +kernel) rfl, by decide +kernel⟩
theorem mvX8_isHere : MV yX8_isHere 8 := ⟨tbm5 69 (by decide +kernel) rfl, tbm0 33 (by decide +kernel) rfl, _, rfl, rfl⟩
theorem miX8_isDigit : MI yX8_isDigit cX8_isDigit 2 (some .boolean) 1 := ⟨tbm5 61 (by decide +kernel) rfl, tbm1 9 (by decide +kernel) rfl, by decide +kernel⟩
theorem mvX8_isDigit : MV yX8_isDigit 8 := ⟨tbm5 60 (by decide +kernel) rfl, tbm0 31 (by decide +kernel) rfl, _, rfl, rfl⟩
theorem miX8_sign : MI yX8_sign cX8_sign 3 (some .boolean) 1 := ⟨tbm5 66 (by decide +kernel) rfl, tbm1 9 (by decide +kernel) rfl, by decide +kernel⟩
theorem mvX8_sign : MV yX8_sign 8 := ⟨tbm5 65 (by decide +kernel) rfl, tbm0 32 (by decide +kernel) rfl, _, rfl, rfl⟩
theorem miX8_readsNumber : MI yX8_readsNumber cX8_readsNumber 3 (some .boolean) 1 := ⟨tbm5 57 (by decide +kernel) rfl, tbm1 9 (by decide +kernel) rfl, by decide +kernel⟩
theorem mvX8_readsNumber : MV yX8_readsNumber 8 := ⟨tbm5 56 (by decide +kernel) rfl, tbm0 30 (by decide +kernel) rfl, _, rfl, rfl⟩
theorem miX8_readsCell : MI yX8_readsCell cX8_readsCell 1 (some .boolean) 0 := ⟨tbm5 53 (by decide +kernel) rfl, tbm1 9 (by decide +kernel) rfl, by decide +kernel⟩
theorem mvX8_readsCell : MV yX8_readsCell 8 := ⟨tbm5 52 (by decide +kernel) rfl, tbm0 29 (by decide +kernel) rfl, _, rfl, rfl⟩
theorem miX8_readsPerson : MI yX8_readsPerson cX8_readsPerson 2 (some .boolean) 0 := ⟨tbm5 74 (by decide +kernel) rfl, tbm1 9 (by decide +kernel) rfl, by decide +kernel⟩
theorem mvX8_readsPerson : MV yX8_readsPerson 8 := ⟨tbm5 73 (by decide +kernel) rfl, tbm0 34 (by decide +kernel) rfl, _, rfl, rfl⟩
theorem miX8_isFor : MI yX8_isFor cX8_isFor 2 (some .boolean) 1 := ⟨tbm5 82 (by decide +kernel) rfl, tbm1 9 (by decide +kernel) rfl, by decide +kernel⟩
theorem mvX8_isFor : MV yX8_isFor 8 := ⟨tbm5 81 (by decide +kernel) rfl, tbm0 36 (by decide +kernel) rfl, _, rfl, rfl⟩
theorem miX8_readsSaying : MI yX8_readsSaying cX8_readsSaying 2 (some .boolean) 0 := ⟨tbm5 78 (by decide +kernel) rfl, tbm1 9 (by decide +kernel) rfl, by decide +kernel⟩
theorem mvX8_readsSaying : MV yX8_readsSaying 8 := ⟨tbm5 77 (by decide +kernel) rfl, tbm0 35 (by decide +kernel) rfl, _, rfl, rfl⟩
theorem miX8_reads : MI yX8_reads cX8_reads 2 (some .boolean) 0 := ⟨tbm5 45 (by decide +kernel) rfl, tbm1 9 (by decide +kernel) rfl, by decide +kernel⟩
theorem mvX8_reads : MV yX8_reads 8 := ⟨tbm5 44 (by decide +kernel) rfl, tbm0 27 (by decide +kernel) rfl, _, rfl, rfl⟩
theorem miX8_canal : MI yX8_canal cX8_canal 5 (some .int) 0 := ⟨tbm5 41 (by decide +kernel) rfl, tbm1 9 (by decide +kernel) rfl, by decide +kernel⟩
theorem mvX8_canal : MV yX8_canal 8 := ⟨tbm5 39 (by decide +kernel) rfl, tbm5 40 (by decide +kernel) rfl, _, rfl, rfl⟩
theorem miX8_sumFrom : MI yX8_sumFrom cX8_sumFrom 6 (some .int) 3 := ⟨tbm5 90 (by decide +kernel) rfl, tbm1 9 (by decide +kernel) rfl, by decide +kernel⟩
theorem mvX8_sumFrom : MV yX8_sumFrom 8 := ⟨tbm5 89 (by decide +kernel) rfl, tbm0 37 (by decide +kernel) rfl, _, rfl, rfl⟩
theorem miX8_count : MI yX8_count cX8_count 2 (some .int) 1 := ⟨tbm5 86 (by decide +kernel) rfl, tbm1 9 (by decide +kernel) rfl, by decide +kernel⟩
theorem mvX8_count : MV yX8_count 8 := ⟨tbm5 84 (by decide +kernel) rfl, tbm5 85 (by decide +kernel) rfl, _, rfl, rfl⟩
theorem miX8_keepPast : MI yX8_keepPast cX8_keepPast 2 none 0 := ⟨tbm5 98 (by decide +kernel) rfl, tbm1 9 (by decide +kernel) rfl, by decide +kernel⟩
theorem mvX8_keepPast : MV yX8_keepPast 8 := ⟨tbm5 97 (by decide +kernel) rfl, tbm0 38 (by decide +kernel) rfl, _, rfl, rfl⟩
theorem miX8_isThrough : MI yX8_isThrough cX8_isThrough 2 (some .boolean) 1 := ⟨tbm5 114 (by decide +kernel) rfl, tbm1 9 (by decide +kernel) rfl, by decide +kernel⟩
theorem mvX8_isThrough : MV yX8_isThrough 8 := ⟨tbm5 113 (by decide +kernel) rfl, tbm0 42 (by decide +kernel) rfl, _, rfl, rfl⟩
theorem miX8_iceAhead : MI yX8_iceAhead cX8_iceAhead 2 (some .int) 1 := ⟨tbm5 170 (by decide +kernel) rfl, tbm1 9 (by decide +kernel) rfl, by decide +kernel⟩
theorem mvX8_iceAhead : MV yX8_iceAhead 8 := ⟨tbm5 169 (by decide +kernel) rfl, tbm0 45 (by decide +kernel) rfl, _, rfl, rfl⟩
theorem miX8_pass : MI yX8_pass cX8_pass 6 none 2 := ⟨tbm5 102 (by decide +kernel) rfl, tbm1 9 (by decide +kernel) rfl, by decide +kernel⟩
theorem mvX8_pass : MV yX8_pass 8 := ⟨tbm5 101 (by decide +kernel) rfl, tbm0 39 (by decide +kernel) rfl, _, rfl, rfl⟩
theorem miX8_say : MI yX8_say cX8_say 2 (some .int) 1 := ⟨tbm5 94 (by decide +kernel) rfl, tbm1 9 (by decide +kernel) rfl, by decide +kernel⟩
theorem mvX8_say : MV yX8_say 8 := ⟨tbm5 92 (by decide +kernel) rfl, tbm5 93 (by decide +kernel) rfl, _, rfl, rfl⟩
theorem miX8_thaw : MI yX8_thaw cX8_thaw 3 (some .int) 2 := ⟨tbm5 124 (by decide +kernel) rfl, tbm1 9 (by decide +kernel) rfl, by decide +kernel⟩
theorem mvX8_thaw : MV yX8_thaw 8 := ⟨tbm5 122 (by decide +kernel) rfl, tbm5 123 (by decide +kernel) rfl, _, rfl, rfl⟩
theorem miX8_mind : MI yX8_mind cX8_mind 3 (some .int) 2 := ⟨tbm5 128 (by decide +kernel) rfl, tbm1 9 (by decide +kernel) rfl, by decide +kernel⟩
theorem mvX8_mind : MV yX8_mind 8 := ⟨tbm5 126 (by decide +kernel) rfl, tbm5 127 (by decide +kernel) rfl, _, rfl, rfl⟩
theorem miX8_drift : MI yX8_drift cX8_drift 6 (some .int) 1 := ⟨tbm5 132 (by decide +kernel) rfl, tbm1 9 (by decide +kernel) rfl, by decide +kernel⟩
theorem mvX8_drift : MV yX8_drift 8 := ⟨tbm5 130 (by decide +kernel) rfl, tbm5 131 (by decide +kernel) rfl, _, rfl, rfl⟩
theorem miX8_undo : MI yX8_undo cX8_undo 2 (some .int) 0 := ⟨tbm5 141 (by decide +kernel) rfl, tbm1 9 (by decide +kernel) rfl, by decide +kernel⟩
theorem mvX8_undo : MV yX8_undo 8 := ⟨tbm5 139 (by decide +kernel) rfl, tbm5 140 (by decide +kernel) rfl, _, rfl, rfl⟩
theorem miX8_seed : MI yX8_seed cX8_seed 3 (some .int) 1 := ⟨tbm5 145 (by decide +kernel) rfl, tbm1 9 (by decide +kernel) rfl, by decide +kernel⟩
theorem mvX8_seed : MV yX8_seed 8 := ⟨tbm5 143 (by decide +kernel) rfl, tbm5 144 (by decide +kernel) rfl, _, rfl, rfl⟩
theorem miX8_layTried : MI yX8_layTried cX8_layTried 2 none 0 := ⟨tbm5 166 (by decide +kernel) rfl, tbm1 9 (by decide +kernel) rfl, by decide +kernel⟩
theorem mvX8_layTried : MV yX8_layTried 8 := ⟨tbm5 165 (by decide +kernel) rfl, tbm0 44 (by decide +kernel) rfl, _, rfl, rfl⟩
theorem miX8_rock : MI yX8_rock cX8_rock 2 (some .int) 1 := ⟨tbm5 149 (by decide +kernel) rfl, tbm1 9 (by decide +kernel) rfl, by decide +kernel⟩
theorem mvX8_rock : MV yX8_rock 8 := ⟨tbm5 147 (by decide +kernel) rfl, tbm5 148 (by decide +kernel) rfl, _, rfl, rfl⟩
theorem miX8_nextAt : MI yX8_nextAt cX8_nextAt 4 (some .int) 1 := ⟨tbm5 157 (by decide +kernel) rfl, tbm1 9 (by decide +kernel) rfl, by decide +kernel⟩
theorem mvX8_nextAt : MV yX8_nextAt 8 := ⟨tbm5 156 (by decide +kernel) rfl, tbm0 43 (by decide +kernel) rfl, _, rfl, rfl⟩
theorem miX8_next : MI yX8_next cX8_next 3 (some .int) 1 := ⟨tbm5 153 (by decide +kernel) rfl, tbm1 9 (by decide +kernel) rfl, by decide +kernel⟩
theorem mvX8_next : MV yX8_next 8 := ⟨tbm5 151 (by decide +kernel) rfl, tbm5 152 (by decide +kernel) rfl, _, rfl, rfl⟩
theorem miX8_greedy : MI yX8_greedy cX8_greedy 4 (some .int) 2 := ⟨tbm5 161 (by decide +kernel) rfl, tbm1 9 (by decide +kernel) rfl, by decide +kernel⟩
theorem mvX8_greedy : MV yX8_greedy 8 := ⟨tbm5 159 (by decide +kernel) rfl, tbm5 160 (by decide +kernel) rfl, _, rfl, rfl⟩
theorem miX8_through : MI yX8_through cX8_through 2 (some .int) 0 := ⟨tbm5 174 (by decide +kernel) rfl, tbm1 9 (by decide +kernel) rfl, by decide +kernel⟩
theorem mvX8_through : MV yX8_through 8 := ⟨tbm5 172 (by decide +kernel) rfl, tbm5 173 (by decide +kernel) rfl, _, rfl, rfl⟩
theorem miX8_tryLine : MI yX8_tryLine cX8_tryLine 4 none 1 := ⟨tbm5 182 (by decide +kernel) rfl, tbm1 9 (by decide +kernel) rfl, by decide +kernel⟩
theorem mvX8_tryLine : MV yX8_tryLine 8 := ⟨tbm5 181 (by decide +kernel) rfl, tbm0 46 (by decide +kernel) rfl, _, rfl, rfl⟩
theorem miX8_tellLine : MI yX8_tellLine cX8_tellLine 3 (some .int) 2 := ⟨tbm5 190 (by decide +kernel) rfl, tbm1 9 (by decide +kernel) rfl, by decide +kernel⟩
theorem mvX8_tellLine : MV yX8_tellLine 8 := ⟨tbm5 189 (by decide +kernel) rfl, tbm0 48 (by decide +kernel) rfl, _, rfl, rfl⟩
theorem miX8_nextRow : MI yX8_nextRow cX8_nextRow 3 (some .boolean) 1 := ⟨tbm5 186 (by decide +kernel) rfl, tbm1 9 (by decide +kernel) rfl, by decide +kernel⟩
theorem mvX8_nextRow : MV yX8_nextRow 8 := ⟨tbm5 185 (by decide +kernel) rfl, tbm0 47 (by decide +kernel) rfl, _, rfl, rfl⟩
theorem miX8_plan : MI yX8_plan cX8_plan 4 (some .int) 2 := ⟨tbm5 178 (by decide +kernel) rfl, tbm1 9 (by decide +kernel) rfl, by decide +kernel⟩
theorem mvX8_plan : MV yX8_plan 8 := ⟨tbm5 176 (by decide +kernel) rfl, tbm5 177 (by decide +kernel) rfl, _, rfl, rfl⟩
theorem miX8_swapLine : MI yX8_swapLine cX8_swapLine 4 none 2 := ⟨tbm5 202 (by decide +kernel) rfl, tbm1 9 (by decide +kernel) rfl, by decide +kernel⟩
theorem mvX8_swapLine : MV yX8_swapLine 8 := ⟨tbm5 201 (by decide +kernel) rfl, tbm0 50 (by decide +kernel) rfl, _, rfl, rfl⟩
theorem miX8_nextOrder : MI yX8_nextOrder cX8_nextOrder 6 (some .boolean) 1 := ⟨tbm5 198 (by decide +kernel) rfl, tbm1 9 (by decide +kernel) rfl, by decide +kernel⟩
theorem mvX8_nextOrder : MV yX8_nextOrder 8 := ⟨tbm5 197 (by decide +kernel) rfl, tbm0 49 (by decide +kernel) rfl, _, rfl, rfl⟩
theorem miX8_once : MI yX8_once cX8_once 4 (some .int) 1 := ⟨tbm5 194 (by decide +kernel) rfl, tbm1 9 (by decide +kernel) rfl, by decide +kernel⟩
theorem mvX8_once : MV yX8_once 8 := ⟨tbm5 192 (by decide +kernel) rfl, tbm5 193 (by decide +kernel) rfl, _, rfl, rfl⟩
theorem miX8_rockWith : MI yX8_rockWith cX8_rockWith 4 (some .int) 3 := ⟨tbm5 211 (by decide +kernel) rfl, tbm1 9 (by decide +kernel) rfl, by decide +kernel⟩
theorem mvX8_rockWith : MV yX8_rockWith 8 := ⟨tbm5 210 (by decide +kernel) rfl, tbm0 51 (by decide +kernel) rfl, _, rfl, rfl⟩
theorem miX8_crew : MI yX8_crew cX8_crew 8 (some .int) 3 := ⟨tbm5 206 (by decide +kernel) rfl, tbm1 9 (by decide +kernel) rfl, by decide +kernel⟩
theorem mvX8_crew : MV yX8_crew 8 := ⟨tbm5 204 (by decide +kernel) rfl, tbm5 205 (by decide +kernel) rfl, _, rfl, rfl⟩
theorem miX8_minds : MI yX8_minds cX8_minds 7 (some .int) 2 := ⟨tbm5 215 (by decide +kernel) rfl, tbm1 9 (by decide +kernel) rfl, by decide +kernel⟩
theorem mvX8_minds : MV yX8_minds 8 := ⟨tbm5 213 (by decide +kernel) rfl, tbm5 214 (by decide +kernel) rfl, _, rfl, rfl⟩
theorem miX8_sway : MI yX8_sway cX8_sway 7 (some .int) 3 := ⟨tbm5 219 (by decide +kernel) rfl, tbm1 9 (by decide +kernel) rfl, by decide +kernel⟩
theorem mvX8_sway : MV yX8_sway 8 := ⟨tbm5 217 (by decide +kernel) rfl, tbm5 218 (by decide +kernel) rfl, _, rfl, rfl⟩
theorem miX8_mostIn : MI yX8_mostIn cX8_mostIn 5 (some .int) 1 := ⟨tbm5 228 (by decide +kernel) rfl, tbm1 9 (by decide +kernel) rfl, by decide +kernel⟩
theorem mvX8_mostIn : MV yX8_mostIn 8 := ⟨tbm5 227 (by decide +kernel) rfl, tbm0 52 (by decide +kernel) rfl, _, rfl, rfl⟩
theorem miX8_boats : MI yX8_boats cX8_boats 8 (some .int) 1 := ⟨tbm5 224 (by decide +kernel) rfl, tbm1 9 (by decide +kernel) rfl, by decide +kernel⟩
theorem mvX8_boats : MV yX8_boats 8 := ⟨tbm5 222 (by decide +kernel) rfl, tbm5 223 (by decide +kernel) rfl, _, rfl, rfl⟩
theorem miX8_see : MI yX8_see cX8_see 3 none 1 := ⟨tbm5 236 (by decide +kernel) rfl, tbm1 9 (by decide +kernel) rfl, by decide +kernel⟩
theorem mvX8_see : MV yX8_see 8 := ⟨tbm5 235 (by decide +kernel) rfl, tbm0 53 (by decide +kernel) rfl, _, rfl, rfl⟩
theorem miX8_areAlike : MI yX8_areAlike cX8_areAlike 5 (some .boolean) 2 := ⟨tbm6 0 (by decide +kernel) rfl, tbm1 9 (by decide +kernel) rfl, by decide +kernel⟩
theorem mvX8_areAlike : MV yX8_areAlike 8 := ⟨tbm5 239 (by decide +kernel) rfl, tbm0 54 (by decide +kernel) rfl, _, rfl, rfl⟩
theorem miX8_ring : MI yX8_ring cX8_ring 4 (some .int) 1 := ⟨tbm5 232 (by decide +kernel) rfl, tbm1 9 (by decide +kernel) rfl, by decide +kernel⟩
theorem mvX8_ring : MV yX8_ring 8 := ⟨tbm5 230 (by decide +kernel) rfl, tbm5 231 (by decide +kernel) rfl, _, rfl, rfl⟩
theorem miX8_enough : MI yX8_enough cX8_enough 3 (some .int) 1 := ⟨tbm6 4 (by decide +kernel) rfl, tbm1 9 (by decide +kernel) rfl, by decide +kernel⟩
theorem mvX8_enough : MV yX8_enough 8 := ⟨tbm6 2 (by decide +kernel) rfl, tbm6 3 (by decide +kernel) rfl, _, rfl, rfl⟩
theorem miX8_sick : MI yX8_sick cX8_sick 9 (some .int) 3 := ⟨tbm6 8 (by decide +kernel) rfl, tbm1 9 (by decide +kernel) rfl, by decide +kernel⟩
theorem mvX8_sick : MV yX8_sick 8 := ⟨tbm6 6 (by decide +kernel) rfl, tbm6 7 (by decide +kernel) rfl, _, rfl, rfl⟩
theorem miX8_image : MI yX8_image cX8_image 2 (some .int) 0 := ⟨tbm6 13 (by decide +kernel) rfl, tbm1 9 (by decide +kernel) rfl, by decide +kernel⟩
theorem mvX8_image : MV yX8_image 8 := ⟨tbm6 11 (by decide +kernel) rfl, tbm6 12 (by decide +kernel) rfl, _, rfl, rfl⟩
theorem miX8_restore : MI yX8_restore cX8_restore 2 (some .int) 0 := ⟨tbm6 17 (by decide +kernel) rfl, tbm1 9 (by decide +kernel) rfl, by decide +kernel⟩
theorem mvX8_restore : MV yX8_restore 8 := ⟨tbm6 15 (by decide +kernel) rfl, tbm6 16 (by decide +kernel) rfl, _, rfl, rfl⟩
theorem miX8_isSheet : MI yX8_isSheet cX8_isSheet 1 (some .boolean) 1 := ⟨tbm6 24 (by decide +kernel) rfl, tbm1 9 (by decide +kernel) rfl, by decide +kernel⟩
theorem msX8_isSheet : Cond.static yX8_isSheet ∈ tb := tbm6 23 (by decide +kernel) rfl
theorem miX8_isSpan : MI yX8_isSpan cX8_isSpan 4 (some .boolean) 3 := ⟨tbm6 34 (by decide +kernel) rfl, tbm1 9 (by decide +kernel) rfl, by decide +kernel⟩
theorem mvX8_isSpan : MV yX8_isSpan 8 := ⟨tbm6 33 (by decide +kernel) rfl, tbm0 56 (by decide +kernel) rfl, _, rfl, rfl⟩
theorem miX8_noSheet : MI yX8_noSheet cX8_noSheet 5 (some .int) 4 := ⟨tbm6 30 (by decide +kernel) rfl, tbm1 9 (by decide +kernel) rfl, by decide +kernel⟩
theorem mvX8_noSheet : MV yX8_noSheet 8 := ⟨tbm6 29 (by decide +kernel) rfl, tbm0 55 (by decide +kernel) rfl, _, rfl, rfl⟩
theorem miX8_cut : MI yX8_cut cX8_cut 3 (some .long) 2 := ⟨tbm6 58 (by decide +kernel) rfl, tbm1 9 (by decide +kernel) rfl, by decide +kernel⟩
theorem msX8_cut : Cond.static yX8_cut ∈ tb := tbm6 57 (by decide +kernel) rfl
theorem miX8_isFeltSo : MI yX8_isFeltSo cX8_isFeltSo 7 (some .boolean) 4 := ⟨tbm6 38 (by decide +kernel) rfl, tbm1 9 (by decide +kernel) rfl, by decide +kernel⟩
theorem mvX8_isFeltSo : MV yX8_isFeltSo 8 := ⟨tbm6 37 (by decide +kernel) rfl, tbm0 57 (by decide +kernel) rfl, _, rfl, rfl⟩
theorem miX8_felt : MI yX8_felt cX8_felt 11 (some .int) 5 := ⟨tbm6 21 (by decide +kernel) rfl, tbm1 9 (by decide +kernel) rfl, by decide +kernel⟩
theorem mvX8_felt : MV yX8_felt 8 := ⟨tbm6 19 (by decide +kernel) rfl, tbm6 20 (by decide +kernel) rfl, _, rfl, rfl⟩
theorem miX8_film : MI yX8_film cX8_film 8 (some .int) 5 := ⟨tbm6 42 (by decide +kernel) rfl, tbm1 9 (by decide +kernel) rfl, by decide +kernel⟩
theorem mvX8_film : MV yX8_film 8 := ⟨tbm6 40 (by decide +kernel) rfl, tbm6 41 (by decide +kernel) rfl, _, rfl, rfl⟩
theorem miX8_sheet : MI yX8_sheet cX8_sheet 5 (some .int) 3 := ⟨tbm6 47 (by decide +kernel) rfl, tbm1 9 (by decide +kernel) rfl, by decide +kernel⟩
theorem mvX8_sheet : MV yX8_sheet 8 := ⟨tbm6 45 (by decide +kernel) rfl, tbm6 46 (by decide +kernel) rfl, _, rfl, rfl⟩
theorem miX8_drop : MI yX8_drop cX8_drop 3 (some .int) 1 := ⟨tbm6 51 (by decide +kernel) rfl, tbm1 9 (by decide +kernel) rfl, by decide +kernel⟩
theorem mvX8_drop : MV yX8_drop 8 := ⟨tbm6 49 (by decide +kernel) rfl, tbm6 50 (by decide +kernel) rfl, _, rfl, rfl⟩
theorem miX8_item : MI yX8_item cX8_item 7 (some .int) 4 := ⟨tbm6 55 (by decide +kernel) rfl, tbm1 9 (by decide +kernel) rfl, by decide +kernel⟩
theorem mvX8_item : MV yX8_item 8 := ⟨tbm6 53 (by decide +kernel) rfl, tbm6 54 (by decide +kernel) rfl, _, rfl, rfl⟩
theorem miX8_copy : MI yX8_copy cX8_copy 7 (some .int) 5 := ⟨tbm6 62 (by decide +kernel) rfl, tbm1 9 (by decide +kernel) rfl, by decide +kernel⟩
theorem mvX8_copy : MV yX8_copy 8 := ⟨tbm6 60 (by decide +kernel) rfl, tbm6 61 (by decide +kernel) rfl, _, rfl, rfl⟩
/-! the String that the class holds -/
def sby (j : Nat) : Int32 := ([112, 108, 100, 115, 99] : List Int32).getD j 0
section GS
variable {E : Ev} {K : KX} {cc : ByteArray} {own : String} {nL ce sl pc : Nat} {lv : List (Nat × Value)} {st : List Value} {ws : va_W} {rm : Room}
theorem g_ldcS (k : OKX E K cc RX6 nL rm) (hd : decode cc pc = .ok (.ldc 85, 2)) (h : G E K nL ce sl lv (.ref E.2.2.1 :: st) ws (pc + 2)) : G E K nL ce sl lv st ws pc := by
  obtain ⟨p, l, e, R, s, m, args, below, meth, c, A, Q⟩ := K
  exact fun H locs ls hP hD hS hl => va_ldcS k.1 k.2.1 k.2.2.2.1 k.2.2.2.2.2.2.2.1.2.1 hd (h H locs ls hP hD hS hl)
theorem g_strV (k : OKX E K cc own nL rm) {index : Nat} (hd : decode cc pc = .ok (.getfield index, 3)) (hlink : Cond.fieldLink own index "java/lang/String" "value" "[B" ∈ tb) (h : G E K nL ce sl lv (.ref E.2.2.2 :: st) ws (pc + 3)) : G E K nL ce sl lv (.ref E.2.2.1 :: st) ws pc := by
  obtain ⟨p, l, e, R, s, m, args, below, meth, c, A, Q⟩ := K
  exact fun H locs ls hP hD hS hl => vk_getf k.1 k.2.1 (k.2.2.2.2.2.2.2.1.2.2.1.1 0 (by decide)).2.2.1 hS k.2.2.2.1 (k.2.2.2.2.1 _ hlink) (fun _ z => z) hd (h H locs ls hP hD hS hl)
theorem g_strC (k : OKX E K cc own nL rm) {index : Nat} (hd : decode cc pc = .ok (.getfield index, 3)) (hlink : Cond.fieldLink own index "java/lang/String" "coder" "B" ∈ tb) (h : G E K nL ce sl lv (.int 0 :: st) ws (pc + 3)) : G E K nL ce sl lv (.ref E.2.2.1 :: st) ws pc := by
  obtain ⟨p, l, e, R, s, m, args, below, meth, c, A, Q⟩ := K
  exact fun H locs ls hP hD hS hl => vk_getf k.1 k.2.1 (k.2.2.2.2.2.2.2.1.2.2.1.1 0 (by decide)).2.1 hS k.2.2.2.1 (k.2.2.2.2.1 _ hlink) (fun _ z => z) hd (h H locs ls hP hD hS hl)
theorem g_strZ (k : OKX E K cc own nL rm) {index : Nat} (hd : decode cc pc = .ok (.getstatic index, 3)) (hlink : Cond.fieldLink own index "java/lang/String" "COMPACT_STRINGS" "Z" ∈ tb) (h : G E K nL ce sl lv (.int 1 :: st) ws (pc + 3)) : G E K nL ce sl lv st ws pc := by
  obtain ⟨p, l, e, R, s, m, args, below, meth, c, A, Q⟩ := K
  exact fun H locs ls hP hD hS hl => va_gets k.1 k.2.1 k.2.2.2.2.2.2.2.1.2.2.2.1 hS k.2.2.2.1 (k.2.2.2.2.1 _ hlink) (fun _ z => z) hd (h H locs ls hP hD hS hl)
theorem g_strL (k : OKX E K cc own nL rm) (hd : decode cc pc = .ok (.arraylength, 1)) (h : G E K nL ce sl lv (.int 5 :: st) ws (pc + 1)) : G E K nL ce sl lv (.ref E.2.2.2 :: st) ws pc := by
  obtain ⟨p, l, e, R, s, m, args, below, meth, c, A, Q⟩ := K
  exact fun H locs ls hP hD hS hl => va_tlen k.1 k.2.1 (k.2.2.2.2.2.2.2.1.2.2.1.1 0 (by decide)).2.2.2 hS rfl hd (h H locs ls hP hD hS hl)
theorem g_strB (k : OKX E K cc own nL rm) {i : Int32} {κ : Nat} (hd : decode cc pc = .ok (.baload, 1)) (hin : vp_in i 5) (hk : i.toNatClampNeg = κ) (h : G E K nL ce sl lv (.int (sby κ) :: st) ws (pc + 1)) : G E K nL ce sl lv (.int i :: .ref E.2.2.2 :: st) ws pc := by
  obtain ⟨p, l, e, R, s, m, args, below, meth, c, A, Q⟩ := K
  subst hk
  exact fun H locs ls hP hD hS hl => va_tb k.1 k.2.1 (k.2.2.2.2.2.2.2.1.2.2.1.1 0 (by decide)).2.2.2 hS hin rfl hd (h H locs ls hP hD hS hl)
theorem g_zretB (k : OKX E K cc own nL rm) {post : Option Value → va_W → Prop} {v : Int32} (hv : narrow .byte (.int v) = .int v) (r : RTX E K ce sl (some .byte) post) (hd : decode cc pc = .ok (.ireturn, 1)) (hp : post (some (.int v)) ws) : G E K nL ce sl lv [.int v] ws pc := by
  obtain ⟨p, l, e, R, s, m, args, below, meth, c, A, Q⟩ := K
  obtain ⟨r1, r2⟩ := r
  subst r2
  exact fun H locs ls hP hD hS hl => W.zret k.1 k.2.1 r1 hv (fun t ht hW => ⟨⟨_, ws, rfl, hp, by rw [ht]; exact hP, hD⟩, hS.F ht⟩) hS.2.2 hd k.2.2.2.2.2.2.2.2.1
/-- a call upon the String -/
theorem g_cvs (k : OKX E K cc own nL rm) {y : MethodName} {bytes : ByteArray} {maxL index n : Nat} {ret : Option FieldType} {rmc : Room} {As rest : List Value} {rv : Option Value} (hi : MI y bytes maxL ret n) (hv : Cond.instanceMethod y ∈ tb ∧ Cond.selects "java/lang/String" y y ∈ tb) (hM : Ct (kL K) E y bytes maxL ret rmc (.ref E.2.2.1 :: As) [] (Pe rv []))
    (hd : decode cc pc = .ok (.invokevirtual index, 3)) (hlink : Cond.methodLink own index y ∈ tb) (hro : roomOK rm rmc maxL = true) (h0 : rmc.cells = 0 ∧ rmc.slots = 0) (hce : ce ≤ rm.cells ∧ sl ≤ rm.slots) (hn : As.length = n) (hst : st = As.reverse ++ .ref E.2.2.1 :: rest) (hW : (rest.map fun v => v.category).sum ≤ 8)
    (h : G E K nL ce sl lv (rv.toList ++ rest) ws (pc + 3)) : G E K nL ce sl lv st ws pc := by
  obtain ⟨p, l, e, R, s, m, args, below, meth, c, A, Q⟩ := K
  subst hst
  intro H locs ls hP hD hS hl
  have hRe : R = rm := k.2.2.2.2.2.2.2.2.2
  subst hRe
  have hFc : ∀ q, va_A [] H.size q → A q := va_free (wc := []) hD hS k.2.2.2.2.2.2.1 [] rfl
  have hts := k.2.2.2.2.1
  have hrecv := vk_recv k.2.2.2.2.2.2.2.1.2.2.1 (i := 0) (by decide) hS
  have hP0 : va_P E.1 vwCl [] H := fun k q h => by simp at h
  have hD0 : va_D (fun _ => True) ([] : va_W) := ⟨fun i j p q h => by simp at h, fun k q h => by simp at h⟩
  refine va_callp (va_runV (As := As) (rest := rest) (C := "java/lang/String") (n := n) (ws := Cond.code y bytes maxL ret :: tb) ⟨k.1, k.2.1, k.2.2.1, k.2.2.2.1, hts⟩ (hM H.size) ⟨callB_of (ws' := tb) n hts (good_tb hi.1) rfl rfl rfl (hts _ hi.2.1) (hts _ hlink) hi.2.2 (roomOK_spec hro), hts _ hv.1, hts _ hv.2⟩ ⟨Pp.blind, hrecv, fun U hU hW => ⟨rfl, by rw [hU], by rw [hU]; exact hP0, va_K.moved hW.alike k.2.2.2.2.2.1, hD0, k.2.2.2.2.2.2.2.1.warm hW hU hS hFc⟩⟩ rfl hn hl.1 rfl (lv_room hW) hd (by rw [h0.1, h0.2]; exact hce)) hS (fun q _ z => hFc q z) hFc (fun v w H1 locs1 hp hP1 hD1 hz hk hS1 => ?_)
  obtain ⟨rfl, rfl⟩ := hp
  rw [h0.1, h0.2]
  have hk2 : ∀ (i : Nat) (x : Nat × va_E), ws[i]? = some x → H1[x.1]? = H[x.1]? := fun i x hx => hk x.1 (hP i x hx).lt (fun z => by
    rcases z with ⟨j, e, z⟩ | z
    · simp at z
    · have := (hP i x hx).lt; omega)
  exact h H1 locs1 ls (hP.kept hk2) hD hS1 hl
end GS
