/-! PURE: numbers -/
theorem ixb_nI {β : Type} {k n : Nat} {f : Nat → Option β} (h : k < n) (hn : n < 2 ^ 31 := by decide) : ixb (nI k) n f = f k := by
  have hi : inb (nI k) n = true := by
    simp only [inb, Bool.and_eq_true, decide_eq_true_eq]
    rw [nI_toInt (by omega)]
    omega
  unfold ixb
  rw [if_pos hi, nI_clamp (by omega)]
theorem ixb_lit {β : Type} {i : Int32} {k n : Nat} {f : Nat → Option β} (e : i = nI k) (h : k < n) (hn : n < 2 ^ 31 := by decide) : ixb i n f = f k := by rw [e]; exact ixb_nI h hn
theorem bnd_s {α β : Type} {a : α} {f : α → Option β} : bnd (some a) f = f a := rfl
def b2i (b : Bool) : Int32 := if b = true then 1 else 0
theorem b2i_t : b2i true = 1 := rfl
theorem b2i_f : b2i false = 0 := rfl
theorem nle {a b : Nat} (ha : a < 2 ^ 31) (hb : b < 2 ^ 31) : nI a ≤ nI b ↔ a ≤ b := nI_leI ha hb
theorem nlt {a b : Nat} (ha : a < 2 ^ 31) (hb : b < 2 ^ 31) : nI a < nI b ↔ a < b := nI_ltI ha hb
theorem neq {a b : Nat} (ha : a < 2 ^ 31) (hb : b < 2 ^ 31) : nI a = nI b ↔ a = b := nI_eq ha hb
theorem ite_iff {α : Type} {c d : Prop} [Decidable c] [Decidable d] {x y : α} (h : c ↔ d) : (if c then x else y) = (if d then x else y) := by
  by_cases hc : c
  · rw [if_pos hc, if_pos (h.mp hc)]
  · rw [if_neg hc, if_neg (fun z => hc (h.mpr z))]
theorem n_sub {a b : Nat} (h : b ≤ a) : nI a - nI b = nI (a - b) := pk_sub h
theorem n_s1 (a : Nat) : nI a + 1 = nI (a + 1) := nI_1 a
theorem n_p1 (a : Nat) : nI (a + 1) - 1 = nI a := nI_pred a
theorem n_imin {a b : Nat} (ha : a < 2 ^ 31) (hb : b < 2 ^ 31) : imin (nI a) (nI b) = nI (min a b) := by
  unfold imin
  by_cases h : b < a
  · rw [if_pos ((nlt hb ha).mpr h), Nat.min_eq_right (by omega)]
  · rw [if_neg (fun z => h ((nlt hb ha).mp z)), Nat.min_eq_left (by omega)]
theorem n_imax {a b : Nat} (ha : a < 2 ^ 31) (hb : b < 2 ^ 31) : imax (nI a) (nI b) = nI (max a b) := by
  unfold imax
  by_cases h : a < b
  · rw [if_pos ((nlt ha hb).mpr h), Nat.max_eq_right (by omega)]
  · rw [if_neg (fun z => h ((nlt ha hb).mp z)), Nat.max_eq_left (by omega)]
theorem n_irem {a d : Nat} (ha : a < 2 ^ 31) (h0 : 0 < d) (hd : d < 2 ^ 31) : irem (nI a) (nI d) = nI (a % d) := pk_rem ha h0 hd
theorem n_div {a d : Nat} (ha : a < 2 ^ 31) (h0 : 0 < d) (hd : d < 2 ^ 31) : nI a / nI d = nI (a / d) := pk_div ha h0 hd
theorem n_mul (a b : Nat) : nI a * nI b = nI (a * b) := pk_mul a b
/-- bits of small sets -/
theorem s_shr : ∀ k, k < 64 → ∀ p, p < 6 → ((nI k >>> (nI p &&& 31)) &&& 1) = b2i (k.testBit p) := by decide +kernel
theorem s_and : ∀ a, a < 64 → ∀ b, b < 64 → nI a &&& nI b = nI (a &&& b) := by decide +kernel
theorem s_nand : ∀ a, a < 64 → ∀ b, b < 64 → nI a &&& (nI b ^^^ (-1)) = nI (a &&& (63 ^^^ b)) := by decide +kernel
theorem s_xor : ∀ a, a < 64 → ∀ b, b < 64 → nI a ^^^ nI b = nI (a ^^^ b) := by decide +kernel
theorem s_all : ∀ p, p < 7 → ((1 : Int32) <<< (nI p &&& 31)) - 1 = nI (2 ^ p - 1) := by decide +kernel
theorem s_one : ∀ p, p < 6 → ((1 : Int32) <<< (nI p &&& 31)) = nI (2 ^ p) := by decide +kernel
def popc (k : Nat) : Nat := (if k.testBit 0 then 1 else 0) + (if k.testBit 1 then 1 else 0) + (if k.testBit 2 then 1 else 0) + (if k.testBit 3 then 1 else 0) + (if k.testBit 4 then 1 else 0) + (if k.testBit 5 then 1 else 0)
theorem popc_le (k : Nat) : popc k ≤ 6 := by unfold popc; (repeat' split) <;> omega
theorem s_pop (N : Nat) : ∀ k, k < 64 → fJ6_bitCount_0f7a4 N (nI k) = some (nI (popc k)) := by
  have h : ∀ k, k < 64 → fJ6_bitCount_0f7a4 0 (nI k) = some (nI (popc k)) := by decide +kernel
  exact h
theorem and_lt64 {a b : Nat} (h : a < 64) : a &&& b < 64 := Nat.lt_of_le_of_lt Nat.and_le_left h
theorem and_lt64' {a b : Nat} (h : b < 64) : a &&& b < 64 := Nat.lt_of_le_of_lt Nat.and_le_right h
theorem xor_lt64 {a b : Nat} (h : a < 64) (h2 : b < 64) : a ^^^ b < 64 := Nat.xor_lt_two_pow (n := 6) h h2
/-! PURE: how much is rocked -/
def prk (kd wt j : Nat) (al ev : Bool) : Nat :=
  if kd = 1 then wt + j / 4 else if kd = 2 then (if j < 6 then 0 else wt) else if kd = 3 then (if al then 2 * (wt + j / 4) else wt + j / 4) else if kd = 4 then (if ev then (if j < 6 then 0 else wt) + 3 else (if j < 6 then 0 else wt)) else wt
theorem prk_le {kd wt j : Nat} {al ev : Bool} (hw : wt ≤ 9) (hj : j ≤ 20) : prk kd wt j al ev ≤ 28 := by
  unfold prk
  (repeat' split) <;> omega
def srk (kd wt : Nat → Nat) (side j : Nat) (al ev : Bool) : Nat → Nat
  | 0 => 0
  | n + 1 => srk kd wt side j al ev n + (if side.testBit n then prk (kd n) (wt n) j al ev else 0)
theorem srk_le {kd wt : Nat → Nat} {side j : Nat} {al ev : Bool} (hj : j ≤ 20) : ∀ n, (∀ p, p < n → wt p ≤ 9) → srk kd wt side j al ev n ≤ 28 * n
  | 0, _ => by simp [srk]
  | n + 1, h => by
    have h1 := srk_le (kd := kd) (side := side) (al := al) (ev := ev) hj n (fun p hp => h p (by omega))
    have h2 := prk_le (kd := kd n) (al := al) (ev := ev) (h n (by omega)) hj
    unfold srk
    split <;> omega
/-- one side of the boat -/
def sdk (np : Nat) (kd wt : Nat → Nat) (side j : Nat) (ev : Bool) : Nat := srk kd wt side j (decide (popc side = 1)) ev np
/-- the boat -/
def brk (np : Nat) (kd wt : Nat → Nat) (j fo crew : Nat) (ev : Bool) : Nat := if j = 0 then 0 else 2 * min (sdk np kd wt (crew &&& fo) j ev) (sdk np kd wt (crew &&& (63 ^^^ fo)) j ev)
theorem brk_le {np : Nat} {kd wt : Nat → Nat} {j fo crew : Nat} {ev : Bool} (hp : np ≤ 6) (hw : ∀ p, p < np → wt p ≤ 9) (hj : j ≤ 20) : brk np kd wt j fo crew ev ≤ 336 := by
  unfold brk sdk
  split
  · omega
  · have h1 := srk_le (kd := kd) (wt := wt) (side := crew &&& fo) (al := decide (popc (crew &&& fo) = 1)) (ev := ev) hj np hw
    have := Nat.min_le_left (srk kd wt (crew &&& fo) j (decide (popc (crew &&& fo) = 1)) ev np) (srk kd wt (crew &&& (63 ^^^ fo)) j (decide (popc (crew &&& (63 ^^^ fo)) = 1)) ev np)
    omega
/-- a canal's people as the boat has them -/
def PR (np : Nat) (kd wt : Nat → Nat) (kind weight : Nat → Int32) : Prop := np ≤ 6 ∧ ∀ p, p < np → kind p = nI (kd p) ∧ weight p = nI (wt p) ∧ kd p ≤ 4 ∧ 1 ≤ wt p ∧ wt p ≤ 9
theorem c_person (N : Nat) {np : Nat} {kd wt : Nat → Nat} {kind weight : Nat → Int32} (H : PR np kd wt kind weight) {p j : Nat} {al ev : Bool} (hp : p < np) (hj : j ≤ 20) : fX0_personRocks N kind weight (nI p) (nI j) (b2i al) (b2i ev) = some (nI (prk (kd p) (wt p) j al ev)) := by
  obtain ⟨hk, hw, hk4, hw1, hw9⟩ := H.2 p hp
  have h6 := H.1
  unfold fX0_personRocks
  rw [ixb_nI (by omega)]
  simp only [ixb_nI (show p < 6 by omega), hk, hw]
  have e4 : nI j / 4 = nI (j / 4) := n_div (d := 4) (by omega) (by omega) (by omega)
  have hc : kd p = 0 ∨ kd p = 1 ∨ kd p = 2 ∨ kd p = 3 ∨ kd p = 4 := by omega
  by_cases hj6 : 6 ≤ j
  · rw [if_pos (show (6 : Int32) ≤ nI j from (nle (a := 6) (by omega) (by omega)).mpr hj6), e4]
    have hj' : ¬ j < 6 := by omega
    rcases hc with h | h | h | h | h <;> rw [h] <;> cases al <;> cases ev <;> simp [prk, hj', b2i, nI_add, nI, n_mul] <;> first | rfl | skip
  · rw [if_neg (show ¬ (6 : Int32) ≤ nI j from fun z => hj6 ((nle (a := 6) (by omega) (by omega)).mp z)), e4]
    have hj' : j < 6 := by omega
    rcases hc with h | h | h | h | h <;> rw [h] <;> cases al <;> cases ev <;> simp [prk, hj', b2i, nI_add, nI] <;> first | rfl | skip
