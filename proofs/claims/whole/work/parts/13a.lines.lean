/-! PURE: lines of sayings, in their order -/
def lcat (g : Nat → List (List Nat)) : Nat → Nat → List (List Nat)
  | 0, _ => []
  | m + 1, s => g s ++ lcat g m (s + 1)
def lns (once : Bool) (ns : Nat) : Nat → List Nat → List (List Nat)
  | 0, pre => [pre]
  | r + 1, pre => lcat (fun s => if (once && pre.contains s) = true then [] else lns once ns r (pre ++ [s])) ns 0
def fup (f : Nat → Nat) (k v : Nat) : Nat → Nat := fun j => if j = k then v else f j
/-- the reference's next row -/
def nrK (ns : Nat) : Nat → (Nat → Nat) → Nat × (Nat → Nat)
  | 0, f => (0, f)
  | k + 1, f => if f k + 1 = ns then nrK ns k (fup f k 0) else (k + 1, f)
def nxR (ns n : Nat) (l : List Nat) : Option (List Nat) :=
  if (nrK ns n (fun j => l.getD j 0)).1 = 0 then none else some ((List.range n).map (fup (nrK ns n (fun j => l.getD j 0)).2 ((nrK ns n (fun j => l.getD j 0)).1 - 1) ((nrK ns n (fun j => l.getD j 0)).2 ((nrK ns n (fun j => l.getD j 0)).1 - 1) + 1)))
/-- the reference's next order -/
def noK (f : Nat → Nat) : Nat → Nat
  | 0 => 0
  | k + 1 => if f k ≤ f (k + 1) then k + 1 else noK f k
def noJ (f : Nat → Nat) (k : Nat) : Nat → Nat
  | 0 => 0
  | j + 1 => if f k ≤ f (j + 1) then j + 1 else noJ f k j
def fsw (f : Nat → Nat) (a b : Nat) : Nat → Nat := fup (fup f a (f b)) b (f a)
def noR : Nat → Nat → Nat → (Nat → Nat) → (Nat → Nat)
  | 0, _, _, f => f
  | m + 1, a, b, f => if b ≤ a then f else noR m (a + 1) (b - 1) (fsw f a b)
def nxO (n : Nat) (l : List Nat) : Option (List Nat) :=
  if noK (fun j => l.getD j 0) (n - 1) = 0 then none else some ((List.range n).map (noR n (noK (fun j => l.getD j 0) (n - 1)) (n - 1) (fsw (fun j => l.getD j 0) (noK (fun j => l.getD j 0) (n - 1) - 1) (noJ (fun j => l.getD j 0) (noK (fun j => l.getD j 0) (n - 1) - 1) (n - 1)))))
def lchk (nx : List Nat → Option (List Nat)) (n ns : Nat) : List Nat → List (List Nat) → Bool
  | l, [] => l.length == n && l.all (fun v => decide (v < ns)) && nx l == none
  | l, l' :: t => l.length == n && l.all (fun v => decide (v < ns)) && nx l == some l' && lchk nx n ns l' t
def lall (nx : List Nat → Option (List Nat)) (n ns : Nat) (first : List Nat) : List (List Nat) → Bool
  | [] => false
  | l :: t => l == first && lchk nx n ns l t && decide (t.length < 700)
theorem rows_ok : ∀ ns, ns < 6 → ∀ n, n < 5 → 0 < ns → 0 < n → lall (nxR ns n) n ns (List.replicate n 0) (lns false ns n []) = true := by decide +kernel
theorem orders_ok : ∀ n, n < 6 → 0 < n → lall (nxO n) n n (List.range n) (lns true n n []) = true := by decide +kernel
