/-! CORE 1: the walk's state as data -/
def tb : List Cond := lw_tbl.filter goodWord
def nestT : List Cond := tables_1.filter (fun w => match w with | .methodLinkNest .. => true | _ => false)
abbrev Ev : Type := va_G × (ClassId × ClassId × ClassId × ClassId × ClassId) × Nat × Nat
def eT (E : Ev) : List (ClassId × FieldType) := [(E.2.1.1, .int), (E.2.1.2.1, .long), (E.2.1.2.2.1, .char), (E.2.1.2.2.2.1, .object "GossipBoat$Moment"), (E.2.1.2.2.2.2, .object "GossipBoat$Sheet")]
def aI (E : Ev) (n : Nat) (f : Nat → Int32) : va_E := .inl (E.2.1.1, n, .inl f)
def aJ (E : Ev) (n : Nat) (f : Nat → Int64) : va_E := .inl (E.2.1.2.1, n, .inr (.inl f))
def aC (E : Ev) (n : Nat) (f : Nat → Int32) : va_E := .inl (E.2.1.2.2.1, n, .inl f)
def aM (E : Ev) (n : Nat) (f : Nat → Option Nat) : va_E := .inl (E.2.1.2.2.2.1, n, .inr (.inr (.inr (.inr f))))
def aS (E : Ev) (n : Nat) (f : Nat → Option Nat) : va_E := .inl (E.2.1.2.2.2.2, n, .inr (.inr (.inr (.inr f))))
def oB (ci : Nat) (fs : List Value) : va_E := .inr (ci, fs)
def eF (E : Ev) (A : Nat → Prop) (U : State) : Prop := (∀ w ∈ nestT, va_Nw w U) ∧ vk_R "GossipBoat$Tape" 85 "pldsc" E.2.2.1 U ∧ vk_S 1 [5] [[112, 108, 100, 115, 99]] (fun _ => E.2.2.1) (fun _ => E.2.2.2) A U U.heap ∧ va_Z "java/lang/String" "COMPACT_STRINGS" "Z" (.int 1) A U U.heap ∧ va_AO "GossipBoat$Moment" U ∧ va_AO "GossipBoat$Sheet" U
abbrev KX : Type := Program × Launch × Env × Room × State × MethodId × Array Value × List Frame × Method × Code × (Nat → Prop) × (State → Prop)
def G (E : Ev) (K : KX) (nL ce sl : Nat) (lv : List (Nat × Value)) (st : List Value) (ws : va_W) (pc : Nat) : Prop := match K with
  | (p, l, e, R, s, m, args, below, meth, c, A, Q) => ∀ (H : Heap) (locs : List Loc) (ls : Array Slot), va_P E.1 vwCl ws H → va_D A ws → va_S A s.heap H locs → lv_has ls nL lv → W p l e R s m args below meth c H locs ce sl Q (F0 m pc ls st)
def OKX (E : Ev) (K : KX) (cc : ByteArray) (own : String) (nL : Nat) (rm : Room) : Prop := match K with
  | (p, _, _, R, s, m, args, _, meth, c, A, _) => p.tables.exec = Jvm.exec ∧ c.code = cc ∧ c.maxLocals = nL ∧ s.vm.findClass own = some m.cls ∧ (∀ w ∈ tb, w.before args s = true) ∧ va_K E.1 vwCl (eT E) s ∧ (∀ q, s.heap.size ≤ q → A q) ∧ eF E A s ∧ meth.locks = false ∧ R = rm
def kR (K : KX) : Room := K.2.2.2.1
def kL (K : KX) : Launch := K.2.1
/-- a method's end, of whatever type -/
def Qp (E : Ev) (A : Nat → Prop) (post : Option Value → va_W → Prop) : Array Value → State → Outcome → State → Prop := fun _ st oc t => (∃ v w, oc = .returned v ∧ post v w ∧ va_P E.1 vwCl w t.heap ∧ va_D A w) ∧ va_F A st t
def RTX (E : Ev) (K : KX) (mc ms : Nat) (ret : Option FieldType) (post : Option Value → va_W → Prop) : Prop := match K with
  | (_, _, _, _, s, _, args, below, meth, _, A, Q) => meth.sig.returnType = ret ∧ Q = MQ below (Qp E A post) args s mc ms A
/-- a method's start -/
def Pp (E : Ev) (ws : va_W) (sz : Nat) (U : State) : Prop := U.heap.size = sz ∧ va_P E.1 vwCl ws U.heap ∧ va_K E.1 vwCl (eT E) U ∧ va_D (fun _ => True) ws ∧ eF E (va_A ws sz) U
/-- a method's contract -/
def Ct (l : Launch) (E : Ev) (y : MethodName) (cc : ByteArray) (maxL : Nat) (ret : Option FieldType) (rm : Room) (av : List Value) (ws : va_W) (post : Option Value → va_W → Prop) : Prop :=
  ∀ sz : Nat, Met l y (.code y cc maxL ret :: tb) rm (va_Pc av (Pp E ws sz)) (Qp E (va_A ws sz) post) rm.cells rm.slots (va_A ws sz)
theorem eF.calling {E : Ev} {A : Nat → Prop} {U : State} {g : JFrame} {mk : MethodId} {a : Array Value} (h : eF E A U) : eF E A (U.calling g mk a) :=
  ⟨fun w hw => va_Nw.same (by
      have := List.mem_filter.mp hw
      revert this; cases w <;> intro h <;> first | rfl | (exact absurd h.2 (by simp))) (rfl : U.vm = (U.calling g mk a).vm) (h.1 w hw), vk_R.same rfl h.2.1, vk_S.moved (Vm.Alike.refl U.vm) h.2.2.1, va_Z.moved (Vm.Alike.refl U.vm) h.2.2.2.1, va_AO.moved (Vm.Alike.refl U.vm) h.2.2.2.2.1, va_AO.moved (Vm.Alike.refl U.vm) h.2.2.2.2.2⟩
theorem Pp.blind {E : Ev} {ws : va_W} {sz : Nat} {av : List Value} : FrameBlind (va_Pc av (Pp E ws sz)) := by
  intro a U g mk h
  obtain ⟨h1, h2, h3, h4, h5, h6⟩ := h
  exact ⟨h1, h2, h3, va_K.moved (Vm.Alike.refl U.vm) h4, h5, h6.calling⟩
theorem eF.warm {E : Ev} {A B : Nat → Prop} {s U : State} {H : Heap} {locs : List Loc} (h : eF E A s) (hW : s.WarmedH U.vm) (hU : U.heap = H) (hS : va_S A s.heap H locs) (hAB : ∀ q, B q → A q) : eF E B U := by
  refine ⟨fun w hw => ?_, vk_R.warm hW h.2.1, ?_, ?_, va_AO.moved hW.alike h.2.2.2.2.1, va_AO.moved hW.alike h.2.2.2.2.2⟩
  · have hn := h.1 w hw
    have := List.mem_filter.mp hw
    revert this hn
    cases w <;> intro hn h2 <;> first | exact va_Nw.warmM hW hn | (exact absurd h2.2 (by simp))
  · rw [hU]; exact ((h.2.2.1.kept hS.2.1).narrow hAB).moved hW.alike
  · rw [hU]; exact ((h.2.2.2.1.kept hS.2.1).narrow hAB).moved hW.alike
/-- a contract out of a walk -/
theorem Ct.of {l : Launch} {E : Ev} {y : MethodName} {cc : ByteArray} {maxL : Nat} {ret : Option FieldType} {rm : Room} {av : List Value} {ws : va_W} {post : Option Value → va_W → Prop} (hy : plainName y.cls = true) (hn : (lg_sl av).length ≤ maxL)
    (h : ∀ K : KX, kL K = l → OKX E K cc y.cls maxL rm → RTX E K rm.cells rm.slots ret post → (K.2.2.2.2.2.2.2.2.1.name = y.name) → G E K maxL 0 0 (lv_args 0 av) [] ws 0) : Ct l E y cc maxL ret rm av ws post := by
  intro sz
  refine Met.ofW (cc := cc) (maxL := maxL) (ret := ret) hy rfl ?_
  intro p e s m args below meth c s₁ B hml hv
  obtain ⟨rfl, hsz, hP, hK, hD0, hF⟩ := hv
  have hts := atoms_spec (ws := .code y cc maxL ret :: tb) B.pre
  subst hsz
  have hl := lv_entry av (n := maxL) hn
  rw [lg_entry_eq]
  exact h (p, l, e, rm, s, m, av.toArray, below, meth, c, va_A ws s.heap.size, MQ below (Qp E (va_A ws s.heap.size) post) av.toArray s rm.cells rm.slots (va_A ws s.heap.size)) rfl ⟨B.exec, B.bytes, hml, findClass_of_methodNamed B.named, fun w hw => hts w (List.mem_cons_of_mem _ hw), hK, fun q hq => Or.inr hq, hF, B.notSynchronized, rfl⟩ ⟨B.returns, rfl⟩ (name_of_methodNamed B.named B.method).1 s.heap [] _ hP hD0.self va_S.rf hl
def Pe (v : Option Value) (w : va_W) : Option Value → va_W → Prop := fun v' w' => v' = v ∧ w' = w
def roomOK (R rm : Room) (maxL : Nat) : Bool := decide (rm.frames + 1 ≤ R.frames) && decide (8 + (maxL + 11) + rm.locals ≤ R.locals)
theorem roomOK_spec {R rm : Room} {maxL : Nat} (h : roomOK R rm maxL = true) : rm.frames + 1 ≤ R.frames ∧ 8 + (maxL + 11) + rm.locals ≤ R.locals := by
  simp only [roomOK, Bool.and_eq_true, decide_eq_true_eq] at h
  exact h
section GR
variable {E : Ev} {K : KX} {cc : ByteArray} {own : String} {nL ce sl pc : Nat} {lv : List (Nat × Value)} {st : List Value} {ws : va_W} {rm : Room}
def imax (x y : Int32) : Int32 := if x < y then y else x
def imin (x y : Int32) : Int32 := if y < x then y else x
def iushr (x y : Int32) : Int32 := (x.toUInt32 >>> (y.toUInt32 &&& Int32.toUInt32 31)).toInt32
def irem (x y : Int32) : Int32 := x - x / y * y
theorem g_iconst (k : OKX E K cc own nL rm) {n : Int} {v : Int32} (hd : decode cc pc = .ok (.iconst n, 1)) (hv : Int32.ofInt n = v) (h : G E K nL ce sl lv (.int v :: st) ws (pc + 1)) : G E K nL ce sl lv (st) ws pc := by
  obtain ⟨p, l, e, R, s, m, args, below, meth, c, A, Q⟩ := K
  exact fun H locs ls hP hD hS hl => lv_iconst k.1 k.2.1 hd hv (h H locs ls hP hD hS hl)
theorem g_bipush (k : OKX E K cc own nL rm) {n : Int} {v : Int32} (hd : decode cc pc = .ok (.bipush n, 2)) (hv : (Int8.ofInt n).toInt32 = v) (h : G E K nL ce sl lv (.int v :: st) ws (pc + 2)) : G E K nL ce sl lv (st) ws pc := by
  obtain ⟨p, l, e, R, s, m, args, below, meth, c, A, Q⟩ := K
  exact fun H locs ls hP hD hS hl => lv_bipush k.1 k.2.1 hd hv (h H locs ls hP hD hS hl)
theorem g_sipush (k : OKX E K cc own nL rm) {n : Int} {v : Int32} (hd : decode cc pc = .ok (.sipush n, 3)) (hv : (Int16.ofInt n).toInt32 = v) (h : G E K nL ce sl lv (.int v :: st) ws (pc + 3)) : G E K nL ce sl lv (st) ws pc := by
  obtain ⟨p, l, e, R, s, m, args, below, meth, c, A, Q⟩ := K
  exact fun H locs ls hP hD hS hl => lv_sipush k.1 k.2.1 hd hv (h H locs ls hP hD hS hl)
theorem g_lconst (k : OKX E K cc own nL rm) {n : Fin 2} {v : Int64} (hd : decode cc pc = .ok (.lconst n, 1)) (hv : Int64.ofNat (n : Nat) = v) (h : G E K nL ce sl lv (.long v :: st) ws (pc + 1)) : G E K nL ce sl lv (st) ws pc := by
  obtain ⟨p, l, e, R, s, m, args, below, meth, c, A, Q⟩ := K
  exact fun H locs ls hP hD hS hl => lv_lconst k.1 k.2.1 hd hv (h H locs ls hP hD hS hl)
theorem g_iload_n (k : OKX E K cc own nL rm) {q : Fin 4} {i : Nat} {x : Int32} (j : Nat) (hd : decode cc pc = .ok (.iload_n q, 1)) (hj : lv[j]? = some (i, .int x)) (hi : (q : Nat) = i) (h : G E K nL ce sl lv (.int x :: st) ws (pc + 1)) : G E K nL ce sl lv (st) ws pc := by
  obtain ⟨p, l, e, R, s, m, args, below, meth, c, A, Q⟩ := K
  exact fun H locs ls hP hD hS hl => lv_iload_n k.1 k.2.1 hd hi (lv_at hl j hj) (h H locs ls hP hD hS hl)
theorem g_iload (k : OKX E K cc own nL rm) {i : Nat} {x : Int32} (j : Nat) (hd : decode cc pc = .ok (.iload i, 2)) (hj : lv[j]? = some (i, .int x)) (h : G E K nL ce sl lv (.int x :: st) ws (pc + 2)) : G E K nL ce sl lv (st) ws pc := by
  obtain ⟨p, l, e, R, s, m, args, below, meth, c, A, Q⟩ := K
  exact fun H locs ls hP hD hS hl => lv_iload k.1 k.2.1 hd (lv_at hl j hj) (h H locs ls hP hD hS hl)
theorem g_istore_n (k : OKX E K cc own nL rm) {q : Fin 4} {i : Nat} {x : Int32} {lv' : List (Nat × Value)} (hd : decode cc pc = .ok (.istore_n q, 1)) (hi : (q : Nat) = i) (hn : i < nL) (hl' : (i, Value.int x) :: lv.filter (fun q => !(q.1 == i) && !(q.1 + 1 == i && q.2.category == 2)) = lv') (h : G E K nL ce sl lv' st ws (pc + 1)) : G E K nL ce sl lv (.int x :: st) ws pc := by
  obtain ⟨p, l, e, R, s, m, args, below, meth, c, A, Q⟩ := K
  exact fun H locs ls hP hD hS hl => lv_istore_n k.1 k.2.1 hd hi hl hn hl' (fun ls2 hl2 => h H locs ls2 hP hD hS hl2)
theorem g_istore (k : OKX E K cc own nL rm) {i : Nat} {x : Int32} {lv' : List (Nat × Value)} (hd : decode cc pc = .ok (.istore i, 2)) (hn : i < nL) (hl' : (i, Value.int x) :: lv.filter (fun q => !(q.1 == i) && !(q.1 + 1 == i && q.2.category == 2)) = lv') (h : G E K nL ce sl lv' st ws (pc + 2)) : G E K nL ce sl lv (.int x :: st) ws pc := by
  obtain ⟨p, l, e, R, s, m, args, below, meth, c, A, Q⟩ := K
  exact fun H locs ls hP hD hS hl => lv_istore k.1 k.2.1 hd hl hn hl' (fun ls2 hl2 => h H locs ls2 hP hD hS hl2)
theorem g_lload_n (k : OKX E K cc own nL rm) {q : Fin 4} {i : Nat} {x : Int64} (j : Nat) (hd : decode cc pc = .ok (.lload_n q, 1)) (hj : lv[j]? = some (i, .long x)) (hi : (q : Nat) = i) (h : G E K nL ce sl lv (.long x :: st) ws (pc + 1)) : G E K nL ce sl lv (st) ws pc := by
  obtain ⟨p, l, e, R, s, m, args, below, meth, c, A, Q⟩ := K
  exact fun H locs ls hP hD hS hl => lv_lload_n k.1 k.2.1 hd hi (lv_at hl j hj) (h H locs ls hP hD hS hl)
theorem g_lload (k : OKX E K cc own nL rm) {i : Nat} {x : Int64} (j : Nat) (hd : decode cc pc = .ok (.lload i, 2)) (hj : lv[j]? = some (i, .long x)) (h : G E K nL ce sl lv (.long x :: st) ws (pc + 2)) : G E K nL ce sl lv (st) ws pc := by
  obtain ⟨p, l, e, R, s, m, args, below, meth, c, A, Q⟩ := K
  exact fun H locs ls hP hD hS hl => lv_lload k.1 k.2.1 hd (lv_at hl j hj) (h H locs ls hP hD hS hl)
theorem g_lstore_n (k : OKX E K cc own nL rm) {q : Fin 4} {i : Nat} {x : Int64} {lv' : List (Nat × Value)} (hd : decode cc pc = .ok (.lstore_n q, 1)) (hi : (q : Nat) = i) (hn : i + 1 < nL) (hl' : (i, Value.long x) :: lv.filter (fun q => !(q.1 == i) && (!(q.1 == i + 1) && !(q.1 + 1 == i && q.2.category == 2))) = lv') (h : G E K nL ce sl lv' st ws (pc + 1)) : G E K nL ce sl lv (.long x :: st) ws pc := by
  obtain ⟨p, l, e, R, s, m, args, below, meth, c, A, Q⟩ := K
  exact fun H locs ls hP hD hS hl => lv_lstore_n k.1 k.2.1 hd hi hl hn hl' (fun ls2 hl2 => h H locs ls2 hP hD hS hl2)
theorem g_lstore (k : OKX E K cc own nL rm) {i : Nat} {x : Int64} {lv' : List (Nat × Value)} (hd : decode cc pc = .ok (.lstore i, 2)) (hn : i + 1 < nL) (hl' : (i, Value.long x) :: lv.filter (fun q => !(q.1 == i) && (!(q.1 == i + 1) && !(q.1 + 1 == i && q.2.category == 2))) = lv') (h : G E K nL ce sl lv' st ws (pc + 2)) : G E K nL ce sl lv (.long x :: st) ws pc := by
  obtain ⟨p, l, e, R, s, m, args, below, meth, c, A, Q⟩ := K
  exact fun H locs ls hP hD hS hl => lv_lstore k.1 k.2.1 hd hl hn hl' (fun ls2 hl2 => h H locs ls2 hP hD hS hl2)
theorem g_aload_n (k : OKX E K cc own nL rm) {q : Fin 4} {i : Nat} {x : Nat} (j : Nat) (hd : decode cc pc = .ok (.aload_n q, 1)) (hj : lv[j]? = some (i, .ref x)) (hi : (q : Nat) = i) (h : G E K nL ce sl lv (.ref x :: st) ws (pc + 1)) : G E K nL ce sl lv (st) ws pc := by
  obtain ⟨p, l, e, R, s, m, args, below, meth, c, A, Q⟩ := K
  exact fun H locs ls hP hD hS hl => lv_aload_n k.1 k.2.1 hd hi (lv_at hl j hj) (h H locs ls hP hD hS hl)
theorem g_aload (k : OKX E K cc own nL rm) {i : Nat} {x : Nat} (j : Nat) (hd : decode cc pc = .ok (.aload i, 2)) (hj : lv[j]? = some (i, .ref x)) (h : G E K nL ce sl lv (.ref x :: st) ws (pc + 2)) : G E K nL ce sl lv (st) ws pc := by
  obtain ⟨p, l, e, R, s, m, args, below, meth, c, A, Q⟩ := K
  exact fun H locs ls hP hD hS hl => lv_aload k.1 k.2.1 hd (lv_at hl j hj) (h H locs ls hP hD hS hl)
theorem g_astore_n (k : OKX E K cc own nL rm) {q : Fin 4} {i : Nat} {x : Nat} {lv' : List (Nat × Value)} (hd : decode cc pc = .ok (.astore_n q, 1)) (hi : (q : Nat) = i) (hn : i < nL) (hl' : (i, Value.ref x) :: lv.filter (fun q => !(q.1 == i) && !(q.1 + 1 == i && q.2.category == 2)) = lv') (h : G E K nL ce sl lv' st ws (pc + 1)) : G E K nL ce sl lv (.ref x :: st) ws pc := by
  obtain ⟨p, l, e, R, s, m, args, below, meth, c, A, Q⟩ := K
  exact fun H locs ls hP hD hS hl => lv_astore_n k.1 k.2.1 hd hi hl hn hl' (fun ls2 hl2 => h H locs ls2 hP hD hS hl2)
theorem g_astore (k : OKX E K cc own nL rm) {i : Nat} {x : Nat} {lv' : List (Nat × Value)} (hd : decode cc pc = .ok (.astore i, 2)) (hn : i < nL) (hl' : (i, Value.ref x) :: lv.filter (fun q => !(q.1 == i) && !(q.1 + 1 == i && q.2.category == 2)) = lv') (h : G E K nL ce sl lv' st ws (pc + 2)) : G E K nL ce sl lv (.ref x :: st) ws pc := by
  obtain ⟨p, l, e, R, s, m, args, below, meth, c, A, Q⟩ := K
  exact fun H locs ls hP hD hS hl => lv_astore k.1 k.2.1 hd hl hn hl' (fun ls2 hl2 => h H locs ls2 hP hD hS hl2)
theorem g_iinc (k : OKX E K cc own nL rm) {i : Nat} {n : Int} {x v : Int32} {lv' : List (Nat × Value)} (j : Nat) (hd : decode cc pc = .ok (.iinc i n, 3)) (hj : lv[j]? = some (i, .int x)) (hv : x + Int32.ofInt n = v) (hn : i < nL) (hl' : (i, Value.int v) :: lv.filter (fun q => !(q.1 == i) && !(q.1 + 1 == i && q.2.category == 2)) = lv') (h : G E K nL ce sl lv' st ws (pc + 3)) : G E K nL ce sl lv st ws pc := by
  obtain ⟨p, l, e, R, s, m, args, below, meth, c, A, Q⟩ := K
  exact fun H locs ls hP hD hS hl => lv_iinc k.1 k.2.1 hd hl hj hv hn hl' (fun ls2 hl2 => h H locs ls2 hP hD hS hl2)
theorem g_iadd (k : OKX E K cc own nL rm) {x y : Int32} (hd : decode cc pc = .ok (.iadd, 1)) (h : G E K nL ce sl lv (.int (x + y) :: st) ws (pc + 1)) : G E K nL ce sl lv (.int y :: .int x :: st) ws pc := by
  obtain ⟨p, l, e, R, s, m, args, below, meth, c, A, Q⟩ := K
  exact fun H locs ls hP hD hS hl => lv_iadd k.1 k.2.1 hd (h H locs ls hP hD hS hl)
theorem g_isub (k : OKX E K cc own nL rm) {x y : Int32} (hd : decode cc pc = .ok (.isub, 1)) (h : G E K nL ce sl lv (.int (x - y) :: st) ws (pc + 1)) : G E K nL ce sl lv (.int y :: .int x :: st) ws pc := by
  obtain ⟨p, l, e, R, s, m, args, below, meth, c, A, Q⟩ := K
  exact fun H locs ls hP hD hS hl => lv_isub k.1 k.2.1 hd (h H locs ls hP hD hS hl)
theorem g_imul (k : OKX E K cc own nL rm) {x y : Int32} (hd : decode cc pc = .ok (.imul, 1)) (h : G E K nL ce sl lv (.int (x * y) :: st) ws (pc + 1)) : G E K nL ce sl lv (.int y :: .int x :: st) ws pc := by
  obtain ⟨p, l, e, R, s, m, args, below, meth, c, A, Q⟩ := K
  exact fun H locs ls hP hD hS hl => lv_imul k.1 k.2.1 hd (h H locs ls hP hD hS hl)
theorem g_iand (k : OKX E K cc own nL rm) {x y : Int32} (hd : decode cc pc = .ok (.iand, 1)) (h : G E K nL ce sl lv (.int (x &&& y) :: st) ws (pc + 1)) : G E K nL ce sl lv (.int y :: .int x :: st) ws pc := by
  obtain ⟨p, l, e, R, s, m, args, below, meth, c, A, Q⟩ := K
  exact fun H locs ls hP hD hS hl => lv_iand k.1 k.2.1 hd (h H locs ls hP hD hS hl)
theorem g_ior (k : OKX E K cc own nL rm) {x y : Int32} (hd : decode cc pc = .ok (.ior, 1)) (h : G E K nL ce sl lv (.int (x ||| y) :: st) ws (pc + 1)) : G E K nL ce sl lv (.int y :: .int x :: st) ws pc := by
  obtain ⟨p, l, e, R, s, m, args, below, meth, c, A, Q⟩ := K
  exact fun H locs ls hP hD hS hl => lv_ior k.1 k.2.1 hd (h H locs ls hP hD hS hl)
theorem g_ixor (k : OKX E K cc own nL rm) {x y : Int32} (hd : decode cc pc = .ok (.ixor, 1)) (h : G E K nL ce sl lv (.int (x ^^^ y) :: st) ws (pc + 1)) : G E K nL ce sl lv (.int y :: .int x :: st) ws pc := by
  obtain ⟨p, l, e, R, s, m, args, below, meth, c, A, Q⟩ := K
  exact fun H locs ls hP hD hS hl => lv_ixor k.1 k.2.1 hd (h H locs ls hP hD hS hl)
theorem g_ishl (k : OKX E K cc own nL rm) {x y : Int32} (hd : decode cc pc = .ok (.ishl, 1)) (h : G E K nL ce sl lv (.int (x <<< (y &&& 31)) :: st) ws (pc + 1)) : G E K nL ce sl lv (.int y :: .int x :: st) ws pc := by
  obtain ⟨p, l, e, R, s, m, args, below, meth, c, A, Q⟩ := K
  exact fun H locs ls hP hD hS hl => lv_ishl k.1 k.2.1 hd (h H locs ls hP hD hS hl)
theorem g_ishr (k : OKX E K cc own nL rm) {x y : Int32} (hd : decode cc pc = .ok (.ishr, 1)) (h : G E K nL ce sl lv (.int (x >>> (y &&& 31)) :: st) ws (pc + 1)) : G E K nL ce sl lv (.int y :: .int x :: st) ws pc := by
  obtain ⟨p, l, e, R, s, m, args, below, meth, c, A, Q⟩ := K
  exact fun H locs ls hP hD hS hl => lv_ishr k.1 k.2.1 hd (h H locs ls hP hD hS hl)
theorem g_iushr (k : OKX E K cc own nL rm) {x y : Int32} (hd : decode cc pc = .ok (.iushr, 1)) (h : G E K nL ce sl lv (.int (iushr x y) :: st) ws (pc + 1)) : G E K nL ce sl lv (.int y :: .int x :: st) ws pc := by
  obtain ⟨p, l, e, R, s, m, args, below, meth, c, A, Q⟩ := K
  exact fun H locs ls hP hD hS hl => lv_iushr k.1 k.2.1 hd rfl (h H locs ls hP hD hS hl)
theorem g_idiv (k : OKX E K cc own nL rm) {x y : Int32} (hd : decode cc pc = .ok (.idiv, 1)) (hne : ¬ y = 0) (h : G E K nL ce sl lv (.int (x / y) :: st) ws (pc + 1)) : G E K nL ce sl lv (.int y :: .int x :: st) ws pc := by
  obtain ⟨p, l, e, R, s, m, args, below, meth, c, A, Q⟩ := K
  exact fun H locs ls hP hD hS hl => lv_idiv k.1 k.2.1 hd hne (h H locs ls hP hD hS hl)
theorem g_irem (k : OKX E K cc own nL rm) {x y : Int32} (hd : decode cc pc = .ok (.irem, 1)) (hne : ¬ y = 0) (h : G E K nL ce sl lv (.int (irem x y) :: st) ws (pc + 1)) : G E K nL ce sl lv (.int y :: .int x :: st) ws pc := by
  obtain ⟨p, l, e, R, s, m, args, below, meth, c, A, Q⟩ := K
  exact fun H locs ls hP hD hS hl => lv_irem k.1 k.2.1 hd hne (h H locs ls hP hD hS hl)
theorem g_ladd (k : OKX E K cc own nL rm) {x y : Int64} (hd : decode cc pc = .ok (.ladd, 1)) (h : G E K nL ce sl lv (.long (x + y) :: st) ws (pc + 1)) : G E K nL ce sl lv (.long y :: .long x :: st) ws pc := by
  obtain ⟨p, l, e, R, s, m, args, below, meth, c, A, Q⟩ := K
  exact fun H locs ls hP hD hS hl => lv_ladd k.1 k.2.1 hd (h H locs ls hP hD hS hl)
theorem g_lmul (k : OKX E K cc own nL rm) {x y : Int64} (hd : decode cc pc = .ok (.lmul, 1)) (h : G E K nL ce sl lv (.long (x * y) :: st) ws (pc + 1)) : G E K nL ce sl lv (.long y :: .long x :: st) ws pc := by
  obtain ⟨p, l, e, R, s, m, args, below, meth, c, A, Q⟩ := K
  exact fun H locs ls hP hD hS hl => lv_lmul k.1 k.2.1 hd (h H locs ls hP hD hS hl)
theorem g_land (k : OKX E K cc own nL rm) {x y : Int64} (hd : decode cc pc = .ok (.land, 1)) (h : G E K nL ce sl lv (.long (x &&& y) :: st) ws (pc + 1)) : G E K nL ce sl lv (.long y :: .long x :: st) ws pc := by
  obtain ⟨p, l, e, R, s, m, args, below, meth, c, A, Q⟩ := K
  exact fun H locs ls hP hD hS hl => lv_land k.1 k.2.1 hd (h H locs ls hP hD hS hl)
theorem g_lor (k : OKX E K cc own nL rm) {x y : Int64} (hd : decode cc pc = .ok (.lor, 1)) (h : G E K nL ce sl lv (.long (x ||| y) :: st) ws (pc + 1)) : G E K nL ce sl lv (.long y :: .long x :: st) ws pc := by
  obtain ⟨p, l, e, R, s, m, args, below, meth, c, A, Q⟩ := K
  exact fun H locs ls hP hD hS hl => lv_lor k.1 k.2.1 hd (h H locs ls hP hD hS hl)
theorem g_lsub (k : OKX E K cc own nL rm) {x y : Int64} (hd : decode cc pc = .ok (.lsub, 1)) (h : G E K nL ce sl lv (.long (x - y) :: st) ws (pc + 1)) : G E K nL ce sl lv (.long y :: .long x :: st) ws pc := by
  obtain ⟨p, l, e, R, s, m, args, below, meth, c, A, Q⟩ := K
  exact fun H locs ls hP hD hS hl => lv_lsub k.1 k.2.1 hd (h H locs ls hP hD hS hl)
theorem g_lshl (k : OKX E K cc own nL rm) {x : Int64} {y : Int32} (hd : decode cc pc = .ok (.lshl, 1)) (h : G E K nL ce sl lv (.long (x <<< (y.toInt64 &&& 63)) :: st) ws (pc + 1)) : G E K nL ce sl lv (.int y :: .long x :: st) ws pc := by
  obtain ⟨p, l, e, R, s, m, args, below, meth, c, A, Q⟩ := K
  exact fun H locs ls hP hD hS hl => lv_lshl k.1 k.2.1 hd rfl (h H locs ls hP hD hS hl)
theorem g_lcmp (k : OKX E K cc own nL rm) {x y : Int64} (hd : decode cc pc = .ok (.lcmp, 1)) (h : G E K nL ce sl lv (.int (lg_cmp x y) :: st) ws (pc + 1)) : G E K nL ce sl lv (.long y :: .long x :: st) ws pc := by
  obtain ⟨p, l, e, R, s, m, args, below, meth, c, A, Q⟩ := K
  exact fun H locs ls hP hD hS hl => W.lcmp k.1 k.2.1 hd (h H locs ls hP hD hS hl)
theorem g_i2l (k : OKX E K cc own nL rm) {x : Int32} (hd : decode cc pc = .ok (.i2l, 1)) (h : G E K nL ce sl lv (.long x.toInt64 :: st) ws (pc + 1)) : G E K nL ce sl lv (.int x :: st) ws pc := by
  obtain ⟨p, l, e, R, s, m, args, below, meth, c, A, Q⟩ := K
  exact fun H locs ls hP hD hS hl => lv_i2l k.1 k.2.1 hd rfl (h H locs ls hP hD hS hl)
theorem g_l2i (k : OKX E K cc own nL rm) {x : Int64} (hd : decode cc pc = .ok (.l2i, 1)) (h : G E K nL ce sl lv (.int x.toInt32 :: st) ws (pc + 1)) : G E K nL ce sl lv (.long x :: st) ws pc := by
  obtain ⟨p, l, e, R, s, m, args, below, meth, c, A, Q⟩ := K
  exact fun H locs ls hP hD hS hl => lv_l2i k.1 k.2.1 hd rfl (h H locs ls hP hD hS hl)
theorem g_i2b (k : OKX E K cc own nL rm) {x : Int32} (hd : decode cc pc = .ok (.i2b, 1)) (h : G E K nL ce sl lv (.int x.toInt8.toInt32 :: st) ws (pc + 1)) : G E K nL ce sl lv (.int x :: st) ws pc := by
  obtain ⟨p, l, e, R, s, m, args, below, meth, c, A, Q⟩ := K
  exact fun H locs ls hP hD hS hl => lv_i2b k.1 k.2.1 hd rfl (h H locs ls hP hD hS hl)
theorem g_i2s (k : OKX E K cc own nL rm) {x : Int32} (hd : decode cc pc = .ok (.i2s, 1)) (h : G E K nL ce sl lv (.int x.toInt16.toInt32 :: st) ws (pc + 1)) : G E K nL ce sl lv (.int x :: st) ws pc := by
  obtain ⟨p, l, e, R, s, m, args, below, meth, c, A, Q⟩ := K
  exact fun H locs ls hP hD hS hl => lv_i2s k.1 k.2.1 hd rfl (h H locs ls hP hD hS hl)
theorem g_i2c (k : OKX E K cc own nL rm) {x : Int32} (hd : decode cc pc = .ok (.i2c, 1)) (h : G E K nL ce sl lv (.int (x.toUInt32 % 65536).toInt32 :: st) ws (pc + 1)) : G E K nL ce sl lv (.int x :: st) ws pc := by
  obtain ⟨p, l, e, R, s, m, args, below, meth, c, A, Q⟩ := K
  exact fun H locs ls hP hD hS hl => lv_i2c k.1 k.2.1 hd rfl (h H locs ls hP hD hS hl)
theorem g_dup (k : OKX E K cc own nL rm) {a : Value} (hd : decode cc pc = .ok (.dup, 1)) (ha : a.category = 1) (h : G E K nL ce sl lv (a :: a :: st) ws (pc + 1)) : G E K nL ce sl lv (a :: st) ws pc := by
  obtain ⟨p, l, e, R, s, m, args, below, meth, c, A, Q⟩ := K
  exact fun H locs ls hP hD hS hl => lv_dup k.1 k.2.1 hd ha (h H locs ls hP hD hS hl)
theorem g_pop (k : OKX E K cc own nL rm) {a : Value} (hd : decode cc pc = .ok (.pop, 1)) (ha : a.category = 1) (h : G E K nL ce sl lv (st) ws (pc + 1)) : G E K nL ce sl lv (a :: st) ws pc := by
  obtain ⟨p, l, e, R, s, m, args, below, meth, c, A, Q⟩ := K
  exact fun H locs ls hP hD hS hl => lv_pop k.1 k.2.1 hd ha (h H locs ls hP hD hS hl)
theorem g_dup2 (k : OKX E K cc own nL rm) {a b : Value} (hd : decode cc pc = .ok (.dup2, 1)) (ha : a.category = 1) (hb : b.category = 1) (h : G E K nL ce sl lv (a :: b :: a :: b :: st) ws (pc + 1)) : G E K nL ce sl lv (a :: b :: st) ws pc := by
  obtain ⟨p, l, e, R, s, m, args, below, meth, c, A, Q⟩ := K
  exact fun H locs ls hP hD hS hl => lv_dup2_11 k.1 k.2.1 hd ha hb (h H locs ls hP hD hS hl)
theorem g_goto (k : OKX E K cc own nL rm) {off : Int} {tgt : Nat} (hd : decode cc pc = .ok (.goto off, 3)) (ht : (pc : Int) + off = (tgt : Int)) (h : G E K nL ce sl lv (st) ws (tgt)) : G E K nL ce sl lv (st) ws pc := by
  obtain ⟨p, l, e, R, s, m, args, below, meth, c, A, Q⟩ := K
  exact fun H locs ls hP hD hS hl => lv_goto k.1 k.2.1 hd ht (h H locs ls hP hD hS hl)
theorem g_ldc (k : OKX E K cc own nL rm) {index : Nat} {v : Int32} (hd : decode cc pc = .ok (.ldc index, 2)) (hc : Cond.constant own index v ∈ tb) (h : G E K nL ce sl lv (.int v :: st) ws (pc + 2)) : G E K nL ce sl lv (st) ws pc := by
  obtain ⟨p, l, e, R, s, m, args, below, meth, c, A, Q⟩ := K
  exact fun H locs ls hP hD hS hl => lv_ldc k.1 k.2.1 k.2.2.2.1 (k.2.2.2.2.1 _ hc) hd (h H locs ls hP hD hS hl)
theorem g_ldcw (k : OKX E K cc own nL rm) {index : Nat} {v : Int32} (hd : decode cc pc = .ok (.ldc_w index, 3)) (hc : Cond.constant own index v ∈ tb) (h : G E K nL ce sl lv (.int v :: st) ws (pc + 3)) : G E K nL ce sl lv (st) ws pc := by
  obtain ⟨p, l, e, R, s, m, args, below, meth, c, A, Q⟩ := K
  exact fun H locs ls hP hD hS hl => lv_ldcw k.1 k.2.1 k.2.2.2.1 (k.2.2.2.2.1 _ hc) hd (h H locs ls hP hD hS hl)
theorem g_ldc2 (k : OKX E K cc own nL rm) {index : Nat} {v : Int64} (hd : decode cc pc = .ok (.ldc2_w index, 3)) (hc : Cond.constantLong own index v ∈ tb) (h : G E K nL ce sl lv (.long v :: st) ws (pc + 3)) : G E K nL ce sl lv (st) ws pc := by
  obtain ⟨p, l, e, R, s, m, args, below, meth, c, A, Q⟩ := K
  exact fun H locs ls hP hD hS hl => lv_ldc2 k.1 k.2.1 k.2.2.2.1 (k.2.2.2.2.1 _ hc) hd (h H locs ls hP hD hS hl)
theorem g_if_eq (k : OKX E K cc own nL rm) {x : Int32} {off : Int} {tgt : Nat} (hd : decode cc pc = .ok (.ifCond .eq off, 3)) (ht : (pc : Int) + off = (tgt : Int)) (h1 : x = 0 → G E K nL ce sl lv st ws tgt) (h2 : ¬ x = 0 → G E K nL ce sl lv st ws (pc + 3)) : G E K nL ce sl lv (.int x :: st) ws pc := by
  obtain ⟨p, l, e, R, s, m, args, below, meth, c, A, Q⟩ := K
  exact fun H locs ls hP hD hS hl => lv_if_eq k.1 k.2.1 hd ht (fun q => h1 q H locs ls hP hD hS hl) (fun q => h2 q H locs ls hP hD hS hl)
theorem g_if_lt (k : OKX E K cc own nL rm) {x : Int32} {off : Int} {tgt : Nat} (hd : decode cc pc = .ok (.ifCond .lt off, 3)) (ht : (pc : Int) + off = (tgt : Int)) (h1 : x < 0 → G E K nL ce sl lv st ws tgt) (h2 : ¬ x < 0 → G E K nL ce sl lv st ws (pc + 3)) : G E K nL ce sl lv (.int x :: st) ws pc := by
  obtain ⟨p, l, e, R, s, m, args, below, meth, c, A, Q⟩ := K
  exact fun H locs ls hP hD hS hl => lv_if_lt k.1 k.2.1 hd ht (fun q => h1 q H locs ls hP hD hS hl) (fun q => h2 q H locs ls hP hD hS hl)
theorem g_if_ge (k : OKX E K cc own nL rm) {x : Int32} {off : Int} {tgt : Nat} (hd : decode cc pc = .ok (.ifCond .ge off, 3)) (ht : (pc : Int) + off = (tgt : Int)) (h1 : 0 ≤ x → G E K nL ce sl lv st ws tgt) (h2 : ¬ 0 ≤ x → G E K nL ce sl lv st ws (pc + 3)) : G E K nL ce sl lv (.int x :: st) ws pc := by
  obtain ⟨p, l, e, R, s, m, args, below, meth, c, A, Q⟩ := K
  exact fun H locs ls hP hD hS hl => lv_if_ge k.1 k.2.1 hd ht (fun q => h1 q H locs ls hP hD hS hl) (fun q => h2 q H locs ls hP hD hS hl)
theorem g_if_gt (k : OKX E K cc own nL rm) {x : Int32} {off : Int} {tgt : Nat} (hd : decode cc pc = .ok (.ifCond .gt off, 3)) (ht : (pc : Int) + off = (tgt : Int)) (h1 : 0 < x → G E K nL ce sl lv st ws tgt) (h2 : ¬ 0 < x → G E K nL ce sl lv st ws (pc + 3)) : G E K nL ce sl lv (.int x :: st) ws pc := by
  obtain ⟨p, l, e, R, s, m, args, below, meth, c, A, Q⟩ := K
  exact fun H locs ls hP hD hS hl => lv_if_gt k.1 k.2.1 hd ht (fun q => h1 q H locs ls hP hD hS hl) (fun q => h2 q H locs ls hP hD hS hl)
theorem g_if_le (k : OKX E K cc own nL rm) {x : Int32} {off : Int} {tgt : Nat} (hd : decode cc pc = .ok (.ifCond .le off, 3)) (ht : (pc : Int) + off = (tgt : Int)) (h1 : x ≤ 0 → G E K nL ce sl lv st ws tgt) (h2 : ¬ x ≤ 0 → G E K nL ce sl lv st ws (pc + 3)) : G E K nL ce sl lv (.int x :: st) ws pc := by
  obtain ⟨p, l, e, R, s, m, args, below, meth, c, A, Q⟩ := K
  exact fun H locs ls hP hD hS hl => lv_if_le k.1 k.2.1 hd ht (fun q => h1 q H locs ls hP hD hS hl) (fun q => h2 q H locs ls hP hD hS hl)
theorem g_if_ne (k : OKX E K cc own nL rm) {x : Int32} {off : Int} {tgt : Nat} (hd : decode cc pc = .ok (.ifCond .ne off, 3)) (ht : (pc : Int) + off = (tgt : Int)) (h1 : ¬ x = 0 → G E K nL ce sl lv st ws tgt) (h2 : x = 0 → G E K nL ce sl lv st ws (pc + 3)) : G E K nL ce sl lv (.int x :: st) ws pc := by
  obtain ⟨p, l, e, R, s, m, args, below, meth, c, A, Q⟩ := K
  exact fun H locs ls hP hD hS hl => lv_if_ne k.1 k.2.1 hd ht (fun q => h1 q H locs ls hP hD hS hl) (fun q => h2 q H locs ls hP hD hS hl)
theorem g_icmp_eq (k : OKX E K cc own nL rm) {x y : Int32} {off : Int} {tgt : Nat} (hd : decode cc pc = .ok (.if_icmp .eq off, 3)) (ht : (pc : Int) + off = (tgt : Int)) (h1 : x = y → G E K nL ce sl lv st ws tgt) (h2 : ¬ x = y → G E K nL ce sl lv st ws (pc + 3)) : G E K nL ce sl lv (.int y :: .int x :: st) ws pc := by
  obtain ⟨p, l, e, R, s, m, args, below, meth, c, A, Q⟩ := K
  exact fun H locs ls hP hD hS hl => lv_icmp_eq k.1 k.2.1 hd ht (fun q => h1 q H locs ls hP hD hS hl) (fun q => h2 q H locs ls hP hD hS hl)
theorem g_icmp_lt (k : OKX E K cc own nL rm) {x y : Int32} {off : Int} {tgt : Nat} (hd : decode cc pc = .ok (.if_icmp .lt off, 3)) (ht : (pc : Int) + off = (tgt : Int)) (h1 : x < y → G E K nL ce sl lv st ws tgt) (h2 : ¬ x < y → G E K nL ce sl lv st ws (pc + 3)) : G E K nL ce sl lv (.int y :: .int x :: st) ws pc := by
  obtain ⟨p, l, e, R, s, m, args, below, meth, c, A, Q⟩ := K
  exact fun H locs ls hP hD hS hl => lv_icmp_lt k.1 k.2.1 hd ht (fun q => h1 q H locs ls hP hD hS hl) (fun q => h2 q H locs ls hP hD hS hl)
theorem g_icmp_ge (k : OKX E K cc own nL rm) {x y : Int32} {off : Int} {tgt : Nat} (hd : decode cc pc = .ok (.if_icmp .ge off, 3)) (ht : (pc : Int) + off = (tgt : Int)) (h1 : y ≤ x → G E K nL ce sl lv st ws tgt) (h2 : ¬ y ≤ x → G E K nL ce sl lv st ws (pc + 3)) : G E K nL ce sl lv (.int y :: .int x :: st) ws pc := by
  obtain ⟨p, l, e, R, s, m, args, below, meth, c, A, Q⟩ := K
  exact fun H locs ls hP hD hS hl => lv_icmp_ge k.1 k.2.1 hd ht (fun q => h1 q H locs ls hP hD hS hl) (fun q => h2 q H locs ls hP hD hS hl)
theorem g_icmp_gt (k : OKX E K cc own nL rm) {x y : Int32} {off : Int} {tgt : Nat} (hd : decode cc pc = .ok (.if_icmp .gt off, 3)) (ht : (pc : Int) + off = (tgt : Int)) (h1 : y < x → G E K nL ce sl lv st ws tgt) (h2 : ¬ y < x → G E K nL ce sl lv st ws (pc + 3)) : G E K nL ce sl lv (.int y :: .int x :: st) ws pc := by
  obtain ⟨p, l, e, R, s, m, args, below, meth, c, A, Q⟩ := K
  exact fun H locs ls hP hD hS hl => lv_icmp_gt k.1 k.2.1 hd ht (fun q => h1 q H locs ls hP hD hS hl) (fun q => h2 q H locs ls hP hD hS hl)
theorem g_icmp_le (k : OKX E K cc own nL rm) {x y : Int32} {off : Int} {tgt : Nat} (hd : decode cc pc = .ok (.if_icmp .le off, 3)) (ht : (pc : Int) + off = (tgt : Int)) (h1 : x ≤ y → G E K nL ce sl lv st ws tgt) (h2 : ¬ x ≤ y → G E K nL ce sl lv st ws (pc + 3)) : G E K nL ce sl lv (.int y :: .int x :: st) ws pc := by
  obtain ⟨p, l, e, R, s, m, args, below, meth, c, A, Q⟩ := K
  exact fun H locs ls hP hD hS hl => lv_icmp_le k.1 k.2.1 hd ht (fun q => h1 q H locs ls hP hD hS hl) (fun q => h2 q H locs ls hP hD hS hl)
theorem g_icmp_ne (k : OKX E K cc own nL rm) {x y : Int32} {off : Int} {tgt : Nat} (hd : decode cc pc = .ok (.if_icmp .ne off, 3)) (ht : (pc : Int) + off = (tgt : Int)) (h1 : ¬ x = y → G E K nL ce sl lv st ws tgt) (h2 : x = y → G E K nL ce sl lv st ws (pc + 3)) : G E K nL ce sl lv (.int y :: .int x :: st) ws pc := by
  obtain ⟨p, l, e, R, s, m, args, below, meth, c, A, Q⟩ := K
  exact fun H locs ls hP hD hS hl => lv_icmp_ne k.1 k.2.1 hd ht (fun q => h1 q H locs ls hP hD hS hl) (fun q => h2 q H locs ls hP hD hS hl)
theorem g_tabOut (k : OKX E K cc own nL rm) {dflt lo hi : Int} {offs : Array Int} {len : Nat} {x : Int32} {tgt : Nat} (hd : decode cc pc = .ok (.tableswitch dflt lo hi offs, len)) (hx : x.toInt < lo ∨ hi < x.toInt) (ht : (pc : Int) + dflt = (tgt : Int)) (h : G E K nL ce sl lv st ws tgt) : G E K nL ce sl lv (.int x :: st) ws pc := by
  obtain ⟨p, l, e, R, s, m, args, below, meth, c, A, Q⟩ := K
  exact fun H locs ls hP hD hS hl => lv_tableOut k.1 k.2.1 hd hx ht (h H locs ls hP hD hS hl)
theorem g_tabIn (k : OKX E K cc own nL rm) {dflt lo hi : Int} {offs : Array Int} {len : Nat} {x : Int32} {off : Int} {tgt : Nat} (hd : decode cc pc = .ok (.tableswitch dflt lo hi offs, len)) (h1 : ¬ x.toInt < lo) (h2 : ¬ hi < x.toInt) (ho : offs[(x.toInt - lo).toNat]? = some off) (ht : (pc : Int) + off = (tgt : Int)) (h : G E K nL ce sl lv st ws tgt) : G E K nL ce sl lv (.int x :: st) ws pc := by
  obtain ⟨p, l, e, R, s, m, args, below, meth, c, A, Q⟩ := K
  exact fun H locs ls hP hD hS hl => lv_tableIn k.1 k.2.1 hd h1 h2 ho ht (h H locs ls hP hD hS hl)
theorem g_lv {lv' : List (Nat × Value)} (ks : List Nat) (hl' : lv_pick lv ks = lv') (h : G E K nL ce sl lv' st ws pc) : G E K nL ce sl lv st ws pc := by
  obtain ⟨p, l, e, R, s, m, args, below, meth, c, A, Q⟩ := K
  exact fun H locs ls hP hD hS hl => h H locs ls hP hD hS (lv_sub hl ks hl')
theorem g_ws {ws' : va_W} (e : ws = ws') (h : G E K nL ce sl lv st ws' pc) : G E K nL ce sl lv st ws pc := e ▸ h
theorem g_st {st' : List Value} (e : st = st') (h : G E K nL ce sl lv st' ws pc) : G E K nL ce sl lv st ws pc := e ▸ h
def CF (ci : Nat) (C : String) (T : u_T) (N : Nat) (ty : Nat → FieldType) : Prop := vwCl[ci]? = some (C, T, N) ∧ (∀ w ∈ u_ws C T N, w ∈ tb) ∧ (∀ k, k < N → parseFieldDescriptor (T k).2.2.1 = some (ty k)) ∧ (∀ a, a < N → ∀ b, b < N → a ≠ b → (T a).2.1 ≠ (T b).2.1)
theorem g_get (k : OKX E K cc own nL rm) {a ci N index : Nat} {C : String} {T : u_T} {ty : Nat → FieldType} (F : CF ci C T N ty) (f q : Nat) {fs : List Value} {v : Value} (hd : decode cc pc = .ok (.getfield index, 3)) (hlink : Cond.fieldLink own index (T f).1 (T f).2.1 (T f).2.2.1 ∈ tb) (hf : f < N) (he : ws[q]? = some (a, oB ci fs)) (hv : fs[f]? = some v) (h : G E K nL ce sl lv (v :: st) ws (pc + 3)) : G E K nL ce sl lv (.ref a :: st) ws pc := by
  obtain ⟨p, l, e, R, s, m, args, below, meth, c, A, Q⟩ := K
  exact fun H locs ls hP hD hS hl => va_get k.1 k.2.1 k.2.2.2.2.1 F.2.1 k.2.2.2.1 k.2.2.2.2.2.1 hP q he F.1 f hf (k.2.2.2.2.1 _ hlink) (fun _ z => z) hv hd (h H locs ls hP hD hS hl)
theorem g_put (k : OKX E K cc own nL rm) {a ci N index : Nat} {C : String} {T : u_T} {ty : Nat → FieldType} (F : CF ci C T N ty) (f q : Nat) {fs : List Value} {v : Value} {ws' : va_W} (hd : decode cc pc = .ok (.putfield index, 3)) (hlink : Cond.fieldLink own index (T f).1 (T f).2.1 (T f).2.2.1 ∈ tb) (hf : f < N) (hfin : (T f).2.2.2 = false) (he : ws[q]? = some (a, oB ci fs)) (hn : narrow (ty f) v = v) (hfit : fits (ty f) v = true) (hlen : f < fs.length) (hw : ws.set q (a, oB ci (fs.set f v)) = ws') (h : G E K nL ce sl lv st ws' (pc + 3)) : G E K nL ce sl lv (v :: .ref a :: st) ws pc := by
  obtain ⟨p, l, e, R, s, m, args, below, meth, c, A, Q⟩ := K
  subst hw
  exact fun H locs ls hP hD hS hl => va_put k.1 k.2.1 k.2.2.2.2.1 F.2.1 ty F.2.2.1 F.2.2.2 k.2.2.2.1 k.2.2.2.2.2.1 hP hD hS q he F.1 f hf (k.2.2.2.2.1 _ hlink) (fun _ z => z) hfin (F.2.2.1 f hf) hn hfit hlen hd (fun H1 locs1 hP1 hD1 hS1 => h H1 locs1 ls hP1 hD1 hS1 hl)
theorem g_putF (k : OKX E K cc own nL rm) (hin : K.2.2.2.2.2.2.2.2.1.name = "<init>") {a ci N index : Nat} {C : String} {T : u_T} {ty : Nat → FieldType} (F : CF ci C T N ty) (f q : Nat) {fs : List Value} {v : Value} {ws' : va_W} (hd : decode cc pc = .ok (.putfield index, 3)) (hlink : Cond.fieldLink own index (T f).1 (T f).2.1 (T f).2.2.1 ∈ tb) (hf : f < N) (hfin : (T f).2.2.2 = true) (hdecl : (T f).1 = own) (he : ws[q]? = some (a, oB ci fs)) (hn : narrow (ty f) v = v) (hfit : fits (ty f) v = true) (hlen : f < fs.length) (hw : ws.set q (a, oB ci (fs.set f v)) = ws') (h : G E K nL ce sl lv st ws' (pc + 3)) : G E K nL ce sl lv (v :: .ref a :: st) ws pc := by
  obtain ⟨p, l, e, R, s, m, args, below, meth, c, A, Q⟩ := K
  subst hw
  exact fun H locs ls hP hD hS hl => va_putF k.1 k.2.1 k.2.2.2.2.1 F.2.1 ty F.2.2.1 F.2.2.2 k.2.2.2.1 k.2.2.2.2.2.1 hP hD hS q he F.1 f hf (k.2.2.2.2.1 _ hlink) (fun _ z => z) hfin hin hdecl (F.2.2.1 f hf) hn hfit hlen hd (fun H1 locs1 hP1 hD1 hS1 => h H1 locs1 ls hP1 hD1 hS1 hl)
theorem g_iaload (k : OKX E K cc own nL rm) {a n κ : Nat} {f : Nat → Int32} {i : Int32} (q : Nat) (hd : decode cc pc = .ok (.iaload, 1)) (he : ws[q]? = some (a, aI E n f)) (hin : vp_in i n) (hk : i.toNatClampNeg = κ) (h : G E K nL ce sl lv (.int (f κ) :: st) ws (pc + 1)) : G E K nL ce sl lv (.int i :: .ref a :: st) ws pc := by
  obtain ⟨p, l, e, R, s, m, args, below, meth, c, A, Q⟩ := K
  subst hk
  exact fun H locs ls hP hD hS hl => va_iald k.1 k.2.1 k.2.2.2.2.2.1 hP q 0 he rfl hin hd (h H locs ls hP hD hS hl)
theorem g_laload (k : OKX E K cc own nL rm) {a n κ : Nat} {f : Nat → Int64} {i : Int32} (q : Nat) (hd : decode cc pc = .ok (.laload, 1)) (he : ws[q]? = some (a, aJ E n f)) (hin : vp_in i n) (hk : i.toNatClampNeg = κ) (h : G E K nL ce sl lv (.long (f κ) :: st) ws (pc + 1)) : G E K nL ce sl lv (.int i :: .ref a :: st) ws pc := by
  obtain ⟨p, l, e, R, s, m, args, below, meth, c, A, Q⟩ := K
  subst hk
  exact fun H locs ls hP hD hS hl => va_lald k.1 k.2.1 k.2.2.2.2.2.1 hP q 1 he rfl hin hd (h H locs ls hP hD hS hl)
theorem g_caload (k : OKX E K cc own nL rm) {a n κ : Nat} {f : Nat → Int32} {i : Int32} (q : Nat) (hd : decode cc pc = .ok (.caload, 1)) (he : ws[q]? = some (a, aC E n f)) (hin : vp_in i n) (hk : i.toNatClampNeg = κ) (h : G E K nL ce sl lv (.int (f κ) :: st) ws (pc + 1)) : G E K nL ce sl lv (.int i :: .ref a :: st) ws pc := by
  obtain ⟨p, l, e, R, s, m, args, below, meth, c, A, Q⟩ := K
  subst hk
  exact fun H locs ls hP hD hS hl => va_cald k.1 k.2.1 k.2.2.2.2.2.1 hP q 2 he rfl hin hd (h H locs ls hP hD hS hl)
theorem g_aaloadM (k : OKX E K cc own nL rm) {a n κ : Nat} {f : Nat → Option Nat} {i : Int32} (q : Nat) (hd : decode cc pc = .ok (.aaload, 1)) (he : ws[q]? = some (a, aM E n f)) (hin : vp_in i n) (hk : i.toNatClampNeg = κ) {x : Nat} (hv : f κ = some x) (h : G E K nL ce sl lv (.ref x :: st) ws (pc + 1)) : G E K nL ce sl lv (.int i :: .ref a :: st) ws pc := by
  obtain ⟨p, l, e, R, s, m, args, below, meth, c, A, Q⟩ := K
  subst hk
  have hv2 : va_rf (f i.toNatClampNeg) = .ref x := by rw [hv]; rfl
  rw [← hv2] at h
  exact fun H locs ls hP hD hS hl => va_aldq k.1 k.2.1 k.2.2.2.2.2.1 hP q 3 he rfl hin hd (h H locs ls hP hD hS hl)
theorem g_aaloadS (k : OKX E K cc own nL rm) {a n κ : Nat} {f : Nat → Option Nat} {i : Int32} (q : Nat) (hd : decode cc pc = .ok (.aaload, 1)) (he : ws[q]? = some (a, aS E n f)) (hin : vp_in i n) (hk : i.toNatClampNeg = κ) {x : Nat} (hv : f κ = some x) (h : G E K nL ce sl lv (.ref x :: st) ws (pc + 1)) : G E K nL ce sl lv (.int i :: .ref a :: st) ws pc := by
  obtain ⟨p, l, e, R, s, m, args, below, meth, c, A, Q⟩ := K
  subst hk
  have hv2 : va_rf (f i.toNatClampNeg) = .ref x := by rw [hv]; rfl
  rw [← hv2] at h
  exact fun H locs ls hP hD hS hl => va_aldq k.1 k.2.1 k.2.2.2.2.2.1 hP q 4 he rfl hin hd (h H locs ls hP hD hS hl)
theorem g_iastore (k : OKX E K cc own nL rm) {a n : Nat} {f : Nat → Int32} {i : Int32} {x : Int32} {ws' : va_W} {κ : Nat} (q : Nat) (hd : decode cc pc = .ok (.iastore, 1)) (he : ws[q]? = some (a, aI E n f)) (hin : vp_in i n) (hk : i.toNatClampNeg = κ) (hw : ws.set q (a, aI E n (upd f κ x)) = ws') (h : G E K nL ce sl lv st ws' (pc + 1)) : G E K nL ce sl lv (.int x :: .int i :: .ref a :: st) ws pc := by
  obtain ⟨p, l, e, R, s, m, args, below, meth, c, A, Q⟩ := K
  subst hw; subst hk
  exact fun H locs ls hP hD hS hl => va_iast k.1 k.2.1 k.2.2.2.2.2.1 hP hD hS q 0 he rfl hin hd (fun H1 locs1 hP1 hD1 hS1 => h H1 locs1 ls hP1 hD1 hS1 hl)
theorem g_lastore (k : OKX E K cc own nL rm) {a n : Nat} {f : Nat → Int64} {i : Int32} {x : Int64} {ws' : va_W} {κ : Nat} (q : Nat) (hd : decode cc pc = .ok (.lastore, 1)) (he : ws[q]? = some (a, aJ E n f)) (hin : vp_in i n) (hk : i.toNatClampNeg = κ) (hw : ws.set q (a, aJ E n (vp_updL f κ x)) = ws') (h : G E K nL ce sl lv st ws' (pc + 1)) : G E K nL ce sl lv (.long x :: .int i :: .ref a :: st) ws pc := by
  obtain ⟨p, l, e, R, s, m, args, below, meth, c, A, Q⟩ := K
  subst hw; subst hk
  exact fun H locs ls hP hD hS hl => va_last k.1 k.2.1 k.2.2.2.2.2.1 hP hD hS q 1 he rfl hin hd (fun H1 locs1 hP1 hD1 hS1 => h H1 locs1 ls hP1 hD1 hS1 hl)
theorem g_castore (k : OKX E K cc own nL rm) {a n : Nat} {f : Nat → Int32} {i : Int32} {x : Int32} {ws' : va_W} {κ : Nat} (q : Nat) (hd : decode cc pc = .ok (.castore, 1)) (he : ws[q]? = some (a, aC E n f)) (hin : vp_in i n) (hk : i.toNatClampNeg = κ) (hw : ws.set q (a, aC E n (upd f κ (vp_nar .char x))) = ws') (h : G E K nL ce sl lv st ws' (pc + 1)) : G E K nL ce sl lv (.int x :: .int i :: .ref a :: st) ws pc := by
  obtain ⟨p, l, e, R, s, m, args, below, meth, c, A, Q⟩ := K
  subst hw; subst hk
  exact fun H locs ls hP hD hS hl => va_cast k.1 k.2.1 k.2.2.2.2.2.1 hP hD hS q 2 he rfl hin hd (fun H1 locs1 hP1 hD1 hS1 => h H1 locs1 ls hP1 hD1 hS1 hl)
theorem g_alenI (k : OKX E K cc own nL rm) {a n : Nat} {f : Nat → Int32} {v : Int32} (q : Nat) (hd : decode cc pc = .ok (.arraylength, 1)) (he : ws[q]? = some (a, aI E n f)) (hv : Int32.ofNat n = v) (h : G E K nL ce sl lv (.int v :: st) ws (pc + 1)) : G E K nL ce sl lv (.ref a :: st) ws pc := by
  obtain ⟨p, l, e, R, s, m, args, below, meth, c, A, Q⟩ := K
  exact fun H locs ls hP hD hS hl => va_alen k.1 k.2.1 k.2.2.2.2.2.1 hP q 0 he rfl hv hd (h H locs ls hP hD hS hl)
theorem tb_acn : Cond.native arraycopyName ∈ tb := by decide +kernel
theorem tb_acs : Cond.static arraycopyName ∈ tb := by decide +kernel
theorem tb_aci : Cond.initialized "java/lang/System" ∈ tb := by decide +kernel
theorem g_copyI (k : OKX E K cc own nL rm) {a a0 n n0 index : Nat} {f g : Nat → Int32} {sp dp nn : Int32} {ws' : va_W} {κ1 κ2 κ3 : Nat} (q0 q1 : Nat) (hd : decode cc pc = .ok (.invokestatic index, 3)) (hlink : Cond.methodLink own index arraycopyName ∈ tb) (he0 : ws[q0]? = some (a0, aI E n0 f)) (he1 : ws[q1]? = some (a, aI E n g)) (h1 : ¬ sp < 0) (h2 : ¬ dp < 0) (h3 : ¬ nn < 0) (h4 : sp.toNatClampNeg + nn.toNatClampNeg ≤ n0) (h5 : dp.toNatClampNeg + nn.toNatClampNeg ≤ n) (hfr : 1 ≤ rm.frames) (hlo : (st.map fun v => v.category).sum + 40 ≤ rm.locals) (e1 : sp.toNatClampNeg = κ1) (e2 : dp.toNatClampNeg = κ2) (e3 : nn.toNatClampNeg = κ3) (hw : ws.set q1 (a, aI E n (va_cpy f g κ1 κ2 κ3)) = ws') (h : G E K nL ce sl lv st ws' (pc + 3)) : G E K nL ce sl lv (.int nn :: .int dp :: .ref a :: .int sp :: .ref a0 :: st) ws pc := by
  obtain ⟨p, l, e, R, s, m, args, below, meth, c, A, Q⟩ := K
  subst hw; subst e1; subst e2; subst e3
  exact fun H locs ls hP hD hS hl => va_copyi k.1 k.2.1 (k.2.2.1.trans hl.1.symm) k.2.2.2.1 (k.2.2.2.2.1 _ hlink) (k.2.2.2.2.1 _ tb_acn) (k.2.2.2.2.1 _ tb_acs) (k.2.2.2.2.1 _ tb_aci) k.2.2.2.2.2.1 hP hD hS q0 q1 0 0 he0 he1 rfl rfl rfl h1 h2 h3 h4 h5 (fun _ _ => rfl) (k.2.2.2.2.2.2.2.2.2 ▸ hfr) (k.2.2.2.2.2.2.2.2.2 ▸ (Nat.le_trans (Nat.add_le_add_left (by decide +kernel) _) hlo)) hd (fun H1 locs1 hP1 hD1 hS1 => h H1 locs1 ls hP1 hD1 hS1 hl)
theorem g_copyJ (k : OKX E K cc own nL rm) {a a0 n n0 index : Nat} {f g : Nat → Int64} {sp dp nn : Int32} {ws' : va_W} {κ1 κ2 κ3 : Nat} (q0 q1 : Nat) (hd : decode cc pc = .ok (.invokestatic index, 3)) (hlink : Cond.methodLink own index arraycopyName ∈ tb) (he0 : ws[q0]? = some (a0, aJ E n0 f)) (he1 : ws[q1]? = some (a, aJ E n g)) (h1 : ¬ sp < 0) (h2 : ¬ dp < 0) (h3 : ¬ nn < 0) (h4 : sp.toNatClampNeg + nn.toNatClampNeg ≤ n0) (h5 : dp.toNatClampNeg + nn.toNatClampNeg ≤ n) (hfr : 1 ≤ rm.frames) (hlo : (st.map fun v => v.category).sum + 40 ≤ rm.locals) (e1 : sp.toNatClampNeg = κ1) (e2 : dp.toNatClampNeg = κ2) (e3 : nn.toNatClampNeg = κ3) (hw : ws.set q1 (a, aJ E n (va_cpy f g κ1 κ2 κ3)) = ws') (h : G E K nL ce sl lv st ws' (pc + 3)) : G E K nL ce sl lv (.int nn :: .int dp :: .ref a :: .int sp :: .ref a0 :: st) ws pc := by
  obtain ⟨p, l, e, R, s, m, args, below, meth, c, A, Q⟩ := K
  subst hw; subst e1; subst e2; subst e3
  exact fun H locs ls hP hD hS hl => va_copyl k.1 k.2.1 (k.2.2.1.trans hl.1.symm) k.2.2.2.1 (k.2.2.2.2.1 _ hlink) (k.2.2.2.2.1 _ tb_acn) (k.2.2.2.2.1 _ tb_acs) (k.2.2.2.2.1 _ tb_aci) k.2.2.2.2.2.1 hP hD hS q0 q1 1 1 he0 he1 rfl rfl rfl h1 h2 h3 h4 h5 (fun _ _ => rfl) (k.2.2.2.2.2.2.2.2.2 ▸ hfr) (k.2.2.2.2.2.2.2.2.2 ▸ (Nat.le_trans (Nat.add_le_add_left (by decide +kernel) _) hlo)) hd (fun H1 locs1 hP1 hD1 hS1 => h H1 locs1 ls hP1 hD1 hS1 hl)
theorem tb_mmax1 : Cond.static Lib.Math.max.name ∈ tb := by decide +kernel
theorem tb_mmax2 : Cond.code Lib.Math.max.name Lib.Math.max.code 2 (some .int) ∈ tb := by decide +kernel
theorem tb_mini : Cond.initialized "java/lang/Math" ∈ tb := by decide +kernel
theorem g_mmax (k : OKX E K cc own nL rm) {index : Nat} {x y : Int32} (hd : decode cc pc = .ok (.invokestatic index, 3)) (hlink : Cond.methodLink own index Lib.Math.max.name ∈ tb) (hfr : 1 ≤ rm.frames) (hlo : (st.map fun v => v.category).sum + 13 ≤ rm.locals) (hce : ce ≤ rm.cells ∧ sl ≤ rm.slots) (h : G E K nL ce sl lv (.int (imax x y) :: st) ws (pc + 3)) : G E K nL ce sl lv (.int y :: .int x :: st) ws pc := by
  obtain ⟨p, l, e, R, s, m, args, below, meth, c, A, Q⟩ := K
  exact fun H locs ls hP hD hS hl => va_mmax k.1 k.2.1 (k.2.2.1.trans hl.1.symm) k.2.2.2.1 (k.2.2.2.2.1 _ hlink) (k.2.2.2.2.1 _ tb_mmax1) (k.2.2.2.2.1 _ tb_mini) (k.2.2.2.2.1 _ tb_mmax2) (k.2.2.2.2.2.2.2.2.2 ▸ hfr) (k.2.2.2.2.2.2.2.2.2 ▸ hlo) (k.2.2.2.2.2.2.2.2.2 ▸ hce.1) (k.2.2.2.2.2.2.2.2.2 ▸ hce.2) hd (h H locs ls hP hD hS hl)
theorem tb_mmin1 : Cond.static Lib.Math.min.name ∈ tb := by decide +kernel
theorem tb_mmin2 : Cond.code Lib.Math.min.name Lib.Math.min.code 2 (some .int) ∈ tb := by decide +kernel
theorem g_mmin (k : OKX E K cc own nL rm) {index : Nat} {x y : Int32} (hd : decode cc pc = .ok (.invokestatic index, 3)) (hlink : Cond.methodLink own index Lib.Math.min.name ∈ tb) (hfr : 1 ≤ rm.frames) (hlo : (st.map fun v => v.category).sum + 13 ≤ rm.locals) (hce : ce ≤ rm.cells ∧ sl ≤ rm.slots) (h : G E K nL ce sl lv (.int (imin x y) :: st) ws (pc + 3)) : G E K nL ce sl lv (.int y :: .int x :: st) ws pc := by
  obtain ⟨p, l, e, R, s, m, args, below, meth, c, A, Q⟩ := K
  exact fun H locs ls hP hD hS hl => va_mmin k.1 k.2.1 (k.2.2.1.trans hl.1.symm) k.2.2.2.1 (k.2.2.2.2.1 _ hlink) (k.2.2.2.2.1 _ tb_mmin1) (k.2.2.2.2.1 _ tb_mini) (k.2.2.2.2.1 _ tb_mmin2) (k.2.2.2.2.2.2.2.2.2 ▸ hfr) (k.2.2.2.2.2.2.2.2.2 ▸ hlo) (k.2.2.2.2.2.2.2.2.2 ▸ hce.1) (k.2.2.2.2.2.2.2.2.2 ▸ hce.2) hd (h H locs ls hP hD hS hl)
theorem g_iret (k : OKX E K cc own nL rm) {post : Option Value → va_W → Prop} {v : Int32} (r : RTX E K ce sl (some .int) post) (hd : decode cc pc = .ok (.ireturn, 1)) (hp : post (some (.int v)) ws) : G E K nL ce sl lv [.int v] ws pc := by
  obtain ⟨p, l, e, R, s, m, args, below, meth, c, A, Q⟩ := K
  obtain ⟨r1, r2⟩ := r
  subst r2
  exact fun H locs ls hP hD hS hl => W.iret k.1 k.2.1 r1 (fun t ht hW => ⟨⟨_, ws, rfl, hp, by rw [ht]; exact hP, hD⟩, hS.F ht⟩) hS.2.2 hd k.2.2.2.2.2.2.2.2.1
theorem g_zret (k : OKX E K cc own nL rm) {post : Option Value → va_W → Prop} {v : Int32} (hv : narrow .boolean (.int v) = .int v) (r : RTX E K ce sl (some .boolean) post) (hd : decode cc pc = .ok (.ireturn, 1)) (hp : post (some (.int v)) ws) : G E K nL ce sl lv [.int v] ws pc := by
  obtain ⟨p, l, e, R, s, m, args, below, meth, c, A, Q⟩ := K
  obtain ⟨r1, r2⟩ := r
  subst r2
  exact fun H locs ls hP hD hS hl => W.zret k.1 k.2.1 r1 hv (fun t ht hW => ⟨⟨_, ws, rfl, hp, by rw [ht]; exact hP, hD⟩, hS.F ht⟩) hS.2.2 hd k.2.2.2.2.2.2.2.2.1
theorem g_lret (k : OKX E K cc own nL rm) {post : Option Value → va_W → Prop} {v : Int64} (r : RTX E K ce sl (some .long) post) (hd : decode cc pc = .ok (.lreturn, 1)) (hp : post (some (.long v)) ws) : G E K nL ce sl lv [.long v] ws pc := by
  obtain ⟨p, l, e, R, s, m, args, below, meth, c, A, Q⟩ := K
  obtain ⟨r1, r2⟩ := r
  subst r2
  exact fun H locs ls hP hD hS hl => W.lret k.1 k.2.1 r1 (fun t ht hW => ⟨⟨_, ws, rfl, hp, by rw [ht]; exact hP, hD⟩, hS.F ht⟩) hS.2.2 hd k.2.2.2.2.2.2.2.2.1
theorem g_aret (k : OKX E K cc own nL rm) {post : Option Value → va_W → Prop} {v : Nat} {C : String} (r : RTX E K ce sl (some (.object C)) post) (hd : decode cc pc = .ok (.areturn, 1)) (hp : post (some (.ref v)) ws) : G E K nL ce sl lv [.ref v] ws pc := by
  obtain ⟨p, l, e, R, s, m, args, below, meth, c, A, Q⟩ := K
  obtain ⟨r1, r2⟩ := r
  subst r2
  exact fun H locs ls hP hD hS hl => W.aret k.1 k.2.1 r1 (Or.inl ⟨_, rfl⟩) (Or.inr ⟨_, rfl⟩) (fun t ht hW => ⟨⟨_, ws, rfl, hp, by rw [ht]; exact hP, hD⟩, hS.F ht⟩) hS.2.2 hd k.2.2.2.2.2.2.2.2.1
theorem g_vret (k : OKX E K cc own nL rm) {post : Option Value → va_W → Prop}  (r : RTX E K ce sl none post) (hd : decode cc pc = .ok (.return_, 1)) (hp : post none ws) : G E K nL ce sl lv [] ws pc := by
  obtain ⟨p, l, e, R, s, m, args, below, meth, c, A, Q⟩ := K
  obtain ⟨r1, r2⟩ := r
  subst r2
  exact fun H locs ls hP hD hS hl => W.vret k.1 k.2.1 r1 (fun t ht hW => ⟨⟨_, ws, rfl, hp, by rw [ht]; exact hP, hD⟩, hS.F ht⟩) hS.2.2 hd k.2.2.2.2.2.2.2.2.1
/-- cells put back in their places -/
def lk2 : List Nat → va_W → Nat → Option (Nat × va_E)
  | i :: is, x :: xs, j => cond (Nat.beq i j) (some x) (lk2 is xs j)
  | _, _, _ => none
def mrg : va_W → Nat → List Nat → va_W → va_W
  | [], _, _, _ => []
  | w :: ws, k, is, xs => (lk2 is xs k).getD w :: mrg ws (k + 1) is xs
def setM (ws : va_W) (is : List Nat) (xs : va_W) : va_W := mrg ws 0 is xs
theorem lk2_some : ∀ (is : List Nat) (xs : va_W) (k : Nat) (q : Nat × va_E), lk2 is xs k = some q → ∃ j : Nat, is[j]? = some k ∧ xs[j]? = some q
  | [], _, _, _, h => by cases h
  | _ :: _, [], _, _, h => by cases h
  | i :: is, x :: xs, k, q, h => by
    unfold lk2 at h
    cases hb : Nat.beq i k with
    | true =>
      rw [hb] at h
      have := Nat.eq_of_beq_eq_true hb
      exact ⟨0, by simp [this], by simpa using h⟩
    | false =>
      rw [hb] at h
      obtain ⟨j, h1, h2⟩ := lk2_some is xs k q h
      exact ⟨j + 1, by simpa using h1, by simpa using h2⟩
theorem lk2_none : ∀ (is : List Nat) (xs : va_W) (k : Nat), is.length = xs.length → lk2 is xs k = none → k ∉ is
  | [], _, _, _, _ => by simp
  | _ :: _, [], _, hl, _ => by simp at hl
  | i :: is, x :: xs, k, hl, h => by
    unfold lk2 at h
    cases hb : Nat.beq i k with
    | true => rw [hb] at h; cases h
    | false =>
      rw [hb] at h
      have h1 := lk2_none is xs k (by simpa using hl) h
      have h2 : k ≠ i := fun e => by
        rw [e, show Nat.beq i i = true from Nat.beq_refl i] at hb
        cases hb
      simp [h1, h2]
theorem mrg_get (is : List Nat) (xs : va_W) : ∀ (ws : va_W) (k j : Nat), (mrg ws k is xs)[j]? = (ws[j]?).map (fun w => (lk2 is xs (k + j)).getD w)
  | [], _, _ => by simp [mrg]
  | w :: ws, k, 0 => by simp [mrg]
  | w :: ws, k, j + 1 => by
    simp only [mrg, List.getElem?_cons_succ]
    rw [mrg_get is xs ws (k + 1) j, show k + 1 + j = k + (j + 1) by omega]
theorem setM_at (is : List Nat) (xs ws : va_W) (k : Nat) (q : Nat × va_E) (hl : is.length = xs.length) (h : (setM ws is xs)[k]? = some q) : (∃ j : Nat, is[j]? = some k ∧ xs[j]? = some q) ∨ (k ∉ is ∧ ws[k]? = some q) := by
  unfold setM at h
  rw [mrg_get, Nat.zero_add] at h
  cases hw : ws[k]? with
  | none => rw [hw] at h; cases h
  | some w =>
    rw [hw] at h
    cases hk : lk2 is xs k with
    | none =>
      rw [hk] at h
      exact Or.inr ⟨lk2_none is xs k hl hk, by simpa using h⟩
    | some x =>
      rw [hk] at h
      have e : x = q := by simpa using h
      exact Or.inl (lk2_some is xs k q (by rw [hk, e]))
theorem setM_ok {A0 : Nat → Prop} {D : va_G} {cl : List vw_C} {ws wc w1 : va_W} {H H1 : Heap} (hP : va_P D cl ws H) (hD : va_D A0 ws) (isC : List Nat) (hC : isC.map (fun i => ws[i]?) = wc.map some) (ha : w1.map Prod.fst = wc.map Prod.fst)
    (hk : ∀ q : Nat, q < H.size → ¬ va_A wc H.size q → H1[q]? = H[q]?) (hP1 : va_P D cl w1 H1) : va_P D cl (setM ws isC w1) H1 ∧ va_D A0 (setM ws isC w1) := by
  have hlen : isC.length = w1.length := by
    have h1 := congrArg List.length hC
    have h2 := congrArg List.length ha
    simp at h1 h2
    omega
  have atC : ∀ (j k : Nat), isC[j]? = some k → ∀ q, w1[j]? = some q → ∃ e, ws[k]? = some (q.1, e) ∧ wc[j]? = some (q.1, e) := by
    intro j k hj q hq
    have h1 : (isC.map (fun i => ws[i]?))[j]? = some (ws[k]?) := by rw [List.getElem?_map, hj]; rfl
    rw [hC, List.getElem?_map] at h1
    have h2 : (w1.map Prod.fst)[j]? = some q.1 := by rw [List.getElem?_map, hq]; rfl
    rw [ha, List.getElem?_map] at h2
    cases hw : wc[j]? with
    | none => rw [hw] at h2; cases h2
    | some x =>
      rw [hw] at h1 h2
      obtain ⟨xa, xe⟩ := x
      have e1 : xa = q.1 := Option.some.inj h2
      subst e1
      exact ⟨xe, (Option.some.inj h1).symm, rfl⟩
  have addr : ∀ (k : Nat) (q : Nat × va_E), (setM ws isC w1)[k]? = some q → ∃ e, ws[k]? = some (q.1, e) := by
    intro k q h
    rcases setM_at isC w1 ws k q hlen h with ⟨j, h1, h2⟩ | ⟨-, h2⟩
    · obtain ⟨e, he, -⟩ := atC j k h1 q h2
      exact ⟨e, he⟩
    · exact ⟨q.2, h2⟩
  refine ⟨fun k q h => ?_, fun i j x y hx hy hxy => ?_, fun k q h => ?_⟩
  · rcases setM_at isC w1 ws k q hlen h with ⟨j, h1, h2⟩ | ⟨h1, h2⟩
    · exact hP1 j q h2
    · refine (hP k q h2).kept (hk q.1 (hP k q h2).lt (fun z => ?_))
      rcases z with ⟨k2, e, z⟩ | z
      · have hz : (isC.map (fun i => ws[i]?))[k2]? = some (some (q.1, e)) := by rw [hC, List.getElem?_map, z]; rfl
        rw [List.getElem?_map] at hz
        cases hi : isC[k2]? with
        | none => rw [hi] at hz; cases hz
        | some i =>
          rw [hi] at hz
          have hij := hD.1 k i q (q.1, e) h2 (Option.some.inj hz) rfl
          subst hij
          exact h1 (List.mem_of_getElem? hi)
      · have := (hP k q h2).lt
        omega
  · obtain ⟨e1, h1⟩ := addr i x hx
    obtain ⟨e2, h2⟩ := addr j y hy
    exact hD.1 i j _ _ h1 h2 hxy
  · obtain ⟨e1, h1⟩ := addr k q h
    exact hD.2 k (q.1, e1) h1
/-- what is the same for every call of a method -/
def MI (y : MethodName) (bytes : ByteArray) (maxL : Nat) (ret : Option FieldType) (n : Nat) : Prop := Cond.code y bytes maxL ret ∈ tb ∧ Cond.initialized y.cls ∈ tb ∧ (y.cls ≠ "java/lang/invoke/MethodHandle" ∧ y.cls ≠ "java/lang/invoke/VarHandle" ∧ (parseMethodDescriptor y.desc).map (fun d => d.parameters.length) = some n)
def MV (y : MethodName) (ci : Nat) : Prop := Cond.instanceMethod y ∈ tb ∧ Cond.selects y.cls y y ∈ tb ∧ ∃ r, vwCl[ci]? = some r ∧ r.1 = y.cls
theorem good_tb {y : MethodName} {bytes : ByteArray} {maxL : Nat} {ret : Option FieldType} (h : Cond.code y bytes maxL ret ∈ tb) : GoodIn tb (Cond.code y bytes maxL ret :: tb) := by
  intro w hw
  have hm : w ∈ tb := by
    rcases List.mem_cons.mp hw with rfl | h2
    · exact h
    · exact h2
  exact ⟨hm, good_of_word (List.mem_filter.mp hm).2⟩
/-- behind a call whose world stays in its places -/
theorem va_callp {p : Program} {l : Launch} {e : Env} {R : Room} {s : State} {m : MethodId} {args : Array Value} {below : List Frame} {meth : Method} {c : Code} {H : Heap} {locs : List Loc} {cells slots : Nat} {Q : State → Prop} {pc : Nat} {ls : Array Slot} {rest st0 : List Value} {a : Array Value} {A0 A1 : Nat → Prop} {H0 : Heap} {mc ms : Nat} {free : Addr → Prop} {E : Ev} {post : Option Value → va_W → Prop}
    (hr : va_Run p l e R s m args below meth c H locs cells slots mc ms (F0 m pc ls st0) rest (Qp E A1 post a) free) (hS : va_S A0 H0 H locs) (hA : ∀ q, q < H.size → A1 q → A0 q) (hf : ∀ q, free q → A0 q)
    (kk : ∀ (v : Option Value) (w : va_W) (H1 : Heap) (locs1 : List Loc), post v w → va_P E.1 vwCl w H1 → va_D A1 w → H.size ≤ H1.size → (∀ q : Nat, q < H.size → ¬ A1 q → H1[q]? = H[q]?) → va_S A0 H0 H1 locs1 → W p l e R s m args below meth c H1 locs1 (cells + mc) (slots + ms) Q (F0 m (pc + 3) ls (v.toList ++ rest))) : W p l e R s m args below meth c H locs cells slots Q (F0 m pc ls st0) := by
  intro T hT X
  obtain ⟨v, st₀, t, T', L, h0, X', hL, e1, e2, ⟨⟨v2, w, hv, hp, hb, hd⟩, hz, hk⟩, st⟩ := hr T hT X
  cases hv
  rw [h0] at hz hk
  obtain ⟨t2, a1, b1⟩ := kk v w T'.heap (locs ++ L) hp (by rw [e1]; exact hb) hd (by rw [e1]; exact hz) (fun q h1 h2 => by rw [e1]; exact hk q h1 h2)
    ⟨Nat.le_trans hS.1 (by rw [e1]; exact hz), fun q h1 h2 => by rw [e1, hk q (Nat.lt_of_lt_of_le h1 hS.1) (fun z => h2 (hA q (Nat.lt_of_lt_of_le h1 hS.1) z))]; exact hS.2.1 q h1 h2, fun q hq => by
      rcases List.mem_append.mp hq with h | h
      · exact hS.2.2 q h
      · exact hf _ (hL q h)⟩ T' rfl X'
  exact ⟨t2, st t2 a1, b1⟩
theorem hPcut {D : va_G} {ws wc : va_W} {H : Heap} {isC : List Nat} (hP : va_P D vwCl ws H) (hC : isC.map (fun i => ws[i]?) = wc.map some) : va_P D vwCl wc H := fun j x hx => by
  have h1 : (isC.map (fun i => ws[i]?))[j]? = some (some x) := by rw [hC, List.getElem?_map, hx]; rfl
  rw [List.getElem?_map] at h1
  cases hi : isC[j]? with
  | none => rw [hi] at h1; cases h1
  | some i => rw [hi] at h1; exact hP i x (Option.some.inj h1)
theorem g_callV (k : OKX E K cc own nL rm) {y : MethodName} {bytes : ByteArray} {maxL index b ci n : Nat} {ret : Option FieldType} {rmc : Room} {As rest fs : List Value} {wc : va_W} {post : Option Value → va_W → Prop} (hM : Ct (kL K) E y bytes maxL ret rmc (.ref b :: As) wc post) (hi : MI y bytes maxL ret n) (hv : MV y ci) (hro : roomOK rm rmc maxL = true) (hce : ce + rmc.cells ≤ rm.cells ∧ sl + rmc.slots ≤ rm.slots) (isC : List Nat)
    (hd : decode cc pc = .ok (.invokevirtual index, 3)) (hlink : Cond.methodLink own index y ∈ tb) (q : Nat) (hb : wc[q]? = some (b, oB ci fs)) (hn : As.length = n) (hst : st = As.reverse ++ .ref b :: rest) (hW : (rest.map fun v => v.category).sum ≤ 8) (hC : isC.map (fun i => ws[i]?) = wc.map some) (hnd : va_nd isC = true)
    (h : ∀ v w, post v w → ∃ ws', setM ws isC w = ws' ∧ w.map Prod.fst = wc.map Prod.fst ∧ G E K nL (ce + rmc.cells) (sl + rmc.slots) lv (v.toList ++ rest) ws' (pc + 3)) : G E K nL ce sl lv st ws pc := by
  obtain ⟨p, l, e, R, s, m, args, below, meth, c, A, Q⟩ := K
  subst hst
  intro H locs ls hP hD hS hl
  have hRe : R = rm := k.2.2.2.2.2.2.2.2.2
  subst hRe
  have hFc := va_free (wc := wc) hD hS k.2.2.2.2.2.2.1 isC hC
  have hPc : va_P E.1 vwCl wc H := hPcut hP hC
  have hDc : va_D (fun _ => True) wc := (hD.sub isC hnd hC).weaken (fun _ _ _ _ => trivial)
  have hts := k.2.2.2.2.1
  obtain ⟨hv1, hv2, r, hr, hrc⟩ := hv
  have hrecv := va_recv k.2.2.2.2.2.1 hPc hr hb
  rw [hrc] at hrecv
  refine va_callp (va_runV (As := As) (rest := rest) (C := y.cls) (n := n) (ws := Cond.code y bytes maxL ret :: tb) ⟨k.1, k.2.1, k.2.2.1, k.2.2.2.1, hts⟩ (hM H.size) ⟨callB_of (ws' := tb) n hts (good_tb hi.1) rfl rfl rfl (hts _ hi.2.1) (hts _ hlink) hi.2.2 (roomOK_spec hro), hts _ hv1, hts _ hv2⟩ ⟨Pp.blind, hrecv, fun U hU hW => ⟨rfl, by rw [hU], by rw [hU]; exact hPc, va_K.moved hW.alike k.2.2.2.2.2.1, hDc, k.2.2.2.2.2.2.2.1.warm hW hU hS hFc⟩⟩ rfl hn hl.1 rfl (lv_room hW) hd hce) hS (fun q _ z => hFc q z) hFc (fun v w H1 locs1 hp hP1 hD1 hz hk hS1 => ?_)
  obtain ⟨ws', e1, e2, hG⟩ := h v w hp
  subst e1
  obtain ⟨g1, g2⟩ := setM_ok hP hD isC hC e2 hk hP1
  exact hG H1 locs1 ls g1 g2 hS1 hl
theorem g_callS (k : OKX E K cc own nL rm) {y : MethodName} {bytes : ByteArray} {maxL index n : Nat} {ret : Option FieldType} {rmc : Room} {As rest : List Value} {wc : va_W} {post : Option Value → va_W → Prop} (hM : Ct (kL K) E y bytes maxL ret rmc As wc post) (hi : MI y bytes maxL ret n) (hv : Cond.static y ∈ tb) (hro : roomOK rm rmc maxL = true) (hce : ce + rmc.cells ≤ rm.cells ∧ sl + rmc.slots ≤ rm.slots) (isC : List Nat)
    (hd : decode cc pc = .ok (.invokestatic index, 3)) (hlink : Cond.methodLink own index y ∈ tb) (hn : As.length = n) (hst : st = As.reverse ++ rest) (hW : (rest.map fun v => v.category).sum ≤ 8) (hC : isC.map (fun i => ws[i]?) = wc.map some) (hnd : va_nd isC = true)
    (h : ∀ v w, post v w → ∃ ws', setM ws isC w = ws' ∧ w.map Prod.fst = wc.map Prod.fst ∧ G E K nL (ce + rmc.cells) (sl + rmc.slots) lv (v.toList ++ rest) ws' (pc + 3)) : G E K nL ce sl lv st ws pc := by
  obtain ⟨p, l, e, R, s, m, args, below, meth, c, A, Q⟩ := K
  subst hst
  intro H locs ls hP hD hS hl
  have hRe : R = rm := k.2.2.2.2.2.2.2.2.2
  subst hRe
  have hFc := va_free (wc := wc) hD hS k.2.2.2.2.2.2.1 isC hC
  have hPc : va_P E.1 vwCl wc H := hPcut hP hC
  have hDc : va_D (fun _ => True) wc := (hD.sub isC hnd hC).weaken (fun _ _ _ _ => trivial)
  have hts := k.2.2.2.2.1
  refine va_callp (va_runS (As := As) (rest := rest) (n := n) (ws := Cond.code y bytes maxL ret :: tb) ⟨k.1, k.2.1, k.2.2.1, k.2.2.2.1, hts⟩ (hM H.size) ⟨callB_of (ws' := tb) n hts (good_tb hi.1) rfl rfl rfl (hts _ hi.2.1) (hts _ hlink) hi.2.2 (roomOK_spec hro), hts _ hv⟩ ⟨Pp.blind, fun U hU hW => ⟨rfl, by rw [hU], by rw [hU]; exact hPc, va_K.moved hW.alike k.2.2.2.2.2.1, hDc, k.2.2.2.2.2.2.2.1.warm hW hU hS hFc⟩⟩ rfl hn hl.1 rfl (lv_room hW) hd hce) hS (fun q _ z => hFc q z) hFc (fun v w H1 locs1 hp hP1 hD1 hz hk hS1 => ?_)
  obtain ⟨ws', e1, e2, hG⟩ := h v w hp
  subst e1
  obtain ⟨g1, g2⟩ := setM_ok hP hD isC hC e2 hk hP1
  exact hG H1 locs1 ls g1 g2 hS1 hl
/-- a call with a known end, that makes nothing -/
theorem g_cv (k : OKX E K cc own nL rm) {y : MethodName} {bytes : ByteArray} {maxL index b ci n : Nat} {ret : Option FieldType} {rmc : Room} {As rest fs : List Value} {wc w1 ws' : va_W} {rv : Option Value} (hi : MI y bytes maxL ret n) (hv : MV y ci) (hM : Ct (kL K) E y bytes maxL ret rmc (.ref b :: As) wc (Pe rv w1)) (isC : List Nat) (q : Nat)
    (hd : decode cc pc = .ok (.invokevirtual index, 3)) (hlink : Cond.methodLink own index y ∈ tb) (hro : roomOK rm rmc maxL = true) (h0 : rmc.cells = 0 ∧ rmc.slots = 0) (hce : ce ≤ rm.cells ∧ sl ≤ rm.slots) (hC : isC.map (fun i => ws[i]?) = wc.map some) (hb : wc[q]? = some (b, oB ci fs)) (hn : As.length = n) (hst : st = As.reverse ++ .ref b :: rest) (hW : (rest.map fun v => v.category).sum ≤ 8) (hnd : va_nd isC = true) (ha : w1.map Prod.fst = wc.map Prod.fst) (hw : setM ws isC w1 = ws')
    (h : G E K nL ce sl lv (rv.toList ++ rest) ws' (pc + 3)) : G E K nL ce sl lv st ws pc := by
  refine g_callV k hM hi hv hro (by rw [h0.1, h0.2]; exact hce) isC hd hlink q hb hn hst hW hC hnd (fun v w e => ⟨ws', by rw [e.2]; exact hw, by rw [e.2]; exact ha, by rw [h0.1, h0.2, e.1]; exact h⟩)
theorem g_cs (k : OKX E K cc own nL rm) {y : MethodName} {bytes : ByteArray} {maxL index n : Nat} {ret : Option FieldType} {rmc : Room} {As rest : List Value} {wc w1 ws' : va_W} {rv : Option Value} (hi : MI y bytes maxL ret n) (hv : Cond.static y ∈ tb) (hM : Ct (kL K) E y bytes maxL ret rmc As wc (Pe rv w1)) (isC : List Nat)
    (hd : decode cc pc = .ok (.invokestatic index, 3)) (hlink : Cond.methodLink own index y ∈ tb) (hro : roomOK rm rmc maxL = true) (h0 : rmc.cells = 0 ∧ rmc.slots = 0) (hce : ce ≤ rm.cells ∧ sl ≤ rm.slots) (hC : isC.map (fun i => ws[i]?) = wc.map some) (hn : As.length = n) (hst : st = As.reverse ++ rest) (hW : (rest.map fun v => v.category).sum ≤ 8) (hnd : va_nd isC = true) (ha : w1.map Prod.fst = wc.map Prod.fst) (hw : setM ws isC w1 = ws')
    (h : G E K nL ce sl lv (rv.toList ++ rest) ws' (pc + 3)) : G E K nL ce sl lv st ws pc := by
  refine g_callS k hM hi hv hro (by rw [h0.1, h0.2]; exact hce) isC hd hlink hn hst hW hC hnd (fun v w e => ⟨ws', by rw [e.2]; exact hw, by rw [e.2]; exact ha, by rw [h0.1, h0.2, e.1]; exact h⟩)

end GR
