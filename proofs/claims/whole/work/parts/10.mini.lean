/-! The small machine: a view of the machine in which ints are integers, references count the cells from the law's start on, and the heap is four functions. -/
abbrev MV : Type := Int ⊕ (Int64 ⊕ (Option Nat ⊕ Nat))
abbrev mI (x : Int) : MV := Sum.inl x
abbrev mL (x : Int64) : MV := Sum.inr (Sum.inl x)
abbrev mO (o : Option Nat) : MV := Sum.inr (Sum.inr (Sum.inl o))
abbrev mR (a : Nat) : MV := Sum.inr (Sum.inr (Sum.inl (some a)))
abbrev mN : MV := Sum.inr (Sum.inr (Sum.inl none))
abbrev mS (i : Nat) : MV := Sum.inr (Sum.inr (Sum.inr i))
/-- heap: shapes (tag, size), ints, longs, references; the script -/
abbrev MH : Type := List (Nat × Nat) × (Nat → Nat → Int) × (Nat → Nat → Int64) × (Nat → Nat → Option Nat) × List Int
def mGi (h : MH) (a i : Nat) : Int := h.2.1 a i
def mGl (h : MH) (a i : Nat) : Int64 := h.2.2.1 a i
def mGr (h : MH) (a i : Nat) : Option Nat := h.2.2.2.1 a i
def mSc (h : MH) : List Int := h.2.2.2.2
def mPi (h : MH) (a i : Nat) (x : Int) : MH := (h.1, (fun b j => if b = a ∧ j = i then x else h.2.1 b j), h.2.2.1, h.2.2.2)
def mPl (h : MH) (a i : Nat) (x : Int64) : MH := (h.1, h.2.1, (fun b j => if b = a ∧ j = i then x else h.2.2.1 b j), h.2.2.2)
def mPr (h : MH) (a i : Nat) (x : Option Nat) : MH := (h.1, h.2.1, h.2.2.1, (fun b j => if b = a ∧ j = i then x else h.2.2.2.1 b j), h.2.2.2.2)
/-- a new cell: everything in it is zero or null -/
def mNew (h : MH) (t n : Nat) : MH := (h.1 ++ [(t, n)], (fun b j => if b = h.1.length then 0 else h.2.1 b j), (fun b j => if b = h.1.length then 0 else h.2.2.1 b j), (fun b j => if b = h.1.length then none else h.2.2.2.1 b j), h.2.2.2.2)
def mSlt (h : MH) : Nat := (h.1.map Prod.snd).sum
/-- a method: code, locals, name, what it returns, handlers -/
abbrev MK : Type := ByteArray × Nat × MethodName × Option FieldType × List (Nat × Nat × Nat × Nat)
abbrev kB (k : MK) : ByteArray := k.1
abbrev kL (k : MK) : Nat := k.2.1
abbrev kY (k : MK) : MethodName := k.2.2.1
abbrev kR (k : MK) : Option FieldType := k.2.2.2.1
abbrev kH (k : MK) : List (Nat × Nat × Nat × Nat) := k.2.2.2.2
/-- what is fixed of the great machine: where the new cells begin, where the old ones are, the classes' numbers and slots, the array classes' numbers -/
abbrev MG : Type := Nat × (Nat → Nat) × va_G × (Nat → ClassId)
abbrev gB (G : MG) : Nat := G.1
abbrev gO (G : MG) : Nat → Nat := G.2.1
abbrev gD (G : MG) : va_G := G.2.2.1
abbrev gA (G : MG) : Nat → ClassId := G.2.2.2
def rz (G : MG) : MV → Value
  | .inl x => .int (Int32.ofInt x)
  | .inr (.inl w) => .long w
  | .inr (.inr (.inl none)) => .null
  | .inr (.inr (.inl (some a))) => .ref (gB G + a)
  | .inr (.inr (.inr i)) => .ref (gO G i)
/-- how a method ends: it returned, or it threw the object at a -/
abbrev MO : Type := Option MV ⊕ Nat
def rzo (G : MG) : MO → Outcome
  | .inl v => .returned (v.map (rz G))
  | .inr a => .threw (gB G + a)
def mFv (h : MH) (t a i : Nat) : MV := match mFk t i with
  | 0 => mI (mGi h a i)
  | 1 => mL (mGl h a i)
  | _ => mO (mGr h a i)
def mE (G : MG) (h : MH) (a t n : Nat) : va_E :=
  if t < 100 then .inr (t, (List.range n).map fun i => rz G (mFv h t a i))
  else if t = 103 then .inl (gA G t, n, .inr (.inl fun j => mGl h a j))
  else if t < 110 then .inl (gA G t, n, .inl fun j => Int32.ofInt (mGi h a j))
  else .inl (gA G t, n, .inr (.inr (.inr (.inr fun j => (mGr h a j).map fun b => gB G + b))))
def mAty (t : Nat) : FieldType :=
  if t = 100 then .int else if t = 101 then .char else if t = 102 then .boolean else if t = 103 then .long else if t = 110 then .object mC110 else .object mC111
def mTags : List Nat := [100, 101, 102, 103, 110, 111]
def mtys (G : MG) : List (ClassId × FieldType) := mTags.map fun t => (gA G t, mAty t)
def mFr (d : Nat) : Nat := d + 12
def mLo (d : Nat) : Nat := 80 * d + 400
def mCM : Nat := 500000
def mSM : Nat := 5400000
/-- the String constants: whose entry, its text, its place -/
def mStrs : List (String × Nat × String × Nat) := [("TwoMills$FirstMill", 136, "dnl", 0), ("TwoMills$FirstMill", 145, "define", 1), ("TwoMills$FirstMill", 147, "pushdef", 2), ("TwoMills$FirstMill", 149, "popdef", 3), ("TwoMills$FirstMill", 151, "ifdef", 4), ("TwoMills$FirstMill", 153, "ifelse", 5), ("TwoMills$FirstMill", 155, "incr", 6), ("TwoMills$FirstMill", 157, "len", 7), ("TwoMills$FirstMill", 159, "shift", 8), ("TwoMills$SecondMill", 181, "if", 9), ("TwoMills$SecondMill", 187, "ifdef", 4), ("TwoMills$SecondMill", 189, "ifndef", 10), ("TwoMills$SecondMill", 198, "else", 11), ("TwoMills$SecondMill", 203, "endif", 12), ("TwoMills$Tokens", 73, "##", 13), ("TwoMills$SecondMill", 208, "define", 1), ("TwoMills$SecondMill", 220, "undef", 14), ("TwoMills$SecondMill", 268, "defined", 15)]
def mSLen : List Nat := [3, 6, 7, 6, 5, 6, 4, 3, 5, 2, 6, 4, 5, 2, 5, 7]
def mSByt : List (List Int32) := [[100, 110, 108], [100, 101, 102, 105, 110, 101], [112, 117, 115, 104, 100, 101, 102], [112, 111, 112, 100, 101, 102], [105, 102, 100, 101, 102], [105, 102, 101, 108, 115, 101], [105, 110, 99, 114], [108, 101, 110], [115, 104, 105, 102, 116], [105, 102], [105, 102, 110, 100, 101, 102], [101, 108, 115, 101], [101, 110, 100, 105, 102], [35, 35], [117, 110, 100, 101, 102], [100, 101, 102, 105, 110, 101, 100]]
/-- a static of Throwable, as the tables lay it -/
def mLS (G : MG) (s : State) (n dd : String) : Prop := ∃ (c : ClassId) (k : Class) (i : Nat) (f : Field) (a : Nat) (cell : Cell), s.vm.findClass "java/lang/Throwable" = some c ∧ s.fieldFound? "java/lang/Throwable" n dd = some (c, k, i, f) ∧ f.isStatic = true ∧ k.statics = some a ∧ s.heap[a]? = some cell ∧ cell.vm.isStatics = true ∧ cell.cls = c ∧ f.slot < cell.slots.size ∧ k.staticTypes[f.slot]? = some f.type ∧ a < gB G
theorem mLS.moved {G : MG} {s U : State} {n dd : String} (hq : ∀ q : Nat, q < gB G → U.heap[q]? = s.heap[q]?) (hvm : s.vm.Alike U.vm) (h : mLS G s n dd) : mLS G U n dd := by
  obtain ⟨c, k, i, f, a, cell, hc, hi, hst, ha, hcell, hs, hcls, hlt, hty, hl⟩ := h
  obtain ⟨k', hi', hek⟩ := State.fieldFound?_setVm hvm hi
  exact ⟨c, k', i, f, a, cell, by rw [hvm.findClass]; exact hc, hi', hst, by rw [hek]; exact ha, by rw [hq a hl]; exact hcell, hs, hcls, hlt, by rw [hek]; exact hty, hl⟩
/-- what is old and stays: two of Throwable's statics, the String constants -/
def mOld (G : MG) (s : State) : Prop := gB G ≤ s.heap.size ∧ (∃ v, va_Z "java/lang/Throwable" "UNASSIGNED_STACK" "[Ljava/lang/StackTraceElement;" v (fun q => gB G ≤ q) s s.heap ∧ v.isRef = true) ∧ (∃ v, va_Z "java/lang/Throwable" "SUPPRESSED_SENTINEL" "Ljava/util/List;" v (fun q => gB G ≤ q) s s.heap ∧ v.isRef = true)
  ∧ va_Z "java/lang/String" "COMPACT_STRINGS" "Z" (.int 1) (fun q => gB G ≤ q) s s.heap ∧ vk_S 16 mSLen mSByt (gO G) (fun i => gO G (100 + i)) (fun q => gB G ≤ q) s s.heap ∧ (∀ q ∈ mStrs, vk_R q.1 q.2.1 q.2.2.1 (gO G q.2.2.2) s)
  ∧ (∀ c1 c2 : ClassId, s.vm.findClass "java/lang/IllegalStateException" = some c1 → s.vm.findClass "java/lang/IllegalArgumentException" = some c2 → s.vm.assignable c1 c2 = false)
  ∧ mLS G s "UNASSIGNED_STACK" "[Ljava/lang/StackTraceElement;" ∧ mLS G s "SUPPRESSED_SENTINEL" "Ljava/util/List;"
  ∧ (∃ v, va_Z "jdk/internal/util/Preconditions" "SIOOBE_FORMATTER" "Ljava/util/function/BiFunction;" v (fun q => gB G ≤ q) s s.heap ∧ (v = .null ∨ v = .ref (gO G 201)))
theorem mOld.le {G : MG} {s : State} (h : mOld G s) : gB G ≤ s.heap.size := h.1
theorem mOld.moved {G : MG} {s U : State} (hs : s.heap.size ≤ U.heap.size) (hq : ∀ q : Nat, q < gB G → U.heap[q]? = s.heap[q]?) (hW : s.WarmedH U.vm) (h : mOld G s) : mOld G U := by
  have hk : ∀ a : Nat, a < s.heap.size → ¬ gB G ≤ a → U.heap[a]? = s.heap[a]? := fun a _ h2 => hq a (by omega)
  obtain ⟨h1, ⟨v1, z1, r1⟩, ⟨v2, z2, r2⟩, z3, z4, z5, z6, z7, z8, ⟨v9, z9, r9⟩⟩ := h
  exact ⟨Nat.le_trans h1 hs, ⟨v1, (z1.moved hW.alike).kept hk, r1⟩, ⟨v2, (z2.moved hW.alike).kept hk, r2⟩, (z3.moved hW.alike).kept hk, (z4.moved hW.alike).kept hk, fun q hm => (z5 q hm).warm hW, fun c1 c2 e1 e2 => by rw [hW.alike.assignable]; rw [hW.alike.findClass] at e1 e2; exact z6 c1 c2 e1 e2, z7.moved hq hW.alike, z8.moved hq hW.alike, ⟨v9, (z9.moved hW.alike).kept hk, r9⟩⟩
/-- the script lies at gO G 200 -/
def mScr (G : MG) (s : State) (h : MH) : Prop := va_X (gO G 200) (mSc h).length (fun j => Int32.ofInt ((mSc h).getD j 0)) s s.heap ∧ gO G 200 < gB G
/-- the heap is as the small one says -/
def mP (G : MG) (s : State) (H : Heap) (locs : List Loc) (h : MH) : Prop :=
  (H.size = gB G + h.1.length ∧ h.1.length ≤ mCM ∧ mSlt h ≤ mSM ∧ mScr G s h) ∧ (∀ (a t n : Nat), h.1[a]? = some (t, n) → va_at (gD G) mcl (gB G + a, mE G h a t n) H) ∧ va_S (fun q => gB G ≤ q) s.heap H locs
def isN : MV → Bool
  | .inr (.inr (.inl none)) => true
  | _ => false
def isL : MV → Bool
  | .inr (.inl _) => true
  | _ => false
def mLs (G : MG) (n : Nat) (LS : Array Slot) (ls : List MV) : Prop :=
  LS.size = n ∧ lv_wf LS ∧ ls.length = n ∧ ∀ (i : Nat) (v : MV), ls[i]? = some v → isN v = false → LS[i]? = some (.val (rz G v))
/-- what the walk may lean on -/
def mC (G : MG) (d : Nat) (k : MK) (p : Program) (R : Room) (s : State) (m : MethodId) (args : Array Value) (meth : Method) (c : Code) : Prop :=
  p.tables.exec = Jvm.exec ∧ c.code = kB k ∧ c.maxLocals = kL k ∧ meth.sig.returnType = kR k ∧ meth.locks = false ∧ s.vm.findClass (kY k).cls = some m.cls ∧ (∀ w ∈ mTs, w.before args s = true) ∧ va_K (gD G) mcl (mtys G) s ∧ c.exceptionTable.toList = tableOf (kH k) ∧ meth.name = (kY k).name ∧ mFr d ≤ R.frames ∧ mLo d ≤ R.locals ∧ mOld G s
/-- how a walk ends -/
def mFin (G : MG) (s : State) (below : List Frame) (c0 s0 : Nat) (Q : MO → MH → Prop) (t : State) : Prop :=
  ∃ (o : MO) (h' : MH) (L : List Loc) (ck sk : Nat), t.status = .running ∧ Ended t below (rzo G o) ∧ s.WarmedH t.vm ∧ s.sameButNew ({ t with vm := s.vm } : State) L ck sk ∧ mP G s t.heap L h' ∧ ck + c0 = h'.1.length ∧ sk + s0 = mSlt h' ∧ Q o h'
/-- THE JUDGEMENT: from here, at most d calls deep, the method comes to an end, and Q says how -/
def MX (d : Nat) (k : MK) (pc : Nat) (ls st : List MV) (h : MH) (Q : MO → MH → Prop) : Prop :=
  ∀ (l : Launch) (G : MG) (p : Program) (e : Env) (R : Room) (s : State) (m : MethodId) (args : Array Value) (below : List Frame) (meth : Method) (c : Code) (H : Heap) (locs : List Loc) (cells slots : Nat) (LS : Array Slot) (c0 s0 : Nat),
    (∀ e' : Env, l.admits e' → e'.platform.stackTraces = false) → mC G d k p R s m args meth c → mP G s H locs h → mLs G (kL k) LS ls → cells + c0 = h.1.length → slots + s0 = mSlt h → mCM ≤ R.cells + c0 → mSM ≤ R.slots + s0 →
    W p l e R s m args below meth c H locs cells slots (mFin G s below c0 s0 Q) (F0 m pc LS (st.map (rz G)))
/-! numbers -/
def inR (x : Int) : Prop := -2147483648 ≤ x ∧ x < 2147483648
theorem ofI_toInt {x : Int} (h : inR x) : (Int32.ofInt x).toInt = x := Int32.toInt_ofInt_of_le (by have := h.1; omega) (by have := h.2; omega)
theorem ofI_lt {x y : Int} (hx : inR x) (hy : inR y) : Int32.ofInt x < Int32.ofInt y ↔ x < y := by rw [Int32.lt_iff_toInt_lt, ofI_toInt hx, ofI_toInt hy]
theorem ofI_le {x y : Int} (hx : inR x) (hy : inR y) : Int32.ofInt x ≤ Int32.ofInt y ↔ x ≤ y := by rw [Int32.le_iff_toInt_le, ofI_toInt hx, ofI_toInt hy]
theorem ofI_eq {x y : Int} (hx : inR x) (hy : inR y) : Int32.ofInt x = Int32.ofInt y ↔ x = y := by rw [← Int32.toInt_inj, ofI_toInt hx, ofI_toInt hy]
theorem inR_0 : inR 0 := by unfold inR; omega
theorem ofI_0 : Int32.ofInt 0 = 0 := rfl
theorem ofI_clamp {x : Int} (h0 : 0 ≤ x) (h1 : x < 2147483648) : (Int32.ofInt x).toNatClampNeg = x.toNat := Int32.toNatClampNeg_ofInt_of_le (by omega) (by omega)
theorem ofI_in {j : Int} {n : Nat} (h0 : 0 ≤ j) (h1 : j < n) (hn : n < 2147483648) : vp_in (Int32.ofInt j) n := by
  unfold vp_in
  rw [show (0 : Int32) = Int32.ofInt 0 from rfl, ofI_lt ⟨by omega, by omega⟩ inR_0, ofI_clamp h0 (by omega)]
  omega
theorem ofI_nat (n : Nat) : Int32.ofInt (n : Int) = Int32.ofNat n := Int32.ofInt_eq_ofNat
