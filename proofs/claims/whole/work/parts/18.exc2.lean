section MXF
variable {d : Nat} {k : MK} {pc : Nat} {ls st : List MV} {h : MH} {Q : MO → MH → Prop}
theorem isRef_of {args : Array Value} {s : State} {C n dd : String} {v : Value} {A : Nat → Prop} (hz : va_Z C n dd v A s s.heap) (hv : v.isRef = true) : (Cond.isRef (.static C n dd)).before args s = true := by
  obtain ⟨cf, kf, fi, f, a, cell, h1, h2, h3, h4, h5, h6, h7, h8⟩ := hz
  have he : (Term.static C n dd).eval args s none [] s = some v := by
    simp [Term.eval, State.fieldNamed?, h1, h2, h4, h5, h6, h7]
  simp only [Cond.before, Cond.holds, Cond.value, he]
  cases v <;> first | rfl | cases hv
theorem lays_of {args : Array Value} {G : MG} {s : State} {n dd : String} (h : mLS G s n dd) : (Cond.laysStatic "java/lang/Throwable" n dd).before args s = true := by
  obtain ⟨c, k, i, f, a, cell, hc, hi, hst, ha, hcell, hs, hcls, hlt, hty, -⟩ := h
  exact Cond.laysStatic_of hc hi hst ha hcell hs hcls hlt hty
theorem exH_of {G : MG} {s : State} {args : Array Value} (h : mOld G s) : ∀ a ∈ exHs, a.before args s = true := by
  obtain ⟨-, ⟨v1, z1, r1⟩, ⟨v2, z2, r2⟩, -, -, -, -, z7, z8, -⟩ := h
  intro a ha
  rcases List.mem_cons.mp ha with rfl | ha
  · exact isRef_of z1 r1
  · rcases List.mem_cons.mp ha with rfl | ha
    · exact isRef_of z2 r2
    · rcases List.mem_cons.mp ha with rfl | ha
      · exact lays_of z7
      · rcases List.mem_cons.mp ha with rfl | ha
        · exact lays_of z8
        · cases ha
theorem mP.vm {G : MG} {s : State} {H : Heap} {locs : List Loc} (P : mP G s H locs h) {q : Nat} (hq : gB G ≤ q) {cell : Cell} (hc : H[q]? = some cell) : cell.vm = .none := by
  have hlt : q < H.size := (Array.getElem?_eq_some_iff.mp hc).1
  have hsz := P.1.1
  obtain ⟨a, rfl⟩ : ∃ a, q = gB G + a := ⟨q - gB G, by omega⟩
  have hal : a < h.1.length := by omega
  obtain ⟨⟨t, n⟩, ht⟩ : ∃ x, h.1[a]? = some x := ⟨_, List.getElem?_eq_getElem hal⟩
  have z := P.2.1 a t n ht
  unfold mE at z
  split at z
  · obtain ⟨r, -, cell', q1, -, q3, -⟩ := z
    cases hc.symm.trans q1
    exact q3
  · split at z
    · cases hc.symm.trans z
      rfl
    · split at z
      · cases hc.symm.trans z
        rfl
      · cases hc.symm.trans z
        rfl
/-- a class of exceptions that may be made -/
def eOK (own : String) (idx ic te : Nat) (cls : String) (names : List String) : Prop := te < 100 ∧ mcl[te]? = some (cls, F_0, 0) ∧ Bundle.fit cls = true ∧ (∀ n ∈ names, Bundle.fit n = true) ∧ names.length ≤ 4 ∧ Cond.classLink own idx cls ∈ mTs ∧ Cond.instantiable cls 6 ∈ mTs ∧ Cond.initialized cls ∈ mTs ∧ (∀ a ∈ Bundle.ownAtoms0 own ic cls names, a ∈ exHs ∨ a ∈ mTs)
set_option maxRecDepth 100000 in
theorem lo_ex {y q A d : Nat} (h1 : y ≤ 16) (h2 : q ≤ 4) (h4 : mLo d ≤ A) : 2 * 0 + (y + 1) + (13 * (q + 1) + 41) ≤ A := by
  unfold mLo at h4
  omega
theorem x_newE {idx ic te : Nat} {cls : String} {names : List String} (hd0 : decode (kB k) pc = .ok (.new idx, 3)) (hd1 : decode (kB k) (pc + 3) = .ok (.dup, 1)) (hd2 : decode (kB k) (pc + 4) = .ok (.invokespecial ic, 3)) (hE : eOK (kY k).cls idx ic te cls names)
    (hm : h.1.length < mCM) (hs : mSlt h + 6 ≤ mSM) (hcat : (st.map catM).sum ≤ 16) (hx : MX d k (pc + 7) ls (mR h.1.length :: st) (mNew h te 6) Q) : MX d k pc ls st h Q := by
  intro l G p e R s m args below meth c H locs cells slots LS c0 s0 hl C P L h1 h2 h3 h4
  obtain ⟨hte, hc, hfit, hnames, hnl, hcl, hinst, hini, hat⟩ := hE
  have hts := C.2.2.2.2.2.2.1
  have hK := C.2.2.2.2.2.2.2.1
  have hO : mOld G s := C.2.2.2.2.2.2.2.2.2.2.2.2
  have hKn := hK.1 te _ hc
  have hsz := P.1.1
  refine W.newcK C.1 C.2.1 C.2.2.2.2.2.1 (hts _ hcl) (hts _ hinst) (hts _ hini) rfl hd0 (by omega) (by omega) hKn.2.1 hsz fun H1 kC hkC e1 z1 o1 => ?_
  refine lv_dup (va := .ref (gB G + h.1.length)) C.1 C.2.1 hd1 rfl ?_
  intro T hT X
  have hw : ∀ a ∈ Bundle.ownAtoms0 (kY k).cls ic cls names, a.before args s = true := fun a ha => (hat a ha).elim (exH_of hO a) (hts a)
  have hlocs : ∀ x ∈ locs, ∀ cell, s.heap[x.base]? = some cell → cell.vm.isStatics = false := by
    intro x hxl cell hcell
    have hb : gB G ≤ x.base := P.2.2.2.2 x hxl
    have hlt : @LT.lt Nat _ x.base s.heap.size := (Array.getElem?_eq_some_iff.mp hcell).1
    have hle := P.2.2.1
    obtain ⟨cell', hc', he, -⟩ := X.same.2.2.2.2.2 x.base cell hcell
    have hc2 : T.heap[x.base]? = some cell' := hc'
    have hlt2 : @LT.lt Nat _ x.base (gB G + h.1.length) := by omega
    rw [hT, o1 x.base hlt2] at hc2
    have hv := P.vm hb hc2
    rw [he] at hv
    show cell.vm.isStatics = false
    rw [show cell.vm = .none from hv]
    rfl
  obtain ⟨vm', ce, L', X', hL', hcc, hcv, step⟩ := mCtorE X C.1 (hl e X.admits) C.2.2.2.2.2.1 hfit hnames hw hlocs hKn.2.1 hkC (a := gB G + h.1.length) (by rw [hT]; exact e1) (g := F0 m (pc + 4) LS (.ref (gB G + h.1.length) :: .ref (gB G + h.1.length) :: st.map (rz G))) rfl (L.1.trans C.2.2.1.symm) (rest := .ref (gB G + h.1.length) :: st.map (rz G)) rfl (by rw [C.2.1]; exact hd2)
    (by have z := C.2.2.2.2.2.2.2.2.2.2.1; unfold mFr at z; omega)
    (by
      show 2 * 0 + (1 + ((st.map (rz G)).map fun v => v.category).sum) + (13 * (names.length + 1) + 41) ≤ R.locals
      rw [catM_eq, Nat.add_comm 1]
      exact lo_ex hcat hnl C.2.2.2.2.2.2.2.2.2.2.2.1)
  have hheap : ((T.setVm vm').setCell (gB G + h.1.length) ce).heap = H1.setIfInBounds (gB G + h.1.length) ce := by rw [← hT]; rfl
  have hlt : gB G + h.1.length < H1.size := by omega
  have P1 : mP G s (H1.setIfInBounds (gB G + h.1.length) ce) locs (mNew h te 6) := by
    refine P.new hm hs (by rw [Array.size_setIfInBounds]; exact z1) (fun q hq => ?_) ?_
    · rw [Array.getElem?_setIfInBounds, if_neg (by omega)]
      exact o1 q hq
    · rw [mE_obj hte]
      refine ⟨_, hc, ce, ?_, hcc, hcv, fun j hj => absurd hj (Nat.not_lt_zero _)⟩
      show (H1.setIfInBounds (gB G + h.1.length) ce)[gB G + h.1.length]? = some ce
      rw [Array.getElem?_setIfInBounds, if_pos rfl, if_pos hlt]
  have P2 : mP G s (H1.setIfInBounds (gB G + h.1.length) ce) (locs ++ L') (mNew h te 6) := by
    refine ⟨P1.1, P1.2.1, P1.2.2.1, P1.2.2.2.1, fun q hq => ?_⟩
    rcases List.mem_append.mp hq with z | z
    · exact P1.2.2.2.2 q z
    · show gB G ≤ q.base
      rw [hL' q z]
      exact Nat.le_add_right _ _
  obtain ⟨t, a1, a2⟩ := hx l G p e R s m args below meth c _ (locs ++ L') (cells + 1) (slots + 6) LS c0 s0 hl C P2 L (by rw [len_new]; omega) (by rw [mSlt_new]; omega) h3 h4 _ hheap X'
  exact ⟨t, step t a1, a2⟩
/-! a handler -/
theorem goLink {Qh : Handler → Pre} {E : CtlPost} {e : Env} {b : Bool} {acts : List Action} {s : State} {f : JFrame} {a : Addr} {x : ExceptionTableEntry} {t : List ExceptionTableEntry} {c : ClassId} {cell : Cell} (hx : covers x f.pc = true) (h0 : x.catchType ≠ 0)
    (hl : s.vm.ClassLinks e.platform f.method.cls x.catchType c) (hcell : s.heap[a]? = some cell) (hobj : ∀ k, cell.vm ≠ .statics k) (hk : ∃ k, s.vm.classes[cell.cls]? = some k) (hc : ∃ k, s.vm.classes[c]? = some k) :
    wp (findHandler.go f a (x :: t)) Qh E e b acts s ↔ if s.vm.assignable cell.cls c = true then Qh (.found x.handlerPc) b acts (s.setVm (s.vm.noted f.method.cls x.catchType (.cls c))) else wp (findHandler.go f a t) Qh E e b acts (s.setVm (s.vm.noted f.method.cls x.catchType (.cls c))) := by
  simp only [covers] at hx
  obtain ⟨ha, ht⟩ := (resolveClass_links e.toSetting hl).op (op := VmOp.resolveClass f.method.cls x.catchType) rfl
  have hal : s.vm.Alike (s.vm.noted f.method.cls x.catchType (.cls c)) := (Vm.Alike.refl s.vm).noted _ _ _
  obtain ⟨k1, hk1⟩ := hk
  obtain ⟨k2, hk2⟩ := hc
  obtain ⟨k1', hk1', -⟩ := hal.2.2 _ _ hk1
  obtain ⟨k2', hk2', -⟩ := hal.2.2 _ _ hk2
  have hfit' : (s.vm.noted f.method.cls x.catchType (.cls c)).assignable cell.cls c = s.vm.assignable cell.cls c := by rw [hal.assignable]
  cases hfit : s.vm.assignable cell.cls c <;> simp [findHandler.go, hx, h0, ha, ht, hcell, hobj, hk1', hk2', hfit', hfit, VmOp.dirties, VmOp.acts]
end MXF
