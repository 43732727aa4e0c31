section MXD
variable {d d' : Nat} {k k' : MK} {pc : Nat} {ls st rest as : List MV} {h : MH} {Q Q' : MO → MH → Prop}
/-- what a callee must be: n values besides the receiver -/
def kOK (k : MK) (n : Nat) : Prop := plainName (kY k).cls = true ∧ kW k ∈ mTs ∧ kL k ≤ 40 ∧ (kY k).cls ≠ "java/lang/invoke/MethodHandle" ∧ (kY k).cls ≠ "java/lang/invoke/VarHandle" ∧ (parseMethodDescriptor (kY k).desc).map (fun d => d.parameters.length) = some n ∧ Cond.initialized (kY k).cls ∈ mTs
def catM (v : MV) : Nat := if isL v = true then 2 else 1
theorem catM_eq (G : MG) (st : List MV) : ((st.map (rz G)).map fun v => v.category).sum = (st.map catM).sum := by
  induction st with
  | nil => rfl
  | cons a st ih =>
    simp only [List.map_cons, List.sum_cons, ih]
    unfold catM
    cases ha : isL a
    · rw [rz_cat1 G ha]; rfl
    · rw [rz_cat2 G ha]; rfl
theorem kOK.len {n : Nat} (hk : kOK k n) (sig : MethodDescriptor) (hs : parseMethodDescriptor (kY k).desc = some sig) : n = sig.parameters.length := by
  have z := hk.2.2.2.2.2.1
  rw [hs] at z
  exact (Option.some.inj z).symm
set_option maxRecDepth 100000 in
theorem lo_ok {y q A d d' : Nat} (h1 : y ≤ 16) (h2 : q ≤ 40) (h3 : d' + 1 ≤ d) (h4 : mLo d ≤ A) : 2 * 0 + y + (q + 11) + mLo d' ≤ A := by
  unfold mLo at h4 ⊢
  omega
theorem mCore {n : Nat} (hk' : kOK k' n) (hen : (mEnL as).length ≤ kL k') (hdd : d' + 1 ≤ d) (hcat : (rest.map catM).sum ≤ 16)
    (hx : MX d' k' 0 (mEn k' as) [] h Q') (hret : ∀ v h', Q' (.inl v) h' → MX d k (pc + 3) ls (v.toList ++ rest) h' Q) (hthr : ∀ a h', Q' (.inr a) h' → MT d k pc ls rest a h' Q)
    {l : Launch} {G : MG} {p : Program} {e : Env} {R : Room} {s : State} {m : MethodId} {args : Array Value} {below : List Frame} {meth : Method} {c : Code} {H : Heap} {locs : List Loc} {cells slots : Nat} {LS : Array Slot} {c0 s0 : Nat}
    (hl : ∀ e' : Env, l.admits e' → e'.platform.stackTraces = false) (C : mC G d k p R s m args meth c) (P : mP G s H locs h) (L : mLs G (kL k) LS ls) (h1 : cells + c0 = h.1.length) (h2 : slots + s0 = mSlt h) (h3 : mCM ≤ R.cells + c0) (h4 : mSM ≤ R.slots + s0)
    {T : State} {vm₁ : Vm} (hT : T.heap = H) (X : Stand p l e R s m args below meth c (T.setVm vm₁) locs cells slots) {mk : MethodId} (hn : s.methodNamed? (kY k') = some mk) {ig : Instr} (hdg : decode (kB k) pc = .ok (ig, 3)) :
    ∃ t, Steps p.tables e below (doInvoke e ((T.setVm vm₁).setTop (F0 m pc LS (rest.map (rz G)))) [] mk (as.map (rz G)).toArray).1 t ∧ mFin G s below c0 s0 Q t := by
  obtain ⟨hpl, hkw, hmax, -, -, -, hini⟩ := hk'
  have hts := C.2.2.2.2.2.2.1
  have hW : s.WarmedH (T.setVm vm₁).vm := X.warmed
  have hw : ∀ w ∈ mTs, ∀ a' : Array Value, w.before a' (T.setVm vm₁) = true := fun w hm a' => mTs_move hW hm (hts w hm)
  have hnU : (T.setVm vm₁).methodNamed? (kY k') = some mk := X.named hn
  obtain ⟨methY, cY, b1, b2, -, b4, -, -, -, -⟩ := kW_spec (hw _ hkw args) hnU
  obtain ⟨kY', hkY, -⟩ := className_of_methodNamed hnU
  have hinitY : kY'.init = .initialized := Cond.initialized_spec (findClass_of_methodNamed hnU) hkY (hw _ hini args)
  have hS : va_S (fun q => gB G ≤ q) s.heap H locs := P.2.2
  obtain ⟨o, s₂, L', kk, n', ⟨o', h', rfl, P', e1, e2, hq⟩, hW2, X', st1, st2⟩ := mCallAny X (mMet (d := d') (as := as) (h := h) hl G hpl hkw hen hx) (g := F0 m pc LS (rest.map (rz G))) rfl (L.1.trans C.2.2.1.symm) (ig := ig) (len := 3) (by rw [C.2.1]; exact hdg) hnU b1 b2 hkY hinitY
    (by show mFr d' + 1 ≤ R.frames; have z := C.2.2.2.2.2.2.2.2.2.2.1; unfold mFr at z ⊢; omega)
    (by
      show 2 * 0 + ((rest.map (rz G)).map fun v => v.category).sum + (cY.maxLocals + 11) + mLo d' ≤ R.locals
      rw [catM_eq, b4]
      exact lo_ok hcat hmax hdd C.2.2.2.2.2.2.2.2.2.2.2.1)
    (by show cells + (mCM - h.1.length) ≤ R.cells; have z := P.1.2.1; omega) (by show slots + (mSM - mSlt h) ≤ R.slots; have z := P.1.2.2.1; omega)
    (a := (as.map (rz G)).toArray) (atoms_intro fun w hm => hw w hm _)
    (by
      have hh : ((T.setVm vm₁).calling (F0 m pc LS (rest.map (rz G))) mk (as.map (rz G)).toArray).heap = H := hT
      refine ⟨rfl, ?_, va_K.moved (U := (T.setVm vm₁).calling (F0 m pc LS (rest.map (rz G))) mk (as.map (rz G)).toArray) hW.alike C.2.2.2.2.2.2.2.1, ?_⟩
      · unfold mP
        rw [hh]
        exact ⟨⟨P.1.1, P.1.2.1, P.1.2.2.1, mScr.moved (U := (T.setVm vm₁).calling (F0 m pc LS (rest.map (rz G))) mk (as.map (rz G)).toArray) (fun q hq => by rw [hh]; exact hS.2.1 q (Nat.lt_of_lt_of_le hq (mOld.le C.2.2.2.2.2.2.2.2.2.2.2.2)) (by omega)) hW.alike P.1.2.2.2⟩, P.2.1, va_S.rf⟩
      · exact mOld.moved (G := G) (s := s) (U := (T.setVm vm₁).calling (F0 m pc LS (rest.map (rz G))) mk (as.map (rz G)).toArray) (by rw [hh]; exact hS.1) (fun q hq => by rw [hh]; exact hS.2.1 q (Nat.lt_of_lt_of_le hq (mOld.le C.2.2.2.2.2.2.2.2.2.2.2.2)) (by omega)) hW C.2.2.2.2.2.2.2.2.2.2.2.2)
    (EE := fun o t L kk n => ∃ o' h', o = rzo G o' ∧ mP G ((T.setVm vm₁).calling (F0 m pc LS (rest.map (rz G))) mk (as.map (rz G)).toArray) t.heap L h' ∧ kk + h.1.length = h'.1.length ∧ n + mSlt h = mSlt h' ∧ Q' o' h')
    (fun o t ⟨o', h', L, ck, sk, q0, q1, q2, q3, q4, q5, q6⟩ => ⟨L, ck, sk, q1, q2, o', h', q0, q3, q4, q5, q6⟩)
  have hh : ((T.setVm vm₁).calling (F0 m pc LS (rest.map (rz G))) mk (as.map (rz G)).toArray).heap = H := hT
  have P2 : mP G s s₂.heap (locs ++ L') h' := by
    refine ⟨⟨P'.1.1, P'.1.2.1, P'.1.2.2.1, mScr.moved (s := (T.setVm vm₁).calling (F0 m pc LS (rest.map (rz G))) mk (as.map (rz G)).toArray) (fun q hq => by rw [hh]; exact (hS.2.1 q (Nat.lt_of_lt_of_le hq (mOld.le C.2.2.2.2.2.2.2.2.2.2.2.2)) (by omega)).symm) (Vm.Alike.symm hW.alike) P'.1.2.2.2⟩, P'.2.1, ?_⟩
    have z := P'.2.2
    rw [hh] at z
    refine ⟨Nat.le_trans hS.1 z.1, fun q q1 q2 => (z.2.1 q (Nat.lt_of_lt_of_le q1 hS.1) q2).trans (hS.2.1 q q1 q2), fun q hq => ?_⟩
    rcases List.mem_append.mp hq with w | w
    · exact hS.2.2 q w
    · exact z.2.2 q w
  cases o' with
  | inl v =>
    have go := hret v h' hq l G p e R s m args below meth c s₂.heap (locs ++ L') (cells + kk) (slots + n') LS c0 s0 hl C P2 L (by omega) (by omega) h3 h4
    obtain ⟨t, a1, a2⟩ := go (({ (T.setVm vm₁) with heap := s₂.heap, slotsUsed := s₂.slotsUsed } : State).setVm s₂.vm) rfl X'
    refine ⟨t, Steps.trans (st1 _ rfl) ?_, a2⟩
    have ee : ((v.map (rz G)).toList ++ rest.map (rz G)) = (v.toList ++ rest).map (rz G) := by cases v <;> simp
    show Steps p.tables e below (State.setTop _ { F0 m pc LS (rest.map (rz G)) with pc := pc + 3, stack := (v.map (rz G)).toList ++ rest.map (rz G) }) t
    rw [ee]
    exact a1
  | inr a =>
    obtain ⟨t, a1, a2⟩ := hthr a h' hq l G p e R s m args below meth c s₂.heap (locs ++ L') (cells + kk) (slots + n') LS c0 s0 hl C P2 L (by omega) (by omega) h3 h4 (({ (T.setVm vm₁) with heap := s₂.heap, slotsUsed := s₂.slotsUsed } : State).setVm s₂.vm) rfl X'
    exact ⟨t, Steps.trans (st2 _ rfl) a1, a2⟩
/-- a static method -/
theorem x_callS {idx : Nat} (hd : decode (kB k) pc = .ok (.invokestatic idx, 3)) (hk' : kOK k' as.length) (hlk : Cond.methodLink (kY k).cls idx (kY k') ∈ mTs) (hst : Cond.static (kY k') ∈ mTs) (hen : (mEnL as).length ≤ kL k') (hdd : d' + 1 ≤ d) (hcat : (rest.map catM).sum ≤ 16)
    (hx : MX d' k' 0 (mEn k' as) [] h Q') (hret : ∀ v h', Q' (.inl v) h' → MX d k (pc + 3) ls (v.toList ++ rest) h' Q) (hthr : ∀ a h', Q' (.inr a) h' → MT d k pc ls rest a h' Q) : MX d k pc ls (as.reverse ++ rest) h Q := by
  intro l G p e R s m args below meth c H locs cells slots LS c0 s0 hl C P L h1 h2 h3 h4 T hT X
  have hts := C.2.2.2.2.2.2.1
  have hcode := hts _ hk'.2.1
  obtain ⟨mk, methM, hnamed, hmethM, hstatic⟩ : ∃ mk methM, s.methodNamed? (kY k') = some mk ∧ s.vm.method? mk = some methM ∧ methM.isStatic = true := kW_static hcode (hts _ hst)
  obtain ⟨kP, hkP, -⟩ := className_of_methodNamed hnamed
  have hinitP : kP.init = .initialized := Cond.initialized_spec (findClass_of_methodNamed hnamed) hkP (hts _ hk'.2.2.2.2.2.2)
  obtain ⟨methY, cY, b1, -, -, -, -, -, -, b8⟩ := kW_spec hcode hnamed
  cases hmethM.symm.trans b1
  obtain ⟨vm₁, X₁, hstep⟩ := X.invokestatic C.1 C.2.2.2.2.2.1 (hts _ hlk) hnamed hmethM hstatic hkP hinitP ⟨hk'.2.2.2.1, hk'.2.2.2.2.1⟩ (g := F0 m pc LS ((as.reverse ++ rest).map (rz G))) rfl (argsL := as.map (rz G)) (rest := rest.map (rz G)) (by rw [List.length_map]; exact hk'.len _ b8) (by show (as.reverse ++ rest).map (rz G) = _; rw [List.map_append, List.map_reverse]) (by rw [C.2.1]; exact hd)
  obtain ⟨t, a1, a2⟩ := mCore hk' hen hdd hcat hx hret hthr hl C P L h1 h2 h3 h4 hT X₁ hnamed hd
  exact ⟨t, hstep t fun acts => by rw [doInvoke_state]; exact a1, a2⟩
/-- a static method of a nest mate -/
theorem x_callSN {idx : Nat} {host : String} (hd : decode (kB k) pc = .ok (.invokestatic idx, 3)) (hk' : kOK k' as.length) (hlk : Cond.methodLinkNest (kY k).cls idx (kY k') host ∈ mTs) (hst : Cond.static (kY k') ∈ mTs) (hen : (mEnL as).length ≤ kL k') (hdd : d' + 1 ≤ d) (hcat : (rest.map catM).sum ≤ 16)
    (hx : MX d' k' 0 (mEn k' as) [] h Q') (hret : ∀ v h', Q' (.inl v) h' → MX d k (pc + 3) ls (v.toList ++ rest) h' Q) (hthr : ∀ a h', Q' (.inr a) h' → MT d k pc ls rest a h' Q) : MX d k pc ls (as.reverse ++ rest) h Q := by
  intro l G p e R s m args below meth c H locs cells slots LS c0 s0 hl C P L h1 h2 h3 h4 T hT X
  have hts := C.2.2.2.2.2.2.1
  have hcode := hts _ hk'.2.1
  obtain ⟨mk, methM, hnamed, hmethM, hstatic⟩ : ∃ mk methM, s.methodNamed? (kY k') = some mk ∧ s.vm.method? mk = some methM ∧ methM.isStatic = true := kW_static hcode (hts _ hst)
  obtain ⟨kP, hkP, -⟩ := className_of_methodNamed hnamed
  have hinitP : kP.init = .initialized := Cond.initialized_spec (findClass_of_methodNamed hnamed) hkP (hts _ hk'.2.2.2.2.2.2)
  obtain ⟨methY, cY, b1, -, -, -, -, -, -, b8⟩ := kW_spec hcode hnamed
  cases hmethM.symm.trans b1
  obtain ⟨vm₁, X₁, hstep⟩ := X.invokestaticNest C.1 C.2.2.2.2.2.1 (hts _ hlk) hnamed hmethM hstatic hkP hinitP ⟨hk'.2.2.2.1, hk'.2.2.2.2.1⟩ (g := F0 m pc LS ((as.reverse ++ rest).map (rz G))) rfl (argsL := as.map (rz G)) (rest := rest.map (rz G)) (by rw [List.length_map]; exact hk'.len _ b8) (by show (as.reverse ++ rest).map (rz G) = _; rw [List.map_append, List.map_reverse]) (by rw [C.2.1]; exact hd)
  obtain ⟨t, a1, a2⟩ := mCore hk' hen hdd hcat hx hret hthr hl C P L h1 h2 h3 h4 hT X₁ hnamed hd
  exact ⟨t, hstep t fun acts => by rw [doInvoke_state]; exact a1, a2⟩
/-- a constructor -/
theorem x_callI {idx a : Nat} (hd : decode (kB k) pc = .ok (.invokespecial idx, 3)) (hk' : kOK k' as.length) (hkh : kH k' = []) (hkr : kR k' = none) (hin : (kY k').name = "<init>") (hlk : Cond.methodLink (kY k).cls idx (kY k') ∈ mTs) (hst : Cond.instanceMethod (kY k') ∈ mTs) (hen : (mEnL (mR a :: as)).length ≤ kL k') (hdd : d' + 1 ≤ d) (hcat : (rest.map catM).sum ≤ 16)
    (hx : MX d' k' 0 (mEn k' (mR a :: as)) [] h Q') (hret : ∀ v h', Q' (.inl v) h' → MX d k (pc + 3) ls (v.toList ++ rest) h' Q) (hthr : ∀ a h', Q' (.inr a) h' → MT d k pc ls rest a h' Q) : MX d k pc ls (as.reverse ++ mR a :: rest) h Q := by
  intro l G p e R s m args below meth c H locs cells slots LS c0 s0 hl C P L h1 h2 h3 h4 T hT X
  have hts := C.2.2.2.2.2.2.1
  have hcode : (Cond.code (kY k') (kB k') (kL k') none).before args s = true := by
    have z := hts _ hk'.2.1
    unfold kW at z
    rw [if_pos (by rw [hkh]; rfl), hkr] at z
    exact z
  have hpl : e.platform.magicAccessors = ({} : Platform).magicAccessors := by rw [X.admits.platform]
  obtain ⟨mk, methM, cM, kP, vm₁, hnamed, -, -, -, -, -, -, -, hW₁, hstep⟩ := Steps.initColdArgs (e := e) X.here C.1 X.warmed hpl C.2.2.2.2.2.1 hin ⟨hk'.2.2.2.1, hk'.2.2.2.2.1⟩ (hts _ hlk) (hts _ hst) hcode (f := F0 m pc LS ((as.reverse ++ mR a :: rest).map (rz G))) rfl (a := gB G + a) (argsL := as.map (rz G)) (rest := rest.map (rz G)) (fun sig hs => by rw [List.length_map]; exact hk'.len _ hs)
    (by show (as.reverse ++ mR a :: rest).map (rz G) = _; rw [List.map_append, List.map_reverse]; rfl) (by rw [C.2.1]; exact hd)
  obtain ⟨t, a1, a2⟩ := mCore hk' hen hdd hcat hx hret hthr hl C P L h1 h2 h3 h4 hT (X.noted hW₁) hnamed hd
  exact ⟨t, hstep t fun acts => by rw [doInvoke_state]; exact a1, a2⟩
/-- a method of an object of class t, by its class -/
theorem x_callV {idx a t n : Nat} {Cn : String} {T0 : u_T} {N : Nat} (hd : decode (kB k) pc = .ok (.invokevirtual idx, 3)) (hk' : kOK k' as.length) (hlk : Cond.methodLink (kY k).cls idx (kY k') ∈ mTs) (hst : Cond.instanceMethod (kY k') ∈ mTs) (hsel : Cond.selects Cn (kY k') (kY k') ∈ mTs) (hc : mcl[t]? = some (Cn, T0, N)) (ha : h.1[a]? = some (t, n)) (ht : t < 100)
    (hen : (mEnL (mR a :: as)).length ≤ kL k') (hdd : d' + 1 ≤ d) (hcat : (rest.map catM).sum ≤ 16)
    (hx : MX d' k' 0 (mEn k' (mR a :: as)) [] h Q') (hret : ∀ v h', Q' (.inl v) h' → MX d k (pc + 3) ls (v.toList ++ rest) h' Q) (hthr : ∀ a h', Q' (.inr a) h' → MT d k pc ls rest a h' Q) : MX d k pc ls (as.reverse ++ mR a :: rest) h Q := by
  intro l G p e R s m args below meth c H locs cells slots LS c0 s0 hl C P L h1 h2 h3 h4 T hT X
  have hts := C.2.2.2.2.2.2.1
  have hcode := hts _ hk'.2.1
  have hy : (kY k').cls ≠ "java/lang/invoke/MethodHandle" ∧ (kY k').cls ≠ "java/lang/invoke/VarHandle" := ⟨hk'.2.2.2.1, hk'.2.2.2.2.1⟩
  obtain ⟨cellB, hcell, hobj, hcls⟩ := va_recv C.2.2.2.2.2.2.2.1 (P.at ha) hc (q0 := 0) (a := gB G + a) (fs := (List.range n).map fun i => rz G (mFv h t a i)) (by rw [mE_obj ht]; rfl)
  obtain ⟨mk, methM, hnamed, hmethM, hstM, habM⟩ := Cond.instanceMethod_spec (hts _ hst)
  obtain ⟨methM', cM, hmethM', -, -, -, -, -, -, hsigM⟩ := kW_spec hcode hnamed
  cases hmethM.symm.trans hmethM'
  obtain ⟨c2, r2, m2, q1, q2, q3, q4, kP, hkP, hkPi⟩ := Cond.selects_spec (hts _ hsel)
  cases hcls.symm.trans q1
  cases (State.methodFound?_of_named hnamed hy).symm.trans q2
  cases hnamed.symm.trans q3
  have hselP : selectMethod e.platform s.vm cellB.cls mk = .method mk := by rw [Launch.admits_selectMethod X.admits]; exact q4
  obtain ⟨vm₁, X₁, hstep⟩ := X.invokevirtual C.1 C.2.2.2.2.2.1 (hts _ hlk) hnamed hmethM hstM hkP hkPi hy (a := gB G + a) (cell := cellB) (by rw [hT]; exact hcell)
    (fun z hz => by rw [hz] at hobj; cases hobj) hselP hmethM habM hkP hkPi (g := F0 m pc LS ((as.reverse ++ mR a :: rest).map (rz G))) rfl (argsL := as.map (rz G)) (rest := rest.map (rz G)) (by rw [List.length_map]; exact hk'.len _ hsigM) (by show (as.reverse ++ mR a :: rest).map (rz G) = _; rw [List.map_append, List.map_reverse]; rfl) (by rw [C.2.1]; exact hd)
  obtain ⟨t', a1, a2⟩ := mCore hk' hen hdd hcat hx hret hthr hl C P L h1 h2 h3 h4 hT X₁ hnamed hd
  exact ⟨t', hstep t' fun acts => by rw [doInvoke_state]; exact a1, a2⟩
/-- the root's constructor -/
theorem x_objInit {idx a : Nat} (hd : decode (kB k) pc = .ok (.invokespecial idx, 3)) (hlk : Cond.methodLink (kY k).cls idx Lib.objectInit ∈ mTs) (hin : Cond.instanceMethod Lib.objectInit ∈ mTs) (hco : Cond.code Lib.objectInit ⟨#[0xb1]⟩ 1 none ∈ mTs) (hcat : (st.map catM).sum ≤ 16) (hx : MX d k (pc + 3) ls st h Q) : MX d k pc ls (mR a :: st) h Q := by
  intro l G p e R s m args below meth c H locs cells slots LS c0 s0 hl C P L h1 h2 h3 h4
  have hts := C.2.2.2.2.2.2.1
  exact W.objInit C.1 C.2.1 C.2.2.2.2.2.1 (hts _ hlk) (hts _ hin) (hts _ hco) rfl (by rw [C.2.2.1]; exact L.1) rfl hd
    (by have z := C.2.2.2.2.2.2.2.2.2.2.1; unfold mFr at z; omega)
    (by show 2 * 0 + ((st.map (rz G)).map fun v => v.category).sum + 12 ≤ R.locals; rw [catM_eq]; have z := C.2.2.2.2.2.2.2.2.2.2.2.1; unfold mLo at z; omega)
    (hx l G p e R s m args below meth c H locs cells slots LS c0 s0 hl C P L h1 h2 h3 h4)
end MXD
