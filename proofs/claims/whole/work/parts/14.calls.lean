section MXC
variable {d d' : Nat} {k k' : MK} {pc : Nat} {ls st rest as : List MV} {h : MH} {Q Q' : MO → MH → Prop}
theorem mScr.moved {G : MG} {s U : State} (hq : ∀ q : Nat, q < gB G → U.heap[q]? = s.heap[q]?) (hvm : s.vm.Alike U.vm) (z : mScr G s h) : mScr G U h := ⟨(z.1.moved hvm).kept (hq _ z.2), z.2⟩
theorem kW_0 : True := trivial
def kW (k : MK) : Cond := if (kH k).isEmpty = true then .code (kY k) (kB k) (kL k) (kR k) else .codeWith (kY k) (kB k) (kL k) (kR k) (kH k)
theorem kW_spec {s : State} {m : MethodId} {args : Array Value} (hw : (kW k).before args s = true) (hn : s.methodNamed? (kY k) = some m) :
    ∃ meth c, s.vm.method? m = some meth ∧ meth.code = some c ∧ c.code = kB k ∧ c.maxLocals = kL k ∧ meth.sig.returnType = kR k ∧ meth.locks = false ∧ c.exceptionTable.toList = tableOf (kH k) ∧ parseMethodDescriptor (kY k).desc = some meth.sig := by
  unfold kW at hw
  by_cases he : (kH k).isEmpty = true
  · rw [if_pos he] at hw
    obtain ⟨meth, c, a1, a2, a3, a4, a5, a6, a7, a8⟩ := Cond.code_spec hn hw
    refine ⟨meth, c, a1, a2, a3, a4, a5, a6, ?_, a8⟩
    rw [List.isEmpty_iff.mp he]
    have e : c.exceptionTable = #[] := by simpa using a7
    rw [e]
    rfl
  · rw [if_neg he] at hw
    obtain ⟨m', meth, c, a0, a1, a2, a3, a4, a5, a6, a7, a8⟩ := Cond.codeWith_spec hw
    cases hn.symm.trans a0
    refine ⟨meth, c, a1, a2, a3, a4, a6, a7, ?_, a8⟩
    rw [← a5, table_eq]
theorem kW_named {s : State} {args : Array Value} (hw : (kW k).before args s = true) : ∃ m, s.methodNamed? (kY k) = some m := by
  unfold kW at hw
  by_cases he : (kH k).isEmpty = true
  · rw [if_pos he] at hw
    exact Cond.code_named hw
  · rw [if_neg he] at hw
    obtain ⟨m', meth, c, a0, -⟩ := Cond.codeWith_spec hw
    exact ⟨m', a0⟩
theorem kW_static {s : State} {args : Array Value} (hw : (kW k).before args s = true) (hst : (Cond.static (kY k)).before args s = true) : ∃ mk methM, s.methodNamed? (kY k) = some mk ∧ s.vm.method? mk = some methM ∧ methM.isStatic = true := by
  obtain ⟨mk, hn⟩ := kW_named hw
  obtain ⟨meth, c, b1, -⟩ := kW_spec hw hn
  exact ⟨mk, meth, hn, b1, Cond.static_spec hn b1 hst⟩
/-- the locals with which a method begins -/
def mEnL (as : List MV) : List MV := as.flatMap fun v => if isL v = true then [v, mN] else [v]
def mEn (k : MK) (as : List MV) : List MV := mEnL as ++ List.replicate (kL k - (mEnL as).length) mN
theorem mEnL_len (G : MG) (as : List MV) : (lg_sl (as.map (rz G))).length = (mEnL as).length := by
  induction as with
  | nil => rfl
  | cons a as ih =>
    have e1 : lg_sl ((a :: as).map (rz G)) = (if (rz G a).category = 2 then [.val (rz G a), .second] else [.val (rz G a)]) ++ lg_sl (as.map (rz G)) := rfl
    have e2 : mEnL (a :: as) = (if isL a = true then [a, mN] else [a]) ++ mEnL as := rfl
    rw [e1, e2, List.length_append, List.length_append, ih]
    cases ha : isL a
    · rw [if_neg (by rw [rz_cat1 G ha]; decide)]; rfl
    · rw [if_pos (rz_cat2 G ha)]; rfl
theorem mEn_at (G : MG) (n n' : Nat) : ∀ (as : List MV) (i : Nat) (v : MV), (mEnL as ++ List.replicate n mN)[i]? = some v → isN v = false → (lg_sl (as.map (rz G)) ++ List.replicate n' Slot.unset)[i]? = some (.val (rz G v)) := by
  intro as
  induction as with
  | nil =>
    intro i v hv hn
    have hm : v ∈ List.replicate n mN := List.mem_of_getElem? hv
    rw [(List.mem_replicate.mp hm).2] at hn
    cases hn
  | cons a as ih =>
    intro i v hv hn
    have e1 : lg_sl ((a :: as).map (rz G)) = (if (rz G a).category = 2 then [.val (rz G a), .second] else [.val (rz G a)]) ++ lg_sl (as.map (rz G)) := rfl
    have e2 : mEnL (a :: as) = (if isL a = true then [a, mN] else [a]) ++ mEnL as := rfl
    rw [e2] at hv
    rw [e1]
    cases ha : isL a
    · rw [ha] at hv
      rw [if_neg (by rw [rz_cat1 G ha]; decide)]
      cases i with
      | zero => cases hv; rfl
      | succ i => exact ih i v hv hn
    · rw [ha] at hv
      rw [if_pos (rz_cat2 G ha)]
      cases i with
      | zero => cases hv; rfl
      | succ i =>
        cases i with
        | zero => cases hv; cases hn
        | succ i => exact ih i v hv hn
theorem mEn_ls (G : MG) (hen : (mEnL as).length ≤ kL k) : mLs G (kL k) ((lg_sl (as.map (rz G)) ++ List.replicate (kL k - (lg_sl (as.map (rz G))).length) Slot.unset).toArray) (mEn k as) := by
  obtain ⟨a1, a2, -⟩ := lv_entry (as.map (rz G)) (n := kL k) (by rw [mEnL_len]; exact hen)
  refine ⟨a1, a2, by unfold mEn; rw [List.length_append, List.length_replicate]; omega, fun i v hv hn => ?_⟩
  rw [List.getElem?_toArray]
  exact mEn_at G _ _ as i v hv hn
def mRm (d : Nat) (h : MH) : Room := { frames := mFr d, cells := mCM - h.1.length, slots := mSM - mSlt h, locals := mLo d }
def mPc (G : MG) (as : List MV) (h : MH) : Array Value → State → Prop := fun a s => a = (as.map (rz G)).toArray ∧ mP G s s.heap [] h ∧ va_K (gD G) mcl (mtys G) s ∧ mOld G s
def mQc (G : MG) (Q : MO → MH → Prop) (h : MH) : Array Value → State → Outcome → State → Prop := fun _ s o t =>
  ∃ (o' : MO) (h' : MH) (L : List Loc) (ck sk : Nat), o = rzo G o' ∧ s.WarmedH t.vm ∧ s.sameButNew ({ t with vm := s.vm } : State) L ck sk ∧ mP G s t.heap L h' ∧ ck + h.1.length = h'.1.length ∧ sk + mSlt h = mSlt h' ∧ Q o' h'
/-- a method's contract, out of its walk -/
theorem mMet {l : Launch} (hl : ∀ e' : Env, l.admits e' → e'.platform.stackTraces = false) (G : MG) (hpl : plainName (kY k).cls = true) (hk : kW k ∈ mTs) (hen : (mEnL as).length ≤ kL k) (hx : MX d k 0 (mEn k as) [] h Q) :
    MetFree l (kY k) (headSpec mTs (mRm d h)) (mPc G as h) (fun _ _ _ _ _ => True) (mQc G Q h) := by
  refine MetFree.of_bodyS (code := kB k) (maxLocals := kL k) (ret := kR k) hpl ?_ ?_
  · intro args s m hp hn
    obtain ⟨meth, c, a1, a2, a3, a4, a5, a6, -, -⟩ := kW_spec (atoms_spec (ws := mTs) hp _ hk) hn
    exact ⟨meth, c, a1, a2, a3, a4, a5, a6⟩
  · intro p e s m args below meth c s₁ B hml hP _
    obtain ⟨rfl, P, K, O⟩ := hP
    have hts := atoms_spec (ws := mTs) B.pre
    obtain ⟨meth', c', b1, b2, -, -, -, -, b7, -⟩ := kW_spec (hts _ hk) B.named
    cases B.method.symm.trans b1
    have hcode : meth.code = some c := (Stand.of_body B).code
    cases hcode.symm.trans b2
    have hh0 : s₁.heap = s.heap := by rw [B.state]; rfl
    have hw := hx l G p e (mRm d h) s m _ below meth c s.heap [] 0 0 _ h.1.length (mSlt h) hl
      ⟨B.exec, B.bytes, hml, B.returns, B.notSynchronized, findClass_of_methodNamed B.named, hts, K, b7, (name_of_methodNamed B.named B.method).1, Nat.le_refl _, Nat.le_refl _, O⟩ P (mEn_ls G hen) (Nat.zero_add _) (Nat.zero_add _)
      (by show mCM ≤ mCM - h.1.length + h.1.length; omega) (by show mSM ≤ mSM - mSlt h + mSlt h; omega)
    rw [lg_entry_eq]
    obtain ⟨t, a1, o, h', L, ck, sk, b1, b2, b3, b4, b5, b6, b7, b8⟩ := hw s₁ hh0 (Stand.of_body B)
    exact ⟨t, rzo G o, a1, b1, b2, o, h', L, ck, sk, rfl, b3, b4, b5, b6, b7, b8⟩
/-- a call, however it ends -/
theorem mCallAny {p : Program} {l : Launch} {e : Env} {R : Room} {s : State} {m : MethodId} {sargs : Array Value} {below : List Frame} {meth : Method} {c : Code} {U : State} {Ls : List Loc} {c0 s0 : Nat}
    (X : Stand p l e R s m sargs below meth c U Ls c0 s0) {y : MethodName} {S : Spec} {P : Array Value → State → Prop} {Qm : Array Value → State → Outcome → State → Prop} (hM : MetFree l y S P (fun _ _ _ _ _ => True) Qm)
    {g : JFrame} (hg : g.method = m) (hsize : g.locals.size = c.maxLocals) {ig : Instr} {len : Nat} (hdg : decode c.code g.pc = .ok (ig, len)) {mk : MethodId} (hn : U.methodNamed? y = some mk) {methY : Method} {cY : Code} (hmY : U.vm.method? mk = some methY) (hcY : methY.code = some cY)
    {kY : Class} (hkY : U.vm.classes[mk.cls]? = some kY) (hinitY : kY.init = .initialized) (hframes : S.room.frames + 1 ≤ R.frames) (hlocals : 2 * g.monitorRoom + (g.stack.map fun v => v.category).sum + (cY.maxLocals + 11) + S.room.locals ≤ R.locals)
    (h4 : c0 + S.room.cells ≤ R.cells) (h5 : s0 + S.room.slots ≤ R.slots) {a : Array Value} (h1 : S.pre.before a U = true) (hP : P a (U.calling g mk a)) {EE : Outcome → State → List Loc → Nat → Nat → Prop}
    (hQ : ∀ o t, Qm a (U.calling g mk a) o t → ∃ L kk n, (U.calling g mk a).WarmedH t.vm ∧ (U.calling g mk a).sameButNew ({ t with vm := (U.calling g mk a).vm } : State) L kk n ∧ EE o t L kk n) :
    ∃ (o : Outcome) (s₂ : State) (L : List Loc) (kk n : Nat), EE o s₂ L kk n ∧ s.WarmedH s₂.vm ∧ Stand p l e R s m sargs below meth c (({ U with heap := s₂.heap, slotsUsed := s₂.slotsUsed } : State).setVm s₂.vm) (Ls ++ L) (c0 + kk) (s0 + n) ∧
      (∀ v, o = .returned v → Steps p.tables e below (doInvoke e (U.setTop g) [] mk a).1 ((({ U with heap := s₂.heap, slotsUsed := s₂.slotsUsed } : State).setVm s₂.vm).setTop { g with pc := g.pc + len, stack := v.toList ++ g.stack })) ∧
      (∀ b, o = .threw b → Steps p.tables e below (doInvoke e (U.setTop g) [] mk a).1 (((({ U with heap := s₂.heap, slotsUsed := s₂.slotsUsed } : State).setVm s₂.vm).setTop g).pushFrame (.throwing b))) := by
  have h : At U g.method c below := by rw [hg]; exact X.here
  have happ : S.appliesLoose y e.platform (U.calling g mk a) = true :=
    Spec.appliesLoose_calling (g := g) h hdg hn hkY hinitY (X.room_calling (g := g) (R' := S.room) hsize hmY hcY hframes hlocals h4 h5) h1
  obtain ⟨mid, hmid⟩ := h.above
  have hfr : (U.setTop g).frames = (.java g :: mid) ++ below := by rw [State.frames_setTop' g h.top, hmid]; rfl
  obtain ⟨o, s₂, hsteps, -, hend, hq⟩ := Steps.callFree hM p X.admits X.cas X.clock (acts := []) hfr happ hP trivial
  have hq' : Qm a (U.calling g mk a) o s₂ := hq
  rw [State.frames_setTop' g h.top] at hend
  obtain ⟨L, kk, n, hW₂, hsm, hE⟩ := hQ _ _ hq'
  obtain ⟨e2, q2, q3, q4, q5, q6⟩ := hsm
  have e3 : s₂ = ({ (U.calling g mk a).setFrames s₂.frames with heap := s₂.heap, slotsUsed := s₂.slotsUsed } : State).setVm s₂.vm := by
    have : s₂ = ({ s₂ with vm := (U.calling g mk a).vm } : State).setVm s₂.vm := rfl
    rw [e2] at this
    exact this
  have hW' : U.WarmedH s₂.vm := hW₂
  obtain ⟨g₀, hg0⟩ := Option.isSome_iff_exists.mp h.top
  obtain ⟨r, hr⟩ := State.topJava?_eq_some.mp hg0
  have hr' : (({ U with heap := s₂.heap, slotsUsed := s₂.slotsUsed } : State).setVm s₂.vm).frames = .java g₀ :: r := hr
  have hsame : U.sameButNew ({ U with heap := s₂.heap, slotsUsed := s₂.slotsUsed } : State) L kk n := by
    refine ⟨?_, q2, q3, q4, q5, q6⟩
    obtain ⟨t, ht, -⟩ := State.frames_cons hr
    show ({ U with heap := s₂.heap, slotsUsed := s₂.slotsUsed } : State) = { U.setFrames U.frames with heap := s₂.heap, slotsUsed := s₂.slotsUsed }
    rw [State.setFrames_self ht]
  subst hg
  refine ⟨o, s₂, L, kk, n, hE, State.WarmedH.trans X.warmed hW',
    ⟨X.admits, X.cas, X.clock, X.frames, X.room, X.hears, X.method, X.code, (X.here.setHeapUsed s₂.heap s₂.slotsUsed).setVm hW'.alike, X.tail, State.WarmedH.trans X.warmed hW', X.limits, X.bytes, X.same.trans (hsame.setVm s.vm)⟩, ?_, ?_⟩
  · rintro v rfl
    obtain ⟨c₂, i₂, len₂, hc₂, hd₂, hf₂⟩ := hend
    have hcc : c₂ = c := by
      have h1 : s₂.code? g.method = U.code? g.method := by
        rw [State.code?_eq, State.code?_eq, hW'.alike.method?]
      exact Option.some.inj (hc₂.symm.trans (h1.trans h.code))
    subst hcc
    have hlen : len₂ = len := by rw [hdg] at hd₂; cases hd₂; rfl
    subst hlen
    have hs₂ : s₂ = (({ U with heap := s₂.heap, slotsUsed := s₂.slotsUsed } : State).setVm s₂.vm).setTop { g with pc := g.pc + len₂, stack := v.toList ++ g.stack } := by
      refine e3.trans ?_
      rw [hf₂, State.calling_eq h.top, State.setFrames_setFrames, State.setTop_of_frames _ hr', hr]
      rfl
    rw [← hs₂]
    exact hsteps
  · rintro b rfl
    have hf₂ : s₂.frames = .throwing b :: .java g :: U.frames.tail := hend
    have hs₂ : s₂ = (((({ U with heap := s₂.heap, slotsUsed := s₂.slotsUsed } : State).setVm s₂.vm).setTop g).pushFrame (.throwing b)) := by
      refine e3.trans ?_
      rw [hf₂, State.calling_eq h.top, State.setFrames_setFrames, State.pushFrame, State.frames_setTop _ hr', State.setTop_of_frames _ hr', State.setFrames_setFrames, hr]
      rfl
    rw [← hs₂]
    exact hsteps
/-- where an exception is under way in a method -/
def MT (d : Nat) (k : MK) (pc : Nat) (ls st : List MV) (a : Nat) (h : MH) (Q : MO → MH → Prop) : Prop :=
  ∀ (l : Launch) (G : MG) (p : Program) (e : Env) (R : Room) (s : State) (m : MethodId) (args : Array Value) (below : List Frame) (meth : Method) (c : Code) (H : Heap) (locs : List Loc) (cells slots : Nat) (LS : Array Slot) (c0 s0 : Nat),
    (∀ e' : Env, l.admits e' → e'.platform.stackTraces = false) → mC G d k p R s m args meth c → mP G s H locs h → mLs G (kL k) LS ls → cells + c0 = h.1.length → slots + s0 = mSlt h → mCM ≤ R.cells + c0 → mSM ≤ R.slots + s0 →
    ∀ T : State, T.heap = H → Stand p l e R s m args below meth c T locs cells slots → ∃ t, Steps p.tables e below ((T.setTop (F0 m pc LS (st.map (rz G)))).pushFrame (.throwing (gB G + a))) t ∧ mFin G s below c0 s0 Q t
theorem MT.out {a : Nat} (ho : ∀ x ∈ tableOf (kH k), covers x pc = false) (hq : Q (.inr a) h) : MT d k pc ls st a h Q := by
  intro l G p e R s m args below meth c H locs cells slots LS c0 s0 hl C P L h1 h2 h3 h4 T hT X
  obtain ⟨a1, a2, a3, a4, a5⟩ := X.leaveThrown (gB G + a) (g := F0 m pc LS (st.map (rz G))) rfl rfl rfl (fun x hx => ho x (by rw [← C.2.2.2.2.2.2.2.2.1]; exact hx)) (hlocks := C.2.2.2.2.1)
  refine ⟨_, a1, .inr a, h, locs, cells, slots, a2, a3, a4, a5, ?_, h1, h2, hq⟩
  have e : (T.setFrames (.throwing (gB G + a) :: below)).heap = H := hT
  rw [e]
  exact P
theorem x_athrow {a : Nat} (hd : decode (kB k) pc = .ok (.athrow, 1)) (hx : MT d k pc ls st a h Q) : MX d k pc ls (mR a :: st) h Q := by
  intro l G p e R s m args below meth c H locs cells slots LS c0 s0 hl C P L h1 h2 h3 h4 T hT X
  obtain ⟨t, a1, a2⟩ := hx l G p e R s m args below meth c H locs cells slots LS c0 s0 hl C P L h1 h2 h3 h4 T hT X
  refine ⟨t, ?_, a2⟩
  jvm_step X.here [X.here.top, C.1, C.2.1, hd, Op.athrow.wp_sem]
  exact a1
end MXC
