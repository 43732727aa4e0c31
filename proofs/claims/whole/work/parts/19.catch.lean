section MXG
variable {d : Nat} {k : MK} {pc : Nat} {ls st : List MV} {h : MH} {Q : MO → MH → Prop}
def FindsV (e : Env) (s : State) (f : JFrame) (a : Addr) (pc : Nat) (vm' : Vm) : Prop :=
  ∀ (Qh : Handler → Pre) (E : CtlPost) (b : Bool) (acts : List Action), wp (findHandler f a) Qh E e b acts s ↔ Qh (.found pc) b acts (s.setVm vm')
theorem stepCatch {e : Env} {s : State} {a : Addr} {f : JFrame} {r : List Frame} {pc : Nat} {vm' : Vm} (hfind : FindsV e s f a pc vm') :
    (stepThrowing e s a (.java f :: r)).Is ((s.setVm vm').setFrames (.java { f with pc := pc, stack := [.ref a] } :: r)) [] := by
  simp only [stepThrowing, searchFrame, vmDo]
  generalize hr : Sem.go _ e false [] s = res
  obtain ⟨as, rfl, ha⟩ := Sem.eq_ok_of hr (a := Handler.found pc) (s' := s.setVm vm') (acts' := []) (by simp [hfind _ _ _ _])
  exact ⟨rfl, ha⟩
theorem caughtV {tb : Tables} {e : Env} {s target : State} {g : JFrame} {c : Code} {below : List Frame} {a : Addr} (h : At s g.method c below) {pc : Nat} {vm' : Vm} (hfind : FindsV e ((s.setTop g).pushFrame (.throwing a)) g a pc vm')
    (hrest : Steps tb e below ((s.setVm vm').setTop { g with pc := pc, stack := [.ref a] }) target) : Steps tb e below ((s.setTop g).pushFrame (.throwing a)) target := by
  obtain ⟨hgo, hw⟩ := h.throwing a
  refine Steps.head hgo hw ?_
  rw [stepThread_throwing (frames_entered h.top _), (stepCatch (s := (s.setTop g).pushFrame (.throwing a)) hfind).1]
  obtain ⟨g₀, hg⟩ := Option.isSome_iff_exists.mp h.top
  obtain ⟨r, hr⟩ := State.topJava?_eq_some.mp hg
  have hr' : (s.setVm vm').frames = .java g₀ :: r := hr
  rw [State.setTop_of_frames _ hr'] at hrest
  have key : ∀ (u : State) (F F' : List Frame), ((u.setFrames F).setVm vm').setFrames F' = (u.setVm vm').setFrames F' := fun u F F' => by
    show ((u.setVm vm').setFrames F).setFrames F' = _
    rw [State.setFrames_setFrames]
  rw [hr, List.tail_cons, State.pushFrame, key, State.setTop_of_frames _ hr, key]
  exact hrest
/-- what an entry of the handler table links to -/
theorem link_of {p : Program} {l : Launch} {e : Env} {R : Room} {s : State} {m : MethodId} {args : Array Value} {below : List Frame} {meth : Method} {c : Code} {T : State} {locs : List Loc} {cells slots : Nat}
    (X : Stand p l e R s m args below meth c T locs cells slots) {own cls : String} {i : Nat} {cC : ClassId} (hown : s.vm.findClass own = some m.cls) (hlk : (Cond.classLink own i cls).before args s = true) (hf : s.vm.findClass cls = some cC) :
    ∀ vm₁ : Vm, s.WarmedH vm₁ → vm₁.ClassLinks e.platform m.cls i cC ∧ s.WarmedH (vm₁.noted m.cls i (.cls cC)) ∧ (∃ k, vm₁.classes[cC]? = some k) := by
  have hpl : e.platform.magicAccessors = ({} : Platform).magicAccessors := by rw [X.admits.platform]
  obtain ⟨c', hc', hcl⟩ := Cond.classLink_spec hown hlk e.platform hpl
  cases hf.symm.trans hc'
  obtain ⟨dk, _, _, kt, hd, _, _, _, _, hkt, _, hopen⟩ := hcl.here
  intro vm₁ hW
  obtain ⟨kt', hkt', -⟩ := hW.alike.2.2 _ _ hkt
  exact ⟨hW.classLinks hcl, hW.noted hd hopen (State.rightAt_cls hcl), kt', hkt'⟩
/-- the first entry catches: the thrown object's own class -/
theorem MT.catch1 {a te n : Nat} {x : ExceptionTableEntry} {r : List ExceptionTableEntry} {cls : String} {T0 : u_T} {N : Nat} (htab : tableOf (kH k) = x :: r) (hcov : covers x pc = true) (h0 : x.catchType ≠ 0) (hc : mcl[te]? = some (cls, T0, N)) (hte : te < 100) (ha : h.1[a]? = some (te, n))
    (hlk : Cond.classLink (kY k).cls x.catchType cls ∈ mTs) (hx : MX d k x.handlerPc ls [mR a] h Q) : MT d k pc ls st a h Q := by
  intro l G p e R s m args below meth c H locs cells slots LS c0 s0 hl C P L h1 h2 h3 h4 T hT X
  have hts := C.2.2.2.2.2.2.1
  have hKn := C.2.2.2.2.2.2.2.1.1 te _ hc
  have z := P.2.1 a te n ha
  rw [mE_obj hte] at z
  obtain ⟨r', hr', cell, q1, q2, q3, -⟩ := z
  cases hc.symm.trans hr'
  obtain ⟨g1, g2, g3⟩ := link_of X C.2.2.2.2.2.1 (hts _ hlk) hKn.2.1 T.vm X.warmed
  obtain ⟨t, a1, a2⟩ := hx l G p e R s m args below meth c H locs cells slots LS c0 s0 hl C P L h1 h2 h3 h4 (T.setVm (T.vm.noted m.cls x.catchType (.cls ((gD G).1 te)))) hT (X.noted g2)
  refine ⟨t, caughtV (g := F0 m pc LS (st.map (rz G))) X.here (vm' := T.vm.noted m.cls x.catchType (.cls ((gD G).1 te))) ?_ a1, a2⟩
  intro Qh E b acts
  rw [W.findHandler_eq (meth := meth) (code := c) X.method' X.code, C.2.2.2.2.2.2.2.2.1, htab]
  rw [goLink (e := e) (f := F0 m pc LS (st.map (rz G))) (a := gB G + a) (s := (T.setTop (F0 m pc LS (st.map (rz G)))).pushFrame (.throwing (gB G + a))) (c := (gD G).1 te) (cell := cell) hcov h0 g1 (by show T.heap[gB G + a]? = some cell; rw [hT]; exact q1) (fun q w => by rw [q3] at w; cases w) (by rw [q2]; exact g3) g3, if_pos (by rw [q2]; exact asg_self _ _)]
  rfl
/-- the first entry doesn't, the second does -/
theorem MT.catch2 {a n te t1 : Nat} {x1 x : ExceptionTableEntry} {r : List ExceptionTableEntry} {cls cls1 : String} {T0 T1 : u_T} {N N1 : Nat} (htab : tableOf (kH k) = x1 :: x :: r) (hcov1 : covers x1 pc = true) (h01 : x1.catchType ≠ 0) (hcov : covers x pc = true) (h0 : x.catchType ≠ 0)
    (hc1 : mcl[t1]? = some (cls1, T1, N1)) (hlk1 : Cond.classLink (kY k).cls x1.catchType cls1 ∈ mTs) (hno : cls = "java/lang/IllegalStateException" ∧ cls1 = "java/lang/IllegalArgumentException")
    (hc : mcl[te]? = some (cls, T0, N)) (hte : te < 100) (ha : h.1[a]? = some (te, n)) (hlk : Cond.classLink (kY k).cls x.catchType cls ∈ mTs) (hx : MX d k x.handlerPc ls [mR a] h Q) : MT d k pc ls st a h Q := by
  intro l G p e R s m args below meth c H locs cells slots LS c0 s0 hl C P L h1 h2 h3 h4 T hT X
  have hts := C.2.2.2.2.2.2.1
  have hKn := C.2.2.2.2.2.2.2.1.1 te _ hc
  have hKn1 := C.2.2.2.2.2.2.2.1.1 t1 _ hc1
  have hnot : s.vm.assignable ((gD G).1 te) ((gD G).1 t1) = false := C.2.2.2.2.2.2.2.2.2.2.2.2.2.2.2.2.2.2.1 _ _ (by rw [← hno.1]; exact hKn.2.1) (by rw [← hno.2]; exact hKn1.2.1)
  have z := P.2.1 a te n ha
  rw [mE_obj hte] at z
  obtain ⟨r', hr', cell, q1, q2, q3, -⟩ := z
  cases hc.symm.trans hr'
  obtain ⟨f1, f2, f3⟩ := link_of X C.2.2.2.2.2.1 (hts _ hlk1) hKn1.2.1 T.vm X.warmed
  obtain ⟨f4, f5, f6⟩ := link_of X C.2.2.2.2.2.1 (hts _ hlk) hKn.2.1 T.vm X.warmed
  obtain ⟨g1, g2, g3⟩ := link_of X C.2.2.2.2.2.1 (hts _ hlk) hKn.2.1 _ f2
  obtain ⟨t, a1, a2⟩ := hx l G p e R s m args below meth c H locs cells slots LS c0 s0 hl C P L h1 h2 h3 h4 (T.setVm ((T.vm.noted m.cls x1.catchType (.cls ((gD G).1 t1))).noted m.cls x.catchType (.cls ((gD G).1 te)))) hT (X.noted g2)
  refine ⟨t, caughtV (g := F0 m pc LS (st.map (rz G))) X.here (vm' := (T.vm.noted m.cls x1.catchType (.cls ((gD G).1 t1))).noted m.cls x.catchType (.cls ((gD G).1 te))) ?_ a1, a2⟩
  intro Qh E b acts
  rw [W.findHandler_eq (meth := meth) (code := c) X.method' X.code, C.2.2.2.2.2.2.2.2.1, htab]
  rw [goLink (e := e) (f := F0 m pc LS (st.map (rz G))) (a := gB G + a) (s := (T.setTop (F0 m pc LS (st.map (rz G)))).pushFrame (.throwing (gB G + a))) (c := (gD G).1 t1) (cell := cell) hcov1 h01 f1 (by show T.heap[gB G + a]? = some cell; rw [hT]; exact q1) (fun q w => by rw [q3] at w; cases w) (by rw [q2]; exact f6) f3,
    if_neg (by
      show ¬ T.vm.assignable cell.cls ((gD G).1 t1) = true
      rw [q2, X.warmed.alike.assignable, hnot]
      decide)]
  refine (goLink (e := e) (f := F0 m pc LS (st.map (rz G))) (a := gB G + a) (s := ((T.setTop (F0 m pc LS (st.map (rz G)))).pushFrame (.throwing (gB G + a))).setVm (T.vm.noted m.cls x1.catchType (.cls ((gD G).1 t1)))) (c := (gD G).1 te) (cell := cell) hcov h0 g1 (by show T.heap[gB G + a]? = some cell; rw [hT]; exact q1) (fun q w => by rw [q3] at w; cases w) (by rw [q2]; exact g3) g3).trans ?_
  rw [if_pos (by rw [q2]; exact asg_self _ _)]
  rfl
end MXG
