section MXH
variable {d : Nat} {k : MK} {pc : Nat} {ls st : List MV} {h : MH} {Q : MO → MH → Prop}
def lvl (G : MG) (ls : List MV) : List (Nat × Value) := (List.range ls.length).filterMap fun i => if isN (ls.getD i mN) then none else some (i, rz G (ls.getD i mN))
theorem lvl_mem {G : MG} {ls : List MV} {q : Nat × Value} : q ∈ lvl G ls ↔ ∃ v, ls[q.1]? = some v ∧ isN v = false ∧ q.2 = rz G v := by
  constructor
  · intro hq
    obtain ⟨i, hi, e⟩ := List.mem_filterMap.mp hq
    have hlt : i < ls.length := List.mem_range.mp hi
    by_cases hn : isN (ls.getD i mN) = true
    · rw [if_pos hn] at e; cases e
    · rw [if_neg hn] at e
      cases e
      have e2 : ls[i]? = some (ls.getD i mN) := by
        rw [List.getD_eq_getElem?_getD, List.getElem?_eq_getElem hlt]; rfl
      exact ⟨_, e2, by simpa using hn, rfl⟩
  · rintro ⟨v, hv, hn, e⟩
    have hlt : q.1 < ls.length := (List.getElem?_eq_some_iff.mp hv).1
    refine List.mem_filterMap.mpr ⟨q.1, List.mem_range.mpr hlt, ?_⟩
    have e2 : ls.getD q.1 mN = v := by rw [List.getD_eq_getElem?_getD, hv]; rfl
    rw [e2, hn, ← e]
    rfl
theorem mLs.has {G : MG} {n : Nat} {LS : Array Slot} {ls : List MV} (L : mLs G n LS ls) : lv_has LS n (lvl G ls) := by
  refine ⟨L.1, L.2.1, fun q hq => ?_⟩
  obtain ⟨v, hv, hn, e⟩ := lvl_mem.mp hq
  rw [e]
  exact L.2.2.2 _ _ hv hn
def okSt (ls : List MV) : Nat → Bool
  | 0 => true
  | j + 1 => !isL (ls.getD j mN)
theorem rz_cat {G : MG} {v : MV} : ((rz G v).category == 2) = isL v := by
  rcases v with x | x | (_ | x) | x <;> rfl
theorem mLs.st1 {G : MG} {n i : Nat} {LS LS' : Array Slot} {ls : List MV} {v : MV} (L : mLs G n LS ls) (hi : i < n) (ho : okSt ls i = true)
    (hh : lv_has LS' n ((i, rz G v) :: (lvl G ls).filter (fun q => !(q.1 == i) && !(q.1 + 1 == i && q.2.category == 2)))) : mLs G n LS' (ls.set i v) := by
  refine ⟨hh.1, hh.2.1, by rw [List.length_set]; exact L.2.2.1, fun j u hu hn => ?_⟩
  by_cases hj : j = i
  · subst hj
    rw [List.getElem?_set_self (by rw [L.2.2.1]; exact hi)] at hu
    cases hu
    exact hh.2.2 (j, rz G v) List.mem_cons_self
  · rw [List.getElem?_set_ne (Ne.symm hj)] at hu
    refine hh.2.2 (j, rz G u) (List.mem_cons_of_mem _ (List.mem_filter.mpr ⟨lvl_mem.mpr ⟨u, hu, hn, rfl⟩, ?_⟩))
    show (!(j == i) && !(j + 1 == i && (rz G u).category == 2)) = true
    rw [rz_cat]
    by_cases hj2 : j + 1 = i
    · subst hj2
      have e2 : ls.getD j mN = u := by rw [List.getD_eq_getElem?_getD, hu]; rfl
      simp only [okSt, e2] at ho
      simp [hj]
      simpa using ho
    · simp [hj, hj2]
theorem mLs.st2 {G : MG} {n i : Nat} {LS LS' : Array Slot} {ls : List MV} {x : Int64} (L : mLs G n LS ls) (hi : i + 1 < n) (ho : okSt ls i = true)
    (hh : lv_has LS' n ((i, Value.long x) :: (lvl G ls).filter (fun q => !(q.1 == i) && (!(q.1 == i + 1) && !(q.1 + 1 == i && q.2.category == 2))))) : mLs G n LS' ((ls.set i (mL x)).set (i + 1) mN) := by
  refine ⟨hh.1, hh.2.1, by rw [List.length_set, List.length_set]; exact L.2.2.1, fun j u hu hn => ?_⟩
  by_cases hj1 : j = i + 1
  · subst hj1
    rw [List.getElem?_set_self (by rw [List.length_set, L.2.2.1]; exact hi)] at hu
    cases hu
    cases hn
  rw [List.getElem?_set_ne (Ne.symm hj1)] at hu
  by_cases hj : j = i
  · subst hj
    rw [List.getElem?_set_self (by rw [L.2.2.1]; omega)] at hu
    cases hu
    exact hh.2.2 (j, Value.long x) List.mem_cons_self
  · rw [List.getElem?_set_ne (Ne.symm hj)] at hu
    refine hh.2.2 (j, rz G u) (List.mem_cons_of_mem _ (List.mem_filter.mpr ⟨lvl_mem.mpr ⟨u, hu, hn, rfl⟩, ?_⟩))
    show (!(j == i) && (!(j == i + 1) && !(j + 1 == i && (rz G u).category == 2))) = true
    rw [rz_cat]
    by_cases hj2 : j + 1 = i
    · subst hj2
      have e2 : ls.getD j mN = u := by rw [List.getD_eq_getElem?_getD, hu]; rfl
      simp only [okSt, e2] at ho
      simp [hj, hj1]
      simpa using ho
    · simp [hj, hj1, hj2]
theorem x_istore_n {i : Fin 4} {j : Nat} {x : Int} (hd : decode (kB k) pc = .ok (.istore_n i, 1)) (hj : (i : Nat) = j) (hn : j < kL k) (ho : okSt ls j = true) (hx : MX d k (pc + 1) (ls.set j (mI x)) st h Q) : MX d k pc ls (mI x :: st) h Q :=
  fun l G p e R s m args below meth c H locs cells slots LS c0 s0 hl C P L h1 h2 h3 h4 => lv_istore_n C.1 C.2.1 hd hj L.has hn rfl (fun ls' hh => hx l G p e R s m args below meth c H locs cells slots ls' c0 s0 hl C P (L.st1 hn ho hh) h1 h2 h3 h4)
theorem x_istore {j : Nat} {x : Int} (hd : decode (kB k) pc = .ok (.istore j, 2)) (hn : j < kL k) (ho : okSt ls j = true) (hx : MX d k (pc + 2) (ls.set j (mI x)) st h Q) : MX d k pc ls (mI x :: st) h Q :=
  fun l G p e R s m args below meth c H locs cells slots LS c0 s0 hl C P L h1 h2 h3 h4 => lv_istore C.1 C.2.1 hd L.has hn rfl (fun ls' hh => hx l G p e R s m args below meth c H locs cells slots ls' c0 s0 hl C P (L.st1 hn ho hh) h1 h2 h3 h4)
theorem x_astore_n {i : Fin 4} {j : Nat} {x : Nat} (hd : decode (kB k) pc = .ok (.astore_n i, 1)) (hj : (i : Nat) = j) (hn : j < kL k) (ho : okSt ls j = true) (hx : MX d k (pc + 1) (ls.set j (mR x)) st h Q) : MX d k pc ls (mR x :: st) h Q :=
  fun l G p e R s m args below meth c H locs cells slots LS c0 s0 hl C P L h1 h2 h3 h4 => lv_astore_n C.1 C.2.1 hd hj L.has hn rfl (fun ls' hh => hx l G p e R s m args below meth c H locs cells slots ls' c0 s0 hl C P (L.st1 hn ho hh) h1 h2 h3 h4)
theorem x_astore {j : Nat} {x : Nat} (hd : decode (kB k) pc = .ok (.astore j, 2)) (hn : j < kL k) (ho : okSt ls j = true) (hx : MX d k (pc + 2) (ls.set j (mR x)) st h Q) : MX d k pc ls (mR x :: st) h Q :=
  fun l G p e R s m args below meth c H locs cells slots LS c0 s0 hl C P L h1 h2 h3 h4 => lv_astore C.1 C.2.1 hd L.has hn rfl (fun ls' hh => hx l G p e R s m args below meth c H locs cells slots ls' c0 s0 hl C P (L.st1 hn ho hh) h1 h2 h3 h4)
theorem x_lstore_n {i : Fin 4} {j : Nat} {x : Int64} (hd : decode (kB k) pc = .ok (.lstore_n i, 1)) (hj : (i : Nat) = j) (hn : j + 1 < kL k) (ho : okSt ls j = true) (hx : MX d k (pc + 1) ((ls.set j (mL x)).set (j + 1) mN) st h Q) : MX d k pc ls (mL x :: st) h Q :=
  fun l G p e R s m args below meth c H locs cells slots LS c0 s0 hl C P L h1 h2 h3 h4 => lv_lstore_n C.1 C.2.1 hd hj L.has hn rfl (fun ls' hh => hx l G p e R s m args below meth c H locs cells slots ls' c0 s0 hl C P (L.st2 hn ho hh) h1 h2 h3 h4)
theorem x_lstore {j : Nat} {x : Int64} (hd : decode (kB k) pc = .ok (.lstore j, 2)) (hn : j + 1 < kL k) (ho : okSt ls j = true) (hx : MX d k (pc + 2) ((ls.set j (mL x)).set (j + 1) mN) st h Q) : MX d k pc ls (mL x :: st) h Q :=
  fun l G p e R s m args below meth c H locs cells slots LS c0 s0 hl C P L h1 h2 h3 h4 => lv_lstore C.1 C.2.1 hd L.has hn rfl (fun ls' hh => hx l G p e R s m args below meth c H locs cells slots ls' c0 s0 hl C P (L.st2 hn ho hh) h1 h2 h3 h4)
theorem x_iinc {j : Nat} {n x : Int} (hd : decode (kB k) pc = .ok (.iinc j n, 3)) (hl' : ls[j]? = some (mI x)) (hn : j < kL k) (ho : okSt ls j = true) (hx : MX d k (pc + 3) (ls.set j (mI (x + n))) st h Q) : MX d k pc ls st h Q := by
  intro l G p e R s m args below meth c H locs cells slots LS c0 s0 hl C P L h1 h2 h3 h4
  obtain ⟨q, hq⟩ := List.getElem?_of_mem (lvl_mem (G := G) (q := (j, rz G (mI x))).mpr ⟨mI x, hl', rfl, rfl⟩)
  exact lv_iinc C.1 C.2.1 hd L.has hq (Int32.ofInt_add x n).symm hn rfl (fun ls' hh => hx l G p e R s m args below meth c H locs cells slots ls' c0 s0 hl C P (L.st1 (v := mI (x + n)) hn ho hh) h1 h2 h3 h4)
/-! the ends -/
theorem W.mono {p : Program} {l : Launch} {e : Env} {R : Room} {s : State} {m : MethodId} {args : Array Value} {below : List Frame} {meth : Method} {c : Code} {H : Heap} {locs : List Loc} {cells slots : Nat} {Q Q' : State → Prop} {g : JFrame} (hq : ∀ t, Q t → Q' t) (hw : W p l e R s m args below meth c H locs cells slots Q g) : W p l e R s m args below meth c H locs cells slots Q' g := by
  intro T hT X
  obtain ⟨t, a, b⟩ := hw T hT X
  exact ⟨t, a, hq t b⟩
theorem mFin.ofMQ {G : MG} {s : State} {below : List Frame} {args : Array Value} {c0 s0 cells slots : Nat} {H : Heap} {locs : List Loc} {v : Option MV} (P : mP G s H locs h) (h1 : cells + c0 = h.1.length) (h2 : slots + s0 = mSlt h) (hq : Q (.inl v) h) :
    ∀ t, MQ below (fun _ _ o t => o = rzo G (.inl v) ∧ t.heap = H) args s cells slots (fun q => gB G ≤ q) t → mFin G s below c0 s0 Q t := by
  rintro t ⟨o, a1, a2, ⟨rfl, hH⟩, L, ⟨-, hW, hs⟩, hL⟩
  exact ⟨.inl v, h, L, cells, slots, a1, a2, hW, hs, ⟨by rw [hH]; exact P.1, by rw [hH]; exact P.2.1, by rw [hH]; exact ⟨P.2.2.1, P.2.2.2.1, hL⟩⟩, h1, h2, hq⟩
theorem x_ireturn {x : Int} (hd : decode (kB k) pc = .ok (.ireturn, 1)) (hr : kR k = some .int) (hq : Q (.inl (some (mI x))) h) : MX d k pc ls [mI x] h Q :=
  fun l G p e R s m args below meth c H locs cells slots LS c0 s0 hl C P L h1 h2 h3 h4 => W.mono (mFin.ofMQ (v := some (mI x)) P h1 h2 hq) (W.iret C.1 C.2.1 (C.2.2.2.1.trans hr) (fun t ht _ => ⟨rfl, ht⟩) P.2.2.2.2 hd (hlocks := C.2.2.2.2.1))
theorem x_zreturn {x : Int} (hd : decode (kB k) pc = .ok (.ireturn, 1)) (hr : kR k = some .boolean) (h01 : x = 0 ∨ x = 1) (hq : Q (.inl (some (mI x))) h) : MX d k pc ls [mI x] h Q :=
  fun l G p e R s m args below meth c H locs cells slots LS c0 s0 hl C P L h1 h2 h3 h4 => W.mono (mFin.ofMQ (v := some (mI x)) P h1 h2 hq) (W.zret C.1 C.2.1 (C.2.2.2.1.trans hr) (by rcases h01 with rfl | rfl <;> rfl) (fun t ht _ => ⟨rfl, ht⟩) P.2.2.2.2 hd (hlocks := C.2.2.2.2.1))
theorem x_lreturn {x : Int64} (hd : decode (kB k) pc = .ok (.lreturn, 1)) (hr : kR k = some .long) (hq : Q (.inl (some (mL x))) h) : MX d k pc ls [mL x] h Q :=
  fun l G p e R s m args below meth c H locs cells slots LS c0 s0 hl C P L h1 h2 h3 h4 => W.mono (mFin.ofMQ (v := some (mL x)) P h1 h2 hq) (W.lret C.1 C.2.1 (C.2.2.2.1.trans hr) (fun t ht _ => ⟨rfl, ht⟩) P.2.2.2.2 hd (hlocks := C.2.2.2.2.1))
theorem x_return (hd : decode (kB k) pc = .ok (.return_, 1)) (hr : kR k = none) (hq : Q (.inl none) h) : MX d k pc ls [] h Q :=
  fun l G p e R s m args below meth c H locs cells slots LS c0 s0 hl C P L h1 h2 h3 h4 => W.mono (mFin.ofMQ (v := none) P h1 h2 hq) (W.vret C.1 C.2.1 (C.2.2.2.1.trans hr) (fun t ht _ => ⟨rfl, ht⟩) P.2.2.2.2 hd (hlocks := C.2.2.2.2.1))
theorem x_areturn {a : Nat} {nm : String} (hd : decode (kB k) pc = .ok (.areturn, 1)) (hr : kR k = some (.object nm)) (hq : Q (.inl (some (mR a))) h) : MX d k pc ls [mR a] h Q :=
  fun l G p e R s m args below meth c H locs cells slots LS c0 s0 hl C P L h1 h2 h3 h4 => W.mono (mFin.ofMQ (v := some (mR a)) P h1 h2 hq) (W.aret C.1 C.2.1 (C.2.2.2.1.trans hr) (Or.inl ⟨_, rfl⟩) (Or.inr ⟨_, rfl⟩) (fun t ht _ => ⟨rfl, ht⟩) P.2.2.2.2 hd (hlocks := C.2.2.2.2.1))
/-! the heap -/
theorem mP.at {G : MG} {s : State} {H : Heap} {locs : List Loc} (P : mP G s H locs h) {a t n : Nat} (ha : h.1[a]? = some (t, n)) : va_P (gD G) mcl [(gB G + a, mE G h a t n)] H := by
  intro q x hx
  have hz : q < 1 := (List.getElem?_eq_some_iff.mp hx).1
  rw [show q = 0 by omega] at hx
  cases hx
  exact P.2.1 a t n ha
theorem mE_obj {G : MG} {a t n : Nat} (ht : t < 100) : mE G h a t n = .inr (t, (List.range n).map fun i => rz G (mFv h t a i)) := by unfold mE; rw [if_pos ht]
theorem mE_long {G : MG} {a n : Nat} : mE G h a 103 n = .inl (gA G 103, n, .inr (.inl fun j => mGl h a j)) := rfl
theorem mE_int {G : MG} {a t n : Nat} (h1 : ¬ t < 100) (h2 : ¬ t = 103) (h3 : t < 110) : mE G h a t n = .inl (gA G t, n, .inl fun j => Int32.ofInt (mGi h a j)) := by unfold mE; rw [if_neg h1, if_neg h2, if_pos h3]
theorem mE_ref {G : MG} {a t n : Nat} (h1 : ¬ t < 100) (h2 : ¬ t = 103) (h3 : ¬ t < 110) : mE G h a t n = .inl (gA G t, n, .inr (.inr (.inr (.inr fun j => (mGr h a j).map fun b => gB G + b)))) := by unfold mE; rw [if_neg h1, if_neg h2, if_neg h3]
theorem fs_at {G : MG} {a t n i : Nat} (hi : i < n) : ((List.range n).map fun i => rz G (mFv h t a i))[i]? = some (rz G (mFv h t a i)) := by
  rw [List.getElem?_map, List.getElem?_range hi]; rfl
/-- a field that may be read -/
def fOK (own : String) (idx t i : Nat) : Prop := ∃ (C : String) (T : u_T) (N : Nat), mcl[t]? = some (C, T, N) ∧ i < N ∧ (∀ w ∈ u_ws C T N, w ∈ mTs) ∧ Cond.fieldLink own idx (T i).1 (T i).2.1 (T i).2.2.1 ∈ mTs
theorem x_get {a t n i idx : Nat} (hd : decode (kB k) pc = .ok (.getfield idx, 3)) (hf : fOK (kY k).cls idx t i) (ha : h.1[a]? = some (t, n)) (ht : t < 100) (hi : i < n) (hx : MX d k (pc + 3) ls (mFv h t a i :: st) h Q) : MX d k pc ls (mR a :: st) h Q := by
  intro l G p e R s m args below meth c H locs cells slots LS c0 s0 hl C P L h1 h2 h3 h4
  obtain ⟨C0, T, N, hc, hk, hin, hlk⟩ := hf
  exact va_get (ref := (T i).1) C.1 C.2.1 C.2.2.2.2.2.2.1 hin C.2.2.2.2.2.1 C.2.2.2.2.2.2.2.1 (P.at ha) 0 (by rw [mE_obj ht]; rfl) hc i hk (C.2.2.2.2.2.2.1 _ hlk) (fun _ z => z) (fs_at hi) hd (hx l G p e R s m args below meth c H locs cells slots LS c0 s0 hl C P L h1 h2 h3 h4)
theorem x_getI {a t n i idx : Nat} (hd : decode (kB k) pc = .ok (.getfield idx, 3)) (hf : fOK (kY k).cls idx t i) (ha : h.1[a]? = some (t, n)) (ht : t < 100) (hi : i < n) (hk : mFk t i = 0) (hx : MX d k (pc + 3) ls (mI (mGi h a i) :: st) h Q) : MX d k pc ls (mR a :: st) h Q :=
  x_get hd hf ha ht hi (by unfold mFv; rw [hk]; exact hx)
theorem x_getR {a t n i idx b : Nat} (hd : decode (kB k) pc = .ok (.getfield idx, 3)) (hf : fOK (kY k).cls idx t i) (ha : h.1[a]? = some (t, n)) (ht : t < 100) (hi : i < n) (hk : mFk t i = 2) (hb : mGr h a i = some b) (hx : MX d k (pc + 3) ls (mR b :: st) h Q) : MX d k pc ls (mR a :: st) h Q :=
  x_get hd hf ha ht hi (by unfold mFv; rw [hk, hb]; exact hx)
theorem mP.put {G : MG} {s : State} {H H' : Heap} {locs : List Loc} (P : mP G s H locs h) {a t n j : Nat} {h' : MH} (ha : h.1[a]? = some (t, n)) (hsh : h'.1 = h.1 ∧ mSc h' = mSc h) (hoth : ∀ b, b ≠ a → ∀ t n, mE G h' b t n = mE G h b t n)
    (hnew : va_at (gD G) mcl (gB G + a, mE G h' a t n) H') (hsz : H'.size = H.size) (oq : ∀ q, q ≠ gB G + a → H'[q]? = H[q]?) : mP G s H' (locs ++ [⟨gB G + a, j⟩]) h' := by
  obtain ⟨hsh, hsc⟩ := hsh
  refine ⟨⟨by rw [hsz, hsh]; exact P.1.1, by rw [hsh]; exact P.1.2.1, by unfold mSlt; rw [hsh]; exact P.1.2.2.1, by unfold mScr; rw [hsc]; exact P.1.2.2.2⟩, fun b t' n' hb => ?_, P.2.2.put hsz oq (Nat.le_add_right _ _)⟩
  rw [hsh] at hb
  by_cases hba : b = a
  · subst hba
    cases ha.symm.trans hb
    exact hnew
  · rw [hoth b hba]
    exact (P.2.1 b t' n' hb).kept (oq _ (by simp only; omega))
theorem mE_pi {G : MG} {a i : Nat} {x : Int} (b : Nat) (hb : b ≠ a) (t n : Nat) : mE G (mPi h a i x) b t n = mE G h b t n := by
  have e : ∀ j, mGi (mPi h a i x) b j = mGi h b j := fun j => if_neg (fun z => hb z.1)
  have e2 : ∀ j, mFv (mPi h a i x) t b j = mFv h t b j := fun j => by unfold mFv; rw [e]; rfl
  unfold mE
  simp only [e, e2]
  rfl
theorem mE_pl {G : MG} {a i : Nat} {x : Int64} (b : Nat) (hb : b ≠ a) (t n : Nat) : mE G (mPl h a i x) b t n = mE G h b t n := by
  have e : ∀ j, mGl (mPl h a i x) b j = mGl h b j := fun j => if_neg (fun z => hb z.1)
  have e2 : ∀ j, mFv (mPl h a i x) t b j = mFv h t b j := fun j => by unfold mFv; rw [e]; rfl
  unfold mE
  simp only [e, e2]
  rfl
theorem mE_pr {G : MG} {a i : Nat} {x : Option Nat} (b : Nat) (hb : b ≠ a) (t n : Nat) : mE G (mPr h a i x) b t n = mE G h b t n := by
  have e : ∀ j, mGr (mPr h a i x) b j = mGr h b j := fun j => if_neg (fun z => hb z.1)
  have e2 : ∀ j, mFv (mPr h a i x) t b j = mFv h t b j := fun j => by unfold mFv; rw [e]; rfl
  unfold mE
  simp only [e, e2]
  rfl
/-- a field that may be written; final: in its own class's constructor -/
def pOK (own : String) (idx t i : Nat) (ty : FieldType) (fin : Bool) : Prop := ∃ (C : String) (T : u_T) (N : Nat) (ty0 : Nat → FieldType), mcl[t]? = some (C, T, N) ∧ i < N ∧ (∀ w ∈ u_ws C T N, w ∈ mTs) ∧ Cond.fieldLink own idx (T i).1 (T i).2.1 (T i).2.2.1 ∈ mTs ∧ (∀ j, j < N → parseFieldDescriptor (T j).2.2.1 = some (ty0 j)) ∧ (∀ a, a < N → ∀ b, b < N → a ≠ b → (T a).2.1 ≠ (T b).2.1) ∧ (T i).2.2.2 = fin ∧ parseFieldDescriptor (T i).2.2.1 = some ty ∧ (fin = true → (T i).1 = own)
/-- the object behind a write -/
theorem ob_put {G : MG} {a t n i N : Nat} {h' : MH} {v : MV} {cC : ClassId} {iS : Nat → Nat} {cell : Cell} {H' : Heap} (hc : ∃ r : vw_C, mcl[t]? = some r ∧ r.2.2 = N) (hN : N ≤ n) (hi : i < N) (hap : ∀ x y, x < N → y < N → x ≠ y → iS x ≠ iS y) (hD : (gD G).1 t = cC) (hD2 : (gD G).2 t = iS) (ht : t < 100)
    (q2 : cell.cls = cC) (q3 : cell.vm = .none) (q4 : ∀ j, j < N → cell.slots[iS j]? = some (vp_V ((List.range n).map fun i => rz G (mFv h t a i)) j)) (e1 : H'[gB G + a]? = some (cell.setSlot (iS i) (rz G v)))
    (hv : mFv h' t a i = v) (ho : ∀ j, j ≠ i → mFv h' t a j = mFv h t a j) : va_at (gD G) mcl (gB G + a, mE G h' a t n) H' := by
  rw [mE_obj ht]
  obtain ⟨r, hr, rfl⟩ := hc
  refine ⟨r, hr, ?_⟩
  subst hD
  subst hD2
  refine t_OB.to (V := updV (vp_V ((List.range n).map fun i => rz G (mFv h t a i))) i (rz G v)) ⟨_, e1, q2, q3, t_set q4 hap hi (rz G v)⟩ (fun j hj => ?_)
  have hjn : j < n := Nat.lt_of_lt_of_le hj hN
  have e : ∀ hh : MH, vp_V ((List.range n).map fun i => rz G (mFv hh t a i)) j = rz G (mFv hh t a j) := fun hh => by
    unfold vp_V
    rw [List.getD_eq_getElem?_getD, fs_at hjn]
    rfl
  rw [e h']
  unfold updV
  by_cases hji : j = i
  · subst hji
    rw [if_pos rfl, hv]
  · rw [if_neg hji, e h, ho j hji]
theorem x_put {a t n i idx : Nat} {v : MV} {ty : FieldType} {h' : MH} (hd : decode (kB k) pc = .ok (.putfield idx, 3)) (hf : pOK (kY k).cls idx t i ty false) (ha : h.1[a]? = some (t, n)) (ht : t < 100) (hN : ∃ r : vw_C, mcl[t]? = some r ∧ r.2.2 ≤ n)
    (hnar : ∀ G, narrow ty (rz G v) = rz G v) (hfit : ∀ G, fits ty (rz G v) = true) (hsh : h'.1 = h.1 ∧ mSc h' = mSc h) (hoth : ∀ G b, b ≠ a → ∀ t n, mE G h' b t n = mE G h b t n) (hv : mFv h' t a i = v) (ho : ∀ j, j ≠ i → mFv h' t a j = mFv h t a j)
    (hx : MX d k (pc + 3) ls st h' Q) : MX d k pc ls (v :: mR a :: st) h Q := by
  intro l G p e R s m args below meth c H locs cells slots LS c0 s0 hl C P L h1 h2 h3 h4
  obtain ⟨C0, T, N, ty0, hc, hk, hin, hlk, hty, hnm, hfin, hde, -⟩ := hf
  have hK := C.2.2.2.2.2.2.2.1
  have hts := C.2.2.2.2.2.2.1
  have hap := va_apart (own := (kY k).cls) hts hin ty0 hty hnm hK hc
  obtain ⟨r, hr1, cell, q1, q2, q3, q4⟩ := (show va_at (gD G) mcl (gB G + a, .inr (t, (List.range n).map fun i => rz G (mFv h t a i))) H from by have z := P.2.1 a t n ha; rw [mE_obj ht] at z; exact z)
  have hr : r = (C0, T, N) := Option.some.inj (hr1.symm.trans hc)
  subst hr
  obtain ⟨r', hr', hNn⟩ := hN
  cases hr'.symm.trans hc
  obtain ⟨hS, hfc, kC, hkC, hkind⟩ := hK.1 t _ hc
  obtain ⟨cf, kf, fi, f, hi', hsl⟩ := hS i hk
  have hlay := hts _ (hin _ (u_in_lay hk))
  unfold u_lay at hlay
  rw [if_neg (by rw [hfin]; decide)] at hlay
  have hst := (u_facts hfc hkC (u_lays hts hin hk) hi').1
  have h6 := u_store hfc hkC hkind hlay hi' hde (hnar G) (hfit G)
  refine W.putK C.1 C.2.1 (f := f) ⟨C.2.2.2.2.2.1, hts _ hlk, ⟨_, _, _, hi'⟩, hst⟩ (by rw [q2]; exact h6) q1 q3 (by rw [hsl]; exact k2_hasslot (q4 i hk)) rfl rfl hd fun H' e1 e2 e3 => ?_
  rw [hsl] at e1
  exact hx l G p e R s m args below meth c H' _ cells slots LS c0 s0 hl C (P.put ha hsh (hoth G) (ob_put ⟨_, hc, rfl⟩ hNn hk hap rfl rfl ht q2 q3 q4 e1 hv ho) e2 e3) L (by rw [hsh.1]; exact h1) (by unfold mSlt; rw [hsh.1]; exact h2) h3 h4
theorem x_putF {a t n i idx : Nat} {v : MV} {ty : FieldType} {h' : MH} (hd : decode (kB k) pc = .ok (.putfield idx, 3)) (hf : pOK (kY k).cls idx t i ty true) (hini : (kY k).name = "<init>") (ha : h.1[a]? = some (t, n)) (ht : t < 100) (hN : ∃ r : vw_C, mcl[t]? = some r ∧ r.2.2 ≤ n)
    (hnar : ∀ G, narrow ty (rz G v) = rz G v) (hfit : ∀ G, fits ty (rz G v) = true) (hsh : h'.1 = h.1 ∧ mSc h' = mSc h) (hoth : ∀ G b, b ≠ a → ∀ t n, mE G h' b t n = mE G h b t n) (hv : mFv h' t a i = v) (ho : ∀ j, j ≠ i → mFv h' t a j = mFv h t a j)
    (hx : MX d k (pc + 3) ls st h' Q) : MX d k pc ls (v :: mR a :: st) h Q := by
  intro l G p e R s m args below meth c H locs cells slots LS c0 s0 hl C P L h1 h2 h3 h4
  obtain ⟨C0, T, N, ty0, hc, hk, hin, hlk, hty, hnm, hfin, hde, hdecl⟩ := hf
  have hdecl := hdecl rfl
  have hK := C.2.2.2.2.2.2.2.1
  have hts := C.2.2.2.2.2.2.1
  have hown := C.2.2.2.2.2.1
  have hap := va_apart (own := (kY k).cls) hts hin ty0 hty hnm hK hc
  obtain ⟨r, hr1, cell, q1, q2, q3, q4⟩ := (show va_at (gD G) mcl (gB G + a, .inr (t, (List.range n).map fun i => rz G (mFv h t a i))) H from by have z := P.2.1 a t n ha; rw [mE_obj ht] at z; exact z)
  have hr : r = (C0, T, N) := Option.some.inj (hr1.symm.trans hc)
  subst hr
  obtain ⟨r', hr', hNn⟩ := hN
  cases hr'.symm.trans hc
  obtain ⟨hS, hfc, kC, hkC, hkind⟩ := hK.1 t _ hc
  obtain ⟨cf, kf, fi, f, hi', hsl⟩ := hS i hk
  have hlay := hts _ (hin _ (u_in_lay hk))
  unfold u_lay at hlay
  rw [if_pos hfin] at hlay
  have hst := (u_facts hfc hkC (u_lays hts hin hk) hi').1
  have hcf : m.cls = cf := by
    obtain ⟨_, _, c', _, _, _, -, -, hf', -, -, -, hown2, -⟩ := Cond.laysFinal_spec hlay
    have e1 : c' = cf := by have := hi'.symm.trans hf'; simp at this; exact this.1.symm
    rw [hdecl] at hown2
    rw [← e1]; exact Option.some.inj (hown.symm.trans hown2)
  have h6 := u_fits hfc hkC hkind (Or.inr hlay) hi' hde (hnar G) (hfit G)
  refine W.putFinK C.1 C.2.1 hown (hts _ hlk) hi' hst hcf (C.2.2.2.2.2.2.2.2.2.1.trans hini) (by rw [q2]; exact h6) q1 q3 (by rw [hsl]; exact k2_hasslot (q4 i hk)) rfl rfl hd fun H' e1 e2 e3 => ?_
  rw [hsl] at e1
  exact hx l G p e R s m args below meth c H' _ cells slots LS c0 s0 hl C (P.put ha hsh (hoth G) (ob_put ⟨_, hc, rfl⟩ hNn hk hap rfl rfl ht q2 q3 q4 e1 hv ho) e2 e3) L (by rw [hsh.1]; exact h1) (by unfold mSlt; rw [hsh.1]; exact h2) h3 h4
end MXH
