section MXM
variable {d d' : Nat} {k k' : MK} {pc : Nat} {ls st rest as : List MV} {h : MH} {Q Q' : MO → MH → Prop}
/-- a constructor of a nest mate -/
theorem x_callIN {idx a : Nat} {host : String} (hd : decode (kB k) pc = .ok (.invokespecial idx, 3)) (hk' : kOK k' as.length) (hkh : kH k' = []) (hkr : kR k' = none) (hin : (kY k').name = "<init>") (hlk : Cond.methodLinkNest (kY k).cls idx (kY k') host ∈ mTs) (hst : Cond.instanceMethod (kY k') ∈ mTs) (hen : (mEnL (mR a :: as)).length ≤ kL k') (hdd : d' + 1 ≤ d) (hcat : (rest.map catM).sum ≤ 16)
    (hx : MX d' k' 0 (mEn k' (mR a :: as)) [] h Q') (hret : ∀ v h', Q' (.inl v) h' → MX d k (pc + 3) ls (v.toList ++ rest) h' Q) (hthr : ∀ a h', Q' (.inr a) h' → MT d k pc ls rest a h' Q) : MX d k pc ls (as.reverse ++ mR a :: rest) h Q := by
  intro l G p e R s m args below meth c H locs cells slots LS c0 s0 hl C P L h1 h2 h3 h4 T hT X
  have hts := C.2.2.2.2.2.2.1
  have hcode : (Cond.code (kY k') (kB k') (kL k') none).before args s = true := by
    have z := hts _ hk'.2.1
    unfold kW at z
    rw [if_pos (by rw [hkh]; rfl), hkr] at z
    exact z
  have hpl : e.platform.magicAccessors = ({} : Platform).magicAccessors := by rw [X.admits.platform]
  obtain ⟨mk, methM, cM, kP, vm₁, hnamed, -, -, -, -, -, -, -, hW₁, hstep⟩ := Steps.initColdArgsNest (e := e) X.here C.1 X.warmed hpl C.2.2.2.2.2.1 hin ⟨hk'.2.2.2.1, hk'.2.2.2.2.1⟩ (hts _ hlk) (hts _ hst) hcode (f := F0 m pc LS ((as.reverse ++ mR a :: rest).map (rz G))) rfl (a := gB G + a) (argsL := as.map (rz G)) (rest := rest.map (rz G)) (fun sig hs => by rw [List.length_map]; exact hk'.len _ hs)
    (by show (as.reverse ++ mR a :: rest).map (rz G) = _; rw [List.map_append, List.map_reverse]; rfl) (by rw [C.2.1]; exact hd)
  obtain ⟨t, a1, a2⟩ := mCore hk' hen hdd hcat hx hret hthr hl C P L h1 h2 h3 h4 hT (X.noted hW₁) hnamed hd
  exact ⟨t, hstep t fun acts => by rw [doInvoke_state]; exact a1, a2⟩
theorem lo_13 {y A d : Nat} (h1 : y ≤ 16) (h4 : mLo d ≤ A) : y + 13 ≤ A := by
  unfold mLo at h4
  omega
theorem lo_18 {y A d : Nat} (h1 : y ≤ 16) (h4 : mLo d ≤ A) : 2 * 0 + y + 18 ≤ A := by
  unfold mLo at h4
  omega
/-! Math, of ints -/
theorem x_min {idx : Nat} {x y : Int} (hd : decode (kB k) pc = .ok (.invokestatic idx, 3)) (hlk : Cond.methodLink (kY k).cls idx Lib.Math.min.name ∈ mTs) (hst : Cond.static Lib.Math.min.name ∈ mTs) (hini : Cond.initialized "java/lang/Math" ∈ mTs) (hco : Cond.code Lib.Math.min.name Lib.Math.min.code 2 (some .int) ∈ mTs) (hxr : inR x) (hyr : inR y) (hcat : (st.map catM).sum ≤ 16)
    (hx : MX d k (pc + 3) ls (mI (if y < x then y else x) :: st) h Q) : MX d k pc ls (mI y :: mI x :: st) h Q := by
  intro l G p e R s m args below meth c H locs cells slots LS c0 s0 hl C P L h1 h2 h3 h4
  have hts := C.2.2.2.2.2.2.1
  refine va_mmin C.1 C.2.1 (C.2.2.1.trans L.1.symm) C.2.2.2.2.2.1 (hts _ hlk) (hts _ hst) (hts _ hini) (hts _ hco) (by have z := C.2.2.2.2.2.2.2.2.2.2.1; unfold mFr at z; omega) (by rw [catM_eq]; exact lo_13 hcat C.2.2.2.2.2.2.2.2.2.2.2.1) (by have z := P.1.2.1; omega) (by have z := P.1.2.2.1; omega) hd ?_
  have e1 : (if Int32.ofInt y < Int32.ofInt x then Int32.ofInt y else Int32.ofInt x) = Int32.ofInt (if y < x then y else x) := by
    by_cases q : y < x
    · rw [if_pos q, if_pos ((ofI_lt hyr hxr).mpr q)]
    · rw [if_neg q, if_neg (fun z => q ((ofI_lt hyr hxr).mp z))]
  rw [e1]
  exact hx l G p e R s m args below meth c H locs cells slots LS c0 s0 hl C P L h1 h2 h3 h4
theorem x_max {idx : Nat} {x y : Int} (hd : decode (kB k) pc = .ok (.invokestatic idx, 3)) (hlk : Cond.methodLink (kY k).cls idx Lib.Math.max.name ∈ mTs) (hst : Cond.static Lib.Math.max.name ∈ mTs) (hini : Cond.initialized "java/lang/Math" ∈ mTs) (hco : Cond.code Lib.Math.max.name Lib.Math.max.code 2 (some .int) ∈ mTs) (hxr : inR x) (hyr : inR y) (hcat : (st.map catM).sum ≤ 16)
    (hx : MX d k (pc + 3) ls (mI (if x < y then y else x) :: st) h Q) : MX d k pc ls (mI y :: mI x :: st) h Q := by
  intro l G p e R s m args below meth c H locs cells slots LS c0 s0 hl C P L h1 h2 h3 h4
  have hts := C.2.2.2.2.2.2.1
  refine va_mmax C.1 C.2.1 (C.2.2.1.trans L.1.symm) C.2.2.2.2.2.1 (hts _ hlk) (hts _ hst) (hts _ hini) (hts _ hco) (by have z := C.2.2.2.2.2.2.2.2.2.2.1; unfold mFr at z; omega) (by rw [catM_eq]; exact lo_13 hcat C.2.2.2.2.2.2.2.2.2.2.2.1) (by have z := P.1.2.1; omega) (by have z := P.1.2.2.1; omega) hd ?_
  have e1 : (if Int32.ofInt x < Int32.ofInt y then Int32.ofInt y else Int32.ofInt x) = Int32.ofInt (if x < y then y else x) := by
    by_cases q : x < y
    · rw [if_pos q, if_pos ((ofI_lt hxr hyr).mpr q)]
    · rw [if_neg q, if_neg (fun z => q ((ofI_lt hxr hyr).mp z))]
  rw [e1]
  exact hx l G p e R s m args below meth c H locs cells slots LS c0 s0 hl C P L h1 h2 h3 h4
theorem x_abs {idx : Nat} {x : Int} (hd : decode (kB k) pc = .ok (.invokestatic idx, 3)) (hlk : Cond.methodLink (kY k).cls idx Lib.Math.abs.name ∈ mTs) (hst : Cond.static Lib.Math.abs.name ∈ mTs) (hini : Cond.initialized "java/lang/Math" ∈ mTs) (hco : Cond.code Lib.Math.abs.name Lib.Math.abs.code 1 (some .int) ∈ mTs) (hxr : inR x) (hcat : (st.map catM).sum ≤ 16)
    (hx : MX d k (pc + 3) ls (mI (if 0 ≤ x then x else 0 - x) :: st) h Q) : MX d k pc ls (mI x :: st) h Q := by
  intro l G p e R s m args below meth c H locs cells slots LS c0 s0 hl C P L h1 h2 h3 h4
  have hts := C.2.2.2.2.2.2.1
  refine va_mabs C.1 C.2.1 (C.2.2.1.trans L.1.symm) C.2.2.2.2.2.1 (hts _ hlk) (hts _ hst) (hts _ hini) (hts _ hco) (by have z := C.2.2.2.2.2.2.2.2.2.2.1; unfold mFr at z; omega) (by rw [catM_eq]; exact lo_13 hcat C.2.2.2.2.2.2.2.2.2.2.2.1) (by have z := P.1.2.1; omega) (by have z := P.1.2.2.1; omega) hd ?_
  have e1 : (if (0 : Int32) ≤ Int32.ofInt x then Int32.ofInt x else 0 - Int32.ofInt x) = Int32.ofInt (if 0 ≤ x then x else 0 - x) := by
    by_cases q : 0 ≤ x
    · rw [if_pos q, if_pos (show (0 : Int32) ≤ Int32.ofInt x from (ofI_le inR_0 hxr).mpr q)]
    · rw [if_neg q, if_neg (show ¬ (0 : Int32) ≤ Int32.ofInt x from fun z => q ((ofI_le inR_0 hxr).mp z)), Int32.ofInt_sub]
      rfl
  rw [e1]
  exact hx l G p e R s m args below meth c H locs cells slots LS c0 s0 hl C P L h1 h2 h3 h4
/-! the law's script -/
theorem x_sld {j : Int} (hd : decode (kB k) pc = .ok (.iaload, 1)) (hj0 : 0 ≤ j) (hj1 : j < (mSc h).length) (hn : (mSc h).length < 2147483648) (hx : MX d k (pc + 1) ls (mI ((mSc h).getD j.toNat 0) :: st) h Q) : MX d k pc ls (mI j :: mS 200 :: st) h Q := by
  intro l G p e R s m args below meth c H locs cells slots LS c0 s0 hl C P L h1 h2 h3 h4
  have hs : mScr G s h := P.1.2.2.2
  refine va_sld C.1 C.2.1 hs.1 (Nat.lt_of_lt_of_le hs.2 (mOld.le C.2.2.2.2.2.2.2.2.2.2.2.2)) (A := fun q => gB G ≤ q) (by have z := hs.2; omega) P.2.2 (ofI_in hj0 hj1 hn) hd ?_
  show W _ _ _ _ _ _ _ _ _ _ _ _ _ _ _ (F0 m (pc + 1) LS (.int (Int32.ofInt ((mSc h).getD (Int32.ofInt j).toNatClampNeg 0)) :: st.map (rz G)))
  rw [ofI_clamp hj0 (by omega)]
  exact hx l G p e R s m args below meth c H locs cells slots LS c0 s0 hl C P L h1 h2 h3 h4
theorem x_slen (hd : decode (kB k) pc = .ok (.arraylength, 1)) (hx : MX d k (pc + 1) ls (mI ((mSc h).length : Int) :: st) h Q) : MX d k pc ls (mS 200 :: st) h Q := by
  intro l G p e R s m args below meth c H locs cells slots LS c0 s0 hl C P L h1 h2 h3 h4
  have hs : mScr G s h := P.1.2.2.2
  refine va_slen C.1 C.2.1 hs.1 (Nat.lt_of_lt_of_le hs.2 (mOld.le C.2.2.2.2.2.2.2.2.2.2.2.2)) (A := fun q => gB G ≤ q) (by have z := hs.2; omega) P.2.2 hd ?_
  rw [← ofI_nat]
  exact hx l G p e R s m args below meth c H locs cells slots LS c0 s0 hl C P L h1 h2 h3 h4
/-! System.arraycopy -/
def mCpI (h : MH) (a b sp dp n : Nat) : MH := (h.1, (fun c j => if c = b ∧ dp ≤ j ∧ j < dp + n then h.2.1 a (sp + (j - dp)) else h.2.1 c j), h.2.2)
def mCpL (h : MH) (a b sp dp n : Nat) : MH := (h.1, h.2.1, (fun c j => if c = b ∧ dp ≤ j ∧ j < dp + n then h.2.2.1 a (sp + (j - dp)) else h.2.2.1 c j), h.2.2.2)
theorem mE_cpI {G : MG} {a b sp dp n : Nat} (c : Nat) (hc : c ≠ b) (t n' : Nat) : mE G (mCpI h a b sp dp n) c t n' = mE G h c t n' := by
  have e : ∀ j, mGi (mCpI h a b sp dp n) c j = mGi h c j := fun j => if_neg (fun z => hc z.1)
  have e2 : ∀ j, mFv (mCpI h a b sp dp n) t c j = mFv h t c j := fun j => by unfold mFv; rw [e]; rfl
  unfold mE
  simp only [e, e2]
  rfl
theorem mE_cpL {G : MG} {a b sp dp n : Nat} (c : Nat) (hc : c ≠ b) (t n' : Nat) : mE G (mCpL h a b sp dp n) c t n' = mE G h c t n' := by
  have e : ∀ j, mGl (mCpL h a b sp dp n) c j = mGl h c j := fun j => if_neg (fun z => hc z.1)
  have e2 : ∀ j, mFv (mCpL h a b sp dp n) t c j = mFv h t c j := fun j => by unfold mFv; rw [e]; rfl
  unfold mE
  simp only [e, e2]
  rfl
theorem mP.locs' {G : MG} {s : State} {H : Heap} {locs locs' : List Loc} (P : mP G s H locs h) (hl : ∀ q ∈ locs', gB G ≤ q.base) : mP G s H locs' h := ⟨P.1, P.2.1, P.2.2.1, P.2.2.2.1, hl⟩
theorem ofI_neg {n : Nat} (hn : n < 2147483648) : ¬ Int32.ofInt (n : Int) < 0 := by
  rw [show (0 : Int32) = Int32.ofInt 0 from rfl, ofI_lt ⟨by omega, by omega⟩ inR_0]
  omega
theorem ofI_nclamp {n : Nat} (hn : n < 2147483648) : (Int32.ofInt (n : Int)).toNatClampNeg = n := by
  rw [ofI_clamp (by omega) (by omega)]
  rfl
theorem x_copyC {idx a b na nb sp dp n : Nat} (hd : decode (kB k) pc = .ok (.invokestatic idx, 3)) (hlk : Cond.methodLink (kY k).cls idx arraycopyName ∈ mTs) (hnat : Cond.native arraycopyName ∈ mTs) (hst : Cond.static arraycopyName ∈ mTs) (hini : Cond.initialized "java/lang/System" ∈ mTs)
    (ha : h.1[a]? = some (101, na)) (hb : h.1[b]? = some (101, nb)) (hs1 : sp + n ≤ na) (hs2 : dp + n ≤ nb) (hn1 : na < 2147483648) (hn2 : nb < 2147483648) (hfit : ∀ i, i < n → 0 ≤ mGi h a (sp + i) ∧ mGi h a (sp + i) < 65536) (hcat : (st.map catM).sum ≤ 16)
    (hx : MX d k (pc + 3) ls st (mCpI h a b sp dp n) Q) : MX d k pc ls (mI (n : Int) :: mI (dp : Int) :: mR b :: mI (sp : Int) :: mR a :: st) h Q := by
  intro l G p e R s m args below meth c H locs cells slots LS c0 s0 hl C P L h1 h2 h3 h4 T hT X
  have hts := C.2.2.2.2.2.2.1
  have hK := C.2.2.2.2.2.2.2.1
  have hc0 : H[gB G + a]? = some (arrV (gA G 101) na (fun j => (fun z : Int => Value.int (Int32.ofInt z)) (mGi h a j))) := at_icell P ha (by decide) (by decide) (by decide)
  have hc1 : H[gB G + b]? = some (arrV (gA G 101) nb (fun j => (fun z : Int => Value.int (Int32.ofInt z)) (mGi h b j))) := at_icell P hb (by decide) (by decide) (by decide)
  obtain ⟨-, k0, hk0, cm0, hkk0⟩ := (hK.2 1 _ rfl).1 na (fun j => (fun z : Int => Value.int (Int32.ofInt z)) (mGi h a j))
  obtain ⟨vm', X', step⟩ := X.arraycopy C.1 C.2.2.2.2.2.1 (hts _ hlk) (hts _ hnat) (hts _ hst) (hts _ hini) (src := gB G + a) (dst := gB G + b) (cs := arrV (gA G 101) na (fun j => (fun z : Int => Value.int (Int32.ofInt z)) (mGi h a j))) (cd := arrV (gA G 101) nb (fun j => (fun z : Int => Value.int (Int32.ofInt z)) (mGi h b j))) (srcPos := Int32.ofInt sp) (destPos := Int32.ofInt dp) (n := Int32.ofInt n) (by rw [hT]; exact hc0) (by rw [hT]; exact hc1)
    (fun _ h => by cases h) (fun _ h => by cases h) (fun h => by cases h) (fun h => by cases h) hk0 hk0 hkk0 hkk0 (by rfl) (ofI_neg (by omega)) (ofI_neg (by omega)) (ofI_neg (by omega))
    (by rw [ofI_toInt ⟨by omega, by omega⟩, ofI_toInt ⟨by omega, by omega⟩, arrV_size]; omega)
    (by rw [ofI_toInt ⟨by omega, by omega⟩, ofI_toInt ⟨by omega, by omega⟩, arrV_size]; omega)
    (fun vm₁ _ i hi => by
      rw [ofI_nclamp (by omega)] at hi
      have ee : (arrV (gA G 101) na (fun j => (fun z : Int => Value.int (Int32.ofInt z)) (mGi h a j))).slots.getD ((Int32.ofInt (sp : Int)).toNatClampNeg + i) .null = (fun z : Int => Value.int (Int32.ofInt z)) (mGi h a (sp + i)) := by
        rw [ofI_nclamp (by omega), Array.getD_eq_getD_getElem?, arrV_read _ _ (by omega)]
        rfl
      rw [ee]
      refine ⟨?_, trivial⟩
      · show (decide (0 ≤ Int32.ofInt (mGi h a (sp + i))) && decide (Int32.ofInt (mGi h a (sp + i)) ≤ 65535)) = true
        have hq := hfit i hi
        rw [show (0 : Int32) = Int32.ofInt 0 from rfl, show (65535 : Int32) = Int32.ofInt 65535 from rfl, Bool.and_eq_true, decide_eq_true_eq, decide_eq_true_eq, ofI_le inR_0 ⟨by omega, by omega⟩, ofI_le ⟨by omega, by omega⟩ ⟨by omega, by omega⟩]
        omega)
    (g := F0 m pc LS ((mI (n : Int) :: mI (dp : Int) :: mR b :: mI (sp : Int) :: mR a :: st).map (rz G))) rfl (L.1.trans C.2.2.1.symm) (rest := st.map (rz G)) rfl (by rw [C.2.1]; exact hd) (by have z := C.2.2.2.2.2.2.2.2.2.2.1; unfold mFr at z; omega) (by show 2 * 0 + ((st.map (rz G)).map fun v => v.category).sum + 18 ≤ R.locals; rw [catM_eq]; exact lo_18 hcat C.2.2.2.2.2.2.2.2.2.2.2.1)
  have e1 : copied (arrV (gA G 101) na (fun j => (fun z : Int => Value.int (Int32.ofInt z)) (mGi h a j))) (arrV (gA G 101) nb (fun j => (fun z : Int => Value.int (Int32.ofInt z)) (mGi h b j))) (Int32.ofInt sp) (Int32.ofInt dp) (Int32.ofInt n) = arrV (gA G 101) nb (fun j => (fun z : Int => Value.int (Int32.ofInt z)) (va_cpy (mGi h a) (mGi h b) sp dp n j)) := by
    have z := va_copied (fun z : Int => Value.int (Int32.ofInt z)) (gA G 101) (gA G 101) (n0 := na) (n1 := nb) (sp := sp) (dp := dp) (n := n) (mGi h a) (mGi h b) hs1
    unfold copied
    rw [ofI_nclamp (by omega), ofI_nclamp (by omega), ofI_nclamp (by omega)]
    exact z
  rw [e1] at X' step
  have hl2 : gB G + b < H.size := (Array.getElem?_eq_some_iff.mp hc1).1
  have hheap : ((T.setVm vm').setCell (gB G + b) (arrV (gA G 101) nb (fun j => (fun z : Int => Value.int (Int32.ofInt z)) (va_cpy (mGi h a) (mGi h b) sp dp n j)))).heap = H.setIfInBounds (gB G + b) (arrV (gA G 101) nb (fun j => (fun z : Int => Value.int (Int32.ofInt z)) (va_cpy (mGi h a) (mGi h b) sp dp n j))) := by rw [← hT]; rfl
  have P1 : mP G s (H.setIfInBounds (gB G + b) (arrV (gA G 101) nb (fun j => (fun z : Int => Value.int (Int32.ofInt z)) (va_cpy (mGi h a) (mGi h b) sp dp n j)))) (locs ++ [⟨gB G + b, 0⟩]) (mCpI h a b sp dp n) := by
    refine P.put (h' := mCpI h a b sp dp n) hb ⟨rfl, rfl⟩ (fun c hc t n => mE_cpI c hc t n) ?_ (by rw [Array.size_setIfInBounds]) (fun q hq => by rw [Array.getElem?_setIfInBounds, if_neg (Ne.symm hq)])
    rw [mE_int (by decide) (by decide) (by decide)]
    show (H.setIfInBounds (gB G + b) _)[gB G + b]? = some (arrV (gA G 101) nb fun j => (fun z : Int => Value.int (Int32.ofInt z)) (mGi (mCpI h a b sp dp n) b j))
    rw [Array.getElem?_setIfInBounds, if_pos rfl, if_pos hl2]
    congr 2
    funext j
    have ej : mGi (mCpI h a b sp dp n) b j = va_cpy (mGi h a) (mGi h b) sp dp n j := by
      show (if b = b ∧ dp ≤ j ∧ j < dp + n then mGi h a (sp + (j - dp)) else mGi h b j) = (if dp ≤ j ∧ j < dp + n then _ else _)
      by_cases q : dp ≤ j ∧ j < dp + n
      · rw [if_pos ⟨rfl, q⟩, if_pos q]
      · rw [if_neg (fun z => q z.2), if_neg q]
    rw [ej]
  obtain ⟨t, a1, a2⟩ := hx l G p e R s m args below meth c _ _ cells slots LS c0 s0 hl C (P1.locs' (locs' := locs ++ _) (fun q hq => by
    rcases List.mem_append.mp hq with z | z
    · exact P.2.2.2.2 q z
    · obtain ⟨y, -, hy⟩ := List.mem_map.mp z
      rw [← hy]
      exact Nat.le_add_right _ _)) L h1 h2 h3 h4 _ hheap X'
  exact ⟨t, step t a1, a2⟩
theorem x_copyJ {idx a b na nb sp dp n : Nat} (hd : decode (kB k) pc = .ok (.invokestatic idx, 3)) (hlk : Cond.methodLink (kY k).cls idx arraycopyName ∈ mTs) (hnat : Cond.native arraycopyName ∈ mTs) (hst : Cond.static arraycopyName ∈ mTs) (hini : Cond.initialized "java/lang/System" ∈ mTs)
    (ha : h.1[a]? = some (103, na)) (hb : h.1[b]? = some (103, nb)) (hs1 : sp + n ≤ na) (hs2 : dp + n ≤ nb) (hn1 : na < 2147483648) (hn2 : nb < 2147483648) (hcat : (st.map catM).sum ≤ 16)
    (hx : MX d k (pc + 3) ls st (mCpL h a b sp dp n) Q) : MX d k pc ls (mI (n : Int) :: mI (dp : Int) :: mR b :: mI (sp : Int) :: mR a :: st) h Q := by
  intro l G p e R s m args below meth c H locs cells slots LS c0 s0 hl C P L h1 h2 h3 h4 T hT X
  have hts := C.2.2.2.2.2.2.1
  have hK := C.2.2.2.2.2.2.2.1
  have hc0 : H[gB G + a]? = some (arrV (gA G 103) na (fun j => (fun z : Int64 => Value.long z) (mGl h a j))) := P.2.1 a 103 na ha
  have hc1 : H[gB G + b]? = some (arrV (gA G 103) nb (fun j => (fun z : Int64 => Value.long z) (mGl h b j))) := P.2.1 b 103 nb hb
  obtain ⟨-, k0, hk0, cm0, hkk0⟩ := (hK.2 3 _ rfl).1 na (fun j => (fun z : Int64 => Value.long z) (mGl h a j))
  obtain ⟨vm', X', step⟩ := X.arraycopy C.1 C.2.2.2.2.2.1 (hts _ hlk) (hts _ hnat) (hts _ hst) (hts _ hini) (src := gB G + a) (dst := gB G + b) (cs := arrV (gA G 103) na (fun j => (fun z : Int64 => Value.long z) (mGl h a j))) (cd := arrV (gA G 103) nb (fun j => (fun z : Int64 => Value.long z) (mGl h b j))) (srcPos := Int32.ofInt sp) (destPos := Int32.ofInt dp) (n := Int32.ofInt n) (by rw [hT]; exact hc0) (by rw [hT]; exact hc1)
    (fun _ h => by cases h) (fun _ h => by cases h) (fun h => by cases h) (fun h => by cases h) hk0 hk0 hkk0 hkk0 (by rfl) (ofI_neg (by omega)) (ofI_neg (by omega)) (ofI_neg (by omega))
    (by rw [ofI_toInt ⟨by omega, by omega⟩, ofI_toInt ⟨by omega, by omega⟩, arrV_size]; omega)
    (by rw [ofI_toInt ⟨by omega, by omega⟩, ofI_toInt ⟨by omega, by omega⟩, arrV_size]; omega)
    (fun vm₁ _ i hi => by
      rw [ofI_nclamp (by omega)] at hi
      have ee : (arrV (gA G 103) na (fun j => (fun z : Int64 => Value.long z) (mGl h a j))).slots.getD ((Int32.ofInt (sp : Int)).toNatClampNeg + i) .null = (fun z : Int64 => Value.long z) (mGl h a (sp + i)) := by
        rw [ofI_nclamp (by omega), Array.getD_eq_getD_getElem?, arrV_read _ _ (by omega)]
        rfl
      rw [ee]
      refine ⟨?_, trivial⟩
      · rfl)
    (g := F0 m pc LS ((mI (n : Int) :: mI (dp : Int) :: mR b :: mI (sp : Int) :: mR a :: st).map (rz G))) rfl (L.1.trans C.2.2.1.symm) (rest := st.map (rz G)) rfl (by rw [C.2.1]; exact hd) (by have z := C.2.2.2.2.2.2.2.2.2.2.1; unfold mFr at z; omega) (by show 2 * 0 + ((st.map (rz G)).map fun v => v.category).sum + 18 ≤ R.locals; rw [catM_eq]; exact lo_18 hcat C.2.2.2.2.2.2.2.2.2.2.2.1)
  have e1 : copied (arrV (gA G 103) na (fun j => (fun z : Int64 => Value.long z) (mGl h a j))) (arrV (gA G 103) nb (fun j => (fun z : Int64 => Value.long z) (mGl h b j))) (Int32.ofInt sp) (Int32.ofInt dp) (Int32.ofInt n) = arrV (gA G 103) nb (fun j => (fun z : Int64 => Value.long z) (va_cpy (mGl h a) (mGl h b) sp dp n j)) := by
    have z := va_copied (fun z : Int64 => Value.long z) (gA G 103) (gA G 103) (n0 := na) (n1 := nb) (sp := sp) (dp := dp) (n := n) (mGl h a) (mGl h b) hs1
    unfold copied
    rw [ofI_nclamp (by omega), ofI_nclamp (by omega), ofI_nclamp (by omega)]
    exact z
  rw [e1] at X' step
  have hl2 : gB G + b < H.size := (Array.getElem?_eq_some_iff.mp hc1).1
  have hheap : ((T.setVm vm').setCell (gB G + b) (arrV (gA G 103) nb (fun j => (fun z : Int64 => Value.long z) (va_cpy (mGl h a) (mGl h b) sp dp n j)))).heap = H.setIfInBounds (gB G + b) (arrV (gA G 103) nb (fun j => (fun z : Int64 => Value.long z) (va_cpy (mGl h a) (mGl h b) sp dp n j))) := by rw [← hT]; rfl
  have P1 : mP G s (H.setIfInBounds (gB G + b) (arrV (gA G 103) nb (fun j => (fun z : Int64 => Value.long z) (va_cpy (mGl h a) (mGl h b) sp dp n j)))) (locs ++ [⟨gB G + b, 0⟩]) (mCpL h a b sp dp n) := by
    refine P.put (h' := mCpL h a b sp dp n) hb ⟨rfl, rfl⟩ (fun c hc t n => mE_cpL c hc t n) ?_ (by rw [Array.size_setIfInBounds]) (fun q hq => by rw [Array.getElem?_setIfInBounds, if_neg (Ne.symm hq)])
    skip
    show (H.setIfInBounds (gB G + b) _)[gB G + b]? = some (arrV (gA G 103) nb fun j => (fun z : Int64 => Value.long z) (mGl (mCpL h a b sp dp n) b j))
    rw [Array.getElem?_setIfInBounds, if_pos rfl, if_pos hl2]
    congr 2
    funext j
    have ej : mGl (mCpL h a b sp dp n) b j = va_cpy (mGl h a) (mGl h b) sp dp n j := by
      show (if b = b ∧ dp ≤ j ∧ j < dp + n then mGl h a (sp + (j - dp)) else mGl h b j) = (if dp ≤ j ∧ j < dp + n then _ else _)
      by_cases q : dp ≤ j ∧ j < dp + n
      · rw [if_pos ⟨rfl, q⟩, if_pos q]
      · rw [if_neg (fun z => q z.2), if_neg q]
    rw [ej]
  obtain ⟨t, a1, a2⟩ := hx l G p e R s m args below meth c _ _ cells slots LS c0 s0 hl C (P1.locs' (locs' := locs ++ _) (fun q hq => by
    rcases List.mem_append.mp hq with z | z
    · exact P.2.2.2.2 q z
    · obtain ⟨y, -, hy⟩ := List.mem_map.mp z
      rw [← hy]
      exact Nat.le_add_right _ _)) L h1 h2 h3 h4 _ hheap X'
  exact ⟨t, step t a1, a2⟩
end MXM
