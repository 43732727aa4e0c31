/-! Strings: the constants, length and charAt (their bodies walked) -/
section Str
variable {d d' : Nat} {k k' : MK} {pc : Nat} {ls st rest as : List MV} {h : MH} {Q Q' : MO → MH → Prop}
theorem x_ldcS {idx i : Nat} {tx : String} (hd : decode (kB k) pc = .ok (.ldc idx, 2)) (hm : ((kY k).cls, idx, tx, i) ∈ mStrs) (hx : MX d k (pc + 2) ls (mS i :: st) h Q) : MX d k pc ls st h Q := by
  intro l G p e R s m args below meth c H locs cells slots LS c0 s0 hl C P L h1 h2 h3 h4
  exact va_ldcS C.1 C.2.1 C.2.2.2.2.2.1 (C.2.2.2.2.2.2.2.2.2.2.2.2.2.2.2.2.2.1 _ hm) hd (hx l G p e R s m args below meth c H locs cells slots LS c0 s0 hl C P L h1 h2 h3 h4)
theorem ldcWS {p : Program} {l : Launch} {e : Env} {R : Room} {s : State} {m : MethodId} {args : Array Value} {below : List Frame} {meth : Method} {c : Code} {T : State} {locs : List Loc} {cells slots : Nat}
    (X : Stand p l e R s m args below meth c T locs cells slots) (hexec : p.tables.exec = Jvm.exec) {own text : String} {index : Nat} {a : Addr} (hown : s.vm.findClass own = some m.cls)
    (hconst : (Cond.stringRef own index text).before args s = true) (hev : (Term.string own index).eval args s none [] s = some (.ref a)) {g : JFrame} (hg : g.method = m) (hdg : decode c.code g.pc = .ok (.ldc_w index, 3)) :
    ∀ target, Steps p.tables e below (T.setTop { g with pc := g.pc + 3, stack := .ref a :: g.stack }) target → Steps p.tables e below (T.setTop g) target := by
  obtain ⟨k, cf, i, a', hk, hcf, hcp, -, hr, hev'⟩ := Cond.stringRef_spec hown hconst
  cases hev.symm.trans hev'
  obtain ⟨k', hk', he⟩ := X.warmed.alike.2.2 _ _ hk
  have hr' : k'.resolved[index]? = some (some (.string a)) := by
    rcases X.warmed.entry hk hk' index with h | ⟨h, -⟩
    · rw [h]; exact hr
    · rw [hr] at h; cases h
  intro target hrest
  subst hg
  jvm_step X.here [hexec, hdg, Op.ldc_w.sem, ldc.wp_string (e := e) (s := T) (f := g) X.here.top hk' (by rw [he]; exact hcf) hcp hr']
  exact hrest
theorem x_ldcwS {idx i : Nat} {tx : String} (hd : decode (kB k) pc = .ok (.ldc_w idx, 3)) (hm : ((kY k).cls, idx, tx, i) ∈ mStrs) (hx : MX d k (pc + 3) ls (mS i :: st) h Q) : MX d k pc ls st h Q := by
  intro l G p e R s m args below meth c H locs cells slots LS c0 s0 hl C P L h1 h2 h3 h4 T hT X
  obtain ⟨t, a1, b1⟩ := hx l G p e R s m args below meth c H locs cells slots LS c0 s0 hl C P L h1 h2 h3 h4 T hT X
  have hZ := C.2.2.2.2.2.2.2.2.2.2.2.2.2.2.2.2.2.1 _ hm
  exact ⟨t, ldcWS X C.1 C.2.2.2.2.2.1 hZ.1 hZ.2 (g := F0 m pc LS (st.map (rz G))) rfl (by rw [C.2.1]; exact hd) t a1, b1⟩
theorem x_getSV {i idx : Nat} (hd : decode (kB k) pc = .ok (.getfield idx, 3)) (hlk : Cond.fieldLink (kY k).cls idx "java/lang/String" "value" "[B" ∈ mTs) (hi : i < 16) (hx : MX d k (pc + 3) ls (mS (100 + i) :: st) h Q) : MX d k pc ls (mS i :: st) h Q := by
  intro l G p e R s m args below meth c H locs cells slots LS c0 s0 hl C P L h1 h2 h3 h4
  have hts := C.2.2.2.2.2.2.1
  have hS := C.2.2.2.2.2.2.2.2.2.2.2.2.2.2.2.2.1
  exact vk_getf C.1 C.2.1 (hS.1 i hi).2.2.1 P.2.2 C.2.2.2.2.2.1 (hts _ hlk) (fun _ z => z) hd (hx l G p e R s m args below meth c H locs cells slots LS c0 s0 hl C P L h1 h2 h3 h4)
theorem x_getSC {i idx : Nat} (hd : decode (kB k) pc = .ok (.getfield idx, 3)) (hlk : Cond.fieldLink (kY k).cls idx "java/lang/String" "coder" "B" ∈ mTs) (hi : i < 16) (hx : MX d k (pc + 3) ls (mI 0 :: st) h Q) : MX d k pc ls (mS i :: st) h Q := by
  intro l G p e R s m args below meth c H locs cells slots LS c0 s0 hl C P L h1 h2 h3 h4
  have hts := C.2.2.2.2.2.2.1
  have hS := C.2.2.2.2.2.2.2.2.2.2.2.2.2.2.2.2.1
  exact vk_getf C.1 C.2.1 (hS.1 i hi).2.1 P.2.2 C.2.2.2.2.2.1 (hts _ hlk) (fun _ z => z) hd (hx l G p e R s m args below meth c H locs cells slots LS c0 s0 hl C P L h1 h2 h3 h4)
theorem x_statC {idx : Nat} (hd : decode (kB k) pc = .ok (.getstatic idx, 3)) (hlk : Cond.fieldLink (kY k).cls idx "java/lang/String" "COMPACT_STRINGS" "Z" ∈ mTs) (hx : MX d k (pc + 3) ls (mI 1 :: st) h Q) : MX d k pc ls st h Q := by
  intro l G p e R s m args below meth c H locs cells slots LS c0 s0 hl C P L h1 h2 h3 h4
  have hts := C.2.2.2.2.2.2.1
  exact va_gets C.1 C.2.1 C.2.2.2.2.2.2.2.2.2.2.2.2.2.2.2.1 P.2.2 C.2.2.2.2.2.1 (hts _ hlk) (fun _ z => z) hd (hx l G p e R s m args below meth c H locs cells slots LS c0 s0 hl C P L h1 h2 h3 h4)
theorem x_statF {idx : Nat} (hd : decode (kB k) pc = .ok (.getstatic idx, 3)) (hlk : Cond.fieldLink (kY k).cls idx "jdk/internal/util/Preconditions" "SIOOBE_FORMATTER" "Ljava/util/function/BiFunction;" ∈ mTs) (hx : ∀ w, w = mN ∨ w = mS 201 → MX d k (pc + 3) ls (w :: st) h Q) : MX d k pc ls st h Q := by
  intro l G p e R s m args below meth c H locs cells slots LS c0 s0 hl C P L h1 h2 h3 h4
  have hts := C.2.2.2.2.2.2.1
  obtain ⟨v, z, hv⟩ := C.2.2.2.2.2.2.2.2.2.2.2.2.2.2.2.2.2.2.2.2.2
  refine va_gets C.1 C.2.1 z P.2.2 C.2.2.2.2.2.1 (hts _ hlk) (fun _ z => z) hd ?_
  rcases hv with rfl | rfl
  · exact hx mN (.inl rfl) l G p e R s m args below meth c H locs cells slots LS c0 s0 hl C P L h1 h2 h3 h4
  · exact hx (mS 201) (.inr rfl) l G p e R s m args below meth c H locs cells slots LS c0 s0 hl C P L h1 h2 h3 h4
theorem s_len : ∀ i, i < 16 → mSLen.getD i 0 < 100 := by decide
theorem x_blen {i : Nat} (hd : decode (kB k) pc = .ok (.arraylength, 1)) (hi : i < 16) (hx : MX d k (pc + 1) ls (mI (mSLen.getD i 0 : Nat) :: st) h Q) : MX d k pc ls (mS (100 + i) :: st) h Q := by
  intro l G p e R s m args below meth c H locs cells slots LS c0 s0 hl C P L h1 h2 h3 h4
  have hS := C.2.2.2.2.2.2.2.2.2.2.2.2.2.2.2.2.1
  exact va_tlen C.1 C.2.1 (hS.1 i hi).2.2.2 P.2.2 (v := Int32.ofInt (mSLen.getD i 0 : Nat)) (ofI_nat _).symm hd (hx l G p e R s m args below meth c H locs cells slots LS c0 s0 hl C P L h1 h2 h3 h4)
def sCh (i : Nat) (j : Int) : Int := ((mSByt.getD i []).getD j.toNat 0).toInt
theorem x_bald {i : Nat} {j : Int} (hd : decode (kB k) pc = .ok (.baload, 1)) (hi : i < 16) (hj0 : 0 ≤ j) (hj1 : j < (mSLen.getD i 0 : Nat)) (hx : MX d k (pc + 1) ls (mI (sCh i j) :: st) h Q) : MX d k pc ls (mI j :: mS (100 + i) :: st) h Q := by
  intro l G p e R s m args below meth c H locs cells slots LS c0 s0 hl C P L h1 h2 h3 h4
  have hS := C.2.2.2.2.2.2.2.2.2.2.2.2.2.2.2.2.1
  have hb := s_len i hi
  refine va_tb C.1 C.2.1 (hS.1 i hi).2.2.2 P.2.2 (i := Int32.ofInt j) (ofI_in hj0 hj1 (by omega)) (v := .int (Int32.ofInt (sCh i j))) ?_ hd (hx l G p e R s m args below meth c H locs cells slots LS c0 s0 hl C P L h1 h2 h3 h4)
  rw [ofI_clamp hj0 (by omega)]
  unfold sCh
  rw [Int32.ofInt_toInt]
theorem s_ch : ∀ i, i < 16 → ∀ j, j < mSLen.getD i 0 → 0 ≤ ((mSByt.getD i []).getD j 0).toInt ∧ ((mSByt.getD i []).getD j 0).toInt < 128 := by decide +kernel
theorem sCh_r {i : Nat} {j : Int} (hi : i < 16) (hj0 : 0 ≤ j) (hj1 : j < (mSLen.getD i 0 : Nat)) : 0 ≤ sCh i j ∧ sCh i j < 128 := s_ch i hi j.toNat (by omega)
theorem and255 : ∀ n : Nat, n < 128 → Int32.ofInt n &&& Int32.ofInt 255 = Int32.ofInt n := by decide +kernel
theorem x_nreturn {x : Int} {ty : FieldType} (hd : decode (kB k) pc = .ok (.ireturn, 1)) (hr : kR k = some ty) (hn : narrow ty (.int (Int32.ofInt x)) = .int (Int32.ofInt x)) (hq : Q (.inl (some (mI x))) h) : MX d k pc ls [mI x] h Q :=
  fun l G p e R s m args below meth c H locs cells slots LS c0 s0 hl C P L h1 h2 h3 h4 => W.mono (mFin.ofMQ (v := some (mI x)) P h1 h2 hq) (W.zret C.1 C.2.1 (C.2.2.2.1.trans hr) hn (fun t ht _ => ⟨rfl, ht⟩) P.2.2.2.2 hd (hlocks := C.2.2.2.2.1))
/-- a virtual call on a constant -/
theorem x_callVS {idx i : Nat} (hd : decode (kB k) pc = .ok (.invokevirtual idx, 3)) (hk' : kOK k' as.length) (hlk : Cond.methodLink (kY k).cls idx (kY k') ∈ mTs) (hst : Cond.instanceMethod (kY k') ∈ mTs) (hsel : Cond.selects "java/lang/String" (kY k') (kY k') ∈ mTs) (hi : i < 16)
    (hen : (mEnL (mS i :: as)).length ≤ kL k') (hdd : d' + 1 ≤ d) (hcat : (rest.map catM).sum ≤ 16)
    (hx : MX d' k' 0 (mEn k' (mS i :: as)) [] h Q') (hret : ∀ v h', Q' (.inl v) h' → MX d k (pc + 3) ls (v.toList ++ rest) h' Q) (hthr : ∀ a h', Q' (.inr a) h' → MT d k pc ls rest a h' Q) : MX d k pc ls (as.reverse ++ mS i :: rest) h Q := by
  intro l G p e R s m args below meth c H locs cells slots LS c0 s0 hl C P L h1 h2 h3 h4 T hT X
  have hts := C.2.2.2.2.2.2.1
  have hS := C.2.2.2.2.2.2.2.2.2.2.2.2.2.2.2.2.1
  have hcode := hts _ hk'.2.1
  have hy : (kY k').cls ≠ "java/lang/invoke/MethodHandle" ∧ (kY k').cls ≠ "java/lang/invoke/VarHandle" := ⟨hk'.2.2.2.1, hk'.2.2.2.2.1⟩
  obtain ⟨cellB, hcell, hobj, hcls⟩ := vk_recv hS hi P.2.2
  obtain ⟨mk, methM, hnamed, hmethM, hstM, habM⟩ := Cond.instanceMethod_spec (hts _ hst)
  obtain ⟨methM', cM, hmethM', -, -, -, -, -, -, hsigM⟩ := kW_spec hcode hnamed
  cases hmethM.symm.trans hmethM'
  obtain ⟨c2, r2, m2, q1, q2, q3, q4, kP, hkP, hkPi⟩ := Cond.selects_spec (hts _ hsel)
  cases hcls.symm.trans q1
  cases (State.methodFound?_of_named hnamed hy).symm.trans q2
  cases hnamed.symm.trans q3
  have hselP : selectMethod e.platform s.vm cellB.cls mk = .method mk := by rw [Launch.admits_selectMethod X.admits]; exact q4
  obtain ⟨vm₁, X₁, hstep⟩ := X.invokevirtual C.1 C.2.2.2.2.2.1 (hts _ hlk) hnamed hmethM hstM hkP hkPi hy (a := gO G i) (cell := cellB) (by rw [hT]; exact hcell)
    (fun z hz => by rw [hz] at hobj; cases hobj) hselP hmethM habM hkP hkPi (g := F0 m pc LS ((as.reverse ++ mS i :: rest).map (rz G))) rfl (argsL := as.map (rz G)) (rest := rest.map (rz G)) (by rw [List.length_map]; exact hk'.len _ hsigM) (by show (as.reverse ++ mS i :: rest).map (rz G) = _; rw [List.map_append, List.map_reverse]; rfl) (by rw [C.2.1]; exact hd)
  obtain ⟨t', a1, a2⟩ := mCore hk' hen hdd hcat hx hret hthr hl C P L h1 h2 h3 h4 hT X₁ hnamed hd
  exact ⟨t', hstep t' fun acts => by rw [doInvoke_state]; exact a1, a2⟩
theorem x_dVS {idx i : Nat} {v : Option MV} {h1 : MH} (hd : decode (kB k) pc = .ok (.invokevirtual idx, 3)) (hk' : kOK k' as.length) (hlk : Cond.methodLink (kY k).cls idx (kY k') ∈ mTs) (hst : Cond.instanceMethod (kY k') ∈ mTs) (hsel : Cond.selects "java/lang/String" (kY k') (kY k') ∈ mTs) (hi : i < 16)
    (hen : (mEnL (mS i :: as)).length ≤ kL k') (hdd : d' + 1 ≤ d) (hcat : (rest.map catM).sum ≤ 16) (hx : CD d' k' (mEn k' (mS i :: as)) h v h1) (hn : MX d k (pc + 3) ls (v.toList ++ rest) h1 Q) : MX d k pc ls (as.reverse ++ mS i :: rest) h Q :=
  x_callVS hd hk' hlk hst hsel hi hen hdd hcat hx.use (fun _ _ e => by cases e.1; cases e.2; exact hn) (fun _ _ e => by cases e.1)
def k_St_length : ByteArray × Nat × MethodName × Option FieldType × List (Nat × Nat × Nat × Nat) := (prog_20_method_54_code, 1, ⟨"java/lang/String", "length", "()I"⟩, some .int, [])
theorem o_St_length : kOK k_St_length 0 := ⟨by decide +kernel, mT3 102 rfl rfl, by decide, by decide +kernel, by decide +kernel, by decide +kernel, mT1 21 rfl rfl⟩
def k_St_coder : ByteArray × Nat × MethodName × Option FieldType × List (Nat × Nat × Nat × Nat) := (prog_20_method_152_code, 1, ⟨"java/lang/String", "coder", "()B"⟩, some .byte, [])
theorem o_St_coder : kOK k_St_coder 0 := ⟨by decide +kernel, mT3 106 rfl rfl, by decide, by decide +kernel, by decide +kernel, by decide +kernel, mT1 21 rfl rfl⟩
def k_St_charAt : ByteArray × Nat × MethodName × Option FieldType × List (Nat × Nat × Nat × Nat) := (prog_20_method_56_code, 2, ⟨"java/lang/String", "charAt", "(I)C"⟩, some .char, [])
theorem o_St_charAt : kOK k_St_charAt 1 := ⟨by decide +kernel, mT3 112 rfl rfl, by decide, by decide +kernel, by decide +kernel, by decide +kernel, mT1 21 rfl rfl⟩
def k_St_isLatin1 : ByteArray × Nat × MethodName × Option FieldType × List (Nat × Nat × Nat × Nat) := (prog_20_method_154_code, 1, ⟨"java/lang/String", "isLatin1", "()Z"⟩, some .boolean, [])
theorem o_St_isLatin1 : kOK k_St_isLatin1 0 := ⟨by decide +kernel, mT3 116 rfl rfl, by decide, by decide +kernel, by decide +kernel, by decide +kernel, mT1 21 rfl rfl⟩
def k_SL_charAt : ByteArray × Nat × MethodName × Option FieldType × List (Nat × Nat × Nat × Nat) := (prog_21_method_2_code, 2, ⟨"java/lang/StringLatin1", "charAt", "([BI)C"⟩, some .char, [])
theorem o_SL_charAt : kOK k_SL_charAt 2 := ⟨by decide +kernel, mT3 119 rfl rfl, by decide, by decide +kernel, by decide +kernel, by decide +kernel, mT1 22 rfl rfl⟩
def k_St_checkIndex : ByteArray × Nat × MethodName × Option FieldType × List (Nat × Nat × Nat × Nat) := (prog_20_method_155_code, 2, ⟨"java/lang/String", "checkIndex", "(II)V"⟩, none, [])
theorem o_St_checkIndex : kOK k_St_checkIndex 2 := ⟨by decide +kernel, mT3 122 rfl rfl, by decide, by decide +kernel, by decide +kernel, by decide +kernel, mT1 21 rfl rfl⟩
def k_Pr_checkIndex : ByteArray × Nat × MethodName × Option FieldType × List (Nat × Nat × Nat × Nat) := (prog_26_method_11_code, 3, ⟨"jdk/internal/util/Preconditions", "checkIndex", "(IILjava/util/function/BiFunction;)I"⟩, some .int, [])
theorem o_Pr_checkIndex : kOK k_Pr_checkIndex 3 := ⟨by decide +kernel, mT3 127 rfl rfl, by decide, by decide +kernel, by decide +kernel, by decide +kernel, mT1 23 rfl rfl⟩
def D_St_length : List (Nat × Instr × Nat) := [(0, .aload_n 0, 1), (1, .getfield 9, 3), (4, .arraylength, 1), (5, .aload_n 0, 1), (6, .invokevirtual 335, 3), (9, .ishr, 1), (10, .ireturn, 1)]
theorem d_St_length : dOK (kB k_St_length) D_St_length := by decide +kernel
def D_St_coder : List (Nat × Instr × Nat) := [(0, .getstatic 38, 3), (3, .ifCond .eq 10, 3), (6, .aload_n 0, 1), (7, .getfield 15, 3), (10, .goto 4, 3), (13, .iconst 1, 1), (14, .ireturn, 1)]
theorem d_St_coder : dOK (kB k_St_coder) D_St_coder := by decide +kernel
def D_St_charAt : List (Nat × Instr × Nat) := [(0, .aload_n 0, 1), (1, .invokevirtual 492, 3), (4, .ifCond .eq 12, 3), (7, .aload_n 0, 1), (8, .getfield 9, 3), (11, .iload_n 1, 1), (12, .invokestatic 495, 3), (15, .ireturn, 1)]
theorem d_St_charAt : dOK (kB k_St_charAt) D_St_charAt := by decide +kernel
def D_St_isLatin1 : List (Nat × Instr × Nat) := [(0, .getstatic 38, 3), (3, .ifCond .eq 14, 3), (6, .aload_n 0, 1), (7, .getfield 15, 3), (10, .ifCond .ne 7, 3), (13, .iconst 1, 1), (14, .goto 4, 3), (17, .iconst 0, 1), (18, .ireturn, 1)]
theorem d_St_isLatin1 : dOK (kB k_St_isLatin1) D_St_isLatin1 := by decide +kernel
def D_SL_charAt : List (Nat × Instr × Nat) := [(0, .iload_n 1, 1), (1, .aload_n 0, 1), (2, .arraylength, 1), (3, .invokestatic 9, 3), (6, .aload_n 0, 1), (7, .iload_n 1, 1), (8, .baload, 1), (9, .sipush 255, 3), (12, .iand, 1), (13, .i2c, 1), (14, .ireturn, 1)]
theorem d_SL_charAt : dOK (kB k_SL_charAt) D_SL_charAt := by decide +kernel
def D_St_checkIndex : List (Nat × Instr × Nat) := [(0, .iload_n 0, 1), (1, .iload_n 1, 1), (2, .getstatic 1053, 3), (5, .invokestatic 1059, 3), (8, .pop, 1), (9, .return_, 1)]
theorem d_St_checkIndex : dOK (kB k_St_checkIndex) D_St_checkIndex := by decide +kernel
def D_Pr_checkIndex : List (Nat × Instr × Nat) := [(0, .iload_n 0, 1), (1, .ifCond .lt 8, 3), (4, .iload_n 0, 1), (5, .iload_n 1, 1), (6, .if_icmp .lt 10, 3), (16, .iload_n 0, 1), (17, .ireturn, 1)]
theorem d_Pr_checkIndex : dOK (kB k_Pr_checkIndex) D_Pr_checkIndex := by decide +kernel
theorem lk_St_335 : Cond.methodLink "java/lang/String" 335 (kY k_St_coder) ∈ mTs := mT3 103 rfl rfl
theorem im_St_coder : Cond.instanceMethod (kY k_St_coder) ∈ mTs := mT3 104 rfl rfl
theorem se_St_coder : Cond.selects "java/lang/String" (kY k_St_coder) (kY k_St_coder) ∈ mTs := mT3 105 rfl rfl
theorem im_St_length : Cond.instanceMethod (kY k_St_length) ∈ mTs := mT3 100 rfl rfl
theorem se_St_length : Cond.selects "java/lang/String" (kY k_St_length) (kY k_St_length) ∈ mTs := mT3 101 rfl rfl
theorem im_St_charAt : Cond.instanceMethod (kY k_St_charAt) ∈ mTs := mT3 110 rfl rfl
theorem se_St_charAt : Cond.selects "java/lang/String" (kY k_St_charAt) (kY k_St_charAt) ∈ mTs := mT3 111 rfl rfl
theorem lk_St_492 : Cond.methodLink "java/lang/String" 492 (kY k_St_isLatin1) ∈ mTs := mT3 113 rfl rfl
theorem im_St_isLatin1 : Cond.instanceMethod (kY k_St_isLatin1) ∈ mTs := mT3 114 rfl rfl
theorem se_St_isLatin1 : Cond.selects "java/lang/String" (kY k_St_isLatin1) (kY k_St_isLatin1) ∈ mTs := mT3 115 rfl rfl
theorem lk_St_495 : Cond.methodLink "java/lang/String" 495 (kY k_SL_charAt) ∈ mTs := mT3 117 rfl rfl
theorem st_SL_charAt : Cond.static (kY k_SL_charAt) ∈ mTs := mT3 118 rfl rfl
theorem lk_SL_9 : Cond.methodLink "java/lang/StringLatin1" 9 (kY k_St_checkIndex) ∈ mTs := mT3 120 rfl rfl
theorem st_St_checkIndex : Cond.static (kY k_St_checkIndex) ∈ mTs := mT3 121 rfl rfl
theorem lk_St_1059 : Cond.methodLink "java/lang/String" 1059 (kY k_Pr_checkIndex) ∈ mTs := mT3 125 rfl rfl
theorem st_Pr_checkIndex : Cond.static (kY k_Pr_checkIndex) ∈ mTs := mT3 126 rfl rfl
theorem fl_cs : Cond.fieldLink "java/lang/String" 38 "java/lang/String" "COMPACT_STRINGS" "Z" ∈ mTs := mT3 107 rfl rfl
theorem fl_sf : Cond.fieldLink "java/lang/String" 1053 "jdk/internal/util/Preconditions" "SIOOBE_FORMATTER" "Ljava/util/function/BiFunction;" ∈ mTs := mT3 123 rfl rfl
theorem fl_val : Cond.fieldLink "java/lang/String" 9 "java/lang/String" "value" "[B" ∈ mTs := mT8 32 rfl rfl
theorem fl_cod : Cond.fieldLink "java/lang/String" 15 "java/lang/String" "coder" "B" ∈ mTs := mT8 33 rfl rfl
theorem slk_T_123 : Cond.methodLink "TwoMills" 123 (kY k_St_length) ∈ mTs := mT3 99 rfl rfl
theorem slk_T_127 : Cond.methodLink "TwoMills" 127 (kY k_St_charAt) ∈ mTs := mT3 109 rfl rfl
theorem c_St_coder {i : Nat} (hi : i < 16) : CD 0 k_St_coder [mS i] h (some (mI 0)) h := by
  intro Q hQ
  refine x_statC (dA d_St_coder 0 rfl) fl_cs ?_
  refine x_if_eq (dA d_St_coder 1 rfl) rfl (by unfold inR; omega) (fun hc => absurd hc (by decide)) (fun hc => ?_)
  refine x_sload_n (dA d_St_coder 2 rfl) rfl rfl ?_
  refine x_getSC (dA d_St_coder 3 rfl) fl_cod hi ?_
  refine x_goto (dA d_St_coder 4 rfl) rfl ?_
  exact x_nreturn (dA d_St_coder 6 rfl) rfl rfl hQ
theorem c_St_length {i : Nat} (hi : i < 16) : CD 1 k_St_length [mS i] h (some (mI (mSLen.getD i 0 : Nat))) h := by
  intro Q hQ
  refine x_sload_n (dA d_St_length 0 rfl) rfl rfl ?_
  refine x_getSV (dA d_St_length 1 rfl) fl_val hi ?_
  refine x_blen (dA d_St_length 2 rfl) hi ?_
  refine x_sload_n (dA d_St_length 3 rfl) rfl rfl ?_
  refine x_dVS (as := []) (rest := [mI (mSLen.getD i 0 : Nat)]) (k' := k_St_coder) (dA d_St_length 4 rfl) o_St_coder lk_St_335 im_St_coder se_St_coder hi (Nat.le_of_ble_eq_true rfl) (Nat.le_refl _) (Nat.le_of_ble_eq_true rfl) (c_St_coder hi) ?_
  refine x_ishr (z := (mSLen.getD i 0 : Nat)) (dA d_St_length 5 rfl) ?_ ?_
  · show Int32.ofInt (mSLen.getD i 0 : Nat) >>> (0 &&& 31 : Int32) = Int32.ofInt (mSLen.getD i 0 : Nat)
    rw [show (0 &&& 31 : Int32) = 0 from rfl, Int32.shiftRight_zero]
  · exact x_ireturn (dA d_St_length 6 rfl) rfl hQ
theorem c_St_isLatin1 {i : Nat} (hi : i < 16) : CD 0 k_St_isLatin1 [mS i] h (some (mI 1)) h := by
  intro Q hQ
  refine x_statC (dA d_St_isLatin1 0 rfl) fl_cs ?_
  refine x_if_eq (dA d_St_isLatin1 1 rfl) rfl (by unfold inR; omega) (fun hc => absurd hc (by decide)) (fun hc => ?_)
  refine x_sload_n (dA d_St_isLatin1 2 rfl) rfl rfl ?_
  refine x_getSC (dA d_St_isLatin1 3 rfl) fl_cod hi ?_
  refine x_if_ne (dA d_St_isLatin1 4 rfl) rfl (by unfold inR; omega) (fun hc => absurd rfl hc) (fun hc => ?_)
  refine x_iconst (dA d_St_isLatin1 5 rfl) ?_
  refine x_goto (dA d_St_isLatin1 6 rfl) rfl ?_
  exact x_zreturn (dA d_St_isLatin1 8 rfl) rfl (.inr rfl) hQ
theorem c_Pr_checkIndex {j n : Int} {w : MV} (hj : inR j) (hn : inR n) (h0 : 0 ≤ j) (h1 : j < n) : CD 0 k_Pr_checkIndex [mI j, mI n, w] h (some (mI j)) h := by
  intro Q hQ
  refine x_iload_n (dA d_Pr_checkIndex 0 rfl) rfl rfl ?_
  refine x_if_lt (dA d_Pr_checkIndex 1 rfl) rfl hj (fun hc => absurd hc (by omega)) (fun hc => ?_)
  refine x_iload_n (dA d_Pr_checkIndex 2 rfl) rfl rfl ?_
  refine x_iload_n (dA d_Pr_checkIndex 3 rfl) rfl rfl ?_
  refine x_icmp_lt (dA d_Pr_checkIndex 4 rfl) rfl hj hn (fun hc => ?_) (fun hc => absurd h1 hc)
  refine x_iload_n (dA d_Pr_checkIndex 5 rfl) rfl rfl ?_
  exact x_ireturn (dA d_Pr_checkIndex 6 rfl) rfl hQ
theorem c_St_checkIndex {j n : Int} (hj : inR j) (hn : inR n) (h0 : 0 ≤ j) (h1 : j < n) : CD 1 k_St_checkIndex [mI j, mI n] h none h := by
  intro Q hQ
  refine x_iload_n (dA d_St_checkIndex 0 rfl) rfl rfl ?_
  refine x_iload_n (dA d_St_checkIndex 1 rfl) rfl rfl ?_
  refine x_statF (dA d_St_checkIndex 2 rfl) fl_sf (fun w hw => ?_)
  rcases hw with rfl | rfl
  · refine x_dS (as := [mI j, mI n, mN]) (rest := []) (k' := k_Pr_checkIndex) (dA d_St_checkIndex 3 rfl) o_Pr_checkIndex lk_St_1059 st_Pr_checkIndex (Nat.le_of_ble_eq_true rfl) (Nat.le_refl _) (Nat.le_of_ble_eq_true rfl) (c_Pr_checkIndex (w := mN) hj hn h0 h1) ?_
    refine x_pop (v := mI j) (dA d_St_checkIndex 4 rfl) rfl ?_
    exact x_return (dA d_St_checkIndex 5 rfl) rfl hQ
  · refine x_dS (as := [mI j, mI n, mS 201]) (rest := []) (k' := k_Pr_checkIndex) (dA d_St_checkIndex 3 rfl) o_Pr_checkIndex lk_St_1059 st_Pr_checkIndex (Nat.le_of_ble_eq_true rfl) (Nat.le_refl _) (Nat.le_of_ble_eq_true rfl) (c_Pr_checkIndex (w := mS 201) hj hn h0 h1) ?_
    refine x_pop (v := mI j) (dA d_St_checkIndex 4 rfl) rfl ?_
    exact x_return (dA d_St_checkIndex 5 rfl) rfl hQ
theorem c_SL_charAt {i : Nat} {j : Int} (hi : i < 16) (h0 : 0 ≤ j) (h1 : j < (mSLen.getD i 0 : Nat)) : CD 2 k_SL_charAt [mS (100 + i), mI j] h (some (mI (sCh i j))) h := by
  have hb := s_len i hi
  have hr := sCh_r hi h0 h1
  intro Q hQ
  refine x_iload_n (dA d_SL_charAt 0 rfl) rfl rfl ?_
  refine x_sload_n (dA d_SL_charAt 1 rfl) rfl rfl ?_
  refine x_blen (dA d_SL_charAt 2 rfl) hi ?_
  refine x_dS (as := [mI j, mI (mSLen.getD i 0 : Nat)]) (rest := []) (k' := k_St_checkIndex) (dA d_SL_charAt 3 rfl) o_St_checkIndex lk_SL_9 st_St_checkIndex (Nat.le_of_ble_eq_true rfl) (Nat.le_refl _) (Nat.le_of_ble_eq_true rfl) (c_St_checkIndex (by unfold inR; omega) (by unfold inR; omega) h0 h1) ?_
  refine x_sload_n (dA d_SL_charAt 4 rfl) rfl rfl ?_
  refine x_iload_n (dA d_SL_charAt 5 rfl) rfl rfl ?_
  refine x_bald (dA d_SL_charAt 6 rfl) hi h0 h1 ?_
  refine x_sipush (dA d_SL_charAt 7 rfl) (by decide) ?_
  refine x_iand (z := sCh i j) (dA d_SL_charAt 8 rfl) ?_ ?_
  · have z := and255 (sCh i j).toNat (by omega)
    rw [show (((sCh i j).toNat : Nat) : Int) = sCh i j by omega] at z
    exact z
  refine x_i2c (dA d_SL_charAt 9 rfl) (by omega) (by omega) ?_
  exact x_nreturn (dA d_SL_charAt 10 rfl) rfl (nar_char (by omega) (by omega)) hQ
theorem c_St_charAt {i : Nat} {j : Int} (hi : i < 16) (h0 : 0 ≤ j) (h1 : j < (mSLen.getD i 0 : Nat)) : CD 3 k_St_charAt [mS i, mI j] h (some (mI (sCh i j))) h := by
  have hr := sCh_r hi h0 h1
  intro Q hQ
  refine x_sload_n (dA d_St_charAt 0 rfl) rfl rfl ?_
  refine x_dVS (as := []) (rest := []) (k' := k_St_isLatin1) (dA d_St_charAt 1 rfl) o_St_isLatin1 lk_St_492 im_St_isLatin1 se_St_isLatin1 hi (Nat.le_of_ble_eq_true rfl) (show 0 + 1 ≤ 3 by decide) (Nat.le_of_ble_eq_true rfl) (c_St_isLatin1 hi) ?_
  refine x_if_eq (dA d_St_charAt 2 rfl) rfl (by unfold inR; omega) (fun hc => absurd hc (by decide)) (fun hc => ?_)
  refine x_sload_n (dA d_St_charAt 3 rfl) rfl rfl ?_
  refine x_getSV (dA d_St_charAt 4 rfl) fl_val hi ?_
  refine x_iload_n (dA d_St_charAt 5 rfl) rfl rfl ?_
  refine x_dS (as := [mS (100 + i), mI j]) (rest := []) (k' := k_SL_charAt) (dA d_St_charAt 6 rfl) o_SL_charAt lk_St_495 st_SL_charAt (Nat.le_of_ble_eq_true rfl) (Nat.le_refl _) (Nat.le_of_ble_eq_true rfl) (c_SL_charAt hi h0 h1) ?_
  exact x_nreturn (dA d_St_charAt 7 rfl) rfl (nar_char (by omega) (by omega)) hQ
end Str
