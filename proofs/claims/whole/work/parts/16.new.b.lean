section MXN2
variable {d : Nat} {k : MK} {pc : Nat} {ls st : List MV} {h : MH} {Q : MO → MH → Prop}
theorem x_newaI {N : Nat} {n : Int} {at' : ArrayType} (hd : decode (kB k) pc = .ok (.newarray at', 2)) (hat : newarray.typeOf at' = .int) (hw : Cond.arrayClass .int ∈ mTs) (hN : n = (N : Int)) (hb : N ≤ 60000000) (hm : h.1.length < mCM) (hs : mSlt h + N ≤ mSM) (hx : MX d k (pc + 2) ls (mR h.1.length :: st) (mNew h 100 N) Q) : MX d k pc ls (mI n :: st) h Q := by
  intro l G p e R s m args below meth c H locs cells slots LS c0 s0 hl C P L h1 h2 h3 h4
  subst hN
  have hts := C.2.2.2.2.2.2.1
  have hK := C.2.2.2.2.2.2.2.1
  have hcb : N * componentBytes .int ≤ 536870912 := Nat.le_trans (Nat.mul_le_mul_left _ (show componentBytes .int ≤ 8 by decide)) (by omega)
  refine va_newaK C.1 C.2.1 (by rw [hat]; exact hts _ hw) rfl hd rfl (by rw [show (0 : Int32) = Int32.ofInt 0 from rfl, ofI_lt ⟨by omega, by omega⟩ inR_0]; omega) (N := N) (by rw [ofI_clamp (by omega) (by omega)]; rfl) (by rw [hat]; exact hcb) (by omega) (by omega) P.1.1 fun H1 cA e1 z1 o1 hA hF => ?_
  have hcA : cA = gA G 100 := by
    have z := (hK.2 0 _ rfl).2
    rw [hat] at hF
    exact Option.some.inj (hF.symm.trans z)
  refine hx l G p e R s m args below meth c H1 locs (cells + 1) (slots + N) LS c0 s0 hl C (P.new hm hs z1 o1 ?_) L (by rw [len_new]; omega) (by rw [mSlt_new]; omega) h3 h4
  ·
    rw [mE_int (by decide) (by decide) (by decide)]
    show H1[gB G + h.1.length]? = some (arrV (gA G 100) N fun j => .int (Int32.ofInt (mGi (mNew h 100 N) h.1.length j)))
    rw [e1, hcA]
    congr 2
    funext j
    have e : mGi (mNew h 100 N) h.1.length j = 0 := if_pos rfl
    rw [e, hat]
    rfl
theorem x_newaC {N : Nat} {n : Int} {at' : ArrayType} (hd : decode (kB k) pc = .ok (.newarray at', 2)) (hat : newarray.typeOf at' = .char) (hw : Cond.arrayClass .char ∈ mTs) (hN : n = (N : Int)) (hb : N ≤ 60000000) (hm : h.1.length < mCM) (hs : mSlt h + N ≤ mSM) (hx : MX d k (pc + 2) ls (mR h.1.length :: st) (mNew h 101 N) Q) : MX d k pc ls (mI n :: st) h Q := by
  intro l G p e R s m args below meth c H locs cells slots LS c0 s0 hl C P L h1 h2 h3 h4
  subst hN
  have hts := C.2.2.2.2.2.2.1
  have hK := C.2.2.2.2.2.2.2.1
  have hcb : N * componentBytes .char ≤ 536870912 := Nat.le_trans (Nat.mul_le_mul_left _ (show componentBytes .char ≤ 8 by decide)) (by omega)
  refine va_newaK C.1 C.2.1 (by rw [hat]; exact hts _ hw) rfl hd rfl (by rw [show (0 : Int32) = Int32.ofInt 0 from rfl, ofI_lt ⟨by omega, by omega⟩ inR_0]; omega) (N := N) (by rw [ofI_clamp (by omega) (by omega)]; rfl) (by rw [hat]; exact hcb) (by omega) (by omega) P.1.1 fun H1 cA e1 z1 o1 hA hF => ?_
  have hcA : cA = gA G 101 := by
    have z := (hK.2 1 _ rfl).2
    rw [hat] at hF
    exact Option.some.inj (hF.symm.trans z)
  refine hx l G p e R s m args below meth c H1 locs (cells + 1) (slots + N) LS c0 s0 hl C (P.new hm hs z1 o1 ?_) L (by rw [len_new]; omega) (by rw [mSlt_new]; omega) h3 h4
  ·
    rw [mE_int (by decide) (by decide) (by decide)]
    show H1[gB G + h.1.length]? = some (arrV (gA G 101) N fun j => .int (Int32.ofInt (mGi (mNew h 101 N) h.1.length j)))
    rw [e1, hcA]
    congr 2
    funext j
    have e : mGi (mNew h 101 N) h.1.length j = 0 := if_pos rfl
    rw [e, hat]
    rfl
theorem x_newaZ {N : Nat} {n : Int} {at' : ArrayType} (hd : decode (kB k) pc = .ok (.newarray at', 2)) (hat : newarray.typeOf at' = .boolean) (hw : Cond.arrayClass .boolean ∈ mTs) (hN : n = (N : Int)) (hb : N ≤ 60000000) (hm : h.1.length < mCM) (hs : mSlt h + N ≤ mSM) (hx : MX d k (pc + 2) ls (mR h.1.length :: st) (mNew h 102 N) Q) : MX d k pc ls (mI n :: st) h Q := by
  intro l G p e R s m args below meth c H locs cells slots LS c0 s0 hl C P L h1 h2 h3 h4
  subst hN
  have hts := C.2.2.2.2.2.2.1
  have hK := C.2.2.2.2.2.2.2.1
  have hcb : N * componentBytes .boolean ≤ 536870912 := Nat.le_trans (Nat.mul_le_mul_left _ (show componentBytes .boolean ≤ 8 by decide)) (by omega)
  refine va_newaK C.1 C.2.1 (by rw [hat]; exact hts _ hw) rfl hd rfl (by rw [show (0 : Int32) = Int32.ofInt 0 from rfl, ofI_lt ⟨by omega, by omega⟩ inR_0]; omega) (N := N) (by rw [ofI_clamp (by omega) (by omega)]; rfl) (by rw [hat]; exact hcb) (by omega) (by omega) P.1.1 fun H1 cA e1 z1 o1 hA hF => ?_
  have hcA : cA = gA G 102 := by
    have z := (hK.2 2 _ rfl).2
    rw [hat] at hF
    exact Option.some.inj (hF.symm.trans z)
  refine hx l G p e R s m args below meth c H1 locs (cells + 1) (slots + N) LS c0 s0 hl C (P.new hm hs z1 o1 ?_) L (by rw [len_new]; omega) (by rw [mSlt_new]; omega) h3 h4
  ·
    rw [mE_int (by decide) (by decide) (by decide)]
    show H1[gB G + h.1.length]? = some (arrV (gA G 102) N fun j => .int (Int32.ofInt (mGi (mNew h 102 N) h.1.length j)))
    rw [e1, hcA]
    congr 2
    funext j
    have e : mGi (mNew h 102 N) h.1.length j = 0 := if_pos rfl
    rw [e, hat]
    rfl
theorem x_newaJ {N : Nat} {n : Int} {at' : ArrayType} (hd : decode (kB k) pc = .ok (.newarray at', 2)) (hat : newarray.typeOf at' = .long) (hw : Cond.arrayClass .long ∈ mTs) (hN : n = (N : Int)) (hb : N ≤ 60000000) (hm : h.1.length < mCM) (hs : mSlt h + N ≤ mSM) (hx : MX d k (pc + 2) ls (mR h.1.length :: st) (mNew h 103 N) Q) : MX d k pc ls (mI n :: st) h Q := by
  intro l G p e R s m args below meth c H locs cells slots LS c0 s0 hl C P L h1 h2 h3 h4
  subst hN
  have hts := C.2.2.2.2.2.2.1
  have hK := C.2.2.2.2.2.2.2.1
  have hcb : N * componentBytes .long ≤ 536870912 := Nat.le_trans (Nat.mul_le_mul_left _ (show componentBytes .long ≤ 8 by decide)) (by omega)
  refine va_newaK C.1 C.2.1 (by rw [hat]; exact hts _ hw) rfl hd rfl (by rw [show (0 : Int32) = Int32.ofInt 0 from rfl, ofI_lt ⟨by omega, by omega⟩ inR_0]; omega) (N := N) (by rw [ofI_clamp (by omega) (by omega)]; rfl) (by rw [hat]; exact hcb) (by omega) (by omega) P.1.1 fun H1 cA e1 z1 o1 hA hF => ?_
  have hcA : cA = gA G 103 := by
    have z := (hK.2 3 _ rfl).2
    rw [hat] at hF
    exact Option.some.inj (hF.symm.trans z)
  refine hx l G p e R s m args below meth c H1 locs (cells + 1) (slots + N) LS c0 s0 hl C (P.new hm hs z1 o1 ?_) L (by rw [len_new]; omega) (by rw [mSlt_new]; omega) h3 h4
  ·
    show H1[gB G + h.1.length]? = some (arrV (gA G 103) N fun j => .long (mGl (mNew h 103 N) h.1.length j))
    rw [e1, hcA]
    congr 2
    funext j
    have e : mGl (mNew h 103 N) h.1.length j = 0 := if_pos rfl
    rw [e, hat]
    rfl
end MXN2
