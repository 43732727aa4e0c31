section MXN2
variable {d : Nat} {k : MK} {pc : Nat} {ls st : List MV} {h : MH} {Q : MO → MH → Prop}
theorem x_anew {N idx t : Nat} {n : Int} {Cn : String} (hd : decode (kB k) pc = .ok (.anewarray idx, 3)) (ht : t = 110 ∨ t = 111) (hC : mAty t = .object Cn) (hlk : Cond.classLink (kY k).cls idx Cn ∈ mTs) (hov : Cond.arrayOver (.object Cn) ∈ mTs) (hN : n = (N : Int)) (hb : N ≤ 60000000) (hm : h.1.length < mCM) (hs : mSlt h + N ≤ mSM) (hx : MX d k (pc + 3) ls (mR h.1.length :: st) (mNew h t N) Q) : MX d k pc ls (mI n :: st) h Q := by
  intro l G p e R s m args below meth c H locs cells slots LS c0 s0 hl C P L h1 h2 h3 h4
  subst hN
  have hts := C.2.2.2.2.2.2.1
  have hK := C.2.2.2.2.2.2.2.1
  have hcl : (Int32.ofInt (N : Int)).toNatClampNeg = N := by rw [ofI_clamp (by omega) (by omega)]; rfl
  have hra : va_RA s (gA G t) (.object Cn) := by
    rcases ht with rfl | rfl
    · have z := (hK.2 4 _ rfl).2
      rw [← hC]
      exact z
    · have z := (hK.2 5 _ rfl).2
      rw [← hC]
      exact z
  obtain ⟨_, _, -, -, -, hF2⟩ := hra
  refine W.anew C.1 C.2.1 C.2.2.2.2.2.1 (hts _ hlk) (hts _ hov) rfl hd rfl (by rw [show (0 : Int32) = Int32.ofInt 0 from rfl, ofI_lt ⟨by omega, by omega⟩ inR_0]; omega) (by rw [hcl]; omega) (by omega) (by rw [hcl]; omega) fun cA kA comp g1 g2 g3 g4 => ?_
  have hcA : cA = gA G t := Option.some.inj (g1.symm.trans hF2)
  have hsz : H.size = gB G + h.1.length := P.1.1
  rw [hcl, hsz]
  refine hx l G p e R s m args below meth c _ locs (cells + 1) (slots + N) LS c0 s0 hl C (P.new hm hs (by rw [Array.size_push, hsz]) (fun q hq => by rw [Array.getElem?_push, if_neg (by omega)]) ?_) L (by rw [len_new]; omega) (by rw [mSlt_new]; omega) h3 h4
  rw [mE_ref (by omega) (by omega) (by omega)]
  show (H.push _)[gB G + h.1.length]? = some (arrV (gA G t) N fun j => va_rf ((mGr (mNew h t N) h.1.length j).map fun b => gB G + b))
  rw [arrV_new, hcA, Array.getElem?_push, if_pos hsz.symm]
  congr 2
  funext j
  have e : mGr (mNew h t N) h.1.length j = none := if_pos rfl
  rw [e]
  rfl
end MXN2
