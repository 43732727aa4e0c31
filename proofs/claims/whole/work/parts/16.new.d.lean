section MXN2
variable {d : Nat} {k : MK} {pc : Nat} {ls st : List MV} {h : MH} {Q : MO → MH → Prop}
theorem x_aast {a v t tv n nv : Nat} {j : Int} {r : vw_C} (hd : decode (kB k) pc = .ok (.aastore, 1)) (ha : h.1[a]? = some (t, n)) (ht : t = 110 ∨ t = 111) (hv : h.1[v]? = some (tv, nv)) (htv : tv < 100) (hc : mcl[tv]? = some r) (hC : mAty t = .object r.1) (hj0 : 0 ≤ j) (hj1 : j < n) (hn : n < 2147483648) (hx : MX d k (pc + 1) ls st (mPr h a j.toNat (some v)) Q) : MX d k pc ls (mR v :: mI j :: mR a :: st) h Q := by
  intro l G p e R s m args below meth c H locs cells slots LS c0 s0 hl C P L h1 h2 h3 h4
  have hK := C.2.2.2.2.2.2.2.1
  have hcell : H[gB G + a]? = some (arrV (gA G t) n (fun j => va_rf ((mGr h a j).map fun b => gB G + b))) := by
    have z := P.2.1 a t n ha
    rw [mE_ref (by omega) (by omega) (by omega)] at z
    exact z
  have hra : va_RA s (gA G t) (.object r.1) := by
    rcases ht with rfl | rfl
    · have z := (hK.2 4 _ rfl).2
      rw [← hC]
      exact z
    · have z := (hK.2 5 _ rfl).2
      rw [← hC]
      exact z
  obtain ⟨kA, comp, hkA, hkind, hfc, -⟩ := hra
  obtain ⟨cv, hcv, hcvs, hcvc⟩ := va_recv hK (P.at hv) hc (q0 := 0) (a := gB G + v) (fs := (List.range nv).map fun i => rz G (mFv h tv v i)) (by rw [mE_obj htv]; rfl)
  have hcomp : cv.cls = comp := Option.some.inj (hcvc.symm.trans hfc)
  obtain ⟨kc, hkc⟩ := Vm.classAt_of_findClass hfc
  refine W.aast C.1 C.2.1 hcell (fun q => by intro z; cases z) (fun z => by cases z) hkA hkind rfl hkc ⟨?_, ?_⟩ hcv (VmData.ne_statics_of hcvs) (by rw [hcomp]; exact hkc) (by rw [hcomp]; exact asg_self _ _) rfl rfl hd fun H' e1 e2 e3 => ?_
  · rw [show (0 : Int32) = Int32.ofInt 0 from rfl, ofI_lt ⟨by omega, by omega⟩ inR_0]; omega
  · rw [arrV_size, ofI_clamp hj0 (by omega)]; omega
  rw [ofI_clamp hj0 (by omega)] at e1
  refine hx l G p e R s m args below meth c H' _ cells slots LS c0 s0 hl C (P.put ha ⟨rfl, rfl⟩ (fun b hb t n => mE_pr b hb t n) ?_ e2 e3) L h1 h2 h3 h4
  rw [mE_ref (by omega) (by omega) (by omega)]
  show H'[gB G + a]? = some (arrV (gA G t) n fun q => va_rf ((mGr (mPr h a j.toNat (some v)) a q).map fun b => gB G + b))
  rw [e1, arrV_store]
  congr 2
  funext q
  unfold updV
  by_cases hq : q = j.toNat
  · subst hq
    rw [if_pos rfl, gr_self]
    rfl
  · rw [if_neg hq, gr_slot hq]
end MXN2
