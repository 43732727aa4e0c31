section MXN
variable {d : Nat} {k : MK} {pc : Nat} {ls st : List MV} {h : MH} {Q : MO → MH → Prop}
theorem asg_self (vm : Vm) (c : ClassId) : vm.assignable c c = true := by
  show vm.assignableAux (255 + 1) c c = true
  rw [Vm.assignableAux, Bool.or_eq_true, beq_iff_eq]
  exact Or.inl rfl
theorem mE_new {G : MG} {t0 n0 : Nat} (b : Nat) (hb : b ≠ h.1.length) (t n : Nat) : mE G (mNew h t0 n0) b t n = mE G h b t n := by
  have e1 : ∀ j, mGi (mNew h t0 n0) b j = mGi h b j := fun j => if_neg hb
  have e2 : ∀ j, mGl (mNew h t0 n0) b j = mGl h b j := fun j => if_neg hb
  have e3 : ∀ j, mGr (mNew h t0 n0) b j = mGr h b j := fun j => if_neg hb
  have e4 : ∀ j, mFv (mNew h t0 n0) t b j = mFv h t b j := fun j => by unfold mFv; rw [e1, e2, e3]
  unfold mE
  simp only [e1, e2, e3, e4]
theorem mSlt_new {t n : Nat} : mSlt (mNew h t n) = mSlt h + n := by
  unfold mSlt mNew
  simp
theorem len_new {t n : Nat} : (mNew h t n).1.length = h.1.length + 1 := by
  unfold mNew
  simp
theorem mP.new {G : MG} {s : State} {H H1 : Heap} {locs : List Loc} {t n : Nat} (P : mP G s H locs h) (hm : h.1.length < mCM) (hs : mSlt h + n ≤ mSM) (z1 : H1.size = gB G + h.1.length + 1) (o1 : ∀ q, q < gB G + h.1.length → H1[q]? = H[q]?)
    (hnew : va_at (gD G) mcl (gB G + h.1.length, mE G (mNew h t n) h.1.length t n) H1) : mP G s H1 locs (mNew h t n) := by
  refine ⟨⟨by rw [z1, len_new]; omega, by rw [len_new]; omega, by rw [mSlt_new]; exact hs, P.1.2.2.2⟩, fun a t' n' ha => ?_, ?_⟩
  · by_cases hl : a < h.1.length
    · have ha' : h.1[a]? = some (t', n') := by
        have z : (h.1 ++ [(t, n)])[a]? = some (t', n') := ha
        rw [List.getElem?_append_left hl] at z
        exact z
      rw [mE_new a (by omega)]
      exact (P.2.1 a t' n' ha').kept (o1 _ (by show gB G + a < _; omega))
    · have z : (h.1 ++ [(t, n)])[a]? = some (t', n') := ha
      rw [List.getElem?_append_right (by omega)] at z
      have hz : a - h.1.length < 1 := (List.getElem?_eq_some_iff.mp z).1
      have hae : a = h.1.length := by omega
      subst hae
      rw [Nat.sub_self] at z
      cases z
      exact hnew
  · have hS := P.2.2
    have hH := P.1.1
    refine ⟨by have := hS.1; omega, fun q q1 q2 => (o1 q (by have := hS.1; omega)).trans (hS.2.1 q q1 q2), hS.2.2⟩
def mFv0 (t j : Nat) : MV := match mFk t j with
  | 0 => mI 0
  | 1 => mL 0
  | _ => mN
theorem fv_new {t n j : Nat} : mFv (mNew h t n) t h.1.length j = mFv0 t j := by
  have e1 : mGi (mNew h t n) h.1.length j = 0 := if_pos rfl
  have e2 : mGl (mNew h t n) h.1.length j = 0 := if_pos rfl
  have e3 : mGr (mNew h t n) h.1.length j = none := if_pos rfl
  unfold mFv mFv0
  rw [e1, e2, e3]
  rfl
/-- a class of which objects may be made -/
def nOK (own : String) (idx t N : Nat) : Prop := ∃ (Cn : String) (T : u_T) (ty : Nat → FieldType), mcl[t]? = some (Cn, T, N) ∧ (∀ w ∈ u_ws Cn T N, w ∈ mTs) ∧ (∀ j, j < N → parseFieldDescriptor (T j).2.2.1 = some (ty j)) ∧ (∀ j, j < N → ∀ G, defaultValue (ty j) = rz G (mFv0 t j)) ∧ Cond.classLink own idx Cn ∈ mTs ∧ Cond.instantiable Cn N ∈ mTs ∧ Cond.initialized Cn ∈ mTs
theorem x_new {idx t N : Nat} (hd : decode (kB k) pc = .ok (.new idx, 3)) (hn : nOK (kY k).cls idx t N) (ht : t < 100) (hm : h.1.length < mCM) (hs : mSlt h + N ≤ mSM) (hx : MX d k (pc + 3) ls (mR h.1.length :: st) (mNew h t N) Q) : MX d k pc ls st h Q := by
  intro l G p e R s m args below meth c H locs cells slots LS c0 s0 hl C P L h1 h2 h3 h4
  obtain ⟨Cn, T, ty, hc, hin, hty, hdf, hcl, hinst, hini⟩ := hn
  have hts := C.2.2.2.2.2.2.1
  have hK := C.2.2.2.2.2.2.2.1
  have hKn := hK.1 t _ hc
  refine W.newcK C.1 C.2.1 C.2.2.2.2.2.1 (hts _ hcl) (hts _ hinst) (hts _ hini) rfl hd (by omega) (by omega) hKn.2.1 P.1.1 fun H1 kC hkC e1 z1 o1 => ?_
  refine hx l G p e R s m args below meth c H1 locs (cells + 1) (slots + N) LS c0 s0 hl C (P.new hm hs z1 o1 ?_) L (by rw [len_new]; omega) (by rw [mSlt_new]; omega) h3 h4
  rw [mE_obj ht]
  refine ⟨_, hc, (u_born ty hts hin hKn hkC e1 hty).to (fun j hj => ?_)⟩
  have hj : j < N := hj
  unfold vp_V
  rw [List.getD_eq_getElem?_getD, fs_at hj, fv_new]
  exact hdf j hj G
end MXN
