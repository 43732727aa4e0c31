/-! second: the class as the reference -/
section H2s
variable {B h h' : MH} {t : List Int}
theorem rok_x (e : ∀ (a : Nat) (x : Nat × Nat), h.1[a]? = some x → h'.1[a]? = some x) (g : ∀ a i, a < h.1.length → mGr h' a i = mGr h a i) (hl : 150 ≤ h.1.length) (z : rowsOK h) : rowsOK h' := by
  have g96 : ∀ i, mGr h' 96 i = mGr h 96 i := fun i => g 96 i (by omega)
  refine ⟨fun j hj r hr => ?_, fun j j' hj hj' hn r r' hr hr' => ?_⟩
  · rw [g96] at hr
    obtain ⟨⟨q1, q2, q3, q4, q5, q6⟩, q7⟩ := z.1 j hj r hr
    have hlr := (List.getElem?_eq_some_iff.mp q1).1
    refine ⟨⟨e _ _ q1, ?_, e _ _ q3, e _ _ q4, e _ _ q5, e _ _ q6⟩, q7⟩
    rw [g r 0 hlr, g r 2 hlr, g r 4 hlr, g r 6 hlr]
    exact q2
  · rw [g96] at hr hr'
    exact z.2 j j' hj hj' hn r r' hr hr'
theorem nmF_ct {nm : Nm} (z : ∀ k, k < 8 → (mGl h 90 k = 0 ↔ nm k = none)) : nmF h 8 0 = ctN nm := by
  have e : ∀ k, k < 8 → (if mGl h 90 k = 0 then (0 : Int) else 1) = bN (nm k) := fun k hk => by
    cases d : nm k with
    | none => rw [if_pos ((z k hk).mpr d)]; rfl
    | some q => rw [if_neg (fun w => by rw [(z k hk).mp w] at d; cases d)]; rfl
  have e0 := e 0 (by decide); have e1 := e 1 (by decide); have e2 := e 2 (by decide); have e3 := e 3 (by decide)
  have e4 := e 4 (by decide); have e5 := e 5 (by decide); have e6 := e 6 (by decide); have e7 := e 7 (by decide)
  have u : nmF h 8 0 = (if mGl h 90 0 = 0 then (0 : Int) else 1) + ((if mGl h 90 1 = 0 then (0 : Int) else 1) + ((if mGl h 90 2 = 0 then (0 : Int) else 1) + ((if mGl h 90 3 = 0 then (0 : Int) else 1) + ((if mGl h 90 4 = 0 then (0 : Int) else 1) + ((if mGl h 90 5 = 0 then (0 : Int) else 1) + ((if mGl h 90 6 = 0 then (0 : Int) else 1) + ((if mGl h 90 7 = 0 then (0 : Int) else 1) + 0))))))) := rfl
  rw [u, e0, e1, e2, e3, e4, e5, e6, e7]
  unfold ctN
  omega
/-- what the class's second leaves -/
def T2 (k : Nat) (h h1 : MH) (R : S2 × Nat × Int) : Prop :=
  (∀ b i, b < 86 ∨ (107 ≤ b ∧ b < 150) → ¬ (b = 0 ∧ (i = 3 ∨ i = 4)) → mGi h1 b i = mGi h b i) ∧ rowsOK h1 ∧ Room (k + 1) h1 ∧
  mGi h1 0 3 = (R.2.1 : Int) ∧ mGi h1 0 4 = (if R.2.1 = 0 then 0 else R.2.2) ∧ mGi h1 95 3 = (R.1.2.2.2.1 : Int) ∧ mGi h1 101 1 = (R.1.2.2.1.length : Int) ∧ Seg h1 102 0 R.1.2.2.1 ∧ R.1.2.2.1.length ≤ 600 ∧
  (∀ k, k < 8 → (mGl h1 90 k = 0 ↔ R.1.1 k = none)) ∧ (R.2.1 = 0 → mGl h1 149 0 = (Int32.ofInt (R.1.2.2.1.length : Int)).toInt64)
theorem t_second {k : Nat} (I : Inv k h) (hk : k ≤ 600) (ht : t.length ≤ 400) (hc : ∀ c ∈ t, lgl c) (e4 : mGi h 4 1 = (t.length : Int)) (sg : Seg h 5 0 t) :
    ∃ h1, F_La_second h = some (.inl (if (r2 t).2.1 = 0 then 0 else 1), h1) ∧ T2 k h h1 (r2 t) := by
  have hl := I.len
  have A := mill2_e (B := h) (k0 := k) ht hc e4 sg I.2.2.2.2.2.2.1 I.2.2.2.2.2.2.2 hk hl
  have A' : MO2 h k t (F_Sm_mill 4 400 h) (r2 t) := A
  generalize r2 t = R at *
  have g03 : ∀ (hh : MH) (v w : Int), mGi (mPi (mPi hh 0 3 v) 0 4 w) 0 3 = v := fun hh v w => by rw [gi_pi, if_neg (by omega), gi_s]
  unfold F_La_second F_T_second F_T_second_37
  by_cases c : R.2.1 = 0
  · obtain ⟨h1, x1, z⟩ := A'.1 c
    rw [x1, bnd_l, sto_e, gi_s, if_pos rfl, sto_e, g03, if_pos rfl, bndC_l, gd_b (by decide) (by decide), sto_e, if_pos c]
    have t0 : ((0 : Int)).toNat = 0 := rfl
    rw [t0]
    obtain ⟨⟨g1, g2, g3, g4, g5, g6⟩, zc, -, -, ⟨zl, zl6⟩, -, -⟩ := z
    obtain ⟨c1, -, c3, c4, c5, c6, -, c8⟩ := zc
    have gi : ∀ b i, ¬ (b = 0 ∧ (i = 3 ∨ i = 4)) → mGi (mPl (mPi (mPi h1 0 3 0) 0 4 0) 149 0 ((Int32.ofInt (mGi (mPi (mPi h1 0 3 0) 0 4 0) 101 1)).toInt64)) b i = mGi h1 b i := fun b i hb => by
      rw [gi_pl, gi_pi, if_neg (by omega), gi_pi, if_neg (by omega)]
    have e101 := zl.len zl6
    refine ⟨_, rfl, fun b i hb hn => (gi b i hn).trans (g1 b i hb), rok_x (h := h1) (fun _ _ e => e) (fun _ _ _ => rfl) c6 c4, ?_, ?_, ?_, (gi 95 3 (by omega)).trans c3, (gi 101 1 (by omega)).trans e101, Seg.cg (fun j _ _ => gi 102 j (by omega)) (zl.seg zl6), zl6, fun j hj => ?_, fun _ => ?_⟩
    · have q : Room k h1 := c5
      unfold Room at q ⊢
      have e1 : (mPl (mPi (mPi h1 0 3 0) 0 4 0) 149 0 ((Int32.ofInt (mGi (mPi (mPi h1 0 3 0) 0 4 0) 101 1)).toInt64)).1.length = h1.1.length := rfl
      have e2 : mSlt (mPl (mPi (mPi h1 0 3 0) 0 4 0) 149 0 ((Int32.ofInt (mGi (mPi (mPi h1 0 3 0) 0 4 0) 101 1)).toInt64)) = mSlt h1 := rfl
      have e3 : nRows (mPl (mPi (mPi h1 0 3 0) 0 4 0) 149 0 ((Int32.ofInt (mGi (mPi (mPi h1 0 3 0) 0 4 0) 101 1)).toInt64)) = nRows h1 := rfl
      rw [e1, e2, e3]
      omega
    · rw [gi_pl, gi_pi, if_neg (by omega), gi_s, c]; rfl
    · rw [gi_pl, gi_s, if_pos c]
    · rw [gl_pl, if_neg (by omega), gl_pi, gl_pi]
      exact c1.z hj
    · rw [gl_pl, if_pos ⟨rfl, rfl⟩, gi_pi, if_neg (by omega), gi_pi, if_neg (by omega), e101]
  · obtain ⟨h0, x1, z⟩ := A'.2 c
    obtain ⟨⟨g1, g2, g3, g4, g5, g6⟩, c4, c6, c1, c3, c8, ⟨zl, zl6⟩, e7, c5, -⟩ := z
    have hn : ¬ (R.2.1 : Int) = 0 := by omega
    have l0 : (mNew (mPi h0 87 2 (R.2.1 : Int)) 13 6).1.length = h0.1.length + 1 := lenN
    have g7 : mGi (mPi (mNew (mPi h0 87 2 (R.2.1 : Int)) 13 6) 0 3 (R.2.1 : Int)) 86 7 = R.2.2 := by
      rw [gi_pi, if_neg (by omega), gi_nw, if_neg (by show ¬ 86 = h0.1.length; omega), gi_pi, if_neg (by omega)]
      exact e7
    rw [x1, bnd_l, sto_e, gi_s, if_neg hn, g7, sto_e, g03, if_neg hn, if_neg c]
    have hl1 : (mPi (mPi (mNew (mPi h0 87 2 (R.2.1 : Int)) 13 6) 0 3 (R.2.1 : Int)) 0 4 R.2.2).1.length = h0.1.length + 1 := l0
    have hs1 : mSlt (mPi (mPi (mNew (mPi h0 87 2 (R.2.1 : Int)) 13 6) 0 3 (R.2.1 : Int)) 0 4 R.2.2) = mSlt h0 + 6 := slt_new
    have nr := nRows_le h0
    have rm : Room k h0 := c5
    have et : (thr 13 (mPi (mPi (mNew (mPi h0 87 2 (R.2.1 : Int)) 13 6) 0 3 (R.2.1 : Int)) 0 4 R.2.2) : RS Int) = some (.inr 13, mNew (mPi (mPi (mNew (mPi h0 87 2 (R.2.1 : Int)) 13 6) 0 3 (R.2.1 : Int)) 0 4 R.2.2) 13 6) := by
      unfold thr
      unfold Room at rm
      refine gd_t ?_
      unfold rmE mCM mSM
      exact ⟨by omega, by omega⟩
    rw [et, bndC_r, gd_t rfl]
    unfold F_La_second_11
    have gi : ∀ b i, b < 150 → ¬ (b = 0 ∧ (i = 3 ∨ i = 4)) → b ≠ 87 → mGi (mNew (mPi (mPi (mNew (mPi h0 87 2 (R.2.1 : Int)) 13 6) 0 3 (R.2.1 : Int)) 0 4 R.2.2) 13 6) b i = mGi h0 b i := fun b i hb hx h87 => by
      rw [gi_nw, hl1, if_neg (by omega), gi_pi, if_neg (by omega), gi_pi, if_neg (by omega), gi_nw, if_neg (by show ¬ b = h0.1.length; omega), gi_pi, if_neg (by omega)]
    have gr : ∀ a i, a < h0.1.length → mGr (mNew (mPi (mPi (mNew (mPi h0 87 2 (R.2.1 : Int)) 13 6) 0 3 (R.2.1 : Int)) 0 4 R.2.2) 13 6) a i = mGr h0 a i := fun a i ha => by
      rw [gr_nw, hl1, if_neg (by omega), gr_pi, gr_pi, gr_nw, if_neg (by show ¬ a = h0.1.length; omega), gr_pi]
    refine ⟨_, rfl, fun b i hb hn => (gi b i (by omega) hn (by omega)).trans (g1 b i hb), rok_x (h := h0) (fun a x e => sh_new (sh_new (h := mPi h0 87 2 (R.2.1 : Int)) e)) gr c6 c4, ?_, ?_, ?_, (gi 95 3 (by omega) (by omega) (by omega)).trans c3, (gi 101 1 (by omega) (by omega) (by omega)).trans (zl.len zl6), Seg.cg (fun j _ _ => gi 102 j (by omega) (by omega) (by omega)) (zl.seg zl6), zl6, fun j hj => ?_, fun q => absurd q c⟩
    · have e3 : nRows (mNew (mPi (mPi (mNew (mPi h0 87 2 (R.2.1 : Int)) 13 6) 0 3 (R.2.1 : Int)) 0 4 R.2.2) 13 6) = nRows h0 := nRows_c (fun i => gr 96 i (by omega))
      unfold Room at rm ⊢
      rw [e3, lenN, hl1, slt_new, hs1]
      omega
    · rw [gi_nw, hl1, if_neg (by omega), gi_pi, if_neg (by omega), gi_s]
    · rw [gi_nw, hl1, if_neg (by omega), gi_s, if_neg c]
    · rw [gl_nw, hl1, if_neg (by omega), gl_pi, gl_pi, gl_nw, if_neg (by show ¬ 90 = h0.1.length; omega), gl_pi]
      exact c1 j hj
theorem second_e : H2 := by
  intro k h I hk
  obtain ⟨L, i1, i2, i3, i4, i5, i6, i7⟩ := id I
  obtain ⟨t, t1, t2, t3, t4, t5, t6⟩ := i2.list
  have ht : t.length ≤ 400 := by omega
  obtain ⟨h1, x1, a1, a2, a3, a4, a5, a6, a7, a8, a9, a10, a11⟩ := t_second I hk ht t6 t1 t4
  have q1 : ∀ b i, (0 < b ∧ b < 86) ∨ (107 ≤ b ∧ b < 150) → mGi h1 b i = mGi h b i := fun b i hb => a1 b i (by omega) (by omega)
  obtain ⟨h2, x2, b1, b2, b3, b4, b5, b6, b7⟩ := m_second (h := h1) ht t6 ((q1 107 5 (by omega)).trans t2) (Seg.cg (fun j _ _ => q1 110 j (by omega)) t5)
  have E1 := ((S_La_second (d := 96) (by decide) L) _ _ x1).1
  have E2 := ((S_M_second (d := 96) (by decide) (L.ext E1)) _ _ x2).1
  have q2 : ∀ b i, ¬ pR3 b i → mGi h2 b i = mGi h1 b i := fun b i hb => b2.2.2.1 b i hb
  have ql : ∀ b i, ¬ (121 ≤ b ∧ b ≤ 148) → mGl h2 b i = mGl h1 b i := fun b i hb => b2.2.2.2 b i hb
  have qr : ∀ b i, mGr h2 b i = mGr h1 b i := fun b i => by show h2.2.2.2.1 b i = h1.2.2.2.1 b i; rw [b2.2.1]
  have q3 : ∀ b i, ¬ pR3 b i → (0 < b ∧ b < 86) ∨ (107 ≤ b ∧ b < 150) → mGi h2 b i = mGi h b i := fun b i hb hc => (q2 b i hb).trans (q1 b i hc)
  refine ⟨_, h1, _, h2, x1, x2, b1, fun e => ?_, ⟨(L.ext E1).ext E2, ?_, ?_, ?_, ?_, ?_, ?_, ?_⟩, E1.2.2.1, E2.2.2.1.trans E1.2.2.1⟩
  · have e0 : (r2 t).2.1 = 0 := by
      by_cases d : (r2 t).2.1 = 0
      · exact d
      · rw [if_neg d] at e; cases e
    rw [ql 149 0 (by omega), a11 e0, if_pos e0]
  · exact i1.cg (q3 1 1 (by unfold pR3; omega) (by omega)) (q3 107 2 (by unfold pR3; omega) (by omega)) (fun j => q3 2 j (by unfold pR3; omega) (by omega)) (fun j => q3 108 j (by unfold pR3; omega) (by omega))
  · exact i2.cg (q3 4 1 (by unfold pR3; omega) (by omega)) (q3 107 5 (by unfold pR3; omega) (by omega)) (fun j => q3 5 j (by unfold pR3; omega) (by omega)) (fun j => q3 110 j (by unfold pR3; omega) (by omega))
  · exact twoL.of (n := 600) ((q2 101 1 (by unfold pR3; omega)).trans a7) b6.1 a9 (Seg.cg (fun j _ _ => q2 102 j (by unfold pR3; omega)) a8) b6.2.2 (fun _ _ => trivial)
  · obtain ⟨n1, n2, n3, n4, n5, n6⟩ := i4
    refine ⟨?_, ?_, ?_, ?_, ?_, ?_⟩
    · rw [q2 0 3 (by unfold pR3; omega), a4, b3]
    · rw [q2 0 4 (by unfold pR3; omega), a5, b4]
    · rw [q3 3 5 (by unfold pR3; omega) (by omega), q3 107 4 (by unfold pR3; omega) (by omega)]; exact n3
    · rw [q2 95 3 (by unfold pR3; omega), a6, b5]
    · rw [q3 6 4 (by unfold pR3; omega) (by omega), q3 107 6 (by unfold pR3; omega) (by omega)]; exact n5
    · rw [nmF_c (fun i => ql 90 i (by omega)), nmF_ct a10, b7]
  · exact permO.cg (fun i _ => q3 10 i (by unfold pR3; omega) (by omega)) i5
  · exact rok_c E2 (fun i => qr 96 i) a2
  · unfold Room at a3 ⊢
    rw [nRows_c (fun i => qr 96 i)]
    have e1 : h2.1 = h1.1 := b2.1
    have e2 : mSlt h2 = mSlt h1 := by unfold mSlt; rw [e1]
    rw [e1, e2]
    exact a3
theorem whole_hx : lw_HX := hx_of second_e
end H2s
