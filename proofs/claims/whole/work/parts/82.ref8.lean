/-! the reference's first mill: calls, words, single characters -/
section Ref8
variable {P Q : Nat → Nat → Prop} {B h h' h'' h0 : MH} {T p : Nat} {t : List Int} {w : Int} {pv : List (List Int)} {cu i o : List Int} {op : Nat} {r fs : List Fm1} {ds : List Nat} {wd tx : Nat → List Int}
theorem RO.of {x y : RS Unit} {q : S1 × Nat} (z : RO B p x q) (e : y = x) : RO B p y q := by rw [e]; exact z
theorem call_0 (z : RV B h (i, o, fs, ds, wd, tx) p) : RV B (mPi (mPi h 107 9 0) 107 10 0) (i, o, fs, ds, wd, tx) p ∧ Com (mPi (mPi h 107 9 0) 107 10 0) i.length [] := by
  obtain ⟨z1, z2, z3, z4, ⟨z5, z5'⟩, z6, z7⟩ := z
  have f1 : FP pC h (mPi (mPi h 107 9 0) 107 10 0) := FP.pi (FP.pi FP.rf (by unfold pC; omega)) (by unfold pC; omega)
  refine ⟨⟨z1.tr (f1.fl.sub fun b i => by unfold pC pR; omega), (f1.2.2 107 1 (by unfold pC; omega)).trans z2, (f1.2.2 107 4 (by unfold pC; omega)).trans z3, z4.fp f1 (fun b j => by unfold pC; omega), ⟨(f1.2.2 107 5 (by unfold pC; omega)).trans z5, Seg.cg (fun k _ _ => f1.2.2 110 k (by unfold pC; omega)) z5'⟩, z6.fp f1 pC_A, z7.fp f1 pC_D⟩, z4.2.1, ?_, ?_, ?_, ?_⟩
  · rw [gi_pi, if_neg (by omega), gi_pi, if_neg (by omega)]; exact z4.1
  · rw [gi_pi, if_neg (by omega), gi_s]; simp
  · rw [List.take_nil]; trivial
  · rw [gi_s, if_neg (by simp)]
theorem RX.pop {s : S1} {why : Nat} {s' : S1} (z : RX B h s why p) (h1 : s'.2.1 = s.2.1) (h2 : s'.2.2.2.1 = s.2.2.2.1) : RX B h s' why p := by
  unfold RX at z ⊢
  rw [h1, h2]
  exact z
theorem Com.dl {j : Nat} {c : List Int} (z : Com h j c) (f : FL pD h h') : Com h' j c := by
  obtain ⟨z1, z2, z3, z4, z5⟩ := z
  exact ⟨z1, (f.2.2.1 107 3 (by unfold pD; omega)).trans z2, (f.2.2.1 107 9 (by unfold pD; omega)).trans z3, Seg.cg (fun k _ _ => f.2.2.1 113 k (by unfold pD; omega)) z4, (f.2.2.1 107 10 (by unfold pD; omega)).trans z5⟩
theorem nid_c (hw : ¬ 0 ≤ w) : ∀ (f n : Nat), nid ds ((w, pv, cu, op) :: r) f n = nid ds r f n
  | 0, n => rfl
  | f + 1, n => by
    have e : usedB ds ((w, pv, cu, op) :: r) n = usedB ds r n := by
      unfold usedB
      rw [idsF, if_neg hw]
    rw [nid, nid, e, nid_c hw f (n + 1)]
theorem m_call (z : RV B h (i, o, (w, pv, cu, op) :: r, ds, wd, tx) p) (wf : WF1 (i, o, (w, pv, cu, op) :: r, ds, wd, tx)) : RO7 B p (r.length : Int) (F_M_call w (r.length : Int) h) (call1 i o w (pv ++ [cu]) r ds wd tx) := by
  obtain ⟨w1, w2, w3, w4, w5, w6, w7, w8, w9, w10⟩ := wf.un
  rw [List.length_cons] at w4
  obtain ⟨hw1, hw2, hp4, -, -⟩ := FOk.hd w6
  have eN : mGi h 118 r.length = ((pv.length + 1 : Nat) : Int) := z.2.2.2.2.2.1.2.2.2.2.1
  obtain ⟨z', y'⟩ := call_0 z
  unfold F_M_call F_M_call_14
  rw [if_pos (by omega), gd_b (by omega) (by omega), Int.toNat_natCast, eN]
  simp only [sto_e]
  generalize mPi (mPi h 107 9 0) 107 10 0 = h1 at z' y' ⊢
  have zz := z'
  obtain ⟨z1, z2, z3, z4, ⟨z5, z5'⟩, z6, z7⟩ := z'
  change InpM h1 i at z4
  change mGi h1 107 5 = (o.length : Int) at z5
  change Seg h1 110 0 o at z5'
  change ArgM h1 ((w, pv, cu, op) :: r) at z6
  change DefM h1 ds wd tx ((w, pv, cu, op) :: r) at z7
  -- what comes is there
  have good : ∀ (h2 : MH) (c : List Int), FP pC h1 h2 → Com h2 i.length c → RO7 B p (r.length : Int) (F_M_call_49 (r.length : Int) h2) (fin1 i o r ds wd tx c) := by
    intro h2 c f2 y2
    have q := z7.fp f2 pC_D
    exact m_49 (z1.tr (f2.fl.sub fun b i => by unfold pC pR; omega)) ((f2.2.2 107 1 (by unfold pC; omega)).trans z2) ((f2.2.2 107 4 (by unfold pC; omega)).trans z3) (z4.fp f2 (fun b j => by unfold pC; omega)) ((f2.2.2 107 5 (by unfold pC; omega)).trans z5) (Seg.cg (fun k _ _ => f2.2.2 110 k (by unfold pC; omega)) z5') (z6.fp f2 pC_A) ⟨q.1, q.2.1, fun k hk => q.2.2 k (lv_tl hk)⟩ y2 (by omega)
  have goodD : ∀ (h2 : MH) (ds' : List Nat) (wd' tx' : Nat → List Int), FL pD h1 h2 → DefM h2 ds' wd' tx' ((w, pv, cu, op) :: r) → RO7 B p (r.length : Int) (F_M_call_49 (r.length : Int) h2) (fin1 i o r ds' wd' tx' []) := by
    intro h2 ds' wd' tx' f2 q
    exact m_49 (z1.tr (f2.sub fun b i => by unfold pD pR; omega)) ((f2.2.2.1 107 1 (by unfold pD; omega)).trans z2) ((f2.2.2.1 107 4 (by unfold pD; omega)).trans z3) ⟨(f2.2.2.1 107 3 (by unfold pD; omega)).trans z4.1, z4.2.1, SegR.cg (fun k _ => f2.2.2.1 109 k (by unfold pD; omega)) z4.2.2⟩ ((f2.2.2.1 107 5 (by unfold pD; omega)).trans z5) (Seg.cg (fun k _ _ => f2.2.2.1 110 k (by unfold pD; omega)) z5') (z6.of (fun b i hp => f2.2.2.1 b i (by revert hp; unfold pA pD; omega))) ⟨q.1, q.2.1, fun k hk => q.2.2 k (lv_tl hk)⟩ (y'.dl f2) (by omega)
  have bad : ∀ why : Nat, why ≠ 0 → RO7 B p (r.length : Int) (F_M_call_49 (r.length : Int) (mPi h1 107 1 (why : Int))) ((i, o, r, ds, wd, tx), why) := by
    intro why hy
    obtain ⟨h2, e2, e7, y2⟩ := m_49x (F := (r.length : Int)) (zz.rx (why := why)) hy (fun _ => by omega)
    exact ⟨h2, e2, e7 (by omega), .inr ⟨hy, y2.pop rfl rfl⟩⟩
  unfold call1
  by_cases c0 : 0 ≤ w
  · rw [if_neg (by omega), if_pos c0]
    have lw : lv ds ((w, pv, cu, op) :: r) w.toNat := .inr (by rw [idsF, if_pos c0]; exact List.mem_cons_self)
    obtain ⟨d1, d2, d3⟩ := z7.2.2 _ lw
    obtain ⟨u1, u2, u3, u4⟩ := w7 _ lw
    obtain ⟨h2, x2, f2, y2⟩ := m_text (s := w.toNat) (a := pv ++ [cu]) (F := (r.length : Int)) u3 (.inr ⟨w, pv, cu, op, r, rfl, rfl, z6, w3, by omega, hp4, w10⟩) d1 u1 d2 d3 u2 u4 y'
    rw [List.length_append, List.length_singleton] at x2 y2 ⊢
    rw [show ((w.toNat : Nat) : Int) = w by omega] at x2
    rw [x2, bnd_l]
    exact good h2 _ f2 y2
  rw [if_pos (by omega), if_neg c0, gd_rg (by omega) (by omega)]
  unfold F_M_callBuiltIn
  have hdef : ∀ (kn : Option Nat) (a2 : Int), ((a2 = 0 ∧ kn = lat wd ((pv ++ [cu]).getD 0 []) ds) ∨ (a2 = 1 ∧ kn = none)) → RO7 B p (r.length : Int) (bnd (bnd (F_M_define (r.length : Int) a2 h1) fun x14 h12 => some (.inl (), h12)) fun x43 h41 => F_M_call_49 (r.length : Int) h41) (def1 kn ((pv ++ [cu]).getD 0 []) ((pv ++ [cu]).getD 1 []) i o r ds wd tx) := by
    intro kn a2 hk
    obtain ⟨d1, d2, d3, d4, d5⟩ := m_def (kn := kn) (a2 := a2) z6 w3 (by omega) z7 w5 w7 z2 hk
    unfold def1
    by_cases c1 : wordOk ((pv ++ [cu]).getD 0 []) = true
    · rw [if_pos c1]
      by_cases c2 : 40 < ((pv ++ [cu]).getD 1 []).length
      · rw [if_pos c2, d2 c1 c2, bnd_l, bnd_l]
        exact bad 1 (by decide)
      · rw [if_neg c2]
        cases kn with
        | some k =>
          obtain ⟨h2, x2, f2, y2⟩ := d3 c1 (by omega) k rfl
          rw [x2, bnd_l, bnd_l]
          exact goodD h2 _ _ _ f2.fl y2
        | none =>
          by_cases c3 : 10 ≤ ds.length
          · simp only
            rw [if_pos c3, d4 c1 (by omega) rfl c3, bnd_l, bnd_l]
            exact bad 1 (by decide)
          · simp only
            rw [if_neg c3]
            obtain ⟨h2, x2, f2, y2⟩ := d5 c1 (by omega) rfl (by omega)
            rw [nid_c c0] at y2
            rw [x2, bnd_l, bnd_l]
            exact goodD h2 _ _ _ f2 y2
    · rw [if_neg c1, d1 c1, bnd_l, bnd_l]
      exact good h1 _ FP.rf y'
  have hbr : ∀ k : Nat, k < 9 → RO7 B p (r.length : Int) (bnd (bnd (F_M_comeArgument (r.length : Int) (k : Int) h1) fun x3 h1 => some (.inl (), h1)) fun x43 h41 => F_M_call_49 (r.length : Int) h41) (fin1 i o r ds wd tx ((pv ++ [cu]).getD k [])) := by
    intro k hk
    obtain ⟨h2, x2, f2, y2⟩ := m_arg (k := k) z6 w3 (by omega) (by omega) w10 y'
    rw [x2, bnd_l, bnd_l]
    exact good h2 _ f2 y2
  have gw := m_wordOf (k := 0) z6 w3 (by omega) (by omega)
  rw [show ((0 : Nat) : Int) = 0 from rfl] at gw
  have gl := m_latest (a := (pv ++ [cu]).getD 0 []) z7 w5 w7
  by_cases c1 : w = -2
  · rw [if_pos c1, if_pos (by omega)]
    exact hdef _ 0 (.inl ⟨rfl, rfl⟩)
  rw [if_neg c1, if_neg (by omega)]
  by_cases c2 : w = -3
  · rw [if_pos c2, if_pos (by omega)]
    exact hdef none 1 (.inr ⟨rfl, rfl⟩)
  rw [if_neg c2, if_neg (by omega)]
  by_cases c3 : w = -4
  · rw [if_pos c3, if_pos (by omega), gw, bnd_l, gl, bnd_l]
    obtain ⟨h2, x2, f2, y2⟩ := m_pop (o := lat wd ((pv ++ [cu]).getD 0 []) ds) z7 w5
    rw [x2, bnd_l, bnd_l]
    exact goodD h2 _ _ _ f2.fl y2
  rw [if_neg c3, if_neg (by omega)]
  by_cases c4 : w = -5
  · rw [if_pos c4, if_pos (by omega), gw, bnd_l, gl, bnd_l]
    unfold F_M_callBuiltIn_103
    cases lat wd ((pv ++ [cu]).getD 0 []) ds with
    | none => rw [if_pos (by show (-1 : Int) < 0; decide)]; exact hbr 2 (by omega)
    | some k => rw [if_neg (by show ¬ (k : Int) < 0; omega)]; exact hbr 1 (by omega)
  rw [if_neg c4, if_neg (by omega)]
  by_cases c5 : w = -6
  · rw [if_pos c5, if_pos (by omega), m_alike z6 w3 (by omega), bnd_l]
    unfold F_M_callBuiltIn_124
    by_cases d2 : (pv ++ [cu]).getD 0 [] = (pv ++ [cu]).getD 1 []
    · rw [if_pos d2, if_neg (by decide), if_pos d2]; exact hbr 2 (by omega)
    · rw [if_neg d2, if_pos rfl, if_neg d2]; exact hbr 3 (by omega)
  rw [if_neg c5, if_neg (by omega)]
  by_cases c6 : w = -7
  · rw [if_pos c6, if_pos (by omega)]
    obtain ⟨i1, i2⟩ := m_inc z6 w3 (by omega) w10 z2 y'
    unfold inc1
    by_cases d : 1 ≤ (digs ((pv ++ [cu]).getD 0 [])).length ∧ (digs ((pv ++ [cu]).getD 0 [])).length ≤ 9 ∧ (digs ((pv ++ [cu]).getD 0 [])).all cD = true
    · obtain ⟨h2, x2, f2, y2⟩ := i1 d
      rw [x2, bnd_l, bnd_l]
      show RO7 B p (r.length : Int) _ (if 1 ≤ (digs ((pv ++ [cu]).getD 0 [])).length ∧ (digs ((pv ++ [cu]).getD 0 [])).length ≤ 9 ∧ (digs ((pv ++ [cu]).getD 0 [])).all cD = true then fin1 i o r ds wd tx (numL ((if decide (((pv ++ [cu]).getD 0 []).getD 0 0 = 45) = true then - numV 0 (digs ((pv ++ [cu]).getD 0 [])) else numV 0 (digs ((pv ++ [cu]).getD 0 []))) + 1)) else ((i, o, r, ds, wd, tx), 5))
      rw [if_pos d]
      exact good h2 _ f2 y2
    · rw [i2 d, bnd_l, bnd_l]
      show RO7 B p (r.length : Int) _ (if 1 ≤ (digs ((pv ++ [cu]).getD 0 [])).length ∧ (digs ((pv ++ [cu]).getD 0 [])).length ≤ 9 ∧ (digs ((pv ++ [cu]).getD 0 [])).all cD = true then _ else ((i, o, r, ds, wd, tx), 5))
      rw [if_neg d]
      exact bad 5 (by decide)
  rw [if_neg c6, if_neg (by omega)]
  by_cases c7 : w = -8
  · rw [if_pos c7, if_pos (by omega)]
    have gs := m_size (k := 0) z6 w3 (by omega) (by omega)
    have gb := (m_seg 0 z6 w3).2
    rw [show ((0 : Nat) : Int) = 0 from rfl] at gs
    obtain ⟨h2, x2, f2, y2⟩ := m_num (v := (((pv ++ [cu]).getD 0 []).length : Int)) y' (by omega) (by omega)
    rw [gs, bnd_l, x2, bnd_l, bnd_l]
    exact good h2 _ f2 y2
  rw [if_neg c7, if_neg (by omega), if_pos (by omega)]
  obtain ⟨h2, x2, f2, y2⟩ := ms_l z6 w3 (by omega) w10 hp4 pv.length FU 1 h1 [] (by omega) (by unfold FU; omega) (Nat.le_refl _) FP.rf y'
  have x2' : F_M_shift (r.length : Int) ((pv.length + 1 : Nat) : Int) h1 = some (.inl (), h2) := x2
  rw [x2', bnd_l, bnd_l]
  exact good h2 _ f2 y2
theorem m_callN {k : Nat} (z : RV B h (i, o, fs, ds, wd, tx) p) (hw : wfD ds fs wd tx) (hk : k ∈ ds) : RO B p (F_M_call (k : Int) (-1) h) (fin1 i o fs ds wd tx (brT (wd k) 0 [] (tx k))) := by
  obtain ⟨z', y'⟩ := call_0 z
  unfold F_M_call F_M_call_14
  rw [if_neg (by decide)]
  simp only [sto_e]
  generalize mPi (mPi h 107 9 0) 107 10 0 = h1 at z' y' ⊢
  obtain ⟨z1, z2, z3, z4, ⟨z5, z5'⟩, z6, z7⟩ := z'
  change InpM h1 i at z4
  change DefM h1 ds wd tx fs at z7
  obtain ⟨d1, d2, d3⟩ := z7.2.2 k (.inl hk)
  obtain ⟨u1, u2, u3, u4⟩ := hw k (.inl hk)
  obtain ⟨h2, x2, f2, y2⟩ := m_text (s := k) (a := []) (F := -1) u3 (.inl ⟨rfl, rfl⟩) d1 u1 d2 d3 u2 u4 y'
  rw [show (([] : List (List Int)).length : Int) = 0 from rfl] at x2
  rw [if_neg (by omega), x2, bnd_l]
  exact m_49n (z1.tr (f2.fl.sub fun b i => by unfold pC pR; omega)) ((f2.2.2 107 1 (by unfold pC; omega)).trans z2) ((f2.2.2 107 4 (by unfold pC; omega)).trans z3) (z4.fp f2 (fun b j => by unfold pC; omega)) ((f2.2.2 107 5 (by unfold pC; omega)).trans z5) (Seg.cg (fun k _ _ => f2.2.2 110 k (by unfold pC; omega)) z5') (z6.fp f2 pC_A) (z7.fp f2 pC_D) y2
theorem m_dnl (z : RV B h (i, o, fs, ds, wd, tx) p) : RO B p (F_M_call (-10) (-1) h) ((dropLn i, o, fs, ds, wd, tx), 0) := by
  obtain ⟨z', y'⟩ := call_0 z
  unfold F_M_call F_M_call_14
  rw [if_neg (by decide)]
  simp only [sto_e]
  generalize mPi (mPi h 107 9 0) 107 10 0 = h1 at z' y' ⊢
  obtain ⟨z1, z2, z3, z4, ⟨z5, z5'⟩, z6, z7⟩ := z'
  obtain ⟨h2, x2, f2, y2⟩ := m_dropLine z4
  change InpM h2 (dropLn i) at y2
  rw [if_pos (by decide), gd_rg (by decide) (by decide)]
  unfold F_M_callBuiltIn
  rw [if_neg (by decide), if_neg (by decide), if_neg (by decide), if_neg (by decide), if_neg (by decide), if_neg (by decide), if_neg (by decide), if_neg (by decide), x2, bnd_l, bnd_l]
  have hy : Com h2 (dropLn i).length [] := by
    obtain ⟨y1, y2', y3, y4, y5⟩ := y'
    refine ⟨y2.2.1, y2.1, ?_, ?_, ?_⟩
    · rw [f2.2.2 107 9 (by unfold pI; omega), y3]; simp
    · rw [List.take_nil]; trivial
    · rw [f2.2.2 107 10 (by unfold pI; omega), y5, if_neg (by simp), if_neg (by simp)]
  have q := m_49n (o := o) (z1.tr (f2.fl.sub fun b i => by unfold pI pR; omega)) ((f2.2.2 107 1 (by unfold pI; omega)).trans z2) ((f2.2.2 107 4 (by unfold pI; omega)).trans z3) y2 ((f2.2.2 107 5 (by unfold pI; omega)).trans z5) (Seg.cg (fun k _ _ => f2.2.2 110 k (by unfold pI; omega)) z5') (z6.fp f2 (fun b i => by unfold pI pA; omega)) (z7.fp f2 (fun b i => by unfold pI pD; omega)) hy
  have e : fin1 (dropLn i) o fs ds wd tx [] = ((dropLn i, o, fs, ds, wd, tx), 0) := by
    unfold fin1
    have := y2.2.1
    rw [if_neg (by simp; omega)]
    rfl
  rw [← e]
  exact q
end Ref8
