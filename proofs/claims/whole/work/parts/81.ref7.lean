/-! the reference's first mill: quoted, collect, the end of a call -/
section Ref7
variable {P Q : Nat → Nat → Prop} {B h h' h'' h0 : MH} {T p : Nat} {c t : List Int} {w : Int} {pv : List (List Int)} {cu i o : List Int} {op : Nat} {r fs : List Fm1} {ds : List Nat} {wd tx : Nat → List Int}
theorem RO.ret {x : RS Unit} {q : S1 × Nat} (z : RO B p x q) : RO B p (bnd x fun _ h => some (.inl (), h)) q := by
  obtain ⟨h1, e1, z1⟩ := z
  exact ⟨h1, by rw [e1, bnd_l], z1⟩
/-- the same, and how many macros are collected then -/
def RO7 (B : MH) (p : Nat) (n : Int) (x : RS Unit) (q : S1 × Nat) : Prop := ∃ h', x = some (.inl (), h') ∧ mGi h' 107 7 = n ∧ ((q.2 = 0 ∧ RV B h' q.1 p) ∨ (q.2 ≠ 0 ∧ RX B h' q.1 q.2 p))
theorem RO7.ro {n : Int} {x : RS Unit} {q : S1 × Nat} (z : RO7 B p n x q) : RO B p x q := by
  obtain ⟨h1, e1, -, z1⟩ := z
  exact ⟨h1, e1, z1⟩
theorem RO7.cast {n n' : Int} {x : RS Unit} {q : S1 × Nat} (z : RO7 B p n x q) (e : n = n') : RO7 B p n' x q := by rw [← e]; exact z
theorem RV.top {s : S1} {j : List Int} (z : RV B h s p) (hj : j.length ≤ 500) (sj : SegR h 109 j) : RV B (mPi h 107 3 (j.length : Int)) (j, s.2) p := by
  obtain ⟨z1, z2, z3, z4, ⟨z5, z5'⟩, z6, z7⟩ := z
  have f1 : FP pI h (mPi h 107 3 (j.length : Int)) := FP.pi FP.rf ⟨rfl, rfl⟩
  exact ⟨z1.tr (f1.fl.sub fun b i => by unfold pI pR; omega), (f1.2.2 107 1 (by unfold pI; omega)).trans z2, (f1.2.2 107 4 (by unfold pI; omega)).trans z3, ⟨gi_s, hj, SegR.cg (fun k _ => f1.2.2 109 k (by unfold pI; omega)) sj⟩, ⟨(f1.2.2 107 5 (by unfold pI; omega)).trans z5, Seg.cg (fun k _ _ => f1.2.2 110 k (by unfold pI; omega)) z5'⟩, z6.fp f1 (fun b i => by unfold pI pA; omega), z7.fp f1 (fun b i => by unfold pI pD; omega)⟩
theorem RX.top {s : S1} {why : Nat} {v : Int} {j : List Int} (z : RX B h s why p) : RX B (mPi h 107 3 v) (j, s.2) why p :=
  z.fp (P := pI) (FP.pi FP.rf ⟨rfl, rfl⟩) (fun b i => by unfold pI pR; omega)
/-- what was put, and the rest of the input -/
theorem Puts.top {l j : List Int} (z : Puts B h0 h (i, o, fs, ds, wd, tx) p l) (hj : j.length ≤ 500) (sj : SegR h0 109 j) : RO B p (some (.inl (), mPi h 107 3 (j.length : Int))) (put1 l (j, o, fs, ds, wd, tx)) := by
  obtain ⟨f0, z⟩ := z
  rw [put1_i (i := i) j]
  have sj' : SegR h 109 j := SegR.cg (fun k _ => f0.2.2 109 k (by unfold pP; omega)) sj
  refine ⟨_, rfl, ?_⟩
  rcases z with ⟨z1, z2, -, -⟩ | ⟨z1, z2⟩
  · exact .inl ⟨z1, z2.top hj sj'⟩
  · exact .inr ⟨z1, z2.top⟩
theorem Puts.nil (z : RV B h (i, o, fs, ds, wd, tx) p) (ho : o.length ≤ 400) (hF : (flat fs).length ≤ 200) : Puts B h h (i, o, fs, ds, wd, tx) p [] := by
  have e : put1 [] (i, o, fs, ds, wd, tx) = ((i, o, fs, ds, wd, tx), 0) := by
    cases fs with
    | nil =>
      show ((i, (o ++ []).take 400, ([] : List Fm1), ds, wd, tx), if 400 < (o ++ []).length then 1 else 0) = _
      rw [List.append_nil, List.take_of_length_le ho, if_neg (by omega)]
    | cons y r =>
      obtain ⟨w, pv, cu, op⟩ := y
      show ((i, o, (w, pv, cu ++ [], op) :: r, ds, wd, tx), if 200 < (flat ((w, pv, cu ++ [], op) :: r)).length then 1 else 0) = _
      rw [List.append_nil, if_neg (by omega)]
  refine ⟨FP.rf, .inl ?_⟩
  rw [e]
  exact ⟨rfl, z, ho, hF⟩
/-! quoted -/
theorem q7_l {T : Nat} (e3 : mGi h 107 3 = (T : Int)) (hT : T ≤ 500) : ∀ (t : List Int) (f : Nat) (d : Int), t.length + 1 < f → t.length + 1 ≤ T → SegR h 109 t → 0 < d → d ≤ 600 - (t.length : Int) →
    itr (fun self (q : Int × Int × MH) => F_M_quoted_7_b (fun v1 v2 h => self (v1, v2, h)) q.1 q.2.1 q.2.2) f ((t.length : Int), d, h) = (match qgo d t with | none => F_M_quoted_79 0 0 h | some n => F_M_quoted_79 ((t.length - n : Nat) : Int) 1 h) := by
  intro t
  induction t with
  | nil =>
    intro f d hf hl s d0 d1
    obtain ⟨f, rfl⟩ : ∃ g, f = g + 1 := ⟨f - 1, by omega⟩
    rw [itr_s]
    dsimp only
    rw [F_M_quoted_7_b, if_neg (by omega), if_pos (by simp)]
    unfold F_M_quoted_69
    rw [if_neg (by omega)]
    rfl
  | cons x t ih =>
    intro f d hf hl s d0 d1
    obtain ⟨f, rfl⟩ : ∃ g, f = g + 1 := ⟨f - 1, by omega⟩
    rw [List.length_cons] at hf hl d1
    have key : ∀ d' : Int, 0 ≤ d' → d' ≤ d + 1 → (if d' = 0 then some 1 else (qgo d' t).map (· + 1)) = qgo d (x :: t) →
        itr (fun self (q : Int × Int × MH) => F_M_quoted_7_b (fun v1 v2 h => self (v1, v2, h)) q.1 q.2.1 q.2.2) f ((t.length : Int), d', h) = (match qgo d (x :: t) with | none => F_M_quoted_79 0 0 h | some n => F_M_quoted_79 (((x :: t).length - n : Nat) : Int) 1 h) := by
      intro d' k0 k1 kq
      by_cases c0 : d' = 0
      · obtain ⟨f, rfl⟩ : ∃ g, f = g + 1 := ⟨f - 1, by omega⟩
        rw [← kq, if_pos c0, itr_s]
        dsimp only
        rw [F_M_quoted_7_b, if_pos (by omega)]
        unfold F_M_quoted_69
        rw [if_pos c0]
        rfl
      · have q := ih f d' (by omega) (by omega) s.2 (by omega) (by omega)
        rw [q, ← kq, if_neg c0]
        cases qgo d' t with
        | none => rfl
        | some n =>
          simp only [Option.map_some, List.length_cons]
          rw [show t.length + 1 - (n + 1) = t.length - n by omega]
    rw [itr_s]
    dsimp only
    rw [F_M_quoted_7_b, if_neg (by omega), if_neg (by rw [List.length_cons]; omega), e3, gd_rg (by rw [List.length_cons]; omega) (by rw [List.length_cons]; omega), gd_rg (by omega) (by omega)]
    rw [show (((x :: t).length : Nat) : Int) + -1 = (t.length : Int) by rw [List.length_cons]; omega]
    rw [if_neg (by omega), gd_b (by omega) (by omega), Int.toNat_natCast, s.1]
    unfold F_M_quoted_64
    rw [gd_rg (by omega) (by omega), gd_rg (by omega) (by omega), gd_rg (by omega) (by omega)]
    by_cases c1 : x = 96
    · rw [if_pos c1]
      exact key (d + 1) (by omega) (by omega) (by rw [qgo, if_pos c1])
    · rw [if_neg c1]
      by_cases c2 : x = 39
      · rw [if_pos c2]
        exact key (d + -1) (by omega) (by omega) (by rw [qgo, if_neg c1, if_pos c2, show d - 1 = d + -1 by omega])
      · rw [if_neg c2, Int.add_zero]
        exact key d (by omega) (by omega) (by rw [qgo, if_neg c1, if_neg c2])
theorem q94_l {n : Nat} (ho : o.length ≤ 400) (hn : 1 ≤ n) (hnt : n ≤ t.length) (ht : t.length < 500) (st : SegR h0 109 t) (hl : ∀ x ∈ t, lgl x) : ∀ (q f j : Nat) (h : MH), j + q = n - 1 → q < f → Puts B h0 h (i, o, fs, ds, wd, tx) p (t.take j) →
    ∃ h', itr (fun self (q : Int × Int × MH) => F_M_quoted_94_b (fun v1 v3 h => self (v1, v3, h)) q.1 q.2.1 q.2.2) f (((t.length - n : Nat) : Int), (t.length : Int) - 1 - (j : Int), h) = some (.inl (), mPi h' 107 3 ((t.length - n : Nat) : Int)) ∧ Puts B h0 h' (i, o, fs, ds, wd, tx) p (t.take (n - 1)) := by
  intro q
  induction q with
  | zero =>
    intro f j h hj hf z
    obtain ⟨f, rfl⟩ : ∃ g, f = g + 1 := ⟨f - 1, by omega⟩
    refine ⟨h, ?_, by rw [show n - 1 = j by omega]; exact z⟩
    rw [itr_s]
    dsimp only
    rw [F_M_quoted_94_b, if_pos (by omega)]
    rfl
  | succ q ih =>
    intro f j h hj hf z
    obtain ⟨f, rfl⟩ : ∃ g, f = g + 1 := ⟨f - 1, by omega⟩
    have hx : lgl (t.getD j 0) := by
      rw [List.getD_eq_getElem?_getD, List.getElem?_eq_getElem (by omega)]
      exact hl _ (List.getElem_mem _)
    unfold lgl at hx
    have hc : mGi h 109 (t.length - 1 - j) = t.getD j 0 := (z.1.2.2 109 _ (by unfold pP; omega)).trans (st.get (by omega))
    obtain ⟨h1, e1, y1⟩ := z.step (x := t.getD j 0) ho (by omega) (by omega)
    have et : t.take j ++ [t.getD j 0] = t.take (j + 1) := by
      rw [List.take_add_one, List.getD_eq_getElem?_getD, List.getElem?_eq_getElem (by omega)]
      rfl
    rw [et] at y1
    obtain ⟨h2, e2, y2⟩ := ih f (j + 1) h1 (by omega) (by omega) y1
    refine ⟨h2, ?_, y2⟩
    rw [itr_s]
    dsimp only
    rw [F_M_quoted_94_b, if_neg (by omega), gd_b (by omega) (by omega), show ((t.length : Int) - 1 - (j : Int)).toNat = t.length - 1 - j by omega, hc, e1, bnd_l, gd_rg (by omega) (by omega), show (t.length : Int) - 1 - (j : Int) + -1 = (t.length : Int) - 1 - ((j + 1 : Nat) : Int) by omega]
    exact e2
theorem m_quo (z : RV B h (96 :: t, o, fs, ds, wd, tx) p) (wf : WF1 (96 :: t, o, fs, ds, wd, tx)) : RO B p (F_M_quoted h) (piece1 (96 :: t, o, fs, ds, wd, tx)) := by
  obtain ⟨w1, w2, w3, w4, w5, w6, w7, w8, w9, w10⟩ := wf.un
  obtain ⟨e3, l3, s3⟩ : InpM h (96 :: t) := z.2.2.2.1
  rw [List.length_cons] at e3 l3
  have ep : piece1 (96 :: t, o, fs, ds, wd, tx) = (match qgo 1 t with | none => ((96 :: t, o, fs, ds, wd, tx), 3) | some n => put1 (t.take (n - 1)) (t.drop n, o, fs, ds, wd, tx)) := by
    rw [piece1, if_pos rfl]
    cases qgo 1 t <;> rfl
  have q := q7_l (h := h) e3 l3 t 99999999 1 (by omega) (by omega) s3.2 (by omega) (by omega)
  have hq : F_M_quoted h = itr (fun self (q : Int × Int × MH) => F_M_quoted_7_b (fun v1 v2 h => self (v1, v2, h)) q.1 q.2.1 q.2.2) 99999999 ((t.length : Int), 1, h) := by
    unfold F_M_quoted F_M_quoted_7
    rw [show FU = 99999999 + 1 from rfl, itr_s]
    dsimp only
    rw [F_M_quoted_7_b, if_neg (by decide), e3, if_neg (by omega), gd_rg (by omega) (by omega), gd_rg (by omega) (by omega), if_pos (by omega)]
    unfold F_M_quoted_64
    rw [gd_rg (by omega) (by omega), show ((t.length + 1 : Nat) : Int) + -1 = (t.length : Int) by omega]
    rfl
  rw [hq, q, ep]
  cases e : qgo 1 t with
  | none =>
    unfold F_M_quoted_79
    rw [gd_01a, need_0 z.2.1 (by decide), bnd_l, if_pos rfl]
    exact ⟨_, rfl, .inr ⟨(by decide : (3 : Nat) ≠ 0), z.rx (why := 3)⟩⟩
  | some n =>
    have hn := qgo_le e
    dsimp only
    unfold F_M_quoted_79
    rw [gd_01b, need_1 z.2.1, bnd_l, if_neg (by decide), e3, gd_rg (by omega) (by omega)]
    obtain ⟨h1, e1, y1⟩ := q94_l (t := t) w2 hn.1 hn.2 (by omega) s3.2 (fun x hx => w8 x (List.mem_cons_of_mem _ hx)) (n - 1) FU 0 h (by omega) (by unfold FU; omega) (Puts.nil z w2 w3)
    have e1' : F_M_quoted_94 ((t.length - n : Nat) : Int) (((t.length + 1 : Nat) : Int) - 2) h = some (.inl (), mPi h1 107 3 ((t.length - n : Nat) : Int)) := by
      rw [show ((t.length + 1 : Nat) : Int) - 2 = (t.length : Int) - 1 - ((0 : Nat) : Int) by omega]
      exact e1
    rw [e1']
    have hd : (t.drop n).length = t.length - n := List.length_drop
    rw [← hd]
    exact y1.top (by rw [hd]; omega) (s3.2.drop n)
/-! collect -/
theorem m_col (z : RV B h (i, o, fs, ds, wd, tx) p) (hfs : fs.length ≤ 6) (hl : 0 ≤ w → w.toNat ∈ ds) : RO B p (F_M_collect w h) (col1 i o fs ds wd tx w) := by
  have zz := z
  obtain ⟨z1, z2, z3, z4, ⟨z5, z5'⟩, ⟨a1, a2, a3, a4⟩, z7⟩ := z
  change InpM h i at z4
  change mGi h 107 7 = (fs.length : Int) at a1
  change mGi h 107 8 = ((flat fs).length : Int) at a2
  change Seg h 112 0 (flat fs) at a3
  change FrM h fs at a4
  change DefM h ds wd tx fs at z7
  unfold F_M_collect F_M_collect_15 col1
  rw [a1]
  by_cases c1 : 6 ≤ fs.length
  · rw [if_pos (by omega), if_pos c1, gd_01a, need_0 z2 (by decide), bnd_l, if_pos rfl]
    exact ⟨_, rfl, .inr ⟨(by decide : (1 : Nat) ≠ 0), zz.rx (why := 1)⟩⟩
  · rw [if_neg (by omega), if_neg c1, gd_01b, need_1 z2, bnd_l, if_neg (by decide), a1, gd_b (by omega) (by omega)]
    simp only [sto_e]
    have f1 : FP (fun b i => (b = 117 ∨ b = 118 ∨ b = 120) ∧ i = fs.length ∨ b = 119 ∧ i = 6 * fs.length ∨ b = 107 ∧ i = 7) h (mPi (mPi (mPi (mPi (mPi h 117 fs.length w) 118 fs.length 1) 119 (6 * fs.length) ((flat fs).length : Int)) 120 fs.length 0) 107 7 ((fs.length : Int) + 1)) := FP.pi (FP.pi (FP.pi (FP.pi (FP.pi FP.rf (by omega)) (by omega)) (by omega)) (by omega)) (by omega)
    rw [show ∀ v x, mGi (mPi h 117 v x) 107 7 = (fs.length : Int) from fun v x => by rw [gi_pi, if_neg (by omega), a1], gd_b (by omega) (by omega), Int.toNat_natCast]
    rw [show ∀ v x y u, mGi (mPi (mPi h 117 v x) 118 y u) 107 7 = (fs.length : Int) from fun v x y u => by rw [gi_pi, if_neg (by omega), gi_pi, if_neg (by omega), a1], gd_rg (by omega) (by omega), gd_b (by omega) (by omega)]
    rw [show ∀ v x y u, mGi (mPi (mPi h 117 v x) 118 y u) 107 8 = ((flat fs).length : Int) from fun v x y u => by rw [gi_pi, if_neg (by omega), gi_pi, if_neg (by omega), a2]]
    rw [show (6 * (fs.length : Int)).toNat = 6 * fs.length by omega]
    rw [show ∀ v x y u s r, mGi (mPi (mPi (mPi h 117 v x) 118 y u) 119 s r) 107 7 = (fs.length : Int) from fun v x y u s r => by rw [gi_pi, if_neg (by omega), gi_pi, if_neg (by omega), gi_pi, if_neg (by omega), a1], gd_b (by omega) (by omega), Int.toNat_natCast]
    rw [show ∀ v x y u s r q, mGi (mPi (mPi (mPi (mPi h 117 v x) 118 y u) 119 s r) 120 q 0) 107 7 = (fs.length : Int) from fun v x y u s r q => by rw [gi_pi, if_neg (by omega), gi_pi, if_neg (by omega), gi_pi, if_neg (by omega), gi_pi, if_neg (by omega), a1], gd_rg (by omega) (by omega)]
    have hFl : flat ((w, [], [], 0) :: fs) = flat fs := by rw [flat_c]; simp
    refine ⟨_, rfl, .inl ⟨rfl, z1.tr (f1.fl.sub fun b i => by unfold pR; omega), (f1.2.2 107 1 (by omega)).trans z2, (f1.2.2 107 4 (by omega)).trans z3, z4.fp f1 (fun b j => by omega), ⟨(f1.2.2 107 5 (by omega)).trans z5, Seg.cg (fun k _ _ => f1.2.2 110 k (by omega)) z5'⟩, ⟨?_, ?_, ?_, ?_, ?_, ?_, by simp, ⟨?_, trivial⟩, ?_⟩, ?_⟩⟩
    · rw [gi_s]
      show _ = ((fs.length + 1 : Nat) : Int)
      omega
    · show mGi _ 107 8 = ((flat ((w, [], [], 0) :: fs)).length : Int)
      rw [hFl]
      exact (f1.2.2 107 8 (by omega)).trans a2
    · show Seg _ 112 0 (flat ((w, [], [], 0) :: fs))
      rw [hFl]
      exact Seg.cg (fun k _ _ => f1.2.2 112 k (by omega)) a3
    · rw [gi_pi, if_neg (by omega), gi_pi, if_neg (by omega), gi_pi, if_neg (by omega), gi_pi, if_neg (by omega), gi_s]
    · rw [gi_pi, if_neg (by omega), gi_pi, if_neg (by omega), gi_pi, if_neg (by omega), gi_s]
      rfl
    · rw [gi_pi, if_neg (by omega), gi_s]
      rfl
    · rw [gi_pi, if_neg (by omega), gi_pi, if_neg (by omega), gi_s]
    · exact FrM.cg (fun j hj => ⟨f1.2.2 117 j (by omega), f1.2.2 118 j (by omega), f1.2.2 120 j (by omega)⟩) (fun j hj => f1.2.2 119 j (by omega)) a4
    · have y := z7.fp f1 (fun b i => by unfold pD; omega)
      exact ⟨y.1, y.2.1, fun k hk => y.2.2 k ((lv_push2 hl).mp hk)⟩
/-! the end of a call -/
theorem m_102 {c : List Int} (z1 : FL pR B h) (z2 : mGi h 107 1 = 0) (z3 : mGi h 107 4 = (p : Int)) (z4 : InpM h i) (z5 : mGi h 107 5 = (o.length : Int)) (z5' : Seg h 110 0 o) (z6 : ArgM h r) (z7 : DefM h ds wd tx r) (y : Com h i.length c) (v : Int) : RO7 B p (mGi h 107 7) (if mGi h 107 10 = 0 then F_M_call_102 1 h else F_M_call_102 0 h) (fin1 i o r ds wd tx c) := by
  have zz : RV B h (i, o, r, ds, wd, tx) p := ⟨z1, z2, z3, z4, ⟨z5, z5'⟩, z6, z7⟩
  obtain ⟨y1, y2, y3, y4, y5⟩ := y
  unfold fin1 F_M_call_102
  rw [y5]
  by_cases c1 : 500 - i.length < c.length
  · rw [if_pos c1, if_neg (by decide), if_pos (by omega), gd_01a, need_0 z2 (by decide), bnd_l, if_pos rfl]
    exact ⟨_, rfl, by rw [gi_pi, if_neg (by omega)], .inr ⟨(by decide : (1 : Nat) ≠ 0), zz.rx (why := 1)⟩⟩
  · rw [if_neg c1, if_pos rfl, if_neg (by omega), gd_01b, need_1 z2, bnd_l, if_neg (by decide)]
    rw [Nat.min_eq_left (by omega)] at y3
    rw [List.take_of_length_le (by omega)] at y4
    obtain ⟨h1, e1, f1, q1⟩ := go_l (i := i) (c := c) (by omega) c.length FU 0 h (by omega) (by unfold FU; omega) z4.1 y3 y4 z4.2.2 (fun j hj => absurd hj (Nat.not_lt_zero _))
    refine ⟨h1, e1, f1.2.2 107 7 (by unfold pG; omega), .inl ⟨rfl, z1.tr (f1.fl.sub fun b i => by unfold pG pR; omega), (f1.2.2 107 1 (by unfold pG; omega)).trans z2, (f1.2.2 107 4 (by unfold pG; omega)).trans z3, q1, ⟨(f1.2.2 107 5 (by unfold pG; omega)).trans z5, Seg.cg (fun k _ _ => f1.2.2 110 k (by unfold pG; omega)) z5'⟩, z6.fp f1 (fun b i => by unfold pG pA; omega), z7.fp f1 (fun b i => by unfold pG pD; omega)⟩⟩
def p49 (b i : Nat) : Prop := b = 107 ∧ (i = 7 ∨ i = 8)
/-- behind the text of a macro with brackets -/
theorem m_49 {c : List Int} (z1 : FL pR B h) (z2 : mGi h 107 1 = 0) (z3 : mGi h 107 4 = (p : Int)) (z4 : InpM h i) (z5 : mGi h 107 5 = (o.length : Int)) (z5' : Seg h 110 0 o) (z6 : ArgM h ((w, pv, cu, op) :: r)) (z7 : DefM h ds wd tx r) (y : Com h i.length c) (hr : r.length < 6) : RO7 B p (r.length : Int) (F_M_call_49 (r.length : Int) h) (fin1 i o r ds wd tx c) := by
  obtain ⟨a1, a2, a3, q1, q2, q3, q4, q5, q6⟩ := z6
  have e0 := q5.get 0 (by rw [List.length_append, List.length_singleton]; omega)
  rw [List.take_zero, List.flatten_nil, List.length_nil, Nat.add_zero, Nat.add_zero] at e0
  have f1 : FP p49 h (mPi (mPi h 107 8 ((flat r).length : Int)) 107 7 (r.length : Int)) := FP.pi (FP.pi FP.rf (by unfold p49; omega)) (by unfold p49; omega)
  rw [flat_c] at a3
  unfold F_M_call_49 F_M_call_70 F_M_call_86
  rw [if_pos (by omega), gd_rg (by omega) (by omega), gd_b (by omega) (by omega), show (6 * (r.length : Int)).toNat = 6 * r.length by omega, e0]
  simp only [sto_e]
  rw [if_pos (by omega)]
  refine RO7.cast (m_102 (z1.tr (f1.fl.sub fun b i => by unfold p49 pR; omega)) ((f1.2.2 107 1 (by unfold p49; omega)).trans z2) ((f1.2.2 107 4 (by unfold p49; omega)).trans z3) (z4.fp f1 (fun b j => by unfold p49; omega)) ((f1.2.2 107 5 (by unfold p49; omega)).trans z5) (Seg.cg (fun k _ _ => f1.2.2 110 k (by unfold p49; omega)) z5') ⟨gi_s, ?_, ?_, FrM.cg (fun j _ => ⟨f1.2.2 117 j (by unfold p49; omega), f1.2.2 118 j (by unfold p49; omega), f1.2.2 120 j (by unfold p49; omega)⟩) (fun j _ => f1.2.2 119 j (by unfold p49; omega)) q6⟩ (z7.fp f1 (fun b i => by unfold p49 pD; omega)) ?_ 0) gi_s
  · rw [gi_pi, if_neg (by omega), gi_s]
  · exact Seg.cg (fun k _ _ => f1.2.2 112 k (by unfold p49; omega)) (Seg.app.mp a3).1
  · obtain ⟨y1, y2, y3, y4, y5⟩ := y
    exact ⟨y1, (f1.2.2 107 3 (by unfold p49; omega)).trans y2, (f1.2.2 107 9 (by unfold p49; omega)).trans y3, Seg.cg (fun k _ _ => f1.2.2 113 k (by unfold p49; omega)) y4, (f1.2.2 107 10 (by unfold p49; omega)).trans y5⟩
/-- behind the text of a macro without brackets -/
theorem m_49n {c : List Int} (z1 : FL pR B h) (z2 : mGi h 107 1 = 0) (z3 : mGi h 107 4 = (p : Int)) (z4 : InpM h i) (z5 : mGi h 107 5 = (o.length : Int)) (z5' : Seg h 110 0 o) (z6 : ArgM h r) (z7 : DefM h ds wd tx r) (y : Com h i.length c) : RO B p (F_M_call_49 (-1) h) (fin1 i o r ds wd tx c) := by
  have f1 : FP p49 h (mPi (mPi h 107 8 (mGi h 107 8)) 107 7 (mGi (mPi h 107 8 (mGi h 107 8)) 107 7)) := FP.pi (FP.pi FP.rf (by unfold p49; omega)) (by unfold p49; omega)
  have g : ∀ b i, mGi (mPi (mPi h 107 8 (mGi h 107 8)) 107 7 (mGi (mPi h 107 8 (mGi h 107 8)) 107 7)) b i = mGi h b i := fun b i => by
    rw [gi_pi]
    by_cases d1 : b = 107 ∧ i = 7
    · rw [if_pos d1, gi_pi, if_neg (by omega), d1.1, d1.2]
    · rw [if_neg d1, gi_pi]
      by_cases d2 : b = 107 ∧ i = 8
      · rw [if_pos d2, d2.1, d2.2]
      · rw [if_neg d2]
  unfold F_M_call_49 F_M_call_70 F_M_call_86
  rw [if_neg (by decide)]
  simp only [sto_e]
  rw [if_neg (by decide)]
  refine RO7.ro (m_102 (z1.tr (f1.fl.sub fun b i => by unfold p49 pR; omega)) ((g _ _).trans z2) ((g _ _).trans z3) (z4.fp f1 (fun b j => by unfold p49; omega)) ((g _ _).trans z5) (Seg.cg (fun k _ _ => g 110 k) z5') (z6.of (fun b i _ => g b i)) (z7.fp f1 (fun b i => by unfold p49 pD; omega)) ?_ 0)
  obtain ⟨y1, y2, y3, y4, y5⟩ := y
  exact ⟨y1, (g _ _).trans y2, (g _ _).trans y3, Seg.cg (fun k _ _ => g 113 k) y4, (g _ _).trans y5⟩
/-- where it has failed nothing more happens -/
theorem m_49x {s : S1} {why : Nat} {F : Int} (z : RX B h s why p) (hw : why ≠ 0) (hF : 0 ≤ F → F < 6) : ∃ h', F_M_call_49 F h = some (.inl (), h') ∧ (0 ≤ F → mGi h' 107 7 = F) ∧ RX B h' s why p := by
  have main : ∀ v1 v2 : Int, ∃ h', (if mGi (mPi (mPi h 107 8 v1) 107 7 v2) 107 10 = 0 then F_M_call_102 1 (mPi (mPi h 107 8 v1) 107 7 v2) else F_M_call_102 0 (mPi (mPi h 107 8 v1) 107 7 v2)) = some (.inl (), h') ∧ mGi h' 107 7 = v2 ∧ RX B h' s why p := by
    intro v1 v2
    have f1 : FP p49 h (mPi (mPi h 107 8 v1) 107 7 v2) := FP.pi (FP.pi FP.rf (by unfold p49; omega)) (by unfold p49; omega)
    have z' := z.fp f1 (fun b i => by unfold p49 pR; omega)
    have g7 : mGi (mPi (mPi h 107 8 v1) 107 7 v2) 107 7 = v2 := gi_s
    generalize mPi (mPi h 107 8 v1) 107 7 v2 = h1 at z' g7 ⊢
    obtain ⟨h2, e2, f2⟩ := need_x (h := h1) (v := 1) (x := 0) z'.2.1 (by omega)
    obtain ⟨h3, e3, f3⟩ := need_x (h := h1) (v := 1) (x := 1) z'.2.1 (by omega)
    unfold F_M_call_102
    rw [gd_01a, gd_01b, e2, bnd_l, e3, bnd_l, if_pos rfl]
    by_cases d : mGi h1 107 10 = 0
    · rw [if_pos d]; exact ⟨h3, rfl, (f3.2.2 _ _ id).trans g7, z'.fp f3 (fun _ _ q => q.elim)⟩
    · rw [if_neg d]; exact ⟨h2, rfl, (f2.2.2 _ _ id).trans g7, z'.fp f2 (fun _ _ q => q.elim)⟩
  unfold F_M_call_49 F_M_call_70 F_M_call_86
  by_cases c1 : 0 ≤ F
  · have := hF c1
    rw [if_pos c1, gd_rg (by omega) (by omega), gd_b (by omega) (by omega)]
    simp only [sto_e]
    rw [if_pos c1]
    obtain ⟨h1, x1, x2, x3⟩ := main (mGi h 119 (6 * F).toNat) F
    exact ⟨h1, x1, fun _ => x2, x3⟩
  · rw [if_neg c1]
    simp only [sto_e]
    rw [if_neg c1]
    obtain ⟨h1, x1, x2, x3⟩ := main (mGi h 107 8) (mGi (mPi h 107 8 (mGi h 107 8)) 107 7)
    exact ⟨h1, x1, fun q => absurd q c1, x3⟩
end Ref7
