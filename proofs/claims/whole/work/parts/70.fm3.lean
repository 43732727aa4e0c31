/-! the class's first mill: calls, words, single characters -/
section Fm3
variable {B h h0 h' : MH} {m : Nat → Nat} {ds : List Nat} {wd tx : Nat → List Int} {fs r : List Fm1} {w : Int} {pv : List (List Int)} {cu i o : List Int} {op p : Nat}
theorem CO.ret {x : RS Unit} {q : S1 × Nat} (z : CO B p x q) : CO B p (bnd x fun _ h => some (.inl (), h)) q := by
  rcases z with ⟨z1, h1, e1, z2⟩ | ⟨z1, h1, e1, z2⟩
  · exact .inl ⟨z1, h1, by rw [e1, bnd_l], z2⟩
  · exact .inr ⟨z1, h1, by rw [e1, bnd_r], z2⟩
theorem CO.bad {s : S1} {why : Nat} {x : RS Unit} (z : CV B h s p) (ho : s.2.1.length ≤ 400) (hw : why ≠ 0) (hx : x = some (.inr 13, mNew (mPi h 3 6 (why : Int)) 13 6)) : CO B p x (s, why) := .inr ⟨hw, _, hx, z.cx ho⟩
theorem CV.bf {s : S1} {why : Nat} (z : CV B h s p) (K : Unit → MH → RS Unit) : bnd (F_Fm_fail (why : Int) h) K = some (.inr 13, mNew (mPi h 3 6 (why : Int)) 13 6) := by rw [z.fail, bnd_r]
theorem cf_come {c : List Int} (z : CV B h (i, o, fs, ds, wd, tx) p) (y : Let h 84 500 c) (ho : o.length ≤ 400) : CO B p (F_Fm_comeAhead h) (fin1 i o fs ds wd tx c) := by
  obtain ⟨z1, z2, z3, z4, z5, z6, m, z7⟩ := id z
  change Inp h i at z5
  unfold F_Fm_comeAhead fin1
  by_cases cc : 500 < c.length + i.length
  · rw [if_pos cc, in_come0 z5 y cc, bnd_l, if_pos rfl]
    exact CO.bad (why := 1) z ho (by decide) (z.bf (why := 1) _)
  · obtain ⟨h1, e1, f1, y1⟩ := in_come z5 y (by omega)
    rw [if_neg cc, e1, bnd_l, if_neg (by decide)]
    exact .inl ⟨rfl, h1, rfl, z1.tr (f1.sub (by decide)), z2, (f1.2.2 3 (by decide) 5).trans z3, z4.fr f1 (by decide) (by decide), y1, z6.fr f1 (by decide), m, z7.fr f1 (by unfold noD; decide)⟩
theorem cf_end {c : List Int} (f : Fr CS B h) (R : Rm B) (e5 : mGi h 3 5 = (p : Int)) (zo : Let h 4 400 o) (zi : Inp h i) (zA : ArgC h ((w, pv, cu, op) :: r)) (zD : DefC h m ds wd tx r) (y : Let h 84 500 c) (hF : (flat ((w, pv, cu, op) :: r)).length ≤ 200) (hr : r.length < 6) (ho : o.length ≤ 400) : CO B p (F_Fm_callCollected_254 h) (fin1 i o r ds wd tx c) := by
  obtain ⟨h1, e1, f1, y1⟩ := ar_end zA hF hr
  unfold F_Fm_callCollected_254
  rw [e1, bnd_l]
  exact CO.ret (cf_come ⟨f.tr (f1.sub (by decide)), R, (f1.2.2 3 (by decide) 5).trans e5, zo.fr f1 (by decide) (by decide), zi.fr f1 (by decide) (by decide), y1, m, zD.fr f1 (by unfold noD; decide)⟩ (y.fr f1 (by decide) (by decide)) ho)
def okS (S : List Nat) : Prop := ∀ b ∈ S, b ∈ CS ∧ b ∉ [3, 4, 5, 75, 76, 77, 78, 79, 80, 82, 83]
theorem okS_D : okS DS := fun b hb => ⟨mCS.mpr (by have := mDS.mp hb; omega), fun q => by have := mDS.mp hb; simp at q; omega⟩
theorem FOk.hd {fs : List Fm1} (z : FOk ((w, pv, cu, op) :: fs)) : -9 ≤ w ∧ w ≠ -1 ∧ pv.length ≤ 4 ∧ op ≤ cu.length ∧ FOk fs := z
theorem nid_sp (U : List Nat) (hu : ∀ n, usedB ds r n = true ↔ n ∈ U) : ∀ (f n : Nat), (∃ k, n ≤ k ∧ k < n + f ∧ k ∉ U) → nid ds r f n ∉ U ∧ nid ds r f n < n + f := by
  intro f
  induction f with
  | zero => intro n hk; obtain ⟨k, h1, h2, -⟩ := hk; omega
  | succ f ih =>
    intro n hk
    unfold nid
    by_cases c : usedB ds r n = true
    · rw [if_pos c]
      obtain ⟨k, h1, h2, h3⟩ := hk
      have hn : k ≠ n := fun q => h3 (q ▸ (hu n).mp c)
      have q := ih (n + 1) ⟨k, by omega, by omega, h3⟩
      exact ⟨q.1, by omega⟩
    · rw [if_neg c]
      exact ⟨fun q => c ((hu n).mpr q), by omega⟩
theorem nid_ok (hd : ds.length < 10) (hr : r.length ≤ 6) : ¬ lv ds r (nid ds r 16 0) ∧ nid ds r 16 0 < 16 := by
  have hu : ∀ n, usedB ds r n = true ↔ n ∈ ds ++ idsF r := fun n => by unfold usedB; rw [decide_eq_true_eq, List.mem_append]
  have hex : ∃ k, 0 ≤ k ∧ k < 0 + 16 ∧ k ∉ ds ++ idsF r := by
    refine Classical.byContradiction fun hno => ?_
    have q := pigeon 16 (fun i => i) (ds ++ idsF r) (fun i j _ _ e => e) (fun i hi => Classical.byContradiction fun hn => hno ⟨i, by omega, by omega, hn⟩)
    rw [List.length_append] at q
    have := idsF_len r
    omega
  have q := nid_sp _ hu 16 0 hex
  refine ⟨fun z => q.1 (List.mem_append.mpr z), by omega⟩
theorem wordOk_len {w : List Int} (z : wordOk w = true) : w.length ≤ 8 := by
  unfold wordOk at z
  simp only [Bool.and_eq_true, decide_eq_true_eq] at z
  exact z.1.1.2
theorem awN_le : ∀ (fs : List Fm1) (s : Nat), awN m s fs ≤ fs.length
  | [], _ => Int.le_refl 0
  | (w, pv, cu, op) :: r, s => by
    have := awN_le r s
    rw [awN, List.length_cons]
    split <;> omega
theorem cf_call (z : CV B h (i, o, (w, pv, cu, op) :: r, ds, wd, tx) p) (wf : WF1 (i, o, (w, pv, cu, op) :: r, ds, wd, tx)) : CO B p (F_Fm_callCollected h) (call1 i o w (pv ++ [cu]) r ds wd tx) := by
  obtain ⟨-, ho, hF, hfs, hd, hok, hlv, -⟩ := wf
  change o.length ≤ 400 at ho
  change (flat ((w, pv, cu, op) :: r)).length ≤ 200 at hF
  change ((w, pv, cu, op) :: r).length ≤ 6 at hfs
  change ds.length ≤ 10 at hd
  obtain ⟨hw1, hw2, hp4, -, -⟩ := FOk.hd hok
  rw [List.length_cons] at hfs
  obtain ⟨h1, e1, f1, y1⟩ := let_empty (a := 84) (n := 500) (h := h)
  have f1' : Fr [84, 85] h h1 := f1.sub (by decide)
  have zz1 := z.com f1'
  obtain ⟨z1, z2, z3, z4, z5, z6, m, z7⟩ := id zz1
  change Let h1 4 400 o at z4
  change Inp h1 i at z5
  change ArgC h1 ((w, pv, cu, op) :: r) at z6
  change DefC h1 m ds wd tx ((w, pv, cu, op) :: r) at z7
  have zh := z.2.2.2.2.2.1
  change ArgC h ((w, pv, cu, op) :: r) at zh
  have eL : mGi h 77 5 = (r.length : Int) := by have := zh.1; rw [List.length_cons] at this; omega
  have eL1 : mGi h1 77 5 = (r.length : Int) := (f1'.2.2 77 (by decide) 5).trans eL
  have eM : mGi h 81 r.length = mcd m w := (f1'.2.2 81 (by decide) _).symm.trans z7.2.2.2.1.1
  have eC : mGi h1 83 r.length = ((pv.length + 1 : Nat) : Int) := z6.2.2.2.1
  obtain ⟨s0, l0⟩ := ar_seg 0 z6 hF
  have e2 := ar_start (k := 0) zh hF (by omega) (by omega)
  have e3 := ar_length (k := 0) zh hF (by omega) (by omega)
  rw [List.take_zero, List.flatten_nil, List.length_nil, Nat.add_zero] at s0 l0 e2
  rw [show ((0 : Nat) : Int) = 0 from rfl] at e2 e3
  have hwd : ∀ k ∈ ds, (wd k).length ≤ 8 := fun k hk => wordOk_len (hlv k (.inl hk)).1
  have lat1 := de_latest (t := (pv ++ [cu]).getD 0 []) z7 (by decide) l0 s0 hd hwd
  have hkn : ∀ k, lat wd ((pv ++ [cu]).getD 0 []) ds = some k → k ∈ ds := fun k e => lat_mem e
  have go : ∀ (S : List Nat) (h2 : MH) (ds' : List Nat) (wd' tx' : Nat → List Int) (m' : Nat → Nat) (c : List Int), w < 0 → okS S → Fr S h1 h2 → DefC h2 m' ds' wd' tx' ((w, pv, cu, op) :: r) → Let h2 84 500 c → CO B p (F_Fm_callCollected_254 h2) (fin1 i o r ds' wd' tx' c) := by
    intro S h2 ds' wd' tx' m' c hw hS f2 zD y
    have g : ∀ b ∈ [3, 4, 5, 75, 76, 77, 78, 79, 80, 82, 83], b ∉ S := fun b hb q => (hS b q).2 hb
    refine cf_end (z1.tr (f2.sub fun b hb => (hS b hb).1)) z2 ((f2.2.2 3 (g 3 (by decide)) 5).trans z3) (z4.fr f2 (g 4 (by decide)) (g 5 (by decide))) (z5.fr f2 (g 75 (by decide)) (g 76 (by decide))) (z6.fr f2 (fun b hb => g b (by revert b; decide))) (zD.pop (S := []) Fr.rf (by simp) (fun s hs => ?_)) y hF (by omega) ho
    rw [if_neg (by omega), Int.sub_zero]
  have bad : ∀ (why : Nat) (K : Unit → MH → RS Unit), bnd (F_Fm_fail (why : Int) h1) K = some (.inr 13, mNew (mPi h1 3 6 (why : Int)) 13 6) := fun why K => zz1.bf K
  have badC : ∀ (why : Nat) (x : RS Unit), why ≠ 0 → x = some (.inr 13, mNew (mPi h1 3 6 (why : Int)) 13 6) → CO B p x ((i, o, r, ds, wd, tx), why) := fun why x hy hx => .inr ⟨hy, _, hx, CX.of z1 z3 z4 (List.take_of_length_le ho).symm z7.1 z7.2.1⟩
  unfold F_Fm_callCollected
  rw [eL, gd_b (by omega) (by omega), Int.toNat_natCast, eM, e2, bnd_l, e3, bnd_l, e1, bnd_l]
  unfold call1
  have hdef : ∀ (kn : Option Nat), w < 0 → (∀ k, kn = some k → k ∈ ds) → CO B p (bnd (F_Fm_define (latV m kn) h1) fun _ h43 => F_Fm_callCollected_254 h43) (def1 kn ((pv ++ [cu]).getD 0 []) ((pv ++ [cu]).getD 1 []) i o r ds wd tx) := by
    intro kn hw hk
    obtain ⟨d1, d2, d3, d4, d5⟩ := cf_def (kn := kn) z6 hF (by omega) z7 (by rw [List.length_cons]; omega) hd hk _ (bad 1)
    unfold def1
    by_cases c1 : wordOk ((pv ++ [cu]).getD 0 []) = true
    · rw [if_pos c1]
      by_cases c2 : 40 < ((pv ++ [cu]).getD 1 []).length
      · rw [if_pos c2, d2 c1 c2, bnd_r]
        exact badC 1 _ (by decide) rfl
      · rw [if_neg c2]
        cases kn with
        | some k =>
          obtain ⟨h2, x2, f2, y2⟩ := d3 c1 (by omega) k rfl
          rw [x2, bnd_l]
          exact go DS h2 _ _ _ _ _ hw okS_D f2 y2 (y1.fr f2 (fun q => by have := mDS.mp q; omega) (fun q => by have := mDS.mp q; omega))
        | none =>
          by_cases c3 : 10 ≤ ds.length
          · simp only
            rw [if_pos c3, d4 c1 (by omega) rfl c3, bnd_r]
            exact badC 1 _ (by decide) rfl
          · simp only
            rw [if_neg c3]
            have hn := (nid_ok (ds := ds) (r := r) (by omega) (by omega)).1
            obtain ⟨h2, m', x2, f2, y2⟩ := d5 c1 (by omega) rfl (by omega) (nid ds r 16 0) (fun q => hn ((lv_push (by omega)).mp q))
            rw [x2, bnd_l]
            exact go DS h2 _ _ _ _ _ hw okS_D f2 y2 (y1.fr f2 (fun q => by have := mDS.mp q; omega) (fun q => by have := mDS.mp q; omega))
    · rw [if_neg c1, d1 c1, bnd_l]
      exact go [] h1 _ _ _ _ _ hw (by unfold okS; simp) Fr.rf z7 y1
  have hbr : ∀ k : Nat, k < 9 → w < 0 → CO B p (bnd (F_Fm_bringArgument (k : Int) h1) fun _ h11 => F_Fm_callCollected_254 h11) (fin1 i o r ds wd tx ((pv ++ [cu]).getD k [])) := by
    intro k hk hw
    obtain ⟨h2, x2, f2, y2⟩ := cf_brA (k := k) z6 hF (by omega) (by omega) y1
    rw [x2, bnd_l]
    exact go [84, 85] h2 _ _ _ _ _ hw (by unfold okS; decide) f2 (z7.fr f2 (by unfold noD; decide)) y2
  by_cases c0 : 0 ≤ w
  · have lw : lv ds ((w, pv, cu, op) :: r) w.toNat := .inr (by rw [idsF, if_pos c0]; exact List.mem_cons_self)
    obtain ⟨q1, q2, q3⟩ := z7.2.2.2.2.2.1 _ lw
    have lw' := hlv w.toNat lw
    change wordOk (wd w.toNat) = true ∧ (tx w.toNat).length ≤ 40 ∧ _ at lw'
    have em : mcd m w = (m w.toNat : Int) := by unfold mcd; rw [if_pos c0]
    rw [if_pos c0, em, if_neg (by omega), if_neg (by omega), if_neg (by omega), if_neg (by omega), if_neg (by omega), if_neg (by omega), if_neg (by omega), if_neg (by omega), eL1, gd_b (by omega) (by omega), Int.toNat_natCast, eC]
    obtain ⟨h2, x2, f2, y2⟩ := cf_brT (s := m w.toNat) (a := pv ++ [cu]) q1 (.inr ⟨w, pv, cu, op, r, rfl, z6, hF, by omega, hp4⟩) q2 (wordOk_len lw'.1) q3 lw'.2.1 y1
    rw [List.length_append, List.length_singleton] at x2 y2 ⊢
    rw [x2, bnd_l, gd_b (by omega) (by omega), Int.toNat_natCast]
    have ea : mGi h2 9 (m w.toNat) = awN m (m w.toNat) ((w, pv, cu, op) :: r) := (f2.2.2 9 (by decide) _).trans (z7.2.2.2.2.1 _ q1)
    have eb : awN m (m w.toNat) ((w, pv, cu, op) :: r) = 1 + awN m (m w.toNat) r := by rw [awN, if_pos ⟨c0, rfl⟩]
    have ec : 0 ≤ awN m (m w.toNat) r := awN_nn r _
    have ed : awN m (m w.toNat) r ≤ r.length := awN_le r _
    rw [ea, eb, gd_rg (by omega) (by omega)]
    simp only [sto_e]
    have f3 : Fr [9] h2 (mPi h2 9 (m w.toNat) (1 + awN m (m w.toNat) r - 1)) := Fr.pi Fr.rf (by simp)
    have zD := (z7.fr f2 (by unfold noD; decide)).pop (h' := mPi h2 9 (m w.toNat) (1 + awN m (m w.toNat) r - 1)) f3 (by decide) (fun s hs => by
      rw [gi_pi]
      by_cases c : s = m w.toNat
      · rw [if_pos ⟨rfl, c⟩, if_pos ⟨c0, c.symm⟩, c, ea, eb]
      · rw [if_neg (by omega), if_neg (by omega), Int.sub_zero])
    exact cf_end ((z1.tr (f2.sub (by decide))).tr (f3.sub (by decide))) z2 ((f3.2.2 3 (by decide) 5).trans ((f2.2.2 3 (by decide) 5).trans z3)) ((z4.fr f2 (by decide) (by decide)).fr f3 (by decide) (by decide)) ((z5.fr f2 (by decide) (by decide)).fr f3 (by decide) (by decide)) ((z6.fr f2 (by decide)).fr f3 (by decide)) zD (y2.fr f3 (by decide) (by decide)) hF (by omega) ho
  · rw [if_neg c0]
    have em : mcd m w = 98 - w := by unfold mcd; rw [if_neg c0]
    rw [em]
    by_cases c1 : w = -2
    · rw [if_pos c1, if_pos (by omega), lat1, bnd_l]
      exact hdef _ (by omega) hkn
    rw [if_neg c1, if_neg (by omega)]
    by_cases c2 : w = -3
    · rw [if_pos c2, if_pos (by omega)]
      exact hdef none (by omega) (fun k q => by cases q)
    rw [if_neg c2, if_neg (by omega)]
    by_cases c3 : w = -4
    · rw [if_pos c3, if_pos (by omega), lat1, bnd_l]
      obtain ⟨h2, x2, f2, y2⟩ := de_remove z7 hd hkn
      rw [x2, bnd_l]
      exact go [6, 10] h2 _ _ _ _ _ (by omega) (by unfold okS; decide) f2 y2 (y1.fr f2 (by decide) (by decide))
    rw [if_neg c3, if_neg (by omega)]
    by_cases c4 : w = -5
    · rw [if_pos c4, if_pos (by omega), lat1, bnd_l]
      unfold F_Fm_callCollected_167
      cases lat wd ((pv ++ [cu]).getD 0 []) ds with
      | none => rw [if_pos (by show (-1 : Int) < 0; decide)]; exact hbr 2 (by omega) (by omega)
      | some k => rw [if_neg (by show ¬ (m k : Int) < 0; omega)]; exact hbr 1 (by omega) (by omega)
    rw [if_neg c4, if_neg (by omega)]
    by_cases c5 : w = -6
    · rw [if_pos c5, if_pos (by omega)]
      obtain ⟨s1, l1⟩ := ar_seg 1 z6 hF
      have a0 := ar_length (k := 0) z6 hF (by omega) (by omega)
      have a1 := ar_length (k := 1) z6 hF (by omega) (by omega)
      have b0 := ar_start (k := 0) z6 hF (by omega) (by omega)
      have b1 := ar_start (k := 1) z6 hF (by omega) (by omega)
      rw [List.take_zero, List.flatten_nil, List.length_nil, Nat.add_zero] at b0
      rw [show ((0 : Nat) : Int) = 0 from rfl] at a0 b0
      rw [show ((1 : Nat) : Int) = 1 from rfl] at a1 b1
      have ef : F_Fm_areFirstTwoAlike h1 = some (.inl (if (pv ++ [cu]).getD 0 [] = (pv ++ [cu]).getD 1 [] then 1 else 0), h1) := by
        unfold F_Fm_areFirstTwoAlike F_Fm_areFirstTwoAlike_61
        rw [a0, bnd_l, a1, bnd_l]
        by_cases d : ((pv ++ [cu]).getD 0 []).length = ((pv ++ [cu]).getD 1 []).length
        · rw [if_pos (by rw [d]), b0, bnd_l, b1, bnd_l, al_e (by decide) (by decide) d rfl (by omega) (by rw [d]; exact l1) s0 s1, bnd_l]
          by_cases d2 : (pv ++ [cu]).getD 0 [] = (pv ++ [cu]).getD 1 []
          · rw [if_pos d2, if_neg (by decide)]
          · rw [if_neg d2, if_pos rfl]
        · rw [if_neg (by omega), if_neg (fun q => d (by rw [q]))]
      rw [ef, bnd_l]
      unfold F_Fm_callCollected_186
      by_cases d2 : (pv ++ [cu]).getD 0 [] = (pv ++ [cu]).getD 1 []
      · rw [if_pos d2, if_neg (by decide), if_pos d2]; exact hbr 2 (by omega) (by omega)
      · rw [if_neg d2, if_pos rfl, if_neg d2]; exact hbr 3 (by omega) (by omega)
    rw [if_neg c5, if_neg (by omega)]
    by_cases c6 : w = -7
    · rw [if_pos c6, if_pos (by omega)]
      obtain ⟨i1, i2⟩ := cf_inc s0 l0 y1
      unfold inc1
      by_cases d : 1 ≤ (digs ((pv ++ [cu]).getD 0 [])).length ∧ (digs ((pv ++ [cu]).getD 0 [])).length ≤ 9 ∧ (digs ((pv ++ [cu]).getD 0 [])).all cD = true
      · obtain ⟨h2, x2, f2, y2⟩ := i1 d
        rw [x2, bnd_l]
        show CO B p _ (if 1 ≤ (digs ((pv ++ [cu]).getD 0 [])).length ∧ (digs ((pv ++ [cu]).getD 0 [])).length ≤ 9 ∧ (digs ((pv ++ [cu]).getD 0 [])).all cD = true then fin1 i o r ds wd tx (numL ((if decide (((pv ++ [cu]).getD 0 []).getD 0 0 = 45) = true then - numV 0 (digs ((pv ++ [cu]).getD 0 [])) else numV 0 (digs ((pv ++ [cu]).getD 0 []))) + 1)) else ((i, o, r, ds, wd, tx), 5))
        rw [if_pos d]
        exact go [84, 85] h2 _ _ _ _ _ (by omega) (by unfold okS; decide) f2 (z7.fr f2 (by unfold noD; decide)) y2
      · rw [i2 d _ (bad 5), bnd_r]
        show CO B p _ (if 1 ≤ (digs ((pv ++ [cu]).getD 0 [])).length ∧ (digs ((pv ++ [cu]).getD 0 [])).length ≤ 9 ∧ (digs ((pv ++ [cu]).getD 0 [])).all cD = true then _ else ((i, o, r, ds, wd, tx), 5))
        rw [if_neg d]
        exact badC 5 _ (by decide) rfl
    rw [if_neg c6, if_neg (by omega)]
    by_cases c7 : w = -8
    · rw [if_pos c7, if_pos (by omega)]
      obtain ⟨h2, x2, f2, y2⟩ := let_num (v := (((pv ++ [cu]).getD 0 []).length : Int)) y1 (by decide) (by omega) (by omega)
      rw [x2, bnd_l]
      exact go [84, 85] h2 _ _ _ _ _ (by omega) (by unfold okS; decide) f2 (z7.fr f2 (by unfold noD; decide)) y2
    rw [if_neg c7, if_neg (by omega), if_pos (by omega)]
    obtain ⟨h2, x2, f2, y2⟩ := cf_shf z6 hF (by omega) hp4 y1
    rw [x2, bnd_l]
    exact go [84, 85] h2 _ _ _ _ _ (by omega) (by unfold okS; decide) f2 (z7.fr f2 (by unfold noD; decide)) y2
end Fm3
