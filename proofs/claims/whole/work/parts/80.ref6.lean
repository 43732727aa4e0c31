/-! the reference's first mill as a whole -/
section Ref6
variable {P Q : Nat → Nat → Prop} {B h h' h'' h0 : MH} {T p : Nat} {c : List Int} {w : Int} {pv : List (List Int)} {cu i o : List Int} {op : Nat} {r fs : List Fm1} {ds : List Nat} {wd tx : Nat → List Int}
/-- what the reference's first mill may write -/
def pR (b i : Nat) : Prop := (b = 107 ∧ (i = 1 ∨ (3 ≤ i ∧ i ≤ 10))) ∨ (109 ≤ b ∧ b ≤ 120)
def RV (B h : MH) (s : S1) (p : Nat) : Prop := FL pR B h ∧ mGi h 107 1 = 0 ∧ mGi h 107 4 = (p : Int) ∧ InpM h s.1 ∧ (mGi h 107 5 = (s.2.1.length : Int) ∧ Seg h 110 0 s.2.1) ∧ ArgM h s.2.2.1 ∧ DefM h s.2.2.2.1 s.2.2.2.2.1 s.2.2.2.2.2 s.2.2.1
def RX (B h : MH) (s : S1) (why p : Nat) : Prop := FL pR B h ∧ mGi h 107 1 = (why : Int) ∧ mGi h 107 4 = (p : Int) ∧ mGi h 107 5 = (s.2.1.length : Int) ∧ Seg h 110 0 s.2.1 ∧ mGi h 107 6 = (s.2.2.2.1.length : Int)
def RO (B : MH) (p : Nat) (x : RS Unit) (q : S1 × Nat) : Prop := ∃ h', x = some (.inl (), h') ∧ ((q.2 = 0 ∧ RV B h' q.1 p) ∨ (q.2 ≠ 0 ∧ RX B h' q.1 q.2 p))
theorem RV.rx {s : S1} {why : Nat} (z : RV B h s p) : RX B (mPi h 107 1 (why : Int)) s why p := by
  obtain ⟨z1, z2, z3, z4, z5, z6, z7⟩ := z
  refine ⟨z1.pi (by unfold pR; omega), gi_s, by rw [gi_pi, if_neg (by omega), z3], by rw [gi_pi, if_neg (by omega), z5.1], z5.2.pio (.inl (by decide)), by rw [gi_pi, if_neg (by omega), z7.1]⟩
theorem RX.fp {s : S1} {why : Nat} (z : RX B h s why p) (f : FP P h h') (hP : ∀ b i, P b i → pR b i ∧ ¬ (b = 110 ∨ (b = 107 ∧ (i = 1 ∨ i = 4 ∨ i = 5 ∨ i = 6)))) : RX B h' s why p := by
  obtain ⟨z1, z2, z3, z4, z5, z6⟩ := z
  have g : ∀ b i, (b = 110 ∨ (b = 107 ∧ (i = 1 ∨ i = 4 ∨ i = 5 ∨ i = 6))) → mGi h' b i = mGi h b i := fun b i hb => f.2.2 b i (fun q => (hP b i q).2 hb)
  exact ⟨z1.tr (f.fl.sub fun b i q => (hP b i q).1), (g 107 1 (by omega)).trans z2, (g 107 4 (by omega)).trans z3, (g 107 5 (by omega)).trans z4, Seg.cg (fun j _ _ => g 110 j (by omega)) z5, (g 107 6 (by omega)).trans z6⟩
/-! put -/
def pP (b i : Nat) : Prop := b = 110 ∨ b = 112 ∨ (b = 107 ∧ (i = 1 ∨ i = 5 ∨ i = 8))
theorem pP_I : ∀ b j, pP b j → ¬ (b = 109 ∨ (b = 107 ∧ j = 3)) := fun b j => by unfold pP; omega
theorem m_putx {x y : Int} (e : mGi h 107 1 = y) (hy : y ≠ 0) : ∃ h', F_M_put x h = some (.inl (), h') ∧ FP (fun _ _ => False) h h' := by
  obtain ⟨h1, e1, f1⟩ := need_x (h := h) (v := 1) (x := 0) e hy
  obtain ⟨h2, e2, f2⟩ := need_x (h := h) (v := 1) (x := 1) e hy
  unfold F_M_put F_M_put_41
  rw [gd_01a, gd_01b, e1, bnd_l, e2, bnd_l, if_pos rfl]
  by_cases c1 : mGi h 107 7 ≤ 0
  · rw [if_pos c1]
    by_cases c2 : 400 ≤ mGi h 107 5
    · rw [if_pos c2]; exact ⟨h1, rfl, f1⟩
    · rw [if_neg c2]; exact ⟨h2, rfl, f2⟩
  · rw [if_neg c1]
    by_cases c2 : 200 ≤ mGi h 107 8
    · rw [if_pos c2]; exact ⟨h1, rfl, f1⟩
    · rw [if_neg c2]; exact ⟨h2, rfl, f2⟩
theorem m_put1 {x : Int} (z : RV B h (i, o, fs, ds, wd, tx) p) (ho : o.length ≤ 400) (hF : (flat fs).length ≤ 200) (hx : 0 ≤ x) (hx2 : x < 65536) : ∃ h', F_M_put x h = some (.inl (), h') ∧ FP pP h h' ∧ (((put1 [x] (i, o, fs, ds, wd, tx)).2 = 0 ∧ RV B h' (put1 [x] (i, o, fs, ds, wd, tx)).1 p) ∨ ((put1 [x] (i, o, fs, ds, wd, tx)).2 ≠ 0 ∧ RX B h' (put1 [x] (i, o, fs, ds, wd, tx)).1 (put1 [x] (i, o, fs, ds, wd, tx)).2 p)) := by
  have zz := z
  obtain ⟨z1, z2, z3, z4, ⟨z5, z5'⟩, ⟨a1, a2, a3, a4⟩, z7⟩ := z
  change InpM h i at z4
  change mGi h 107 5 = (o.length : Int) at z5
  change Seg h 110 0 o at z5'
  change mGi h 107 7 = (fs.length : Int) at a1
  change mGi h 107 8 = ((flat fs).length : Int) at a2
  change Seg h 112 0 (flat fs) at a3
  change FrM h fs at a4
  change DefM h ds wd tx fs at z7
  unfold F_M_put F_M_put_41
  cases fs with
  | nil =>
    rw [List.length_nil] at a1
    rw [a1, if_pos (by decide), z5]
    have ep : put1 [x] (i, o, [], ds, wd, tx) = ((i, (o ++ [x]).take 400, [], ds, wd, tx), if 400 < (o ++ [x]).length then 1 else 0) := rfl
    rw [ep]
    by_cases c1 : 400 ≤ o.length
    · rw [if_pos (by omega), gd_01a, need_0 z2 (by decide), bnd_l, if_pos rfl]
      refine ⟨_, rfl, FP.pi FP.rf (by unfold pP; omega), .inr ⟨?_, ?_⟩⟩
      · show (if _ then 1 else 0) ≠ 0
        rw [if_pos (by simp; omega)]; decide
      · show RX B _ (i, (o ++ [x]).take 400, [], ds, wd, tx) (if 400 < (o ++ [x]).length then 1 else 0) p
        rw [if_pos (by simp; omega), List.take_append_of_le_length c1, List.take_of_length_le ho]
        exact zz.rx (why := 1)
    · have g1 : ∀ v, mGi (mPi h 110 o.length v) 107 7 = 0 := fun v => by rw [gi_pi, if_neg (by omega), a1]; rfl
      have g2 : ∀ v, mGi (mPi h 110 o.length v) 107 8 = ((flat []).length : Int) := fun v => by rw [gi_pi, if_neg (by omega), a2]
      have g3 : ∀ v y, mGi (mPi (mPi h 110 o.length v) 107 8 y) 107 7 = 0 := fun v y => by rw [gi_pi, if_neg (by omega), g1]
      have g4 : ∀ v y, mGi (mPi (mPi h 110 o.length v) 107 8 y) 107 5 = (o.length : Int) := fun v y => by rw [gi_pi, if_neg (by omega), gi_pi, if_neg (by omega), z5]
      rw [if_neg (by omega), gd_01b, need_1 z2, bnd_l, if_neg (by decide), a1, if_pos (by decide), gd_b hx hx2, z5, gd_b (by omega) (by omega)]
      unfold F_M_put_81 F_M_put_98 F_M_put_119
      simp only [sto_e]
      rw [Int.toNat_natCast, g1, if_pos (by decide), g2, gd_rg (by omega) (by omega), g3, if_pos (by decide), g4, gd_rg (by omega) (by omega)]
      have f1 : FP pP h (mPi (mPi (mPi h 110 o.length x) 107 8 (((flat []).length : Int) + 0)) 107 5 ((o.length : Int) + 1)) := FP.pi (FP.pi (FP.pi FP.rf (by unfold pP; omega)) (by unfold pP; omega)) (by unfold pP; omega)
      refine ⟨_, rfl, f1, .inl ⟨?_, ?_⟩⟩
      · show (if _ then 1 else 0) = 0
        rw [if_neg (by simp; omega)]
      · show RV B _ (i, (o ++ [x]).take 400, [], ds, wd, tx) p
        rw [List.take_of_length_le (by simp; omega)]
        refine ⟨z1.tr (f1.fl.sub fun b i => by unfold pP pR; omega), (by rw [gi_pi, if_neg (by omega), gi_pi, if_neg (by omega), gi_pi, if_neg (by omega), z2]), (by rw [gi_pi, if_neg (by omega), gi_pi, if_neg (by omega), gi_pi, if_neg (by omega), z3]), z4.fp f1 pP_I, ⟨?_, ?_⟩, ⟨?_, ?_, ?_, trivial⟩, z7.fp f1 (fun b i => by unfold pP pD; omega)⟩
        · rw [gi_s, List.length_append]; simp
        · rw [Seg.app]
          refine ⟨Seg.pio (Seg.pio (Seg.pio z5' (by omega)) (.inl (by decide))) (.inl (by decide)), Seg.one ?_⟩
          rw [gi_pi, if_neg (by omega), gi_pi, if_neg (by omega), gi_pi, if_pos ⟨rfl, by omega⟩]
        · rw [gi_pi, if_neg (by omega), g3]; rfl
        · rw [gi_pi, if_neg (by omega), gi_s]; simp
        · exact trivial
  | cons y r =>
    obtain ⟨w, pv, cu, op⟩ := y
    have hl := List.length_cons (a := (w, pv, cu, op)) (as := r)
    rw [a1, if_neg (by omega), a2]
    have hFx : flat ((w, pv, cu ++ [x], op) :: r) = flat ((w, pv, cu, op) :: r) ++ [x] := by rw [flat_c, flat_c]; simp
    have ep : put1 [x] (i, o, (w, pv, cu, op) :: r, ds, wd, tx) = ((i, o, (w, pv, cu ++ [x], op) :: r, ds, wd, tx), if 200 < (flat ((w, pv, cu ++ [x], op) :: r)).length then 1 else 0) := rfl
    rw [ep, hFx]
    by_cases c1 : 200 ≤ (flat ((w, pv, cu, op) :: r)).length
    · rw [if_pos (by omega), gd_01a, need_0 z2 (by decide), bnd_l, if_pos rfl]
      refine ⟨_, rfl, FP.pi FP.rf (by unfold pP; omega), .inr ⟨?_, ?_⟩⟩
      · show (if _ then 1 else 0) ≠ 0
        rw [if_pos (by simp; omega)]; decide
      · show RX B _ (i, o, (w, pv, cu ++ [x], op) :: r, ds, wd, tx) (if 200 < (flat ((w, pv, cu, op) :: r) ++ [x]).length then 1 else 0) p
        rw [if_pos (by simp; omega)]
        exact zz.rx (why := 1)
    · generalize hn : (flat ((w, pv, cu, op) :: r)).length = n at *
      have g1 : ∀ v, mGi (mPi h 112 n v) 107 7 = (((w, pv, cu, op) :: r).length : Int) := fun v => by rw [gi_pi, if_neg (by omega), a1]
      have g2 : ∀ v, mGi (mPi h 112 n v) 107 8 = (n : Int) := fun v => by rw [gi_pi, if_neg (by omega), a2]
      have g3 : ∀ v y, mGi (mPi (mPi h 112 n v) 107 8 y) 107 7 = (((w, pv, cu, op) :: r).length : Int) := fun v y => by rw [gi_pi, if_neg (by omega), g1]
      have g4 : ∀ v y, mGi (mPi (mPi h 112 n v) 107 8 y) 107 5 = (o.length : Int) := fun v y => by rw [gi_pi, if_neg (by omega), gi_pi, if_neg (by omega), z5]
      rw [if_neg (by omega), gd_01b, need_1 z2, bnd_l, if_neg (by decide), a1, if_neg (by omega), gd_b hx hx2, a2, gd_b (by omega) (by omega)]
      unfold F_M_put_81 F_M_put_98 F_M_put_119
      simp only [sto_e]
      rw [Int.toNat_natCast, g1, if_neg (by omega), g2, gd_rg (by omega) (by omega), g3, if_neg (by omega), g4, gd_rg (by omega) (by omega)]
      have f1 : FP pP h (mPi (mPi (mPi h 112 n x) 107 8 ((n : Int) + 1)) 107 5 ((o.length : Int) + 0)) := FP.pi (FP.pi (FP.pi FP.rf (by unfold pP; omega)) (by unfold pP; omega)) (by unfold pP; omega)
      refine ⟨_, rfl, f1, .inl ⟨?_, ?_⟩⟩
      · show (if _ then 1 else 0) = 0
        rw [if_neg (by simp; omega)]
      · obtain ⟨q1, q2, q3, q4, q5, q6⟩ := a4
        refine ⟨z1.tr (f1.fl.sub fun b i => by unfold pP pR; omega), (by rw [gi_pi, if_neg (by omega), gi_pi, if_neg (by omega), gi_pi, if_neg (by omega), z2]), (by rw [gi_pi, if_neg (by omega), gi_pi, if_neg (by omega), gi_pi, if_neg (by omega), z3]), z4.fp f1 pP_I, ⟨?_, ?_⟩, ⟨?_, ?_, ?_, (f1.2.2 117 _ (by unfold pP; omega)).trans q1, (f1.2.2 118 _ (by unfold pP; omega)).trans q2, (f1.2.2 120 _ (by unfold pP; omega)).trans q3, q4, ?_, FrM.cg (fun j _ => ⟨f1.2.2 117 j (by unfold pP; omega), f1.2.2 118 j (by unfold pP; omega), f1.2.2 120 j (by unfold pP; omega)⟩) (fun j _ => f1.2.2 119 j (by unfold pP; omega)) q6⟩, z7.fp f1 (fun b i => by unfold pP pD; omega)⟩
        · rw [gi_s]
          show _ = (o.length : Int)
          omega
        · exact Seg.pio (Seg.pio (Seg.pio z5' (by omega)) (.inl (by decide))) (.inl (by decide))
        · rw [gi_pi, if_neg (by omega), g3]
          rfl
        · show mGi _ 107 8 = ((flat ((w, pv, cu ++ [x], op) :: r)).length : Int)
          rw [gi_pi, if_neg (by omega), gi_s, hFx, List.length_append, hn]; simp
        · show Seg _ 112 0 (flat ((w, pv, cu ++ [x], op) :: r))
          rw [hFx, Seg.app]
          refine ⟨Seg.pio (Seg.pio (Seg.pio a3 (by omega)) (.inl (by decide))) (.inl (by decide)), Seg.one ?_⟩
          rw [gi_pi, if_neg (by omega), gi_pi, if_neg (by omega), gi_pi, if_pos ⟨rfl, by omega⟩]
        · rw [StM.app] at q5 ⊢
          exact ⟨StM.cg (fun j _ _ => f1.2.2 119 j (by unfold pP; omega)) q5.1, (f1.2.2 119 _ (by unfold pP; omega)).trans q5.2.1, trivial⟩
/-- a row of characters is put, one after the other -/
def Puts (B h0 h : MH) (s : S1) (p : Nat) (l : List Int) : Prop := FP pP h0 h ∧ (((put1 l s).2 = 0 ∧ RV B h (put1 l s).1 p ∧ (put1 l s).1.2.1.length ≤ 400 ∧ (flat (put1 l s).1.2.2.1).length ≤ 200) ∨ ((put1 l s).2 ≠ 0 ∧ RX B h (put1 l s).1 (put1 l s).2 p))
theorem put1_s {l : List Int} {x : Int} : (put1 l (i, o, fs, ds, wd, tx)).2 = 0 → put1 (l ++ [x]) (i, o, fs, ds, wd, tx) = put1 [x] (put1 l (i, o, fs, ds, wd, tx)).1 := by
  cases fs with
  | nil =>
    intro e
    have e' : (if 400 < (o ++ l).length then 1 else 0) = 0 := e
    have hl : (o ++ l).length ≤ 400 := by
      by_cases d : 400 < (o ++ l).length
      · rw [if_pos d] at e'; cases e'
      · omega
    show ((i, (o ++ (l ++ [x])).take 400, ([] : List Fm1), ds, wd, tx), if 400 < (o ++ (l ++ [x])).length then 1 else 0) = ((i, (((o ++ l).take 400) ++ [x]).take 400, ([] : List Fm1), ds, wd, tx), if 400 < (((o ++ l).take 400) ++ [x]).length then 1 else 0)
    rw [List.take_of_length_le hl, List.append_assoc]
  | cons y r =>
    obtain ⟨w, pv, cu, op⟩ := y
    intro _
    show ((i, o, (w, pv, cu ++ (l ++ [x]), op) :: r, ds, wd, tx), if 200 < (flat ((w, pv, cu ++ (l ++ [x]), op) :: r)).length then 1 else 0) = ((i, o, (w, pv, cu ++ l ++ [x], op) :: r, ds, wd, tx), if 200 < (flat ((w, pv, cu ++ l ++ [x], op) :: r)).length then 1 else 0)
    rw [List.append_assoc]
theorem put1_x {l : List Int} {x : Int} : (put1 l (i, o, fs, ds, wd, tx)).2 ≠ 0 → (put1 (l ++ [x]) (i, o, fs, ds, wd, tx)).2 = (put1 l (i, o, fs, ds, wd, tx)).2 ∧ (put1 (l ++ [x]) (i, o, fs, ds, wd, tx)).1.2.1 = (put1 l (i, o, fs, ds, wd, tx)).1.2.1 ∧ (put1 (l ++ [x]) (i, o, fs, ds, wd, tx)).1.2.2.2.1 = (put1 l (i, o, fs, ds, wd, tx)).1.2.2.2.1 := by
  cases fs with
  | nil =>
    intro e
    have e' : (if 400 < (o ++ l).length then 1 else 0) ≠ 0 := e
    have hl : 400 < (o ++ l).length := by
      by_cases d : 400 < (o ++ l).length
      · exact d
      · rw [if_neg d] at e'; exact absurd rfl e'
    refine ⟨?_, ?_, rfl⟩
    · show (if 400 < (o ++ (l ++ [x])).length then 1 else 0) = (if 400 < (o ++ l).length then 1 else 0)
      rw [if_pos hl, if_pos (by rw [← List.append_assoc, List.length_append]; omega)]
    · show (o ++ (l ++ [x])).take 400 = (o ++ l).take 400
      rw [← List.append_assoc, List.take_append_of_le_length (by omega)]
  | cons y r =>
    obtain ⟨w, pv, cu, op⟩ := y
    intro e
    have e' : (if 200 < (flat ((w, pv, cu ++ l, op) :: r)).length then 1 else 0) ≠ 0 := e
    have hl : 200 < (flat ((w, pv, cu ++ l, op) :: r)).length := by
      by_cases d : 200 < (flat ((w, pv, cu ++ l, op) :: r)).length
      · exact d
      · rw [if_neg d] at e'; exact absurd rfl e'
    refine ⟨?_, rfl, rfl⟩
    show (if 200 < (flat ((w, pv, cu ++ (l ++ [x]), op) :: r)).length then 1 else 0) = (if 200 < (flat ((w, pv, cu ++ l, op) :: r)).length then 1 else 0)
    rw [if_pos hl, if_pos]
    rw [flat_c] at hl ⊢
    simp only [List.flatten_append, List.length_append, List.flatten_cons, List.flatten_nil, List.append_nil] at hl ⊢
    omega
theorem put1_b {l : List Int} {s : S1} (hl : (put1 l s).2 = 0) : (put1 l s).1.2.1.length ≤ 400 ∨ s.2.1.length > 400 := by
  obtain ⟨i, o, fs, ds, wd, tx⟩ := s
  cases fs with
  | nil => left; show ((o ++ l).take 400).length ≤ 400; rw [List.length_take]; omega
  | cons y r =>
    obtain ⟨w, pv, cu, op⟩ := y
    by_cases d : o.length ≤ 400
    · exact .inl d
    · exact .inr (by show o.length > 400; omega)
theorem put1_f {l : List Int} {s : S1} (hl : (put1 l s).2 = 0) : (flat (put1 l s).1.2.2.1).length ≤ 200 := by
  obtain ⟨i, o, fs, ds, wd, tx⟩ := s
  cases fs with
  | nil => exact Nat.zero_le _
  | cons y r =>
    obtain ⟨w, pv, cu, op⟩ := y
    have e' : (if 200 < (flat ((w, pv, cu ++ l, op) :: r)).length then 1 else 0) = 0 := hl
    show (flat ((w, pv, cu ++ l, op) :: r)).length ≤ 200
    by_cases d : 200 < (flat ((w, pv, cu ++ l, op) :: r)).length
    · rw [if_pos d] at e'; cases e'
    · omega
theorem Puts.step {l : List Int} {x : Int} (z : Puts B h0 h (i, o, fs, ds, wd, tx) p l) (ho : o.length ≤ 400) (hx : 0 ≤ x) (hx2 : x < 65536) : ∃ h', F_M_put x h = some (.inl (), h') ∧ Puts B h0 h' (i, o, fs, ds, wd, tx) p (l ++ [x]) := by
  obtain ⟨f0, z⟩ := z
  rcases z with ⟨z1, z2, z3, z4⟩ | ⟨z1, z2⟩
  · unfold Puts
    rw [put1_s z1]
    generalize (put1 l (i, o, fs, ds, wd, tx)).1 = s at z2 z3 z4 ⊢
    obtain ⟨i', o', fs', ds', wd', tx'⟩ := s
    obtain ⟨h1, e1, f1, y1⟩ := m_put1 (x := x) z2 z3 z4 hx hx2
    refine ⟨h1, e1, f0.tr f1, ?_⟩
    rcases y1 with ⟨y1, y2⟩ | y1
    · refine .inl ⟨y1, y2, ?_, put1_f y1⟩
      rcases put1_b y1 with q | q
      · exact q
      · exact absurd z3 (by show ¬ o'.length ≤ 400; have : o'.length > 400 := q; omega)
    · exact .inr y1
  · obtain ⟨h1, e1, f1⟩ := m_putx (x := x) z2.2.1 (by omega)
    obtain ⟨q1, q2, q3⟩ := put1_x (x := x) z1
    refine ⟨h1, e1, f0.tr (f1.sub (fun _ _ q => q.elim)), .inr ⟨by rw [q1]; exact z1, ?_⟩⟩
    have y := z2.fp f1 (fun _ _ q => q.elim)
    unfold RX at y ⊢
    rw [q1, q2, q3]
    exact y
end Ref6
