/-! the class's first mill: put, bring -/
section Fm
variable {B h h0 h' : MH} {m : Nat → Nat} {ds : List Nat} {wd tx : Nat → List Int} {fs r : List Fm1} {w : Int} {pv : List (List Int)} {cu i o : List Int} {op p : Nat}
theorem CV.drop {s : S1} {k : Nat} (z : CV B h s p) (hk : k ≤ 1000) : ∃ h', F_In_drop (k : Int) h = some (.inl (), h') ∧ CV B h' (s.1.drop k, s.2) p := by
  obtain ⟨z1, z2, z3, z4, z5, z6, m, z7⟩ := z
  obtain ⟨h1, e1, f1, y1⟩ := in_drop z5 hk
  exact ⟨h1, e1, z1.tr (f1.sub (by decide)), z2, (f1.2.2 3 (by decide) 5).trans z3, z4.fr f1 (by decide) (by decide), y1, z6.fr f1 (by decide), m, z7.fr f1 (by unfold noD; decide)⟩
theorem CV.com {s : S1} (z : CV B h s p) (f : Fr [84, 85] h h') : CV B h' s p := by
  obtain ⟨z1, z2, z3, z4, z5, z6, m, z7⟩ := z
  exact ⟨z1.tr (f.sub (by decide)), z2, (f.2.2 3 (by decide) 5).trans z3, z4.fr f (by decide) (by decide), z5.fr f (by decide) (by decide), z6.fr f (by decide), m, z7.fr f (by unfold noD; decide)⟩
theorem put1_i {l : List Int} (i' : List Int) : put1 l (i', o, fs, ds, wd, tx) = ((i', (put1 l (i, o, fs, ds, wd, tx)).1.2), (put1 l (i, o, fs, ds, wd, tx)).2) := by
  cases fs with
  | nil => rfl
  | cons x r => obtain ⟨w, pv, cu, op⟩ := x; rfl
theorem put1_1 {l : List Int} : (put1 l (i, o, fs, ds, wd, tx)).1.1 = i := by
  cases fs with
  | nil => rfl
  | cons x r => obtain ⟨w, pv, cu, op⟩ := x; rfl
theorem cf_put {q : Nat} {l : List Int} (z : CV B h (i, o, fs, ds, wd, tx) p) (ho : o.length ≤ 400) (hf : (flat fs).length ≤ 200) (s : Seg h 76 q l) (hq : q + l.length ≤ 500) : CO B p (F_Fm_put (q : Int) (l.length : Int) h) (put1 l (i, o, fs, ds, wd, tx)) := by
  obtain ⟨z1, z2, z3, z4, z5, z6, m, z7⟩ := z
  unfold F_Fm_put
  cases fs with
  | nil =>
    obtain ⟨h1, e1, f1, y1⟩ := let_all z4 (by decide) (by decide) s hq
    have zc : ∀ o', Let h1 4 400 o' → CV B h1 (i, o', [], ds, wd, tx) p := fun o' y => ⟨z1.tr (f1.sub (by decide)), z2, (f1.2.2 3 (by decide) 5).trans z3, y, z5.fr f1 (by decide) (by decide), z6.fr f1 (by decide), m, z7.fr f1 (by unfold noD; decide)⟩
    rw [z6.1, if_pos (by rw [List.length_nil]; omega)]
    unfold F_Fm_put_24
    rw [e1, bnd_l, y1.2.2]
    by_cases c : 400 < (o ++ l).length
    · rw [if_pos c, if_neg (by decide)]
      have q := zc _ y1
      have g := q.fail (why := 1)
      rw [show ((1 : Nat) : Int) = 1 from rfl] at g
      rw [g, bnd_r]
      refine .inr ⟨?_, _, rfl, ?_⟩
      · show (if _ then 1 else 0) ≠ 0
        rw [if_pos c]; decide
      · show CX B _ (i, (o ++ l).take 400, [], ds, wd, tx) (if 400 < (o ++ l).length then 1 else 0) p
        rw [if_pos c]
        exact CX.of (why := 1) q.1 q.2.2.1 y1 rfl (z7.fr f1 (by unfold noD; decide)).1 (z7.fr f1 (by unfold noD; decide)).2.1
    · rw [if_neg c, if_pos rfl]
      refine .inl ⟨?_, _, rfl, ?_⟩
      · show (if _ then 1 else 0) = 0
        rw [if_neg c]
      · show CV B h1 (i, (o ++ l).take 400, [], ds, wd, tx) p
        rw [List.take_of_length_le (by omega)]
        exact zc _ y1
  | cons x r =>
    obtain ⟨w, pv, cu, op⟩ := x
    obtain ⟨h1, e1, f1, y1⟩ := let_all z6.2.1 (by decide) (by decide) s hq
    have zc : CV B h1 (i, o, (w, pv, cu ++ l, op) :: r, ds, wd, tx) p := ⟨z1.tr (f1.sub (by decide)), z2, (f1.2.2 3 (by decide) 5).trans z3, z4.fr f1 (by decide) (by decide), z5.fr f1 (by decide) (by decide), z6.grow f1 y1, m, z7.fr f1 (by unfold noD; decide)⟩
    rw [z6.1, if_neg (by rw [List.length_cons]; omega)]
    unfold F_Fm_put_24
    rw [e1, bnd_l, y1.2.2]
    have hF : flat ((w, pv, cu ++ l, op) :: r) = flat ((w, pv, cu, op) :: r) ++ l := by rw [flat_c, flat_c]; simp
    by_cases c : 200 < (flat ((w, pv, cu, op) :: r) ++ l).length
    · rw [if_pos c, if_neg (by decide)]
      have g := zc.fail (why := 1)
      rw [show ((1 : Nat) : Int) = 1 from rfl] at g
      rw [g, bnd_r]
      refine .inr ⟨?_, _, rfl, ?_⟩
      · show (if _ then 1 else 0) ≠ 0
        rw [hF, if_pos c]; decide
      · show CX B _ (i, o, (w, pv, cu ++ l, op) :: r, ds, wd, tx) (if 200 < (flat ((w, pv, cu ++ l, op) :: r)).length then 1 else 0) p
        rw [hF, if_pos c]
        exact zc.cx (why := 1) ho
    · rw [if_neg c, if_pos rfl]
      refine .inl ⟨?_, _, rfl, ?_⟩
      · show (if _ then 1 else 0) = 0
        rw [hF, if_neg c]
      · exact zc
theorem cf_putF {n : Nat} (z : CV B h (i, o, fs, ds, wd, tx) p) (ho : o.length ≤ 400) (hf : (flat fs).length ≤ 200) (hn : n ≤ i.length) : CO B p (F_Fm_putFront (n : Int) h) (put1 (i.take n) (i.drop n, o, fs, ds, wd, tx)) := by
  have zi := z.2.2.2.2.1
  have hi : i.length ≤ 500 := zi.2.1
  have hl : (i.take n).length = n := by rw [List.length_take]; omega
  have q := cf_put (q := 500 - i.length) (l := i.take n) z ho hf (zi.2.2.take n) (by rw [hl]; omega)
  rw [hl] at q
  unfold F_Fm_putFront
  rw [zi.1]
  rw [put1_i (i := i) (i.drop n)]
  rcases q with ⟨q1, h1, e1, y1⟩ | ⟨q1, h1, e1, y1⟩
  · rw [e1, bnd_l]
    obtain ⟨h2, e2, y2⟩ := y1.drop (k := n) (by omega)
    rw [e2, bnd_l]
    rw [put1_1] at y2
    exact .inl ⟨q1, h2, rfl, y2⟩
  · rw [e1, bnd_r]
    exact .inr ⟨q1, h1, rfl, y1⟩
theorem qgo_le : ∀ {t : List Int} {d : Int} {n : Nat}, qgo d t = some n → 1 ≤ n ∧ n ≤ t.length
  | [], _, _, e => by cases e
  | c :: t, d, n, e => by
    rw [qgo] at e
    generalize (if c = 96 then d + 1 else if c = 39 then d - 1 else d) = d' at e
    by_cases c0 : d' = 0
    · rw [if_pos c0] at e
      cases e
      rw [List.length_cons]
      omega
    · rw [if_neg c0] at e
      cases q : qgo d' t with
      | none => rw [q] at e; cases e
      | some k =>
        rw [q] at e
        simp only [Option.map_some, Option.some.injEq] at e
        have := qgo_le q
        rw [List.length_cons]
        omega
theorem cf_quo {t : List Int} (z : CV B h (96 :: t, o, fs, ds, wd, tx) p) (ho : o.length ≤ 400) (hf : (flat fs).length ≤ 200) : CO B p (F_Fm_takeQuoted h) (piece1 (96 :: t, o, fs, ds, wd, tx)) := by
  have zi := z.2.2.2.2.1
  have hi : (96 :: t : List Int).length ≤ 500 := zi.2.1
  rw [List.length_cons] at hi
  have ep : piece1 (96 :: t, o, fs, ds, wd, tx) = (match qgo 1 t with | none => ((96 :: t, o, fs, ds, wd, tx), 3) | some n => put1 (t.take (n - 1)) (t.drop n, o, fs, ds, wd, tx)) := by
    rw [piece1, if_pos rfl]
    cases qgo 1 t <;> rfl
  unfold F_Fm_takeQuoted
  rw [in_quoted zi, bnd_l, ep]
  cases e : qgo 1 t with
  | none =>
    simp only
    rw [if_pos trivial]
    have g := z.fail (why := 3)
    rw [show ((3 : Nat) : Int) = 3 from rfl] at g
    rw [g, bnd_r]
    exact .inr ⟨(by decide : (3 : Nat) ≠ 0), _, rfl, z.cx (why := 3) ho⟩
  | some n =>
    simp only
    have hn := qgo_le e
    rw [if_neg (by omega)]
    unfold F_Fm_takeQuoted_17
    have hl : (t.take (n - 1)).length = n - 1 := by rw [List.length_take]; omega
    have q := cf_put (q := 500 - (t.length + 1) + 1) (l := t.take (n - 1)) z ho hf (by have := zi.2.2.2; rw [List.length_cons] at this; exact this.take _) (by rw [hl]; omega)
    rw [hl] at q
    have e0 : mGi h 75 1 = ((500 - (t.length + 1) : Nat) : Int) := by have := zi.1; rw [List.length_cons] at this; exact this
    rw [e0, gd_rg (by omega) (by omega), gd_rg (by omega) (by omega), show ((500 - (t.length + 1) : Nat) : Int) + 1 = ((500 - (t.length + 1) + 1 : Nat) : Int) by omega, show ((n + 1 : Nat) : Int) - 2 = ((n - 1 : Nat) : Int) by omega]
    rw [put1_i (i := 96 :: t) (t.drop n)]
    rcases q with ⟨q1, h1, e1, y1⟩ | ⟨q1, h1, e1, y1⟩
    · rw [e1, bnd_l]
      obtain ⟨h2, e2, y2⟩ := y1.drop (k := n + 1) (by omega)
      rw [e2, bnd_l]
      rw [put1_1, List.drop_succ_cons] at y2
      exact .inl ⟨q1, h2, rfl, y2⟩
    · rw [e1, bnd_r]
      exact .inr ⟨q1, h1, rfl, y1⟩
/-! what a call brings -/
theorem cf_brA {k : Nat} {c : List Int} (z : ArgC h ((w, pv, cu, op) :: r)) (hf : (flat ((w, pv, cu, op) :: r)).length ≤ 200) (hr : r.length < 6) (hk : k < 999) (y : Let h 84 500 c) : ∃ h', F_Fm_bringArgument (k : Int) h = some (.inl (), h') ∧ Fr [84, 85] h h' ∧ Let h' 84 500 (c ++ (pv ++ [cu]).getD k []) := by
  obtain ⟨s1, s2⟩ := ar_seg k z hf
  obtain ⟨h1, e1, f1, y1⟩ := let_all y (by decide) (by decide) s1 s2
  refine ⟨h1, ?_, f1, y1⟩
  unfold F_Fm_bringArgument
  rw [ar_start z hf hr (by omega), bnd_l, ar_length z hf hr hk, bnd_l, e1, bnd_l]
/-- the arguments that a text may ask for -/
def HA (h : MH) (a : List (List Int)) : Prop := a = [] ∨ ∃ w pv cu op r, a = pv ++ [cu] ∧ ArgC h ((w, pv, cu, op) :: r) ∧ (flat ((w, pv, cu, op) :: r)).length ≤ 200 ∧ r.length < 6 ∧ pv.length ≤ 4
theorem HA.len {a : List (List Int)} (z : HA h a) : a.length ≤ 5 := by
  rcases z with rfl | ⟨w, pv, cu, op, r, rfl, -, -, -, q⟩
  · simp
  · simp; omega
theorem HA.fr {a : List (List Int)} (z : HA h a) (f : Fr [84, 85] h h') : HA h' a := by
  rcases z with rfl | ⟨w, pv, cu, op, r, rfl, q1, q2⟩
  · exact .inl rfl
  · exact .inr ⟨w, pv, cu, op, r, rfl, q1.fr f (by decide), q2⟩
theorem HA.get {a : List (List Int)} {k : Nat} {c : List Int} (z : HA h a) (hk : k < a.length) (y : Let h 84 500 c) : ∃ h', F_Fm_bringArgument (k : Int) h = some (.inl (), h') ∧ Fr [84, 85] h h' ∧ Let h' 84 500 (c ++ a.getD k []) := by
  have hl := z.len
  rcases z with rfl | ⟨w, pv, cu, op, r, rfl, q1, q2, q3, q4⟩
  · simp at hk
  · exact cf_brA q1 q2 q3 (by omega) y
theorem isSb_i {c d : Int} : isSb c d = true ↔ c = 36 ∧ (d = 35 ∨ cD d = true) := by unfold isSb; simp
theorem brT_l {s : Nat} {a : List (List Int)} {W T : List Int} (hs : s < 16) (zA : HA h0 a) (yw : Let h0 (11 + 4 * s) 8 W) (hW : W.length ≤ 8) (yt : Let h0 (13 + 4 * s) 40 T) (hT : T.length ≤ 40) : ∀ (q f k : Nat) (h : MH) (c : List Int), (T.drop k).length ≤ q → q < f → k ≤ T.length → Fr [84, 85] h0 h → Let h 84 500 c →
    ∃ h', itr (fun self (q : Int × Int × Nat × Nat × Int × MH) => F_Fm_bringText_13_b (fun v1 v2 v3 v3n v4 h => self (v1, v2, v3, v3n, v4, h)) q.1 q.2.1 q.2.2.1 q.2.2.2.1 q.2.2.2.2.1 q.2.2.2.2.2) f ((s : Int), (a.length : Int), 13 + 4 * s, 40, (k : Int), h) = some (.inl (), h') ∧ Fr [84, 85] h0 h' ∧ Let h' 84 500 (c ++ brT W a.length a (T.drop k)) := by
  intro q
  induction q with
  | zero =>
    intro f k h c hq hf hk f0 y
    obtain ⟨f, rfl⟩ : ∃ g, f = g + 1 := ⟨f - 1, by omega⟩
    have e0 : T.drop k = [] := List.eq_nil_of_length_eq_zero (by omega)
    rw [List.length_drop] at hq
    refine ⟨h, ?_, f0, ?_⟩
    · rw [itr_s]
      dsimp only
      rw [F_Fm_bringText_13_b, (yt.fr f0 (by simp; omega) (by simp; omega)).len hT, if_pos (by omega)]
    · rw [e0, brT, List.append_nil]
      exact y
  | succ q ih =>
    intro f k h c hq hf hk f0 y
    obtain ⟨f, rfl⟩ : ∃ g, f = g + 1 := ⟨f - 1, by omega⟩
    have yt' := yt.fr f0 (by simp; omega) (by simp; omega)
    have yw' := yw.fr f0 (by simp; omega) (by simp; omega)
    have zA' := zA.fr f0
    by_cases c0 : T.length ≤ k
    · have e0 : T.drop k = [] := List.drop_of_length_le c0
      refine ⟨h, ?_, f0, ?_⟩
      · rw [itr_s]
        dsimp only
        rw [F_Fm_bringText_13_b, yt'.len hT, if_pos (by omega)]
      · rw [e0, brT, List.append_nil]
        exact y
    · have ed : T.drop k = T.getD k 0 :: T.drop (k + 1) := by
        rw [List.drop_eq_getElem_cons (by omega), List.getD_eq_getElem?_getD, List.getElem?_eq_getElem (by omega)]
        rfl
      have hc : mGi h (13 + 4 * s + 1) k = T.getD k 0 := by
        have g := (yt'.seg hT).get k (by omega)
        rw [Nat.zero_add] at g
        exact g
      have hlen := List.length_drop (i := k) (l := T)
      -- a character that comes as it is
      have plain : ∀ h, Fr [84, 85] h0 h → Let h 84 500 c → mGi h (13 + 4 * s + 1) k = T.getD k 0 → ∃ h', F_Fm_bringText_59 (fun v1 v2 v3 v3n v4 h => itr (fun self (q : Int × Int × Nat × Nat × Int × MH) => F_Fm_bringText_13_b (fun v1 v2 v3 v3n v4 h => self (v1, v2, v3, v3n, v4, h)) q.1 q.2.1 q.2.2.1 q.2.2.2.1 q.2.2.2.2.1 q.2.2.2.2.2) f (v1, v2, v3, v3n, v4, h)) (s : Int) (a.length : Int) (13 + 4 * s) 40 (k : Int) h = some (.inl (), h') ∧ Fr [84, 85] h0 h' ∧ Let h' 84 500 (c ++ (T.getD k 0 :: brT W a.length a (T.drop (k + 1)))) := by
        intro h f0 y hc
        obtain ⟨h1, e1, f1, y1⟩ := let_add (x := T.getD k 0) y (by decide)
        obtain ⟨h2, e2, f2, y2⟩ := ih f (k + 1) h1 _ (by rw [List.length_drop] at hq ⊢; omega) (by omega) (by omega) (f0.tr f1) y1
        refine ⟨h2, ?_, f2, ?_⟩
        · unfold F_Fm_bringText_59 F_Fm_bringText_157
          rw [gd_b (by omega) (by omega), Int.toNat_natCast, hc, e1, bnd_l, gd_rg (by omega) (by omega)]
          exact e2
        · rw [List.append_assoc] at y2
          exact y2
      rw [itr_s]
      dsimp only
      rw [F_Fm_bringText_13_b, yt'.len hT, if_neg (by omega), gd_rg (by omega) (by omega)]
      rw [show (k : Int) + 1 = ((k + 1 : Nat) : Int) by omega, let_at yt' hT, bnd_l, gd_b (by omega) (by omega), Int.toNat_natCast, hc]
      by_cases c1 : k + 1 < T.length
      · have ed2 : T.drop (k + 1) = T.getD (k + 1) 0 :: T.drop (k + 2) := by
          rw [List.drop_eq_getElem_cons (by omega), List.getD_eq_getElem?_getD, List.getElem?_eq_getElem (by omega)]
          rfl
        rw [if_pos c1]
        -- two characters that stand for something
        have sub : ∀ h, Fr [84, 85] h0 h → Let h 84 500 c → (T.getD (k + 1) 0 = 35 ∨ cD (T.getD (k + 1) 0) = true) → ∃ h', F_Fm_bringText_76 (fun v1 v2 v3 v3n v4 h => itr (fun self (q : Int × Int × Nat × Nat × Int × MH) => F_Fm_bringText_13_b (fun v1 v2 v3 v3n v4 h => self (v1, v2, v3, v3n, v4, h)) q.1 q.2.1 q.2.2.1 q.2.2.2.1 q.2.2.2.2.1 q.2.2.2.2.2) f (v1, v2, v3, v3n, v4, h)) (s : Int) (a.length : Int) (13 + 4 * s) 40 (k : Int) (T.getD (k + 1) 0) h = some (.inl (), h') ∧ Fr [84, 85] h0 h' ∧ Let h' 84 500 (c ++ (sbT W a.length a (T.getD (k + 1) 0) ++ brT W a.length a (T.drop (k + 2)))) := by
          intro h f0 y hd
          have yw' := yw.fr f0 (by simp; omega) (by simp; omega)
          have zA' := zA.fr f0
          have hal := zA.len
          have go : ∀ h c', Fr [84, 85] h0 h → Let h 84 500 c' → ∃ h', F_Fm_bringText_154 (fun v1 v2 v3 v3n v4 h => itr (fun self (q : Int × Int × Nat × Nat × Int × MH) => F_Fm_bringText_13_b (fun v1 v2 v3 v3n v4 h => self (v1, v2, v3, v3n, v4, h)) q.1 q.2.1 q.2.2.1 q.2.2.2.1 q.2.2.2.2.1 q.2.2.2.2.2) f (v1, v2, v3, v3n, v4, h)) (s : Int) (a.length : Int) (13 + 4 * s) 40 (k : Int) h = some (.inl (), h') ∧ Fr [84, 85] h0 h' ∧ Let h' 84 500 (c' ++ brT W a.length a (T.drop (k + 2))) := by
            intro h c' f0 y
            obtain ⟨h2, e2, f2, y2⟩ := ih f (k + 2) h c' (by rw [List.length_drop] at hq ⊢; omega) (by omega) (by omega) f0 y
            refine ⟨h2, ?_, f2, y2⟩
            unfold F_Fm_bringText_154 F_Fm_bringText_157
            rw [gd_rg (by omega) (by omega), gd_rg (by omega) (by omega), show (k : Int) + 1 + 1 = ((k + 2 : Nat) : Int) by omega]
            exact e2
          unfold F_Fm_bringText_76 sbT
          by_cases d1 : T.getD (k + 1) 0 = 35
          · obtain ⟨h1, e1, f1, y1⟩ := let_num (v := (a.length : Int)) y (by decide) (by omega) (by omega)
            obtain ⟨h2, e2, f2, y2⟩ := go h1 _ (f0.tr f1) y1
            rw [if_pos d1, if_pos d1, e1, bnd_l]
            refine ⟨h2, e2, f2, ?_⟩
            rw [List.append_assoc] at y2
            exact y2
          · have hdd : cD (T.getD (k + 1) 0) = true := by rcases hd with hd | hd; exact absurd hd d1; exact hd
            unfold cD at hdd
            rw [decide_eq_true_eq] at hdd
            rw [if_neg d1, if_neg d1]
            by_cases d2 : T.getD (k + 1) 0 = 48
            · rw [if_pos d2, if_pos d2, gd_b (by omega) (by omega), Int.toNat_natCast, yw'.len hW]
              obtain ⟨h1, e1, f1, y1⟩ := let_all (cn := 8) y (by decide) (by decide) (yw'.seg hW) (by omega)
              obtain ⟨h2, e2, f2, y2⟩ := go h1 _ (f0.tr f1) y1
              rw [show (0 : Int) = ((0 : Nat) : Int) from rfl, e1, bnd_l]
              refine ⟨h2, e2, f2, ?_⟩
              rw [List.append_assoc] at y2
              exact y2
            · rw [if_neg d2, if_neg d2, gd_rg (by omega) (by omega)]
              by_cases d3 : (a.length : Int) < T.getD (k + 1) 0 - 48
              · rw [if_pos d3]
                obtain ⟨h2, e2, f2, y2⟩ := go h c f0 y
                refine ⟨h2, e2, f2, ?_⟩
                have : a.getD (T.getD (k + 1) 0 - 49).toNat [] = [] := by
                  rw [List.getD_eq_getElem?_getD, List.getElem?_eq_none (by omega)]
                  rfl
                rw [this, List.nil_append]
                exact y2
              · rw [if_neg d3, gd_rg (by omega) (by omega)]
                obtain ⟨h1, e1, f1, y1⟩ := zA'.get (k := (T.getD (k + 1) 0 - 49).toNat) (by omega) y
                obtain ⟨h2, e2, f2, y2⟩ := go h1 _ (f0.tr f1) y1
                rw [show T.getD (k + 1) 0 - 49 = (((T.getD (k + 1) 0 - 49).toNat : Nat) : Int) by omega, e1, bnd_l]
                refine ⟨h2, e2, f2, ?_⟩
                rw [List.append_assoc] at y2
                rw [Int.toNat_natCast]
                exact y2
        have eb : brT W a.length a (T.drop k) = if isSb (T.getD k 0) (T.getD (k + 1) 0) = true then sbT W a.length a (T.getD (k + 1) 0) ++ brT W a.length a (T.drop (k + 2)) else T.getD k 0 :: brT W a.length a (T.drop (k + 1)) := by
          rw [ed, ed2, brT]
        rw [eb]
        by_cases c2 : T.getD k 0 = 36
        · rw [if_pos c2]
          by_cases c3 : T.getD (k + 1) 0 = 35
          · rw [if_pos c3, if_pos (isSb_i.mpr ⟨c2, .inl c3⟩)]
            exact sub h f0 y (.inl c3)
          · rw [if_neg c3, isDg_e, bnd_l]
            by_cases c4 : cD (T.getD (k + 1) 0) = true
            · rw [if_neg (by rw [bI_0, c4]; decide), if_pos (isSb_i.mpr ⟨c2, .inr c4⟩)]
              exact sub h f0 y (.inr c4)
            · rw [if_pos (by rw [bI_0]; exact Bool.eq_false_iff.mpr c4), if_neg (fun q => by rcases (isSb_i.mp q).2 with q | q; exact c3 q; exact c4 q)]
              exact plain h f0 y hc
        · rw [if_neg c2, if_neg (fun q => c2 (isSb_i.mp q).1)]
          exact plain h f0 y hc
      · rw [if_neg c1]
        have e1 : T.drop (k + 1) = [] := List.drop_of_length_le (by omega)
        have eb : brT W a.length a (T.drop k) = T.getD k 0 :: brT W a.length a (T.drop (k + 1)) := by
          rw [ed, e1, brT, brT]
        rw [eb]
        by_cases c2 : T.getD k 0 = 36
        · rw [if_pos c2, if_neg (by decide), isDg_e, bnd_l, if_pos (by decide)]
          exact plain h f0 y hc
        · rw [if_neg c2]
          exact plain h f0 y hc
theorem cf_brT {s : Nat} {a : List (List Int)} {W T : List Int} (hs : s < 16) (zA : HA h a) (yw : Let h (11 + 4 * s) 8 W) (hW : W.length ≤ 8) (yt : Let h (13 + 4 * s) 40 T) (hT : T.length ≤ 40) (y : Let h 84 500 []) :
    ∃ h', F_Fm_bringText (s : Int) (a.length : Int) h = some (.inl (), h') ∧ Fr [84, 85] h h' ∧ Let h' 84 500 (brT W a.length a T) := by
  obtain ⟨h1, e1, f1, y1⟩ := brT_l hs zA yw hW yt hT T.length FU 0 h [] (by rw [List.drop_zero]; omega) (by unfold FU; omega) (by omega) Fr.rf y
  refine ⟨h1, ?_, f1, y1⟩
  unfold F_Fm_bringText
  rw [gd_b (by omega) (by omega), Int.toNat_natCast]
  exact e1
/-! shift -/
theorem sh_l (z0 : ArgC h0 ((w, pv, cu, op) :: r)) (hF : (flat ((w, pv, cu, op) :: r)).length ≤ 200) (hr : r.length < 6) (hp : pv.length ≤ 4) : ∀ (q f k : Nat) (h : MH) (c : List Int), k + q = pv.length + 1 → q < f → 1 ≤ k → Fr [84, 85] h0 h → Let h 84 500 c →
    ∃ h', itr (fun self (q : Int × MH) => F_Fm_shift_2_b (fun v1 h => self (v1, h)) q.1 q.2) f ((k : Int), h) = some (.inl (), h') ∧ Fr [84, 85] h0 h' ∧ Let h' 84 500 (c ++ if k ≤ 1 then shf ((pv ++ [cu]).drop k) else shfT ((pv ++ [cu]).drop k)) := by
  intro q
  induction q with
  | zero =>
    intro f k h c hk hf h1 f0 y
    obtain ⟨f, rfl⟩ : ∃ g, f = g + 1 := ⟨f - 1, by omega⟩
    have z := z0.fr f0 (by decide)
    have e0 : (pv ++ [cu]).drop k = [] := List.drop_of_length_le (by simp; omega)
    refine ⟨h, ?_, f0, ?_⟩
    · obtain ⟨z1, z2, z3, z4, z5, z6, z7⟩ := z
      rw [List.length_cons] at z1
      rw [itr_s]
      dsimp only
      rw [F_Fm_shift_2_b, z1, gd_b (by omega) (by omega), show (((r.length + 1 : Nat) : Int) - 1).toNat = r.length by omega, z4, if_pos (by omega)]
    · rw [e0]
      simp only [shf, shfT, ite_self, List.append_nil]
      exact y
  | succ q ih =>
    intro f k h c hk hf h1 f0 y
    obtain ⟨f, rfl⟩ : ∃ g, f = g + 1 := ⟨f - 1, by omega⟩
    have z := z0.fr f0 (by decide)
    have ed : (pv ++ [cu]).drop k = (pv ++ [cu]).getD k [] :: (pv ++ [cu]).drop (k + 1) := by
      rw [List.drop_eq_getElem_cons (by simp; omega), List.getD_eq_getElem?_getD, List.getElem?_eq_getElem (by simp; omega)]
      rfl
    have main : ∀ h c, Fr [84, 85] h0 h → Let h 84 500 c → ∃ h', F_Fm_shift_35 (fun v1 h => itr (fun self (q : Int × MH) => F_Fm_shift_2_b (fun v1 h => self (v1, h)) q.1 q.2) f (v1, h)) (k : Int) h = some (.inl (), h') ∧ Fr [84, 85] h0 h' ∧ Let h' 84 500 (c ++ (quo ((pv ++ [cu]).getD k []) ++ shfT ((pv ++ [cu]).drop (k + 1)))) := by
      intro h c f0 y
      obtain ⟨h1, e1, f1, y1⟩ := let_add (x := 96) y (by decide)
      obtain ⟨h2, e2, f2, y2⟩ := cf_brA (k := k) (z0.fr (f0.tr f1) (by decide)) hF hr (by omega) y1
      obtain ⟨h3, e3, f3, y3⟩ := let_add (x := 39) y2 (by decide)
      obtain ⟨h4, e4, f4, y4⟩ := ih f (k + 1) h3 _ (by omega) (by omega) (by omega) (((f0.tr f1).tr f2).tr f3) y3
      refine ⟨h4, ?_, f4, ?_⟩
      · unfold F_Fm_shift_35
        rw [e1, bnd_l, e2, bnd_l, e3, bnd_l, gd_rg (by omega) (by omega), show (k : Int) + 1 = ((k + 1 : Nat) : Int) by omega]
        exact e4
      · rw [if_neg (by omega)] at y4
        unfold quo
        simp only [List.append_assoc, List.cons_append, List.nil_append] at y4 ⊢
        exact y4
    obtain ⟨z1, z2, z3, z4, z5, z6, z7⟩ := z
    rw [List.length_cons] at z1
    rw [itr_s]
    dsimp only
    rw [F_Fm_shift_2_b, z1, gd_b (by omega) (by omega), show (((r.length + 1 : Nat) : Int) - 1).toNat = r.length by omega, z4, if_neg (by omega), ed]
    by_cases c1 : k ≤ 1
    · rw [if_pos (by omega), if_pos c1, shf]
      exact main h c f0 y
    · rw [if_neg (by omega), if_neg c1, shfT]
      obtain ⟨h1, e1, f1, y1⟩ := let_add (x := 44) y (by decide)
      obtain ⟨h2, e2, f2, y2⟩ := main h1 _ (f0.tr f1) y1
      rw [e1, bnd_l]
      refine ⟨h2, e2, f2, ?_⟩
      rw [List.append_assoc] at y2
      exact y2
theorem cf_shf (z : ArgC h ((w, pv, cu, op) :: r)) (hF : (flat ((w, pv, cu, op) :: r)).length ≤ 200) (hr : r.length < 6) (hp : pv.length ≤ 4) (y : Let h 84 500 []) : ∃ h', F_Fm_shift h = some (.inl (), h') ∧ Fr [84, 85] h h' ∧ Let h' 84 500 (shf ((pv ++ [cu]).drop 1)) := by
  obtain ⟨h1, e1, f1, y1⟩ := sh_l z hF hr hp pv.length FU 1 h [] (by omega) (by unfold FU; omega) (Nat.le_refl _) Fr.rf y
  exact ⟨h1, e1, f1, y1⟩
end Fm
