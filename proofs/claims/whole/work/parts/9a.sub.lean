/-! the class puts the arguments into a body -/
section Sub
variable {nm : Nm} {k0 d r : Nat} {h h' : MH} {Xs : Nat → Nat → List Tk → RT (List Tk)} {X : Int → Nat → Nat → Int → Int → MH → RS Nat}
theorem ne_lt {α : Type} {l : List α} {j : Nat} (e : j < l.length) : l ≠ [] := fun q => by rw [q] at e; exact absurd e (Nat.not_lt_zero _)
def hdx (R : List (Nat × List Int)) : Nat × List Int := R.headD (0, [])
/-- what becomes of one token of a body -/
theorem subT_u {ps : List (List Int)} {ar : List (List Tk)} {pj : Bool} {rp md : Nat} {acc : List (Tk × Bool)} {k : Nat} {x : List Int} {R : List (Nat × List Int)} (hps : [] ∉ ps) :
    subT Xs ps ar pj rp md acc ((k, x) :: R) = if k = 4 ∧ x = [35] ∧ (pix ps (hdx R).2).isSome = true then
      if 900 < md + (strK (ar.getD ((pix ps (hdx R).2).getD 0) [])).length then (1, rp, md, acc)
      else subT Xs ps ar false rp (md + (strK (ar.getD ((pix ps (hdx R).2).getD 0) [])).length) (acc ++ [((3, strK (ar.getD ((pix ps (hdx R).2).getD 0) []), noH), false)]) R.tail
    else match pix ps x with
      | none => subT Xs ps ar (isJn k x) rp md (acc ++ [((k, x, noH), isJn k x)]) R
      | some j => if pj = true ∨ isJn (hdx R).1 (hdx R).2 = true then subT Xs ps ar false rp md (acc ++ (if ar.getD j [] = [] then [(nTk, false)] else um (ar.getD j []))) R
        else if (Xs rp md (ar.getD j [])).1 = 0 then subT Xs ps ar false (Xs rp md (ar.getD j [])).2.1 (Xs rp md (ar.getD j [])).2.2.1 (acc ++ um (Xs rp md (ar.getD j [])).2.2.2) R else ((Xs rp md (ar.getD j [])).1, (Xs rp md (ar.getD j [])).2.1, (Xs rp md (ar.getD j [])).2.2.1, acc) := by
  cases R with
  | nil =>
    have hn : pix ps (hdx []).2 = none := by
      show pix ps [] = none
      unfold pix
      rw [List.findIdx?_eq_none_iff]
      intro p hp
      exact decide_eq_false (fun q => hps (q ▸ hp))
    have hj : isJn (hdx []).1 (hdx []).2 = false := rfl
    rw [hn, hj, if_neg (fun q => absurd q.2.2 (by decide))]
    cases hp : pix ps x with
    | none => simp only [subT, hp]
    | some j => simp only [subT, hp, Bool.false_eq_true, or_false, um]
  | cons y R =>
    obtain ⟨k', x'⟩ := y
    rw [subT]
    rfl
def HXc (nm : Nm) (k0 d r : Nat) (Xs : Nat → Nat → List Tk → RT (List Tk)) (X : Int → Nat → Nat → Int → Int → MH → RS Nat) : Prop :=
  ∀ (h1 : MH) (rp md p : Nat) (arg : List Tk), Cm nm k0 h1 rp md → mGr h1 96 d = some r → p + arg.length ≤ 100 → TSg h1 (402 + md) (r + 1) p (um arg) → (∀ t ∈ arg, okT t) →
    ((Xs rp md arg).1 = 0 → ∃ h' x, X ((d : Int) + 1) (r + 1) 100 (p : Int) (arg.length : Int) h1 = some (.inl x, h') ∧ XF (d + 1) md h1 h' ∧ md ≤ (Xs rp md arg).2.2.1 ∧ Cm nm k0 h' (Xs rp md arg).2.1 (Xs rp md arg).2.2.1 ∧ RoO h' x ∧ 150 ≤ x ∧ (x + 5 ≤ r ∨ r + 5 ≤ x) ∧ RowD h' (402 + (Xs rp md arg).2.2.1) x (Xs rp md arg).2.2.2 ∧ ∀ t ∈ (Xs rp md arg).2.2.2, okT t) ∧
    ((Xs rp md arg).1 ≠ 0 → ∃ h0, X ((d : Int) + 1) (r + 1) 100 (p : Int) (arg.length : Int) h1 = some (.inr 13, mNew (mPi h0 87 2 ((Xs rp md arg).1 : Int)) 13 6) ∧ XF (d + 1) md h1 h0 ∧ mGi h0 95 3 = ((Xs rp md arg).2.1 : Int) ∧ (Xs rp md arg).2.1 ≤ 400)
/-- a row in the midst of a replacement -/
def SI (nm : Nm) (k0 d r : Nat) (W dn : List Tk) (c0 : Nat) (ar : List (List Tk)) (h : MH) (rp md : Nat) (cm : List (Tk × Bool)) : Prop :=
  Cm nm k0 h rp md ∧ mGr h 96 d = some r ∧ RowW h (402 + md) r W ∧ RowD h (402 + md) r dn ∧ CuP h (402 + md) r 0 c0 ar ∧ (ar ≠ [] → mGi h (r + 4) 0 = (c0 : Int)) ∧ RowK h (402 + md) r cm
variable {W dn : List Tk} {c0 : Nat} {ar : List (List Tk)} {rp md rp' md' : Nat} {cm cm' : List (Tk × Bool)}
/-- steps on the row's own coming tokens and on the pool -/
theorem SI.fw {P Q : Nat → Nat → Prop} (z : SI nm k0 d r W dn c0 ar h rp md cm) (hd : d < 8) (f : FW P Q h h') (hP : ∀ b i, P b i → (b = r ∧ i = 5) ∨ pQ md b i) (hQ : ∀ b i, Q b i → b = r + 3) (hm : md ≤ md') (p : PlC h' md') (k : RowK h' (402 + md') r cm') : SI nm k0 d r W dn c0 ar h' rp md' cm' ∧ XF d md h h' := by
  obtain ⟨z1, z2, z3, z4, z5, z6, z7⟩ := z
  obtain ⟨⟨-, hr150⟩⟩ : RoO h r ∧ 150 ≤ r := (z1.2.2.2.1.1 d hd r z2)
  have hp := p.2
  have xf : XF d md h h' := XF.fw f z2 hd (fun b i q => by have := hP b i q; unfold pQ at this; unfold pZ; omega) (fun b i q => by have := hQ b i q; omega)
  have gi : ∀ b i, ¬ ((b = r ∧ i = 5) ∨ pQ md b i) → mGi h' b i = mGi h b i := fun b i hb => f.2.2.1 b i (fun q => hb (hP b i q))
  have gl : ∀ b i, b ≠ r + 3 → mGl h' b i = mGl h b i := fun b i hb => f.2.2.2 b i (fun q => hb (hQ b i q))
  have e88 : ∀ j, j < 402 + md → mGi h' 88 j = mGi h 88 j := fun j hj => gi 88 j (by unfold pQ; omega)
  have gr : mGr h' 96 d = some r := xf.2.1.2.1 d r z2
  refine ⟨⟨z1.xf xf hm p ((gi 95 3 (by unfold pQ; omega)).trans z1.2.2.1) z1.2.2.2.2.2.2.2, gr, z3.cg e88 (by omega) (by omega) (gi r 1 (by unfold pQ; omega)) (fun j => gl (r + 1) j (by omega)), z4.cg e88 (by omega) (by omega) (gi r 3 (by unfold pQ; omega)) (fun j => gl (r + 2) j (by omega)), CuP.cg e88 (by omega) (by omega) (fun j => gl (r + 1) j (by omega)) (fun i _ _ _ => gi (r + 4) i (by unfold pQ; omega)) z5, fun q => (gi (r + 4) 0 (by unfold pQ; omega)).trans (z6 q), k⟩, xf⟩
/-- an inner expansion -/
theorem SI.in (z : SI nm k0 d r W dn c0 ar h rp md cm) (hd : d < 8) (xf : XF (d + 1) md h h') (hm : md ≤ md') (c : Cm nm k0 h' rp' md') : SI nm k0 d r W dn c0 ar h' rp' md' cm := by
  obtain ⟨z1, z2, z3, z4, z5, z6, z7⟩ := z
  have ok := z1.2.2.2.1
  have hl := z1.2.2.2.2.2.1
  have hp := c.2.1.2
  have e88 : ∀ j, j < 402 + md → mGi h' 88 j = mGi h 88 j := fun j hj => xf.c88 ok hl hj
  have own : ∀ b, r ≤ b → b < r + 5 → (∀ i, mGi h' b i = mGi h b i) ∧ (∀ i, mGl h' b i = mGl h b i) := fun b h1 h2 => xf.own ok (by omega) hd z2 h1 h2
  exact ⟨c, xf.2.1.2.1 d r z2, z3.cg e88 (by omega) (by omega) ((own r (by omega) (by omega)).1 1) (own (r + 1) (by omega) (by omega)).2, z4.cg e88 (by omega) (by omega) ((own r (by omega) (by omega)).1 3) (own (r + 2) (by omega) (by omega)).2, CuP.cg e88 (by omega) (by omega) (own (r + 1) (by omega) (by omega)).2 (fun i _ _ _ => (own (r + 4) (by omega) (by omega)).1 i) z5, fun q => ((own (r + 4) (by omega) (by omega)).1 0).trans (z6 q), z7.cg e88 (by omega) (by omega) ((own r (by omega) (by omega)).1 5) (own (r + 3) (by omega) (by omega)).2⟩
theorem SI.bring {v : Int64} {t : Tk} {m : Bool} (z : SI nm k0 d r W dn c0 ar h rp md cm) (hd : d < 8) (y : TC h (402 + md) v t m) (hc : cm.length < 1200) : ∃ h', F_Ro_bring r v h = some (.inl (), h') ∧ XF d md h h' ∧ SI nm k0 d r W dn c0 ar h' rp md (cm ++ [(t, m)]) := by
  have hr150 := (z.1.2.2.2.1.1 d hd r z.2.1).2
  obtain ⟨h1, e1, f1, y1⟩ := ro_bring (by omega) z.2.2.2.2.2.2 y hc
  have hpl : PlC h1 md := ⟨(f1.2.2.1 87 1 (by unfold pK; omega)).trans z.1.2.1.1, z.1.2.1.2⟩
  obtain ⟨a, b⟩ := z.fw hd f1 (fun b i q => .inl q) (fun b i q => q) (Nat.le_refl _) hpl y1
  exact ⟨h1, e1, b, a⟩
theorem SI.all {a p : Nat} {l : List Tk} (z : SI nm k0 d r W dn c0 ar h rp md cm) (hd : d < 8) (ha : a ≠ r + 3) (hp : p + l.length ≤ 100) (s : TSg h (402 + md) a p (um l)) (hc : cm.length + l.length ≤ 1200) : ∃ h', F_Ro_bringAll r a 100 (p : Int) ((p + l.length : Nat) : Int) h = some (.inl (), h') ∧ XF d md h h' ∧ SI nm k0 d r W dn c0 ar h' rp md (cm ++ um l) := by
  have hr150 := (z.1.2.2.2.1.1 d hd r z.2.1).2
  have hm := z.1.2.1.2
  obtain ⟨h1, e1, f1, y1⟩ := ro_all (an := 100) (by omega) ha (by omega) hp (by decide) s z.2.2.2.2.2.2 hc
  have hpl : PlC h1 md := ⟨(f1.2.2.1 87 1 (by unfold pK; omega)).trans z.1.2.1.1, z.1.2.1.2⟩
  obtain ⟨a, b⟩ := z.fw hd f1 (fun b i q => .inl q) (fun b i q => q) (Nat.le_refl _) hpl y1
  exact ⟨h1, e1, b, a⟩
/-- an argument comes -/
theorem ex_arg {j : Nat} {pl : Bool} (HX : HXc nm k0 d r Xs X) (z : SI nm k0 d r W dn c0 ar h rp md cm) (hd : d < 8) (hj : j < ar.length) (hj3 : j < 3) (hW : W.length ≤ 100) (hb : ∀ a ∈ ar, a.length ≤ 100 ∧ ∀ t ∈ a, okT t) (hpos : ∀ p : Nat, mGi h (r + 4) j = (p : Int) → p + 1 + (ar.getD j []).length ≤ 100) (hc : cm.length + 100 ≤ 1200) :
    (pl = true → ∃ h', F_Ex_bringArgument X (d : Int) r (j : Int) (bI pl) h = some (.inl (), h') ∧ XF d md h h' ∧ SI nm k0 d r W dn c0 ar h' rp md (cm ++ (if ar.getD j [] = [] then [(nTk, false)] else um (ar.getD j [])))) ∧
    (pl = false → (Xs rp md (ar.getD j [])).1 = 0 → ∃ h', F_Ex_bringArgument X (d : Int) r (j : Int) (bI pl) h = some (.inl (), h') ∧ XF d md h h' ∧ md ≤ (Xs rp md (ar.getD j [])).2.2.1 ∧ SI nm k0 d r W dn c0 ar h' (Xs rp md (ar.getD j [])).2.1 (Xs rp md (ar.getD j [])).2.2.1 (cm ++ um (Xs rp md (ar.getD j [])).2.2.2) ∧ (∀ t ∈ (Xs rp md (ar.getD j [])).2.2.2, okT t) ∧ (Xs rp md (ar.getD j [])).2.2.2.length ≤ 100) ∧
    (pl = false → (Xs rp md (ar.getD j [])).1 ≠ 0 → ∃ h0, F_Ex_bringArgument X (d : Int) r (j : Int) (bI pl) h = some (.inr 13, mNew (mPi h0 87 2 ((Xs rp md (ar.getD j [])).1 : Int)) 13 6) ∧ XF d md h h0 ∧ mGi h0 95 3 = ((Xs rp md (ar.getD j [])).2.1 : Int) ∧ (Xs rp md (ar.getD j [])).2.1 ≤ 400) := by
  obtain ⟨z1, z2, z3, z4, z5, z6, z7⟩ := id z
  obtain ⟨p, q1, q2, q3⟩ := z5.get (fun _ => z6 (ne_lt hj)) (i := j) hj (by omega)
  rw [Nat.zero_add] at q1 q2
  have hp := hpos p q1
  have hm := z1.2.1.2
  have hmem : ar.getD j [] ∈ ar := by
    rw [List.getD_eq_getElem?_getD, List.getElem?_eq_getElem hj]
    exact List.getElem_mem _
  have hba := hb _ hmem
  unfold F_Ex_bringArgument
  rw [gd_b (by omega) (by omega), Int.toNat_natCast, q1, gd_rg (by omega) (by omega), gd_rg (by omega) (by omega), gd_b (by omega) (by omega), show ((j : Int) + 1).toNat = j + 1 by omega, q2]
  refine ⟨fun e => ?_, fun e x0 => ?_, fun e x0 => ?_⟩
  · rw [e, if_neg (show ¬ bI true = 0 by decide)]
    by_cases c : ar.getD j [] = []
    · obtain ⟨h1, e1, x1, y1⟩ := z.bring hd (TC.none' (h := h) (M := 402 + md) (by omega)) (by omega)
      rw [if_pos (by rw [c]; simp), if_pos c, e1, bnd_l]
      exact ⟨h1, rfl, x1, y1⟩
    · have hl : (ar.getD j []).length ≠ 0 := fun q => c (List.eq_nil_of_length_eq_zero q)
      obtain ⟨h1, e1, x1, y1⟩ := z.all hd (a := r + 1) (by omega) hp q3 (by omega)
      rw [if_neg (by omega), if_neg c, show (p : Int) + 1 = ((p + 1 : Nat) : Int) by omega, e1, bnd_l]
      exact ⟨h1, rfl, x1, y1⟩
  · obtain ⟨h1, x, e1, x1, hmm, c1, o1, o2, o3, d1, ok1⟩ := (HX h rp md (p + 1) (ar.getD j []) z1 z2 hp q3 hba.2).1 x0
    rw [e, if_pos (show bI false = 0 from rfl), gd_rg (by omega) (by omega), gd_rg (by omega) (by omega), show (p : Int) + 1 = ((p + 1 : Nat) : Int) by omega, show ((p + 1 + (ar.getD j []).length : Nat) : Int) - ((p + 1 : Nat) : Int) = ((ar.getD j []).length : Int) by omega, e1, bnd_l, gd_t o1, d1.1]
    have zi := z.in hd x1 hmm c1
    obtain ⟨h2, e2, x2, y2⟩ := zi.all hd (a := x + 2) (p := 0) (l := (Xs rp md (ar.getD j [])).2.2.2) (by omega) (by have := d1.2.1; omega) d1.2.2 (by have := d1.2.1; omega)
    rw [Nat.zero_add] at e2
    rw [show (0 : Int) = ((0 : Nat) : Int) from rfl, e2, bnd_l]
    exact ⟨h2, rfl, x1.up.tr x2 hmm, hmm, y2, ok1, d1.2.1⟩
  · obtain ⟨h0, e1, x1, a1, a2⟩ := (HX h rp md (p + 1) (ar.getD j []) z1 z2 hp q3 hba.2).2 x0
    rw [e, if_pos (show bI false = 0 from rfl), gd_rg (by omega) (by omega), gd_rg (by omega) (by omega), show (p : Int) + 1 = ((p + 1 : Nat) : Int) by omega, show ((p + 1 + (ar.getD j []).length : Nat) : Int) - ((p + 1 : Nat) : Int) = ((ar.getD j []).length : Int) by omega, e1, bnd_r]
    exact ⟨h0, rfl, x1.up, a1, a2⟩
end Sub
