/-! the class expands a row -/
section Expd
variable {nm : Nm} {k0 d r : Nat} {h h' : MH} {Xs : Nat → Nat → List Tk → RT (List Tk)} {X : Int → Nat → Nat → Int → Int → MH → RS Nat} {w dn R : List Tk} {ar : List (List Tk)} {rp md : Nat} {t : Tk}
theorem subT_rp {ps : List (List Int)} (hX : ∀ rp md a, rp ≤ (Xs rp md a).2.1) (hps : [] ∉ ps) : ∀ (N : Nat) (B : List (Nat × List Int)) (pj : Bool) (rp md : Nat) (acc : List (Tk × Bool)), B.length ≤ N → rp ≤ (subT Xs ps ar pj rp md acc B).2.1 := by
  intro N
  induction N with
  | zero =>
    intro B pj rp md acc hN
    have : B = [] := List.eq_nil_of_length_eq_zero (by omega)
    subst this
    rw [subT]
    exact Nat.le_refl _
  | succ N ih =>
    intro B pj rp md acc hN
    cases B with
    | nil => rw [subT]; exact Nat.le_refl _
    | cons y R =>
      obtain ⟨k, x⟩ := y
      rw [List.length_cons] at hN
      rw [subT_u hps]
      have ht : R.tail.length ≤ N := by rw [List.length_tail]; omega
      split
      · split
        · exact Nat.le_refl _
        · exact ih _ _ _ _ _ ht
      · split
        · exact ih _ _ _ _ _ (by omega)
        · split
          · exact ih _ _ _ _ _ (by omega)
          · split
            · exact Nat.le_trans (hX _ _ _) (ih _ _ _ _ _ (by omega))
            · exact hX _ _ _
theorem repS_rp {k : Nat} {q : NmD} {H : Hd} (hX : ∀ rp md a, rp ≤ (Xs rp md a).2.1) (hps : [] ∉ q.2.1.getD []) : rp ≤ (repS Xs k q H ar rp md R).2.1 ∧ ((repS Xs k q H ar rp md R).1 = 0 → rp < (repS Xs k q H ar rp md R).2.1) := by
  have A := subT_rp (Xs := Xs) (ar := ar) hX hps q.2.2.length q.2.2 false (rp + 1) md [] (Nat.le_refl _)
  unfold repS
  split
  · exact ⟨Nat.le_refl _, fun q => absurd q (by show ¬ (2 : Nat) = 0; decide)⟩
  · simp only [joinT_rp _ _ _ _ _ (Nat.le_refl _)]
    split
    · next c => exact ⟨Nat.le_of_succ_le A, fun q => absurd q c⟩
    · split
      · next c => exact ⟨Nat.le_of_succ_le A, fun q => absurd q c⟩
      · split
        · exact ⟨Nat.le_of_succ_le A, fun _ => A⟩
        · exact ⟨Nat.le_of_succ_le A, fun _ => A⟩
theorem callT_s {k : Nat} {q : NmD} {H : Hd} {r' : List Tk} (e : callT nm t w = some (some (k, q, H, ar, r'))) : k < 8 ∧ nm k = some q := by
  unfold callT at e
  cases e1 : (if t.1 = 1 then fnd nm t.2.1 else none) with
  | none => rw [e1] at e; cases e
  | some k' =>
    have ef : fnd nm t.2.1 = some k' := by
      by_cases c : t.1 = 1
      · rw [if_pos c] at e1; exact e1
      · rw [if_neg c] at e1; cases e1
    obtain ⟨hk, q', hq, -⟩ := fnd_s ef
    rw [e1] at e
    dsimp only at e
    rw [hq] at e
    dsimp only at e
    suffices hh : k' = k ∧ q' = q by
      rw [← hh.1, ← hh.2]
      exact ⟨hk, hq⟩
    by_cases c1 : t.2.2 k' = true
    · rw [if_pos c1] at e; cases e
    rw [if_neg c1] at e
    cases e3 : q'.2.1 with
    | none =>
      rw [e3] at e
      simp only [Option.some.injEq, Prod.mk.injEq] at e
      exact ⟨e.1, e.2.1⟩
    | some ps =>
      rw [e3] at e
      dsimp only at e
      cases w with
      | nil => cases e
      | cons c w =>
        dsimp only at e
        by_cases c2 : isSg c 40 = true
        · rw [if_pos c2] at e
          cases e4 : cutA 0 [] [] (c :: w) with
          | none => rw [e4] at e; cases e
          | some y =>
            obtain ⟨ar', cl, r''⟩ := y
            rw [e4] at e
            dsimp only at e
            by_cases c3 : arOk ps ar' = true
            · rw [if_pos c3] at e
              simp only [Option.some.injEq, Prod.mk.injEq] at e
              exact ⟨e.1, e.2.1⟩
            · rw [if_neg c3] at e; cases e
        · rw [if_neg c2] at e; cases e
theorem stpT_rp (N : nmOK nm) (hX : ∀ rp md a, rp ≤ (Xs rp md a).2.1) : rp ≤ (stpT nm Xs rp md t w dn).2.1 ∧ ((stpT nm Xs rp md t w dn).1 = 0 → ((stpT nm Xs rp md t w dn).2.1 = rp ∧ (stpT nm Xs rp md t w dn).2.2.2.2.length = dn.length + 1 ∧ dn.length < 100) ∨ (rp < (stpT nm Xs rp md t w dn).2.1 ∧ (stpT nm Xs rp md t w dn).2.2.2.2 = dn)) := by
  unfold stpT
  cases e : callT nm t w with
  | none =>
    dsimp only
    by_cases c : 100 ≤ dn.length
    · rw [if_pos c]
      exact ⟨Nat.le_refl _, fun q => absurd q (by show ¬ (1 : Nat) = 0; decide)⟩
    · rw [if_neg c]
      exact ⟨Nat.le_refl _, fun _ => .inl ⟨rfl, by show (dn ++ [t]).length = _; rw [List.length_append]; rfl, by omega⟩⟩
  | some y =>
    cases y with
    | none => exact ⟨Nat.le_refl _, fun q => absurd q (by show ¬ (8 : Nat) = 0; decide)⟩
    | some y =>
      obtain ⟨k, q, H, ar, r'⟩ := y
      obtain ⟨hk, hq⟩ := callT_s e
      have A := repS_rp (k := k) (H := H) (R := r') (ar := ar) (rp := rp) (md := md) hX (N k hk q hq).1.ne
      exact ⟨A.1, fun q => .inr ⟨A.2 q, rfl⟩⟩
theorem expT_rp (N : nmOK nm) : ∀ (f d rp md : Nat) (w dn : List Tk), rp ≤ (expT nm f d rp md w dn).2.1 := by
  intro f
  induction f with
  | zero => intro d rp md w dn; exact Nat.le_refl _
  | succ f ih =>
    intro d rp md w dn
    cases w with
    | nil => exact Nat.le_refl _
    | cons t w =>
      rw [expT_s]
      have hX : ∀ rp md a, rp ≤ (inX nm f d rp md a).2.1 := fun rp md a => by
        unfold inX
        split
        · exact Nat.le_refl _
        · exact ih _ _ _ _ _
      have A := (stpT_rp (rp := rp) (md := md) (t := t) (w := w) (dn := dn) N hX).1
      split
      · exact Nat.le_trans A (ih _ _ _ _ _)
      · exact A
theorem inX_rp (N : nmOK nm) {f : Nat} : ∀ rp md a, rp ≤ (inX nm f d rp md a).2.1 := fun rp md a => by
  unfold inX
  split
  · exact Nat.le_refl _
  · exact expT_rp N _ _ _ _ _ _
noncomputable def exL (X : Int → Nat → Nat → Int → Int → MH → RS Nat) (f : Nat) (v1 : Int) (v5 : Nat) (v6 : Int) (h : MH) : RS Nat := itr (fun self (q : Int × Nat × Int × MH) => F_Ex_expand_67_b X (fun v1 v5 v6 h => self (v1, v5, v6, h)) q.1 q.2.1 q.2.2.1 q.2.2.2) f (v1, v5, v6, h)
theorem exL_s {f : Nat} {v1 : Int} {v5 : Nat} {v6 : Int} : exL X (f + 1) v1 v5 v6 h = F_Ex_expand_67_b X (exL X f) v1 v5 v6 h := rfl
/-- what expanding a row comes to -/
def ExR (nm : Nm) (k0 d r md : Nat) (h : MH) (x : RS Nat) (E : RT (List Tk)) : Prop :=
  (E.1 = 0 → ∃ h', x = some (.inl r, h') ∧ XF d md h h' ∧ md ≤ E.2.2.1 ∧ Cm nm k0 h' E.2.1 E.2.2.1 ∧ RowD h' (402 + E.2.2.1) r E.2.2.2 ∧ ∀ y ∈ E.2.2.2, okT y) ∧
  (E.1 ≠ 0 → ∃ h0, x = some (.inr 13, mNew (mPi h0 87 2 (E.1 : Int)) 13 6) ∧ XF d md h h0 ∧ mGi h0 95 3 = (E.2.1 : Int) ∧ E.2.1 ≤ 400)
def LoP (nm : Nm) (k0 f : Nat) : Prop := ∀ (d r rp md : Nat) (w dn : List Tk) (v6 fu : Nat) (h : MH), d < 8 → 502 * (8 - d) + (100 - dn.length) + (400 - rp) + 1 ≤ f → Cm nm k0 h rp md → mGr h 96 d = some r → RowW h (402 + md) r w → RowD h (402 + md) r dn → (∀ y ∈ w, okT y) → (∀ y ∈ dn, okT y) → v6 ≤ dn.length + rp → 600 ≤ v6 + fu →
  ExR nm k0 d r md h (exL (F_Ex_expandN (8 - d)) fu (d : Int) r (v6 : Int) h) (expT nm f d rp md w dn)
theorem bR_s {ρ : Type} {K : Nat → RS ρ} {r : Nat} : bR (some r) K = K r := rfl
/-- a row's beginning -/
theorem ex_begin {f a an p : Nat} (L : LoP nm k0 f) (hd : d < 8) (hf : 502 * (8 - d) + 100 + (400 - rp) + 1 ≤ f) (zr : mGr h 96 d = some r) (z : Cm nm k0 h rp md) (hp : p + w.length ≤ an) (s : TSg h (402 + md) a p (um w)) (okw : ∀ y ∈ w, okT y) : ExR nm k0 d r md h (F_Ex_expand_36 (F_Ex_expandN (8 - d)) (d : Int) a an (p : Int) (w.length : Int) h) (if 100 < w.length then (1, rp, md, []) else expT nm f d rp md w []) := by
  obtain ⟨hr, hr150⟩ : RoO h r ∧ 150 ≤ r := z.2.2.2.1.1 d hd r zr
  unfold F_Ex_expand_36
  rw [gd_b (by omega) (by omega), Int.toNat_natCast, zr, bR_s, gd_t hr]
  by_cases c : 100 < w.length
  · rw [if_pos c, ro_begin0 c, bnd_l, if_pos rfl]
    exact ⟨fun q => absurd q (by show ¬ (1 : Nat) = 0; decide), fun _ => ⟨h, to_fail (why := 1) z.rm.1 _, XF.rf, z.2.2.1, z.2.2.2.2.2.2.2⟩⟩
  · rw [if_neg c]
    obtain ⟨h1, e1, f1, y1, y2⟩ := ro_begin (r := r) (by omega) (by omega) hp s
    rw [e1, bnd_l, if_neg (by decide)]
    have x1 : XF d md h h1 := XF.fw f1 zr hd (fun b i q => by omega) (fun b i q => by omega)
    have C1 := z.xf x1 (Nat.le_refl _) ⟨(f1.2.2.1 87 1 (fun q => by omega)).trans z.2.1.1, z.2.1.2⟩ ((f1.2.2.1 95 3 (fun q => by omega)).trans z.2.2.1) z.2.2.2.2.2.2.2
    obtain ⟨i1, i2⟩ := L d r rp md w [] 0 FU h1 hd (by rw [List.length_nil]; omega) C1 (x1.2.1.2.1 d r zr) y1 y2 okw (fun y hy => absurd hy List.not_mem_nil) (by omega) (by unfold FU; omega)
    have hd2 : F_Ex_expand_64 (F_Ex_expandN (8 - d)) (d : Int) r h1 = exL (F_Ex_expandN (8 - d)) FU (d : Int) r ((0 : Nat) : Int) h1 := rfl
    rw [hd2]
    refine ⟨fun q => ?_, fun q => ?_⟩
    · obtain ⟨h2, a1, a2, a3⟩ := i1 q
      exact ⟨h2, a1, x1.tr a2 (Nat.le_refl _), a3⟩
    · obtain ⟨h2, a1, a2, a3⟩ := i2 q
      exact ⟨h2, a1, x1.tr a2 (Nat.le_refl _), a3⟩
theorem ex_call {f a an p : Nat} (L : LoP nm k0 f) (hd : d < 8) (hf : 502 * (8 - d) + 100 + (400 - rp) + 1 ≤ f) (z : Cm nm k0 h rp md) (hp : p + w.length ≤ an) (s : TSg h (402 + md) a p (um w)) (ha : ∀ h', XF d md h h' → ∀ i, mGl h' a i = mGl h a i) (okw : ∀ y ∈ w, okT y) : ∃ r, ((if 100 < w.length then (1, rp, md, []) else expT nm f d rp md w [] : RT (List Tk)).1 = 0 → ∀ h' x, F_Ex_expandN (9 - d) (d : Int) a an (p : Int) (w.length : Int) h = some (.inl x, h') → mGr h' 96 d = some r) ∧ ExR nm k0 d r md h (F_Ex_expandN (9 - d) (d : Int) a an (p : Int) (w.length : Int) h) (if 100 < w.length then (1, rp, md, []) else expT nm f d rp md w []) := by
  have hN : F_Ex_expandN (9 - d) = F_Ex_expandB (F_Ex_expandN (8 - d)) := by rw [show 9 - d = (8 - d) + 1 by omega]; rfl
  have e9 : F_Ex_expandN (9 - d) (d : Int) a an (p : Int) (w.length : Int) h = if mGr h 96 d = none then gd (rmR h) (F_Ex_expand_36 (F_Ex_expandN (8 - d)) (d : Int) a an (p : Int) (w.length : Int) (mRow h d)) else F_Ex_expand_36 (F_Ex_expandN (8 - d)) (d : Int) a an (p : Int) (w.length : Int) h := by
    rw [hN]
    unfold F_Ex_expandB F_Ex_expand_14
    rw [if_pos (by omega), gd_b (by omega) (by omega), Int.toNat_natCast]
    rfl
  have gen : ∀ (h1 : MH) (r : Nat), XF d md h h1 → mGr h1 96 d = some r → Cm nm k0 h1 rp md → TSg h1 (402 + md) a p (um w) → ((if 100 < w.length then (1, rp, md, []) else expT nm f d rp md w [] : RT (List Tk)).1 = 0 → ∀ h' x, F_Ex_expand_36 (F_Ex_expandN (8 - d)) (d : Int) a an (p : Int) (w.length : Int) h1 = some (.inl x, h') → mGr h' 96 d = some r) ∧ ExR nm k0 d r md h (F_Ex_expand_36 (F_Ex_expandN (8 - d)) (d : Int) a an (p : Int) (w.length : Int) h1) (if 100 < w.length then (1, rp, md, []) else expT nm f d rp md w []) := by
    intro h1 r x1 zr C1 s1
    obtain ⟨i1, i2⟩ := ex_begin (a := a) (an := an) L hd hf zr C1 hp s1 okw
    refine ⟨fun q h' x e => ?_, fun q => ?_, fun q => ?_⟩
    · obtain ⟨h2, a1, a2, a3⟩ := i1 q
      rw [a1] at e
      cases e
      exact a2.2.1.2.1 d r zr
    · obtain ⟨h2, a1, a2, a3⟩ := i1 q
      exact ⟨h2, a1, x1.tr a2 (Nat.le_refl _), a3⟩
    · obtain ⟨h2, a1, a2, a3⟩ := i2 q
      exact ⟨h2, a1, x1.tr a2 (Nat.le_refl _), a3⟩
  cases e : mGr h 96 d with
  | none =>
    rw [e, if_pos rfl, gd_t z.rm.2] at e9
    rw [e9]
    have x1 : XF d md h (mRow h d) := XF.row hd z.2.2.2.2.2.1 z.2.2.2.1 e
    have o2 := (RoO.row (h := h) (j := d) (by have := z.2.2.2.2.2.1; omega)).2
    have hl := z.2.2.2.2.2.1
    have C1 : Cm nm k0 (mRow h d) rp md := z.xf x1 (Nat.le_refl _) ⟨by
      have gi := gi_row (h := h) (d := d) (b := 87) (i := 1) (by omega)
      rw [gi]; exact z.2.1.1, z.2.1.2⟩ (by rw [gi_row (by omega)]; exact z.2.2.1) z.2.2.2.2.2.2.2
    exact ⟨h.1.length, gen _ _ x1 o2 C1 (TSg.cg (fun j hj => x1.c88 z.2.2.2.1 hl hj) (Nat.le_refl _) (by have := z.2.1.2; omega) (fun j _ _ => ha _ x1 j) s)⟩
  | some r =>
    rw [e, if_neg (fun q => by cases q)] at e9
    rw [e9]
    exact ⟨r, gen h r XF.rf e z s⟩
theorem hx_c {f : Nat} (L : LoP nm k0 f) (hd : d < 8) (z0 : 502 * (7 - d) + 501 ≤ f) : HXc nm k0 d r (inX nm f d) (F_Ex_expandN (8 - d)) := by
  intro h1 rp md p arg z zr hp s ok
  by_cases c : 7 ≤ d
  · have e : inX nm f d rp md arg = (1, rp, md, []) := by unfold inX; rw [if_pos (.inl c)]
    rw [e]
    refine ⟨fun q => absurd q (by show ¬ (1 : Nat) = 0; decide), fun _ => ⟨h1, ?_, XF.rf, z.2.2.1, z.2.2.2.2.2.2.2⟩⟩
    rw [show 8 - d = 1 by omega]
    show F_Ex_expandB (F_Ex_expandN 0) _ _ _ _ _ _ = _
    unfold F_Ex_expandB
    rw [if_neg (by omega)]
    exact to_fail (why := 1) z.rm.1 _
  · have e : inX nm f d rp md arg = if 100 < arg.length then (1, rp, md, []) else expT nm f (d + 1) rp md arg [] := by
      unfold inX
      by_cases c2 : 100 < arg.length
      · rw [if_pos (.inr c2), if_pos c2]
      · rw [if_neg (by omega), if_neg c2]
    have ok2 := z.2.2.2.1
    obtain ⟨x, hx, i1, i2⟩ := ex_call (d := d + 1) (rp := rp) (md := md) (an := 100) (a := r + 1) L (by omega) (by omega) z hp s (fun h' xf i => (xf.own ok2 (by omega) hd zr (by omega) (by omega)).2 i) ok
    rw [show 9 - (d + 1) = 8 - d by omega, show ((d + 1 : Nat) : Int) = (d : Int) + 1 by omega] at hx i1 i2
    rw [e]
    refine ⟨fun q => ?_, fun q => ?_⟩
    · obtain ⟨h2, a1, a2, a3, a4, a5, a6⟩ := i1 q
      have hx2 := hx q h2 x a1
      obtain ⟨o1, o2⟩ := a4.2.2.2.1.1 (d + 1) (by omega) x hx2
      have o3 := a4.2.2.2.1.2 (d + 1) d (by omega) hd (by omega) x r hx2 (a2.2.1.2.1 d r zr)
      exact ⟨h2, x, a1, a2, a3, a4, o1, o2, o3, a5, a6⟩
    · obtain ⟨h2, a1, a2, a3⟩ := i2 q
      exact ⟨h2, a1, a2, a3⟩
theorem lo_p (N : nmOK nm) : ∀ f, LoP nm k0 f := by
  intro f
  induction f with
  | zero => intro d r rp md w dn v6 fu h hd hf; omega
  | succ f ih =>
    intro d r rp md w dn v6 fu h hd hf z zr zw zd okw okd hv hfu
    have hrp := z.2.2.2.2.2.2.2
    have hdn := zd.2.1
    obtain ⟨fu, rfl⟩ : ∃ g, fu = g + 1 := ⟨fu - 1, by omega⟩
    rw [exL_s, F_Ex_expand_67_b, if_neg (by omega), zw.1]
    cases w with
    | nil =>
      rw [if_pos (by simp)]
      exact ⟨fun _ => ⟨h, rfl, XF.rf, Nat.le_refl _, z, zd, okd⟩, fun q => absurd rfl q⟩
    | cons t w =>
      have hw := zw.2.1
      rw [List.length_cons] at hw
      rw [if_neg (by rw [List.length_cons]; omega), expT_s]
      have HX := hx_c (r := r) ih hd (by omega)
      obtain ⟨t1, t2⟩ := ex_take HX N hd z zr zw zd okw okd
      have M := (stpT_rp (rp := rp) (md := md) (t := t) (w := w) (dn := dn) N (inX_rp (d := d) (f := f) N)).2
      generalize stpT nm (inX nm f d) rp md t w dn = S at *
      by_cases c : S.1 = 0
      · obtain ⟨h1, a1, a2, a3, a4, a5, a6, a7, a8⟩ := t1 c
        have M' := M c
        have hrp' := a4.2.2.2.2.2.2.2
        have hdn' := a6.2.1
        rw [if_pos c, a1, bnd_l, gd_rg (by omega) (by omega), show (v6 : Int) + 1 = ((v6 + 1 : Nat) : Int) by omega]
        have hl : v6 + 1 ≤ S.2.2.2.2.length + S.2.1 ∧ 502 * (8 - d) + (100 - S.2.2.2.2.length) + (400 - S.2.1) + 1 ≤ f := by
          rcases M' with ⟨q1, q2, q3⟩ | ⟨q1, q2⟩
          · omega
          · rw [q2]; omega
        obtain ⟨i1, i2⟩ := ih d r S.2.1 S.2.2.1 S.2.2.2.1 S.2.2.2.2 (v6 + 1) fu h1 hd hl.2 a4 (a2.2.1.2.1 d r zr) a5 a6 a7 a8 hl.1 (by omega)
        refine ⟨fun q => ?_, fun q => ?_⟩
        · obtain ⟨h2, b1, b2, b3, b4⟩ := i1 q
          exact ⟨h2, b1, a2.tr b2 a3, by omega, b4⟩
        · obtain ⟨h2, b1, b2, b3⟩ := i2 q
          exact ⟨h2, b1, a2.tr b2 a3, b3⟩
      · obtain ⟨h1, a1, a2, a3⟩ := t2 c
        rw [if_neg c, a1, bnd_r]
        exact ⟨fun q => absurd q c, fun _ => ⟨h1, rfl, a2, a3⟩⟩
/-- a whole row, from the line -/
theorem ex_row (N : nmOK nm) (z : Cm nm k0 h rp md) (hw : w.length ≤ 400) (s : TSg h (402 + md) 103 0 (um w)) (okw : ∀ y ∈ w, okT y) : ∃ r, ((rowT nm rp md w).1 = 0 → ∀ h' x, F_Ex_expand 0 103 400 0 (w.length : Int) h = some (.inl x, h') → mGr h' 96 0 = some r) ∧ ExR nm k0 0 r md h (F_Ex_expand 0 103 400 0 (w.length : Int) h) (rowT nm rp md w) := by
  have ok := z.2.2.2.1
  have hl := z.2.2.2.2.2.1
  exact ex_call (d := 0) (a := 103) (an := 400) (p := 0) (lo_p N xF) (by decide) (by unfold xF; omega) z (by omega) s (fun h' xf i => xf.l ok hl (by decide) i) okw
end Expd
