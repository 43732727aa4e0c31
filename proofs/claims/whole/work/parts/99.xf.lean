/-! what an expansion may change -/
section Xf
def rowAt (h : MH) (d b : Nat) : Prop := ∃ j r, d ≤ j ∧ j < 8 ∧ mGr h 96 j = some r ∧ r ≤ b ∧ b < r + 5
def pZ (md b i : Nat) : Prop := (b = 88 ∧ 402 + md ≤ i) ∨ (b = 87 ∧ (i = 1 ∨ i = 2)) ∨ (b = 95 ∧ i = 3)
def XF (d md : Nat) (h h' : MH) : Prop :=
  ((∀ (a : Nat) (x : Nat × Nat), h.1[a]? = some x → h'.1[a]? = some x) ∧ h.1.length ≤ h'.1.length ∧ (∀ a i, a < h.1.length → a ≠ 96 → mGr h' a i = mGr h a i)) ∧
  ((∀ j, j < d → mGr h' 96 j = mGr h 96 j) ∧ (∀ j r, mGr h 96 j = some r → mGr h' 96 j = some r) ∧ (∀ j r, mGr h' 96 j = some r → mGr h 96 j = some r ∨ h.1.length ≤ r)) ∧
  (∀ b i, b < h.1.length → ¬ rowAt h d b → ¬ pZ md b i → mGi h' b i = mGi h b i) ∧ (∀ b i, b < h.1.length → ¬ rowAt h d b → mGl h' b i = mGl h b i) ∧
  (rowsOK h → rowsOK h') ∧ h'.1.length + 5 * nRows h ≤ h.1.length + 5 * nRows h' ∧ mSlt h' + 1412 * nRows h ≤ mSlt h + 1412 * nRows h' ∧ mSc h' = mSc h
variable {P Q : Nat → Nat → Prop} {h h' h'' : MH} {d md md' r : Nat}
theorem XF.rf : XF d md h h := ⟨⟨fun _ _ e => e, Nat.le_refl _, fun _ _ _ _ => rfl⟩, ⟨fun _ _ => rfl, fun _ _ e => e, fun _ _ e => .inl e⟩, fun _ _ _ _ _ => rfl, fun _ _ _ _ => rfl, id, Nat.le_refl _, Nat.le_refl _, rfl⟩
theorem XF.ra (z : XF d md h h') {b : Nat} (hb : b < h.1.length) (y : rowAt h' d b) : rowAt h d b := by
  obtain ⟨j, r, h1, h2, h3, h4, h5⟩ := y
  rcases z.2.1.2.2 j r h3 with q | q
  · exact ⟨j, r, h1, h2, q, h4, h5⟩
  · omega
theorem XF.tr (a : XF d md h h') (b : XF d md' h' h'') (hm : md ≤ md') : XF d md h h'' := by
  have aa := a
  obtain ⟨⟨a1, a2, a3⟩, ⟨a4, a5, a6⟩, a7, a8, a9, a10, a11, a12⟩ := a
  obtain ⟨⟨b1, b2, b3⟩, ⟨b4, b5, b6⟩, b7, b8, b9, b10, b11, b12⟩ := b
  refine ⟨⟨fun c x e => b1 c x (a1 c x e), by omega, fun c i h1 h2 => (b3 c i (by omega) h2).trans (a3 c i h1 h2)⟩, ⟨fun j hj => (b4 j hj).trans (a4 j hj), fun j r e => b5 j r (a5 j r e), fun j r e => ?_⟩, fun c i h1 h2 h3 => ?_, fun c i h1 h2 => ?_, fun q => b9 (a9 q), by omega, by omega, b12.trans a12⟩
  · rcases b6 j r e with q | q
    · exact a6 j r q
    · exact .inr (by omega)
  · exact (b7 c i (by omega) (fun q => h2 (aa.ra h1 q)) (fun q => h3 (by revert q; unfold pZ; omega))).trans (a7 c i h1 h2 h3)
  · exact (b8 c i (by omega) (fun q => h2 (aa.ra h1 q))).trans (a8 c i h1 h2)
theorem XF.up (z : XF (d + 1) md h h') : XF d md h h' := by
  obtain ⟨a1, ⟨a4, a5, a6⟩, a7, a8, a9⟩ := z
  refine ⟨a1, ⟨fun j hj => a4 j (by omega), a5, a6⟩, fun c i h1 h2 h3 => a7 c i h1 (fun ⟨j, r, q1, q2⟩ => h2 ⟨j, r, by omega, q2⟩) h3, fun c i h1 h2 => a8 c i h1 (fun ⟨j, r, q1, q2⟩ => h2 ⟨j, r, by omega, q2⟩), a9⟩
theorem XF.fw (f : FW P Q h h') (hr : mGr h 96 d = some r) (hd : d < 8) (hP : ∀ b i, P b i → (r ≤ b ∧ b < r + 5) ∨ pZ md b i) (hQ : ∀ b i, Q b i → r ≤ b ∧ b < r + 5) : XF d md h h' := by
  obtain ⟨f1, f2, f3, f4⟩ := f
  have gr : ∀ a i, mGr h' a i = mGr h a i := fun a i => by show h'.2.2.2.1 a i = h.2.2.2.1 a i; rw [f2]
  have hn : nRows h' = nRows h := nRows_c (fun i => gr 96 i)
  have hs : mSlt h' = mSlt h := by unfold mSlt; rw [f1]
  refine ⟨⟨fun a x e => by rw [f1]; exact e, by rw [f1]; exact Nat.le_refl _, fun a i _ _ => gr a i⟩, ⟨fun j _ => gr 96 j, fun j r e => (gr 96 j).trans e, fun j r e => .inl ((gr 96 j).symm.trans e)⟩, fun b i h1 h2 h3 => f3 b i (fun q => ?_), fun b i h1 h2 => f4 b i (fun q => h2 ⟨d, r, Nat.le_refl _, hd, hr, hQ b i q⟩), fun q => ?_, by rw [f1, hn]; exact Nat.le_refl _, by rw [hs, hn]; exact Nat.le_refl _, by show h'.2.2.2.2 = h.2.2.2.2; rw [f2]⟩
  · rcases hP b i q with q | q
    · exact h2 ⟨d, r, Nat.le_refl _, hd, hr, q⟩
    · exact h3 q
  · refine ⟨fun j hj r hr => ?_, fun j j' hj hj' hne r r' hr hr' => ?_⟩
    · rw [gr] at hr
      obtain ⟨⟨q1, q2, q3⟩, q4⟩ := q.1 j hj r hr
      refine ⟨⟨by rw [f1]; exact q1, ?_, by rw [f1]; exact q3⟩, q4⟩
      rw [gr, gr, gr, gr]
      exact q2
    · rw [gr] at hr hr'
      exact q.2 j j' hj hj' hne r r' hr hr'
theorem low (ok : rowsOK h) {b : Nat} (hb : b < 150) : ¬ rowAt h d b := fun ⟨j, r, _, h2, h3, h4, _⟩ => by
  have := (ok.1 j h2 r h3).2
  omega
theorem XF.i (z : XF d md h h') (ok : rowsOK h) (hl : 150 ≤ h.1.length) {b i : Nat} (hb : b < 150) (hp : ¬ pZ md b i) : mGi h' b i = mGi h b i := z.2.2.1 b i (by omega) (low ok hb) hp
theorem XF.l (z : XF d md h h') (ok : rowsOK h) (hl : 150 ≤ h.1.length) {b : Nat} (hb : b < 150) (i : Nat) : mGl h' b i = mGl h b i := z.2.2.2.1 b i (by omega) (low ok hb)
/-- a row less deep stays as it was -/
theorem XF.own {j : Nat} (z : XF d md h h') (ok : rowsOK h) (hj : j < d) (hd : j < 8) (hr : mGr h 96 j = some r) {b : Nat} (h1 : r ≤ b) (h2 : b < r + 5) : (∀ i, mGi h' b i = mGi h b i) ∧ (∀ i, mGl h' b i = mGl h b i) := by
  have hn : ¬ rowAt h d b := fun ⟨j', r', q1, q2, q3, q4, q5⟩ => by
    rcases ok.2 j j' hd q2 (by omega) r r' hr q3 with q | q <;> omega
  have hR := (ok.1 j hd r hr).1
  have hr150 := (ok.1 j hd r hr).2
  have hlen : r + 4 < h.1.length := (List.getElem?_eq_some_iff.mp hR.2.2.2.2.2).1
  refine ⟨fun i => z.2.2.1 b i (by omega) hn (by unfold pZ; omega), fun i => z.2.2.2.1 b i (by omega) hn⟩
/-! what stays true all along -/
def Cm (nm : Nm) (k0 : Nat) (h : MH) (rp md : Nat) : Prop := NmC h (402 + md) nm ∧ PlC h md ∧ mGi h 95 3 = (rp : Int) ∧ rowsOK h ∧ Room k0 h ∧ 150 ≤ h.1.length ∧ k0 ≤ 600 ∧ rp ≤ 400
variable {nm : Nm} {k0 rp rp' : Nat}
theorem Cm.rm (z : Cm nm k0 h rp md) : rmE h ∧ rmR h := by
  obtain ⟨-, -, -, -, ⟨z1, z2⟩, -, z3, -⟩ := z
  have := nRows_le h
  unfold rmE rmR mCM mSM
  exact ⟨⟨by omega, by omega⟩, by omega, by omega⟩
theorem XF.room (z : XF d md h h') (y : Room k0 h) : Room k0 h' := by
  obtain ⟨-, -, -, -, -, z1, z2, -⟩ := z
  unfold Room at y ⊢
  omega
theorem Cm.xf (z : Cm nm k0 h rp md) (f : XF d md h h') (hm : md ≤ md') (p : PlC h' md') (e : mGi h' 95 3 = (rp' : Int)) (h4 : rp' ≤ 400) : Cm nm k0 h' rp' md' := by
  obtain ⟨z1, z2, z3, z4, z5, z6, z7, z8⟩ := z
  have hp := p.2
  refine ⟨z1.cg (fun j hj => f.i z4 z6 (by decide) (by unfold pZ; omega)) (by omega) (by omega) (fun j => ⟨f.i z4 z6 (by decide) (by unfold pZ; omega), f.i z4 z6 (by decide) (by unfold pZ; omega)⟩) (fun b j hb => f.l z4 z6 (by omega) j), p, e, f.2.2.2.2.1 z4, f.room z5, by have := f.1.2.1; omega, z7, h4⟩
theorem XF.c88 (z : XF d md h h') (ok : rowsOK h) (hl : 150 ≤ h.1.length) {j : Nat} (hj : j < 402 + md) : mGi h' 88 j = mGi h 88 j := z.i ok hl (by decide) (by unfold pZ; omega)
/-! a new row -/
theorem nRows_new {j : Nat} (hj : j < 8) (hn : mGr h 96 j = none) (h1 : ∀ i, i ≠ j → mGr h' 96 i = mGr h 96 i) (h2 : ∃ r, mGr h' 96 j = some r) : nRows h' = nRows h + 1 := by
  obtain ⟨r, h2⟩ := h2
  unfold nRows
  have key : ∀ (l : List Nat), l.Nodup → ((l.filter fun i => (mGr h' 96 i).isSome).length = (l.filter fun i => (mGr h 96 i).isSome).length + if j ∈ l then 1 else 0) := by
    intro l
    induction l with
    | nil => intro _; rfl
    | cons a l ih =>
      intro nd
      rw [List.nodup_cons] at nd
      have i := ih nd.2
      by_cases c : a = j
      · subst c
        rw [List.filter_cons_of_pos (by rw [h2]; rfl), List.filter_cons_of_neg (by rw [hn]; decide), if_pos List.mem_cons_self, List.length_cons, i, if_neg nd.1]
      · have hm : (j ∈ a :: l) ↔ j ∈ l := by rw [List.mem_cons]; exact ⟨fun q => by rcases q with q | q; exact absurd q.symm c; exact q, fun q => .inr q⟩
        rw [List.filter_cons, List.filter_cons, h1 a c]
        by_cases d : (mGr h 96 a).isSome = true
        · rw [if_pos d, if_pos d, List.length_cons, List.length_cons, i]
          by_cases e : j ∈ l
          · rw [if_pos e, if_pos (hm.mpr e)]
          · rw [if_neg e, if_neg (fun q => e (hm.mp q))]
        · rw [if_neg d, if_neg d, i]
          by_cases e : j ∈ l
          · rw [if_pos e, if_pos (hm.mpr e)]
          · rw [if_neg e, if_neg (fun q => e (hm.mp q))]
  rw [key (List.range 8) List.nodup_range, if_pos (List.mem_range.mpr hj)]
theorem gi_row {b i : Nat} (hb : b < h.1.length) : mGi (mRow h d) b i = mGi h b i := by
  unfold mRow rowH
  simp only [gi_pr, gi_nwL]
  rw [if_neg (by omega), if_neg (by omega), if_neg (by omega), gi_pi, if_neg (by omega)]
  simp only [gi_pr, gi_nwL]
  rw [if_neg (by omega), if_neg (by omega)]
theorem XF.row (hd : d < 8) (hl : 150 ≤ h.1.length) (ok : rowsOK h) (hn : mGr h 96 d = none) : XF d md h (mRow h d) := by
  have e := Ext.row (h := h) (j := d) (by omega) hn
  obtain ⟨o1, o2⟩ := RoO.row (h := h) (j := d) (by omega)
  have hlen : (mRow h d).1.length = h.1.length + 5 := by
    have : (mRow h d).1 = ((((h.1 ++ [(9, 8)]) ++ [(103, 100)]) ++ [(103, 100)]) ++ [(103, 1200)]) ++ [(100, 4)] := rfl
    rw [this]
    simp only [List.length_append, List.length_singleton]
  have hs : mSlt (mRow h d) = mSlt h + 1412 := by
    have : (mRow h d).1 = ((((h.1 ++ [(9, 8)]) ++ [(103, 100)]) ++ [(103, 100)]) ++ [(103, 1200)]) ++ [(100, 4)] := rfl
    unfold mSlt
    rw [this]
    simp only [List.map_append, List.sum_append, List.map_cons, List.map_nil, List.sum_cons, List.sum_nil]
    omega
  have gi : ∀ b i, b < h.1.length → mGi (mRow h d) b i = mGi h b i := by
    intro b i hb
    unfold mRow rowH
    simp only [gi_pr, gi_nwL]
    rw [if_neg (by omega), if_neg (by omega), if_neg (by omega), gi_pi, if_neg (by omega)]
    simp only [gi_pr, gi_nwL]
    rw [if_neg (by omega), if_neg (by omega)]
  have gl : ∀ b i, b < h.1.length → mGl (mRow h d) b i = mGl h b i := by
    intro b i hb
    unfold mRow rowH
    simp only [gl_pr, gl_nwL, gl_pi]
    repeat rw [if_neg (by omega)]
  have gr : ∀ b i, b < h.1.length → ¬ (b = 96 ∧ i = d) → mGr (mRow h d) b i = mGr h b i := by
    intro b i hb hx
    have gp : ∀ (h : MH) (a i : Nat) (x : Int) (b j : Nat), mGr (mPi h a i x) b j = mGr h b j := fun _ _ _ _ _ _ => rfl
    unfold mRow rowH
    simp only [gr_pr, gr_nwL, gp]
    repeat rw [if_neg (by omega)]
  have hnr : nRows (mRow h d) = nRows h + 1 := nRows_new hd hn (fun i hi => gr 96 i (by omega) (fun q => hi q.2)) ⟨_, o2⟩
  refine ⟨⟨e.1, by omega, fun a i h1 h2 => gr a i h1 (fun q => h2 q.1)⟩, ⟨fun j hj => gr 96 j (by omega) (by omega), fun j r hr => ?_, fun j r hr => ?_⟩, fun b i h1 _ _ => gi b i h1, fun b i h1 _ => gl b i h1, fun _ => ⟨fun j hj r hr => ?_, fun j j' hj hj' hne r r' hr hr' => ?_⟩, by omega, by omega, e.2.2.1⟩
  · by_cases c : j = d
    · rw [c, hn] at hr; cases hr
    · rw [gr 96 j (by omega) (fun q => c q.2)]; exact hr
  · by_cases c : j = d
    · rw [c, o2] at hr
      cases hr
      exact .inr (Nat.le_refl _)
    · rw [gr 96 j (by omega) (fun q => c q.2)] at hr
      exact .inl hr
  · by_cases c : j = d
    · rw [c, o2] at hr
      cases hr
      exact ⟨o1, hl⟩
    · rw [gr 96 j (by omega) (fun q => c q.2)] at hr
      exact ⟨(ok.1 j hj r hr).1.ext e, (ok.1 j hj r hr).2⟩
  · have old : ∀ j r, j < 8 → j ≠ d → mGr (mRow h d) 96 j = some r → mGr h 96 j = some r ∧ r + 5 ≤ h.1.length := fun j r hj hc hr => by
      rw [gr 96 j (by omega) (fun q => hc q.2)] at hr
      have hR := (ok.1 j hj r hr).1
      have := (List.getElem?_eq_some_iff.mp hR.2.2.2.2.2).1
      exact ⟨hr, by omega⟩
    by_cases c : j = d
    · have hc' : j' ≠ d := fun q => hne (c.trans q.symm)
      rw [c, o2] at hr
      cases hr
      exact .inr (old j' r' hj' hc' hr').2
    · by_cases c' : j' = d
      · rw [c', o2] at hr'
        cases hr'
        exact .inl (old j r hj c hr).2
      · exact ok.2 j j' hj hj' hne r r' (old j r hj c hr).1 (old j' r' hj' c' hr').1
end Xf
